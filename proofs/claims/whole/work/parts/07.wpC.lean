set_option maxHeartbeats 4000000 in
set_option maxRecDepth 100000 in
theorem ct_X6_in {Γ : GT} {Q : Int32 → St → Prop} (σ : St) (x0 : Int32) (x1 : Int32) (x2 : Int32)
    (h : ((x0 < x1) → (Q (0 : Int32) σ)) ∧ ((¬ x0 < x1) → (((x2 < x0) → (Q (0 : Int32) σ)) ∧ ((¬ x2 < x0) → (Q (1 : Int32) σ))))) :
    CtI Γ mX6_in 0 [.int x0, .int x1, .int x2] σ Q := by
  refine ct_of (by decide +kernel) (Nat.le_of_ble_eq_true rfl) ?_
  show G Γ mX6_in (NI Γ 0 Q) 0 [(0, .int x0), (1, .int x1), (2, .int x2)] [] σ
  refine g_iload_n (pc := 0) dX6_in_0 rfl 0 rfl ?_
  refine g_iload_n (pc := 1) dX6_in_1 rfl 1 rfl ?_
  refine g_icmp_lt (pc := 2) 14 dX6_in_2 (by decide) (fun q => ?_) (fun q => ?_)
  · have h := h.1 q
    refine g_iconst (pc := 14) (0 : Int32) dX6_in_14 rfl ?_
    exact g_zret (pc := 15) rfl dX6_in_15 (Or.inl rfl) h
  · have h := h.2 q
    refine g_iload_n (pc := 5) dX6_in_5 rfl 0 rfl ?_
    refine g_iload_n (pc := 6) dX6_in_6 rfl 2 rfl ?_
    refine g_icmp_gt (pc := 7) 14 dX6_in_7 (by decide) (fun q => ?_) (fun q => ?_)
    · have h := h.1 q
      refine g_iconst (pc := 14) (0 : Int32) dX6_in_14 rfl ?_
      exact g_zret (pc := 15) rfl dX6_in_15 (Or.inl rfl) h
    · have h := h.2 q
      refine g_iconst (pc := 10) (1 : Int32) dX6_in_10 rfl ?_
      refine g_goto (pc := 11) 15 dX6_in_11 (by decide) ?_
      exact g_zret (pc := 15) rfl dX6_in_15 (Or.inr rfl) h
set_option maxHeartbeats 4000000 in
set_option maxRecDepth 100000 in
theorem ct_X6_no {Γ : GT} {Q : Int64 → St → Prop} (σ : St) (x0 : Int32)
    (h : Q ((-9223372036854775808 : Int64) - x0.toInt64) σ) :
    CtJ Γ mX6_no 0 [.int x0] σ Q := by
  refine ct_of (by decide +kernel) (Nat.le_of_ble_eq_true rfl) ?_
  show G Γ mX6_no (NJ Γ 0 Q) 0 [(0, .int x0)] [] σ
  refine g_ldc2 (pc := 0) (-9223372036854775808 : Int64) kl_X6_73 dX6_no_0 ?_
  refine g_iload_n (pc := 3) dX6_no_3 rfl 0 rfl ?_
  refine g_i2l (pc := 4) dX6_no_4 ?_
  refine g_lsub (pc := 5) dX6_no_5 ?_
  exact g_lret (pc := 6) rfl dX6_no_6 h
set_option maxHeartbeats 4000000 in
set_option maxRecDepth 100000 in
theorem ct_X6_isSender {Γ : GT} {Q : Int32 → St → Prop} (σ : St) (x1 : Int32)
    (h : ∃ Q1 : Int32 → St → Prop, CtI Γ mX6_in 0 [.int x1, .int (0 : Int32), .int ((σ.1 25 0) - (1 : Int32))] σ Q1 ∧ ∀ (r2 : Int32) (τ3 : St), Q1 r2 τ3 → ((r2 = 0 ∨ r2 = 1) ∧ Q r2 τ3)) :
    CtI Γ mX6_isSender 1 [rf Γ 25, .int x1] σ Q := by
  refine ct_of (by decide +kernel) (Nat.le_of_ble_eq_true rfl) ?_
  show G Γ mX6_isSender (NI Γ 1 Q) 0 [(0, rf Γ 25), (1, .int x1)] [] σ
  refine g_iload_n (pc := 0) dX6_isSender_0 rfl 1 rfl ?_
  refine g_iconst (pc := 1) (0 : Int32) dX6_isSender_1 rfl ?_
  refine g_aload_n (pc := 2) dX6_isSender_2 rfl 0 rfl ?_
  refine g_getI (pc := 3) 25 6 0 fi_25_0 fl_X6_7 dX6_isSender_3 ?_
  refine g_iconst (pc := 6) (1 : Int32) dX6_isSender_6 rfl ?_
  refine g_isub (pc := 7) dX6_isSender_7 ?_
  obtain ⟨Q1, hc, h⟩ := h
  refine g_callSI (pc := 8) (M' := mX6_in) (n := 1) (As := [.int x1, .int (0 : Int32), .int ((σ.1 25 0) - (1 : Int32))]) (st := []) dX6_isSender_8 ml_X6_75 ok_X6_in rfl (rmOk_M _ _ _) (by decide) (Nat.le_of_ble_eq_true rfl) rfl hc (fun r2 τ3 hq => ?_)
  have h := h r2 τ3 hq
  exact g_zret (pc := 11) rfl dX6_isSender_11 h.1 h.2
set_option maxHeartbeats 4000000 in
set_option maxRecDepth 100000 in
theorem ct_X6_isGain {Γ : GT} {Q : Int32 → St → Prop} (σ : St) (x0 : Int32) (x1 : Int32) (x2 : Int32)
    (h : ((¬ x0 = x1) → (∃ Q1 : Int32 → St → Prop, CtI Γ mX6_in 0 [.int x2, .int (0 : Int32), .int (9 : Int32)] σ Q1 ∧ ∀ (r2 : Int32) (τ3 : St), Q1 r2 τ3 → ((r2 = 0 ∨ r2 = 1) ∧ Q r2 τ3))) ∧ ((x0 = x1) → (∃ Q4 : Int32 → St → Prop, CtI Γ mX6_in 0 [.int x2, .int (1 : Int32), .int (30 : Int32)] σ Q4 ∧ ∀ (r5 : Int32) (τ6 : St), Q4 r5 τ6 → ((r5 = 0 ∨ r5 = 1) ∧ Q r5 τ6)))) :
    CtI Γ mX6_isGain 1 [.int x0, .int x1, .int x2] σ Q := by
  refine ct_of (by decide +kernel) (Nat.le_of_ble_eq_true rfl) ?_
  show G Γ mX6_isGain (NI Γ 1 Q) 0 [(0, .int x0), (1, .int x1), (2, .int x2)] [] σ
  refine g_iload_n (pc := 0) dX6_isGain_0 rfl 0 rfl ?_
  refine g_iload_n (pc := 1) dX6_isGain_1 rfl 1 rfl ?_
  refine g_icmp_ne (pc := 2) 15 dX6_isGain_2 (by decide) (fun q => ?_) (fun q => ?_)
  · have h := h.1 q
    refine g_iload_n (pc := 15) dX6_isGain_15 rfl 2 rfl ?_
    refine g_iconst (pc := 16) (0 : Int32) dX6_isGain_16 rfl ?_
    refine g_bipush (pc := 17) (9 : Int32) dX6_isGain_17 rfl ?_
    obtain ⟨Q1, hc, h⟩ := h
    refine g_callSI (pc := 19) (M' := mX6_in) (n := 1) (As := [.int x2, .int (0 : Int32), .int (9 : Int32)]) (st := []) dX6_isGain_19 ml_X6_75 ok_X6_in rfl (rmOk_M _ _ _) (by decide) (Nat.le_of_ble_eq_true rfl) rfl hc (fun r2 τ3 hq => ?_)
    have h := h r2 τ3 hq
    exact g_zret (pc := 22) rfl dX6_isGain_22 h.1 h.2
  · have h := h.2 q
    refine g_iload_n (pc := 5) dX6_isGain_5 rfl 2 rfl ?_
    refine g_iconst (pc := 6) (1 : Int32) dX6_isGain_6 rfl ?_
    refine g_bipush (pc := 7) (30 : Int32) dX6_isGain_7 rfl ?_
    obtain ⟨Q4, hc, h⟩ := h
    refine g_callSI (pc := 9) (M' := mX6_in) (n := 1) (As := [.int x2, .int (1 : Int32), .int (30 : Int32)]) (st := []) dX6_isGain_9 ml_X6_75 ok_X6_in rfl (rmOk_M _ _ _) (by decide) (Nat.le_of_ble_eq_true rfl) rfl hc (fun r5 τ6 hq => ?_)
    have h := h r5 τ6 hq
    refine g_goto (pc := 12) 22 dX6_isGain_12 (by decide) ?_
    exact g_zret (pc := 22) rfl dX6_isGain_22 h.1 h.2
set_option maxHeartbeats 4000000 in
set_option maxRecDepth 100000 in
theorem ct_X6_senders {Γ : GT} {Q : Int32 → St → Prop} (σ : St) (x1 : Int32)
    (h : ∃ Q1 : Int32 → St → Prop, CtI Γ mX6_in 0 [.int x1, .int (1 : Int32), .int (5 : Int32)] σ Q1 ∧ ∀ (r2 : Int32) (τ3 : St), Q1 r2 τ3 → (((¬ r2 = 0) → (Q (τ3.1 25 0) (sI τ3 25 0 x1))) ∧ ((r2 = 0) → (Q (-2 : Int32) τ3)))) :
    CtI Γ mX6_senders 1 [rf Γ 25, .int x1] σ Q := by
  refine ct_of (by decide +kernel) (Nat.le_of_ble_eq_true rfl) ?_
  show G Γ mX6_senders (NI Γ 1 Q) 0 [(0, rf Γ 25), (1, .int x1)] [] σ
  refine g_iload_n (pc := 0) dX6_senders_0 rfl 1 rfl ?_
  refine g_iconst (pc := 1) (1 : Int32) dX6_senders_1 rfl ?_
  refine g_iconst (pc := 2) (5 : Int32) dX6_senders_2 rfl ?_
  obtain ⟨Q1, hc, h⟩ := h
  refine g_callSI (pc := 3) (M' := mX6_in) (n := 1) (As := [.int x1, .int (1 : Int32), .int (5 : Int32)]) (st := []) dX6_senders_3 ml_X6_75 ok_X6_in rfl (rmOk_M _ _ _) (by decide) (Nat.le_of_ble_eq_true rfl) rfl hc (fun r2 τ3 hq => ?_)
  have h := h r2 τ3 hq
  refine g_if_ne (pc := 6) 12 dX6_senders_6 (by decide) (fun q => ?_) (fun q => ?_)
  · have h := h.1 q
    refine g_aload_n (pc := 12) dX6_senders_12 rfl 0 rfl ?_
    refine g_getI (pc := 13) 25 6 0 fi_25_0 fl_X6_7 dX6_senders_13 ?_
    refine g_istore_n (pc := 16) [(2, _), (0, _), (1, _)] dX6_senders_16 rfl (Nat.le_of_ble_eq_true rfl) rfl ?_
    refine g_aload_n (pc := 17) dX6_senders_17 rfl 1 rfl ?_
    refine g_iload_n (pc := 18) dX6_senders_18 rfl 2 rfl ?_
    refine g_put (pc := 19) 25 6 0 fpp_25_0 fp_X6_7 dX6_senders_19 ?_
    refine g_iload_n (pc := 22) dX6_senders_22 rfl 0 rfl ?_
    exact g_iret (pc := 23) rfl dX6_senders_23 h
  · have h := h.2 q
    refine g_bipush (pc := 9) (-2 : Int32) dX6_senders_9 rfl ?_
    exact g_iret (pc := 11) rfl dX6_senders_11 h
set_option maxHeartbeats 4000000 in
set_option maxRecDepth 100000 in
theorem ct_X6_gain {Γ : GT} {Q : Int32 → St → Prop} (σ : St) (x1 : Int32) (x2 : Int32) (x3 : Int32)
    (h : ∃ Q1 : Int32 → St → Prop, CtI Γ mX6_isSender 1 [rf Γ 25, .int x1] σ Q1 ∧ ∀ (r2 : Int32) (τ3 : St), Q1 r2 τ3 → (((r2 = 0) → (Q (-2 : Int32) τ3)) ∧ ((¬ r2 = 0) → (∃ Q4 : Int32 → St → Prop, CtI Γ mX6_isSender 1 [rf Γ 25, .int x2] τ3 Q4 ∧ ∀ (r5 : Int32) (τ6 : St), Q4 r5 τ6 → (((r5 = 0) → (Q (-2 : Int32) τ6)) ∧ ((¬ r5 = 0) → (∃ Q7 : Int32 → St → Prop, CtI Γ mX6_isGain 1 [.int x1, .int x2, .int x3] τ6 Q7 ∧ ∀ (r8 : Int32) (τ9 : St), Q7 r8 τ9 → (((¬ r8 = 0) → (vp_in (((5 : Int32) * x1) + x2) 25 ∧ (vp_in (((5 : Int32) * x1) + x2) 25 ∧ (Q (τ9.1 26 (((5 : Int32) * x1) + x2).toNatClampNeg) (sI τ9 26 (((5 : Int32) * x1) + x2).toNatClampNeg x3))))) ∧ ((r8 = 0) → (Q (-2 : Int32) τ9)))))))))) :
    CtI Γ mX6_gain 2 [rf Γ 25, .int x1, .int x2, .int x3] σ Q := by
  refine ct_of (by decide +kernel) (Nat.le_of_ble_eq_true rfl) ?_
  show G Γ mX6_gain (NI Γ 2 Q) 0 [(0, rf Γ 25), (1, .int x1), (2, .int x2), (3, .int x3)] [] σ
  refine g_aload_n (pc := 0) dX6_gain_0 rfl 0 rfl ?_
  refine g_iload_n (pc := 1) dX6_gain_1 rfl 1 rfl ?_
  obtain ⟨Q1, hc, h⟩ := h
  refine g_callVI (pc := 2) (M' := mX6_isSender) (n := 2) (As := [.int x1]) (st := []) dX6_gain_2 ml_X6_79 ok_X6_isSender rfl (rmOk_M _ _ _) (by decide) rc_25 (Nat.le_of_ble_eq_true rfl) rfl hc (fun r2 τ3 hq => ?_)
  have h := h r2 τ3 hq
  refine g_if_eq (pc := 5) 25 dX6_gain_5 (by decide) (fun q => ?_) (fun q => ?_)
  · have h := h.1 q
    refine g_bipush (pc := 25) (-2 : Int32) dX6_gain_25 rfl ?_
    exact g_iret (pc := 27) rfl dX6_gain_27 h
  · have h := h.2 q
    refine g_aload_n (pc := 8) dX6_gain_8 rfl 0 rfl ?_
    refine g_iload_n (pc := 9) dX6_gain_9 rfl 2 rfl ?_
    obtain ⟨Q4, hc, h⟩ := h
    refine g_callVI (pc := 10) (M' := mX6_isSender) (n := 2) (As := [.int x2]) (st := []) dX6_gain_10 ml_X6_79 ok_X6_isSender rfl (rmOk_M _ _ _) (by decide) rc_25 (Nat.le_of_ble_eq_true rfl) rfl hc (fun r5 τ6 hq => ?_)
    have h := h r5 τ6 hq
    refine g_if_eq (pc := 13) 25 dX6_gain_13 (by decide) (fun q => ?_) (fun q => ?_)
    · have h := h.1 q
      refine g_bipush (pc := 25) (-2 : Int32) dX6_gain_25 rfl ?_
      exact g_iret (pc := 27) rfl dX6_gain_27 h
    · have h := h.2 q
      refine g_iload_n (pc := 16) dX6_gain_16 rfl 1 rfl ?_
      refine g_iload_n (pc := 17) dX6_gain_17 rfl 2 rfl ?_
      refine g_iload_n (pc := 18) dX6_gain_18 rfl 3 rfl ?_
      obtain ⟨Q7, hc, h⟩ := h
      refine g_callSI (pc := 19) (M' := mX6_isGain) (n := 2) (As := [.int x1, .int x2, .int x3]) (st := []) dX6_gain_19 ml_X6_83 ok_X6_isGain rfl (rmOk_M _ _ _) (by decide) (Nat.le_of_ble_eq_true rfl) rfl hc (fun r8 τ9 hq => ?_)
      have h := h r8 τ9 hq
      refine g_if_ne (pc := 22) 28 dX6_gain_22 (by decide) (fun q => ?_) (fun q => ?_)
      · have h := h.1 q
        refine g_aload_n (pc := 28) dX6_gain_28 rfl 0 rfl ?_
        refine g_getR (pc := 29) 25 6 2 26 fr_25_2 fl_X6_13 dX6_gain_29 ?_
        refine g_iconst (pc := 32) (5 : Int32) dX6_gain_32 rfl ?_
        refine g_iload_n (pc := 33) dX6_gain_33 rfl 1 rfl ?_
        refine g_imul (pc := 34) dX6_gain_34 ?_
        refine g_iload_n (pc := 35) dX6_gain_35 rfl 2 rfl ?_
        refine g_iadd (pc := 36) dX6_gain_36 ?_
        refine g_iald (pc := 37) 26 25 ar_26 h.1 dX6_gain_37 ?_
        have h := h.2
        refine g_istore (pc := 38) [(4, _), (0, _), (1, _), (2, _), (3, _)] dX6_gain_38 (Nat.le_of_ble_eq_true rfl) rfl ?_
        refine g_aload_n (pc := 40) dX6_gain_40 rfl 1 rfl ?_
        refine g_getR (pc := 41) 25 6 2 26 fr_25_2 fl_X6_13 dX6_gain_41 ?_
        refine g_iconst (pc := 44) (5 : Int32) dX6_gain_44 rfl ?_
        refine g_iload_n (pc := 45) dX6_gain_45 rfl 2 rfl ?_
        refine g_imul (pc := 46) dX6_gain_46 ?_
        refine g_iload_n (pc := 47) dX6_gain_47 rfl 3 rfl ?_
        refine g_iadd (pc := 48) dX6_gain_48 ?_
        refine g_iload_n (pc := 49) dX6_gain_49 rfl 4 rfl ?_
        refine g_iast (pc := 50) 26 25 ar_26 h.1 dX6_gain_50 ?_
        have h := h.2
        refine g_iload (pc := 51) dX6_gain_51 0 rfl ?_
        exact g_iret (pc := 53) rfl dX6_gain_53 h
      · have h := h.2 q
        refine g_bipush (pc := 25) (-2 : Int32) dX6_gain_25 rfl ?_
        exact g_iret (pc := 27) rfl dX6_gain_27 h
set_option maxHeartbeats 4000000 in
set_option maxRecDepth 100000 in
theorem ct_X6_isSetting {Γ : GT} {Q : Int32 → St → Prop} (σ : St) (x0 : Int32) (x1 : Int32)
    (h : ((¬ x0 = 0) → (((¬ x0 = (1 : Int32)) → (((¬ x0 = (2 : Int32)) → (Q (0 : Int32) σ)) ∧ ((x0 = (2 : Int32)) → (∃ Q1 : Int32 → St → Prop, CtI Γ mX6_in 0 [.int x1, .int (0 : Int32), .int (999 : Int32)] σ Q1 ∧ ∀ (r2 : Int32) (τ3 : St), Q1 r2 τ3 → (((r2 = 0) → (Q (0 : Int32) τ3)) ∧ ((¬ r2 = 0) → (Q (1 : Int32) τ3))))))) ∧ ((x0 = (1 : Int32)) → (∃ Q4 : Int32 → St → Prop, CtI Γ mX6_in 0 [.int x1, .int (0 : Int32), .int (9 : Int32)] σ Q4 ∧ ∀ (r5 : Int32) (τ6 : St), Q4 r5 τ6 → ((r5 = 0 ∨ r5 = 1) ∧ Q r5 τ6))))) ∧ ((x0 = 0) → (∃ Q7 : Int32 → St → Prop, CtI Γ mX6_in 0 [.int x1, .int (1 : Int32), .int (20 : Int32)] σ Q7 ∧ ∀ (r8 : Int32) (τ9 : St), Q7 r8 τ9 → ((r8 = 0 ∨ r8 = 1) ∧ Q r8 τ9)))) :
    CtI Γ mX6_isSetting 1 [.int x0, .int x1] σ Q := by
  refine ct_of (by decide +kernel) (Nat.le_of_ble_eq_true rfl) ?_
  show G Γ mX6_isSetting (NI Γ 1 Q) 0 [(0, .int x0), (1, .int x1)] [] σ
  refine g_iload_n (pc := 0) dX6_isSetting_0 rfl 0 rfl ?_
  refine g_if_ne (pc := 1) 14 dX6_isSetting_1 (by decide) (fun q => ?_) (fun q => ?_)
  · have h := h.1 q
    refine g_iload_n (pc := 14) dX6_isSetting_14 rfl 0 rfl ?_
    refine g_iconst (pc := 15) (1 : Int32) dX6_isSetting_15 rfl ?_
    refine g_icmp_ne (pc := 16) 29 dX6_isSetting_16 (by decide) (fun q => ?_) (fun q => ?_)
    · have h := h.1 q
      refine g_iload_n (pc := 29) dX6_isSetting_29 rfl 0 rfl ?_
      refine g_iconst (pc := 30) (2 : Int32) dX6_isSetting_30 rfl ?_
      refine g_icmp_ne (pc := 31) 49 dX6_isSetting_31 (by decide) (fun q => ?_) (fun q => ?_)
      · have h := h.1 q
        refine g_iconst (pc := 49) (0 : Int32) dX6_isSetting_49 rfl ?_
        exact g_zret (pc := 50) rfl dX6_isSetting_50 (Or.inl rfl) h
      · have h := h.2 q
        refine g_iload_n (pc := 34) dX6_isSetting_34 rfl 1 rfl ?_
        refine g_iconst (pc := 35) (0 : Int32) dX6_isSetting_35 rfl ?_
        refine g_sipush (pc := 36) (999 : Int32) dX6_isSetting_36 rfl ?_
        obtain ⟨Q1, hc, h⟩ := h
        refine g_callSI (pc := 39) (M' := mX6_in) (n := 1) (As := [.int x1, .int (0 : Int32), .int (999 : Int32)]) (st := []) dX6_isSetting_39 ml_X6_75 ok_X6_in rfl (rmOk_M _ _ _) (by decide) (Nat.le_of_ble_eq_true rfl) rfl hc (fun r2 τ3 hq => ?_)
        have h := h r2 τ3 hq
        refine g_if_eq (pc := 42) 49 dX6_isSetting_42 (by decide) (fun q => ?_) (fun q => ?_)
        · have h := h.1 q
          refine g_iconst (pc := 49) (0 : Int32) dX6_isSetting_49 rfl ?_
          exact g_zret (pc := 50) rfl dX6_isSetting_50 (Or.inl rfl) h
        · have h := h.2 q
          refine g_iconst (pc := 45) (1 : Int32) dX6_isSetting_45 rfl ?_
          refine g_goto (pc := 46) 50 dX6_isSetting_46 (by decide) ?_
          exact g_zret (pc := 50) rfl dX6_isSetting_50 (Or.inr rfl) h
    · have h := h.2 q
      refine g_iload_n (pc := 19) dX6_isSetting_19 rfl 1 rfl ?_
      refine g_iconst (pc := 20) (0 : Int32) dX6_isSetting_20 rfl ?_
      refine g_bipush (pc := 21) (9 : Int32) dX6_isSetting_21 rfl ?_
      obtain ⟨Q4, hc, h⟩ := h
      refine g_callSI (pc := 23) (M' := mX6_in) (n := 1) (As := [.int x1, .int (0 : Int32), .int (9 : Int32)]) (st := []) dX6_isSetting_23 ml_X6_75 ok_X6_in rfl (rmOk_M _ _ _) (by decide) (Nat.le_of_ble_eq_true rfl) rfl hc (fun r5 τ6 hq => ?_)
      have h := h r5 τ6 hq
      refine g_goto (pc := 26) 50 dX6_isSetting_26 (by decide) ?_
      exact g_zret (pc := 50) rfl dX6_isSetting_50 h.1 h.2
  · have h := h.2 q
    refine g_iload_n (pc := 4) dX6_isSetting_4 rfl 1 rfl ?_
    refine g_iconst (pc := 5) (1 : Int32) dX6_isSetting_5 rfl ?_
    refine g_bipush (pc := 6) (20 : Int32) dX6_isSetting_6 rfl ?_
    obtain ⟨Q7, hc, h⟩ := h
    refine g_callSI (pc := 8) (M' := mX6_in) (n := 1) (As := [.int x1, .int (1 : Int32), .int (20 : Int32)]) (st := []) dX6_isSetting_8 ml_X6_75 ok_X6_in rfl (rmOk_M _ _ _) (by decide) (Nat.le_of_ble_eq_true rfl) rfl hc (fun r8 τ9 hq => ?_)
    have h := h r8 τ9 hq
    refine g_goto (pc := 11) 50 dX6_isSetting_11 (by decide) ?_
    exact g_zret (pc := 50) rfl dX6_isSetting_50 h.1 h.2
set_option maxHeartbeats 4000000 in
set_option maxRecDepth 100000 in
theorem ct_X6_setting {Γ : GT} {Q : Int32 → St → Prop} (σ : St) (x1 : Int32) (x2 : Int32)
    (h : ((¬ x2 = 0) → (((¬ x2 = (1 : Int32)) → (vp_in x1 5 ∧ (Q (σ.1 29 x1.toNatClampNeg) σ))) ∧ ((x2 = (1 : Int32)) → (vp_in x1 5 ∧ (Q (σ.1 28 x1.toNatClampNeg) σ))))) ∧ ((x2 = 0) → (vp_in x1 5 ∧ (Q (σ.1 27 x1.toNatClampNeg) σ)))) :
    CtI Γ mX6_setting 0 [rf Γ 25, .int x1, .int x2] σ Q := by
  refine ct_of (by decide +kernel) (Nat.le_of_ble_eq_true rfl) ?_
  show G Γ mX6_setting (NI Γ 0 Q) 0 [(0, rf Γ 25), (1, .int x1), (2, .int x2)] [] σ
  refine g_iload_n (pc := 0) dX6_setting_0 rfl 2 rfl ?_
  refine g_if_ne (pc := 1) 13 dX6_setting_1 (by decide) (fun q => ?_) (fun q => ?_)
  · have h := h.1 q
    refine g_iload_n (pc := 13) dX6_setting_13 rfl 2 rfl ?_
    refine g_iconst (pc := 14) (1 : Int32) dX6_setting_14 rfl ?_
    refine g_icmp_ne (pc := 15) 27 dX6_setting_15 (by decide) (fun q => ?_) (fun q => ?_)
    · have h := h.1 q
      refine g_aload_n (pc := 27) dX6_setting_27 rfl 0 rfl ?_
      refine g_getR (pc := 28) 25 6 5 29 fr_25_5 fl_X6_23 dX6_setting_28 ?_
      refine g_iload_n (pc := 31) dX6_setting_31 rfl 1 rfl ?_
      refine g_iald (pc := 32) 29 5 ar_29 h.1 dX6_setting_32 ?_
      have h := h.2
      exact g_iret (pc := 33) rfl dX6_setting_33 h
    · have h := h.2 q
      refine g_aload_n (pc := 18) dX6_setting_18 rfl 0 rfl ?_
      refine g_getR (pc := 19) 25 6 4 28 fr_25_4 fl_X6_20 dX6_setting_19 ?_
      refine g_iload_n (pc := 22) dX6_setting_22 rfl 1 rfl ?_
      refine g_iald (pc := 23) 28 5 ar_28 h.1 dX6_setting_23 ?_
      have h := h.2
      refine g_goto (pc := 24) 33 dX6_setting_24 (by decide) ?_
      exact g_iret (pc := 33) rfl dX6_setting_33 h
  · have h := h.2 q
    refine g_aload_n (pc := 4) dX6_setting_4 rfl 0 rfl ?_
    refine g_getR (pc := 5) 25 6 3 27 fr_25_3 fl_X6_17 dX6_setting_5 ?_
    refine g_iload_n (pc := 8) dX6_setting_8 rfl 1 rfl ?_
    refine g_iald (pc := 9) 27 5 ar_27 h.1 dX6_setting_9 ?_
    have h := h.2
    refine g_goto (pc := 10) 33 dX6_setting_10 (by decide) ?_
    exact g_iret (pc := 33) rfl dX6_setting_33 h
set_option maxHeartbeats 4000000 in
set_option maxRecDepth 100000 in
theorem ct_X6_set {Γ : GT} {Q : Int32 → St → Prop} (σ : St) (x1 : Int32) (x2 : Int32) (x3 : Int32)
    (h : ∃ Q1 : Int32 → St → Prop, CtI Γ mX6_isSender 1 [rf Γ 25, .int x1] σ Q1 ∧ ∀ (r2 : Int32) (τ3 : St), Q1 r2 τ3 → (((r2 = 0) → (Q (-2 : Int32) τ3)) ∧ ((¬ r2 = 0) → (∃ Q4 : Int32 → St → Prop, CtI Γ mX6_isSetting 1 [.int x2, .int x3] τ3 Q4 ∧ ∀ (r5 : Int32) (τ6 : St), Q4 r5 τ6 → (((¬ r5 = 0) → (∃ Q7 : Int32 → St → Prop, CtI Γ mX6_setting 0 [rf Γ 25, .int x1, .int x2] τ6 Q7 ∧ ∀ (r8 : Int32) (τ9 : St), Q7 r8 τ9 → (((¬ x2 = 0) → (((¬ x2 = (1 : Int32)) → (vp_in x1 5 ∧ (Q r8 (sI τ9 29 x1.toNatClampNeg x3)))) ∧ ((x2 = (1 : Int32)) → (vp_in x1 5 ∧ (Q r8 (sI τ9 28 x1.toNatClampNeg x3)))))) ∧ ((x2 = 0) → (vp_in x1 5 ∧ (Q r8 (sI τ9 27 x1.toNatClampNeg x3))))))) ∧ ((r5 = 0) → (Q (-2 : Int32) τ6))))))) :
    CtI Γ mX6_set 2 [rf Γ 25, .int x1, .int x2, .int x3] σ Q := by
  refine ct_of (by decide +kernel) (Nat.le_of_ble_eq_true rfl) ?_
  show G Γ mX6_set (NI Γ 2 Q) 0 [(0, rf Γ 25), (1, .int x1), (2, .int x2), (3, .int x3)] [] σ
  refine g_aload_n (pc := 0) dX6_set_0 rfl 0 rfl ?_
  refine g_iload_n (pc := 1) dX6_set_1 rfl 1 rfl ?_
  obtain ⟨Q1, hc, h⟩ := h
  refine g_callVI (pc := 2) (M' := mX6_isSender) (n := 2) (As := [.int x1]) (st := []) dX6_set_2 ml_X6_79 ok_X6_isSender rfl (rmOk_M _ _ _) (by decide) rc_25 (Nat.le_of_ble_eq_true rfl) rfl hc (fun r2 τ3 hq => ?_)
  have h := h r2 τ3 hq
  refine g_if_eq (pc := 5) 16 dX6_set_5 (by decide) (fun q => ?_) (fun q => ?_)
  · have h := h.1 q
    refine g_bipush (pc := 16) (-2 : Int32) dX6_set_16 rfl ?_
    exact g_iret (pc := 18) rfl dX6_set_18 h
  · have h := h.2 q
    refine g_iload_n (pc := 8) dX6_set_8 rfl 2 rfl ?_
    refine g_iload_n (pc := 9) dX6_set_9 rfl 3 rfl ?_
    obtain ⟨Q4, hc, h⟩ := h
    refine g_callSI (pc := 10) (M' := mX6_isSetting) (n := 2) (As := [.int x2, .int x3]) (st := []) dX6_set_10 ml_X6_86 ok_X6_isSetting rfl (rmOk_M _ _ _) (by decide) (Nat.le_of_ble_eq_true rfl) rfl hc (fun r5 τ6 hq => ?_)
    have h := h r5 τ6 hq
    refine g_if_ne (pc := 13) 19 dX6_set_13 (by decide) (fun q => ?_) (fun q => ?_)
    · have h := h.1 q
      refine g_aload_n (pc := 19) dX6_set_19 rfl 0 rfl ?_
      refine g_iload_n (pc := 20) dX6_set_20 rfl 1 rfl ?_
      refine g_iload_n (pc := 21) dX6_set_21 rfl 2 rfl ?_
      obtain ⟨Q7, hc, h⟩ := h
      refine g_callVI (pc := 22) (M' := mX6_setting) (n := 2) (As := [.int x1, .int x2]) (st := []) dX6_set_22 ml_X6_90 ok_X6_setting rfl (rmOk_M _ _ _) (by decide) rc_25 (Nat.le_of_ble_eq_true rfl) rfl hc (fun r8 τ9 hq => ?_)
      have h := h r8 τ9 hq
      refine g_istore (pc := 25) [(4, _), (0, _), (1, _), (2, _), (3, _)] dX6_set_25 (Nat.le_of_ble_eq_true rfl) rfl ?_
      refine g_iload_n (pc := 27) dX6_set_27 rfl 3 rfl ?_
      refine g_if_ne (pc := 28) 41 dX6_set_28 (by decide) (fun q => ?_) (fun q => ?_)
      · have h := h.1 q
        refine g_iload_n (pc := 41) dX6_set_41 rfl 3 rfl ?_
        refine g_iconst (pc := 42) (1 : Int32) dX6_set_42 rfl ?_
        refine g_icmp_ne (pc := 43) 56 dX6_set_43 (by decide) (fun q => ?_) (fun q => ?_)
        · have h := h.1 q
          refine g_aload_n (pc := 56) dX6_set_56 rfl 1 rfl ?_
          refine g_getR (pc := 57) 25 6 5 29 fr_25_5 fl_X6_23 dX6_set_57 ?_
          refine g_iload_n (pc := 60) dX6_set_60 rfl 2 rfl ?_
          refine g_iload_n (pc := 61) dX6_set_61 rfl 4 rfl ?_
          refine g_iast (pc := 62) 29 5 ar_29 h.1 dX6_set_62 ?_
          have h := h.2
          refine g_iload (pc := 63) dX6_set_63 0 rfl ?_
          exact g_iret (pc := 65) rfl dX6_set_65 h
        · have h := h.2 q
          refine g_aload_n (pc := 46) dX6_set_46 rfl 1 rfl ?_
          refine g_getR (pc := 47) 25 6 4 28 fr_25_4 fl_X6_20 dX6_set_47 ?_
          refine g_iload_n (pc := 50) dX6_set_50 rfl 2 rfl ?_
          refine g_iload_n (pc := 51) dX6_set_51 rfl 4 rfl ?_
          refine g_iast (pc := 52) 28 5 ar_28 h.1 dX6_set_52 ?_
          have h := h.2
          refine g_goto (pc := 53) 63 dX6_set_53 (by decide) ?_
          refine g_iload (pc := 63) dX6_set_63 0 rfl ?_
          exact g_iret (pc := 65) rfl dX6_set_65 h
      · have h := h.2 q
        refine g_aload_n (pc := 31) dX6_set_31 rfl 1 rfl ?_
        refine g_getR (pc := 32) 25 6 3 27 fr_25_3 fl_X6_17 dX6_set_32 ?_
        refine g_iload_n (pc := 35) dX6_set_35 rfl 2 rfl ?_
        refine g_iload_n (pc := 36) dX6_set_36 rfl 4 rfl ?_
        refine g_iast (pc := 37) 27 5 ar_27 h.1 dX6_set_37 ?_
        have h := h.2
        refine g_goto (pc := 38) 63 dX6_set_38 (by decide) ?_
        refine g_iload (pc := 63) dX6_set_63 0 rfl ?_
        exact g_iret (pc := 65) rfl dX6_set_65 h
    · have h := h.2 q
      refine g_bipush (pc := 16) (-2 : Int32) dX6_set_16 rfl ?_
      exact g_iret (pc := 18) rfl dX6_set_18 h
set_option maxHeartbeats 4000000 in
set_option maxRecDepth 100000 in
theorem ct_X6_onNow {Γ : GT} {Q : Int32 → St → Prop} (σ : St) 
    (h : G Γ mX6_onNow (NI Γ 0 Q) 4 [(0, rf Γ 25), (1, .int (0 : Int32)), (2, .int (0 : Int32))] [] σ) :
    CtI Γ mX6_onNow 0 [rf Γ 25] σ Q := by
  refine ct_of (by decide +kernel) (Nat.le_of_ble_eq_true rfl) ?_
  show G Γ mX6_onNow (NI Γ 0 Q) 0 [(0, rf Γ 25)] [] σ
  refine g_iconst (pc := 0) (0 : Int32) dX6_onNow_0 rfl ?_
  refine g_istore_n (pc := 1) [(1, _), (0, _)] dX6_onNow_1 rfl (Nat.le_of_ble_eq_true rfl) rfl ?_
  refine g_iconst (pc := 2) (0 : Int32) dX6_onNow_2 rfl ?_
  refine g_istore_n (pc := 3) [(2, _), (1, _), (0, _)] dX6_onNow_3 rfl (Nat.le_of_ble_eq_true rfl) rfl ?_
  refine g_pm [2, 1, 0] rfl ?_
  exact h
set_option maxHeartbeats 4000000 in
set_option maxRecDepth 100000 in
theorem t_X6_onNow_4 {Γ : GT} {Q : Int32 → St → Prop} (σ : St) (x1 : Int32) (x2 : Int32)
    (h : (((σ.1 25 0) ≤ x2) → (Q x1 σ)) ∧ ((¬ (σ.1 25 0) ≤ x2) → (vp_in x2 5 ∧ ((((σ.1 30 x2.toNatClampNeg) = 0) → (G Γ mX6_onNow (NI Γ 0 Q) 4 [(0, rf Γ 25), (1, .int (x1 ||| (0 : Int32))), (2, .int (x2 + (1 : Int32)))] [] σ)) ∧ ((¬ (σ.1 30 x2.toNatClampNeg) = 0) → (G Γ mX6_onNow (NI Γ 0 Q) 4 [(0, rf Γ 25), (1, .int (x1 ||| ((1 : Int32) <<< (x2 &&& 31)))), (2, .int (x2 + (1 : Int32)))] [] σ)))))) :
    G Γ mX6_onNow (NI Γ 0 Q) 4 [(0, rf Γ 25), (1, .int x1), (2, .int x2)] [] σ := by
  refine g_iload_n (pc := 4) dX6_onNow_4 rfl 2 rfl ?_
  refine g_aload_n (pc := 5) dX6_onNow_5 rfl 0 rfl ?_
  refine g_getI (pc := 6) 25 6 0 fi_25_0 fl_X6_7 dX6_onNow_6 ?_
  refine g_icmp_ge (pc := 9) 37 dX6_onNow_9 (by decide) (fun q => ?_) (fun q => ?_)
  · have h := h.1 q
    refine g_iload_n (pc := 37) dX6_onNow_37 rfl 1 rfl ?_
    exact g_iret (pc := 38) rfl dX6_onNow_38 h
  · have h := h.2 q
    refine g_iload_n (pc := 12) dX6_onNow_12 rfl 1 rfl ?_
    refine g_aload_n (pc := 13) dX6_onNow_13 rfl 0 rfl ?_
    refine g_getR (pc := 14) 25 6 6 30 fr_25_6 fl_X6_26 dX6_onNow_14 ?_
    refine g_iload_n (pc := 17) dX6_onNow_17 rfl 2 rfl ?_
    refine g_zald (pc := 18) 30 5 ar_30 h.1 dX6_onNow_18 ?_
    have h := h.2
    refine g_if_eq (pc := 19) 28 dX6_onNow_19 (by decide) (fun q => ?_) (fun q => ?_)
    · have h := h.1 q
      refine g_iconst (pc := 28) (0 : Int32) dX6_onNow_28 rfl ?_
      refine g_ior (pc := 29) dX6_onNow_29 ?_
      refine g_istore_n (pc := 30) [(1, _), (0, _), (2, _)] dX6_onNow_30 rfl (Nat.le_of_ble_eq_true rfl) rfl ?_
      refine g_iinc (pc := 31) (1 : Int32) [(2, _), (1, _), (0, _)] dX6_onNow_31 2 rfl rfl (Nat.le_of_ble_eq_true rfl) rfl ?_
      refine g_goto (pc := 34) 4 dX6_onNow_34 (by decide) ?_
      refine g_pm [2, 1, 0] rfl ?_
      exact h
    · have h := h.2 q
      refine g_iconst (pc := 22) (1 : Int32) dX6_onNow_22 rfl ?_
      refine g_iload_n (pc := 23) dX6_onNow_23 rfl 2 rfl ?_
      refine g_ishl (pc := 24) dX6_onNow_24 ?_
      refine g_goto (pc := 25) 29 dX6_onNow_25 (by decide) ?_
      refine g_ior (pc := 29) dX6_onNow_29 ?_
      refine g_istore_n (pc := 30) [(1, _), (0, _), (2, _)] dX6_onNow_30 rfl (Nat.le_of_ble_eq_true rfl) rfl ?_
      refine g_iinc (pc := 31) (1 : Int32) [(2, _), (1, _), (0, _)] dX6_onNow_31 2 rfl rfl (Nat.le_of_ble_eq_true rfl) rfl ?_
      refine g_goto (pc := 34) 4 dX6_onNow_34 (by decide) ?_
      refine g_pm [2, 1, 0] rfl ?_
      exact h
set_option maxHeartbeats 4000000 in
set_option maxRecDepth 100000 in
theorem ct_X6_on {Γ : GT} {Q : Int32 → St → Prop} (σ : St) (x1 : Int32)
    (h : ∃ Q1 : Int32 → St → Prop, CtI Γ mX6_isSender 1 [rf Γ 25, .int x1] σ Q1 ∧ ∀ (r2 : Int32) (τ3 : St), Q1 r2 τ3 → (((¬ r2 = 0) → (vp_in x1 5 ∧ (((¬ (τ3.1 30 x1.toNatClampNeg) = 0) → (vp_in x1 5 ∧ (∃ Q4 : Int32 → St → Prop, CtI Γ mX6_onNow 0 [rf Γ 25] (sI τ3 30 x1.toNatClampNeg (vp_nar .boolean (0 : Int32))) Q4 ∧ ∀ (r5 : Int32) (τ6 : St), Q4 r5 τ6 → (Q r5 τ6)))) ∧ (((τ3.1 30 x1.toNatClampNeg) = 0) → (vp_in x1 5 ∧ (∃ Q7 : Int32 → St → Prop, CtI Γ mX6_onNow 0 [rf Γ 25] (sI τ3 30 x1.toNatClampNeg (vp_nar .boolean (1 : Int32))) Q7 ∧ ∀ (r8 : Int32) (τ9 : St), Q7 r8 τ9 → (Q r8 τ9))))))) ∧ ((r2 = 0) → (Q (-2 : Int32) τ3)))) :
    CtI Γ mX6_on 2 [rf Γ 25, .int x1] σ Q := by
  refine ct_of (by decide +kernel) (Nat.le_of_ble_eq_true rfl) ?_
  show G Γ mX6_on (NI Γ 2 Q) 0 [(0, rf Γ 25), (1, .int x1)] [] σ
  refine g_aload_n (pc := 0) dX6_on_0 rfl 0 rfl ?_
  refine g_iload_n (pc := 1) dX6_on_1 rfl 1 rfl ?_
  obtain ⟨Q1, hc, h⟩ := h
  refine g_callVI (pc := 2) (M' := mX6_isSender) (n := 2) (As := [.int x1]) (st := []) dX6_on_2 ml_X6_79 ok_X6_isSender rfl (rmOk_M _ _ _) (by decide) rc_25 (Nat.le_of_ble_eq_true rfl) rfl hc (fun r2 τ3 hq => ?_)
  have h := h r2 τ3 hq
  refine g_if_ne (pc := 5) 11 dX6_on_5 (by decide) (fun q => ?_) (fun q => ?_)
  · have h := h.1 q
    refine g_aload_n (pc := 11) dX6_on_11 rfl 0 rfl ?_
    refine g_getR (pc := 12) 25 6 6 30 fr_25_6 fl_X6_26 dX6_on_12 ?_
    refine g_iload_n (pc := 15) dX6_on_15 rfl 1 rfl ?_
    refine g_aload_n (pc := 16) dX6_on_16 rfl 0 rfl ?_
    refine g_getR (pc := 17) 25 6 6 30 fr_25_6 fl_X6_26 dX6_on_17 ?_
    refine g_iload_n (pc := 20) dX6_on_20 rfl 1 rfl ?_
    refine g_zald (pc := 21) 30 5 ar_30 h.1 dX6_on_21 ?_
    have h := h.2
    refine g_if_ne (pc := 22) 29 dX6_on_22 (by decide) (fun q => ?_) (fun q => ?_)
    · have h := h.1 q
      refine g_iconst (pc := 29) (0 : Int32) dX6_on_29 rfl ?_
      refine g_zast (pc := 30) 30 5 ar_30 h.1 dX6_on_30 ?_
      have h := h.2
      refine g_aload_n (pc := 31) dX6_on_31 rfl 0 rfl ?_
      obtain ⟨Q4, hc, h⟩ := h
      refine g_callVI (pc := 32) (M' := mX6_onNow) (n := 2) (As := []) (st := []) dX6_on_32 ml_X6_94 ok_X6_onNow rfl (rmOk_M _ _ _) (by decide) rc_25 (Nat.le_of_ble_eq_true rfl) rfl hc (fun r5 τ6 hq => ?_)
      have h := h r5 τ6 hq
      exact g_iret (pc := 35) rfl dX6_on_35 h
    · have h := h.2 q
      refine g_iconst (pc := 25) (1 : Int32) dX6_on_25 rfl ?_
      refine g_goto (pc := 26) 30 dX6_on_26 (by decide) ?_
      refine g_zast (pc := 30) 30 5 ar_30 h.1 dX6_on_30 ?_
      have h := h.2
      refine g_aload_n (pc := 31) dX6_on_31 rfl 0 rfl ?_
      obtain ⟨Q7, hc, h⟩ := h
      refine g_callVI (pc := 32) (M' := mX6_onNow) (n := 2) (As := []) (st := []) dX6_on_32 ml_X6_94 ok_X6_onNow rfl (rmOk_M _ _ _) (by decide) rc_25 (Nat.le_of_ble_eq_true rfl) rfl hc (fun r8 τ9 hq => ?_)
      have h := h r8 τ9 hq
      exact g_iret (pc := 35) rfl dX6_on_35 h
  · have h := h.2 q
    refine g_bipush (pc := 8) (-2 : Int32) dX6_on_8 rfl ?_
    exact g_iret (pc := 10) rfl dX6_on_10 h
set_option maxHeartbeats 4000000 in
set_option maxRecDepth 100000 in
theorem ct_X6_power {Γ : GT} {Q : Int32 → St → Prop} (σ : St) (x1 : Int32) (x2 : Int32)
    (h : ∃ Q1 : Int32 → St → Prop, CtI Γ mX6_isSender 1 [rf Γ 25, .int x1] σ Q1 ∧ ∀ (r2 : Int32) (τ3 : St), Q1 r2 τ3 → (((r2 = 0) → (Q (-2 : Int32) τ3)) ∧ ((¬ r2 = 0) → (∃ Q4 : Int32 → St → Prop, CtI Γ mX6_in 0 [.int x2, .int (0 : Int32), .int (999 : Int32)] τ3 Q4 ∧ ∀ (r5 : Int32) (τ6 : St), Q4 r5 τ6 → (((¬ r5 = 0) → (vp_in x1 5 ∧ (vp_in x1 5 ∧ (Q (τ6.1 31 x1.toNatClampNeg) (sI τ6 31 x1.toNatClampNeg x2))))) ∧ ((r5 = 0) → (Q (-2 : Int32) τ6))))))) :
    CtI Γ mX6_power 2 [rf Γ 25, .int x1, .int x2] σ Q := by
  refine ct_of (by decide +kernel) (Nat.le_of_ble_eq_true rfl) ?_
  show G Γ mX6_power (NI Γ 2 Q) 0 [(0, rf Γ 25), (1, .int x1), (2, .int x2)] [] σ
  refine g_aload_n (pc := 0) dX6_power_0 rfl 0 rfl ?_
  refine g_iload_n (pc := 1) dX6_power_1 rfl 1 rfl ?_
  obtain ⟨Q1, hc, h⟩ := h
  refine g_callVI (pc := 2) (M' := mX6_isSender) (n := 2) (As := [.int x1]) (st := []) dX6_power_2 ml_X6_79 ok_X6_isSender rfl (rmOk_M _ _ _) (by decide) rc_25 (Nat.le_of_ble_eq_true rfl) rfl hc (fun r2 τ3 hq => ?_)
  have h := h r2 τ3 hq
  refine g_if_eq (pc := 5) 19 dX6_power_5 (by decide) (fun q => ?_) (fun q => ?_)
  · have h := h.1 q
    refine g_bipush (pc := 19) (-2 : Int32) dX6_power_19 rfl ?_
    exact g_iret (pc := 21) rfl dX6_power_21 h
  · have h := h.2 q
    refine g_iload_n (pc := 8) dX6_power_8 rfl 2 rfl ?_
    refine g_iconst (pc := 9) (0 : Int32) dX6_power_9 rfl ?_
    refine g_sipush (pc := 10) (999 : Int32) dX6_power_10 rfl ?_
    obtain ⟨Q4, hc, h⟩ := h
    refine g_callSI (pc := 13) (M' := mX6_in) (n := 2) (As := [.int x2, .int (0 : Int32), .int (999 : Int32)]) (st := []) dX6_power_13 ml_X6_75 ok_X6_in rfl (rmOk_M _ _ _) (by decide) (Nat.le_of_ble_eq_true rfl) rfl hc (fun r5 τ6 hq => ?_)
    have h := h r5 τ6 hq
    refine g_if_ne (pc := 16) 22 dX6_power_16 (by decide) (fun q => ?_) (fun q => ?_)
    · have h := h.1 q
      refine g_aload_n (pc := 22) dX6_power_22 rfl 0 rfl ?_
      refine g_getR (pc := 23) 25 6 7 31 fr_25_7 fl_X6_30 dX6_power_23 ?_
      refine g_iload_n (pc := 26) dX6_power_26 rfl 1 rfl ?_
      refine g_iald (pc := 27) 31 5 ar_31 h.1 dX6_power_27 ?_
      have h := h.2
      refine g_istore_n (pc := 28) [(3, _), (0, _), (1, _), (2, _)] dX6_power_28 rfl (Nat.le_of_ble_eq_true rfl) rfl ?_
      refine g_aload_n (pc := 29) dX6_power_29 rfl 1 rfl ?_
      refine g_getR (pc := 30) 25 6 7 31 fr_25_7 fl_X6_30 dX6_power_30 ?_
      refine g_iload_n (pc := 33) dX6_power_33 rfl 2 rfl ?_
      refine g_iload_n (pc := 34) dX6_power_34 rfl 3 rfl ?_
      refine g_iast (pc := 35) 31 5 ar_31 h.1 dX6_power_35 ?_
      have h := h.2
      refine g_iload_n (pc := 36) dX6_power_36 rfl 0 rfl ?_
      exact g_iret (pc := 37) rfl dX6_power_37 h
    · have h := h.2 q
      refine g_bipush (pc := 19) (-2 : Int32) dX6_power_19 rfl ?_
      exact g_iret (pc := 21) rfl dX6_power_21 h
set_option maxHeartbeats 4000000 in
set_option maxRecDepth 100000 in
theorem ct_X6_rule {Γ : GT} {Q : Int32 → St → Prop} (σ : St) (x1 : Int32)
    (h : ∃ Q1 : Int32 → St → Prop, CtI Γ mX6_in 0 [.int x1, .int (0 : Int32), .int (2 : Int32)] σ Q1 ∧ ∀ (r2 : Int32) (τ3 : St), Q1 r2 τ3 → (((¬ r2 = 0) → (Q (τ3.1 25 1) (sI τ3 25 1 x1))) ∧ ((r2 = 0) → (Q (-2 : Int32) τ3)))) :
    CtI Γ mX6_rule 1 [rf Γ 25, .int x1] σ Q := by
  refine ct_of (by decide +kernel) (Nat.le_of_ble_eq_true rfl) ?_
  show G Γ mX6_rule (NI Γ 1 Q) 0 [(0, rf Γ 25), (1, .int x1)] [] σ
  refine g_iload_n (pc := 0) dX6_rule_0 rfl 1 rfl ?_
  refine g_iconst (pc := 1) (0 : Int32) dX6_rule_1 rfl ?_
  refine g_iconst (pc := 2) (2 : Int32) dX6_rule_2 rfl ?_
  obtain ⟨Q1, hc, h⟩ := h
  refine g_callSI (pc := 3) (M' := mX6_in) (n := 1) (As := [.int x1, .int (0 : Int32), .int (2 : Int32)]) (st := []) dX6_rule_3 ml_X6_75 ok_X6_in rfl (rmOk_M _ _ _) (by decide) (Nat.le_of_ble_eq_true rfl) rfl hc (fun r2 τ3 hq => ?_)
  have h := h r2 τ3 hq
  refine g_if_ne (pc := 6) 12 dX6_rule_6 (by decide) (fun q => ?_) (fun q => ?_)
  · have h := h.1 q
    refine g_aload_n (pc := 12) dX6_rule_12 rfl 0 rfl ?_
    refine g_getI (pc := 13) 25 6 1 fi_25_1 fl_X6_98 dX6_rule_13 ?_
    refine g_istore_n (pc := 16) [(2, _), (0, _), (1, _)] dX6_rule_16 rfl (Nat.le_of_ble_eq_true rfl) rfl ?_
    refine g_aload_n (pc := 17) dX6_rule_17 rfl 1 rfl ?_
    refine g_iload_n (pc := 18) dX6_rule_18 rfl 2 rfl ?_
    refine g_put (pc := 19) 25 6 1 fpp_25_1 fp_X6_98 dX6_rule_19 ?_
    refine g_iload_n (pc := 22) dX6_rule_22 rfl 0 rfl ?_
    exact g_iret (pc := 23) rfl dX6_rule_23 h
  · have h := h.2 q
    refine g_bipush (pc := 9) (-2 : Int32) dX6_rule_9 rfl ?_
    exact g_iret (pc := 11) rfl dX6_rule_11 h
set_option maxHeartbeats 4000000 in
set_option maxRecDepth 100000 in
theorem ct_X6_type {Γ : GT} {Q : Int32 → St → Prop} (σ : St) (x1 : Int32)
    (h : ∃ Q1 : Int32 → St → Prop, CtI Γ mX6_in 0 [.int x1, .int (0 : Int32), .int (255 : Int32)] σ Q1 ∧ ∀ (r2 : Int32) (τ3 : St), Q1 r2 τ3 → (((¬ r2 = 0) → (((¬ (τ3.1 25 9) = (12 : Int32)) → (vp_in (τ3.1 25 9) 12 ∧ (Q ((sI (sI τ3 32 (τ3.1 25 9).toNatClampNeg x1) 25 9 (((sI τ3 32 (τ3.1 25 9).toNatClampNeg x1).1 25 9) + (1 : Int32))).1 25 9) (sI (sI τ3 32 (τ3.1 25 9).toNatClampNeg x1) 25 9 (((sI τ3 32 (τ3.1 25 9).toNatClampNeg x1).1 25 9) + (1 : Int32)))))) ∧ (((τ3.1 25 9) = (12 : Int32)) → (Q (-4 : Int32) τ3)))) ∧ ((r2 = 0) → (Q (-2 : Int32) τ3)))) :
    CtI Γ mX6_type 1 [rf Γ 25, .int x1] σ Q := by
  refine ct_of (by decide +kernel) (Nat.le_of_ble_eq_true rfl) ?_
  show G Γ mX6_type (NI Γ 1 Q) 0 [(0, rf Γ 25), (1, .int x1)] [] σ
  refine g_iload_n (pc := 0) dX6_type_0 rfl 1 rfl ?_
  refine g_iconst (pc := 1) (0 : Int32) dX6_type_1 rfl ?_
  refine g_sipush (pc := 2) (255 : Int32) dX6_type_2 rfl ?_
  obtain ⟨Q1, hc, h⟩ := h
  refine g_callSI (pc := 5) (M' := mX6_in) (n := 1) (As := [.int x1, .int (0 : Int32), .int (255 : Int32)]) (st := []) dX6_type_5 ml_X6_75 ok_X6_in rfl (rmOk_M _ _ _) (by decide) (Nat.le_of_ble_eq_true rfl) rfl hc (fun r2 τ3 hq => ?_)
  have h := h r2 τ3 hq
  refine g_if_ne (pc := 8) 14 dX6_type_8 (by decide) (fun q => ?_) (fun q => ?_)
  · have h := h.1 q
    refine g_aload_n (pc := 14) dX6_type_14 rfl 0 rfl ?_
    refine g_getI (pc := 15) 25 6 9 fi_25_9 fl_X6_101 dX6_type_15 ?_
    refine g_bipush (pc := 18) (12 : Int32) dX6_type_18 rfl ?_
    refine g_icmp_ne (pc := 20) 26 dX6_type_20 (by decide) (fun q => ?_) (fun q => ?_)
    · have h := h.1 q
      refine g_aload_n (pc := 26) dX6_type_26 rfl 0 rfl ?_
      refine g_getR (pc := 27) 25 6 8 32 fr_25_8 fl_X6_33 dX6_type_27 ?_
      refine g_aload_n (pc := 30) dX6_type_30 rfl 0 rfl ?_
      refine g_getI (pc := 31) 25 6 9 fi_25_9 fl_X6_101 dX6_type_31 ?_
      refine g_iload_n (pc := 34) dX6_type_34 rfl 1 rfl ?_
      refine g_iast (pc := 35) 32 12 ar_32 h.1 dX6_type_35 ?_
      have h := h.2
      refine g_aload_n (pc := 36) dX6_type_36 rfl 0 rfl ?_
      refine g_dup (pc := 37) dX6_type_37 rfl ?_
      refine g_getI (pc := 38) 25 6 9 fi_25_9 fl_X6_101 dX6_type_38 ?_
      refine g_iconst (pc := 41) (1 : Int32) dX6_type_41 rfl ?_
      refine g_iadd (pc := 42) dX6_type_42 ?_
      refine g_put (pc := 43) 25 6 9 fpp_25_9 fp_X6_101 dX6_type_43 ?_
      refine g_aload_n (pc := 46) dX6_type_46 rfl 0 rfl ?_
      refine g_getI (pc := 47) 25 6 9 fi_25_9 fl_X6_101 dX6_type_47 ?_
      exact g_iret (pc := 50) rfl dX6_type_50 h
    · have h := h.2 q
      refine g_bipush (pc := 23) (-4 : Int32) dX6_type_23 rfl ?_
      exact g_iret (pc := 25) rfl dX6_type_25 h
  · have h := h.2 q
    refine g_bipush (pc := 11) (-2 : Int32) dX6_type_11 rfl ?_
    exact g_iret (pc := 13) rfl dX6_type_13 h
set_option maxHeartbeats 4000000 in
set_option maxRecDepth 100000 in
theorem ct_X6_wipe {Γ : GT} {Q : Int32 → St → Prop} (σ : St) 
    (h : Q (σ.1 25 9) (sI σ 25 9 (0 : Int32))) :
    CtI Γ mX6_wipe 0 [rf Γ 25] σ Q := by
  refine ct_of (by decide +kernel) (Nat.le_of_ble_eq_true rfl) ?_
  show G Γ mX6_wipe (NI Γ 0 Q) 0 [(0, rf Γ 25)] [] σ
  refine g_aload_n (pc := 0) dX6_wipe_0 rfl 0 rfl ?_
  refine g_getI (pc := 1) 25 6 9 fi_25_9 fl_X6_101 dX6_wipe_1 ?_
  refine g_istore_n (pc := 4) [(1, _), (0, _)] dX6_wipe_4 rfl (Nat.le_of_ble_eq_true rfl) rfl ?_
  refine g_aload_n (pc := 5) dX6_wipe_5 rfl 1 rfl ?_
  refine g_iconst (pc := 6) (0 : Int32) dX6_wipe_6 rfl ?_
  refine g_put (pc := 7) 25 6 9 fpp_25_9 fp_X6_101 dX6_wipe_7 ?_
  refine g_iload_n (pc := 10) dX6_wipe_10 rfl 0 rfl ?_
  exact g_iret (pc := 11) rfl dX6_wipe_11 h
set_option maxHeartbeats 4000000 in
set_option maxRecDepth 100000 in
theorem ct_X6_fault {Γ : GT} {Q : Int32 → St → Prop} (σ : St) 
    (h : G Γ mX6_fault (NI Γ 2 Q) 9 [(0, rf Γ 25), (1, .int (-1 : Int32)), (2, .int ((σ.1 25 9) - (1 : Int32)))] [] σ) :
    CtI Γ mX6_fault 2 [rf Γ 25] σ Q := by
  refine ct_of (by decide +kernel) (Nat.le_of_ble_eq_true rfl) ?_
  show G Γ mX6_fault (NI Γ 2 Q) 0 [(0, rf Γ 25)] [] σ
  refine g_iconst (pc := 0) (-1 : Int32) dX6_fault_0 rfl ?_
  refine g_istore_n (pc := 1) [(1, _), (0, _)] dX6_fault_1 rfl (Nat.le_of_ble_eq_true rfl) rfl ?_
  refine g_aload_n (pc := 2) dX6_fault_2 rfl 1 rfl ?_
  refine g_getI (pc := 3) 25 6 9 fi_25_9 fl_X6_101 dX6_fault_3 ?_
  refine g_iconst (pc := 6) (1 : Int32) dX6_fault_6 rfl ?_
  refine g_isub (pc := 7) dX6_fault_7 ?_
  refine g_istore_n (pc := 8) [(2, _), (1, _), (0, _)] dX6_fault_8 rfl (Nat.le_of_ble_eq_true rfl) rfl ?_
  refine g_pm [2, 1, 0] rfl ?_
  exact h
set_option maxHeartbeats 4000000 in
set_option maxRecDepth 100000 in
theorem t_X6_fault_9 {Γ : GT} {Q : Int32 → St → Prop} (σ : St) (x1 : Int32) (x2 : Int32)
    (h : ((x2 < 0) → (Q x1 σ)) ∧ ((¬ x2 < 0) → (vp_in x2 12 ∧ (∃ Q1 : Int32 → St → Prop, CtI Γ mX6_isSender 1 [rf Γ 25, .int ((σ.1 32 x2.toNatClampNeg) - (97 : Int32))] σ Q1 ∧ ∀ (r2 : Int32) (τ3 : St), Q1 r2 τ3 → (((r2 = 0) → (G Γ mX6_fault (NI Γ 2 Q) 9 [(0, rf Γ 25), (1, .int x2), (2, .int (x2 + (-1 : Int32)))] [] τ3)) ∧ ((¬ r2 = 0) → (G Γ mX6_fault (NI Γ 2 Q) 9 [(0, rf Γ 25), (1, .int x1), (2, .int (x2 + (-1 : Int32)))] [] τ3))))))) :
    G Γ mX6_fault (NI Γ 2 Q) 9 [(0, rf Γ 25), (1, .int x1), (2, .int x2)] [] σ := by
  refine g_iload_n (pc := 9) dX6_fault_9 rfl 2 rfl ?_
  refine g_if_lt (pc := 10) 41 dX6_fault_10 (by decide) (fun q => ?_) (fun q => ?_)
  · have h := h.1 q
    refine g_iload_n (pc := 41) dX6_fault_41 rfl 1 rfl ?_
    exact g_iret (pc := 42) rfl dX6_fault_42 h
  · have h := h.2 q
    refine g_aload_n (pc := 13) dX6_fault_13 rfl 0 rfl ?_
    refine g_aload_n (pc := 14) dX6_fault_14 rfl 0 rfl ?_
    refine g_getR (pc := 15) 25 6 8 32 fr_25_8 fl_X6_33 dX6_fault_15 ?_
    refine g_iload_n (pc := 18) dX6_fault_18 rfl 2 rfl ?_
    refine g_iald (pc := 19) 32 12 ar_32 h.1 dX6_fault_19 ?_
    have h := h.2
    refine g_bipush (pc := 20) (97 : Int32) dX6_fault_20 rfl ?_
    refine g_isub (pc := 22) dX6_fault_22 ?_
    obtain ⟨Q1, hc, h⟩ := h
    refine g_callVI (pc := 23) (M' := mX6_isSender) (n := 2) (As := [.int ((σ.1 32 x2.toNatClampNeg) - (97 : Int32))]) (st := []) dX6_fault_23 ml_X6_79 ok_X6_isSender rfl (rmOk_M _ _ _) (by decide) rc_25 (Nat.le_of_ble_eq_true rfl) rfl hc (fun r2 τ3 hq => ?_)
    have h := h r2 τ3 hq
    refine g_if_eq (pc := 26) 33 dX6_fault_26 (by decide) (fun q => ?_) (fun q => ?_)
    · have h := h.1 q
      refine g_iload_n (pc := 33) dX6_fault_33 rfl 2 rfl ?_
      refine g_istore_n (pc := 34) [(1, _), (0, _), (2, _)] dX6_fault_34 rfl (Nat.le_of_ble_eq_true rfl) rfl ?_
      refine g_iinc (pc := 35) (-1 : Int32) [(2, _), (1, _), (0, _)] dX6_fault_35 2 rfl rfl (Nat.le_of_ble_eq_true rfl) rfl ?_
      refine g_goto (pc := 38) 9 dX6_fault_38 (by decide) ?_
      refine g_pm [2, 1, 0] rfl ?_
      exact h
    · have h := h.2 q
      refine g_iload_n (pc := 29) dX6_fault_29 rfl 1 rfl ?_
      refine g_goto (pc := 30) 34 dX6_fault_30 (by decide) ?_
      refine g_istore_n (pc := 34) [(1, _), (0, _), (2, _)] dX6_fault_34 rfl (Nat.le_of_ble_eq_true rfl) rfl ?_
      refine g_iinc (pc := 35) (-1 : Int32) [(2, _), (1, _), (0, _)] dX6_fault_35 2 rfl rfl (Nat.le_of_ble_eq_true rfl) rfl ?_
      refine g_goto (pc := 38) 9 dX6_fault_38 (by decide) ?_
      refine g_pm [2, 1, 0] rfl ?_
      exact h
set_option maxHeartbeats 4000000 in
set_option maxRecDepth 100000 in
theorem ct_X6_read {Γ : GT} {Q : Int32 → St → Prop} (σ : St) (x1 : Int32)
    (h : ∃ Q1 : Int32 → St → Prop, CtI Γ mX6_isSheet 1 [.int x1] σ Q1 ∧ ∀ (r2 : Int32) (τ3 : St), Q1 r2 τ3 → (((¬ r2 = 0) → (vp_in x1 4 ∧ (((¬ (τ3.1 39 x1.toNatClampNeg) = 0) → (G Γ mX6_read (NI Γ 2 Q) 27 [(0, rf Γ 25), (1, .int x1), (2, .int (0 : Int32))] [] τ3)) ∧ (((τ3.1 39 x1.toNatClampNeg) = 0) → (∃ Q4 : Int32 → St → Prop, CtI Γ mX6_meets 0 [rf Γ 25, .int (1 : Int32)] τ3 Q4 ∧ ∀ (r5 : Int32) (τ6 : St), Q4 r5 τ6 → (Q r5 τ6)))))) ∧ ((r2 = 0) → (Q (-2 : Int32) τ3)))) :
    CtI Γ mX6_read 2 [rf Γ 25, .int x1] σ Q := by
  refine ct_of (by decide +kernel) (Nat.le_of_ble_eq_true rfl) ?_
  show G Γ mX6_read (NI Γ 2 Q) 0 [(0, rf Γ 25), (1, .int x1)] [] σ
  refine g_iload_n (pc := 0) dX6_read_0 rfl 1 rfl ?_
  obtain ⟨Q1, hc, h⟩ := h
  refine g_callSI (pc := 1) (M' := mX6_isSheet) (n := 2) (As := [.int x1]) (st := []) dX6_read_1 ml_X6_104 ok_X6_isSheet rfl (rmOk_M _ _ _) (by decide) (Nat.le_of_ble_eq_true rfl) rfl hc (fun r2 τ3 hq => ?_)
  have h := h r2 τ3 hq
  refine g_if_ne (pc := 4) 10 dX6_read_4 (by decide) (fun q => ?_) (fun q => ?_)
  · have h := h.1 q
    refine g_aload_n (pc := 10) dX6_read_10 rfl 0 rfl ?_
    refine g_getR (pc := 11) 25 6 18 39 fr_25_18 fl_X6_58 dX6_read_11 ?_
    refine g_iload_n (pc := 14) dX6_read_14 rfl 1 rfl ?_
    refine g_zald (pc := 15) 39 4 ar_39 h.1 dX6_read_15 ?_
    have h := h.2
    refine g_if_ne (pc := 16) 25 dX6_read_16 (by decide) (fun q => ?_) (fun q => ?_)
    · have h := h.1 q
      refine g_iconst (pc := 25) (0 : Int32) dX6_read_25 rfl ?_
      refine g_istore_n (pc := 26) [(2, _), (0, _), (1, _)] dX6_read_26 rfl (Nat.le_of_ble_eq_true rfl) rfl ?_
      refine g_pm [1, 2, 0] rfl ?_
      exact h
    · have h := h.2 q
      refine g_aload_n (pc := 19) dX6_read_19 rfl 0 rfl ?_
      refine g_iconst (pc := 20) (1 : Int32) dX6_read_20 rfl ?_
      obtain ⟨Q4, hc, h⟩ := h
      refine g_callVI (pc := 21) (M' := mX6_meets) (n := 2) (As := [.int (1 : Int32)]) (st := []) dX6_read_21 ml_X6_107 ok_X6_meets rfl (rmOk_M _ _ _) (by decide) rc_25 (Nat.le_of_ble_eq_true rfl) rfl hc (fun r5 τ6 hq => ?_)
      have h := h r5 τ6 hq
      exact g_iret (pc := 24) rfl dX6_read_24 h
  · have h := h.2 q
    refine g_bipush (pc := 7) (-2 : Int32) dX6_read_7 rfl ?_
    exact g_iret (pc := 9) rfl dX6_read_9 h
set_option maxHeartbeats 4000000 in
set_option maxRecDepth 100000 in
theorem t_X6_read_27 {Γ : GT} {Q : Int32 → St → Prop} (σ : St) (x1 : Int32) (x2 : Int32)
    (h : vp_in x1 4 ∧ ((((σ.1 41 x1.toNatClampNeg) ≤ x2) → (Q x2 σ)) ∧ ((¬ (σ.1 41 x1.toNatClampNeg) ≤ x2) → (((((σ.1 25 0) * (σ.1 25 0)) ≤ x2) → (Q x2 σ)) ∧ ((¬ ((σ.1 25 0) * (σ.1 25 0)) ≤ x2) → ((¬ (σ.1 25 0) = 0) ∧ ((¬ (σ.1 25 0) = 0) ∧ (vp_in (((60 : Int32) * x1) + x2) 240 ∧ (∃ Q7 : Int32 → St → Prop, CtI Γ mX6_isGain 1 [.int (x2 / (σ.1 25 0)), .int (x2 - x2 / (σ.1 25 0) * (σ.1 25 0)), .int (σ.1 42 (((60 : Int32) * x1) + x2).toNatClampNeg)] σ Q7 ∧ ∀ (r8 : Int32) (τ9 : St), Q7 r8 τ9 → (((r8 = 0) → (Q x2 τ9)) ∧ ((¬ r8 = 0) → ((¬ (τ9.1 25 0) = 0) ∧ ((¬ (τ9.1 25 0) = 0) ∧ (vp_in (((60 : Int32) * x1) + x2) 240 ∧ (vp_in (((5 : Int32) * (x2 / (τ9.1 25 0))) + (x2 - x2 / (τ9.1 25 0) * (τ9.1 25 0))) 25 ∧ (G Γ mX6_read (NI Γ 2 Q) 27 [(0, rf Γ 25), (1, .int x1), (2, .int (x2 + (1 : Int32)))] [] (sI τ9 26 (((5 : Int32) * (x2 / (τ9.1 25 0))) + (x2 - x2 / (τ9.1 25 0) * (τ9.1 25 0))).toNatClampNeg (τ9.1 42 (((60 : Int32) * x1) + x2).toNatClampNeg)))))))))))))))))) :
    G Γ mX6_read (NI Γ 2 Q) 27 [(0, rf Γ 25), (1, .int x1), (2, .int x2)] [] σ := by
  refine g_iload_n (pc := 27) dX6_read_27 rfl 2 rfl ?_
  refine g_aload_n (pc := 28) dX6_read_28 rfl 0 rfl ?_
  refine g_getR (pc := 29) 25 6 20 41 fr_25_20 fl_X6_64 dX6_read_29 ?_
  refine g_iload_n (pc := 32) dX6_read_32 rfl 1 rfl ?_
  refine g_iald (pc := 33) 41 4 ar_41 h.1 dX6_read_33 ?_
  have h := h.2
  refine g_icmp_ge (pc := 34) 116 dX6_read_34 (by decide) (fun q => ?_) (fun q => ?_)
  · have h := h.1 q
    refine g_iload_n (pc := 116) dX6_read_116 rfl 2 rfl ?_
    exact g_iret (pc := 117) rfl dX6_read_117 h
  · have h := h.2 q
    refine g_iload_n (pc := 37) dX6_read_37 rfl 2 rfl ?_
    refine g_aload_n (pc := 38) dX6_read_38 rfl 0 rfl ?_
    refine g_getI (pc := 39) 25 6 0 fi_25_0 fl_X6_7 dX6_read_39 ?_
    refine g_aload_n (pc := 42) dX6_read_42 rfl 0 rfl ?_
    refine g_getI (pc := 43) 25 6 0 fi_25_0 fl_X6_7 dX6_read_43 ?_
    refine g_imul (pc := 46) dX6_read_46 ?_
    refine g_icmp_ge (pc := 47) 116 dX6_read_47 (by decide) (fun q => ?_) (fun q => ?_)
    · have h := h.1 q
      refine g_iload_n (pc := 116) dX6_read_116 rfl 2 rfl ?_
      exact g_iret (pc := 117) rfl dX6_read_117 h
    · have h := h.2 q
      refine g_iload_n (pc := 50) dX6_read_50 rfl 2 rfl ?_
      refine g_aload_n (pc := 51) dX6_read_51 rfl 0 rfl ?_
      refine g_getI (pc := 52) 25 6 0 fi_25_0 fl_X6_7 dX6_read_52 ?_
      refine g_idiv (pc := 55) dX6_read_55 h.1 ?_
      have h := h.2
      refine g_iload_n (pc := 56) dX6_read_56 rfl 2 rfl ?_
      refine g_aload_n (pc := 57) dX6_read_57 rfl 0 rfl ?_
      refine g_getI (pc := 58) 25 6 0 fi_25_0 fl_X6_7 dX6_read_58 ?_
      refine g_irem (pc := 61) dX6_read_61 h.1 ?_
      have h := h.2
      refine g_aload_n (pc := 62) dX6_read_62 rfl 0 rfl ?_
      refine g_getR (pc := 63) 25 6 21 42 fr_25_21 fl_X6_67 dX6_read_63 ?_
      refine g_bipush (pc := 66) (60 : Int32) dX6_read_66 rfl ?_
      refine g_iload_n (pc := 68) dX6_read_68 rfl 1 rfl ?_
      refine g_imul (pc := 69) dX6_read_69 ?_
      refine g_iload_n (pc := 70) dX6_read_70 rfl 2 rfl ?_
      refine g_iadd (pc := 71) dX6_read_71 ?_
      refine g_iald (pc := 72) 42 240 ar_42 h.1 dX6_read_72 ?_
      have h := h.2
      obtain ⟨Q7, hc, h⟩ := h
      refine g_callSI (pc := 73) (M' := mX6_isGain) (n := 2) (As := [.int (x2 / (σ.1 25 0)), .int (x2 - x2 / (σ.1 25 0) * (σ.1 25 0)), .int (σ.1 42 (((60 : Int32) * x1) + x2).toNatClampNeg)]) (st := []) dX6_read_73 ml_X6_83 ok_X6_isGain rfl (rmOk_M _ _ _) (by decide) (Nat.le_of_ble_eq_true rfl) rfl hc (fun r8 τ9 hq => ?_)
      have h := h r8 τ9 hq
      refine g_if_eq (pc := 76) 116 dX6_read_76 (by decide) (fun q => ?_) (fun q => ?_)
      · have h := h.1 q
        refine g_iload_n (pc := 116) dX6_read_116 rfl 2 rfl ?_
        exact g_iret (pc := 117) rfl dX6_read_117 h
      · have h := h.2 q
        refine g_aload_n (pc := 79) dX6_read_79 rfl 0 rfl ?_
        refine g_getR (pc := 80) 25 6 2 26 fr_25_2 fl_X6_13 dX6_read_80 ?_
        refine g_iconst (pc := 83) (5 : Int32) dX6_read_83 rfl ?_
        refine g_iload_n (pc := 84) dX6_read_84 rfl 2 rfl ?_
        refine g_aload_n (pc := 85) dX6_read_85 rfl 0 rfl ?_
        refine g_getI (pc := 86) 25 6 0 fi_25_0 fl_X6_7 dX6_read_86 ?_
        refine g_idiv (pc := 89) dX6_read_89 h.1 ?_
        have h := h.2
        refine g_imul (pc := 90) dX6_read_90 ?_
        refine g_iload_n (pc := 91) dX6_read_91 rfl 2 rfl ?_
        refine g_aload_n (pc := 92) dX6_read_92 rfl 0 rfl ?_
        refine g_getI (pc := 93) 25 6 0 fi_25_0 fl_X6_7 dX6_read_93 ?_
        refine g_irem (pc := 96) dX6_read_96 h.1 ?_
        have h := h.2
        refine g_iadd (pc := 97) dX6_read_97 ?_
        refine g_aload_n (pc := 98) dX6_read_98 rfl 0 rfl ?_
        refine g_getR (pc := 99) 25 6 21 42 fr_25_21 fl_X6_67 dX6_read_99 ?_
        refine g_bipush (pc := 102) (60 : Int32) dX6_read_102 rfl ?_
        refine g_iload_n (pc := 104) dX6_read_104 rfl 1 rfl ?_
        refine g_imul (pc := 105) dX6_read_105 ?_
        refine g_iload_n (pc := 106) dX6_read_106 rfl 2 rfl ?_
        refine g_iadd (pc := 107) dX6_read_107 ?_
        refine g_iald (pc := 108) 42 240 ar_42 h.1 dX6_read_108 ?_
        have h := h.2
        refine g_iast (pc := 109) 26 25 ar_26 h.1 dX6_read_109 ?_
        have h := h.2
        refine g_iinc (pc := 110) (1 : Int32) [(2, _), (0, _), (1, _)] dX6_read_110 2 rfl rfl (Nat.le_of_ble_eq_true rfl) rfl ?_
        refine g_goto (pc := 113) 27 dX6_read_113 (by decide) ?_
        refine g_pm [1, 2, 0] rfl ?_
        exact h
set_option maxHeartbeats 4000000 in
set_option maxRecDepth 100000 in
theorem ct_X6_heardBy {Γ : GT} {Q : Int32 → St → Prop} (σ : St) (x1 : Int32)
    (h : vp_in x1 5 ∧ (G Γ mX6_heardBy (NI Γ 0 Q) 9 [(0, rf Γ 25), (1, .int x1), (2, .int (σ.1 28 x1.toNatClampNeg)), (3, .int (0 : Int32))] [] σ)) :
    CtI Γ mX6_heardBy 0 [rf Γ 25, .int x1] σ Q := by
  refine ct_of (by decide +kernel) (Nat.le_of_ble_eq_true rfl) ?_
  show G Γ mX6_heardBy (NI Γ 0 Q) 0 [(0, rf Γ 25), (1, .int x1)] [] σ
  refine g_aload_n (pc := 0) dX6_heardBy_0 rfl 0 rfl ?_
  refine g_getR (pc := 1) 25 6 4 28 fr_25_4 fl_X6_20 dX6_heardBy_1 ?_
  refine g_iload_n (pc := 4) dX6_heardBy_4 rfl 1 rfl ?_
  refine g_iald (pc := 5) 28 5 ar_28 h.1 dX6_heardBy_5 ?_
  have h := h.2
  refine g_istore_n (pc := 6) [(2, _), (0, _), (1, _)] dX6_heardBy_6 rfl (Nat.le_of_ble_eq_true rfl) rfl ?_
  refine g_iconst (pc := 7) (0 : Int32) dX6_heardBy_7 rfl ?_
  refine g_istore_n (pc := 8) [(3, _), (2, _), (0, _), (1, _)] dX6_heardBy_8 rfl (Nat.le_of_ble_eq_true rfl) rfl ?_
  refine g_pm [2, 3, 1, 0] rfl ?_
  exact h
set_option maxHeartbeats 4000000 in
set_option maxRecDepth 100000 in
theorem t_X6_heardBy_9 {Γ : GT} {Q : Int32 → St → Prop} (σ : St) (x1 : Int32) (x2 : Int32) (x3 : Int32)
    (h : (((σ.1 25 0) ≤ x3) → (Q x2 σ)) ∧ ((¬ (σ.1 25 0) ≤ x3) → (((x3 = x1) → (G Γ mX6_heardBy (NI Γ 0 Q) 9 [(0, rf Γ 25), (1, .int x1), (2, .int (x2 + (0 : Int32))), (3, .int (x3 + (1 : Int32)))] [] σ)) ∧ ((¬ x3 = x1) → (vp_in x3 5 ∧ ((((σ.1 30 x3.toNatClampNeg) = 0) → (G Γ mX6_heardBy (NI Γ 0 Q) 9 [(0, rf Γ 25), (1, .int x1), (2, .int (x2 + (0 : Int32))), (3, .int (x3 + (1 : Int32)))] [] σ)) ∧ ((¬ (σ.1 30 x3.toNatClampNeg) = 0) → (vp_in (((5 : Int32) * x1) + x3) 25 ∧ (vp_in x3 5 ∧ (∀ v1 : Int32, v1 = (x2 + ((σ.1 26 (((5 : Int32) * x1) + x3).toNatClampNeg) * (σ.1 36 x3.toNatClampNeg))) → G Γ mX6_heardBy (NI Γ 0 Q) 9 [(0, rf Γ 25), (1, .int x1), (2, .int v1), (3, .int (x3 + (1 : Int32)))] [] σ)))))))))) :
    G Γ mX6_heardBy (NI Γ 0 Q) 9 [(0, rf Γ 25), (1, .int x1), (2, .int x2), (3, .int x3)] [] σ := by
  refine g_iload_n (pc := 9) dX6_heardBy_9 rfl 3 rfl ?_
  refine g_aload_n (pc := 10) dX6_heardBy_10 rfl 0 rfl ?_
  refine g_getI (pc := 11) 25 6 0 fi_25_0 fl_X6_7 dX6_heardBy_11 ?_
  refine g_icmp_ge (pc := 14) 61 dX6_heardBy_14 (by decide) (fun q => ?_) (fun q => ?_)
  · have h := h.1 q
    refine g_iload_n (pc := 61) dX6_heardBy_61 rfl 2 rfl ?_
    exact g_iret (pc := 62) rfl dX6_heardBy_62 h
  · have h := h.2 q
    refine g_iload_n (pc := 17) dX6_heardBy_17 rfl 2 rfl ?_
    refine g_iload_n (pc := 18) dX6_heardBy_18 rfl 3 rfl ?_
    refine g_iload_n (pc := 19) dX6_heardBy_19 rfl 1 rfl ?_
    refine g_icmp_eq (pc := 20) 52 dX6_heardBy_20 (by decide) (fun q => ?_) (fun q => ?_)
    · have h := h.1 q
      refine g_iconst (pc := 52) (0 : Int32) dX6_heardBy_52 rfl ?_
      refine g_iadd (pc := 53) dX6_heardBy_53 ?_
      refine g_istore_n (pc := 54) [(2, _), (0, _), (1, _), (3, _)] dX6_heardBy_54 rfl (Nat.le_of_ble_eq_true rfl) rfl ?_
      refine g_iinc (pc := 55) (1 : Int32) [(3, _), (2, _), (0, _), (1, _)] dX6_heardBy_55 3 rfl rfl (Nat.le_of_ble_eq_true rfl) rfl ?_
      refine g_goto (pc := 58) 9 dX6_heardBy_58 (by decide) ?_
      refine g_pm [2, 3, 1, 0] rfl ?_
      exact h
    · have h := h.2 q
      refine g_aload_n (pc := 23) dX6_heardBy_23 rfl 0 rfl ?_
      refine g_getR (pc := 24) 25 6 6 30 fr_25_6 fl_X6_26 dX6_heardBy_24 ?_
      refine g_iload_n (pc := 27) dX6_heardBy_27 rfl 3 rfl ?_
      refine g_zald (pc := 28) 30 5 ar_30 h.1 dX6_heardBy_28 ?_
      have h := h.2
      refine g_if_eq (pc := 29) 52 dX6_heardBy_29 (by decide) (fun q => ?_) (fun q => ?_)
      · have h := h.1 q
        refine g_iconst (pc := 52) (0 : Int32) dX6_heardBy_52 rfl ?_
        refine g_iadd (pc := 53) dX6_heardBy_53 ?_
        refine g_istore_n (pc := 54) [(2, _), (0, _), (1, _), (3, _)] dX6_heardBy_54 rfl (Nat.le_of_ble_eq_true rfl) rfl ?_
        refine g_iinc (pc := 55) (1 : Int32) [(3, _), (2, _), (0, _), (1, _)] dX6_heardBy_55 3 rfl rfl (Nat.le_of_ble_eq_true rfl) rfl ?_
        refine g_goto (pc := 58) 9 dX6_heardBy_58 (by decide) ?_
        refine g_pm [2, 3, 1, 0] rfl ?_
        exact h
      · have h := h.2 q
        refine g_aload_n (pc := 32) dX6_heardBy_32 rfl 0 rfl ?_
        refine g_getR (pc := 33) 25 6 2 26 fr_25_2 fl_X6_13 dX6_heardBy_33 ?_
        refine g_iconst (pc := 36) (5 : Int32) dX6_heardBy_36 rfl ?_
        refine g_iload_n (pc := 37) dX6_heardBy_37 rfl 1 rfl ?_
        refine g_imul (pc := 38) dX6_heardBy_38 ?_
        refine g_iload_n (pc := 39) dX6_heardBy_39 rfl 3 rfl ?_
        refine g_iadd (pc := 40) dX6_heardBy_40 ?_
        refine g_iald (pc := 41) 26 25 ar_26 h.1 dX6_heardBy_41 ?_
        have h := h.2
        refine g_aload_n (pc := 42) dX6_heardBy_42 rfl 0 rfl ?_
        refine g_getR (pc := 43) 25 6 15 36 fr_25_15 fl_X6_49 dX6_heardBy_43 ?_
        refine g_iload_n (pc := 46) dX6_heardBy_46 rfl 3 rfl ?_
        refine g_iald (pc := 47) 36 5 ar_36 h.1 dX6_heardBy_47 ?_
        have h := h.2
        refine g_imul (pc := 48) dX6_heardBy_48 ?_
        refine g_goto (pc := 49) 53 dX6_heardBy_49 (by decide) ?_
        refine g_iadd (pc := 53) dX6_heardBy_53 ?_
        refine g_topI (fun v1 ev1 => ?_)
        refine g_istore_n (pc := 54) [(2, _), (0, _), (1, _), (3, _)] dX6_heardBy_54 rfl (Nat.le_of_ble_eq_true rfl) rfl ?_
        have h := h v1 ev1
        refine g_iinc (pc := 55) (1 : Int32) [(3, _), (2, _), (0, _), (1, _)] dX6_heardBy_55 3 rfl rfl (Nat.le_of_ble_eq_true rfl) rfl ?_
        refine g_goto (pc := 58) 9 dX6_heardBy_58 (by decide) ?_
        refine g_pm [2, 3, 1, 0] rfl ?_
        exact h
set_option maxHeartbeats 4000000 in
set_option maxRecDepth 100000 in
theorem ct_X6_triesNow {Γ : GT} {Q : St → Prop} (σ : St) 
    (h : G Γ mX6_triesNow (NV Γ 0 Q) 2 [(0, rf Γ 25), (1, .int (0 : Int32))] [] σ) :
    CtV Γ mX6_triesNow 0 [rf Γ 25] σ Q := by
  refine ct_of (by decide +kernel) (Nat.le_of_ble_eq_true rfl) ?_
  show G Γ mX6_triesNow (NV Γ 0 Q) 0 [(0, rf Γ 25)] [] σ
  refine g_iconst (pc := 0) (0 : Int32) dX6_triesNow_0 rfl ?_
  refine g_istore_n (pc := 1) [(1, _), (0, _)] dX6_triesNow_1 rfl (Nat.le_of_ble_eq_true rfl) rfl ?_
  refine g_pm [1, 0] rfl ?_
  exact h
set_option maxHeartbeats 4000000 in
set_option maxRecDepth 100000 in
theorem t_X6_triesNow_2 {Γ : GT} {Q : St → Prop} (σ : St) (x1 : Int32)
    (h : (((5 : Int32) ≤ x1) → (Q σ)) ∧ ((¬ (5 : Int32) ≤ x1) → (vp_in x1 5 ∧ (vp_in x1 5 ∧ (G Γ mX6_triesNow (NV Γ 0 Q) 2 [(0, rf Γ 25), (1, .int (x1 + (1 : Int32)))] [] (sI σ 36 x1.toNatClampNeg (σ.1 31 x1.toNatClampNeg))))))) :
    G Γ mX6_triesNow (NV Γ 0 Q) 2 [(0, rf Γ 25), (1, .int x1)] [] σ := by
  refine g_iload_n (pc := 2) dX6_triesNow_2 rfl 1 rfl ?_
  refine g_iconst (pc := 3) (5 : Int32) dX6_triesNow_3 rfl ?_
  refine g_icmp_ge (pc := 4) 25 dX6_triesNow_4 (by decide) (fun q => ?_) (fun q => ?_)
  · have h := h.1 q
    exact g_vret (pc := 25) rfl dX6_triesNow_25 h
  · have h := h.2 q
    refine g_aload_n (pc := 7) dX6_triesNow_7 rfl 0 rfl ?_
    refine g_getR (pc := 8) 25 6 15 36 fr_25_15 fl_X6_49 dX6_triesNow_8 ?_
    refine g_iload_n (pc := 11) dX6_triesNow_11 rfl 1 rfl ?_
    refine g_aload_n (pc := 12) dX6_triesNow_12 rfl 0 rfl ?_
    refine g_getR (pc := 13) 25 6 7 31 fr_25_7 fl_X6_30 dX6_triesNow_13 ?_
    refine g_iload_n (pc := 16) dX6_triesNow_16 rfl 1 rfl ?_
    refine g_iald (pc := 17) 31 5 ar_31 h.1 dX6_triesNow_17 ?_
    have h := h.2
    refine g_iast (pc := 18) 36 5 ar_36 h.1 dX6_triesNow_18 ?_
    have h := h.2
    refine g_iinc (pc := 19) (1 : Int32) [(1, _), (0, _)] dX6_triesNow_19 1 rfl rfl (Nat.le_of_ble_eq_true rfl) rfl ?_
    refine g_goto (pc := 22) 2 dX6_triesNow_22 (by decide) ?_
    refine g_pm [1, 0] rfl ?_
    exact h
set_option maxHeartbeats 4000000 in
set_option maxRecDepth 100000 in
theorem ct_X6_needOf {Γ : GT} {Q : Int32 → St → Prop} (σ : St) (x1 : Int32)
    (h : vp_in ((6 : Int32) * x1) 25 ∧ (vp_in x1 5 ∧ (∃ Q1 : Int32 → St → Prop, CtI Γ mX6_heardBy 0 [rf Γ 25, .int x1] σ Q1 ∧ ∀ (r2 : Int32) (τ3 : St), Q1 r2 τ3 → ((¬ ((10 : Int32) * (σ.1 26 ((6 : Int32) * x1).toNatClampNeg)) = 0) ∧ (Q (((((σ.1 27 x1.toNatClampNeg) * r2) + ((10 : Int32) * (σ.1 26 ((6 : Int32) * x1).toNatClampNeg))) - (1 : Int32)) / ((10 : Int32) * (σ.1 26 ((6 : Int32) * x1).toNatClampNeg))) τ3))))) :
    CtI Γ mX6_needOf 1 [rf Γ 25, .int x1] σ Q := by
  refine ct_of (by decide +kernel) (Nat.le_of_ble_eq_true rfl) ?_
  show G Γ mX6_needOf (NI Γ 1 Q) 0 [(0, rf Γ 25), (1, .int x1)] [] σ
  refine g_bipush (pc := 0) (10 : Int32) dX6_needOf_0 rfl ?_
  refine g_aload_n (pc := 2) dX6_needOf_2 rfl 0 rfl ?_
  refine g_getR (pc := 3) 25 6 2 26 fr_25_2 fl_X6_13 dX6_needOf_3 ?_
  refine g_bipush (pc := 6) (6 : Int32) dX6_needOf_6 rfl ?_
  refine g_iload_n (pc := 8) dX6_needOf_8 rfl 1 rfl ?_
  refine g_imul (pc := 9) dX6_needOf_9 ?_
  refine g_iald (pc := 10) 26 25 ar_26 h.1 dX6_needOf_10 ?_
  have h := h.2
  refine g_imul (pc := 11) dX6_needOf_11 ?_
  refine g_istore_n (pc := 12) [(2, _), (0, _), (1, _)] dX6_needOf_12 rfl (Nat.le_of_ble_eq_true rfl) rfl ?_
  refine g_aload_n (pc := 13) dX6_needOf_13 rfl 1 rfl ?_
  refine g_getR (pc := 14) 25 6 3 27 fr_25_3 fl_X6_17 dX6_needOf_14 ?_
  refine g_iload_n (pc := 17) dX6_needOf_17 rfl 2 rfl ?_
  refine g_iald (pc := 18) 27 5 ar_27 h.1 dX6_needOf_18 ?_
  have h := h.2
  refine g_aload_n (pc := 19) dX6_needOf_19 rfl 1 rfl ?_
  refine g_iload_n (pc := 20) dX6_needOf_20 rfl 2 rfl ?_
  obtain ⟨Q1, hc, h⟩ := h
  refine g_callVI (pc := 21) (M' := mX6_heardBy) (n := 1) (As := [.int x1]) (st := [.int (σ.1 27 x1.toNatClampNeg)]) dX6_needOf_21 ml_X6_111 ok_X6_heardBy rfl (rmOk_M _ _ _) (by decide) rc_25 (Nat.le_of_ble_eq_true rfl) rfl hc (fun r2 τ3 hq => ?_)
  have h := h r2 τ3 hq
  refine g_imul (pc := 24) dX6_needOf_24 ?_
  refine g_iload_n (pc := 25) dX6_needOf_25 rfl 0 rfl ?_
  refine g_iadd (pc := 26) dX6_needOf_26 ?_
  refine g_iconst (pc := 27) (1 : Int32) dX6_needOf_27 rfl ?_
  refine g_isub (pc := 28) dX6_needOf_28 ?_
  refine g_iload_n (pc := 29) dX6_needOf_29 rfl 0 rfl ?_
  refine g_idiv (pc := 30) dX6_needOf_30 h.1 ?_
  have h := h.2
  exact g_iret (pc := 31) rfl dX6_needOf_31 h
set_option maxHeartbeats 4000000 in
set_option maxRecDepth 100000 in
theorem ct_X6_hasWish {Γ : GT} {Q : Int32 → St → Prop} (σ : St) (x1 : Int32)
    (h : ∃ Q1 : St → Prop, CtV Γ mX6_triesNow 0 [rf Γ 25] σ Q1 ∧ ∀ (τ3 : St), Q1 τ3 → (vp_in x1 5 ∧ ((((τ3.1 30 x1.toNatClampNeg) = 0) → (Q (0 : Int32) τ3)) ∧ ((¬ (τ3.1 30 x1.toNatClampNeg) = 0) → (vp_in ((6 : Int32) * x1) 25 ∧ (vp_in x1 5 ∧ (vp_in x1 5 ∧ (∃ Q4 : Int32 → St → Prop, CtI Γ mX6_heardBy 0 [rf Γ 25, .int x1] τ3 Q4 ∧ ∀ (r5 : Int32) (τ6 : St), Q4 r5 τ6 → ((((((10 : Int32) * (τ3.1 26 ((6 : Int32) * x1).toNatClampNeg)) * (τ3.1 31 x1.toNatClampNeg)) < ((τ3.1 27 x1.toNatClampNeg) * r5)) → (Q (0 : Int32) τ6)) ∧ ((¬ (((10 : Int32) * (τ3.1 26 ((6 : Int32) * x1).toNatClampNeg)) * (τ3.1 31 x1.toNatClampNeg)) < ((τ3.1 27 x1.toNatClampNeg) * r5)) → (Q (1 : Int32) τ6))))))))))) :
    CtI Γ mX6_hasWish 1 [rf Γ 25, .int x1] σ Q := by
  refine ct_of (by decide +kernel) (Nat.le_of_ble_eq_true rfl) ?_
  show G Γ mX6_hasWish (NI Γ 1 Q) 0 [(0, rf Γ 25), (1, .int x1)] [] σ
  refine g_aload_n (pc := 0) dX6_hasWish_0 rfl 0 rfl ?_
  obtain ⟨Q1, hc, h⟩ := h
  refine g_callVV (pc := 1) (M' := mX6_triesNow) (n := 1) (As := []) (st := []) dX6_hasWish_1 ml_X6_114 ok_X6_triesNow rfl (rmOk_M _ _ _) (by decide) rc_25 (Nat.le_of_ble_eq_true rfl) rfl hc (fun τ3 hq => ?_)
  have h := h τ3 hq
  refine g_aload_n (pc := 4) dX6_hasWish_4 rfl 0 rfl ?_
  refine g_getR (pc := 5) 25 6 6 30 fr_25_6 fl_X6_26 dX6_hasWish_5 ?_
  refine g_iload_n (pc := 8) dX6_hasWish_8 rfl 1 rfl ?_
  refine g_zald (pc := 9) 30 5 ar_30 h.1 dX6_hasWish_9 ?_
  have h := h.2
  refine g_if_eq (pc := 10) 51 dX6_hasWish_10 (by decide) (fun q => ?_) (fun q => ?_)
  · have h := h.1 q
    refine g_iconst (pc := 51) (0 : Int32) dX6_hasWish_51 rfl ?_
    exact g_zret (pc := 52) rfl dX6_hasWish_52 (Or.inl rfl) h
  · have h := h.2 q
    refine g_bipush (pc := 13) (10 : Int32) dX6_hasWish_13 rfl ?_
    refine g_aload_n (pc := 15) dX6_hasWish_15 rfl 0 rfl ?_
    refine g_getR (pc := 16) 25 6 2 26 fr_25_2 fl_X6_13 dX6_hasWish_16 ?_
    refine g_bipush (pc := 19) (6 : Int32) dX6_hasWish_19 rfl ?_
    refine g_iload_n (pc := 21) dX6_hasWish_21 rfl 1 rfl ?_
    refine g_imul (pc := 22) dX6_hasWish_22 ?_
    refine g_iald (pc := 23) 26 25 ar_26 h.1 dX6_hasWish_23 ?_
    have h := h.2
    refine g_imul (pc := 24) dX6_hasWish_24 ?_
    refine g_aload_n (pc := 25) dX6_hasWish_25 rfl 0 rfl ?_
    refine g_getR (pc := 26) 25 6 7 31 fr_25_7 fl_X6_30 dX6_hasWish_26 ?_
    refine g_iload_n (pc := 29) dX6_hasWish_29 rfl 1 rfl ?_
    refine g_iald (pc := 30) 31 5 ar_31 h.1 dX6_hasWish_30 ?_
    have h := h.2
    refine g_imul (pc := 31) dX6_hasWish_31 ?_
    refine g_aload_n (pc := 32) dX6_hasWish_32 rfl 0 rfl ?_
    refine g_getR (pc := 33) 25 6 3 27 fr_25_3 fl_X6_17 dX6_hasWish_33 ?_
    refine g_iload_n (pc := 36) dX6_hasWish_36 rfl 1 rfl ?_
    refine g_iald (pc := 37) 27 5 ar_27 h.1 dX6_hasWish_37 ?_
    have h := h.2
    refine g_aload_n (pc := 38) dX6_hasWish_38 rfl 0 rfl ?_
    refine g_iload_n (pc := 39) dX6_hasWish_39 rfl 1 rfl ?_
    obtain ⟨Q4, hc, h⟩ := h
    refine g_callVI (pc := 40) (M' := mX6_heardBy) (n := 1) (As := [.int x1]) (st := [.int (τ3.1 27 x1.toNatClampNeg), .int (((10 : Int32) * (τ3.1 26 ((6 : Int32) * x1).toNatClampNeg)) * (τ3.1 31 x1.toNatClampNeg))]) dX6_hasWish_40 ml_X6_111 ok_X6_heardBy rfl (rmOk_M _ _ _) (by decide) rc_25 (Nat.le_of_ble_eq_true rfl) rfl hc (fun r5 τ6 hq => ?_)
    have h := h r5 τ6 hq
    refine g_imul (pc := 43) dX6_hasWish_43 ?_
    refine g_icmp_lt (pc := 44) 51 dX6_hasWish_44 (by decide) (fun q => ?_) (fun q => ?_)
    · have h := h.1 q
      refine g_iconst (pc := 51) (0 : Int32) dX6_hasWish_51 rfl ?_
      exact g_zret (pc := 52) rfl dX6_hasWish_52 (Or.inl rfl) h
    · have h := h.2 q
      refine g_iconst (pc := 47) (1 : Int32) dX6_hasWish_47 rfl ?_
      refine g_goto (pc := 48) 52 dX6_hasWish_48 (by decide) ?_
      exact g_zret (pc := 52) rfl dX6_hasWish_52 (Or.inr rfl) h
set_option maxHeartbeats 4000000 in
set_option maxRecDepth 100000 in
theorem ct_X6_infoOf {Γ : GT} {Q : Int32 → St → Prop} (σ : St) (x1 : Int32) (x2 : Int32)
    (h : ∃ Q1 : St → Prop, CtV Γ mX6_triesNow 0 [rf Γ 25] σ Q1 ∧ ∀ (τ3 : St), Q1 τ3 → ((x2 = 0 → (∃ Q4 : Int32 → St → Prop, CtI Γ mX6_setting 0 [rf Γ 25, .int x1, .int x2] τ3 Q4 ∧ ∀ (r5 : Int32) (τ6 : St), Q4 r5 τ6 → (Q r5 τ6))) ∧ (x2 = 1 → (∃ Q7 : Int32 → St → Prop, CtI Γ mX6_setting 0 [rf Γ 25, .int x1, .int x2] τ3 Q7 ∧ ∀ (r8 : Int32) (τ9 : St), Q7 r8 τ9 → (Q r8 τ9))) ∧ (x2 = 2 → (∃ Q10 : Int32 → St → Prop, CtI Γ mX6_setting 0 [rf Γ 25, .int x1, .int x2] τ3 Q10 ∧ ∀ (r11 : Int32) (τ12 : St), Q10 r11 τ12 → (Q r11 τ12))) ∧ (x2 = 3 → (vp_in x1 5 ∧ ((((τ3.1 30 x1.toNatClampNeg) = 0) → (Q (0 : Int32) τ3)) ∧ ((¬ (τ3.1 30 x1.toNatClampNeg) = 0) → (Q (1 : Int32) τ3))))) ∧ (x2 = 4 → (vp_in x1 5 ∧ (Q (τ3.1 31 x1.toNatClampNeg) τ3))) ∧ (x2 = 5 → (∃ Q13 : Int32 → St → Prop, CtI Γ mX6_needOf 1 [rf Γ 25, .int x1] τ3 Q13 ∧ ∀ (r14 : Int32) (τ15 : St), Q13 r14 τ15 → (Q r14 τ15))) ∧ (x2 = 6 → (∃ Q16 : Int32 → St → Prop, CtI Γ mX6_hasWish 1 [rf Γ 25, .int x1] τ3 Q16 ∧ ∀ (r17 : Int32) (τ18 : St), Q16 r17 τ18 → (((r17 = 0) → (Q (0 : Int32) τ18)) ∧ ((¬ r17 = 0) → (Q (1 : Int32) τ18))))) ∧ (¬ x2 = 0 → ¬ x2 = 1 → ¬ x2 = 2 → ¬ x2 = 3 → ¬ x2 = 4 → ¬ x2 = 5 → ¬ x2 = 6 → (vp_in ((6 : Int32) * x1) 25 ∧ (Q (τ3.1 26 ((6 : Int32) * x1).toNatClampNeg) τ3))))) :
    CtI Γ mX6_infoOf 2 [rf Γ 25, .int x1, .int x2] σ Q := by
  refine ct_of (by decide +kernel) (Nat.le_of_ble_eq_true rfl) ?_
  show G Γ mX6_infoOf (NI Γ 2 Q) 0 [(0, rf Γ 25), (1, .int x1), (2, .int x2)] [] σ
  refine g_aload_n (pc := 0) dX6_infoOf_0 rfl 0 rfl ?_
  obtain ⟨Q1, hc, h⟩ := h
  refine g_callVV (pc := 1) (M' := mX6_triesNow) (n := 2) (As := []) (st := []) dX6_infoOf_1 ml_X6_114 ok_X6_triesNow rfl (rmOk_M _ _ _) (by decide) rc_25 (Nat.le_of_ble_eq_true rfl) rfl hc (fun τ3 hq => ?_)
  have h := h τ3 hq
  refine g_iload_n (pc := 4) dX6_infoOf_4 rfl 2 rfl ?_
  by_cases q0 : x2 = 0
  · have h := h.1 q0
    refine g_tswK (pc := 5) 0 48 dX6_infoOf_5 q0 (by decide) (by decide) rfl (by decide) ?_
    refine g_aload_n (pc := 48) dX6_infoOf_48 rfl 0 rfl ?_
    refine g_iload_n (pc := 49) dX6_infoOf_49 rfl 1 rfl ?_
    refine g_iload_n (pc := 50) dX6_infoOf_50 rfl 2 rfl ?_
    obtain ⟨Q4, hc, h⟩ := h
    refine g_callVI (pc := 51) (M' := mX6_setting) (n := 2) (As := [.int x1, .int x2]) (st := []) dX6_infoOf_51 ml_X6_90 ok_X6_setting rfl (rmOk_M _ _ _) (by decide) rc_25 (Nat.le_of_ble_eq_true rfl) rfl hc (fun r5 τ6 hq => ?_)
    have h := h r5 τ6 hq
    exact g_iret (pc := 54) rfl dX6_infoOf_54 h
  by_cases q1 : x2 = 1
  · have h := h.2.1 q1
    refine g_tswK (pc := 5) 1 48 dX6_infoOf_5 q1 (by decide) (by decide) rfl (by decide) ?_
    refine g_aload_n (pc := 48) dX6_infoOf_48 rfl 0 rfl ?_
    refine g_iload_n (pc := 49) dX6_infoOf_49 rfl 1 rfl ?_
    refine g_iload_n (pc := 50) dX6_infoOf_50 rfl 2 rfl ?_
    obtain ⟨Q7, hc, h⟩ := h
    refine g_callVI (pc := 51) (M' := mX6_setting) (n := 2) (As := [.int x1, .int x2]) (st := []) dX6_infoOf_51 ml_X6_90 ok_X6_setting rfl (rmOk_M _ _ _) (by decide) rc_25 (Nat.le_of_ble_eq_true rfl) rfl hc (fun r8 τ9 hq => ?_)
    have h := h r8 τ9 hq
    exact g_iret (pc := 54) rfl dX6_infoOf_54 h
  by_cases q2 : x2 = 2
  · have h := h.2.2.1 q2
    refine g_tswK (pc := 5) 2 48 dX6_infoOf_5 q2 (by decide) (by decide) rfl (by decide) ?_
    refine g_aload_n (pc := 48) dX6_infoOf_48 rfl 0 rfl ?_
    refine g_iload_n (pc := 49) dX6_infoOf_49 rfl 1 rfl ?_
    refine g_iload_n (pc := 50) dX6_infoOf_50 rfl 2 rfl ?_
    obtain ⟨Q10, hc, h⟩ := h
    refine g_callVI (pc := 51) (M' := mX6_setting) (n := 2) (As := [.int x1, .int x2]) (st := []) dX6_infoOf_51 ml_X6_90 ok_X6_setting rfl (rmOk_M _ _ _) (by decide) rc_25 (Nat.le_of_ble_eq_true rfl) rfl hc (fun r11 τ12 hq => ?_)
    have h := h r11 τ12 hq
    exact g_iret (pc := 54) rfl dX6_infoOf_54 h
  by_cases q3 : x2 = 3
  · have h := h.2.2.2.1 q3
    refine g_tswK (pc := 5) 3 55 dX6_infoOf_5 q3 (by decide) (by decide) rfl (by decide) ?_
    refine g_aload_n (pc := 55) dX6_infoOf_55 rfl 0 rfl ?_
    refine g_getR (pc := 56) 25 6 6 30 fr_25_6 fl_X6_26 dX6_infoOf_56 ?_
    refine g_iload_n (pc := 59) dX6_infoOf_59 rfl 1 rfl ?_
    refine g_zald (pc := 60) 30 5 ar_30 h.1 dX6_infoOf_60 ?_
    have h := h.2
    refine g_if_eq (pc := 61) 68 dX6_infoOf_61 (by decide) (fun q => ?_) (fun q => ?_)
    · have h := h.1 q
      refine g_iconst (pc := 68) (0 : Int32) dX6_infoOf_68 rfl ?_
      exact g_iret (pc := 69) rfl dX6_infoOf_69 h
    · have h := h.2 q
      refine g_iconst (pc := 64) (1 : Int32) dX6_infoOf_64 rfl ?_
      refine g_goto (pc := 65) 69 dX6_infoOf_65 (by decide) ?_
      exact g_iret (pc := 69) rfl dX6_infoOf_69 h
  by_cases q4 : x2 = 4
  · have h := h.2.2.2.2.1 q4
    refine g_tswK (pc := 5) 4 70 dX6_infoOf_5 q4 (by decide) (by decide) rfl (by decide) ?_
    refine g_aload_n (pc := 70) dX6_infoOf_70 rfl 0 rfl ?_
    refine g_getR (pc := 71) 25 6 7 31 fr_25_7 fl_X6_30 dX6_infoOf_71 ?_
    refine g_iload_n (pc := 74) dX6_infoOf_74 rfl 1 rfl ?_
    refine g_iald (pc := 75) 31 5 ar_31 h.1 dX6_infoOf_75 ?_
    have h := h.2
    exact g_iret (pc := 76) rfl dX6_infoOf_76 h
  by_cases q5 : x2 = 5
  · have h := h.2.2.2.2.2.1 q5
    refine g_tswK (pc := 5) 5 77 dX6_infoOf_5 q5 (by decide) (by decide) rfl (by decide) ?_
    refine g_aload_n (pc := 77) dX6_infoOf_77 rfl 0 rfl ?_
    refine g_iload_n (pc := 78) dX6_infoOf_78 rfl 1 rfl ?_
    obtain ⟨Q13, hc, h⟩ := h
    refine g_callVI (pc := 79) (M' := mX6_needOf) (n := 2) (As := [.int x1]) (st := []) dX6_infoOf_79 ml_X6_117 ok_X6_needOf rfl (rmOk_M _ _ _) (by decide) rc_25 (Nat.le_of_ble_eq_true rfl) rfl hc (fun r14 τ15 hq => ?_)
    have h := h r14 τ15 hq
    exact g_iret (pc := 82) rfl dX6_infoOf_82 h
  by_cases q6 : x2 = 6
  · have h := h.2.2.2.2.2.2.1 q6
    refine g_tswK (pc := 5) 6 83 dX6_infoOf_5 q6 (by decide) (by decide) rfl (by decide) ?_
    refine g_aload_n (pc := 83) dX6_infoOf_83 rfl 0 rfl ?_
    refine g_iload_n (pc := 84) dX6_infoOf_84 rfl 1 rfl ?_
    obtain ⟨Q16, hc, h⟩ := h
    refine g_callVI (pc := 85) (M' := mX6_hasWish) (n := 2) (As := [.int x1]) (st := []) dX6_infoOf_85 ml_X6_120 ok_X6_hasWish rfl (rmOk_M _ _ _) (by decide) rc_25 (Nat.le_of_ble_eq_true rfl) rfl hc (fun r17 τ18 hq => ?_)
    have h := h r17 τ18 hq
    refine g_if_eq (pc := 88) 95 dX6_infoOf_88 (by decide) (fun q => ?_) (fun q => ?_)
    · have h := h.1 q
      refine g_iconst (pc := 95) (0 : Int32) dX6_infoOf_95 rfl ?_
      exact g_iret (pc := 96) rfl dX6_infoOf_96 h
    · have h := h.2 q
      refine g_iconst (pc := 91) (1 : Int32) dX6_infoOf_91 rfl ?_
      refine g_goto (pc := 92) 96 dX6_infoOf_92 (by decide) ?_
      exact g_iret (pc := 96) rfl dX6_infoOf_96 h
  have h := h.2.2.2.2.2.2.2 q0 q1 q2 q3 q4 q5 q6
  refine g_tswD (pc := 5) 97 dX6_infoOf_5 (sw_out 6 (fun k hk => by rcases (show k = 0 ∨ k = 1 ∨ k = 2 ∨ k = 3 ∨ k = 4 ∨ k = 5 ∨ k = 6 by omega) with rfl | rfl | rfl | rfl | rfl | rfl | rfl <;> assumption)) (by decide) ?_
  refine g_aload_n (pc := 97) dX6_infoOf_97 rfl 0 rfl ?_
  refine g_getR (pc := 98) 25 6 2 26 fr_25_2 fl_X6_13 dX6_infoOf_98 ?_
  refine g_bipush (pc := 101) (6 : Int32) dX6_infoOf_101 rfl ?_
  refine g_iload_n (pc := 103) dX6_infoOf_103 rfl 1 rfl ?_
  refine g_imul (pc := 104) dX6_infoOf_104 ?_
  refine g_iald (pc := 105) 26 25 ar_26 h.1 dX6_infoOf_105 ?_
  have h := h.2
  exact g_iret (pc := 106) rfl dX6_infoOf_106 h
set_option maxHeartbeats 4000000 in
set_option maxRecDepth 100000 in
theorem ct_X6_info {Γ : GT} {Q : Int32 → St → Prop} (σ : St) (x1 : Int32) (x2 : Int32)
    (h : ∃ Q1 : Int32 → St → Prop, CtI Γ mX6_isSender 1 [rf Γ 25, .int x1] σ Q1 ∧ ∀ (r2 : Int32) (τ3 : St), Q1 r2 τ3 → (((r2 = 0) → (Q (-2 : Int32) τ3)) ∧ ((¬ r2 = 0) → (∃ Q4 : Int32 → St → Prop, CtI Γ mX6_in 0 [.int x2, .int (0 : Int32), .int (7 : Int32)] τ3 Q4 ∧ ∀ (r5 : Int32) (τ6 : St), Q4 r5 τ6 → (((r5 = 0) → (Q (-2 : Int32) τ6)) ∧ ((¬ r5 = 0) → (∃ Q7 : Int32 → St → Prop, CtI Γ mX6_infoOf 2 [rf Γ 25, .int x1, .int x2] τ6 Q7 ∧ ∀ (r8 : Int32) (τ9 : St), Q7 r8 τ9 → (Q r8 τ9)))))))) :
    CtI Γ mX6_info 3 [rf Γ 25, .int x1, .int x2] σ Q := by
  refine ct_of (by decide +kernel) (Nat.le_of_ble_eq_true rfl) ?_
  show G Γ mX6_info (NI Γ 3 Q) 0 [(0, rf Γ 25), (1, .int x1), (2, .int x2)] [] σ
  refine g_aload_n (pc := 0) dX6_info_0 rfl 0 rfl ?_
  refine g_iload_n (pc := 1) dX6_info_1 rfl 1 rfl ?_
  obtain ⟨Q1, hc, h⟩ := h
  refine g_callVI (pc := 2) (M' := mX6_isSender) (n := 3) (As := [.int x1]) (st := []) dX6_info_2 ml_X6_79 ok_X6_isSender rfl (rmOk_M _ _ _) (by decide) rc_25 (Nat.le_of_ble_eq_true rfl) rfl hc (fun r2 τ3 hq => ?_)
  have h := h r2 τ3 hq
  refine g_if_eq (pc := 5) 27 dX6_info_5 (by decide) (fun q => ?_) (fun q => ?_)
  · have h := h.1 q
    refine g_bipush (pc := 27) (-2 : Int32) dX6_info_27 rfl ?_
    exact g_iret (pc := 29) rfl dX6_info_29 h
  · have h := h.2 q
    refine g_iload_n (pc := 8) dX6_info_8 rfl 2 rfl ?_
    refine g_iconst (pc := 9) (0 : Int32) dX6_info_9 rfl ?_
    refine g_bipush (pc := 10) (7 : Int32) dX6_info_10 rfl ?_
    obtain ⟨Q4, hc, h⟩ := h
    refine g_callSI (pc := 12) (M' := mX6_in) (n := 3) (As := [.int x2, .int (0 : Int32), .int (7 : Int32)]) (st := []) dX6_info_12 ml_X6_75 ok_X6_in rfl (rmOk_M _ _ _) (by decide) (Nat.le_of_ble_eq_true rfl) rfl hc (fun r5 τ6 hq => ?_)
    have h := h r5 τ6 hq
    refine g_if_eq (pc := 15) 27 dX6_info_15 (by decide) (fun q => ?_) (fun q => ?_)
    · have h := h.1 q
      refine g_bipush (pc := 27) (-2 : Int32) dX6_info_27 rfl ?_
      exact g_iret (pc := 29) rfl dX6_info_29 h
    · have h := h.2 q
      refine g_aload_n (pc := 18) dX6_info_18 rfl 0 rfl ?_
      refine g_iload_n (pc := 19) dX6_info_19 rfl 1 rfl ?_
      refine g_iload_n (pc := 20) dX6_info_20 rfl 2 rfl ?_
      obtain ⟨Q7, hc, h⟩ := h
      refine g_callVI (pc := 21) (M' := mX6_infoOf) (n := 3) (As := [.int x1, .int x2]) (st := []) dX6_info_21 ml_X6_123 ok_X6_infoOf rfl (rmOk_M _ _ _) (by decide) rc_25 (Nat.le_of_ble_eq_true rfl) rfl hc (fun r8 τ9 hq => ?_)
      have h := h r8 τ9 hq
      refine g_goto (pc := 24) 29 dX6_info_24 (by decide) ?_
      exact g_iret (pc := 29) rfl dX6_info_29 h
set_option maxHeartbeats 4000000 in
set_option maxRecDepth 100000 in
theorem ct_X6_heard {Γ : GT} {Q : Int32 → St → Prop} (σ : St) (x1 : Int32) (x2 : Int32)
    (h : ∃ Q1 : Int32 → St → Prop, CtI Γ mX6_isSender 1 [rf Γ 25, .int x1] σ Q1 ∧ ∀ (r2 : Int32) (τ3 : St), Q1 r2 τ3 → (((r2 = 0) → (Q (-2 : Int32) τ3)) ∧ ((¬ r2 = 0) → (∃ Q4 : Int32 → St → Prop, CtI Γ mX6_isSender 1 [rf Γ 25, .int x2] τ3 Q4 ∧ ∀ (r5 : Int32) (τ6 : St), Q4 r5 τ6 → (((r5 = 0) → (Q (-2 : Int32) τ6)) ∧ ((¬ r5 = 0) → (vp_in (((5 : Int32) * x1) + x2) 25 ∧ (Q (τ6.1 26 (((5 : Int32) * x1) + x2).toNatClampNeg) τ6)))))))) :
    CtI Γ mX6_heard 2 [rf Γ 25, .int x1, .int x2] σ Q := by
  refine ct_of (by decide +kernel) (Nat.le_of_ble_eq_true rfl) ?_
  show G Γ mX6_heard (NI Γ 2 Q) 0 [(0, rf Γ 25), (1, .int x1), (2, .int x2)] [] σ
  refine g_aload_n (pc := 0) dX6_heard_0 rfl 0 rfl ?_
  refine g_iload_n (pc := 1) dX6_heard_1 rfl 1 rfl ?_
  obtain ⟨Q1, hc, h⟩ := h
  refine g_callVI (pc := 2) (M' := mX6_isSender) (n := 2) (As := [.int x1]) (st := []) dX6_heard_2 ml_X6_79 ok_X6_isSender rfl (rmOk_M _ _ _) (by decide) rc_25 (Nat.le_of_ble_eq_true rfl) rfl hc (fun r2 τ3 hq => ?_)
  have h := h r2 τ3 hq
  refine g_if_eq (pc := 5) 29 dX6_heard_5 (by decide) (fun q => ?_) (fun q => ?_)
  · have h := h.1 q
    refine g_bipush (pc := 29) (-2 : Int32) dX6_heard_29 rfl ?_
    exact g_iret (pc := 31) rfl dX6_heard_31 h
  · have h := h.2 q
    refine g_aload_n (pc := 8) dX6_heard_8 rfl 0 rfl ?_
    refine g_iload_n (pc := 9) dX6_heard_9 rfl 2 rfl ?_
    obtain ⟨Q4, hc, h⟩ := h
    refine g_callVI (pc := 10) (M' := mX6_isSender) (n := 2) (As := [.int x2]) (st := []) dX6_heard_10 ml_X6_79 ok_X6_isSender rfl (rmOk_M _ _ _) (by decide) rc_25 (Nat.le_of_ble_eq_true rfl) rfl hc (fun r5 τ6 hq => ?_)
    have h := h r5 τ6 hq
    refine g_if_eq (pc := 13) 29 dX6_heard_13 (by decide) (fun q => ?_) (fun q => ?_)
    · have h := h.1 q
      refine g_bipush (pc := 29) (-2 : Int32) dX6_heard_29 rfl ?_
      exact g_iret (pc := 31) rfl dX6_heard_31 h
    · have h := h.2 q
      refine g_aload_n (pc := 16) dX6_heard_16 rfl 0 rfl ?_
      refine g_getR (pc := 17) 25 6 2 26 fr_25_2 fl_X6_13 dX6_heard_17 ?_
      refine g_iconst (pc := 20) (5 : Int32) dX6_heard_20 rfl ?_
      refine g_iload_n (pc := 21) dX6_heard_21 rfl 1 rfl ?_
      refine g_imul (pc := 22) dX6_heard_22 ?_
      refine g_iload_n (pc := 23) dX6_heard_23 rfl 2 rfl ?_
      refine g_iadd (pc := 24) dX6_heard_24 ?_
      refine g_iald (pc := 25) 26 25 ar_26 h.1 dX6_heard_25 ?_
      have h := h.2
      refine g_goto (pc := 26) 31 dX6_heard_26 (by decide) ?_
      exact g_iret (pc := 31) rfl dX6_heard_31 h
set_option maxHeartbeats 4000000 in
set_option maxRecDepth 100000 in
theorem ct_X6_bitsOf {Γ : GT} {Q : Int32 → St → Prop} (σ : St) (x0 : Int32)
    (h : G Γ mX6_bitsOf (NI Γ 0 Q) 4 [(0, .int x0), (1, .int (0 : Int32)), (2, .int (0 : Int32))] [] σ) :
    CtI Γ mX6_bitsOf 0 [.int x0] σ Q := by
  refine ct_of (by decide +kernel) (Nat.le_of_ble_eq_true rfl) ?_
  show G Γ mX6_bitsOf (NI Γ 0 Q) 0 [(0, .int x0)] [] σ
  refine g_iconst (pc := 0) (0 : Int32) dX6_bitsOf_0 rfl ?_
  refine g_istore_n (pc := 1) [(1, _), (0, _)] dX6_bitsOf_1 rfl (Nat.le_of_ble_eq_true rfl) rfl ?_
  refine g_iconst (pc := 2) (0 : Int32) dX6_bitsOf_2 rfl ?_
  refine g_istore_n (pc := 3) [(2, _), (1, _), (0, _)] dX6_bitsOf_3 rfl (Nat.le_of_ble_eq_true rfl) rfl ?_
  refine g_pm [2, 1, 0] rfl ?_
  exact h
set_option maxHeartbeats 4000000 in
set_option maxRecDepth 100000 in
theorem t_X6_bitsOf_4 {Γ : GT} {Q : Int32 → St → Prop} (σ : St) (x0 : Int32) (x1 : Int32) (x2 : Int32)
    (h : (((5 : Int32) ≤ x2) → (Q x1 σ)) ∧ ((¬ (5 : Int32) ≤ x2) → (G Γ mX6_bitsOf (NI Γ 0 Q) 4 [(0, .int x0), (1, .int (x1 + ((x0 >>> (x2 &&& 31)) &&& (1 : Int32)))), (2, .int (x2 + (1 : Int32)))] [] σ))) :
    G Γ mX6_bitsOf (NI Γ 0 Q) 4 [(0, .int x0), (1, .int x1), (2, .int x2)] [] σ := by
  refine g_iload_n (pc := 4) dX6_bitsOf_4 rfl 2 rfl ?_
  refine g_iconst (pc := 5) (5 : Int32) dX6_bitsOf_5 rfl ?_
  refine g_icmp_ge (pc := 6) 23 dX6_bitsOf_6 (by decide) (fun q => ?_) (fun q => ?_)
  · have h := h.1 q
    refine g_iload_n (pc := 23) dX6_bitsOf_23 rfl 1 rfl ?_
    exact g_iret (pc := 24) rfl dX6_bitsOf_24 h
  · have h := h.2 q
    refine g_iload_n (pc := 9) dX6_bitsOf_9 rfl 1 rfl ?_
    refine g_iload_n (pc := 10) dX6_bitsOf_10 rfl 0 rfl ?_
    refine g_iload_n (pc := 11) dX6_bitsOf_11 rfl 2 rfl ?_
    refine g_ishr (pc := 12) dX6_bitsOf_12 ?_
    refine g_iconst (pc := 13) (1 : Int32) dX6_bitsOf_13 rfl ?_
    refine g_iand (pc := 14) dX6_bitsOf_14 ?_
    refine g_iadd (pc := 15) dX6_bitsOf_15 ?_
    refine g_istore_n (pc := 16) [(1, _), (0, _), (2, _)] dX6_bitsOf_16 rfl (Nat.le_of_ble_eq_true rfl) rfl ?_
    refine g_iinc (pc := 17) (1 : Int32) [(2, _), (1, _), (0, _)] dX6_bitsOf_17 2 rfl rfl (Nat.le_of_ble_eq_true rfl) rfl ?_
    refine g_goto (pc := 20) 4 dX6_bitsOf_20 (by decide) ?_
    refine g_pm [2, 1, 0] rfl ?_
    exact h
set_option maxHeartbeats 4000000 in
set_option maxRecDepth 100000 in
theorem ct_X6_asksAsTold {Γ : GT} {Q : St → Prop} (σ : St) 
    (h : G Γ mX6_asksAsTold (NV Γ 0 Q) 7 [(0, rf Γ 25), (1, .int (0 : Int32))] [] (sI σ 25 13 (1 : Int32))) :
    CtV Γ mX6_asksAsTold 0 [rf Γ 25] σ Q := by
  refine ct_of (by decide +kernel) (Nat.le_of_ble_eq_true rfl) ?_
  show G Γ mX6_asksAsTold (NV Γ 0 Q) 0 [(0, rf Γ 25)] [] σ
  refine g_aload_n (pc := 0) dX6_asksAsTold_0 rfl 0 rfl ?_
  refine g_iconst (pc := 1) (1 : Int32) dX6_asksAsTold_1 rfl ?_
  refine g_put (pc := 2) 25 6 13 fpp_25_13 fp_X6_46 dX6_asksAsTold_2 ?_
  refine g_iconst (pc := 5) (0 : Int32) dX6_asksAsTold_5 rfl ?_
  refine g_istore_n (pc := 6) [(1, _), (0, _)] dX6_asksAsTold_6 rfl (Nat.le_of_ble_eq_true rfl) rfl ?_
  refine g_pm [1, 0] rfl ?_
  exact h
set_option maxHeartbeats 4000000 in
set_option maxRecDepth 100000 in
theorem t_X6_asksAsTold_7 {Γ : GT} {Q : St → Prop} (σ : St) (x1 : Int32)
    (h : (((5 : Int32) ≤ x1) → (Q σ)) ∧ ((¬ (5 : Int32) ≤ x1) → (vp_in x1 5 ∧ (vp_in x1 5 ∧ (G Γ mX6_asksAsTold (NV Γ 0 Q) 7 [(0, rf Γ 25), (1, .int (x1 + (1 : Int32)))] [] (sI σ 35 x1.toNatClampNeg (σ.1 27 x1.toNatClampNeg))))))) :
    G Γ mX6_asksAsTold (NV Γ 0 Q) 7 [(0, rf Γ 25), (1, .int x1)] [] σ := by
  refine g_iload_n (pc := 7) dX6_asksAsTold_7 rfl 1 rfl ?_
  refine g_iconst (pc := 8) (5 : Int32) dX6_asksAsTold_8 rfl ?_
  refine g_icmp_ge (pc := 9) 30 dX6_asksAsTold_9 (by decide) (fun q => ?_) (fun q => ?_)
  · have h := h.1 q
    exact g_vret (pc := 30) rfl dX6_asksAsTold_30 h
  · have h := h.2 q
    refine g_aload_n (pc := 12) dX6_asksAsTold_12 rfl 0 rfl ?_
    refine g_getR (pc := 13) 25 6 12 35 fr_25_12 fl_X6_43 dX6_asksAsTold_13 ?_
    refine g_iload_n (pc := 16) dX6_asksAsTold_16 rfl 1 rfl ?_
    refine g_aload_n (pc := 17) dX6_asksAsTold_17 rfl 0 rfl ?_
    refine g_getR (pc := 18) 25 6 3 27 fr_25_3 fl_X6_17 dX6_asksAsTold_18 ?_
    refine g_iload_n (pc := 21) dX6_asksAsTold_21 rfl 1 rfl ?_
    refine g_iald (pc := 22) 27 5 ar_27 h.1 dX6_asksAsTold_22 ?_
    have h := h.2
    refine g_iast (pc := 23) 35 5 ar_35 h.1 dX6_asksAsTold_23 ?_
    have h := h.2
    refine g_iinc (pc := 24) (1 : Int32) [(1, _), (0, _)] dX6_asksAsTold_24 1 rfl rfl (Nat.le_of_ble_eq_true rfl) rfl ?_
    refine g_goto (pc := 27) 7 dX6_asksAsTold_27 (by decide) ?_
    refine g_pm [1, 0] rfl ?_
    exact h
set_option maxHeartbeats 4000000 in
set_option maxRecDepth 100000 in
theorem ct_X6_lays {Γ : GT} {Q : St → Prop} (σ : St) (x1 : Int32) (x2 : Int32)
    (h : G Γ mX6_lays (NV Γ 2 Q) 7 [(0, rf Γ 25), (1, .int x1), (2, .int x2), (3, .int (0 : Int32))] [] (sI σ 25 14 (0 : Int32))) :
    CtV Γ mX6_lays 2 [rf Γ 25, .int x1, .int x2] σ Q := by
  refine ct_of (by decide +kernel) (Nat.le_of_ble_eq_true rfl) ?_
  show G Γ mX6_lays (NV Γ 2 Q) 0 [(0, rf Γ 25), (1, .int x1), (2, .int x2)] [] σ
  refine g_aload_n (pc := 0) dX6_lays_0 rfl 0 rfl ?_
  refine g_iconst (pc := 1) (0 : Int32) dX6_lays_1 rfl ?_
  refine g_put (pc := 2) 25 6 14 fpp_25_14 fp_X6_126 dX6_lays_2 ?_
  refine g_iconst (pc := 5) (0 : Int32) dX6_lays_5 rfl ?_
  refine g_istore_n (pc := 6) [(3, _), (0, _), (1, _), (2, _)] dX6_lays_6 rfl (Nat.le_of_ble_eq_true rfl) rfl ?_
  refine g_pm [1, 2, 3, 0] rfl ?_
  exact h
set_option maxHeartbeats 4000000 in
set_option maxRecDepth 100000 in
theorem t_X6_lays_7 {Γ : GT} {Q : St → Prop} (σ : St) (x1 : Int32) (x2 : Int32) (x3 : Int32)
    (h : (((5 : Int32) ≤ x3) → (∃ Q1 : St → Prop, CtV Γ mX6_determines 1 [rf Γ 25] σ Q1 ∧ ∀ (τ3 : St), Q1 τ3 → (Q τ3))) ∧ ((¬ (5 : Int32) ≤ x3) → (((¬ ((x1 >>> (x3 &&& 31)) &&& (1 : Int32)) = (1 : Int32)) → (G Γ mX6_lays (NV Γ 2 Q) 7 [(0, rf Γ 25), (1, .int x1), (2, .int x2), (3, .int (x3 + (1 : Int32)))] [] σ)) ∧ ((((x1 >>> (x3 &&& 31)) &&& (1 : Int32)) = (1 : Int32)) → (G Γ mX6_lays (NV Γ 2 Q) 27 [(0, rf Γ 25), (1, .int x1), (2, .int x2), (3, .int x3), (4, .int (0 : Int32)), (5, .int (0 : Int32))] [] σ))))) :
    G Γ mX6_lays (NV Γ 2 Q) 7 [(0, rf Γ 25), (1, .int x1), (2, .int x2), (3, .int x3)] [] σ := by
  refine g_iload_n (pc := 7) dX6_lays_7 rfl 3 rfl ?_
  refine g_iconst (pc := 8) (5 : Int32) dX6_lays_8 rfl ?_
  refine g_icmp_ge (pc := 9) 160 dX6_lays_9 (by decide) (fun q => ?_) (fun q => ?_)
  · have h := h.1 q
    refine g_aload_n (pc := 160) dX6_lays_160 rfl 0 rfl ?_
    obtain ⟨Q1, hc, h⟩ := h
    refine g_callVV (pc := 161) (M' := mX6_determines) (n := 2) (As := []) (st := []) dX6_lays_161 ml_X6_131 ok_X6_determines rfl (rmOk_M _ _ _) (by decide) rc_25 (Nat.le_of_ble_eq_true rfl) rfl hc (fun τ3 hq => ?_)
    have h := h τ3 hq
    exact g_vret (pc := 164) rfl dX6_lays_164 h
  · have h := h.2 q
    refine g_iload_n (pc := 12) dX6_lays_12 rfl 1 rfl ?_
    refine g_iload_n (pc := 13) dX6_lays_13 rfl 3 rfl ?_
    refine g_ishr (pc := 14) dX6_lays_14 ?_
    refine g_iconst (pc := 15) (1 : Int32) dX6_lays_15 rfl ?_
    refine g_iand (pc := 16) dX6_lays_16 ?_
    refine g_iconst (pc := 17) (1 : Int32) dX6_lays_17 rfl ?_
    refine g_icmp_ne (pc := 18) 154 dX6_lays_18 (by decide) (fun q => ?_) (fun q => ?_)
    · have h := h.1 q
      refine g_iinc (pc := 154) (1 : Int32) [(3, _), (0, _), (1, _), (2, _)] dX6_lays_154 3 rfl rfl (Nat.le_of_ble_eq_true rfl) rfl ?_
      refine g_goto (pc := 157) 7 dX6_lays_157 (by decide) ?_
      refine g_pm [1, 2, 3, 0] rfl ?_
      exact h
    · have h := h.2 q
      refine g_iconst (pc := 21) (0 : Int32) dX6_lays_21 rfl ?_
      refine g_istore (pc := 22) [(4, _), (0, _), (1, _), (2, _), (3, _)] dX6_lays_22 (Nat.le_of_ble_eq_true rfl) rfl ?_
      refine g_iconst (pc := 24) (0 : Int32) dX6_lays_24 rfl ?_
      refine g_istore (pc := 25) [(5, _), (4, _), (0, _), (1, _), (2, _), (3, _)] dX6_lays_25 (Nat.le_of_ble_eq_true rfl) rfl ?_
      refine g_pm [2, 3, 4, 5, 1, 0] rfl ?_
      exact h
set_option maxHeartbeats 4000000 in
set_option maxRecDepth 100000 in
theorem t_X6_lays_27 {Γ : GT} {Q : St → Prop} (σ : St) (x1 : Int32) (x2 : Int32) (x3 : Int32) (x4 : Int32) (x5 : Int32)
    (h : (((5 : Int32) ≤ x5) → (G Γ mX6_lays (NV Γ 2 Q) 7 [(0, rf Γ 25), (1, .int x1), (2, .int x2), (3, .int (x3 + (1 : Int32)))] [] (sI σ 25 14 ((σ.1 25 14) + (1 : Int32))))) ∧ ((¬ (5 : Int32) ≤ x5) → (((¬ ((x1 >>> (x5 &&& 31)) &&& (1 : Int32)) = (1 : Int32)) → (G Γ mX6_lays (NV Γ 2 Q) 27 [(0, rf Γ 25), (1, .int x1), (2, .int x2), (3, .int x3), (4, .int x4), (5, .int (x5 + (1 : Int32)))] [] σ)) ∧ ((((x1 >>> (x5 &&& 31)) &&& (1 : Int32)) = (1 : Int32)) → (((¬ x3 = x5) → (vp_in x3 5 ∧ (vp_in (((5 : Int32) * x3) + x5) 25 ∧ (G Γ mX6_lays (NV Γ 2 Q) 93 [(0, rf Γ 25), (1, .int x1), (2, .int x2), (3, .int x3), (4, .int x4), (5, .int x5)] [.long ((-((σ.1 35 x3.toNatClampNeg).toInt64)) * ((σ.1 26 (((5 : Int32) * x3) + x5).toNatClampNeg).toInt64))] σ)))) ∧ ((x3 = x5) → (vp_in ((6 : Int32) * x3) 25 ∧ (G Γ mX6_lays (NV Γ 2 Q) 93 [(0, rf Γ 25), (1, .int x1), (2, .int x2), (3, .int x3), (4, .int x4), (5, .int x5)] [.long (((10 : Int64) * ((σ.1 25 13).toInt64)) * ((σ.1 26 ((6 : Int32) * x3).toNatClampNeg).toInt64))] σ)))))))) :
    G Γ mX6_lays (NV Γ 2 Q) 27 [(0, rf Γ 25), (1, .int x1), (2, .int x2), (3, .int x3), (4, .int x4), (5, .int x5)] [] σ := by
  refine g_iload (pc := 27) dX6_lays_27 5 rfl ?_
  refine g_iconst (pc := 29) (5 : Int32) dX6_lays_29 rfl ?_
  refine g_icmp_ge (pc := 30) 144 dX6_lays_30 (by decide) (fun q => ?_) (fun q => ?_)
  · have h := h.1 q
    refine g_aload_n (pc := 144) dX6_lays_144 rfl 0 rfl ?_
    refine g_dup (pc := 145) dX6_lays_145 rfl ?_
    refine g_getI (pc := 146) 25 6 14 fi_25_14 fl_X6_126 dX6_lays_146 ?_
    refine g_iconst (pc := 149) (1 : Int32) dX6_lays_149 rfl ?_
    refine g_iadd (pc := 150) dX6_lays_150 ?_
    refine g_put (pc := 151) 25 6 14 fpp_25_14 fp_X6_126 dX6_lays_151 ?_
    refine g_iinc (pc := 154) (1 : Int32) [(3, _), (0, _), (1, _), (2, _), (4, _), (5, _)] dX6_lays_154 3 rfl rfl (Nat.le_of_ble_eq_true rfl) rfl ?_
    refine g_goto (pc := 157) 7 dX6_lays_157 (by decide) ?_
    refine g_pm [1, 2, 3, 0] rfl ?_
    exact h
  · have h := h.2 q
    refine g_iload_n (pc := 33) dX6_lays_33 rfl 1 rfl ?_
    refine g_iload (pc := 34) dX6_lays_34 5 rfl ?_
    refine g_ishr (pc := 36) dX6_lays_36 ?_
    refine g_iconst (pc := 37) (1 : Int32) dX6_lays_37 rfl ?_
    refine g_iand (pc := 38) dX6_lays_38 ?_
    refine g_iconst (pc := 39) (1 : Int32) dX6_lays_39 rfl ?_
    refine g_icmp_ne (pc := 40) 138 dX6_lays_40 (by decide) (fun q => ?_) (fun q => ?_)
    · have h := h.1 q
      refine g_iinc (pc := 138) (1 : Int32) [(5, _), (0, _), (1, _), (2, _), (3, _), (4, _)] dX6_lays_138 5 rfl rfl (Nat.le_of_ble_eq_true rfl) rfl ?_
      refine g_goto (pc := 141) 27 dX6_lays_141 (by decide) ?_
      refine g_pm [1, 2, 3, 4, 5, 0] rfl ?_
      exact h
    · have h := h.2 q
      refine g_iload_n (pc := 43) dX6_lays_43 rfl 3 rfl ?_
      refine g_iload (pc := 44) dX6_lays_44 5 rfl ?_
      refine g_icmp_ne (pc := 46) 72 dX6_lays_46 (by decide) (fun q => ?_) (fun q => ?_)
      · have h := h.1 q
        refine g_aload_n (pc := 72) dX6_lays_72 rfl 0 rfl ?_
        refine g_getR (pc := 73) 25 6 12 35 fr_25_12 fl_X6_43 dX6_lays_73 ?_
        refine g_iload_n (pc := 76) dX6_lays_76 rfl 3 rfl ?_
        refine g_iald (pc := 77) 35 5 ar_35 h.1 dX6_lays_77 ?_
        have h := h.2
        refine g_i2l (pc := 78) dX6_lays_78 ?_
        refine g_lneg (pc := 79) dX6_lays_79 ?_
        refine g_aload_n (pc := 80) dX6_lays_80 rfl 0 rfl ?_
        refine g_getR (pc := 81) 25 6 2 26 fr_25_2 fl_X6_13 dX6_lays_81 ?_
        refine g_iconst (pc := 84) (5 : Int32) dX6_lays_84 rfl ?_
        refine g_iload_n (pc := 85) dX6_lays_85 rfl 3 rfl ?_
        refine g_imul (pc := 86) dX6_lays_86 ?_
        refine g_iload (pc := 87) dX6_lays_87 5 rfl ?_
        refine g_iadd (pc := 89) dX6_lays_89 ?_
        refine g_iald (pc := 90) 26 25 ar_26 h.1 dX6_lays_90 ?_
        have h := h.2
        refine g_i2l (pc := 91) dX6_lays_91 ?_
        refine g_lmul (pc := 92) dX6_lays_92 ?_
        exact h
      · have h := h.2 q
        refine g_ldc2 (pc := 49) (10 : Int64) kl_X6_129 dX6_lays_49 ?_
        refine g_aload_n (pc := 52) dX6_lays_52 rfl 0 rfl ?_
        refine g_getI (pc := 53) 25 6 13 fi_25_13 fl_X6_46 dX6_lays_53 ?_
        refine g_i2l (pc := 56) dX6_lays_56 ?_
        refine g_lmul (pc := 57) dX6_lays_57 ?_
        refine g_aload_n (pc := 58) dX6_lays_58 rfl 0 rfl ?_
        refine g_getR (pc := 59) 25 6 2 26 fr_25_2 fl_X6_13 dX6_lays_59 ?_
        refine g_bipush (pc := 62) (6 : Int32) dX6_lays_62 rfl ?_
        refine g_iload_n (pc := 64) dX6_lays_64 rfl 3 rfl ?_
        refine g_imul (pc := 65) dX6_lays_65 ?_
        refine g_iald (pc := 66) 26 25 ar_26 h.1 dX6_lays_66 ?_
        have h := h.2
        refine g_i2l (pc := 67) dX6_lays_67 ?_
        refine g_lmul (pc := 68) dX6_lays_68 ?_
        refine g_goto (pc := 69) 93 dX6_lays_69 (by decide) ?_
        exact h
set_option maxHeartbeats 4000000 in
set_option maxRecDepth 100000 in
theorem t_X6_lays_93 {Γ : GT} {Q : St → Prop} (σ : St) (x1 : Int32) (x2 : Int32) (x3 : Int32) (x4 : Int32) (x5 : Int32) (y0 : Int64)
    (h : ((¬ x4 = x2) → (vp_in (((5 : Int32) * (σ.1 25 14)) + x4) 25 ∧ (G Γ mX6_lays (NV Γ 2 Q) 27 [(0, rf Γ 25), (1, .int x1), (2, .int x2), (3, .int x3), (4, .int (x4 + (1 : Int32))), (5, .int (x5 + (1 : Int32)))] [] (sJ σ 33 (((5 : Int32) * (σ.1 25 14)) + x4).toNatClampNeg y0)))) ∧ ((x4 = x2) → (vp_in x3 5 ∧ (vp_in x3 5 ∧ (vp_in (((5 : Int32) * (σ.1 25 14)) + x4) 25 ∧ (G Γ mX6_lays (NV Γ 2 Q) 27 [(0, rf Γ 25), (1, .int x1), (2, .int x2), (3, .int x3), (4, .int (x4 + (1 : Int32))), (5, .int (x5 + (1 : Int32)))] [] (sJ σ 33 (((5 : Int32) * (σ.1 25 14)) + x4).toNatClampNeg (((σ.1 35 x3.toNatClampNeg).toInt64) * ((σ.1 28 x3.toNatClampNeg).toInt64))))))))) :
    G Γ mX6_lays (NV Γ 2 Q) 93 [(0, rf Γ 25), (1, .int x1), (2, .int x2), (3, .int x3), (4, .int x4), (5, .int x5)] [.long y0] σ := by
  refine g_lstore (pc := 93) [(6, _), (0, _), (1, _), (2, _), (3, _), (4, _), (5, _)] dX6_lays_93 (Nat.le_of_ble_eq_true rfl) rfl ?_
  refine g_aload_n (pc := 95) dX6_lays_95 rfl 1 rfl ?_
  refine g_getR (pc := 96) 25 6 10 33 fr_25_10 fl_X6_36 dX6_lays_96 ?_
  refine g_iconst (pc := 99) (5 : Int32) dX6_lays_99 rfl ?_
  refine g_aload_n (pc := 100) dX6_lays_100 rfl 1 rfl ?_
  refine g_getI (pc := 101) 25 6 14 fi_25_14 fl_X6_126 dX6_lays_101 ?_
  refine g_imul (pc := 104) dX6_lays_104 ?_
  refine g_iload (pc := 105) dX6_lays_105 5 rfl ?_
  refine g_iadd (pc := 107) dX6_lays_107 ?_
  refine g_iload (pc := 108) dX6_lays_108 5 rfl ?_
  refine g_iload_n (pc := 110) dX6_lays_110 rfl 3 rfl ?_
  refine g_icmp_ne (pc := 111) 132 dX6_lays_111 (by decide) (fun q => ?_) (fun q => ?_)
  · have h := h.1 q
    refine g_lload (pc := 132) dX6_lays_132 0 rfl ?_
    refine g_last (pc := 134) 33 25 ar_33 h.1 dX6_lays_134 ?_
    have h := h.2
    refine g_iinc (pc := 135) (1 : Int32) [(4, _), (6, _), (0, _), (1, _), (2, _), (3, _), (5, _)] dX6_lays_135 5 rfl rfl (Nat.le_of_ble_eq_true rfl) rfl ?_
    refine g_iinc (pc := 138) (1 : Int32) [(5, _), (4, _), (6, _), (0, _), (1, _), (2, _), (3, _)] dX6_lays_138 6 rfl rfl (Nat.le_of_ble_eq_true rfl) rfl ?_
    refine g_goto (pc := 141) 27 dX6_lays_141 (by decide) ?_
    refine g_pm [3, 4, 5, 6, 1, 0] rfl ?_
    exact h
  · have h := h.2 q
    refine g_aload_n (pc := 114) dX6_lays_114 rfl 1 rfl ?_
    refine g_getR (pc := 115) 25 6 12 35 fr_25_12 fl_X6_43 dX6_lays_115 ?_
    refine g_iload_n (pc := 118) dX6_lays_118 rfl 4 rfl ?_
    refine g_iald (pc := 119) 35 5 ar_35 h.1 dX6_lays_119 ?_
    have h := h.2
    refine g_i2l (pc := 120) dX6_lays_120 ?_
    refine g_aload_n (pc := 121) dX6_lays_121 rfl 1 rfl ?_
    refine g_getR (pc := 122) 25 6 4 28 fr_25_4 fl_X6_20 dX6_lays_122 ?_
    refine g_iload_n (pc := 125) dX6_lays_125 rfl 4 rfl ?_
    refine g_iald (pc := 126) 28 5 ar_28 h.1 dX6_lays_126 ?_
    have h := h.2
    refine g_i2l (pc := 127) dX6_lays_127 ?_
    refine g_lmul (pc := 128) dX6_lays_128 ?_
    refine g_goto (pc := 129) 134 dX6_lays_129 (by decide) ?_
    refine g_last (pc := 134) 33 25 ar_33 h.1 dX6_lays_134 ?_
    have h := h.2
    refine g_iinc (pc := 135) (1 : Int32) [(4, _), (6, _), (0, _), (1, _), (2, _), (3, _), (5, _)] dX6_lays_135 5 rfl rfl (Nat.le_of_ble_eq_true rfl) rfl ?_
    refine g_iinc (pc := 138) (1 : Int32) [(5, _), (4, _), (6, _), (0, _), (1, _), (2, _), (3, _)] dX6_lays_138 6 rfl rfl (Nat.le_of_ble_eq_true rfl) rfl ?_
    refine g_goto (pc := 141) 27 dX6_lays_141 (by decide) ?_
    refine g_pm [3, 4, 5, 6, 1, 0] rfl ?_
    exact h
set_option maxHeartbeats 4000000 in
set_option maxRecDepth 100000 in
theorem ct_X6_determines {Γ : GT} {Q : St → Prop} (σ : St) 
    (h : vp_in (0 : Int32) 32 ∧ (G Γ mX6_determines (NV Γ 1 Q) 9 [(0, rf Γ 25), (1, .int (1 : Int32))] [] (sJ σ 34 (0 : Int32).toNatClampNeg (1 : Int64)))) :
    CtV Γ mX6_determines 1 [rf Γ 25] σ Q := by
  refine ct_of (by decide +kernel) (Nat.le_of_ble_eq_true rfl) ?_
  show G Γ mX6_determines (NV Γ 1 Q) 0 [(0, rf Γ 25)] [] σ
  refine g_aload_n (pc := 0) dX6_determines_0 rfl 0 rfl ?_
  refine g_getR (pc := 1) 25 6 11 34 fr_25_11 fl_X6_40 dX6_determines_1 ?_
  refine g_iconst (pc := 4) (0 : Int32) dX6_determines_4 rfl ?_
  refine g_lconst (pc := 5) (1 : Int64) dX6_determines_5 rfl ?_
  refine g_last (pc := 6) 34 32 ar_34 h.1 dX6_determines_6 ?_
  have h := h.2
  refine g_iconst (pc := 7) (1 : Int32) dX6_determines_7 rfl ?_
  refine g_istore_n (pc := 8) [(1, _), (0, _)] dX6_determines_8 rfl (Nat.le_of_ble_eq_true rfl) rfl ?_
  refine g_pm [1, 0] rfl ?_
  exact h
set_option maxHeartbeats 4000000 in
set_option maxRecDepth 100000 in
theorem t_X6_determines_9 {Γ : GT} {Q : St → Prop} (σ : St) (x1 : Int32)
    (h : ((((1 : Int32) <<< ((σ.1 25 14) &&& 31)) ≤ x1) → (Q σ)) ∧ ((¬ ((1 : Int32) <<< ((σ.1 25 14) &&& 31)) ≤ x1) → (∃ Q1 : Int32 → St → Prop, CtI Γ mX6_bitsOf 0 [.int x1] σ Q1 ∧ ∀ (r2 : Int32) (τ3 : St), Q1 r2 τ3 → (G Γ mX6_determines (NV Γ 1 Q) 31 [(0, rf Γ 25), (1, .int x1), (2, .int (r2 - (1 : Int32))), (3, .long (0 : Int64)), (5, .int (0 : Int32))] [] τ3)))) :
    G Γ mX6_determines (NV Γ 1 Q) 9 [(0, rf Γ 25), (1, .int x1)] [] σ := by
  refine g_iload_n (pc := 9) dX6_determines_9 rfl 1 rfl ?_
  refine g_iconst (pc := 10) (1 : Int32) dX6_determines_10 rfl ?_
  refine g_aload_n (pc := 11) dX6_determines_11 rfl 0 rfl ?_
  refine g_getI (pc := 12) 25 6 14 fi_25_14 fl_X6_126 dX6_determines_12 ?_
  refine g_ishl (pc := 15) dX6_determines_15 ?_
  refine g_icmp_ge (pc := 16) 119 dX6_determines_16 (by decide) (fun q => ?_) (fun q => ?_)
  · have h := h.1 q
    exact g_vret (pc := 119) rfl dX6_determines_119 h
  · have h := h.2 q
    refine g_iload_n (pc := 19) dX6_determines_19 rfl 1 rfl ?_
    obtain ⟨Q1, hc, h⟩ := h
    refine g_callSI (pc := 20) (M' := mX6_bitsOf) (n := 1) (As := [.int x1]) (st := []) dX6_determines_20 ml_X6_134 ok_X6_bitsOf rfl (rmOk_M _ _ _) (by decide) (Nat.le_of_ble_eq_true rfl) rfl hc (fun r2 τ3 hq => ?_)
    have h := h r2 τ3 hq
    refine g_iconst (pc := 23) (1 : Int32) dX6_determines_23 rfl ?_
    refine g_isub (pc := 24) dX6_determines_24 ?_
    refine g_istore_n (pc := 25) [(2, _), (0, _), (1, _)] dX6_determines_25 rfl (Nat.le_of_ble_eq_true rfl) rfl ?_
    refine g_lconst (pc := 26) (0 : Int64) dX6_determines_26 rfl ?_
    refine g_lstore_n (pc := 27) [(3, _), (2, _), (0, _), (1, _)] dX6_determines_27 rfl (Nat.le_of_ble_eq_true rfl) rfl ?_
    refine g_iconst (pc := 28) (0 : Int32) dX6_determines_28 rfl ?_
    refine g_istore (pc := 29) [(5, _), (3, _), (2, _), (0, _), (1, _)] dX6_determines_29 (Nat.le_of_ble_eq_true rfl) rfl ?_
    refine g_pm [3, 4, 2, 1, 0] rfl ?_
    exact h
set_option maxHeartbeats 4000000 in
set_option maxRecDepth 100000 in
theorem t_X6_determines_31 {Γ : GT} {Q : St → Prop} (σ : St) (x1 : Int32) (x2 : Int32) (x3 : Int64) (x5 : Int32)
    (h : (((σ.1 25 14) ≤ x5) → (vp_in x1 32 ∧ (G Γ mX6_determines (NV Γ 1 Q) 9 [(0, rf Γ 25), (1, .int (x1 + (1 : Int32)))] [] (sJ σ 34 x1.toNatClampNeg x3)))) ∧ ((¬ (σ.1 25 14) ≤ x5) → (((¬ ((x1 >>> (x5 &&& 31)) &&& (1 : Int32)) = (1 : Int32)) → (G Γ mX6_determines (NV Γ 1 Q) 31 [(0, rf Γ 25), (1, .int x1), (2, .int x2), (3, .long x3), (5, .int (x5 + (1 : Int32)))] [] σ)) ∧ ((((x1 >>> (x5 &&& 31)) &&& (1 : Int32)) = (1 : Int32)) → (vp_in (((5 : Int32) * x2) + x5) 25 ∧ (vp_in (x1 - ((1 : Int32) <<< (x5 &&& 31))) 32 ∧ (∀ v4 : Int64, v4 = ((σ.2 33 (((5 : Int32) * x2) + x5).toNatClampNeg) * (σ.2 34 (x1 - ((1 : Int32) <<< (x5 &&& 31))).toNatClampNeg)) → ∃ Q5 : Int32 → St → Prop, CtI Γ mX6_bitsOf 0 [.int (x1 >>> ((x5 + (1 : Int32)) &&& 31))] σ Q5 ∧ ∀ (r6 : Int32) (τ7 : St), Q5 r6 τ7 → ((¬ (2 : Int32) = 0) ∧ (((¬ (r6 - r6 / (2 : Int32) * (2 : Int32)) = 0) → (G Γ mX6_determines (NV Γ 1 Q) 31 [(0, rf Γ 25), (1, .int x1), (2, .int x2), (3, .long (x3 + (-v4))), (5, .int (x5 + (1 : Int32)))] [] τ7)) ∧ (((r6 - r6 / (2 : Int32) * (2 : Int32)) = 0) → (G Γ mX6_determines (NV Γ 1 Q) 31 [(0, rf Γ 25), (1, .int x1), (2, .int x2), (3, .long (x3 + v4)), (5, .int (x5 + (1 : Int32)))] [] τ7))))))))))) :
    G Γ mX6_determines (NV Γ 1 Q) 31 [(0, rf Γ 25), (1, .int x1), (2, .int x2), (3, .long x3), (5, .int x5)] [] σ := by
  refine g_iload (pc := 31) dX6_determines_31 4 rfl ?_
  refine g_aload_n (pc := 33) dX6_determines_33 rfl 0 rfl ?_
  refine g_getI (pc := 34) 25 6 14 fi_25_14 fl_X6_126 dX6_determines_34 ?_
  refine g_icmp_ge (pc := 37) 106 dX6_determines_37 (by decide) (fun q => ?_) (fun q => ?_)
  · have h := h.1 q
    refine g_aload_n (pc := 106) dX6_determines_106 rfl 0 rfl ?_
    refine g_getR (pc := 107) 25 6 11 34 fr_25_11 fl_X6_40 dX6_determines_107 ?_
    refine g_iload_n (pc := 110) dX6_determines_110 rfl 1 rfl ?_
    refine g_lload_n (pc := 111) dX6_determines_111 rfl 3 rfl ?_
    refine g_last (pc := 112) 34 32 ar_34 h.1 dX6_determines_112 ?_
    have h := h.2
    refine g_iinc (pc := 113) (1 : Int32) [(1, _), (0, _), (2, _), (3, _), (5, _)] dX6_determines_113 1 rfl rfl (Nat.le_of_ble_eq_true rfl) rfl ?_
    refine g_goto (pc := 116) 9 dX6_determines_116 (by decide) ?_
    refine g_pm [1, 0] rfl ?_
    exact h
  · have h := h.2 q
    refine g_iload_n (pc := 40) dX6_determines_40 rfl 1 rfl ?_
    refine g_iload (pc := 41) dX6_determines_41 4 rfl ?_
    refine g_ishr (pc := 43) dX6_determines_43 ?_
    refine g_iconst (pc := 44) (1 : Int32) dX6_determines_44 rfl ?_
    refine g_iand (pc := 45) dX6_determines_45 ?_
    refine g_iconst (pc := 46) (1 : Int32) dX6_determines_46 rfl ?_
    refine g_icmp_ne (pc := 47) 100 dX6_determines_47 (by decide) (fun q => ?_) (fun q => ?_)
    · have h := h.1 q
      refine g_iinc (pc := 100) (1 : Int32) [(5, _), (0, _), (1, _), (2, _), (3, _)] dX6_determines_100 4 rfl rfl (Nat.le_of_ble_eq_true rfl) rfl ?_
      refine g_goto (pc := 103) 31 dX6_determines_103 (by decide) ?_
      refine g_pm [1, 2, 3, 4, 0] rfl ?_
      exact h
    · have h := h.2 q
      refine g_aload_n (pc := 50) dX6_determines_50 rfl 0 rfl ?_
      refine g_getR (pc := 51) 25 6 10 33 fr_25_10 fl_X6_36 dX6_determines_51 ?_
      refine g_iconst (pc := 54) (5 : Int32) dX6_determines_54 rfl ?_
      refine g_iload_n (pc := 55) dX6_determines_55 rfl 2 rfl ?_
      refine g_imul (pc := 56) dX6_determines_56 ?_
      refine g_iload (pc := 57) dX6_determines_57 4 rfl ?_
      refine g_iadd (pc := 59) dX6_determines_59 ?_
      refine g_lald (pc := 60) 33 25 ar_33 h.1 dX6_determines_60 ?_
      have h := h.2
      refine g_aload_n (pc := 61) dX6_determines_61 rfl 0 rfl ?_
      refine g_getR (pc := 62) 25 6 11 34 fr_25_11 fl_X6_40 dX6_determines_62 ?_
      refine g_iload_n (pc := 65) dX6_determines_65 rfl 1 rfl ?_
      refine g_iconst (pc := 66) (1 : Int32) dX6_determines_66 rfl ?_
      refine g_iload (pc := 67) dX6_determines_67 4 rfl ?_
      refine g_ishl (pc := 69) dX6_determines_69 ?_
      refine g_isub (pc := 70) dX6_determines_70 ?_
      refine g_lald (pc := 71) 34 32 ar_34 h.1 dX6_determines_71 ?_
      have h := h.2
      refine g_lmul (pc := 72) dX6_determines_72 ?_
      refine g_topJ (fun v4 ev4 => ?_)
      refine g_lstore (pc := 73) [(6, _), (0, _), (1, _), (2, _), (3, _), (5, _)] dX6_determines_73 (Nat.le_of_ble_eq_true rfl) rfl ?_
      have h := h v4 ev4
      refine g_lload_n (pc := 75) dX6_determines_75 rfl 4 rfl ?_
      refine g_iload_n (pc := 76) dX6_determines_76 rfl 2 rfl ?_
      refine g_iload (pc := 77) dX6_determines_77 5 rfl ?_
      refine g_iconst (pc := 79) (1 : Int32) dX6_determines_79 rfl ?_
      refine g_iadd (pc := 80) dX6_determines_80 ?_
      refine g_ishr (pc := 81) dX6_determines_81 ?_
      obtain ⟨Q5, hc, h⟩ := h
      refine g_callSI (pc := 82) (M' := mX6_bitsOf) (n := 1) (As := [.int (x1 >>> ((x5 + (1 : Int32)) &&& 31))]) (st := [.long x3]) dX6_determines_82 ml_X6_134 ok_X6_bitsOf rfl (rmOk_M _ _ _) (by decide) (Nat.le_of_ble_eq_true rfl) rfl hc (fun r6 τ7 hq => ?_)
      have h := h r6 τ7 hq
      refine g_iconst (pc := 85) (2 : Int32) dX6_determines_85 rfl ?_
      refine g_irem (pc := 86) dX6_determines_86 h.1 ?_
      have h := h.2
      refine g_if_ne (pc := 87) 95 dX6_determines_87 (by decide) (fun q => ?_) (fun q => ?_)
      · have h := h.1 q
        refine g_lload (pc := 95) dX6_determines_95 0 rfl ?_
        refine g_lneg (pc := 97) dX6_determines_97 ?_
        refine g_ladd (pc := 98) dX6_determines_98 ?_
        refine g_lstore_n (pc := 99) [(3, _), (6, _), (0, _), (1, _), (2, _), (5, _)] dX6_determines_99 rfl (Nat.le_of_ble_eq_true rfl) rfl ?_
        refine g_iinc (pc := 100) (1 : Int32) [(5, _), (3, _), (6, _), (0, _), (1, _), (2, _)] dX6_determines_100 5 rfl rfl (Nat.le_of_ble_eq_true rfl) rfl ?_
        refine g_goto (pc := 103) 31 dX6_determines_103 (by decide) ?_
        refine g_pm [3, 4, 5, 1, 0] rfl ?_
        exact h
      · have h := h.2 q
        refine g_lload (pc := 90) dX6_determines_90 0 rfl ?_
        refine g_goto (pc := 92) 98 dX6_determines_92 (by decide) ?_
        refine g_ladd (pc := 98) dX6_determines_98 ?_
        refine g_lstore_n (pc := 99) [(3, _), (6, _), (0, _), (1, _), (2, _), (5, _)] dX6_determines_99 rfl (Nat.le_of_ble_eq_true rfl) rfl ?_
        refine g_iinc (pc := 100) (1 : Int32) [(5, _), (3, _), (6, _), (0, _), (1, _), (2, _)] dX6_determines_100 5 rfl rfl (Nat.le_of_ble_eq_true rfl) rfl ?_
        refine g_goto (pc := 103) 31 dX6_determines_103 (by decide) ?_
        refine g_pm [3, 4, 5, 1, 0] rfl ?_
        exact h
set_option maxHeartbeats 4000000 in
set_option maxRecDepth 100000 in
theorem ct_X6_isFeasible {Γ : GT} {Q : Int32 → St → Prop} (σ : St) (x1 : Int32)
    (h : ∃ Q1 : St → Prop, CtV Γ mX6_lays 2 [rf Γ 25, .int x1, .int (-1 : Int32)] σ Q1 ∧ ∀ (τ3 : St), Q1 τ3 → (G Γ mX6_isFeasible (NI Γ 3 Q) 10 [(0, rf Γ 25), (2, .int (1 : Int32)), (3, .int (1 : Int32))] [] τ3)) :
    CtI Γ mX6_isFeasible 3 [rf Γ 25, .int x1] σ Q := by
  refine ct_of (by decide +kernel) (Nat.le_of_ble_eq_true rfl) ?_
  show G Γ mX6_isFeasible (NI Γ 3 Q) 0 [(0, rf Γ 25), (1, .int x1)] [] σ
  refine g_aload_n (pc := 0) dX6_isFeasible_0 rfl 0 rfl ?_
  refine g_iload_n (pc := 1) dX6_isFeasible_1 rfl 1 rfl ?_
  refine g_iconst (pc := 2) (-1 : Int32) dX6_isFeasible_2 rfl ?_
  obtain ⟨Q1, hc, h⟩ := h
  refine g_callVV (pc := 3) (M' := mX6_lays) (n := 3) (As := [.int x1, .int (-1 : Int32)]) (st := []) dX6_isFeasible_3 ml_X6_137 ok_X6_lays rfl (rmOk_M _ _ _) (by decide) rc_25 (Nat.le_of_ble_eq_true rfl) rfl hc (fun τ3 hq => ?_)
  have h := h τ3 hq
  refine g_iconst (pc := 6) (1 : Int32) dX6_isFeasible_6 rfl ?_
  refine g_istore_n (pc := 7) [(2, _), (0, _), (1, _)] dX6_isFeasible_7 rfl (Nat.le_of_ble_eq_true rfl) rfl ?_
  refine g_iconst (pc := 8) (1 : Int32) dX6_isFeasible_8 rfl ?_
  refine g_istore_n (pc := 9) [(3, _), (2, _), (0, _), (1, _)] dX6_isFeasible_9 rfl (Nat.le_of_ble_eq_true rfl) rfl ?_
  refine g_pm [2, 1, 0] rfl ?_
  exact h
set_option maxHeartbeats 4000000 in
set_option maxRecDepth 100000 in
theorem t_X6_isFeasible_10 {Γ : GT} {Q : Int32 → St → Prop} (σ : St) (x2 : Int32) (x3 : Int32)
    (h : (((σ.1 25 14) < x3) → ((x2 = 0 ∨ x2 = 1) ∧ Q x2 σ)) ∧ ((¬ (σ.1 25 14) < x3) → (((x2 = 0) → (G Γ mX6_isFeasible (NI Γ 3 Q) 10 [(0, rf Γ 25), (2, .int (0 : Int32)), (3, .int (x3 + (1 : Int32)))] [] σ)) ∧ ((¬ x2 = 0) → (vp_in (((1 : Int32) <<< (x3 &&& 31)) - (1 : Int32)) 32 ∧ ((((σ.2 34 (((1 : Int32) <<< (x3 &&& 31)) - (1 : Int32)).toNatClampNeg) ≤ (0 : Int64)) → (G Γ mX6_isFeasible (NI Γ 3 Q) 10 [(0, rf Γ 25), (2, .int (0 : Int32)), (3, .int (x3 + (1 : Int32)))] [] σ)) ∧ ((¬ (σ.2 34 (((1 : Int32) <<< (x3 &&& 31)) - (1 : Int32)).toNatClampNeg) ≤ (0 : Int64)) → (G Γ mX6_isFeasible (NI Γ 3 Q) 10 [(0, rf Γ 25), (2, .int (1 : Int32)), (3, .int (x3 + (1 : Int32)))] [] σ)))))))) :
    G Γ mX6_isFeasible (NI Γ 3 Q) 10 [(0, rf Γ 25), (2, .int x2), (3, .int x3)] [] σ := by
  refine g_iload_n (pc := 10) dX6_isFeasible_10 rfl 2 rfl ?_
  refine g_aload_n (pc := 11) dX6_isFeasible_11 rfl 0 rfl ?_
  refine g_getI (pc := 12) 25 6 14 fi_25_14 fl_X6_126 dX6_isFeasible_12 ?_
  refine g_icmp_gt (pc := 15) 49 dX6_isFeasible_15 (by decide) (fun q => ?_) (fun q => ?_)
  · have h := h.1 q
    refine g_iload_n (pc := 49) dX6_isFeasible_49 rfl 1 rfl ?_
    exact g_zret (pc := 50) rfl dX6_isFeasible_50 h.1 h.2
  · have h := h.2 q
    refine g_iload_n (pc := 18) dX6_isFeasible_18 rfl 1 rfl ?_
    refine g_if_eq (pc := 19) 41 dX6_isFeasible_19 (by decide) (fun q => ?_) (fun q => ?_)
    · have h := h.1 q
      refine g_iconst (pc := 41) (0 : Int32) dX6_isFeasible_41 rfl ?_
      refine g_istore_n (pc := 42) [(2, _), (0, _), (3, _)] dX6_isFeasible_42 rfl (Nat.le_of_ble_eq_true rfl) rfl ?_
      refine g_iinc (pc := 43) (1 : Int32) [(3, _), (2, _), (0, _)] dX6_isFeasible_43 2 rfl rfl (Nat.le_of_ble_eq_true rfl) rfl ?_
      refine g_goto (pc := 46) 10 dX6_isFeasible_46 (by decide) ?_
      refine g_pm [2, 1, 0] rfl ?_
      exact h
    · have h := h.2 q
      refine g_aload_n (pc := 22) dX6_isFeasible_22 rfl 0 rfl ?_
      refine g_getR (pc := 23) 25 6 11 34 fr_25_11 fl_X6_40 dX6_isFeasible_23 ?_
      refine g_iconst (pc := 26) (1 : Int32) dX6_isFeasible_26 rfl ?_
      refine g_iload_n (pc := 27) dX6_isFeasible_27 rfl 2 rfl ?_
      refine g_ishl (pc := 28) dX6_isFeasible_28 ?_
      refine g_iconst (pc := 29) (1 : Int32) dX6_isFeasible_29 rfl ?_
      refine g_isub (pc := 30) dX6_isFeasible_30 ?_
      refine g_lald (pc := 31) 34 32 ar_34 h.1 dX6_isFeasible_31 ?_
      have h := h.2
      refine g_lconst (pc := 32) (0 : Int64) dX6_isFeasible_32 rfl ?_
      refine g_lcmp_le (pc := 33) 41 dX6_isFeasible_33 dX6_isFeasible_34 (by decide) (fun q => ?_) (fun q => ?_)
      · have h := h.1 q
        refine g_iconst (pc := 41) (0 : Int32) dX6_isFeasible_41 rfl ?_
        refine g_istore_n (pc := 42) [(2, _), (0, _), (3, _)] dX6_isFeasible_42 rfl (Nat.le_of_ble_eq_true rfl) rfl ?_
        refine g_iinc (pc := 43) (1 : Int32) [(3, _), (2, _), (0, _)] dX6_isFeasible_43 2 rfl rfl (Nat.le_of_ble_eq_true rfl) rfl ?_
        refine g_goto (pc := 46) 10 dX6_isFeasible_46 (by decide) ?_
        refine g_pm [2, 1, 0] rfl ?_
        exact h
      · have h := h.2 q
        refine g_iconst (pc := 37) (1 : Int32) dX6_isFeasible_37 rfl ?_
        refine g_goto (pc := 38) 42 dX6_isFeasible_38 (by decide) ?_
        refine g_istore_n (pc := 42) [(2, _), (0, _), (3, _)] dX6_isFeasible_42 rfl (Nat.le_of_ble_eq_true rfl) rfl ?_
        refine g_iinc (pc := 43) (1 : Int32) [(3, _), (2, _), (0, _)] dX6_isFeasible_43 2 rfl rfl (Nat.le_of_ble_eq_true rfl) rfl ?_
        refine g_goto (pc := 46) 10 dX6_isFeasible_46 (by decide) ?_
        refine g_pm [2, 1, 0] rfl ?_
        exact h
set_option maxHeartbeats 4000000 in
set_option maxRecDepth 100000 in
theorem ct_X6_minor {Γ : GT} {Q : Int64 → St → Prop} (σ : St) (x1 : Int32)
    (h : ∃ Q1 : Int32 → St → Prop, CtI Γ mX6_in 0 [.int x1, .int (0 : Int32), .int (((1 : Int32) <<< ((σ.1 25 0) &&& 31)) - (1 : Int32))] σ Q1 ∧ ∀ (r2 : Int32) (τ3 : St), Q1 r2 τ3 → (((¬ r2 = 0) → (∃ Q4 : St → Prop, CtV Γ mX6_asksAsTold 0 [rf Γ 25] τ3 Q4 ∧ ∀ (τ6 : St), Q4 τ6 → (∃ Q7 : Int32 → St → Prop, CtI Γ mX6_onNow 0 [rf Γ 25] τ6 Q7 ∧ ∀ (r8 : Int32) (τ9 : St), Q7 r8 τ9 → (∃ Q10 : St → Prop, CtV Γ mX6_lays 2 [rf Γ 25, .int (x1 &&& r8), .int (-1 : Int32)] τ9 Q10 ∧ ∀ (τ12 : St), Q10 τ12 → (vp_in (((1 : Int32) <<< ((τ12.1 25 14) &&& 31)) - (1 : Int32)) 32 ∧ (Q (τ12.2 34 (((1 : Int32) <<< ((τ12.1 25 14) &&& 31)) - (1 : Int32)).toNatClampNeg) τ12)))))) ∧ ((r2 = 0) → (∃ Q13 : Int64 → St → Prop, CtJ Γ mX6_no 0 [.int (-2 : Int32)] τ3 Q13 ∧ ∀ (r14 : Int64) (τ15 : St), Q13 r14 τ15 → (Q r14 τ15))))) :
    CtJ Γ mX6_minor 3 [rf Γ 25, .int x1] σ Q := by
  refine ct_of (by decide +kernel) (Nat.le_of_ble_eq_true rfl) ?_
  show G Γ mX6_minor (NJ Γ 3 Q) 0 [(0, rf Γ 25), (1, .int x1)] [] σ
  refine g_iload_n (pc := 0) dX6_minor_0 rfl 1 rfl ?_
  refine g_iconst (pc := 1) (0 : Int32) dX6_minor_1 rfl ?_
  refine g_iconst (pc := 2) (1 : Int32) dX6_minor_2 rfl ?_
  refine g_aload_n (pc := 3) dX6_minor_3 rfl 0 rfl ?_
  refine g_getI (pc := 4) 25 6 0 fi_25_0 fl_X6_7 dX6_minor_4 ?_
  refine g_ishl (pc := 7) dX6_minor_7 ?_
  refine g_iconst (pc := 8) (1 : Int32) dX6_minor_8 rfl ?_
  refine g_isub (pc := 9) dX6_minor_9 ?_
  obtain ⟨Q1, hc, h⟩ := h
  refine g_callSI (pc := 10) (M' := mX6_in) (n := 3) (As := [.int x1, .int (0 : Int32), .int (((1 : Int32) <<< ((σ.1 25 0) &&& 31)) - (1 : Int32))]) (st := []) dX6_minor_10 ml_X6_75 ok_X6_in rfl (rmOk_M _ _ _) (by decide) (Nat.le_of_ble_eq_true rfl) rfl hc (fun r2 τ3 hq => ?_)
  have h := h r2 τ3 hq
  refine g_if_ne (pc := 13) 22 dX6_minor_13 (by decide) (fun q => ?_) (fun q => ?_)
  · have h := h.1 q
    refine g_aload_n (pc := 22) dX6_minor_22 rfl 0 rfl ?_
    obtain ⟨Q4, hc, h⟩ := h
    refine g_callVV (pc := 23) (M' := mX6_asksAsTold) (n := 3) (As := []) (st := []) dX6_minor_23 ml_X6_145 ok_X6_asksAsTold rfl (rmOk_M _ _ _) (by decide) rc_25 (Nat.le_of_ble_eq_true rfl) rfl hc (fun τ6 hq => ?_)
    have h := h τ6 hq
    refine g_aload_n (pc := 26) dX6_minor_26 rfl 0 rfl ?_
    refine g_iload_n (pc := 27) dX6_minor_27 rfl 1 rfl ?_
    refine g_aload_n (pc := 28) dX6_minor_28 rfl 0 rfl ?_
    obtain ⟨Q7, hc, h⟩ := h
    refine g_callVI (pc := 29) (M' := mX6_onNow) (n := 3) (As := []) (st := [.int x1, rf Γ 25]) dX6_minor_29 ml_X6_94 ok_X6_onNow rfl (rmOk_M _ _ _) (by decide) rc_25 (Nat.le_of_ble_eq_true rfl) rfl hc (fun r8 τ9 hq => ?_)
    have h := h r8 τ9 hq
    refine g_iand (pc := 32) dX6_minor_32 ?_
    refine g_iconst (pc := 33) (-1 : Int32) dX6_minor_33 rfl ?_
    obtain ⟨Q10, hc, h⟩ := h
    refine g_callVV (pc := 34) (M' := mX6_lays) (n := 3) (As := [.int (x1 &&& r8), .int (-1 : Int32)]) (st := []) dX6_minor_34 ml_X6_137 ok_X6_lays rfl (rmOk_M _ _ _) (by decide) rc_25 (Nat.le_of_ble_eq_true rfl) rfl hc (fun τ12 hq => ?_)
    have h := h τ12 hq
    refine g_aload_n (pc := 37) dX6_minor_37 rfl 0 rfl ?_
    refine g_getR (pc := 38) 25 6 11 34 fr_25_11 fl_X6_40 dX6_minor_38 ?_
    refine g_iconst (pc := 41) (1 : Int32) dX6_minor_41 rfl ?_
    refine g_aload_n (pc := 42) dX6_minor_42 rfl 0 rfl ?_
    refine g_getI (pc := 43) 25 6 14 fi_25_14 fl_X6_126 dX6_minor_43 ?_
    refine g_ishl (pc := 46) dX6_minor_46 ?_
    refine g_iconst (pc := 47) (1 : Int32) dX6_minor_47 rfl ?_
    refine g_isub (pc := 48) dX6_minor_48 ?_
    refine g_lald (pc := 49) 34 32 ar_34 h.1 dX6_minor_49 ?_
    have h := h.2
    exact g_lret (pc := 50) rfl dX6_minor_50 h
  · have h := h.2 q
    refine g_bipush (pc := 16) (-2 : Int32) dX6_minor_16 rfl ?_
    obtain ⟨Q13, hc, h⟩ := h
    refine g_callSJ (pc := 18) (M' := mX6_no) (n := 3) (As := [.int (-2 : Int32)]) (st := []) dX6_minor_18 ml_X6_141 ok_X6_no rfl (rmOk_M _ _ _) (by decide) (Nat.le_of_ble_eq_true rfl) rfl hc (fun r14 τ15 hq => ?_)
    have h := h r14 τ15 hq
    exact g_lret (pc := 21) rfl dX6_minor_21 h
set_option maxHeartbeats 4000000 in
set_option maxRecDepth 100000 in
theorem ct_X6_isFeasibleNow {Γ : GT} {Q : Int32 → St → Prop} (σ : St) 
    (h : ∃ Q1 : St → Prop, CtV Γ mX6_asksAsTold 0 [rf Γ 25] σ Q1 ∧ ∀ (τ3 : St), Q1 τ3 → (∃ Q4 : Int32 → St → Prop, CtI Γ mX6_onNow 0 [rf Γ 25] τ3 Q4 ∧ ∀ (r5 : Int32) (τ6 : St), Q4 r5 τ6 → (∃ Q7 : Int32 → St → Prop, CtI Γ mX6_isFeasible 3 [rf Γ 25, .int r5] τ6 Q7 ∧ ∀ (r8 : Int32) (τ9 : St), Q7 r8 τ9 → ((r8 = 0 ∨ r8 = 1) ∧ Q r8 τ9)))) :
    CtI Γ mX6_isFeasibleNow 4 [rf Γ 25] σ Q := by
  refine ct_of (by decide +kernel) (Nat.le_of_ble_eq_true rfl) ?_
  show G Γ mX6_isFeasibleNow (NI Γ 4 Q) 0 [(0, rf Γ 25)] [] σ
  refine g_aload_n (pc := 0) dX6_isFeasibleNow_0 rfl 0 rfl ?_
  obtain ⟨Q1, hc, h⟩ := h
  refine g_callVV (pc := 1) (M' := mX6_asksAsTold) (n := 4) (As := []) (st := []) dX6_isFeasibleNow_1 ml_X6_145 ok_X6_asksAsTold rfl (rmOk_M _ _ _) (by decide) rc_25 (Nat.le_of_ble_eq_true rfl) rfl hc (fun τ3 hq => ?_)
  have h := h τ3 hq
  refine g_aload_n (pc := 4) dX6_isFeasibleNow_4 rfl 0 rfl ?_
  refine g_aload_n (pc := 5) dX6_isFeasibleNow_5 rfl 0 rfl ?_
  obtain ⟨Q4, hc, h⟩ := h
  refine g_callVI (pc := 6) (M' := mX6_onNow) (n := 4) (As := []) (st := [rf Γ 25]) dX6_isFeasibleNow_6 ml_X6_94 ok_X6_onNow rfl (rmOk_M _ _ _) (by decide) rc_25 (Nat.le_of_ble_eq_true rfl) rfl hc (fun r5 τ6 hq => ?_)
  have h := h r5 τ6 hq
  obtain ⟨Q7, hc, h⟩ := h
  refine g_callVI (pc := 9) (M' := mX6_isFeasible) (n := 4) (As := [.int r5]) (st := []) dX6_isFeasibleNow_9 ml_X6_148 ok_X6_isFeasible rfl (rmOk_M _ _ _) (by decide) rc_25 (Nat.le_of_ble_eq_true rfl) rfl hc (fun r8 τ9 hq => ?_)
  have h := h r8 τ9 hq
  exact g_zret (pc := 12) rfl dX6_isFeasibleNow_12 h.1 h.2
set_option maxHeartbeats 4000000 in
set_option maxRecDepth 100000 in
theorem ct_X6_feasible {Γ : GT} {Q : Int32 → St → Prop} (σ : St) 
    (h : ∃ Q1 : Int32 → St → Prop, CtI Γ mX6_isFeasibleNow 4 [rf Γ 25] σ Q1 ∧ ∀ (r2 : Int32) (τ3 : St), Q1 r2 τ3 → (((r2 = 0) → (Q (0 : Int32) τ3)) ∧ ((¬ r2 = 0) → (Q (1 : Int32) τ3)))) :
    CtI Γ mX6_feasible 5 [rf Γ 25] σ Q := by
  refine ct_of (by decide +kernel) (Nat.le_of_ble_eq_true rfl) ?_
  show G Γ mX6_feasible (NI Γ 5 Q) 0 [(0, rf Γ 25)] [] σ
  refine g_aload_n (pc := 0) dX6_feasible_0 rfl 0 rfl ?_
  obtain ⟨Q1, hc, h⟩ := h
  refine g_callVI (pc := 1) (M' := mX6_isFeasibleNow) (n := 5) (As := []) (st := []) dX6_feasible_1 ml_X6_151 ok_X6_isFeasibleNow rfl (rmOk_M _ _ _) (by decide) rc_25 (Nat.le_of_ble_eq_true rfl) rfl hc (fun r2 τ3 hq => ?_)
  have h := h r2 τ3 hq
  refine g_if_eq (pc := 4) 11 dX6_feasible_4 (by decide) (fun q => ?_) (fun q => ?_)
  · have h := h.1 q
    refine g_iconst (pc := 11) (0 : Int32) dX6_feasible_11 rfl ?_
    exact g_iret (pc := 12) rfl dX6_feasible_12 h
  · have h := h.2 q
    refine g_iconst (pc := 7) (1 : Int32) dX6_feasible_7 rfl ?_
    refine g_goto (pc := 8) 12 dX6_feasible_8 (by decide) ?_
    exact g_iret (pc := 12) rfl dX6_feasible_12 h
set_option maxHeartbeats 4000000 in
set_option maxRecDepth 100000 in
theorem ct_X6_partOf {Γ : GT} {Q : Int64 → St → Prop} (σ : St) (x0 : Int64) (x2 : Int64) (x4 : Int32)
    (h : G Γ mX6_partOf (NJ Γ 0 Q) 6 [(0, .long x0), (2, .long x2), (4, .int x4), (5, .long x0), (7, .long x2)] [] σ) :
    CtJ Γ mX6_partOf 0 [.long x0, .long x2, .int x4] σ Q := by
  refine ct_of (by decide +kernel) (Nat.le_of_ble_eq_true rfl) ?_
  show G Γ mX6_partOf (NJ Γ 0 Q) 0 [(0, .long x0), (2, .long x2), (4, .int x4)] [] σ
  refine g_lload_n (pc := 0) dX6_partOf_0 rfl 0 rfl ?_
  refine g_lstore (pc := 1) [(5, _), (0, _), (2, _), (4, _)] dX6_partOf_1 (Nat.le_of_ble_eq_true rfl) rfl ?_
  refine g_lload_n (pc := 3) dX6_partOf_3 rfl 2 rfl ?_
  refine g_lstore (pc := 4) [(7, _), (5, _), (0, _), (2, _), (4, _)] dX6_partOf_4 (Nat.le_of_ble_eq_true rfl) rfl ?_
  refine g_pm [2, 3, 4, 1, 0] rfl ?_
  exact h
set_option maxHeartbeats 4000000 in
set_option maxRecDepth 100000 in
theorem t_X6_partOf_6 {Γ : GT} {Q : Int64 → St → Prop} (σ : St) (x0 : Int64) (x2 : Int64) (x4 : Int32) (x5 : Int64) (x7 : Int64)
    (h : ((x7 = (0 : Int64)) → (((¬ x4 = 0) → ((¬ x5 = 0) ∧ (Q (x2 / x5) σ))) ∧ ((x4 = 0) → ((¬ x5 = 0) ∧ (Q (x0 / x5) σ))))) ∧ ((¬ x7 = (0 : Int64)) → ((¬ x7 = 0) ∧ (G Γ mX6_partOf (NJ Γ 0 Q) 6 [(0, .long x0), (2, .long x2), (4, .int x4), (5, .long x7), (7, .long (x5 - x5 / x7 * x7))] [] σ)))) :
    G Γ mX6_partOf (NJ Γ 0 Q) 6 [(0, .long x0), (2, .long x2), (4, .int x4), (5, .long x5), (7, .long x7)] [] σ := by
  refine g_lload (pc := 6) dX6_partOf_6 4 rfl ?_
  refine g_lconst (pc := 8) (0 : Int64) dX6_partOf_8 rfl ?_
  refine g_lcmp_eq (pc := 9) 31 dX6_partOf_9 dX6_partOf_10 (by decide) (fun q => ?_) (fun q => ?_)
  · have h := h.1 q
    refine g_iload (pc := 31) dX6_partOf_31 2 rfl ?_
    refine g_if_ne (pc := 33) 43 dX6_partOf_33 (by decide) (fun q => ?_) (fun q => ?_)
    · have h := h.1 q
      refine g_lload_n (pc := 43) dX6_partOf_43 rfl 1 rfl ?_
      refine g_lload (pc := 44) dX6_partOf_44 3 rfl ?_
      refine g_ldiv (pc := 46) dX6_partOf_46 h.1 ?_
      have h := h.2
      exact g_lret (pc := 47) rfl dX6_partOf_47 h
    · have h := h.2 q
      refine g_lload_n (pc := 36) dX6_partOf_36 rfl 0 rfl ?_
      refine g_lload (pc := 37) dX6_partOf_37 3 rfl ?_
      refine g_ldiv (pc := 39) dX6_partOf_39 h.1 ?_
      have h := h.2
      refine g_goto (pc := 40) 47 dX6_partOf_40 (by decide) ?_
      exact g_lret (pc := 47) rfl dX6_partOf_47 h
  · have h := h.2 q
    refine g_lload (pc := 13) dX6_partOf_13 3 rfl ?_
    refine g_lload (pc := 15) dX6_partOf_15 4 rfl ?_
    refine g_lrem (pc := 17) dX6_partOf_17 h.1 ?_
    have h := h.2
    refine g_lstore (pc := 18) [(9, _), (0, _), (2, _), (4, _), (5, _), (7, _)] dX6_partOf_18 (Nat.le_of_ble_eq_true rfl) rfl ?_
    refine g_lload (pc := 20) dX6_partOf_20 5 rfl ?_
    refine g_lstore (pc := 22) [(5, _), (9, _), (0, _), (2, _), (4, _), (7, _)] dX6_partOf_22 (Nat.le_of_ble_eq_true rfl) rfl ?_
    refine g_lload (pc := 24) dX6_partOf_24 1 rfl ?_
    refine g_lstore (pc := 26) [(7, _), (5, _), (9, _), (0, _), (2, _), (4, _)] dX6_partOf_26 (Nat.le_of_ble_eq_true rfl) rfl ?_
    refine g_goto (pc := 28) 6 dX6_partOf_28 (by decide) ?_
    refine g_pm [3, 4, 5, 1, 0] rfl ?_
    exact h
set_option maxHeartbeats 4000000 in
set_option maxRecDepth 100000 in
theorem ct_X6_leastOf {Γ : GT} {Q : Int64 → St → Prop} (σ : St) (x1 : Int32) (x2 : Int32)
    (h : ∃ Q1 : Int32 → St → Prop, CtI Γ mX6_onNow 0 [rf Γ 25] σ Q1 ∧ ∀ (r2 : Int32) (τ3 : St), Q1 r2 τ3 → (∃ Q4 : Int32 → St → Prop, CtI Γ mX6_bitsOf 0 [.int (r2 &&& (((1 : Int32) <<< (x1 &&& 31)) - (1 : Int32)))] τ3 Q4 ∧ ∀ (r5 : Int32) (τ6 : St), Q4 r5 τ6 → (∃ Q7 : St → Prop, CtV Γ mX6_lays 2 [rf Γ 25, .int r2, .int (-1 : Int32)] τ6 Q7 ∧ ∀ (τ9 : St), Q7 τ9 → (vp_in (((1 : Int32) <<< ((τ9.1 25 14) &&& 31)) - (1 : Int32)) 32 ∧ (∀ v10 : Int64, v10 = (τ9.2 34 (((1 : Int32) <<< ((τ9.1 25 14) &&& 31)) - (1 : Int32)).toNatClampNeg) → ∃ Q11 : St → Prop, CtV Γ mX6_lays 2 [rf Γ 25, .int r2, .int r5] τ9 Q11 ∧ ∀ (τ13 : St), Q11 τ13 → (vp_in (((1 : Int32) <<< ((τ13.1 25 14) &&& 31)) - (1 : Int32)) 32 ∧ (∃ Q14 : Int64 → St → Prop, CtJ Γ mX6_partOf 0 [.long (τ13.2 34 (((1 : Int32) <<< ((τ13.1 25 14) &&& 31)) - (1 : Int32)).toNatClampNeg), .long v10, .int x2] τ13 Q14 ∧ ∀ (r15 : Int64) (τ16 : St), Q14 r15 τ16 → (Q r15 τ16)))))))) :
    CtJ Γ mX6_leastOf 3 [rf Γ 25, .int x1, .int x2] σ Q := by
  refine ct_of (by decide +kernel) (Nat.le_of_ble_eq_true rfl) ?_
  show G Γ mX6_leastOf (NJ Γ 3 Q) 0 [(0, rf Γ 25), (1, .int x1), (2, .int x2)] [] σ
  refine g_aload_n (pc := 0) dX6_leastOf_0 rfl 0 rfl ?_
  obtain ⟨Q1, hc, h⟩ := h
  refine g_callVI (pc := 1) (M' := mX6_onNow) (n := 3) (As := []) (st := []) dX6_leastOf_1 ml_X6_94 ok_X6_onNow rfl (rmOk_M _ _ _) (by decide) rc_25 (Nat.le_of_ble_eq_true rfl) rfl hc (fun r2 τ3 hq => ?_)
  have h := h r2 τ3 hq
  refine g_istore_n (pc := 4) [(3, _), (0, _), (1, _), (2, _)] dX6_leastOf_4 rfl (Nat.le_of_ble_eq_true rfl) rfl ?_
  refine g_iload_n (pc := 5) dX6_leastOf_5 rfl 0 rfl ?_
  refine g_iconst (pc := 6) (1 : Int32) dX6_leastOf_6 rfl ?_
  refine g_iload_n (pc := 7) dX6_leastOf_7 rfl 2 rfl ?_
  refine g_ishl (pc := 8) dX6_leastOf_8 ?_
  refine g_iconst (pc := 9) (1 : Int32) dX6_leastOf_9 rfl ?_
  refine g_isub (pc := 10) dX6_leastOf_10 ?_
  refine g_iand (pc := 11) dX6_leastOf_11 ?_
  obtain ⟨Q4, hc, h⟩ := h
  refine g_callSI (pc := 12) (M' := mX6_bitsOf) (n := 3) (As := [.int (r2 &&& (((1 : Int32) <<< (x1 &&& 31)) - (1 : Int32)))]) (st := []) dX6_leastOf_12 ml_X6_134 ok_X6_bitsOf rfl (rmOk_M _ _ _) (by decide) (Nat.le_of_ble_eq_true rfl) rfl hc (fun r5 τ6 hq => ?_)
  have h := h r5 τ6 hq
  refine g_istore (pc := 15) [(4, _), (3, _), (0, _), (1, _), (2, _)] dX6_leastOf_15 (Nat.le_of_ble_eq_true rfl) rfl ?_
  refine g_aload_n (pc := 17) dX6_leastOf_17 rfl 2 rfl ?_
  refine g_iload_n (pc := 18) dX6_leastOf_18 rfl 1 rfl ?_
  refine g_iconst (pc := 19) (-1 : Int32) dX6_leastOf_19 rfl ?_
  obtain ⟨Q7, hc, h⟩ := h
  refine g_callVV (pc := 20) (M' := mX6_lays) (n := 3) (As := [.int r2, .int (-1 : Int32)]) (st := []) dX6_leastOf_20 ml_X6_137 ok_X6_lays rfl (rmOk_M _ _ _) (by decide) rc_25 (Nat.le_of_ble_eq_true rfl) rfl hc (fun τ9 hq => ?_)
  have h := h τ9 hq
  refine g_aload_n (pc := 23) dX6_leastOf_23 rfl 2 rfl ?_
  refine g_getR (pc := 24) 25 6 11 34 fr_25_11 fl_X6_40 dX6_leastOf_24 ?_
  refine g_iconst (pc := 27) (1 : Int32) dX6_leastOf_27 rfl ?_
  refine g_aload_n (pc := 28) dX6_leastOf_28 rfl 2 rfl ?_
  refine g_getI (pc := 29) 25 6 14 fi_25_14 fl_X6_126 dX6_leastOf_29 ?_
  refine g_ishl (pc := 32) dX6_leastOf_32 ?_
  refine g_iconst (pc := 33) (1 : Int32) dX6_leastOf_33 rfl ?_
  refine g_isub (pc := 34) dX6_leastOf_34 ?_
  refine g_lald (pc := 35) 34 32 ar_34 h.1 dX6_leastOf_35 ?_
  have h := h.2
  refine g_topJ (fun v10 ev10 => ?_)
  refine g_lstore (pc := 36) [(5, _), (4, _), (3, _), (0, _), (1, _), (2, _)] dX6_leastOf_36 (Nat.le_of_ble_eq_true rfl) rfl ?_
  have h := h v10 ev10
  refine g_aload_n (pc := 38) dX6_leastOf_38 rfl 3 rfl ?_
  refine g_iload_n (pc := 39) dX6_leastOf_39 rfl 2 rfl ?_
  refine g_iload (pc := 40) dX6_leastOf_40 1 rfl ?_
  obtain ⟨Q11, hc, h⟩ := h
  refine g_callVV (pc := 42) (M' := mX6_lays) (n := 3) (As := [.int r2, .int r5]) (st := []) dX6_leastOf_42 ml_X6_137 ok_X6_lays rfl (rmOk_M _ _ _) (by decide) rc_25 (Nat.le_of_ble_eq_true rfl) rfl hc (fun τ13 hq => ?_)
  have h := h τ13 hq
  refine g_aload_n (pc := 45) dX6_leastOf_45 rfl 3 rfl ?_
  refine g_getR (pc := 46) 25 6 11 34 fr_25_11 fl_X6_40 dX6_leastOf_46 ?_
  refine g_iconst (pc := 49) (1 : Int32) dX6_leastOf_49 rfl ?_
  refine g_aload_n (pc := 50) dX6_leastOf_50 rfl 3 rfl ?_
  refine g_getI (pc := 51) 25 6 14 fi_25_14 fl_X6_126 dX6_leastOf_51 ?_
  refine g_ishl (pc := 54) dX6_leastOf_54 ?_
  refine g_iconst (pc := 55) (1 : Int32) dX6_leastOf_55 rfl ?_
  refine g_isub (pc := 56) dX6_leastOf_56 ?_
  refine g_lald (pc := 57) 34 32 ar_34 h.1 dX6_leastOf_57 ?_
  have h := h.2
  refine g_lload (pc := 58) dX6_leastOf_58 0 rfl ?_
  refine g_iload_n (pc := 60) dX6_leastOf_60 rfl 5 rfl ?_
  obtain ⟨Q14, hc, h⟩ := h
  refine g_callSJ (pc := 61) (M' := mX6_partOf) (n := 3) (As := [.long (τ13.2 34 (((1 : Int32) <<< ((τ13.1 25 14) &&& 31)) - (1 : Int32)).toNatClampNeg), .long v10, .int x2]) (st := []) dX6_leastOf_61 ml_X6_155 ok_X6_partOf rfl (rmOk_M _ _ _) (by decide) (Nat.le_of_ble_eq_true rfl) rfl hc (fun r15 τ16 hq => ?_)
  have h := h r15 τ16 hq
  exact g_lret (pc := 64) rfl dX6_leastOf_64 h
set_option maxHeartbeats 4000000 in
set_option maxRecDepth 100000 in
theorem ct_X6_least {Γ : GT} {Q : Int64 → St → Prop} (σ : St) (x1 : Int32) (x2 : Int32)
    (h : ∃ Q1 : Int32 → St → Prop, CtI Γ mX6_isSender 1 [rf Γ 25, .int x1] σ Q1 ∧ ∀ (r2 : Int32) (τ3 : St), Q1 r2 τ3 → (((r2 = 0) → (∃ Q4 : Int64 → St → Prop, CtJ Γ mX6_no 0 [.int (-2 : Int32)] τ3 Q4 ∧ ∀ (r5 : Int64) (τ6 : St), Q4 r5 τ6 → (Q r5 τ6))) ∧ ((¬ r2 = 0) → (∃ Q7 : Int32 → St → Prop, CtI Γ mX6_in 0 [.int x2, .int (0 : Int32), .int (1 : Int32)] τ3 Q7 ∧ ∀ (r8 : Int32) (τ9 : St), Q7 r8 τ9 → (((¬ r8 = 0) → (vp_in x1 5 ∧ ((((τ9.1 30 x1.toNatClampNeg) = 0) → (∃ Q10 : Int64 → St → Prop, CtJ Γ mX6_no 0 [.int (-3 : Int32)] τ9 Q10 ∧ ∀ (r11 : Int64) (τ12 : St), Q10 r11 τ12 → (Q r11 τ12))) ∧ ((¬ (τ9.1 30 x1.toNatClampNeg) = 0) → (∃ Q13 : Int32 → St → Prop, CtI Γ mX6_isFeasibleNow 4 [rf Γ 25] τ9 Q13 ∧ ∀ (r14 : Int32) (τ15 : St), Q13 r14 τ15 → (((r14 = 0) → (∃ Q16 : Int64 → St → Prop, CtJ Γ mX6_no 0 [.int (-3 : Int32)] τ15 Q16 ∧ ∀ (r17 : Int64) (τ18 : St), Q16 r17 τ18 → (Q r17 τ18))) ∧ ((¬ r14 = 0) → (∃ Q19 : Int64 → St → Prop, CtJ Γ mX6_leastOf 3 [rf Γ 25, .int x1, .int x2] τ15 Q19 ∧ ∀ (r20 : Int64) (τ21 : St), Q19 r20 τ21 → (Q r20 τ21))))))))) ∧ ((r8 = 0) → (∃ Q22 : Int64 → St → Prop, CtJ Γ mX6_no 0 [.int (-2 : Int32)] τ9 Q22 ∧ ∀ (r23 : Int64) (τ24 : St), Q22 r23 τ24 → (Q r23 τ24)))))))) :
    CtJ Γ mX6_least 5 [rf Γ 25, .int x1, .int x2] σ Q := by
  refine ct_of (by decide +kernel) (Nat.le_of_ble_eq_true rfl) ?_
  show G Γ mX6_least (NJ Γ 5 Q) 0 [(0, rf Γ 25), (1, .int x1), (2, .int x2)] [] σ
  refine g_aload_n (pc := 0) dX6_least_0 rfl 0 rfl ?_
  refine g_iload_n (pc := 1) dX6_least_1 rfl 1 rfl ?_
  obtain ⟨Q1, hc, h⟩ := h
  refine g_callVI (pc := 2) (M' := mX6_isSender) (n := 5) (As := [.int x1]) (st := []) dX6_least_2 ml_X6_79 ok_X6_isSender rfl (rmOk_M _ _ _) (by decide) rc_25 (Nat.le_of_ble_eq_true rfl) rfl hc (fun r2 τ3 hq => ?_)
  have h := h r2 τ3 hq
  refine g_if_eq (pc := 5) 17 dX6_least_5 (by decide) (fun q => ?_) (fun q => ?_)
  · have h := h.1 q
    refine g_bipush (pc := 17) (-2 : Int32) dX6_least_17 rfl ?_
    obtain ⟨Q4, hc, h⟩ := h
    refine g_callSJ (pc := 19) (M' := mX6_no) (n := 5) (As := [.int (-2 : Int32)]) (st := []) dX6_least_19 ml_X6_141 ok_X6_no rfl (rmOk_M _ _ _) (by decide) (Nat.le_of_ble_eq_true rfl) rfl hc (fun r5 τ6 hq => ?_)
    have h := h r5 τ6 hq
    exact g_lret (pc := 22) rfl dX6_least_22 h
  · have h := h.2 q
    refine g_iload_n (pc := 8) dX6_least_8 rfl 2 rfl ?_
    refine g_iconst (pc := 9) (0 : Int32) dX6_least_9 rfl ?_
    refine g_iconst (pc := 10) (1 : Int32) dX6_least_10 rfl ?_
    obtain ⟨Q7, hc, h⟩ := h
    refine g_callSI (pc := 11) (M' := mX6_in) (n := 5) (As := [.int x2, .int (0 : Int32), .int (1 : Int32)]) (st := []) dX6_least_11 ml_X6_75 ok_X6_in rfl (rmOk_M _ _ _) (by decide) (Nat.le_of_ble_eq_true rfl) rfl hc (fun r8 τ9 hq => ?_)
    have h := h r8 τ9 hq
    refine g_if_ne (pc := 14) 23 dX6_least_14 (by decide) (fun q => ?_) (fun q => ?_)
    · have h := h.1 q
      refine g_aload_n (pc := 23) dX6_least_23 rfl 0 rfl ?_
      refine g_getR (pc := 24) 25 6 6 30 fr_25_6 fl_X6_26 dX6_least_24 ?_
      refine g_iload_n (pc := 27) dX6_least_27 rfl 1 rfl ?_
      refine g_zald (pc := 28) 30 5 ar_30 h.1 dX6_least_28 ?_
      have h := h.2
      refine g_if_eq (pc := 29) 48 dX6_least_29 (by decide) (fun q => ?_) (fun q => ?_)
      · have h := h.1 q
        refine g_bipush (pc := 48) (-3 : Int32) dX6_least_48 rfl ?_
        obtain ⟨Q10, hc, h⟩ := h
        refine g_callSJ (pc := 50) (M' := mX6_no) (n := 5) (As := [.int (-3 : Int32)]) (st := []) dX6_least_50 ml_X6_141 ok_X6_no rfl (rmOk_M _ _ _) (by decide) (Nat.le_of_ble_eq_true rfl) rfl hc (fun r11 τ12 hq => ?_)
        have h := h r11 τ12 hq
        exact g_lret (pc := 53) rfl dX6_least_53 h
      · have h := h.2 q
        refine g_aload_n (pc := 32) dX6_least_32 rfl 0 rfl ?_
        obtain ⟨Q13, hc, h⟩ := h
        refine g_callVI (pc := 33) (M' := mX6_isFeasibleNow) (n := 5) (As := []) (st := []) dX6_least_33 ml_X6_151 ok_X6_isFeasibleNow rfl (rmOk_M _ _ _) (by decide) rc_25 (Nat.le_of_ble_eq_true rfl) rfl hc (fun r14 τ15 hq => ?_)
        have h := h r14 τ15 hq
        refine g_if_eq (pc := 36) 48 dX6_least_36 (by decide) (fun q => ?_) (fun q => ?_)
        · have h := h.1 q
          refine g_bipush (pc := 48) (-3 : Int32) dX6_least_48 rfl ?_
          obtain ⟨Q16, hc, h⟩ := h
          refine g_callSJ (pc := 50) (M' := mX6_no) (n := 5) (As := [.int (-3 : Int32)]) (st := []) dX6_least_50 ml_X6_141 ok_X6_no rfl (rmOk_M _ _ _) (by decide) (Nat.le_of_ble_eq_true rfl) rfl hc (fun r17 τ18 hq => ?_)
          have h := h r17 τ18 hq
          exact g_lret (pc := 53) rfl dX6_least_53 h
        · have h := h.2 q
          refine g_aload_n (pc := 39) dX6_least_39 rfl 0 rfl ?_
          refine g_iload_n (pc := 40) dX6_least_40 rfl 1 rfl ?_
          refine g_iload_n (pc := 41) dX6_least_41 rfl 2 rfl ?_
          obtain ⟨Q19, hc, h⟩ := h
          refine g_callVJ (pc := 42) (M' := mX6_leastOf) (n := 5) (As := [.int x1, .int x2]) (st := []) dX6_least_42 ml_X6_159 ok_X6_leastOf rfl (rmOk_M _ _ _) (by decide) rc_25 (Nat.le_of_ble_eq_true rfl) rfl hc (fun r20 τ21 hq => ?_)
          have h := h r20 τ21 hq
          refine g_goto (pc := 45) 53 dX6_least_45 (by decide) ?_
          exact g_lret (pc := 53) rfl dX6_least_53 h
    · have h := h.2 q
      refine g_bipush (pc := 17) (-2 : Int32) dX6_least_17 rfl ?_
      obtain ⟨Q22, hc, h⟩ := h
      refine g_callSJ (pc := 19) (M' := mX6_no) (n := 5) (As := [.int (-2 : Int32)]) (st := []) dX6_least_19 ml_X6_141 ok_X6_no rfl (rmOk_M _ _ _) (by decide) (Nat.le_of_ble_eq_true rfl) rfl hc (fun r23 τ24 hq => ?_)
      have h := h r23 τ24 hq
      exact g_lret (pc := 22) rfl dX6_least_22 h
set_option maxHeartbeats 4000000 in
set_option maxRecDepth 100000 in
theorem ct_X6_witnessNow {Γ : GT} {Q : Int32 → St → Prop} (σ : St) 
    (h : ∃ Q1 : Int32 → St → Prop, CtI Γ mX6_onNow 0 [rf Γ 25] σ Q1 ∧ ∀ (r2 : Int32) (τ3 : St), Q1 r2 τ3 → (∃ Q4 : Int32 → St → Prop, CtI Γ mX6_isFeasibleNow 4 [rf Γ 25] τ3 Q4 ∧ ∀ (r5 : Int32) (τ6 : St), Q4 r5 τ6 → (G Γ mX6_witnessNow (NI Γ 5 Q) 15 [(0, rf Γ 25), (1, .int r2), (2, .int (0 : Int32)), (3, .int r5), (4, .int (1 : Int32))] [] τ6))) :
    CtI Γ mX6_witnessNow 5 [rf Γ 25] σ Q := by
  refine ct_of (by decide +kernel) (Nat.le_of_ble_eq_true rfl) ?_
  show G Γ mX6_witnessNow (NI Γ 5 Q) 0 [(0, rf Γ 25)] [] σ
  refine g_aload_n (pc := 0) dX6_witnessNow_0 rfl 0 rfl ?_
  obtain ⟨Q1, hc, h⟩ := h
  refine g_callVI (pc := 1) (M' := mX6_onNow) (n := 5) (As := []) (st := []) dX6_witnessNow_1 ml_X6_94 ok_X6_onNow rfl (rmOk_M _ _ _) (by decide) rc_25 (Nat.le_of_ble_eq_true rfl) rfl hc (fun r2 τ3 hq => ?_)
  have h := h r2 τ3 hq
  refine g_istore_n (pc := 4) [(1, _), (0, _)] dX6_witnessNow_4 rfl (Nat.le_of_ble_eq_true rfl) rfl ?_
  refine g_iconst (pc := 5) (0 : Int32) dX6_witnessNow_5 rfl ?_
  refine g_istore_n (pc := 6) [(2, _), (1, _), (0, _)] dX6_witnessNow_6 rfl (Nat.le_of_ble_eq_true rfl) rfl ?_
  refine g_aload_n (pc := 7) dX6_witnessNow_7 rfl 2 rfl ?_
  obtain ⟨Q4, hc, h⟩ := h
  refine g_callVI (pc := 8) (M' := mX6_isFeasibleNow) (n := 5) (As := []) (st := []) dX6_witnessNow_8 ml_X6_151 ok_X6_isFeasibleNow rfl (rmOk_M _ _ _) (by decide) rc_25 (Nat.le_of_ble_eq_true rfl) rfl hc (fun r5 τ6 hq => ?_)
  have h := h r5 τ6 hq
  refine g_istore_n (pc := 11) [(3, _), (2, _), (1, _), (0, _)] dX6_witnessNow_11 rfl (Nat.le_of_ble_eq_true rfl) rfl ?_
  refine g_iconst (pc := 12) (1 : Int32) dX6_witnessNow_12 rfl ?_
  refine g_istore (pc := 13) [(4, _), (3, _), (2, _), (1, _), (0, _)] dX6_witnessNow_13 (Nat.le_of_ble_eq_true rfl) rfl ?_
  refine g_pm [4, 3, 2, 1, 0] rfl ?_
  exact h
set_option maxHeartbeats 4000000 in
set_option maxRecDepth 100000 in
theorem t_X6_witnessNow_15 {Γ : GT} {Q : Int32 → St → Prop} (σ : St) (x1 : Int32) (x2 : Int32) (x3 : Int32) (x4 : Int32)
    (h : (((32 : Int32) ≤ x4) → (Q x2 σ)) ∧ ((¬ (32 : Int32) ≤ x4) → (((¬ x3 = 0) → (Q x2 σ)) ∧ ((x3 = 0) → (((x2 = 0) → (G Γ mX6_witnessNow (NI Γ 5 Q) 47 [(0, rf Γ 25), (1, .int x1), (2, .int x2), (3, .int x3), (4, .int x4)] [.int (1 : Int32)] σ)) ∧ ((¬ x2 = 0) → (∃ Q7 : Int32 → St → Prop, CtI Γ mX6_bitsOf 0 [.int x4] σ Q7 ∧ ∀ (r8 : Int32) (τ9 : St), Q7 r8 τ9 → (∃ Q10 : Int32 → St → Prop, CtI Γ mX6_bitsOf 0 [.int x2] τ9 Q10 ∧ ∀ (r11 : Int32) (τ12 : St), Q10 r11 τ12 → (((r11 ≤ r8) → (G Γ mX6_witnessNow (NI Γ 5 Q) 47 [(0, rf Γ 25), (1, .int x1), (2, .int x2), (3, .int x3), (4, .int x4)] [.int (0 : Int32)] τ12)) ∧ ((¬ r11 ≤ r8) → (G Γ mX6_witnessNow (NI Γ 5 Q) 47 [(0, rf Γ 25), (1, .int x1), (2, .int x2), (3, .int x3), (4, .int x4)] [.int (1 : Int32)] τ12))))))))))) :
    G Γ mX6_witnessNow (NI Γ 5 Q) 15 [(0, rf Γ 25), (1, .int x1), (2, .int x2), (3, .int x3), (4, .int x4)] [] σ := by
  refine g_iload (pc := 15) dX6_witnessNow_15 4 rfl ?_
  refine g_bipush (pc := 17) (32 : Int32) dX6_witnessNow_17 rfl ?_
  refine g_icmp_ge (pc := 19) 85 dX6_witnessNow_19 (by decide) (fun q => ?_) (fun q => ?_)
  · have h := h.1 q
    refine g_iload_n (pc := 85) dX6_witnessNow_85 rfl 2 rfl ?_
    exact g_iret (pc := 86) rfl dX6_witnessNow_86 h
  · have h := h.2 q
    refine g_iload_n (pc := 22) dX6_witnessNow_22 rfl 3 rfl ?_
    refine g_if_ne (pc := 23) 85 dX6_witnessNow_23 (by decide) (fun q => ?_) (fun q => ?_)
    · have h := h.1 q
      refine g_iload_n (pc := 85) dX6_witnessNow_85 rfl 2 rfl ?_
      exact g_iret (pc := 86) rfl dX6_witnessNow_86 h
    · have h := h.2 q
      refine g_iload_n (pc := 26) dX6_witnessNow_26 rfl 2 rfl ?_
      refine g_if_eq (pc := 27) 42 dX6_witnessNow_27 (by decide) (fun q => ?_) (fun q => ?_)
      · have h := h.1 q
        refine g_iconst (pc := 42) (1 : Int32) dX6_witnessNow_42 rfl ?_
        refine g_goto (pc := 43) 47 dX6_witnessNow_43 (by decide) ?_
        exact h
      · have h := h.2 q
        refine g_iload (pc := 30) dX6_witnessNow_30 4 rfl ?_
        obtain ⟨Q7, hc, h⟩ := h
        refine g_callSI (pc := 32) (M' := mX6_bitsOf) (n := 5) (As := [.int x4]) (st := []) dX6_witnessNow_32 ml_X6_134 ok_X6_bitsOf rfl (rmOk_M _ _ _) (by decide) (Nat.le_of_ble_eq_true rfl) rfl hc (fun r8 τ9 hq => ?_)
        have h := h r8 τ9 hq
        refine g_iload_n (pc := 35) dX6_witnessNow_35 rfl 2 rfl ?_
        obtain ⟨Q10, hc, h⟩ := h
        refine g_callSI (pc := 36) (M' := mX6_bitsOf) (n := 5) (As := [.int x2]) (st := [.int r8]) dX6_witnessNow_36 ml_X6_134 ok_X6_bitsOf rfl (rmOk_M _ _ _) (by decide) (Nat.le_of_ble_eq_true rfl) rfl hc (fun r11 τ12 hq => ?_)
        have h := h r11 τ12 hq
        refine g_icmp_ge (pc := 39) 46 dX6_witnessNow_39 (by decide) (fun q => ?_) (fun q => ?_)
        · have h := h.1 q
          refine g_iconst (pc := 46) (0 : Int32) dX6_witnessNow_46 rfl ?_
          exact h
        · have h := h.2 q
          refine g_iconst (pc := 42) (1 : Int32) dX6_witnessNow_42 rfl ?_
          refine g_goto (pc := 43) 47 dX6_witnessNow_43 (by decide) ?_
          exact h
set_option maxHeartbeats 4000000 in
set_option maxRecDepth 100000 in
theorem t_X6_witnessNow_47 {Γ : GT} {Q : Int32 → St → Prop} (σ : St) (x1 : Int32) (x2 : Int32) (x3 : Int32) (x4 : Int32) (y0 : Int32)
    (h : ((¬ (x4 &&& (x1 ^^^ (-1 : Int32))) = 0) → (G Γ mX6_witnessNow (NI Γ 5 Q) 15 [(0, rf Γ 25), (1, .int x1), (2, .int x2), (3, .int x3), (4, .int (x4 + (1 : Int32)))] [] σ)) ∧ (((x4 &&& (x1 ^^^ (-1 : Int32))) = 0) → (((y0 = 0) → (G Γ mX6_witnessNow (NI Γ 5 Q) 15 [(0, rf Γ 25), (1, .int x1), (2, .int x2), (3, .int x3), (4, .int (x4 + (1 : Int32)))] [] σ)) ∧ ((¬ y0 = 0) → (∃ Q13 : Int32 → St → Prop, CtI Γ mX6_isFeasible 3 [rf Γ 25, .int x4] σ Q13 ∧ ∀ (r14 : Int32) (τ15 : St), Q13 r14 τ15 → (((¬ r14 = 0) → (G Γ mX6_witnessNow (NI Γ 5 Q) 15 [(0, rf Γ 25), (1, .int x1), (2, .int x2), (3, .int x3), (4, .int (x4 + (1 : Int32)))] [] τ15)) ∧ ((r14 = 0) → (G Γ mX6_witnessNow (NI Γ 5 Q) 15 [(0, rf Γ 25), (1, .int x1), (2, .int x4), (3, .int x3), (4, .int (x4 + (1 : Int32)))] [] τ15)))))))) :
    G Γ mX6_witnessNow (NI Γ 5 Q) 47 [(0, rf Γ 25), (1, .int x1), (2, .int x2), (3, .int x3), (4, .int x4)] [.int y0] σ := by
  refine g_istore (pc := 47) [(5, _), (0, _), (1, _), (2, _), (3, _), (4, _)] dX6_witnessNow_47 (Nat.le_of_ble_eq_true rfl) rfl ?_
  refine g_iload (pc := 49) dX6_witnessNow_49 5 rfl ?_
  refine g_iload_n (pc := 51) dX6_witnessNow_51 rfl 2 rfl ?_
  refine g_iconst (pc := 52) (-1 : Int32) dX6_witnessNow_52 rfl ?_
  refine g_ixor (pc := 53) dX6_witnessNow_53 ?_
  refine g_iand (pc := 54) dX6_witnessNow_54 ?_
  refine g_if_ne (pc := 55) 77 dX6_witnessNow_55 (by decide) (fun q => ?_) (fun q => ?_)
  · have h := h.1 q
    refine g_iload_n (pc := 77) dX6_witnessNow_77 rfl 3 rfl ?_
    refine g_istore_n (pc := 78) [(2, _), (5, _), (0, _), (1, _), (3, _), (4, _)] dX6_witnessNow_78 rfl (Nat.le_of_ble_eq_true rfl) rfl ?_
    refine g_iinc (pc := 79) (1 : Int32) [(4, _), (2, _), (5, _), (0, _), (1, _), (3, _)] dX6_witnessNow_79 5 rfl rfl (Nat.le_of_ble_eq_true rfl) rfl ?_
    refine g_goto (pc := 82) 15 dX6_witnessNow_82 (by decide) ?_
    refine g_pm [3, 4, 1, 5, 0] rfl ?_
    exact h
  · have h := h.2 q
    refine g_iload (pc := 58) dX6_witnessNow_58 0 rfl ?_
    refine g_if_eq (pc := 60) 77 dX6_witnessNow_60 (by decide) (fun q => ?_) (fun q => ?_)
    · have h := h.1 q
      refine g_iload_n (pc := 77) dX6_witnessNow_77 rfl 3 rfl ?_
      refine g_istore_n (pc := 78) [(2, _), (5, _), (0, _), (1, _), (3, _), (4, _)] dX6_witnessNow_78 rfl (Nat.le_of_ble_eq_true rfl) rfl ?_
      refine g_iinc (pc := 79) (1 : Int32) [(4, _), (2, _), (5, _), (0, _), (1, _), (3, _)] dX6_witnessNow_79 5 rfl rfl (Nat.le_of_ble_eq_true rfl) rfl ?_
      refine g_goto (pc := 82) 15 dX6_witnessNow_82 (by decide) ?_
      refine g_pm [3, 4, 1, 5, 0] rfl ?_
      exact h
    · have h := h.2 q
      refine g_aload_n (pc := 63) dX6_witnessNow_63 rfl 1 rfl ?_
      refine g_iload (pc := 64) dX6_witnessNow_64 5 rfl ?_
      obtain ⟨Q13, hc, h⟩ := h
      refine g_callVI (pc := 66) (M' := mX6_isFeasible) (n := 5) (As := [.int x4]) (st := []) dX6_witnessNow_66 ml_X6_148 ok_X6_isFeasible rfl (rmOk_M _ _ _) (by decide) rc_25 (Nat.le_of_ble_eq_true rfl) rfl hc (fun r14 τ15 hq => ?_)
      have h := h r14 τ15 hq
      refine g_if_ne (pc := 69) 77 dX6_witnessNow_69 (by decide) (fun q => ?_) (fun q => ?_)
      · have h := h.1 q
        refine g_iload_n (pc := 77) dX6_witnessNow_77 rfl 3 rfl ?_
        refine g_istore_n (pc := 78) [(2, _), (5, _), (0, _), (1, _), (3, _), (4, _)] dX6_witnessNow_78 rfl (Nat.le_of_ble_eq_true rfl) rfl ?_
        refine g_iinc (pc := 79) (1 : Int32) [(4, _), (2, _), (5, _), (0, _), (1, _), (3, _)] dX6_witnessNow_79 5 rfl rfl (Nat.le_of_ble_eq_true rfl) rfl ?_
        refine g_goto (pc := 82) 15 dX6_witnessNow_82 (by decide) ?_
        refine g_pm [3, 4, 1, 5, 0] rfl ?_
        exact h
      · have h := h.2 q
        refine g_iload (pc := 72) dX6_witnessNow_72 5 rfl ?_
        refine g_goto (pc := 74) 78 dX6_witnessNow_74 (by decide) ?_
        refine g_istore_n (pc := 78) [(2, _), (5, _), (0, _), (1, _), (3, _), (4, _)] dX6_witnessNow_78 rfl (Nat.le_of_ble_eq_true rfl) rfl ?_
        refine g_iinc (pc := 79) (1 : Int32) [(4, _), (2, _), (5, _), (0, _), (1, _), (3, _)] dX6_witnessNow_79 5 rfl rfl (Nat.le_of_ble_eq_true rfl) rfl ?_
        refine g_goto (pc := 82) 15 dX6_witnessNow_82 (by decide) ?_
        refine g_pm [3, 4, 1, 5, 0] rfl ?_
        exact h
set_option maxHeartbeats 4000000 in
set_option maxRecDepth 100000 in
theorem ct_X6_witness {Γ : GT} {Q : Int32 → St → Prop} (σ : St) 
    (h : ∃ Q1 : Int32 → St → Prop, CtI Γ mX6_witnessNow 5 [rf Γ 25] σ Q1 ∧ ∀ (r2 : Int32) (τ3 : St), Q1 r2 τ3 → (Q r2 τ3)) :
    CtI Γ mX6_witness 6 [rf Γ 25] σ Q := by
  refine ct_of (by decide +kernel) (Nat.le_of_ble_eq_true rfl) ?_
  show G Γ mX6_witness (NI Γ 6 Q) 0 [(0, rf Γ 25)] [] σ
  refine g_aload_n (pc := 0) dX6_witness_0 rfl 0 rfl ?_
  obtain ⟨Q1, hc, h⟩ := h
  refine g_callVI (pc := 1) (M' := mX6_witnessNow) (n := 6) (As := []) (st := []) dX6_witness_1 ml_X6_163 ok_X6_witnessNow rfl (rmOk_M _ _ _) (by decide) rc_25 (Nat.le_of_ble_eq_true rfl) rfl hc (fun r2 τ3 hq => ?_)
  have h := h r2 τ3 hq
  exact g_iret (pc := 4) rfl dX6_witness_4 h
set_option maxHeartbeats 4000000 in
set_option maxRecDepth 100000 in
theorem ct_X6_outNow {Γ : GT} {Q : Int32 → St → Prop} (σ : St) 
    (h : ∃ Q1 : St → Prop, CtV Γ mX6_asksAsTold 0 [rf Γ 25] σ Q1 ∧ ∀ (τ3 : St), Q1 τ3 → (∃ Q4 : Int32 → St → Prop, CtI Γ mX6_onNow 0 [rf Γ 25] τ3 Q4 ∧ ∀ (r5 : Int32) (τ6 : St), Q4 r5 τ6 → (G Γ mX6_outNow (NI Γ 4 Q) 13 [(0, rf Γ 25), (1, .int r5), (2, .int r5), (3, .int (0 : Int32))] [] τ6))) :
    CtI Γ mX6_outNow 4 [rf Γ 25] σ Q := by
  refine ct_of (by decide +kernel) (Nat.le_of_ble_eq_true rfl) ?_
  show G Γ mX6_outNow (NI Γ 4 Q) 0 [(0, rf Γ 25)] [] σ
  refine g_aload_n (pc := 0) dX6_outNow_0 rfl 0 rfl ?_
  obtain ⟨Q1, hc, h⟩ := h
  refine g_callVV (pc := 1) (M' := mX6_asksAsTold) (n := 4) (As := []) (st := []) dX6_outNow_1 ml_X6_145 ok_X6_asksAsTold rfl (rmOk_M _ _ _) (by decide) rc_25 (Nat.le_of_ble_eq_true rfl) rfl hc (fun τ3 hq => ?_)
  have h := h τ3 hq
  refine g_aload_n (pc := 4) dX6_outNow_4 rfl 0 rfl ?_
  obtain ⟨Q4, hc, h⟩ := h
  refine g_callVI (pc := 5) (M' := mX6_onNow) (n := 4) (As := []) (st := []) dX6_outNow_5 ml_X6_94 ok_X6_onNow rfl (rmOk_M _ _ _) (by decide) rc_25 (Nat.le_of_ble_eq_true rfl) rfl hc (fun r5 τ6 hq => ?_)
  have h := h r5 τ6 hq
  refine g_istore_n (pc := 8) [(1, _), (0, _)] dX6_outNow_8 rfl (Nat.le_of_ble_eq_true rfl) rfl ?_
  refine g_iload_n (pc := 9) dX6_outNow_9 rfl 0 rfl ?_
  refine g_istore_n (pc := 10) [(2, _), (1, _), (0, _)] dX6_outNow_10 rfl (Nat.le_of_ble_eq_true rfl) rfl ?_
  refine g_iconst (pc := 11) (0 : Int32) dX6_outNow_11 rfl ?_
  refine g_istore_n (pc := 12) [(3, _), (2, _), (1, _), (0, _)] dX6_outNow_12 rfl (Nat.le_of_ble_eq_true rfl) rfl ?_
  refine g_pm [3, 2, 1, 0] rfl ?_
  exact h
set_option maxHeartbeats 4000000 in
set_option maxRecDepth 100000 in
theorem t_X6_outNow_13 {Γ : GT} {Q : Int32 → St → Prop} (σ : St) (x1 : Int32) (x2 : Int32) (x3 : Int32)
    (h : (((32 : Int32) ≤ x3) → (Q x2 σ)) ∧ ((¬ (32 : Int32) ≤ x3) → (∃ Q7 : Int32 → St → Prop, CtI Γ mX6_bitsOf 0 [.int x3] σ Q7 ∧ ∀ (r8 : Int32) (τ9 : St), Q7 r8 τ9 → (∃ Q10 : Int32 → St → Prop, CtI Γ mX6_bitsOf 0 [.int x2] τ9 Q10 ∧ ∀ (r11 : Int32) (τ12 : St), Q10 r11 τ12 → (((r11 ≤ r8) → (G Γ mX6_outNow (NI Γ 4 Q) 35 [(0, rf Γ 25), (1, .int x1), (2, .int x2), (3, .int x3)] [.int (0 : Int32)] τ12)) ∧ ((¬ r11 ≤ r8) → (G Γ mX6_outNow (NI Γ 4 Q) 35 [(0, rf Γ 25), (1, .int x1), (2, .int x2), (3, .int x3)] [.int (1 : Int32)] τ12))))))) :
    G Γ mX6_outNow (NI Γ 4 Q) 13 [(0, rf Γ 25), (1, .int x1), (2, .int x2), (3, .int x3)] [] σ := by
  refine g_iload_n (pc := 13) dX6_outNow_13 rfl 3 rfl ?_
  refine g_bipush (pc := 14) (32 : Int32) dX6_outNow_14 rfl ?_
  refine g_icmp_ge (pc := 16) 74 dX6_outNow_16 (by decide) (fun q => ?_) (fun q => ?_)
  · have h := h.1 q
    refine g_iload_n (pc := 74) dX6_outNow_74 rfl 2 rfl ?_
    exact g_iret (pc := 75) rfl dX6_outNow_75 h
  · have h := h.2 q
    refine g_iload_n (pc := 19) dX6_outNow_19 rfl 3 rfl ?_
    obtain ⟨Q7, hc, h⟩ := h
    refine g_callSI (pc := 20) (M' := mX6_bitsOf) (n := 4) (As := [.int x3]) (st := []) dX6_outNow_20 ml_X6_134 ok_X6_bitsOf rfl (rmOk_M _ _ _) (by decide) (Nat.le_of_ble_eq_true rfl) rfl hc (fun r8 τ9 hq => ?_)
    have h := h r8 τ9 hq
    refine g_iload_n (pc := 23) dX6_outNow_23 rfl 2 rfl ?_
    obtain ⟨Q10, hc, h⟩ := h
    refine g_callSI (pc := 24) (M' := mX6_bitsOf) (n := 4) (As := [.int x2]) (st := [.int r8]) dX6_outNow_24 ml_X6_134 ok_X6_bitsOf rfl (rmOk_M _ _ _) (by decide) (Nat.le_of_ble_eq_true rfl) rfl hc (fun r11 τ12 hq => ?_)
    have h := h r11 τ12 hq
    refine g_icmp_ge (pc := 27) 34 dX6_outNow_27 (by decide) (fun q => ?_) (fun q => ?_)
    · have h := h.1 q
      refine g_iconst (pc := 34) (0 : Int32) dX6_outNow_34 rfl ?_
      exact h
    · have h := h.2 q
      refine g_iconst (pc := 30) (1 : Int32) dX6_outNow_30 rfl ?_
      refine g_goto (pc := 31) 35 dX6_outNow_31 (by decide) ?_
      exact h
set_option maxHeartbeats 4000000 in
set_option maxRecDepth 100000 in
theorem t_X6_outNow_35 {Γ : GT} {Q : Int32 → St → Prop} (σ : St) (x1 : Int32) (x2 : Int32) (x3 : Int32) (y0 : Int32)
    (h : ((¬ (x3 &&& (x1 ^^^ (-1 : Int32))) = 0) → (G Γ mX6_outNow (NI Γ 4 Q) 13 [(0, rf Γ 25), (1, .int x1), (2, .int x2), (3, .int (x3 + (1 : Int32)))] [] σ)) ∧ (((x3 &&& (x1 ^^^ (-1 : Int32))) = 0) → (((y0 = 0) → (G Γ mX6_outNow (NI Γ 4 Q) 13 [(0, rf Γ 25), (1, .int x1), (2, .int x2), (3, .int (x3 + (1 : Int32)))] [] σ)) ∧ ((¬ y0 = 0) → (∃ Q13 : Int32 → St → Prop, CtI Γ mX6_isFeasible 3 [rf Γ 25, .int (x1 &&& (x3 ^^^ (-1 : Int32)))] σ Q13 ∧ ∀ (r14 : Int32) (τ15 : St), Q13 r14 τ15 → (((r14 = 0) → (G Γ mX6_outNow (NI Γ 4 Q) 13 [(0, rf Γ 25), (1, .int x1), (2, .int x2), (3, .int (x3 + (1 : Int32)))] [] τ15)) ∧ ((¬ r14 = 0) → (G Γ mX6_outNow (NI Γ 4 Q) 13 [(0, rf Γ 25), (1, .int x1), (2, .int x3), (3, .int (x3 + (1 : Int32)))] [] τ15)))))))) :
    G Γ mX6_outNow (NI Γ 4 Q) 35 [(0, rf Γ 25), (1, .int x1), (2, .int x2), (3, .int x3)] [.int y0] σ := by
  refine g_istore (pc := 35) [(4, _), (0, _), (1, _), (2, _), (3, _)] dX6_outNow_35 (Nat.le_of_ble_eq_true rfl) rfl ?_
  refine g_iload_n (pc := 37) dX6_outNow_37 rfl 4 rfl ?_
  refine g_iload_n (pc := 38) dX6_outNow_38 rfl 2 rfl ?_
  refine g_iconst (pc := 39) (-1 : Int32) dX6_outNow_39 rfl ?_
  refine g_ixor (pc := 40) dX6_outNow_40 ?_
  refine g_iand (pc := 41) dX6_outNow_41 ?_
  refine g_if_ne (pc := 42) 66 dX6_outNow_42 (by decide) (fun q => ?_) (fun q => ?_)
  · have h := h.1 q
    refine g_iload_n (pc := 66) dX6_outNow_66 rfl 3 rfl ?_
    refine g_istore_n (pc := 67) [(2, _), (4, _), (0, _), (1, _), (3, _)] dX6_outNow_67 rfl (Nat.le_of_ble_eq_true rfl) rfl ?_
    refine g_iinc (pc := 68) (1 : Int32) [(3, _), (2, _), (4, _), (0, _), (1, _)] dX6_outNow_68 4 rfl rfl (Nat.le_of_ble_eq_true rfl) rfl ?_
    refine g_goto (pc := 71) 13 dX6_outNow_71 (by decide) ?_
    refine g_pm [3, 4, 1, 0] rfl ?_
    exact h
  · have h := h.2 q
    refine g_iload (pc := 45) dX6_outNow_45 0 rfl ?_
    refine g_if_eq (pc := 47) 66 dX6_outNow_47 (by decide) (fun q => ?_) (fun q => ?_)
    · have h := h.1 q
      refine g_iload_n (pc := 66) dX6_outNow_66 rfl 3 rfl ?_
      refine g_istore_n (pc := 67) [(2, _), (4, _), (0, _), (1, _), (3, _)] dX6_outNow_67 rfl (Nat.le_of_ble_eq_true rfl) rfl ?_
      refine g_iinc (pc := 68) (1 : Int32) [(3, _), (2, _), (4, _), (0, _), (1, _)] dX6_outNow_68 4 rfl rfl (Nat.le_of_ble_eq_true rfl) rfl ?_
      refine g_goto (pc := 71) 13 dX6_outNow_71 (by decide) ?_
      refine g_pm [3, 4, 1, 0] rfl ?_
      exact h
    · have h := h.2 q
      refine g_aload_n (pc := 50) dX6_outNow_50 rfl 1 rfl ?_
      refine g_iload_n (pc := 51) dX6_outNow_51 rfl 2 rfl ?_
      refine g_iload_n (pc := 52) dX6_outNow_52 rfl 4 rfl ?_
      refine g_iconst (pc := 53) (-1 : Int32) dX6_outNow_53 rfl ?_
      refine g_ixor (pc := 54) dX6_outNow_54 ?_
      refine g_iand (pc := 55) dX6_outNow_55 ?_
      obtain ⟨Q13, hc, h⟩ := h
      refine g_callVI (pc := 56) (M' := mX6_isFeasible) (n := 4) (As := [.int (x1 &&& (x3 ^^^ (-1 : Int32)))]) (st := []) dX6_outNow_56 ml_X6_148 ok_X6_isFeasible rfl (rmOk_M _ _ _) (by decide) rc_25 (Nat.le_of_ble_eq_true rfl) rfl hc (fun r14 τ15 hq => ?_)
      have h := h r14 τ15 hq
      refine g_if_eq (pc := 59) 66 dX6_outNow_59 (by decide) (fun q => ?_) (fun q => ?_)
      · have h := h.1 q
        refine g_iload_n (pc := 66) dX6_outNow_66 rfl 3 rfl ?_
        refine g_istore_n (pc := 67) [(2, _), (4, _), (0, _), (1, _), (3, _)] dX6_outNow_67 rfl (Nat.le_of_ble_eq_true rfl) rfl ?_
        refine g_iinc (pc := 68) (1 : Int32) [(3, _), (2, _), (4, _), (0, _), (1, _)] dX6_outNow_68 4 rfl rfl (Nat.le_of_ble_eq_true rfl) rfl ?_
        refine g_goto (pc := 71) 13 dX6_outNow_71 (by decide) ?_
        refine g_pm [3, 4, 1, 0] rfl ?_
        exact h
      · have h := h.2 q
        refine g_iload_n (pc := 62) dX6_outNow_62 rfl 4 rfl ?_
        refine g_goto (pc := 63) 67 dX6_outNow_63 (by decide) ?_
        refine g_istore_n (pc := 67) [(2, _), (4, _), (0, _), (1, _), (3, _)] dX6_outNow_67 rfl (Nat.le_of_ble_eq_true rfl) rfl ?_
        refine g_iinc (pc := 68) (1 : Int32) [(3, _), (2, _), (4, _), (0, _), (1, _)] dX6_outNow_68 4 rfl rfl (Nat.le_of_ble_eq_true rfl) rfl ?_
        refine g_goto (pc := 71) 13 dX6_outNow_71 (by decide) ?_
        refine g_pm [3, 4, 1, 0] rfl ?_
        exact h
set_option maxHeartbeats 4000000 in
set_option maxRecDepth 100000 in
theorem ct_X6_out {Γ : GT} {Q : Int32 → St → Prop} (σ : St) 
    (h : ∃ Q1 : Int32 → St → Prop, CtI Γ mX6_outNow 4 [rf Γ 25] σ Q1 ∧ ∀ (r2 : Int32) (τ3 : St), Q1 r2 τ3 → (Q r2 τ3)) :
    CtI Γ mX6_out 5 [rf Γ 25] σ Q := by
  refine ct_of (by decide +kernel) (Nat.le_of_ble_eq_true rfl) ?_
  show G Γ mX6_out (NI Γ 5 Q) 0 [(0, rf Γ 25)] [] σ
  refine g_aload_n (pc := 0) dX6_out_0 rfl 0 rfl ?_
  obtain ⟨Q1, hc, h⟩ := h
  refine g_callVI (pc := 1) (M' := mX6_outNow) (n := 5) (As := []) (st := []) dX6_out_1 ml_X6_166 ok_X6_outNow rfl (rmOk_M _ _ _) (by decide) rc_25 (Nat.le_of_ble_eq_true rfl) rfl hc (fun r2 τ3 hq => ?_)
  have h := h r2 τ3 hq
  exact g_iret (pc := 4) rfl dX6_out_4 h
set_option maxHeartbeats 4000000 in
set_option maxRecDepth 100000 in
theorem ct_X6_admittedNow {Γ : GT} {Q : Int32 → St → Prop} (σ : St) 
    (h : ∃ Q1 : St → Prop, CtV Γ mX6_asksAsTold 0 [rf Γ 25] σ Q1 ∧ ∀ (τ3 : St), Q1 τ3 → (G Γ mX6_admittedNow (NI Γ 4 Q) 8 [(0, rf Γ 25), (1, .int (0 : Int32)), (2, .int (0 : Int32))] [] τ3)) :
    CtI Γ mX6_admittedNow 4 [rf Γ 25] σ Q := by
  refine ct_of (by decide +kernel) (Nat.le_of_ble_eq_true rfl) ?_
  show G Γ mX6_admittedNow (NI Γ 4 Q) 0 [(0, rf Γ 25)] [] σ
  refine g_aload_n (pc := 0) dX6_admittedNow_0 rfl 0 rfl ?_
  obtain ⟨Q1, hc, h⟩ := h
  refine g_callVV (pc := 1) (M' := mX6_asksAsTold) (n := 4) (As := []) (st := []) dX6_admittedNow_1 ml_X6_145 ok_X6_asksAsTold rfl (rmOk_M _ _ _) (by decide) rc_25 (Nat.le_of_ble_eq_true rfl) rfl hc (fun τ3 hq => ?_)
  have h := h τ3 hq
  refine g_iconst (pc := 4) (0 : Int32) dX6_admittedNow_4 rfl ?_
  refine g_istore_n (pc := 5) [(1, _), (0, _)] dX6_admittedNow_5 rfl (Nat.le_of_ble_eq_true rfl) rfl ?_
  refine g_iconst (pc := 6) (0 : Int32) dX6_admittedNow_6 rfl ?_
  refine g_istore_n (pc := 7) [(2, _), (1, _), (0, _)] dX6_admittedNow_7 rfl (Nat.le_of_ble_eq_true rfl) rfl ?_
  refine g_pm [2, 1, 0] rfl ?_
  exact h
set_option maxHeartbeats 4000000 in
set_option maxRecDepth 100000 in
theorem t_X6_admittedNow_8 {Γ : GT} {Q : Int32 → St → Prop} (σ : St) (x1 : Int32) (x2 : Int32)
    (h : (((σ.1 25 0) ≤ x2) → (Q x1 σ)) ∧ ((¬ (σ.1 25 0) ≤ x2) → (vp_in x2 5 ∧ ((((σ.1 30 x2.toNatClampNeg) = 0) → (G Γ mX6_admittedNow (NI Γ 4 Q) 8 [(0, rf Γ 25), (1, .int x1), (2, .int (x2 + (1 : Int32)))] [] σ)) ∧ ((¬ (σ.1 30 x2.toNatClampNeg) = 0) → (∃ Q4 : Int32 → St → Prop, CtI Γ mX6_isFeasible 3 [rf Γ 25, .int (x1 ||| ((1 : Int32) <<< (x2 &&& 31)))] σ Q4 ∧ ∀ (r5 : Int32) (τ6 : St), Q4 r5 τ6 → (((r5 = 0) → (G Γ mX6_admittedNow (NI Γ 4 Q) 8 [(0, rf Γ 25), (1, .int x1), (2, .int (x2 + (1 : Int32)))] [] τ6)) ∧ ((¬ r5 = 0) → (G Γ mX6_admittedNow (NI Γ 4 Q) 8 [(0, rf Γ 25), (1, .int (x1 ||| ((1 : Int32) <<< (x2 &&& 31)))), (2, .int (x2 + (1 : Int32)))] [] τ6))))))))) :
    G Γ mX6_admittedNow (NI Γ 4 Q) 8 [(0, rf Γ 25), (1, .int x1), (2, .int x2)] [] σ := by
  refine g_iload_n (pc := 8) dX6_admittedNow_8 rfl 2 rfl ?_
  refine g_aload_n (pc := 9) dX6_admittedNow_9 rfl 0 rfl ?_
  refine g_getI (pc := 10) 25 6 0 fi_25_0 fl_X6_7 dX6_admittedNow_10 ?_
  refine g_icmp_ge (pc := 13) 53 dX6_admittedNow_13 (by decide) (fun q => ?_) (fun q => ?_)
  · have h := h.1 q
    refine g_iload_n (pc := 53) dX6_admittedNow_53 rfl 1 rfl ?_
    exact g_iret (pc := 54) rfl dX6_admittedNow_54 h
  · have h := h.2 q
    refine g_aload_n (pc := 16) dX6_admittedNow_16 rfl 0 rfl ?_
    refine g_getR (pc := 17) 25 6 6 30 fr_25_6 fl_X6_26 dX6_admittedNow_17 ?_
    refine g_iload_n (pc := 20) dX6_admittedNow_20 rfl 2 rfl ?_
    refine g_zald (pc := 21) 30 5 ar_30 h.1 dX6_admittedNow_21 ?_
    have h := h.2
    refine g_if_eq (pc := 22) 45 dX6_admittedNow_22 (by decide) (fun q => ?_) (fun q => ?_)
    · have h := h.1 q
      refine g_iload_n (pc := 45) dX6_admittedNow_45 rfl 1 rfl ?_
      refine g_istore_n (pc := 46) [(1, _), (0, _), (2, _)] dX6_admittedNow_46 rfl (Nat.le_of_ble_eq_true rfl) rfl ?_
      refine g_iinc (pc := 47) (1 : Int32) [(2, _), (1, _), (0, _)] dX6_admittedNow_47 2 rfl rfl (Nat.le_of_ble_eq_true rfl) rfl ?_
      refine g_goto (pc := 50) 8 dX6_admittedNow_50 (by decide) ?_
      refine g_pm [2, 1, 0] rfl ?_
      exact h
    · have h := h.2 q
      refine g_aload_n (pc := 25) dX6_admittedNow_25 rfl 0 rfl ?_
      refine g_iload_n (pc := 26) dX6_admittedNow_26 rfl 1 rfl ?_
      refine g_iconst (pc := 27) (1 : Int32) dX6_admittedNow_27 rfl ?_
      refine g_iload_n (pc := 28) dX6_admittedNow_28 rfl 2 rfl ?_
      refine g_ishl (pc := 29) dX6_admittedNow_29 ?_
      refine g_ior (pc := 30) dX6_admittedNow_30 ?_
      obtain ⟨Q4, hc, h⟩ := h
      refine g_callVI (pc := 31) (M' := mX6_isFeasible) (n := 4) (As := [.int (x1 ||| ((1 : Int32) <<< (x2 &&& 31)))]) (st := []) dX6_admittedNow_31 ml_X6_148 ok_X6_isFeasible rfl (rmOk_M _ _ _) (by decide) rc_25 (Nat.le_of_ble_eq_true rfl) rfl hc (fun r5 τ6 hq => ?_)
      have h := h r5 τ6 hq
      refine g_if_eq (pc := 34) 45 dX6_admittedNow_34 (by decide) (fun q => ?_) (fun q => ?_)
      · have h := h.1 q
        refine g_iload_n (pc := 45) dX6_admittedNow_45 rfl 1 rfl ?_
        refine g_istore_n (pc := 46) [(1, _), (0, _), (2, _)] dX6_admittedNow_46 rfl (Nat.le_of_ble_eq_true rfl) rfl ?_
        refine g_iinc (pc := 47) (1 : Int32) [(2, _), (1, _), (0, _)] dX6_admittedNow_47 2 rfl rfl (Nat.le_of_ble_eq_true rfl) rfl ?_
        refine g_goto (pc := 50) 8 dX6_admittedNow_50 (by decide) ?_
        refine g_pm [2, 1, 0] rfl ?_
        exact h
      · have h := h.2 q
        refine g_iload_n (pc := 37) dX6_admittedNow_37 rfl 1 rfl ?_
        refine g_iconst (pc := 38) (1 : Int32) dX6_admittedNow_38 rfl ?_
        refine g_iload_n (pc := 39) dX6_admittedNow_39 rfl 2 rfl ?_
        refine g_ishl (pc := 40) dX6_admittedNow_40 ?_
        refine g_ior (pc := 41) dX6_admittedNow_41 ?_
        refine g_goto (pc := 42) 46 dX6_admittedNow_42 (by decide) ?_
        refine g_istore_n (pc := 46) [(1, _), (0, _), (2, _)] dX6_admittedNow_46 rfl (Nat.le_of_ble_eq_true rfl) rfl ?_
        refine g_iinc (pc := 47) (1 : Int32) [(2, _), (1, _), (0, _)] dX6_admittedNow_47 2 rfl rfl (Nat.le_of_ble_eq_true rfl) rfl ?_
        refine g_goto (pc := 50) 8 dX6_admittedNow_50 (by decide) ?_
        refine g_pm [2, 1, 0] rfl ?_
        exact h
set_option maxHeartbeats 4000000 in
set_option maxRecDepth 100000 in
theorem ct_X6_admitted {Γ : GT} {Q : Int32 → St → Prop} (σ : St) 
    (h : ∃ Q1 : Int32 → St → Prop, CtI Γ mX6_admittedNow 4 [rf Γ 25] σ Q1 ∧ ∀ (r2 : Int32) (τ3 : St), Q1 r2 τ3 → (Q r2 τ3)) :
    CtI Γ mX6_admitted 5 [rf Γ 25] σ Q := by
  refine ct_of (by decide +kernel) (Nat.le_of_ble_eq_true rfl) ?_
  show G Γ mX6_admitted (NI Γ 5 Q) 0 [(0, rf Γ 25)] [] σ
  refine g_aload_n (pc := 0) dX6_admitted_0 rfl 0 rfl ?_
  obtain ⟨Q1, hc, h⟩ := h
  refine g_callVI (pc := 1) (M' := mX6_admittedNow) (n := 5) (As := []) (st := []) dX6_admitted_1 ml_X6_169 ok_X6_admittedNow rfl (rmOk_M _ _ _) (by decide) rc_25 (Nat.le_of_ble_eq_true rfl) rfl hc (fun r2 τ3 hq => ?_)
  have h := h r2 τ3 hq
  exact g_iret (pc := 4) rfl dX6_admitted_4 h
set_option maxHeartbeats 4000000 in
set_option maxRecDepth 100000 in
theorem ct_X6_softer {Γ : GT} {Q : Int32 → St → Prop} (σ : St) 
    (h : ∃ Q1 : Int32 → St → Prop, CtI Γ mX6_isFeasibleNow 4 [rf Γ 25] σ Q1 ∧ ∀ (r2 : Int32) (τ3 : St), Q1 r2 τ3 → (((r2 = 0) → (G Γ mX6_softer (NI Γ 5 Q) 18 [(0, rf Γ 25), (1, .int (-1 : Int32)), (2, .int ((τ3.1 25 0) - (1 : Int32)))] [] τ3)) ∧ ((¬ r2 = 0) → (Q (-1 : Int32) τ3)))) :
    CtI Γ mX6_softer 5 [rf Γ 25] σ Q := by
  refine ct_of (by decide +kernel) (Nat.le_of_ble_eq_true rfl) ?_
  show G Γ mX6_softer (NI Γ 5 Q) 0 [(0, rf Γ 25)] [] σ
  refine g_aload_n (pc := 0) dX6_softer_0 rfl 0 rfl ?_
  obtain ⟨Q1, hc, h⟩ := h
  refine g_callVI (pc := 1) (M' := mX6_isFeasibleNow) (n := 5) (As := []) (st := []) dX6_softer_1 ml_X6_151 ok_X6_isFeasibleNow rfl (rmOk_M _ _ _) (by decide) rc_25 (Nat.le_of_ble_eq_true rfl) rfl hc (fun r2 τ3 hq => ?_)
  have h := h r2 τ3 hq
  refine g_if_eq (pc := 4) 9 dX6_softer_4 (by decide) (fun q => ?_) (fun q => ?_)
  · have h := h.1 q
    refine g_iconst (pc := 9) (-1 : Int32) dX6_softer_9 rfl ?_
    refine g_istore_n (pc := 10) [(1, _), (0, _)] dX6_softer_10 rfl (Nat.le_of_ble_eq_true rfl) rfl ?_
    refine g_aload_n (pc := 11) dX6_softer_11 rfl 1 rfl ?_
    refine g_getI (pc := 12) 25 6 0 fi_25_0 fl_X6_7 dX6_softer_12 ?_
    refine g_iconst (pc := 15) (1 : Int32) dX6_softer_15 rfl ?_
    refine g_isub (pc := 16) dX6_softer_16 ?_
    refine g_istore_n (pc := 17) [(2, _), (1, _), (0, _)] dX6_softer_17 rfl (Nat.le_of_ble_eq_true rfl) rfl ?_
    refine g_pm [2, 1, 0] rfl ?_
    exact h
  · have h := h.2 q
    refine g_iconst (pc := 7) (-1 : Int32) dX6_softer_7 rfl ?_
    exact g_iret (pc := 8) rfl dX6_softer_8 h
set_option maxHeartbeats 4000000 in
set_option maxRecDepth 100000 in
theorem t_X6_softer_18 {Γ : GT} {Q : Int32 → St → Prop} (σ : St) (x1 : Int32) (x2 : Int32)
    (h : ((x2 < 0) → (Q x1 σ)) ∧ ((¬ x2 < 0) → (∃ Q4 : St → Prop, CtV Γ mX6_asksAsTold 0 [rf Γ 25] σ Q4 ∧ ∀ (τ6 : St), Q4 τ6 → (vp_in x2 5 ∧ (vp_in x2 5 ∧ ((((τ6.1 27 x2.toNatClampNeg) ≤ (1 : Int32)) → (G Γ mX6_softer (NI Γ 5 Q) 48 [(0, rf Γ 25), (1, .int x1), (2, .int x2)] [.int (0 : Int32), .int (τ6.1 35 x2.toNatClampNeg), .int x2, rf Γ 35] τ6)) ∧ ((¬ (τ6.1 27 x2.toNatClampNeg) ≤ (1 : Int32)) → (G Γ mX6_softer (NI Γ 5 Q) 48 [(0, rf Γ 25), (1, .int x1), (2, .int x2)] [.int (1 : Int32), .int (τ6.1 35 x2.toNatClampNeg), .int x2, rf Γ 35] τ6)))))))) :
    G Γ mX6_softer (NI Γ 5 Q) 18 [(0, rf Γ 25), (1, .int x1), (2, .int x2)] [] σ := by
  refine g_iload_n (pc := 18) dX6_softer_18 rfl 2 rfl ?_
  refine g_if_lt (pc := 19) 82 dX6_softer_19 (by decide) (fun q => ?_) (fun q => ?_)
  · have h := h.1 q
    refine g_iload_n (pc := 82) dX6_softer_82 rfl 1 rfl ?_
    exact g_iret (pc := 83) rfl dX6_softer_83 h
  · have h := h.2 q
    refine g_aload_n (pc := 22) dX6_softer_22 rfl 0 rfl ?_
    obtain ⟨Q4, hc, h⟩ := h
    refine g_callVV (pc := 23) (M' := mX6_asksAsTold) (n := 5) (As := []) (st := []) dX6_softer_23 ml_X6_145 ok_X6_asksAsTold rfl (rmOk_M _ _ _) (by decide) rc_25 (Nat.le_of_ble_eq_true rfl) rfl hc (fun τ6 hq => ?_)
    have h := h τ6 hq
    refine g_aload_n (pc := 26) dX6_softer_26 rfl 0 rfl ?_
    refine g_getR (pc := 27) 25 6 12 35 fr_25_12 fl_X6_43 dX6_softer_27 ?_
    refine g_iload_n (pc := 30) dX6_softer_30 rfl 2 rfl ?_
    refine g_dup2 (pc := 31) dX6_softer_31 rfl rfl ?_
    refine g_iald (pc := 32) 35 5 ar_35 h.1 dX6_softer_32 ?_
    have h := h.2
    refine g_aload_n (pc := 33) dX6_softer_33 rfl 0 rfl ?_
    refine g_getR (pc := 34) 25 6 3 27 fr_25_3 fl_X6_17 dX6_softer_34 ?_
    refine g_iload_n (pc := 37) dX6_softer_37 rfl 2 rfl ?_
    refine g_iald (pc := 38) 27 5 ar_27 h.1 dX6_softer_38 ?_
    have h := h.2
    refine g_iconst (pc := 39) (1 : Int32) dX6_softer_39 rfl ?_
    refine g_icmp_le (pc := 40) 47 dX6_softer_40 (by decide) (fun q => ?_) (fun q => ?_)
    · have h := h.1 q
      refine g_iconst (pc := 47) (0 : Int32) dX6_softer_47 rfl ?_
      exact h
    · have h := h.2 q
      refine g_iconst (pc := 43) (1 : Int32) dX6_softer_43 rfl ?_
      refine g_goto (pc := 44) 48 dX6_softer_44 (by decide) ?_
      exact h
set_option maxHeartbeats 4000000 in
set_option maxRecDepth 100000 in
theorem t_X6_softer_48 {Γ : GT} {Q : Int32 → St → Prop} (σ : St) (x1 : Int32) (x2 : Int32) (y3 : Int32) (y2 : Int32) (y1 : Int32)
    (h : vp_in y1 5 ∧ (vp_in x2 5 ∧ (((((sI σ 35 y1.toNatClampNeg (y2 - y3)).1 30 x2.toNatClampNeg) = 0) → (G Γ mX6_softer (NI Γ 5 Q) 18 [(0, rf Γ 25), (1, .int x1), (2, .int (x2 + (-1 : Int32)))] [] (sI σ 35 y1.toNatClampNeg (y2 - y3)))) ∧ ((¬ ((sI σ 35 y1.toNatClampNeg (y2 - y3)).1 30 x2.toNatClampNeg) = 0) → (∃ Q7 : Int32 → St → Prop, CtI Γ mX6_onNow 0 [rf Γ 25] (sI σ 35 y1.toNatClampNeg (y2 - y3)) Q7 ∧ ∀ (r8 : Int32) (τ9 : St), Q7 r8 τ9 → (∃ Q10 : Int32 → St → Prop, CtI Γ mX6_isFeasible 3 [rf Γ 25, .int r8] τ9 Q10 ∧ ∀ (r11 : Int32) (τ12 : St), Q10 r11 τ12 → (((r11 = 0) → (G Γ mX6_softer (NI Γ 5 Q) 18 [(0, rf Γ 25), (1, .int x1), (2, .int (x2 + (-1 : Int32)))] [] τ12)) ∧ ((¬ r11 = 0) → (G Γ mX6_softer (NI Γ 5 Q) 18 [(0, rf Γ 25), (1, .int x2), (2, .int (x2 + (-1 : Int32)))] [] τ12))))))))) :
    G Γ mX6_softer (NI Γ 5 Q) 48 [(0, rf Γ 25), (1, .int x1), (2, .int x2)] [.int y3, .int y2, .int y1, rf Γ 35] σ := by
  refine g_isub (pc := 48) dX6_softer_48 ?_
  refine g_iast (pc := 49) 35 5 ar_35 h.1 dX6_softer_49 ?_
  have h := h.2
  refine g_aload_n (pc := 50) dX6_softer_50 rfl 0 rfl ?_
  refine g_getR (pc := 51) 25 6 6 30 fr_25_6 fl_X6_26 dX6_softer_51 ?_
  refine g_iload_n (pc := 54) dX6_softer_54 rfl 2 rfl ?_
  refine g_zald (pc := 55) 30 5 ar_30 h.1 dX6_softer_55 ?_
  have h := h.2
  refine g_if_eq (pc := 56) 74 dX6_softer_56 (by decide) (fun q => ?_) (fun q => ?_)
  · have h := h.1 q
    refine g_iload_n (pc := 74) dX6_softer_74 rfl 1 rfl ?_
    refine g_istore_n (pc := 75) [(1, _), (0, _), (2, _)] dX6_softer_75 rfl (Nat.le_of_ble_eq_true rfl) rfl ?_
    refine g_iinc (pc := 76) (-1 : Int32) [(2, _), (1, _), (0, _)] dX6_softer_76 2 rfl rfl (Nat.le_of_ble_eq_true rfl) rfl ?_
    refine g_goto (pc := 79) 18 dX6_softer_79 (by decide) ?_
    refine g_pm [2, 1, 0] rfl ?_
    exact h
  · have h := h.2 q
    refine g_aload_n (pc := 59) dX6_softer_59 rfl 0 rfl ?_
    refine g_aload_n (pc := 60) dX6_softer_60 rfl 0 rfl ?_
    obtain ⟨Q7, hc, h⟩ := h
    refine g_callVI (pc := 61) (M' := mX6_onNow) (n := 5) (As := []) (st := [rf Γ 25]) dX6_softer_61 ml_X6_94 ok_X6_onNow rfl (rmOk_M _ _ _) (by decide) rc_25 (Nat.le_of_ble_eq_true rfl) rfl hc (fun r8 τ9 hq => ?_)
    have h := h r8 τ9 hq
    obtain ⟨Q10, hc, h⟩ := h
    refine g_callVI (pc := 64) (M' := mX6_isFeasible) (n := 5) (As := [.int r8]) (st := []) dX6_softer_64 ml_X6_148 ok_X6_isFeasible rfl (rmOk_M _ _ _) (by decide) rc_25 (Nat.le_of_ble_eq_true rfl) rfl hc (fun r11 τ12 hq => ?_)
    have h := h r11 τ12 hq
    refine g_if_eq (pc := 67) 74 dX6_softer_67 (by decide) (fun q => ?_) (fun q => ?_)
    · have h := h.1 q
      refine g_iload_n (pc := 74) dX6_softer_74 rfl 1 rfl ?_
      refine g_istore_n (pc := 75) [(1, _), (0, _), (2, _)] dX6_softer_75 rfl (Nat.le_of_ble_eq_true rfl) rfl ?_
      refine g_iinc (pc := 76) (-1 : Int32) [(2, _), (1, _), (0, _)] dX6_softer_76 2 rfl rfl (Nat.le_of_ble_eq_true rfl) rfl ?_
      refine g_goto (pc := 79) 18 dX6_softer_79 (by decide) ?_
      refine g_pm [2, 1, 0] rfl ?_
      exact h
    · have h := h.2 q
      refine g_iload_n (pc := 70) dX6_softer_70 rfl 2 rfl ?_
      refine g_goto (pc := 71) 75 dX6_softer_71 (by decide) ?_
      refine g_istore_n (pc := 75) [(1, _), (0, _), (2, _)] dX6_softer_75 rfl (Nat.le_of_ble_eq_true rfl) rfl ?_
      refine g_iinc (pc := 76) (-1 : Int32) [(2, _), (1, _), (0, _)] dX6_softer_76 2 rfl rfl (Nat.le_of_ble_eq_true rfl) rfl ?_
      refine g_goto (pc := 79) 18 dX6_softer_79 (by decide) ?_
      refine g_pm [2, 1, 0] rfl ?_
      exact h
set_option maxHeartbeats 4000000 in
set_option maxRecDepth 100000 in
theorem ct_X6_margin {Γ : GT} {Q : Int32 → St → Prop} (σ : St) 
    (h : G Γ mX6_margin (NI Γ 4 Q) 4 [(0, rf Γ 25), (1, .int (0 : Int32)), (2, .int (1 : Int32))] [] σ) :
    CtI Γ mX6_margin 4 [rf Γ 25] σ Q := by
  refine ct_of (by decide +kernel) (Nat.le_of_ble_eq_true rfl) ?_
  show G Γ mX6_margin (NI Γ 4 Q) 0 [(0, rf Γ 25)] [] σ
  refine g_iconst (pc := 0) (0 : Int32) dX6_margin_0 rfl ?_
  refine g_istore_n (pc := 1) [(1, _), (0, _)] dX6_margin_1 rfl (Nat.le_of_ble_eq_true rfl) rfl ?_
  refine g_iconst (pc := 2) (1 : Int32) dX6_margin_2 rfl ?_
  refine g_istore_n (pc := 3) [(2, _), (1, _), (0, _)] dX6_margin_3 rfl (Nat.le_of_ble_eq_true rfl) rfl ?_
  refine g_pm [2, 1, 0] rfl ?_
  exact h
set_option maxHeartbeats 4000000 in
set_option maxRecDepth 100000 in
theorem t_X6_margin_4 {Γ : GT} {Q : Int32 → St → Prop} (σ : St) (x1 : Int32) (x2 : Int32)
    (h : (((8 : Int32) < x2) → (Q x1 σ)) ∧ ((¬ (8 : Int32) < x2) → (G Γ mX6_margin (NI Γ 4 Q) 17 [(0, rf Γ 25), (1, .int x1), (2, .int x2), (3, .int (0 : Int32))] [] (sI σ 25 13 (4 : Int32))))) :
    G Γ mX6_margin (NI Γ 4 Q) 4 [(0, rf Γ 25), (1, .int x1), (2, .int x2)] [] σ := by
  refine g_iload_n (pc := 4) dX6_margin_4 rfl 2 rfl ?_
  refine g_bipush (pc := 5) (8 : Int32) dX6_margin_5 rfl ?_
  refine g_icmp_gt (pc := 7) 65 dX6_margin_7 (by decide) (fun q => ?_) (fun q => ?_)
  · have h := h.1 q
    refine g_iload_n (pc := 65) dX6_margin_65 rfl 1 rfl ?_
    exact g_iret (pc := 66) rfl dX6_margin_66 h
  · have h := h.2 q
    refine g_aload_n (pc := 10) dX6_margin_10 rfl 0 rfl ?_
    refine g_iconst (pc := 11) (4 : Int32) dX6_margin_11 rfl ?_
    refine g_put (pc := 12) 25 6 13 fpp_25_13 fp_X6_46 dX6_margin_12 ?_
    refine g_iconst (pc := 15) (0 : Int32) dX6_margin_15 rfl ?_
    refine g_istore_n (pc := 16) [(3, _), (0, _), (1, _), (2, _)] dX6_margin_16 rfl (Nat.le_of_ble_eq_true rfl) rfl ?_
    refine g_pm [1, 2, 3, 0] rfl ?_
    exact h
set_option maxHeartbeats 4000000 in
set_option maxRecDepth 100000 in
theorem t_X6_margin_17 {Γ : GT} {Q : Int32 → St → Prop} (σ : St) (x1 : Int32) (x2 : Int32) (x3 : Int32)
    (h : (((5 : Int32) ≤ x3) → (∃ Q1 : Int32 → St → Prop, CtI Γ mX6_onNow 0 [rf Γ 25] σ Q1 ∧ ∀ (r2 : Int32) (τ3 : St), Q1 r2 τ3 → (∃ Q4 : Int32 → St → Prop, CtI Γ mX6_isFeasible 3 [rf Γ 25, .int r2] τ3 Q4 ∧ ∀ (r5 : Int32) (τ6 : St), Q4 r5 τ6 → (((r5 = 0) → (G Γ mX6_margin (NI Γ 4 Q) 4 [(0, rf Γ 25), (1, .int x1), (2, .int (x2 + (1 : Int32)))] [] τ6)) ∧ ((¬ r5 = 0) → (G Γ mX6_margin (NI Γ 4 Q) 4 [(0, rf Γ 25), (1, .int x2), (2, .int (x2 + (1 : Int32)))] [] τ6)))))) ∧ ((¬ (5 : Int32) ≤ x3) → (vp_in x3 5 ∧ (vp_in x3 5 ∧ (G Γ mX6_margin (NI Γ 4 Q) 17 [(0, rf Γ 25), (1, .int x1), (2, .int x2), (3, .int (x3 + (1 : Int32)))] [] (sI σ 35 x3.toNatClampNeg ((σ.1 27 x3.toNatClampNeg) * x2))))))) :
    G Γ mX6_margin (NI Γ 4 Q) 17 [(0, rf Γ 25), (1, .int x1), (2, .int x2), (3, .int x3)] [] σ := by
  refine g_iload_n (pc := 17) dX6_margin_17 rfl 3 rfl ?_
  refine g_iconst (pc := 18) (5 : Int32) dX6_margin_18 rfl ?_
  refine g_icmp_ge (pc := 19) 42 dX6_margin_19 (by decide) (fun q => ?_) (fun q => ?_)
  · have h := h.1 q
    refine g_aload_n (pc := 42) dX6_margin_42 rfl 0 rfl ?_
    refine g_aload_n (pc := 43) dX6_margin_43 rfl 0 rfl ?_
    obtain ⟨Q1, hc, h⟩ := h
    refine g_callVI (pc := 44) (M' := mX6_onNow) (n := 4) (As := []) (st := [rf Γ 25]) dX6_margin_44 ml_X6_94 ok_X6_onNow rfl (rmOk_M _ _ _) (by decide) rc_25 (Nat.le_of_ble_eq_true rfl) rfl hc (fun r2 τ3 hq => ?_)
    have h := h r2 τ3 hq
    obtain ⟨Q4, hc, h⟩ := h
    refine g_callVI (pc := 47) (M' := mX6_isFeasible) (n := 4) (As := [.int r2]) (st := []) dX6_margin_47 ml_X6_148 ok_X6_isFeasible rfl (rmOk_M _ _ _) (by decide) rc_25 (Nat.le_of_ble_eq_true rfl) rfl hc (fun r5 τ6 hq => ?_)
    have h := h r5 τ6 hq
    refine g_if_eq (pc := 50) 57 dX6_margin_50 (by decide) (fun q => ?_) (fun q => ?_)
    · have h := h.1 q
      refine g_iload_n (pc := 57) dX6_margin_57 rfl 1 rfl ?_
      refine g_istore_n (pc := 58) [(1, _), (0, _), (2, _), (3, _)] dX6_margin_58 rfl (Nat.le_of_ble_eq_true rfl) rfl ?_
      refine g_iinc (pc := 59) (1 : Int32) [(2, _), (1, _), (0, _), (3, _)] dX6_margin_59 2 rfl rfl (Nat.le_of_ble_eq_true rfl) rfl ?_
      refine g_goto (pc := 62) 4 dX6_margin_62 (by decide) ?_
      refine g_pm [2, 1, 0] rfl ?_
      exact h
    · have h := h.2 q
      refine g_iload_n (pc := 53) dX6_margin_53 rfl 2 rfl ?_
      refine g_goto (pc := 54) 58 dX6_margin_54 (by decide) ?_
      refine g_istore_n (pc := 58) [(1, _), (0, _), (2, _), (3, _)] dX6_margin_58 rfl (Nat.le_of_ble_eq_true rfl) rfl ?_
      refine g_iinc (pc := 59) (1 : Int32) [(2, _), (1, _), (0, _), (3, _)] dX6_margin_59 2 rfl rfl (Nat.le_of_ble_eq_true rfl) rfl ?_
      refine g_goto (pc := 62) 4 dX6_margin_62 (by decide) ?_
      refine g_pm [2, 1, 0] rfl ?_
      exact h
  · have h := h.2 q
    refine g_aload_n (pc := 22) dX6_margin_22 rfl 0 rfl ?_
    refine g_getR (pc := 23) 25 6 12 35 fr_25_12 fl_X6_43 dX6_margin_23 ?_
    refine g_iload_n (pc := 26) dX6_margin_26 rfl 3 rfl ?_
    refine g_aload_n (pc := 27) dX6_margin_27 rfl 0 rfl ?_
    refine g_getR (pc := 28) 25 6 3 27 fr_25_3 fl_X6_17 dX6_margin_28 ?_
    refine g_iload_n (pc := 31) dX6_margin_31 rfl 3 rfl ?_
    refine g_iald (pc := 32) 27 5 ar_27 h.1 dX6_margin_32 ?_
    have h := h.2
    refine g_iload_n (pc := 33) dX6_margin_33 rfl 2 rfl ?_
    refine g_imul (pc := 34) dX6_margin_34 ?_
    refine g_iast (pc := 35) 35 5 ar_35 h.1 dX6_margin_35 ?_
    have h := h.2
    refine g_iinc (pc := 36) (1 : Int32) [(3, _), (0, _), (1, _), (2, _)] dX6_margin_36 3 rfl rfl (Nat.le_of_ble_eq_true rfl) rfl ?_
    refine g_goto (pc := 39) 17 dX6_margin_39 (by decide) ?_
    refine g_pm [1, 2, 3, 0] rfl ?_
    exact h
set_option maxHeartbeats 4000000 in
set_option maxRecDepth 100000 in
theorem ct_X6_shareOf {Γ : GT} {Q : Int64 → St → Prop} (σ : St) (x1 : Int32) (x2 : Int32)
    (h : ∃ Q1 : St → Prop, CtV Γ mX6_triesNow 0 [rf Γ 25] σ Q1 ∧ ∀ (τ3 : St), Q1 τ3 → (∃ Q4 : Int32 → St → Prop, CtI Γ mX6_heardBy 0 [rf Γ 25, .int x1] τ3 Q4 ∧ ∀ (r5 : Int32) (τ6 : St), Q4 r5 τ6 → (((¬ r5 = 0) → (vp_in ((6 : Int32) * x1) 25 ∧ (vp_in x1 5 ∧ (∃ Q7 : Int64 → St → Prop, CtJ Γ mX6_partOf 0 [.long (((τ6.1 26 ((6 : Int32) * x1).toNatClampNeg).toInt64) * ((τ6.1 31 x1.toNatClampNeg).toInt64)), .long r5.toInt64, .int x2] τ6 Q7 ∧ ∀ (r8 : Int64) (τ9 : St), Q7 r8 τ9 → (Q r8 τ9))))) ∧ ((r5 = 0) → (∃ Q10 : Int64 → St → Prop, CtJ Γ mX6_no 0 [.int (-3 : Int32)] τ6 Q10 ∧ ∀ (r11 : Int64) (τ12 : St), Q10 r11 τ12 → (Q r11 τ12)))))) :
    CtJ Γ mX6_shareOf 1 [rf Γ 25, .int x1, .int x2] σ Q := by
  refine ct_of (by decide +kernel) (Nat.le_of_ble_eq_true rfl) ?_
  show G Γ mX6_shareOf (NJ Γ 1 Q) 0 [(0, rf Γ 25), (1, .int x1), (2, .int x2)] [] σ
  refine g_aload_n (pc := 0) dX6_shareOf_0 rfl 0 rfl ?_
  obtain ⟨Q1, hc, h⟩ := h
  refine g_callVV (pc := 1) (M' := mX6_triesNow) (n := 1) (As := []) (st := []) dX6_shareOf_1 ml_X6_114 ok_X6_triesNow rfl (rmOk_M _ _ _) (by decide) rc_25 (Nat.le_of_ble_eq_true rfl) rfl hc (fun τ3 hq => ?_)
  have h := h τ3 hq
  refine g_aload_n (pc := 4) dX6_shareOf_4 rfl 0 rfl ?_
  refine g_iload_n (pc := 5) dX6_shareOf_5 rfl 1 rfl ?_
  obtain ⟨Q4, hc, h⟩ := h
  refine g_callVI (pc := 6) (M' := mX6_heardBy) (n := 1) (As := [.int x1]) (st := []) dX6_shareOf_6 ml_X6_111 ok_X6_heardBy rfl (rmOk_M _ _ _) (by decide) rc_25 (Nat.le_of_ble_eq_true rfl) rfl hc (fun r5 τ6 hq => ?_)
  have h := h r5 τ6 hq
  refine g_istore_n (pc := 9) [(3, _), (0, _), (1, _), (2, _)] dX6_shareOf_9 rfl (Nat.le_of_ble_eq_true rfl) rfl ?_
  refine g_iload_n (pc := 10) dX6_shareOf_10 rfl 0 rfl ?_
  refine g_if_ne (pc := 11) 22 dX6_shareOf_11 (by decide) (fun q => ?_) (fun q => ?_)
  · have h := h.1 q
    refine g_aload_n (pc := 22) dX6_shareOf_22 rfl 1 rfl ?_
    refine g_getR (pc := 23) 25 6 2 26 fr_25_2 fl_X6_13 dX6_shareOf_23 ?_
    refine g_bipush (pc := 26) (6 : Int32) dX6_shareOf_26 rfl ?_
    refine g_iload_n (pc := 28) dX6_shareOf_28 rfl 2 rfl ?_
    refine g_imul (pc := 29) dX6_shareOf_29 ?_
    refine g_iald (pc := 30) 26 25 ar_26 h.1 dX6_shareOf_30 ?_
    have h := h.2
    refine g_i2l (pc := 31) dX6_shareOf_31 ?_
    refine g_aload_n (pc := 32) dX6_shareOf_32 rfl 1 rfl ?_
    refine g_getR (pc := 33) 25 6 7 31 fr_25_7 fl_X6_30 dX6_shareOf_33 ?_
    refine g_iload_n (pc := 36) dX6_shareOf_36 rfl 2 rfl ?_
    refine g_iald (pc := 37) 31 5 ar_31 h.1 dX6_shareOf_37 ?_
    have h := h.2
    refine g_i2l (pc := 38) dX6_shareOf_38 ?_
    refine g_lmul (pc := 39) dX6_shareOf_39 ?_
    refine g_iload_n (pc := 40) dX6_shareOf_40 rfl 0 rfl ?_
    refine g_i2l (pc := 41) dX6_shareOf_41 ?_
    refine g_iload_n (pc := 42) dX6_shareOf_42 rfl 3 rfl ?_
    obtain ⟨Q7, hc, h⟩ := h
    refine g_callSJ (pc := 43) (M' := mX6_partOf) (n := 1) (As := [.long (((τ6.1 26 ((6 : Int32) * x1).toNatClampNeg).toInt64) * ((τ6.1 31 x1.toNatClampNeg).toInt64)), .long r5.toInt64, .int x2]) (st := []) dX6_shareOf_43 ml_X6_155 ok_X6_partOf rfl (rmOk_M _ _ _) (by decide) (Nat.le_of_ble_eq_true rfl) rfl hc (fun r8 τ9 hq => ?_)
    have h := h r8 τ9 hq
    exact g_lret (pc := 46) rfl dX6_shareOf_46 h
  · have h := h.2 q
    refine g_bipush (pc := 14) (-3 : Int32) dX6_shareOf_14 rfl ?_
    obtain ⟨Q10, hc, h⟩ := h
    refine g_callSJ (pc := 16) (M' := mX6_no) (n := 1) (As := [.int (-3 : Int32)]) (st := []) dX6_shareOf_16 ml_X6_141 ok_X6_no rfl (rmOk_M _ _ _) (by decide) (Nat.le_of_ble_eq_true rfl) rfl hc (fun r11 τ12 hq => ?_)
    have h := h r11 τ12 hq
    refine g_goto (pc := 19) 46 dX6_shareOf_19 (by decide) ?_
    exact g_lret (pc := 46) rfl dX6_shareOf_46 h
set_option maxHeartbeats 4000000 in
set_option maxRecDepth 100000 in
theorem ct_X6_share {Γ : GT} {Q : Int64 → St → Prop} (σ : St) (x1 : Int32) (x2 : Int32)
    (h : ∃ Q1 : Int32 → St → Prop, CtI Γ mX6_isSender 1 [rf Γ 25, .int x1] σ Q1 ∧ ∀ (r2 : Int32) (τ3 : St), Q1 r2 τ3 → (((r2 = 0) → (∃ Q4 : Int64 → St → Prop, CtJ Γ mX6_no 0 [.int (-2 : Int32)] τ3 Q4 ∧ ∀ (r5 : Int64) (τ6 : St), Q4 r5 τ6 → (Q r5 τ6))) ∧ ((¬ r2 = 0) → (∃ Q7 : Int32 → St → Prop, CtI Γ mX6_in 0 [.int x2, .int (0 : Int32), .int (1 : Int32)] τ3 Q7 ∧ ∀ (r8 : Int32) (τ9 : St), Q7 r8 τ9 → (((¬ r8 = 0) → (vp_in x1 5 ∧ ((((τ9.1 30 x1.toNatClampNeg) = 0) → (∃ Q10 : Int64 → St → Prop, CtJ Γ mX6_no 0 [.int (-3 : Int32)] τ9 Q10 ∧ ∀ (r11 : Int64) (τ12 : St), Q10 r11 τ12 → (Q r11 τ12))) ∧ ((¬ (τ9.1 30 x1.toNatClampNeg) = 0) → (∃ Q13 : Int64 → St → Prop, CtJ Γ mX6_shareOf 1 [rf Γ 25, .int x1, .int x2] τ9 Q13 ∧ ∀ (r14 : Int64) (τ15 : St), Q13 r14 τ15 → (Q r14 τ15)))))) ∧ ((r8 = 0) → (∃ Q16 : Int64 → St → Prop, CtJ Γ mX6_no 0 [.int (-2 : Int32)] τ9 Q16 ∧ ∀ (r17 : Int64) (τ18 : St), Q16 r17 τ18 → (Q r17 τ18)))))))) :
    CtJ Γ mX6_share 2 [rf Γ 25, .int x1, .int x2] σ Q := by
  refine ct_of (by decide +kernel) (Nat.le_of_ble_eq_true rfl) ?_
  show G Γ mX6_share (NJ Γ 2 Q) 0 [(0, rf Γ 25), (1, .int x1), (2, .int x2)] [] σ
  refine g_aload_n (pc := 0) dX6_share_0 rfl 0 rfl ?_
  refine g_iload_n (pc := 1) dX6_share_1 rfl 1 rfl ?_
  obtain ⟨Q1, hc, h⟩ := h
  refine g_callVI (pc := 2) (M' := mX6_isSender) (n := 2) (As := [.int x1]) (st := []) dX6_share_2 ml_X6_79 ok_X6_isSender rfl (rmOk_M _ _ _) (by decide) rc_25 (Nat.le_of_ble_eq_true rfl) rfl hc (fun r2 τ3 hq => ?_)
  have h := h r2 τ3 hq
  refine g_if_eq (pc := 5) 17 dX6_share_5 (by decide) (fun q => ?_) (fun q => ?_)
  · have h := h.1 q
    refine g_bipush (pc := 17) (-2 : Int32) dX6_share_17 rfl ?_
    obtain ⟨Q4, hc, h⟩ := h
    refine g_callSJ (pc := 19) (M' := mX6_no) (n := 2) (As := [.int (-2 : Int32)]) (st := []) dX6_share_19 ml_X6_141 ok_X6_no rfl (rmOk_M _ _ _) (by decide) (Nat.le_of_ble_eq_true rfl) rfl hc (fun r5 τ6 hq => ?_)
    have h := h r5 τ6 hq
    exact g_lret (pc := 22) rfl dX6_share_22 h
  · have h := h.2 q
    refine g_iload_n (pc := 8) dX6_share_8 rfl 2 rfl ?_
    refine g_iconst (pc := 9) (0 : Int32) dX6_share_9 rfl ?_
    refine g_iconst (pc := 10) (1 : Int32) dX6_share_10 rfl ?_
    obtain ⟨Q7, hc, h⟩ := h
    refine g_callSI (pc := 11) (M' := mX6_in) (n := 2) (As := [.int x2, .int (0 : Int32), .int (1 : Int32)]) (st := []) dX6_share_11 ml_X6_75 ok_X6_in rfl (rmOk_M _ _ _) (by decide) (Nat.le_of_ble_eq_true rfl) rfl hc (fun r8 τ9 hq => ?_)
    have h := h r8 τ9 hq
    refine g_if_ne (pc := 14) 23 dX6_share_14 (by decide) (fun q => ?_) (fun q => ?_)
    · have h := h.1 q
      refine g_aload_n (pc := 23) dX6_share_23 rfl 0 rfl ?_
      refine g_getR (pc := 24) 25 6 6 30 fr_25_6 fl_X6_26 dX6_share_24 ?_
      refine g_iload_n (pc := 27) dX6_share_27 rfl 1 rfl ?_
      refine g_zald (pc := 28) 30 5 ar_30 h.1 dX6_share_28 ?_
      have h := h.2
      refine g_if_eq (pc := 29) 41 dX6_share_29 (by decide) (fun q => ?_) (fun q => ?_)
      · have h := h.1 q
        refine g_bipush (pc := 41) (-3 : Int32) dX6_share_41 rfl ?_
        obtain ⟨Q10, hc, h⟩ := h
        refine g_callSJ (pc := 43) (M' := mX6_no) (n := 2) (As := [.int (-3 : Int32)]) (st := []) dX6_share_43 ml_X6_141 ok_X6_no rfl (rmOk_M _ _ _) (by decide) (Nat.le_of_ble_eq_true rfl) rfl hc (fun r11 τ12 hq => ?_)
        have h := h r11 τ12 hq
        exact g_lret (pc := 46) rfl dX6_share_46 h
      · have h := h.2 q
        refine g_aload_n (pc := 32) dX6_share_32 rfl 0 rfl ?_
        refine g_iload_n (pc := 33) dX6_share_33 rfl 1 rfl ?_
        refine g_iload_n (pc := 34) dX6_share_34 rfl 2 rfl ?_
        obtain ⟨Q13, hc, h⟩ := h
        refine g_callVJ (pc := 35) (M' := mX6_shareOf) (n := 2) (As := [.int x1, .int x2]) (st := []) dX6_share_35 ml_X6_172 ok_X6_shareOf rfl (rmOk_M _ _ _) (by decide) rc_25 (Nat.le_of_ble_eq_true rfl) rfl hc (fun r14 τ15 hq => ?_)
        have h := h r14 τ15 hq
        refine g_goto (pc := 38) 46 dX6_share_38 (by decide) ?_
        exact g_lret (pc := 46) rfl dX6_share_46 h
    · have h := h.2 q
      refine g_bipush (pc := 17) (-2 : Int32) dX6_share_17 rfl ?_
      obtain ⟨Q16, hc, h⟩ := h
      refine g_callSJ (pc := 19) (M' := mX6_no) (n := 2) (As := [.int (-2 : Int32)]) (st := []) dX6_share_19 ml_X6_141 ok_X6_no rfl (rmOk_M _ _ _) (by decide) (Nat.le_of_ble_eq_true rfl) rfl hc (fun r17 τ18 hq => ?_)
      have h := h r17 τ18 hq
      exact g_lret (pc := 22) rfl dX6_share_22 h
set_option maxHeartbeats 4000000 in
set_option maxRecDepth 100000 in
theorem ct_X6_stepped {Γ : GT} {Q : Int32 → St → Prop} (σ : St) (x1 : Int32)
    (h : ∃ Q1 : Int32 → St → Prop, CtI Γ mX6_needOf 1 [rf Γ 25, .int x1] σ Q1 ∧ ∀ (r2 : Int32) (τ3 : St), Q1 r2 τ3 → (vp_in x1 5 ∧ ((((τ3.1 29 x1.toNatClampNeg) ≤ r2) → (vp_in x1 5 ∧ (Q (τ3.1 29 x1.toNatClampNeg) τ3))) ∧ ((¬ (τ3.1 29 x1.toNatClampNeg) ≤ r2) → (Q r2 τ3))))) :
    CtI Γ mX6_stepped 2 [rf Γ 25, .int x1] σ Q := by
  refine ct_of (by decide +kernel) (Nat.le_of_ble_eq_true rfl) ?_
  show G Γ mX6_stepped (NI Γ 2 Q) 0 [(0, rf Γ 25), (1, .int x1)] [] σ
  refine g_aload_n (pc := 0) dX6_stepped_0 rfl 0 rfl ?_
  refine g_iload_n (pc := 1) dX6_stepped_1 rfl 1 rfl ?_
  obtain ⟨Q1, hc, h⟩ := h
  refine g_callVI (pc := 2) (M' := mX6_needOf) (n := 2) (As := [.int x1]) (st := []) dX6_stepped_2 ml_X6_117 ok_X6_needOf rfl (rmOk_M _ _ _) (by decide) rc_25 (Nat.le_of_ble_eq_true rfl) rfl hc (fun r2 τ3 hq => ?_)
  have h := h r2 τ3 hq
  refine g_istore_n (pc := 5) [(2, _), (0, _), (1, _)] dX6_stepped_5 rfl (Nat.le_of_ble_eq_true rfl) rfl ?_
  refine g_iload_n (pc := 6) dX6_stepped_6 rfl 0 rfl ?_
  refine g_aload_n (pc := 7) dX6_stepped_7 rfl 1 rfl ?_
  refine g_getR (pc := 8) 25 6 5 29 fr_25_5 fl_X6_23 dX6_stepped_8 ?_
  refine g_iload_n (pc := 11) dX6_stepped_11 rfl 2 rfl ?_
  refine g_iald (pc := 12) 29 5 ar_29 h.1 dX6_stepped_12 ?_
  have h := h.2
  refine g_icmp_ge (pc := 13) 20 dX6_stepped_13 (by decide) (fun q => ?_) (fun q => ?_)
  · have h := h.1 q
    refine g_aload_n (pc := 20) dX6_stepped_20 rfl 1 rfl ?_
    refine g_getR (pc := 21) 25 6 5 29 fr_25_5 fl_X6_23 dX6_stepped_21 ?_
    refine g_iload_n (pc := 24) dX6_stepped_24 rfl 2 rfl ?_
    refine g_iald (pc := 25) 29 5 ar_29 h.1 dX6_stepped_25 ?_
    have h := h.2
    exact g_iret (pc := 26) rfl dX6_stepped_26 h
  · have h := h.2 q
    refine g_iload_n (pc := 16) dX6_stepped_16 rfl 0 rfl ?_
    refine g_goto (pc := 17) 26 dX6_stepped_17 (by decide) ?_
    exact g_iret (pc := 26) rfl dX6_stepped_26 h
set_option maxHeartbeats 4000000 in
set_option maxRecDepth 100000 in
theorem ct_X6_turns {Γ : GT} {Q : Int32 → St → Prop} (σ : St) 
    (h : G Γ mX6_turns (NI Γ 3 Q) 4 [(0, rf Γ 25), (1, .int (0 : Int32)), (2, .int (0 : Int32))] [] σ) :
    CtI Γ mX6_turns 3 [rf Γ 25] σ Q := by
  refine ct_of (by decide +kernel) (Nat.le_of_ble_eq_true rfl) ?_
  show G Γ mX6_turns (NI Γ 3 Q) 0 [(0, rf Γ 25)] [] σ
  refine g_iconst (pc := 0) (0 : Int32) dX6_turns_0 rfl ?_
  refine g_istore_n (pc := 1) [(1, _), (0, _)] dX6_turns_1 rfl (Nat.le_of_ble_eq_true rfl) rfl ?_
  refine g_iconst (pc := 2) (0 : Int32) dX6_turns_2 rfl ?_
  refine g_istore_n (pc := 3) [(2, _), (1, _), (0, _)] dX6_turns_3 rfl (Nat.le_of_ble_eq_true rfl) rfl ?_
  refine g_pm [2, 1, 0] rfl ?_
  exact h
set_option maxHeartbeats 4000000 in
set_option maxRecDepth 100000 in
theorem t_X6_turns_4 {Γ : GT} {Q : Int32 → St → Prop} (σ : St) (x1 : Int32) (x2 : Int32)
    (h : (((σ.1 25 0) ≤ x2) → (G Γ mX6_turns (NI Γ 3 Q) 141 [(0, rf Γ 25), (1, .int x1), (2, .int (0 : Int32))] [] σ)) ∧ ((¬ (σ.1 25 0) ≤ x2) → (vp_in x2 5 ∧ ((((σ.1 30 x2.toNatClampNeg) = 0) → (vp_in x2 5 ∧ (G Γ mX6_turns (NI Γ 3 Q) 40 [(0, rf Γ 25), (1, .int x1), (2, .int x2)] [.int (σ.1 36 x2.toNatClampNeg), .int x2, rf Γ 37] σ))) ∧ ((¬ (σ.1 30 x2.toNatClampNeg) = 0) → (∃ Q1 : Int32 → St → Prop, CtI Γ mX6_stepped 2 [rf Γ 25, .int x2] σ Q1 ∧ ∀ (r2 : Int32) (τ3 : St), Q1 r2 τ3 → (G Γ mX6_turns (NI Γ 3 Q) 40 [(0, rf Γ 25), (1, .int x1), (2, .int x2)] [.int r2, .int x2, rf Γ 37] τ3))))))) :
    G Γ mX6_turns (NI Γ 3 Q) 4 [(0, rf Γ 25), (1, .int x1), (2, .int x2)] [] σ := by
  refine g_iload_n (pc := 4) dX6_turns_4 rfl 2 rfl ?_
  refine g_aload_n (pc := 5) dX6_turns_5 rfl 0 rfl ?_
  refine g_getI (pc := 6) 25 6 0 fi_25_0 fl_X6_7 dX6_turns_6 ?_
  refine g_icmp_ge (pc := 9) 139 dX6_turns_9 (by decide) (fun q => ?_) (fun q => ?_)
  · have h := h.1 q
    refine g_iconst (pc := 139) (0 : Int32) dX6_turns_139 rfl ?_
    refine g_istore_n (pc := 140) [(2, _), (0, _), (1, _)] dX6_turns_140 rfl (Nat.le_of_ble_eq_true rfl) rfl ?_
    refine g_pm [1, 2, 0] rfl ?_
    exact h
  · have h := h.2 q
    refine g_aload_n (pc := 12) dX6_turns_12 rfl 0 rfl ?_
    refine g_getR (pc := 13) 25 6 16 37 fr_25_16 fl_X6_52 dX6_turns_13 ?_
    refine g_iload_n (pc := 16) dX6_turns_16 rfl 2 rfl ?_
    refine g_aload_n (pc := 17) dX6_turns_17 rfl 0 rfl ?_
    refine g_getR (pc := 18) 25 6 6 30 fr_25_6 fl_X6_26 dX6_turns_18 ?_
    refine g_iload_n (pc := 21) dX6_turns_21 rfl 2 rfl ?_
    refine g_zald (pc := 22) 30 5 ar_30 h.1 dX6_turns_22 ?_
    have h := h.2
    refine g_if_eq (pc := 23) 34 dX6_turns_23 (by decide) (fun q => ?_) (fun q => ?_)
    · have h := h.1 q
      refine g_aload_n (pc := 34) dX6_turns_34 rfl 0 rfl ?_
      refine g_getR (pc := 35) 25 6 15 36 fr_25_15 fl_X6_49 dX6_turns_35 ?_
      refine g_iload_n (pc := 38) dX6_turns_38 rfl 2 rfl ?_
      refine g_iald (pc := 39) 36 5 ar_36 h.1 dX6_turns_39 ?_
      have h := h.2
      exact h
    · have h := h.2 q
      refine g_aload_n (pc := 26) dX6_turns_26 rfl 0 rfl ?_
      refine g_iload_n (pc := 27) dX6_turns_27 rfl 2 rfl ?_
      obtain ⟨Q1, hc, h⟩ := h
      refine g_callVI (pc := 28) (M' := mX6_stepped) (n := 3) (As := [.int x2]) (st := [.int x2, rf Γ 37]) dX6_turns_28 ml_X6_175 ok_X6_stepped rfl (rmOk_M _ _ _) (by decide) rc_25 (Nat.le_of_ble_eq_true rfl) rfl hc (fun r2 τ3 hq => ?_)
      have h := h r2 τ3 hq
      refine g_goto (pc := 31) 40 dX6_turns_31 (by decide) ?_
      exact h
set_option maxHeartbeats 4000000 in
set_option maxRecDepth 100000 in
theorem t_X6_turns_141 {Γ : GT} {Q : Int32 → St → Prop} (σ : St) (x1 : Int32) (x2 : Int32)
    (h : (((σ.1 25 0) ≤ x2) → (Q x1 σ)) ∧ ((¬ (σ.1 25 0) ≤ x2) → (vp_in x2 5 ∧ (vp_in x2 5 ∧ (((¬ (σ.1 37 x2.toNatClampNeg) = (σ.1 36 x2.toNatClampNeg)) → (vp_in x2 5 ∧ (vp_in x2 5 ∧ (G Γ mX6_turns (NI Γ 3 Q) 141 [(0, rf Γ 25), (1, .int (x1 + (1 : Int32))), (2, .int (x2 + (1 : Int32)))] [] (sI σ 36 x2.toNatClampNeg (σ.1 37 x2.toNatClampNeg)))))) ∧ (((σ.1 37 x2.toNatClampNeg) = (σ.1 36 x2.toNatClampNeg)) → (vp_in x2 5 ∧ (vp_in x2 5 ∧ (G Γ mX6_turns (NI Γ 3 Q) 141 [(0, rf Γ 25), (1, .int (x1 + (0 : Int32))), (2, .int (x2 + (1 : Int32)))] [] (sI σ 36 x2.toNatClampNeg (σ.1 37 x2.toNatClampNeg))))))))))) :
    G Γ mX6_turns (NI Γ 3 Q) 141 [(0, rf Γ 25), (1, .int x1), (2, .int x2)] [] σ := by
  refine g_iload_n (pc := 141) dX6_turns_141 rfl 2 rfl ?_
  refine g_aload_n (pc := 142) dX6_turns_142 rfl 0 rfl ?_
  refine g_getI (pc := 143) 25 6 0 fi_25_0 fl_X6_7 dX6_turns_143 ?_
  refine g_icmp_ge (pc := 146) 190 dX6_turns_146 (by decide) (fun q => ?_) (fun q => ?_)
  · have h := h.1 q
    refine g_iload_n (pc := 190) dX6_turns_190 rfl 1 rfl ?_
    exact g_iret (pc := 191) rfl dX6_turns_191 h
  · have h := h.2 q
    refine g_iload_n (pc := 149) dX6_turns_149 rfl 1 rfl ?_
    refine g_aload_n (pc := 150) dX6_turns_150 rfl 0 rfl ?_
    refine g_getR (pc := 151) 25 6 16 37 fr_25_16 fl_X6_52 dX6_turns_151 ?_
    refine g_iload_n (pc := 154) dX6_turns_154 rfl 2 rfl ?_
    refine g_iald (pc := 155) 37 5 ar_37 h.1 dX6_turns_155 ?_
    have h := h.2
    refine g_aload_n (pc := 156) dX6_turns_156 rfl 0 rfl ?_
    refine g_getR (pc := 157) 25 6 15 36 fr_25_15 fl_X6_49 dX6_turns_157 ?_
    refine g_iload_n (pc := 160) dX6_turns_160 rfl 2 rfl ?_
    refine g_iald (pc := 161) 36 5 ar_36 h.1 dX6_turns_161 ?_
    have h := h.2
    refine g_icmp_ne (pc := 162) 169 dX6_turns_162 (by decide) (fun q => ?_) (fun q => ?_)
    · have h := h.1 q
      refine g_iconst (pc := 169) (1 : Int32) dX6_turns_169 rfl ?_
      refine g_iadd (pc := 170) dX6_turns_170 ?_
      refine g_istore_n (pc := 171) [(1, _), (0, _), (2, _)] dX6_turns_171 rfl (Nat.le_of_ble_eq_true rfl) rfl ?_
      refine g_aload_n (pc := 172) dX6_turns_172 rfl 1 rfl ?_
      refine g_getR (pc := 173) 25 6 15 36 fr_25_15 fl_X6_49 dX6_turns_173 ?_
      refine g_iload_n (pc := 176) dX6_turns_176 rfl 2 rfl ?_
      refine g_aload_n (pc := 177) dX6_turns_177 rfl 1 rfl ?_
      refine g_getR (pc := 178) 25 6 16 37 fr_25_16 fl_X6_52 dX6_turns_178 ?_
      refine g_iload_n (pc := 181) dX6_turns_181 rfl 2 rfl ?_
      refine g_iald (pc := 182) 37 5 ar_37 h.1 dX6_turns_182 ?_
      have h := h.2
      refine g_iast (pc := 183) 36 5 ar_36 h.1 dX6_turns_183 ?_
      have h := h.2
      refine g_iinc (pc := 184) (1 : Int32) [(2, _), (1, _), (0, _)] dX6_turns_184 2 rfl rfl (Nat.le_of_ble_eq_true rfl) rfl ?_
      refine g_goto (pc := 187) 141 dX6_turns_187 (by decide) ?_
      refine g_pm [2, 1, 0] rfl ?_
      exact h
    · have h := h.2 q
      refine g_iconst (pc := 165) (0 : Int32) dX6_turns_165 rfl ?_
      refine g_goto (pc := 166) 170 dX6_turns_166 (by decide) ?_
      refine g_iadd (pc := 170) dX6_turns_170 ?_
      refine g_istore_n (pc := 171) [(1, _), (0, _), (2, _)] dX6_turns_171 rfl (Nat.le_of_ble_eq_true rfl) rfl ?_
      refine g_aload_n (pc := 172) dX6_turns_172 rfl 1 rfl ?_
      refine g_getR (pc := 173) 25 6 15 36 fr_25_15 fl_X6_49 dX6_turns_173 ?_
      refine g_iload_n (pc := 176) dX6_turns_176 rfl 2 rfl ?_
      refine g_aload_n (pc := 177) dX6_turns_177 rfl 1 rfl ?_
      refine g_getR (pc := 178) 25 6 16 37 fr_25_16 fl_X6_52 dX6_turns_178 ?_
      refine g_iload_n (pc := 181) dX6_turns_181 rfl 2 rfl ?_
      refine g_iald (pc := 182) 37 5 ar_37 h.1 dX6_turns_182 ?_
      have h := h.2
      refine g_iast (pc := 183) 36 5 ar_36 h.1 dX6_turns_183 ?_
      have h := h.2
      refine g_iinc (pc := 184) (1 : Int32) [(2, _), (1, _), (0, _)] dX6_turns_184 2 rfl rfl (Nat.le_of_ble_eq_true rfl) rfl ?_
      refine g_goto (pc := 187) 141 dX6_turns_187 (by decide) ?_
      refine g_pm [2, 1, 0] rfl ?_
      exact h
set_option maxHeartbeats 4000000 in
set_option maxRecDepth 100000 in
theorem t_X6_turns_40 {Γ : GT} {Q : Int32 → St → Prop} (σ : St) (x1 : Int32) (x2 : Int32) (y2 : Int32) (y1 : Int32)
    (h : vp_in y1 5 ∧ (vp_in x2 5 ∧ (((((sI σ 37 y1.toNatClampNeg y2).1 30 x2.toNatClampNeg) = 0) → (vp_in x2 5 ∧ (G Γ mX6_turns (NI Γ 3 Q) 89 [(0, rf Γ 25), (1, .int x1), (2, .int x2)] [.int ((sI σ 37 y1.toNatClampNeg y2).1 37 x2.toNatClampNeg), .int x2, rf Γ 37] (sI σ 37 y1.toNatClampNeg y2)))) ∧ ((¬ ((sI σ 37 y1.toNatClampNeg y2).1 30 x2.toNatClampNeg) = 0) → (((¬ ((sI σ 37 y1.toNatClampNeg y2).1 25 1) = (2 : Int32)) → (vp_in x2 5 ∧ (G Γ mX6_turns (NI Γ 3 Q) 89 [(0, rf Γ 25), (1, .int x1), (2, .int x2)] [.int ((sI σ 37 y1.toNatClampNeg y2).1 37 x2.toNatClampNeg), .int x2, rf Γ 37] (sI σ 37 y1.toNatClampNeg y2)))) ∧ ((((sI σ 37 y1.toNatClampNeg y2).1 25 1) = (2 : Int32)) → (vp_in x2 5 ∧ (vp_in x2 5 ∧ ((¬ (2 : Int32) = 0) ∧ (G Γ mX6_turns (NI Γ 3 Q) 89 [(0, rf Γ 25), (1, .int x1), (2, .int x2)] [.int (((((sI σ 37 y1.toNatClampNeg y2).1 36 x2.toNatClampNeg) + ((sI σ 37 y1.toNatClampNeg y2).1 37 x2.toNatClampNeg)) + (1 : Int32)) / (2 : Int32)), .int x2, rf Γ 37] (sI σ 37 y1.toNatClampNeg y2))))))))))) :
    G Γ mX6_turns (NI Γ 3 Q) 40 [(0, rf Γ 25), (1, .int x1), (2, .int x2)] [.int y2, .int y1, rf Γ 37] σ := by
  refine g_iast (pc := 40) 37 5 ar_37 h.1 dX6_turns_40 ?_
  have h := h.2
  refine g_aload_n (pc := 41) dX6_turns_41 rfl 0 rfl ?_
  refine g_getR (pc := 42) 25 6 16 37 fr_25_16 fl_X6_52 dX6_turns_42 ?_
  refine g_iload_n (pc := 45) dX6_turns_45 rfl 2 rfl ?_
  refine g_aload_n (pc := 46) dX6_turns_46 rfl 0 rfl ?_
  refine g_getR (pc := 47) 25 6 6 30 fr_25_6 fl_X6_26 dX6_turns_47 ?_
  refine g_iload_n (pc := 50) dX6_turns_50 rfl 2 rfl ?_
  refine g_zald (pc := 51) 30 5 ar_30 h.1 dX6_turns_51 ?_
  have h := h.2
  refine g_if_eq (pc := 52) 83 dX6_turns_52 (by decide) (fun q => ?_) (fun q => ?_)
  · have h := h.1 q
    refine g_aload_n (pc := 83) dX6_turns_83 rfl 0 rfl ?_
    refine g_getR (pc := 84) 25 6 16 37 fr_25_16 fl_X6_52 dX6_turns_84 ?_
    refine g_iload_n (pc := 87) dX6_turns_87 rfl 2 rfl ?_
    refine g_iald (pc := 88) 37 5 ar_37 h.1 dX6_turns_88 ?_
    have h := h.2
    exact h
  · have h := h.2 q
    refine g_aload_n (pc := 55) dX6_turns_55 rfl 0 rfl ?_
    refine g_getI (pc := 56) 25 6 1 fi_25_1 fl_X6_98 dX6_turns_56 ?_
    refine g_iconst (pc := 59) (2 : Int32) dX6_turns_59 rfl ?_
    refine g_icmp_ne (pc := 60) 83 dX6_turns_60 (by decide) (fun q => ?_) (fun q => ?_)
    · have h := h.1 q
      refine g_aload_n (pc := 83) dX6_turns_83 rfl 0 rfl ?_
      refine g_getR (pc := 84) 25 6 16 37 fr_25_16 fl_X6_52 dX6_turns_84 ?_
      refine g_iload_n (pc := 87) dX6_turns_87 rfl 2 rfl ?_
      refine g_iald (pc := 88) 37 5 ar_37 h.1 dX6_turns_88 ?_
      have h := h.2
      exact h
    · have h := h.2 q
      refine g_aload_n (pc := 63) dX6_turns_63 rfl 0 rfl ?_
      refine g_getR (pc := 64) 25 6 15 36 fr_25_15 fl_X6_49 dX6_turns_64 ?_
      refine g_iload_n (pc := 67) dX6_turns_67 rfl 2 rfl ?_
      refine g_iald (pc := 68) 36 5 ar_36 h.1 dX6_turns_68 ?_
      have h := h.2
      refine g_aload_n (pc := 69) dX6_turns_69 rfl 0 rfl ?_
      refine g_getR (pc := 70) 25 6 16 37 fr_25_16 fl_X6_52 dX6_turns_70 ?_
      refine g_iload_n (pc := 73) dX6_turns_73 rfl 2 rfl ?_
      refine g_iald (pc := 74) 37 5 ar_37 h.1 dX6_turns_74 ?_
      have h := h.2
      refine g_iadd (pc := 75) dX6_turns_75 ?_
      refine g_iconst (pc := 76) (1 : Int32) dX6_turns_76 rfl ?_
      refine g_iadd (pc := 77) dX6_turns_77 ?_
      refine g_iconst (pc := 78) (2 : Int32) dX6_turns_78 rfl ?_
      refine g_idiv (pc := 79) dX6_turns_79 h.1 ?_
      have h := h.2
      refine g_goto (pc := 80) 89 dX6_turns_80 (by decide) ?_
      exact h
set_option maxHeartbeats 4000000 in
set_option maxRecDepth 100000 in
theorem t_X6_turns_89 {Γ : GT} {Q : Int32 → St → Prop} (σ : St) (x1 : Int32) (x2 : Int32) (y2 : Int32) (y1 : Int32)
    (h : vp_in y1 5 ∧ (((¬ ((sI σ 37 y1.toNatClampNeg y2).1 25 1) = (1 : Int32)) → (G Γ mX6_turns (NI Γ 3 Q) 4 [(0, rf Γ 25), (1, .int x1), (2, .int (x2 + (1 : Int32)))] [] (sI σ 37 y1.toNatClampNeg y2))) ∧ ((((sI σ 37 y1.toNatClampNeg y2).1 25 1) = (1 : Int32)) → (vp_in x2 5 ∧ (vp_in x2 5 ∧ (((¬ ((sI σ 37 y1.toNatClampNeg y2).1 37 x2.toNatClampNeg) = ((sI σ 37 y1.toNatClampNeg y2).1 36 x2.toNatClampNeg)) → (vp_in x2 5 ∧ (vp_in x2 5 ∧ (G Γ mX6_turns (NI Γ 3 Q) 4 [(0, rf Γ 25), (1, .int (x1 + (1 : Int32))), (2, .int (x2 + (1 : Int32)))] [] (sI (sI σ 37 y1.toNatClampNeg y2) 36 x2.toNatClampNeg ((sI σ 37 y1.toNatClampNeg y2).1 37 x2.toNatClampNeg)))))) ∧ ((((sI σ 37 y1.toNatClampNeg y2).1 37 x2.toNatClampNeg) = ((sI σ 37 y1.toNatClampNeg y2).1 36 x2.toNatClampNeg)) → (vp_in x2 5 ∧ (vp_in x2 5 ∧ (G Γ mX6_turns (NI Γ 3 Q) 4 [(0, rf Γ 25), (1, .int (x1 + (0 : Int32))), (2, .int (x2 + (1 : Int32)))] [] (sI (sI σ 37 y1.toNatClampNeg y2) 36 x2.toNatClampNeg ((sI σ 37 y1.toNatClampNeg y2).1 37 x2.toNatClampNeg)))))))))))) :
    G Γ mX6_turns (NI Γ 3 Q) 89 [(0, rf Γ 25), (1, .int x1), (2, .int x2)] [.int y2, .int y1, rf Γ 37] σ := by
  refine g_iast (pc := 89) 37 5 ar_37 h.1 dX6_turns_89 ?_
  have h := h.2
  refine g_aload_n (pc := 90) dX6_turns_90 rfl 0 rfl ?_
  refine g_getI (pc := 91) 25 6 1 fi_25_1 fl_X6_98 dX6_turns_91 ?_
  refine g_iconst (pc := 94) (1 : Int32) dX6_turns_94 rfl ?_
  refine g_icmp_ne (pc := 95) 133 dX6_turns_95 (by decide) (fun q => ?_) (fun q => ?_)
  · have h := h.1 q
    refine g_iinc (pc := 133) (1 : Int32) [(2, _), (0, _), (1, _)] dX6_turns_133 2 rfl rfl (Nat.le_of_ble_eq_true rfl) rfl ?_
    refine g_goto (pc := 136) 4 dX6_turns_136 (by decide) ?_
    refine g_pm [1, 2, 0] rfl ?_
    exact h
  · have h := h.2 q
    refine g_iload_n (pc := 98) dX6_turns_98 rfl 1 rfl ?_
    refine g_aload_n (pc := 99) dX6_turns_99 rfl 0 rfl ?_
    refine g_getR (pc := 100) 25 6 16 37 fr_25_16 fl_X6_52 dX6_turns_100 ?_
    refine g_iload_n (pc := 103) dX6_turns_103 rfl 2 rfl ?_
    refine g_iald (pc := 104) 37 5 ar_37 h.1 dX6_turns_104 ?_
    have h := h.2
    refine g_aload_n (pc := 105) dX6_turns_105 rfl 0 rfl ?_
    refine g_getR (pc := 106) 25 6 15 36 fr_25_15 fl_X6_49 dX6_turns_106 ?_
    refine g_iload_n (pc := 109) dX6_turns_109 rfl 2 rfl ?_
    refine g_iald (pc := 110) 36 5 ar_36 h.1 dX6_turns_110 ?_
    have h := h.2
    refine g_icmp_ne (pc := 111) 118 dX6_turns_111 (by decide) (fun q => ?_) (fun q => ?_)
    · have h := h.1 q
      refine g_iconst (pc := 118) (1 : Int32) dX6_turns_118 rfl ?_
      refine g_iadd (pc := 119) dX6_turns_119 ?_
      refine g_istore_n (pc := 120) [(1, _), (0, _), (2, _)] dX6_turns_120 rfl (Nat.le_of_ble_eq_true rfl) rfl ?_
      refine g_aload_n (pc := 121) dX6_turns_121 rfl 1 rfl ?_
      refine g_getR (pc := 122) 25 6 15 36 fr_25_15 fl_X6_49 dX6_turns_122 ?_
      refine g_iload_n (pc := 125) dX6_turns_125 rfl 2 rfl ?_
      refine g_aload_n (pc := 126) dX6_turns_126 rfl 1 rfl ?_
      refine g_getR (pc := 127) 25 6 16 37 fr_25_16 fl_X6_52 dX6_turns_127 ?_
      refine g_iload_n (pc := 130) dX6_turns_130 rfl 2 rfl ?_
      refine g_iald (pc := 131) 37 5 ar_37 h.1 dX6_turns_131 ?_
      have h := h.2
      refine g_iast (pc := 132) 36 5 ar_36 h.1 dX6_turns_132 ?_
      have h := h.2
      refine g_iinc (pc := 133) (1 : Int32) [(2, _), (1, _), (0, _)] dX6_turns_133 2 rfl rfl (Nat.le_of_ble_eq_true rfl) rfl ?_
      refine g_goto (pc := 136) 4 dX6_turns_136 (by decide) ?_
      refine g_pm [2, 1, 0] rfl ?_
      exact h
    · have h := h.2 q
      refine g_iconst (pc := 114) (0 : Int32) dX6_turns_114 rfl ?_
      refine g_goto (pc := 115) 119 dX6_turns_115 (by decide) ?_
      refine g_iadd (pc := 119) dX6_turns_119 ?_
      refine g_istore_n (pc := 120) [(1, _), (0, _), (2, _)] dX6_turns_120 rfl (Nat.le_of_ble_eq_true rfl) rfl ?_
      refine g_aload_n (pc := 121) dX6_turns_121 rfl 1 rfl ?_
      refine g_getR (pc := 122) 25 6 15 36 fr_25_15 fl_X6_49 dX6_turns_122 ?_
      refine g_iload_n (pc := 125) dX6_turns_125 rfl 2 rfl ?_
      refine g_aload_n (pc := 126) dX6_turns_126 rfl 1 rfl ?_
      refine g_getR (pc := 127) 25 6 16 37 fr_25_16 fl_X6_52 dX6_turns_127 ?_
      refine g_iload_n (pc := 130) dX6_turns_130 rfl 2 rfl ?_
      refine g_iald (pc := 131) 37 5 ar_37 h.1 dX6_turns_131 ?_
      have h := h.2
      refine g_iast (pc := 132) 36 5 ar_36 h.1 dX6_turns_132 ?_
      have h := h.2
      refine g_iinc (pc := 133) (1 : Int32) [(2, _), (1, _), (0, _)] dX6_turns_133 2 rfl rfl (Nat.le_of_ble_eq_true rfl) rfl ?_
      refine g_goto (pc := 136) 4 dX6_turns_136 (by decide) ?_
      refine g_pm [2, 1, 0] rfl ?_
      exact h
set_option maxHeartbeats 4000000 in
set_option maxRecDepth 100000 in
theorem ct_X6_keepsTried {Γ : GT} {Q : St → Prop} (σ : St) 
    (h : G Γ mX6_keepsTried (NV Γ 0 Q) 2 [(0, rf Γ 25), (1, .int (0 : Int32))] [] σ) :
    CtV Γ mX6_keepsTried 0 [rf Γ 25] σ Q := by
  refine ct_of (by decide +kernel) (Nat.le_of_ble_eq_true rfl) ?_
  show G Γ mX6_keepsTried (NV Γ 0 Q) 0 [(0, rf Γ 25)] [] σ
  refine g_iconst (pc := 0) (0 : Int32) dX6_keepsTried_0 rfl ?_
  refine g_istore_n (pc := 1) [(1, _), (0, _)] dX6_keepsTried_1 rfl (Nat.le_of_ble_eq_true rfl) rfl ?_
  refine g_pm [1, 0] rfl ?_
  exact h
set_option maxHeartbeats 4000000 in
set_option maxRecDepth 100000 in
theorem t_X6_keepsTried_2 {Γ : GT} {Q : St → Prop} (σ : St) (x1 : Int32)
    (h : (((σ.1 25 0) ≤ x1) → (Q σ)) ∧ ((¬ (σ.1 25 0) ≤ x1) → (vp_in x1 5 ∧ (vp_in x1 5 ∧ (G Γ mX6_keepsTried (NV Γ 0 Q) 2 [(0, rf Γ 25), (1, .int (x1 + (1 : Int32)))] [] (sI σ 31 x1.toNatClampNeg (σ.1 36 x1.toNatClampNeg))))))) :
    G Γ mX6_keepsTried (NV Γ 0 Q) 2 [(0, rf Γ 25), (1, .int x1)] [] σ := by
  refine g_iload_n (pc := 2) dX6_keepsTried_2 rfl 1 rfl ?_
  refine g_aload_n (pc := 3) dX6_keepsTried_3 rfl 0 rfl ?_
  refine g_getI (pc := 4) 25 6 0 fi_25_0 fl_X6_7 dX6_keepsTried_4 ?_
  refine g_icmp_ge (pc := 7) 28 dX6_keepsTried_7 (by decide) (fun q => ?_) (fun q => ?_)
  · have h := h.1 q
    exact g_vret (pc := 28) rfl dX6_keepsTried_28 h
  · have h := h.2 q
    refine g_aload_n (pc := 10) dX6_keepsTried_10 rfl 0 rfl ?_
    refine g_getR (pc := 11) 25 6 7 31 fr_25_7 fl_X6_30 dX6_keepsTried_11 ?_
    refine g_iload_n (pc := 14) dX6_keepsTried_14 rfl 1 rfl ?_
    refine g_aload_n (pc := 15) dX6_keepsTried_15 rfl 0 rfl ?_
    refine g_getR (pc := 16) 25 6 15 36 fr_25_15 fl_X6_49 dX6_keepsTried_16 ?_
    refine g_iload_n (pc := 19) dX6_keepsTried_19 rfl 1 rfl ?_
    refine g_iald (pc := 20) 36 5 ar_36 h.1 dX6_keepsTried_20 ?_
    have h := h.2
    refine g_iast (pc := 21) 31 5 ar_31 h.1 dX6_keepsTried_21 ?_
    have h := h.2
    refine g_iinc (pc := 22) (1 : Int32) [(1, _), (0, _)] dX6_keepsTried_22 1 rfl rfl (Nat.le_of_ble_eq_true rfl) rfl ?_
    refine g_goto (pc := 25) 2 dX6_keepsTried_25 (by decide) ?_
    refine g_pm [1, 0] rfl ?_
    exact h
set_option maxHeartbeats 4000000 in
set_option maxRecDepth 100000 in
theorem ct_X6_step {Γ : GT} {Q : Int32 → St → Prop} (σ : St) (x1 : Int32)
    (h : ∃ Q1 : Int32 → St → Prop, CtI Γ mX6_isSender 1 [rf Γ 25, .int x1] σ Q1 ∧ ∀ (r2 : Int32) (τ3 : St), Q1 r2 τ3 → (((¬ r2 = 0) → (vp_in x1 5 ∧ (((¬ (τ3.1 30 x1.toNatClampNeg) = 0) → (∃ Q4 : St → Prop, CtV Γ mX6_triesNow 0 [rf Γ 25] τ3 Q4 ∧ ∀ (τ6 : St), Q4 τ6 → (∃ Q7 : Int32 → St → Prop, CtI Γ mX6_stepped 2 [rf Γ 25, .int x1] τ6 Q7 ∧ ∀ (r8 : Int32) (τ9 : St), Q7 r8 τ9 → (vp_in x1 5 ∧ (vp_in x1 5 ∧ (Q ((sI τ9 31 x1.toNatClampNeg r8).1 31 x1.toNatClampNeg) (sI τ9 31 x1.toNatClampNeg r8))))))) ∧ (((τ3.1 30 x1.toNatClampNeg) = 0) → (Q (-3 : Int32) τ3))))) ∧ ((r2 = 0) → (Q (-2 : Int32) τ3)))) :
    CtI Γ mX6_step 3 [rf Γ 25, .int x1] σ Q := by
  refine ct_of (by decide +kernel) (Nat.le_of_ble_eq_true rfl) ?_
  show G Γ mX6_step (NI Γ 3 Q) 0 [(0, rf Γ 25), (1, .int x1)] [] σ
  refine g_aload_n (pc := 0) dX6_step_0 rfl 0 rfl ?_
  refine g_iload_n (pc := 1) dX6_step_1 rfl 1 rfl ?_
  obtain ⟨Q1, hc, h⟩ := h
  refine g_callVI (pc := 2) (M' := mX6_isSender) (n := 3) (As := [.int x1]) (st := []) dX6_step_2 ml_X6_79 ok_X6_isSender rfl (rmOk_M _ _ _) (by decide) rc_25 (Nat.le_of_ble_eq_true rfl) rfl hc (fun r2 τ3 hq => ?_)
  have h := h r2 τ3 hq
  refine g_if_ne (pc := 5) 11 dX6_step_5 (by decide) (fun q => ?_) (fun q => ?_)
  · have h := h.1 q
    refine g_aload_n (pc := 11) dX6_step_11 rfl 0 rfl ?_
    refine g_getR (pc := 12) 25 6 6 30 fr_25_6 fl_X6_26 dX6_step_12 ?_
    refine g_iload_n (pc := 15) dX6_step_15 rfl 1 rfl ?_
    refine g_zald (pc := 16) 30 5 ar_30 h.1 dX6_step_16 ?_
    have h := h.2
    refine g_if_ne (pc := 17) 23 dX6_step_17 (by decide) (fun q => ?_) (fun q => ?_)
    · have h := h.1 q
      refine g_aload_n (pc := 23) dX6_step_23 rfl 0 rfl ?_
      obtain ⟨Q4, hc, h⟩ := h
      refine g_callVV (pc := 24) (M' := mX6_triesNow) (n := 3) (As := []) (st := []) dX6_step_24 ml_X6_114 ok_X6_triesNow rfl (rmOk_M _ _ _) (by decide) rc_25 (Nat.le_of_ble_eq_true rfl) rfl hc (fun τ6 hq => ?_)
      have h := h τ6 hq
      refine g_aload_n (pc := 27) dX6_step_27 rfl 0 rfl ?_
      refine g_getR (pc := 28) 25 6 7 31 fr_25_7 fl_X6_30 dX6_step_28 ?_
      refine g_iload_n (pc := 31) dX6_step_31 rfl 1 rfl ?_
      refine g_aload_n (pc := 32) dX6_step_32 rfl 0 rfl ?_
      refine g_iload_n (pc := 33) dX6_step_33 rfl 1 rfl ?_
      obtain ⟨Q7, hc, h⟩ := h
      refine g_callVI (pc := 34) (M' := mX6_stepped) (n := 3) (As := [.int x1]) (st := [.int x1, rf Γ 31]) dX6_step_34 ml_X6_175 ok_X6_stepped rfl (rmOk_M _ _ _) (by decide) rc_25 (Nat.le_of_ble_eq_true rfl) rfl hc (fun r8 τ9 hq => ?_)
      have h := h r8 τ9 hq
      refine g_iast (pc := 37) 31 5 ar_31 h.1 dX6_step_37 ?_
      have h := h.2
      refine g_aload_n (pc := 38) dX6_step_38 rfl 0 rfl ?_
      refine g_getR (pc := 39) 25 6 7 31 fr_25_7 fl_X6_30 dX6_step_39 ?_
      refine g_iload_n (pc := 42) dX6_step_42 rfl 1 rfl ?_
      refine g_iald (pc := 43) 31 5 ar_31 h.1 dX6_step_43 ?_
      have h := h.2
      exact g_iret (pc := 44) rfl dX6_step_44 h
    · have h := h.2 q
      refine g_bipush (pc := 20) (-3 : Int32) dX6_step_20 rfl ?_
      exact g_iret (pc := 22) rfl dX6_step_22 h
  · have h := h.2 q
    refine g_bipush (pc := 8) (-2 : Int32) dX6_step_8 rfl ?_
    exact g_iret (pc := 10) rfl dX6_step_10 h
set_option maxHeartbeats 4000000 in
set_option maxRecDepth 100000 in
theorem ct_X6_turn {Γ : GT} {Q : Int32 → St → Prop} (σ : St) 
    (h : ∃ Q1 : St → Prop, CtV Γ mX6_triesNow 0 [rf Γ 25] σ Q1 ∧ ∀ (τ3 : St), Q1 τ3 → (∃ Q4 : Int32 → St → Prop, CtI Γ mX6_turns 3 [rf Γ 25] τ3 Q4 ∧ ∀ (r5 : Int32) (τ6 : St), Q4 r5 τ6 → (∃ Q7 : St → Prop, CtV Γ mX6_keepsTried 0 [rf Γ 25] τ6 Q7 ∧ ∀ (τ9 : St), Q7 τ9 → (Q r5 τ9)))) :
    CtI Γ mX6_turn 4 [rf Γ 25] σ Q := by
  refine ct_of (by decide +kernel) (Nat.le_of_ble_eq_true rfl) ?_
  show G Γ mX6_turn (NI Γ 4 Q) 0 [(0, rf Γ 25)] [] σ
  refine g_aload_n (pc := 0) dX6_turn_0 rfl 0 rfl ?_
  obtain ⟨Q1, hc, h⟩ := h
  refine g_callVV (pc := 1) (M' := mX6_triesNow) (n := 4) (As := []) (st := []) dX6_turn_1 ml_X6_114 ok_X6_triesNow rfl (rmOk_M _ _ _) (by decide) rc_25 (Nat.le_of_ble_eq_true rfl) rfl hc (fun τ3 hq => ?_)
  have h := h τ3 hq
  refine g_aload_n (pc := 4) dX6_turn_4 rfl 0 rfl ?_
  obtain ⟨Q4, hc, h⟩ := h
  refine g_callVI (pc := 5) (M' := mX6_turns) (n := 4) (As := []) (st := []) dX6_turn_5 ml_X6_178 ok_X6_turns rfl (rmOk_M _ _ _) (by decide) rc_25 (Nat.le_of_ble_eq_true rfl) rfl hc (fun r5 τ6 hq => ?_)
  have h := h r5 τ6 hq
  refine g_istore_n (pc := 8) [(1, _), (0, _)] dX6_turn_8 rfl (Nat.le_of_ble_eq_true rfl) rfl ?_
  refine g_aload_n (pc := 9) dX6_turn_9 rfl 1 rfl ?_
  obtain ⟨Q7, hc, h⟩ := h
  refine g_callVV (pc := 10) (M' := mX6_keepsTried) (n := 4) (As := []) (st := []) dX6_turn_10 ml_X6_181 ok_X6_keepsTried rfl (rmOk_M _ _ _) (by decide) rc_25 (Nat.le_of_ble_eq_true rfl) rfl hc (fun τ9 hq => ?_)
  have h := h τ9 hq
  refine g_iload_n (pc := 13) dX6_turn_13 rfl 0 rfl ?_
  exact g_iret (pc := 14) rfl dX6_turn_14 h
set_option maxHeartbeats 4000000 in
set_option maxRecDepth 100000 in
theorem ct_X6_order {Γ : GT} {Q : Int32 → St → Prop} (σ : St) 
    (h : G Γ mX6_order (NI Γ 3 Q) 4 [(0, rf Γ 25), (1, .int (0 : Int32)), (2, .int (0 : Int32))] [] σ) :
    CtI Γ mX6_order 3 [rf Γ 25] σ Q := by
  refine ct_of (by decide +kernel) (Nat.le_of_ble_eq_true rfl) ?_
  show G Γ mX6_order (NI Γ 3 Q) 0 [(0, rf Γ 25)] [] σ
  refine g_iconst (pc := 0) (0 : Int32) dX6_order_0 rfl ?_
  refine g_istore_n (pc := 1) [(1, _), (0, _)] dX6_order_1 rfl (Nat.le_of_ble_eq_true rfl) rfl ?_
  refine g_iconst (pc := 2) (0 : Int32) dX6_order_2 rfl ?_
  refine g_istore_n (pc := 3) [(2, _), (1, _), (0, _)] dX6_order_3 rfl (Nat.le_of_ble_eq_true rfl) rfl ?_
  refine g_pm [2, 1, 0] rfl ?_
  exact h
set_option maxHeartbeats 4000000 in
set_option maxRecDepth 100000 in
theorem t_X6_order_4 {Γ : GT} {Q : Int32 → St → Prop} (σ : St) (x1 : Int32) (x2 : Int32)
    (h : (((σ.1 25 9) ≤ x2) → (Q x1 σ)) ∧ ((¬ (σ.1 25 9) ≤ x2) → (∃ Q1 : Int32 → St → Prop, CtI Γ mX6_fault 2 [rf Γ 25] σ Q1 ∧ ∀ (r2 : Int32) (τ3 : St), Q1 r2 τ3 → (((¬ r2 = (-1 : Int32)) → (Q x1 τ3)) ∧ ((r2 = (-1 : Int32)) → (vp_in x2 12 ∧ (∃ Q4 : St → Prop, CtV Γ mX6_triesNow 0 [rf Γ 25] τ3 Q4 ∧ ∀ (τ6 : St), Q4 τ6 → (vp_in ((τ3.1 32 x2.toNatClampNeg) - (97 : Int32)) 5 ∧ ((((τ6.1 30 ((τ3.1 32 x2.toNatClampNeg) - (97 : Int32)).toNatClampNeg) = 0) → (G Γ mX6_order (NI Γ 3 Q) 4 [(0, rf Γ 25), (1, .int x1), (2, .int (x2 + (1 : Int32)))] [] τ6)) ∧ ((¬ (τ6.1 30 ((τ3.1 32 x2.toNatClampNeg) - (97 : Int32)).toNatClampNeg) = 0) → (∃ Q7 : Int32 → St → Prop, CtI Γ mX6_stepped 2 [rf Γ 25, .int ((τ3.1 32 x2.toNatClampNeg) - (97 : Int32))] τ6 Q7 ∧ ∀ (r8 : Int32) (τ9 : St), Q7 r8 τ9 → (vp_in ((τ3.1 32 x2.toNatClampNeg) - (97 : Int32)) 5 ∧ (((r8 = (τ9.1 31 ((τ3.1 32 x2.toNatClampNeg) - (97 : Int32)).toNatClampNeg)) → (G Γ mX6_order (NI Γ 3 Q) 4 [(0, rf Γ 25), (1, .int x1), (2, .int (x2 + (1 : Int32)))] [] τ9)) ∧ ((¬ r8 = (τ9.1 31 ((τ3.1 32 x2.toNatClampNeg) - (97 : Int32)).toNatClampNeg)) → (∃ Q10 : Int32 → St → Prop, CtI Γ mX6_stepped 2 [rf Γ 25, .int ((τ3.1 32 x2.toNatClampNeg) - (97 : Int32))] τ9 Q10 ∧ ∀ (r11 : Int32) (τ12 : St), Q10 r11 τ12 → (vp_in ((τ3.1 32 x2.toNatClampNeg) - (97 : Int32)) 5 ∧ (G Γ mX6_order (NI Γ 3 Q) 4 [(0, rf Γ 25), (1, .int (x1 + (1 : Int32))), (2, .int (x2 + (1 : Int32)))] [] (sI τ12 31 ((τ3.1 32 x2.toNatClampNeg) - (97 : Int32)).toNatClampNeg r11)))))))))))))))))) :
    G Γ mX6_order (NI Γ 3 Q) 4 [(0, rf Γ 25), (1, .int x1), (2, .int x2)] [] σ := by
  refine g_iload_n (pc := 4) dX6_order_4 rfl 2 rfl ?_
  refine g_aload_n (pc := 5) dX6_order_5 rfl 0 rfl ?_
  refine g_getI (pc := 6) 25 6 9 fi_25_9 fl_X6_101 dX6_order_6 ?_
  refine g_icmp_ge (pc := 9) 77 dX6_order_9 (by decide) (fun q => ?_) (fun q => ?_)
  · have h := h.1 q
    refine g_iload_n (pc := 77) dX6_order_77 rfl 1 rfl ?_
    exact g_iret (pc := 78) rfl dX6_order_78 h
  · have h := h.2 q
    refine g_aload_n (pc := 12) dX6_order_12 rfl 0 rfl ?_
    obtain ⟨Q1, hc, h⟩ := h
    refine g_callVI (pc := 13) (M' := mX6_fault) (n := 3) (As := []) (st := []) dX6_order_13 ml_X6_184 ok_X6_fault rfl (rmOk_M _ _ _) (by decide) rc_25 (Nat.le_of_ble_eq_true rfl) rfl hc (fun r2 τ3 hq => ?_)
    have h := h r2 τ3 hq
    refine g_iconst (pc := 16) (-1 : Int32) dX6_order_16 rfl ?_
    refine g_icmp_ne (pc := 17) 77 dX6_order_17 (by decide) (fun q => ?_) (fun q => ?_)
    · have h := h.1 q
      refine g_iload_n (pc := 77) dX6_order_77 rfl 1 rfl ?_
      exact g_iret (pc := 78) rfl dX6_order_78 h
    · have h := h.2 q
      refine g_aload_n (pc := 20) dX6_order_20 rfl 0 rfl ?_
      refine g_getR (pc := 21) 25 6 8 32 fr_25_8 fl_X6_33 dX6_order_21 ?_
      refine g_iload_n (pc := 24) dX6_order_24 rfl 2 rfl ?_
      refine g_iald (pc := 25) 32 12 ar_32 h.1 dX6_order_25 ?_
      have h := h.2
      refine g_bipush (pc := 26) (97 : Int32) dX6_order_26 rfl ?_
      refine g_isub (pc := 28) dX6_order_28 ?_
      refine g_istore_n (pc := 29) [(3, _), (0, _), (1, _), (2, _)] dX6_order_29 rfl (Nat.le_of_ble_eq_true rfl) rfl ?_
      refine g_aload_n (pc := 30) dX6_order_30 rfl 1 rfl ?_
      obtain ⟨Q4, hc, h⟩ := h
      refine g_callVV (pc := 31) (M' := mX6_triesNow) (n := 3) (As := []) (st := []) dX6_order_31 ml_X6_114 ok_X6_triesNow rfl (rmOk_M _ _ _) (by decide) rc_25 (Nat.le_of_ble_eq_true rfl) rfl hc (fun τ6 hq => ?_)
      have h := h τ6 hq
      refine g_aload_n (pc := 34) dX6_order_34 rfl 1 rfl ?_
      refine g_getR (pc := 35) 25 6 6 30 fr_25_6 fl_X6_26 dX6_order_35 ?_
      refine g_iload_n (pc := 38) dX6_order_38 rfl 0 rfl ?_
      refine g_zald (pc := 39) 30 5 ar_30 h.1 dX6_order_39 ?_
      have h := h.2
      refine g_if_eq (pc := 40) 71 dX6_order_40 (by decide) (fun q => ?_) (fun q => ?_)
      · have h := h.1 q
        refine g_iinc (pc := 71) (1 : Int32) [(2, _), (3, _), (0, _), (1, _)] dX6_order_71 3 rfl rfl (Nat.le_of_ble_eq_true rfl) rfl ?_
        refine g_goto (pc := 74) 4 dX6_order_74 (by decide) ?_
        refine g_pm [2, 3, 0] rfl ?_
        exact h
      · have h := h.2 q
        refine g_aload_n (pc := 43) dX6_order_43 rfl 1 rfl ?_
        refine g_iload_n (pc := 44) dX6_order_44 rfl 0 rfl ?_
        obtain ⟨Q7, hc, h⟩ := h
        refine g_callVI (pc := 45) (M' := mX6_stepped) (n := 3) (As := [.int ((τ3.1 32 x2.toNatClampNeg) - (97 : Int32))]) (st := []) dX6_order_45 ml_X6_175 ok_X6_stepped rfl (rmOk_M _ _ _) (by decide) rc_25 (Nat.le_of_ble_eq_true rfl) rfl hc (fun r8 τ9 hq => ?_)
        have h := h r8 τ9 hq
        refine g_aload_n (pc := 48) dX6_order_48 rfl 1 rfl ?_
        refine g_getR (pc := 49) 25 6 7 31 fr_25_7 fl_X6_30 dX6_order_49 ?_
        refine g_iload_n (pc := 52) dX6_order_52 rfl 0 rfl ?_
        refine g_iald (pc := 53) 31 5 ar_31 h.1 dX6_order_53 ?_
        have h := h.2
        refine g_icmp_eq (pc := 54) 71 dX6_order_54 (by decide) (fun q => ?_) (fun q => ?_)
        · have h := h.1 q
          refine g_iinc (pc := 71) (1 : Int32) [(2, _), (3, _), (0, _), (1, _)] dX6_order_71 3 rfl rfl (Nat.le_of_ble_eq_true rfl) rfl ?_
          refine g_goto (pc := 74) 4 dX6_order_74 (by decide) ?_
          refine g_pm [2, 3, 0] rfl ?_
          exact h
        · have h := h.2 q
          refine g_aload_n (pc := 57) dX6_order_57 rfl 1 rfl ?_
          refine g_getR (pc := 58) 25 6 7 31 fr_25_7 fl_X6_30 dX6_order_58 ?_
          refine g_iload_n (pc := 61) dX6_order_61 rfl 0 rfl ?_
          refine g_aload_n (pc := 62) dX6_order_62 rfl 1 rfl ?_
          refine g_iload_n (pc := 63) dX6_order_63 rfl 0 rfl ?_
          obtain ⟨Q10, hc, h⟩ := h
          refine g_callVI (pc := 64) (M' := mX6_stepped) (n := 3) (As := [.int ((τ3.1 32 x2.toNatClampNeg) - (97 : Int32))]) (st := [.int ((τ3.1 32 x2.toNatClampNeg) - (97 : Int32)), rf Γ 31]) dX6_order_64 ml_X6_175 ok_X6_stepped rfl (rmOk_M _ _ _) (by decide) rc_25 (Nat.le_of_ble_eq_true rfl) rfl hc (fun r11 τ12 hq => ?_)
          have h := h r11 τ12 hq
          refine g_iast (pc := 67) 31 5 ar_31 h.1 dX6_order_67 ?_
          have h := h.2
          refine g_iinc (pc := 68) (1 : Int32) [(1, _), (3, _), (0, _), (2, _)] dX6_order_68 2 rfl rfl (Nat.le_of_ble_eq_true rfl) rfl ?_
          refine g_iinc (pc := 71) (1 : Int32) [(2, _), (1, _), (3, _), (0, _)] dX6_order_71 3 rfl rfl (Nat.le_of_ble_eq_true rfl) rfl ?_
          refine g_goto (pc := 74) 4 dX6_order_74 (by decide) ?_
          refine g_pm [3, 1, 0] rfl ?_
          exact h
set_option maxHeartbeats 4000000 in
set_option maxRecDepth 100000 in
theorem ct_X6_stillNow {Γ : GT} {Q : Int32 → St → Prop} (σ : St) 
    (h : ∃ Q1 : St → Prop, CtV Γ mX6_triesNow 0 [rf Γ 25] σ Q1 ∧ ∀ (τ3 : St), Q1 τ3 → (G Γ mX6_stillNow (NI Γ 4 Q) 6 [(0, rf Γ 25), (1, .int (0 : Int32))] [] τ3)) :
    CtI Γ mX6_stillNow 4 [rf Γ 25] σ Q := by
  refine ct_of (by decide +kernel) (Nat.le_of_ble_eq_true rfl) ?_
  show G Γ mX6_stillNow (NI Γ 4 Q) 0 [(0, rf Γ 25)] [] σ
  refine g_aload_n (pc := 0) dX6_stillNow_0 rfl 0 rfl ?_
  obtain ⟨Q1, hc, h⟩ := h
  refine g_callVV (pc := 1) (M' := mX6_triesNow) (n := 4) (As := []) (st := []) dX6_stillNow_1 ml_X6_114 ok_X6_triesNow rfl (rmOk_M _ _ _) (by decide) rc_25 (Nat.le_of_ble_eq_true rfl) rfl hc (fun τ3 hq => ?_)
  have h := h τ3 hq
  refine g_iconst (pc := 4) (0 : Int32) dX6_stillNow_4 rfl ?_
  refine g_istore_n (pc := 5) [(1, _), (0, _)] dX6_stillNow_5 rfl (Nat.le_of_ble_eq_true rfl) rfl ?_
  refine g_pm [1, 0] rfl ?_
  exact h
set_option maxHeartbeats 4000000 in
set_option maxRecDepth 100000 in
theorem t_X6_stillNow_6 {Γ : GT} {Q : Int32 → St → Prop} (σ : St) (x1 : Int32)
    (h : (((200 : Int32) ≤ x1) → ((((200 : Int32) ≤ x1) → (G Γ mX6_stillNow (NI Γ 4 Q) 37 [(0, rf Γ 25), (2, .int (0 : Int32))] [] σ)) ∧ ((¬ (200 : Int32) ≤ x1) → (Q x1 σ)))) ∧ ((¬ (200 : Int32) ≤ x1) → (∃ Q4 : Int32 → St → Prop, CtI Γ mX6_turns 3 [rf Γ 25] σ Q4 ∧ ∀ (r5 : Int32) (τ6 : St), Q4 r5 τ6 → (((r5 ≤ 0) → ((((200 : Int32) ≤ x1) → (G Γ mX6_stillNow (NI Γ 4 Q) 37 [(0, rf Γ 25), (2, .int (0 : Int32))] [] τ6)) ∧ ((¬ (200 : Int32) ≤ x1) → (Q x1 τ6)))) ∧ ((¬ r5 ≤ 0) → (G Γ mX6_stillNow (NI Γ 4 Q) 6 [(0, rf Γ 25), (1, .int (x1 + (1 : Int32)))] [] τ6)))))) :
    G Γ mX6_stillNow (NI Γ 4 Q) 6 [(0, rf Γ 25), (1, .int x1)] [] σ := by
  refine g_iload_n (pc := 6) dX6_stillNow_6 rfl 1 rfl ?_
  refine g_sipush (pc := 7) (200 : Int32) dX6_stillNow_7 rfl ?_
  refine g_icmp_ge (pc := 10) 26 dX6_stillNow_10 (by decide) (fun q => ?_) (fun q => ?_)
  · have h := h.1 q
    refine g_iload_n (pc := 26) dX6_stillNow_26 rfl 1 rfl ?_
    refine g_sipush (pc := 27) (200 : Int32) dX6_stillNow_27 rfl ?_
    refine g_icmp_ge (pc := 30) 35 dX6_stillNow_30 (by decide) (fun q => ?_) (fun q => ?_)
    · have h := h.1 q
      refine g_iconst (pc := 35) (0 : Int32) dX6_stillNow_35 rfl ?_
      refine g_istore_n (pc := 36) [(2, _), (0, _), (1, _)] dX6_stillNow_36 rfl (Nat.le_of_ble_eq_true rfl) rfl ?_
      refine g_pm [1, 0] rfl ?_
      exact h
    · have h := h.2 q
      refine g_iload_n (pc := 33) dX6_stillNow_33 rfl 1 rfl ?_
      exact g_iret (pc := 34) rfl dX6_stillNow_34 h
  · have h := h.2 q
    refine g_aload_n (pc := 13) dX6_stillNow_13 rfl 0 rfl ?_
    obtain ⟨Q4, hc, h⟩ := h
    refine g_callVI (pc := 14) (M' := mX6_turns) (n := 4) (As := []) (st := []) dX6_stillNow_14 ml_X6_178 ok_X6_turns rfl (rmOk_M _ _ _) (by decide) rc_25 (Nat.le_of_ble_eq_true rfl) rfl hc (fun r5 τ6 hq => ?_)
    have h := h r5 τ6 hq
    refine g_if_le (pc := 17) 26 dX6_stillNow_17 (by decide) (fun q => ?_) (fun q => ?_)
    · have h := h.1 q
      refine g_iload_n (pc := 26) dX6_stillNow_26 rfl 1 rfl ?_
      refine g_sipush (pc := 27) (200 : Int32) dX6_stillNow_27 rfl ?_
      refine g_icmp_ge (pc := 30) 35 dX6_stillNow_30 (by decide) (fun q => ?_) (fun q => ?_)
      · have h := h.1 q
        refine g_iconst (pc := 35) (0 : Int32) dX6_stillNow_35 rfl ?_
        refine g_istore_n (pc := 36) [(2, _), (0, _), (1, _)] dX6_stillNow_36 rfl (Nat.le_of_ble_eq_true rfl) rfl ?_
        refine g_pm [1, 0] rfl ?_
        exact h
      · have h := h.2 q
        refine g_iload_n (pc := 33) dX6_stillNow_33 rfl 1 rfl ?_
        exact g_iret (pc := 34) rfl dX6_stillNow_34 h
    · have h := h.2 q
      refine g_iinc (pc := 20) (1 : Int32) [(1, _), (0, _)] dX6_stillNow_20 1 rfl rfl (Nat.le_of_ble_eq_true rfl) rfl ?_
      refine g_goto (pc := 23) 6 dX6_stillNow_23 (by decide) ?_
      refine g_pm [1, 0] rfl ?_
      exact h
set_option maxHeartbeats 4000000 in
set_option maxRecDepth 100000 in
theorem t_X6_stillNow_37 {Γ : GT} {Q : Int32 → St → Prop} (σ : St) (x2 : Int32)
    (h : (((σ.1 25 0) ≤ x2) → (∃ Q7 : Int32 → St → Prop, CtI Γ mX6_turns 3 [rf Γ 25] σ Q7 ∧ ∀ (r8 : Int32) (τ9 : St), Q7 r8 τ9 → (G Γ mX6_stillNow (NI Γ 4 Q) 70 [(0, rf Γ 25), (2, .int r8), (3, .int (0 : Int32))] [] τ9))) ∧ ((¬ (σ.1 25 0) ≤ x2) → (vp_in x2 5 ∧ (vp_in x2 5 ∧ (G Γ mX6_stillNow (NI Γ 4 Q) 37 [(0, rf Γ 25), (2, .int (x2 + (1 : Int32)))] [] (sI σ 38 x2.toNatClampNeg (σ.1 36 x2.toNatClampNeg))))))) :
    G Γ mX6_stillNow (NI Γ 4 Q) 37 [(0, rf Γ 25), (2, .int x2)] [] σ := by
  refine g_iload_n (pc := 37) dX6_stillNow_37 rfl 1 rfl ?_
  refine g_aload_n (pc := 38) dX6_stillNow_38 rfl 0 rfl ?_
  refine g_getI (pc := 39) 25 6 0 fi_25_0 fl_X6_7 dX6_stillNow_39 ?_
  refine g_icmp_ge (pc := 42) 63 dX6_stillNow_42 (by decide) (fun q => ?_) (fun q => ?_)
  · have h := h.1 q
    refine g_aload_n (pc := 63) dX6_stillNow_63 rfl 0 rfl ?_
    obtain ⟨Q7, hc, h⟩ := h
    refine g_callVI (pc := 64) (M' := mX6_turns) (n := 4) (As := []) (st := []) dX6_stillNow_64 ml_X6_178 ok_X6_turns rfl (rmOk_M _ _ _) (by decide) rc_25 (Nat.le_of_ble_eq_true rfl) rfl hc (fun r8 τ9 hq => ?_)
    have h := h r8 τ9 hq
    refine g_istore_n (pc := 67) [(2, _), (0, _)] dX6_stillNow_67 rfl (Nat.le_of_ble_eq_true rfl) rfl ?_
    refine g_iconst (pc := 68) (0 : Int32) dX6_stillNow_68 rfl ?_
    refine g_istore_n (pc := 69) [(3, _), (2, _), (0, _)] dX6_stillNow_69 rfl (Nat.le_of_ble_eq_true rfl) rfl ?_
    refine g_pm [2, 1, 0] rfl ?_
    exact h
  · have h := h.2 q
    refine g_aload_n (pc := 45) dX6_stillNow_45 rfl 0 rfl ?_
    refine g_getR (pc := 46) 25 6 17 38 fr_25_17 fl_X6_55 dX6_stillNow_46 ?_
    refine g_iload_n (pc := 49) dX6_stillNow_49 rfl 1 rfl ?_
    refine g_aload_n (pc := 50) dX6_stillNow_50 rfl 0 rfl ?_
    refine g_getR (pc := 51) 25 6 15 36 fr_25_15 fl_X6_49 dX6_stillNow_51 ?_
    refine g_iload_n (pc := 54) dX6_stillNow_54 rfl 1 rfl ?_
    refine g_iald (pc := 55) 36 5 ar_36 h.1 dX6_stillNow_55 ?_
    have h := h.2
    refine g_iast (pc := 56) 38 5 ar_38 h.1 dX6_stillNow_56 ?_
    have h := h.2
    refine g_iinc (pc := 57) (1 : Int32) [(2, _), (0, _)] dX6_stillNow_57 1 rfl rfl (Nat.le_of_ble_eq_true rfl) rfl ?_
    refine g_goto (pc := 60) 37 dX6_stillNow_60 (by decide) ?_
    refine g_pm [1, 0] rfl ?_
    exact h
set_option maxHeartbeats 4000000 in
set_option maxRecDepth 100000 in
theorem t_X6_stillNow_70 {Γ : GT} {Q : Int32 → St → Prop} (σ : St) (x2 : Int32) (x3 : Int32)
    (h : (((σ.1 25 0) ≤ x3) → (((x2 ≤ 0) → (Q (200 : Int32) σ)) ∧ ((¬ x2 ≤ 0) → (Q (-1 : Int32) σ)))) ∧ ((¬ (σ.1 25 0) ≤ x3) → (vp_in x3 5 ∧ (vp_in x3 5 ∧ (G Γ mX6_stillNow (NI Γ 4 Q) 70 [(0, rf Γ 25), (2, .int x2), (3, .int (x3 + (1 : Int32)))] [] (sI σ 36 x3.toNatClampNeg (σ.1 38 x3.toNatClampNeg))))))) :
    G Γ mX6_stillNow (NI Γ 4 Q) 70 [(0, rf Γ 25), (2, .int x2), (3, .int x3)] [] σ := by
  refine g_iload_n (pc := 70) dX6_stillNow_70 rfl 2 rfl ?_
  refine g_aload_n (pc := 71) dX6_stillNow_71 rfl 0 rfl ?_
  refine g_getI (pc := 72) 25 6 0 fi_25_0 fl_X6_7 dX6_stillNow_72 ?_
  refine g_icmp_ge (pc := 75) 96 dX6_stillNow_75 (by decide) (fun q => ?_) (fun q => ?_)
  · have h := h.1 q
    refine g_iload_n (pc := 96) dX6_stillNow_96 rfl 1 rfl ?_
    refine g_if_le (pc := 97) 104 dX6_stillNow_97 (by decide) (fun q => ?_) (fun q => ?_)
    · have h := h.1 q
      refine g_sipush (pc := 104) (200 : Int32) dX6_stillNow_104 rfl ?_
      exact g_iret (pc := 107) rfl dX6_stillNow_107 h
    · have h := h.2 q
      refine g_iconst (pc := 100) (-1 : Int32) dX6_stillNow_100 rfl ?_
      refine g_goto (pc := 101) 107 dX6_stillNow_101 (by decide) ?_
      exact g_iret (pc := 107) rfl dX6_stillNow_107 h
  · have h := h.2 q
    refine g_aload_n (pc := 78) dX6_stillNow_78 rfl 0 rfl ?_
    refine g_getR (pc := 79) 25 6 15 36 fr_25_15 fl_X6_49 dX6_stillNow_79 ?_
    refine g_iload_n (pc := 82) dX6_stillNow_82 rfl 2 rfl ?_
    refine g_aload_n (pc := 83) dX6_stillNow_83 rfl 0 rfl ?_
    refine g_getR (pc := 84) 25 6 17 38 fr_25_17 fl_X6_55 dX6_stillNow_84 ?_
    refine g_iload_n (pc := 87) dX6_stillNow_87 rfl 2 rfl ?_
    refine g_iald (pc := 88) 38 5 ar_38 h.1 dX6_stillNow_88 ?_
    have h := h.2
    refine g_iast (pc := 89) 36 5 ar_36 h.1 dX6_stillNow_89 ?_
    have h := h.2
    refine g_iinc (pc := 90) (1 : Int32) [(3, _), (0, _), (2, _)] dX6_stillNow_90 2 rfl rfl (Nat.le_of_ble_eq_true rfl) rfl ?_
    refine g_goto (pc := 93) 70 dX6_stillNow_93 (by decide) ?_
    refine g_pm [1, 2, 0] rfl ?_
    exact h
set_option maxHeartbeats 4000000 in
set_option maxRecDepth 100000 in
theorem ct_X6_still {Γ : GT} {Q : Int32 → St → Prop} (σ : St) 
    (h : ∃ Q1 : Int32 → St → Prop, CtI Γ mX6_stillNow 4 [rf Γ 25] σ Q1 ∧ ∀ (r2 : Int32) (τ3 : St), Q1 r2 τ3 → (Q r2 τ3)) :
    CtI Γ mX6_still 5 [rf Γ 25] σ Q := by
  refine ct_of (by decide +kernel) (Nat.le_of_ble_eq_true rfl) ?_
  show G Γ mX6_still (NI Γ 5 Q) 0 [(0, rf Γ 25)] [] σ
  refine g_aload_n (pc := 0) dX6_still_0 rfl 0 rfl ?_
  obtain ⟨Q1, hc, h⟩ := h
  refine g_callVI (pc := 1) (M' := mX6_stillNow) (n := 5) (As := []) (st := []) dX6_still_1 ml_X6_187 ok_X6_stillNow rfl (rmOk_M _ _ _) (by decide) rc_25 (Nat.le_of_ble_eq_true rfl) rfl hc (fun r2 τ3 hq => ?_)
  have h := h r2 τ3 hq
  exact g_iret (pc := 4) rfl dX6_still_4 h
set_option maxHeartbeats 4000000 in
set_option maxRecDepth 100000 in
theorem ct_X6_restOf {Γ : GT} {Q : Int32 → St → Prop} (σ : St) (x1 : Int32)
    (h : ∃ Q1 : Int32 → St → Prop, CtI Γ mX6_stillNow 4 [rf Γ 25] σ Q1 ∧ ∀ (r2 : Int32) (τ3 : St), Q1 r2 τ3 → (vp_in x1 5 ∧ (Q (τ3.1 36 x1.toNatClampNeg) τ3))) :
    CtI Γ mX6_restOf 5 [rf Γ 25, .int x1] σ Q := by
  refine ct_of (by decide +kernel) (Nat.le_of_ble_eq_true rfl) ?_
  show G Γ mX6_restOf (NI Γ 5 Q) 0 [(0, rf Γ 25), (1, .int x1)] [] σ
  refine g_aload_n (pc := 0) dX6_restOf_0 rfl 0 rfl ?_
  obtain ⟨Q1, hc, h⟩ := h
  refine g_callVI (pc := 1) (M' := mX6_stillNow) (n := 5) (As := []) (st := []) dX6_restOf_1 ml_X6_187 ok_X6_stillNow rfl (rmOk_M _ _ _) (by decide) rc_25 (Nat.le_of_ble_eq_true rfl) rfl hc (fun r2 τ3 hq => ?_)
  have h := h r2 τ3 hq
  refine g_pop (pc := 4) dX6_restOf_4 rfl ?_
  refine g_aload_n (pc := 5) dX6_restOf_5 rfl 0 rfl ?_
  refine g_getR (pc := 6) 25 6 15 36 fr_25_15 fl_X6_49 dX6_restOf_6 ?_
  refine g_iload_n (pc := 9) dX6_restOf_9 rfl 1 rfl ?_
  refine g_iald (pc := 10) 36 5 ar_36 h.1 dX6_restOf_10 ?_
  have h := h.2
  exact g_iret (pc := 11) rfl dX6_restOf_11 h
set_option maxHeartbeats 4000000 in
set_option maxRecDepth 100000 in
theorem ct_X6_rest {Γ : GT} {Q : Int32 → St → Prop} (σ : St) (x1 : Int32)
    (h : ∃ Q1 : Int32 → St → Prop, CtI Γ mX6_isSender 1 [rf Γ 25, .int x1] σ Q1 ∧ ∀ (r2 : Int32) (τ3 : St), Q1 r2 τ3 → (((r2 = 0) → (Q (-2 : Int32) τ3)) ∧ ((¬ r2 = 0) → (∃ Q4 : Int32 → St → Prop, CtI Γ mX6_restOf 5 [rf Γ 25, .int x1] τ3 Q4 ∧ ∀ (r5 : Int32) (τ6 : St), Q4 r5 τ6 → (Q r5 τ6))))) :
    CtI Γ mX6_rest 6 [rf Γ 25, .int x1] σ Q := by
  refine ct_of (by decide +kernel) (Nat.le_of_ble_eq_true rfl) ?_
  show G Γ mX6_rest (NI Γ 6 Q) 0 [(0, rf Γ 25), (1, .int x1)] [] σ
  refine g_aload_n (pc := 0) dX6_rest_0 rfl 0 rfl ?_
  refine g_iload_n (pc := 1) dX6_rest_1 rfl 1 rfl ?_
  obtain ⟨Q1, hc, h⟩ := h
  refine g_callVI (pc := 2) (M' := mX6_isSender) (n := 6) (As := [.int x1]) (st := []) dX6_rest_2 ml_X6_79 ok_X6_isSender rfl (rmOk_M _ _ _) (by decide) rc_25 (Nat.le_of_ble_eq_true rfl) rfl hc (fun r2 τ3 hq => ?_)
  have h := h r2 τ3 hq
  refine g_if_eq (pc := 5) 16 dX6_rest_5 (by decide) (fun q => ?_) (fun q => ?_)
  · have h := h.1 q
    refine g_bipush (pc := 16) (-2 : Int32) dX6_rest_16 rfl ?_
    exact g_iret (pc := 18) rfl dX6_rest_18 h
  · have h := h.2 q
    refine g_aload_n (pc := 8) dX6_rest_8 rfl 0 rfl ?_
    refine g_iload_n (pc := 9) dX6_rest_9 rfl 1 rfl ?_
    obtain ⟨Q4, hc, h⟩ := h
    refine g_callVI (pc := 10) (M' := mX6_restOf) (n := 6) (As := [.int x1]) (st := []) dX6_rest_10 ml_X6_190 ok_X6_restOf rfl (rmOk_M _ _ _) (by decide) rc_25 (Nat.le_of_ble_eq_true rfl) rfl hc (fun r5 τ6 hq => ?_)
    have h := h r5 τ6 hq
    refine g_goto (pc := 13) 18 dX6_rest_13 (by decide) ?_
    exact g_iret (pc := 18) rfl dX6_rest_18 h
set_option maxHeartbeats 4000000 in
set_option maxRecDepth 100000 in
theorem ct_X6_metNow {Γ : GT} {Q : Int32 → St → Prop} (σ : St) 
    (h : G Γ mX6_metNow (NI Γ 2 Q) 4 [(0, rf Γ 25), (1, .int (0 : Int32)), (2, .int (0 : Int32))] [] σ) :
    CtI Γ mX6_metNow 2 [rf Γ 25] σ Q := by
  refine ct_of (by decide +kernel) (Nat.le_of_ble_eq_true rfl) ?_
  show G Γ mX6_metNow (NI Γ 2 Q) 0 [(0, rf Γ 25)] [] σ
  refine g_iconst (pc := 0) (0 : Int32) dX6_metNow_0 rfl ?_
  refine g_istore_n (pc := 1) [(1, _), (0, _)] dX6_metNow_1 rfl (Nat.le_of_ble_eq_true rfl) rfl ?_
  refine g_iconst (pc := 2) (0 : Int32) dX6_metNow_2 rfl ?_
  refine g_istore_n (pc := 3) [(2, _), (1, _), (0, _)] dX6_metNow_3 rfl (Nat.le_of_ble_eq_true rfl) rfl ?_
  refine g_pm [2, 1, 0] rfl ?_
  exact h
set_option maxHeartbeats 4000000 in
set_option maxRecDepth 100000 in
theorem t_X6_metNow_4 {Γ : GT} {Q : Int32 → St → Prop} (σ : St) (x1 : Int32) (x2 : Int32)
    (h : (((σ.1 25 0) ≤ x2) → (Q x1 σ)) ∧ ((¬ (σ.1 25 0) ≤ x2) → (∃ Q1 : Int32 → St → Prop, CtI Γ mX6_hasWish 1 [rf Γ 25, .int x2] σ Q1 ∧ ∀ (r2 : Int32) (τ3 : St), Q1 r2 τ3 → (((r2 = 0) → (G Γ mX6_metNow (NI Γ 2 Q) 4 [(0, rf Γ 25), (1, .int (x1 ||| (0 : Int32))), (2, .int (x2 + (1 : Int32)))] [] τ3)) ∧ ((¬ r2 = 0) → (G Γ mX6_metNow (NI Γ 2 Q) 4 [(0, rf Γ 25), (1, .int (x1 ||| ((1 : Int32) <<< (x2 &&& 31)))), (2, .int (x2 + (1 : Int32)))] [] τ3)))))) :
    G Γ mX6_metNow (NI Γ 2 Q) 4 [(0, rf Γ 25), (1, .int x1), (2, .int x2)] [] σ := by
  refine g_iload_n (pc := 4) dX6_metNow_4 rfl 2 rfl ?_
  refine g_aload_n (pc := 5) dX6_metNow_5 rfl 0 rfl ?_
  refine g_getI (pc := 6) 25 6 0 fi_25_0 fl_X6_7 dX6_metNow_6 ?_
  refine g_icmp_ge (pc := 9) 36 dX6_metNow_9 (by decide) (fun q => ?_) (fun q => ?_)
  · have h := h.1 q
    refine g_iload_n (pc := 36) dX6_metNow_36 rfl 1 rfl ?_
    exact g_iret (pc := 37) rfl dX6_metNow_37 h
  · have h := h.2 q
    refine g_iload_n (pc := 12) dX6_metNow_12 rfl 1 rfl ?_
    refine g_aload_n (pc := 13) dX6_metNow_13 rfl 0 rfl ?_
    refine g_iload_n (pc := 14) dX6_metNow_14 rfl 2 rfl ?_
    obtain ⟨Q1, hc, h⟩ := h
    refine g_callVI (pc := 15) (M' := mX6_hasWish) (n := 2) (As := [.int x2]) (st := [.int x1]) dX6_metNow_15 ml_X6_120 ok_X6_hasWish rfl (rmOk_M _ _ _) (by decide) rc_25 (Nat.le_of_ble_eq_true rfl) rfl hc (fun r2 τ3 hq => ?_)
    have h := h r2 τ3 hq
    refine g_if_eq (pc := 18) 27 dX6_metNow_18 (by decide) (fun q => ?_) (fun q => ?_)
    · have h := h.1 q
      refine g_iconst (pc := 27) (0 : Int32) dX6_metNow_27 rfl ?_
      refine g_ior (pc := 28) dX6_metNow_28 ?_
      refine g_istore_n (pc := 29) [(1, _), (0, _), (2, _)] dX6_metNow_29 rfl (Nat.le_of_ble_eq_true rfl) rfl ?_
      refine g_iinc (pc := 30) (1 : Int32) [(2, _), (1, _), (0, _)] dX6_metNow_30 2 rfl rfl (Nat.le_of_ble_eq_true rfl) rfl ?_
      refine g_goto (pc := 33) 4 dX6_metNow_33 (by decide) ?_
      refine g_pm [2, 1, 0] rfl ?_
      exact h
    · have h := h.2 q
      refine g_iconst (pc := 21) (1 : Int32) dX6_metNow_21 rfl ?_
      refine g_iload_n (pc := 22) dX6_metNow_22 rfl 2 rfl ?_
      refine g_ishl (pc := 23) dX6_metNow_23 ?_
      refine g_goto (pc := 24) 28 dX6_metNow_24 (by decide) ?_
      refine g_ior (pc := 28) dX6_metNow_28 ?_
      refine g_istore_n (pc := 29) [(1, _), (0, _), (2, _)] dX6_metNow_29 rfl (Nat.le_of_ble_eq_true rfl) rfl ?_
      refine g_iinc (pc := 30) (1 : Int32) [(2, _), (1, _), (0, _)] dX6_metNow_30 2 rfl rfl (Nat.le_of_ble_eq_true rfl) rfl ?_
      refine g_goto (pc := 33) 4 dX6_metNow_33 (by decide) ?_
      refine g_pm [2, 1, 0] rfl ?_
      exact h
set_option maxHeartbeats 4000000 in
set_option maxRecDepth 100000 in
theorem ct_X6_met {Γ : GT} {Q : Int32 → St → Prop} (σ : St) 
    (h : ∃ Q1 : Int32 → St → Prop, CtI Γ mX6_metNow 2 [rf Γ 25] σ Q1 ∧ ∀ (r2 : Int32) (τ3 : St), Q1 r2 τ3 → (Q r2 τ3)) :
    CtI Γ mX6_met 3 [rf Γ 25] σ Q := by
  refine ct_of (by decide +kernel) (Nat.le_of_ble_eq_true rfl) ?_
  show G Γ mX6_met (NI Γ 3 Q) 0 [(0, rf Γ 25)] [] σ
  refine g_aload_n (pc := 0) dX6_met_0 rfl 0 rfl ?_
  obtain ⟨Q1, hc, h⟩ := h
  refine g_callVI (pc := 1) (M' := mX6_metNow) (n := 3) (As := []) (st := []) dX6_met_1 ml_X6_193 ok_X6_metNow rfl (rmOk_M _ _ _) (by decide) rc_25 (Nat.le_of_ble_eq_true rfl) rfl hc (fun r2 τ3 hq => ?_)
  have h := h r2 τ3 hq
  exact g_iret (pc := 4) rfl dX6_met_4 h
set_option maxHeartbeats 4000000 in
set_option maxRecDepth 100000 in
theorem ct_X6_meets {Γ : GT} {Q : Int32 → St → Prop} (σ : St) (x1 : Int32)
    (h : Q ((-10 : Int32) - x1) (sI σ 25 23 x1)) :
    CtI Γ mX6_meets 0 [rf Γ 25, .int x1] σ Q := by
  refine ct_of (by decide +kernel) (Nat.le_of_ble_eq_true rfl) ?_
  show G Γ mX6_meets (NI Γ 0 Q) 0 [(0, rf Γ 25), (1, .int x1)] [] σ
  refine g_aload_n (pc := 0) dX6_meets_0 rfl 0 rfl ?_
  refine g_iload_n (pc := 1) dX6_meets_1 rfl 1 rfl ?_
  refine g_put (pc := 2) 25 6 23 fpp_25_23 fp_X6_196 dX6_meets_2 ?_
  refine g_bipush (pc := 5) (-10 : Int32) dX6_meets_5 rfl ?_
  refine g_iload_n (pc := 7) dX6_meets_7 rfl 1 rfl ?_
  refine g_isub (pc := 8) dX6_meets_8 ?_
  exact g_iret (pc := 9) rfl dX6_meets_9 h
set_option maxHeartbeats 4000000 in
set_option maxRecDepth 100000 in
theorem ct_X6_isSheet {Γ : GT} {Q : Int32 → St → Prop} (σ : St) (x0 : Int32)
    (h : ∃ Q1 : Int32 → St → Prop, CtI Γ mX6_in 0 [.int x0, .int (0 : Int32), .int (3 : Int32)] σ Q1 ∧ ∀ (r2 : Int32) (τ3 : St), Q1 r2 τ3 → ((r2 = 0 ∨ r2 = 1) ∧ Q r2 τ3)) :
    CtI Γ mX6_isSheet 1 [.int x0] σ Q := by
  refine ct_of (by decide +kernel) (Nat.le_of_ble_eq_true rfl) ?_
  show G Γ mX6_isSheet (NI Γ 1 Q) 0 [(0, .int x0)] [] σ
  refine g_iload_n (pc := 0) dX6_isSheet_0 rfl 0 rfl ?_
  refine g_iconst (pc := 1) (0 : Int32) dX6_isSheet_1 rfl ?_
  refine g_iconst (pc := 2) (3 : Int32) dX6_isSheet_2 rfl ?_
  obtain ⟨Q1, hc, h⟩ := h
  refine g_callSI (pc := 3) (M' := mX6_in) (n := 1) (As := [.int x0, .int (0 : Int32), .int (3 : Int32)]) (st := []) dX6_isSheet_3 ml_X6_75 ok_X6_in rfl (rmOk_M _ _ _) (by decide) (Nat.le_of_ble_eq_true rfl) rfl hc (fun r2 τ3 hq => ?_)
  have h := h r2 τ3 hq
  exact g_zret (pc := 6) rfl dX6_isSheet_6 h.1 h.2
set_option maxHeartbeats 4000000 in
set_option maxRecDepth 100000 in
theorem ct_X6_sheet {Γ : GT} {Q : Int32 → St → Prop} (σ : St) (x1 : Int32) (x2 : Int32) (x3 : Int32)
    (h : ∃ Q1 : Int32 → St → Prop, CtI Γ mX6_isSheet 1 [.int x1] σ Q1 ∧ ∀ (r2 : Int32) (τ3 : St), Q1 r2 τ3 → (((r2 = 0) → (Q (-2 : Int32) τ3)) ∧ ((¬ r2 = 0) → (∃ Q4 : Int32 → St → Prop, CtI Γ mX6_in 0 [.int x2, .int (0 : Int32), .int (2 : Int32)] τ3 Q4 ∧ ∀ (r5 : Int32) (τ6 : St), Q4 r5 τ6 → (((r5 = 0) → (Q (-2 : Int32) τ6)) ∧ ((¬ r5 = 0) → (((x3 ≤ (60 : Int32)) → (((0 ≤ x3) → (vp_in x1 4 ∧ (vp_in x1 4 ∧ (vp_in x1 4 ∧ (G Γ mX6_sheet (NI Γ 2 Q) 59 [(0, rf Γ 25), (1, .int x1), (3, .int x3), (4, .int (0 : Int32))] [] (sI (sI (sI τ6 39 x1.toNatClampNeg (vp_nar .boolean (1 : Int32))) 40 x1.toNatClampNeg x2) 41 x1.toNatClampNeg x3)))))) ∧ ((¬ 0 ≤ x3) → (∃ Q7 : Int32 → St → Prop, CtI Γ mX6_meets 0 [rf Γ 25, .int (5 : Int32)] τ6 Q7 ∧ ∀ (r8 : Int32) (τ9 : St), Q7 r8 τ9 → (Q r8 τ9))))) ∧ ((¬ x3 ≤ (60 : Int32)) → (Q (-2 : Int32) τ6))))))))) :
    CtI Γ mX6_sheet 2 [rf Γ 25, .int x1, .int x2, .int x3] σ Q := by
  refine ct_of (by decide +kernel) (Nat.le_of_ble_eq_true rfl) ?_
  show G Γ mX6_sheet (NI Γ 2 Q) 0 [(0, rf Γ 25), (1, .int x1), (2, .int x2), (3, .int x3)] [] σ
  refine g_iload_n (pc := 0) dX6_sheet_0 rfl 1 rfl ?_
  obtain ⟨Q1, hc, h⟩ := h
  refine g_callSI (pc := 1) (M' := mX6_isSheet) (n := 2) (As := [.int x1]) (st := []) dX6_sheet_1 ml_X6_104 ok_X6_isSheet rfl (rmOk_M _ _ _) (by decide) (Nat.le_of_ble_eq_true rfl) rfl hc (fun r2 τ3 hq => ?_)
  have h := h r2 τ3 hq
  refine g_if_eq (pc := 4) 22 dX6_sheet_4 (by decide) (fun q => ?_) (fun q => ?_)
  · have h := h.1 q
    refine g_bipush (pc := 22) (-2 : Int32) dX6_sheet_22 rfl ?_
    exact g_iret (pc := 24) rfl dX6_sheet_24 h
  · have h := h.2 q
    refine g_iload_n (pc := 7) dX6_sheet_7 rfl 2 rfl ?_
    refine g_iconst (pc := 8) (0 : Int32) dX6_sheet_8 rfl ?_
    refine g_iconst (pc := 9) (2 : Int32) dX6_sheet_9 rfl ?_
    obtain ⟨Q4, hc, h⟩ := h
    refine g_callSI (pc := 10) (M' := mX6_in) (n := 2) (As := [.int x2, .int (0 : Int32), .int (2 : Int32)]) (st := []) dX6_sheet_10 ml_X6_75 ok_X6_in rfl (rmOk_M _ _ _) (by decide) (Nat.le_of_ble_eq_true rfl) rfl hc (fun r5 τ6 hq => ?_)
    have h := h r5 τ6 hq
    refine g_if_eq (pc := 13) 22 dX6_sheet_13 (by decide) (fun q => ?_) (fun q => ?_)
    · have h := h.1 q
      refine g_bipush (pc := 22) (-2 : Int32) dX6_sheet_22 rfl ?_
      exact g_iret (pc := 24) rfl dX6_sheet_24 h
    · have h := h.2 q
      refine g_iload_n (pc := 16) dX6_sheet_16 rfl 3 rfl ?_
      refine g_bipush (pc := 17) (60 : Int32) dX6_sheet_17 rfl ?_
      refine g_icmp_le (pc := 19) 25 dX6_sheet_19 (by decide) (fun q => ?_) (fun q => ?_)
      · have h := h.1 q
        refine g_iload_n (pc := 25) dX6_sheet_25 rfl 3 rfl ?_
        refine g_if_ge (pc := 26) 35 dX6_sheet_26 (by decide) (fun q => ?_) (fun q => ?_)
        · have h := h.1 q
          refine g_aload_n (pc := 35) dX6_sheet_35 rfl 0 rfl ?_
          refine g_getR (pc := 36) 25 6 18 39 fr_25_18 fl_X6_58 dX6_sheet_36 ?_
          refine g_iload_n (pc := 39) dX6_sheet_39 rfl 1 rfl ?_
          refine g_iconst (pc := 40) (1 : Int32) dX6_sheet_40 rfl ?_
          refine g_zast (pc := 41) 39 4 ar_39 h.1 dX6_sheet_41 ?_
          have h := h.2
          refine g_aload_n (pc := 42) dX6_sheet_42 rfl 0 rfl ?_
          refine g_getR (pc := 43) 25 6 19 40 fr_25_19 fl_X6_61 dX6_sheet_43 ?_
          refine g_iload_n (pc := 46) dX6_sheet_46 rfl 1 rfl ?_
          refine g_iload_n (pc := 47) dX6_sheet_47 rfl 2 rfl ?_
          refine g_iast (pc := 48) 40 4 ar_40 h.1 dX6_sheet_48 ?_
          have h := h.2
          refine g_aload_n (pc := 49) dX6_sheet_49 rfl 0 rfl ?_
          refine g_getR (pc := 50) 25 6 20 41 fr_25_20 fl_X6_64 dX6_sheet_50 ?_
          refine g_iload_n (pc := 53) dX6_sheet_53 rfl 1 rfl ?_
          refine g_iload_n (pc := 54) dX6_sheet_54 rfl 3 rfl ?_
          refine g_iast (pc := 55) 41 4 ar_41 h.1 dX6_sheet_55 ?_
          have h := h.2
          refine g_iconst (pc := 56) (0 : Int32) dX6_sheet_56 rfl ?_
          refine g_istore (pc := 57) [(4, _), (0, _), (1, _), (2, _), (3, _)] dX6_sheet_57 (Nat.le_of_ble_eq_true rfl) rfl ?_
          refine g_pm [1, 2, 4, 0] rfl ?_
          exact h
        · have h := h.2 q
          refine g_aload_n (pc := 29) dX6_sheet_29 rfl 0 rfl ?_
          refine g_iconst (pc := 30) (5 : Int32) dX6_sheet_30 rfl ?_
          obtain ⟨Q7, hc, h⟩ := h
          refine g_callVI (pc := 31) (M' := mX6_meets) (n := 2) (As := [.int (5 : Int32)]) (st := []) dX6_sheet_31 ml_X6_107 ok_X6_meets rfl (rmOk_M _ _ _) (by decide) rc_25 (Nat.le_of_ble_eq_true rfl) rfl hc (fun r8 τ9 hq => ?_)
          have h := h r8 τ9 hq
          exact g_iret (pc := 34) rfl dX6_sheet_34 h
      · have h := h.2 q
        refine g_bipush (pc := 22) (-2 : Int32) dX6_sheet_22 rfl ?_
        exact g_iret (pc := 24) rfl dX6_sheet_24 h
set_option maxHeartbeats 4000000 in
set_option maxRecDepth 100000 in
theorem t_X6_sheet_59 {Γ : GT} {Q : Int32 → St → Prop} (σ : St) (x1 : Int32) (x3 : Int32) (x4 : Int32)
    (h : (((60 : Int32) ≤ x4) → (Q x3 σ)) ∧ ((¬ (60 : Int32) ≤ x4) → (vp_in (((60 : Int32) * x1) + x4) 240 ∧ (G Γ mX6_sheet (NI Γ 2 Q) 59 [(0, rf Γ 25), (1, .int x1), (3, .int x3), (4, .int (x4 + (1 : Int32)))] [] (sI σ 42 (((60 : Int32) * x1) + x4).toNatClampNeg (0 : Int32)))))) :
    G Γ mX6_sheet (NI Γ 2 Q) 59 [(0, rf Γ 25), (1, .int x1), (3, .int x3), (4, .int x4)] [] σ := by
  refine g_iload (pc := 59) dX6_sheet_59 3 rfl ?_
  refine g_bipush (pc := 61) (60 : Int32) dX6_sheet_61 rfl ?_
  refine g_icmp_ge (pc := 63) 85 dX6_sheet_63 (by decide) (fun q => ?_) (fun q => ?_)
  · have h := h.1 q
    refine g_iload_n (pc := 85) dX6_sheet_85 rfl 2 rfl ?_
    exact g_iret (pc := 86) rfl dX6_sheet_86 h
  · have h := h.2 q
    refine g_aload_n (pc := 66) dX6_sheet_66 rfl 0 rfl ?_
    refine g_getR (pc := 67) 25 6 21 42 fr_25_21 fl_X6_67 dX6_sheet_67 ?_
    refine g_bipush (pc := 70) (60 : Int32) dX6_sheet_70 rfl ?_
    refine g_iload_n (pc := 72) dX6_sheet_72 rfl 1 rfl ?_
    refine g_imul (pc := 73) dX6_sheet_73 ?_
    refine g_iload (pc := 74) dX6_sheet_74 3 rfl ?_
    refine g_iadd (pc := 76) dX6_sheet_76 ?_
    refine g_iconst (pc := 77) (0 : Int32) dX6_sheet_77 rfl ?_
    refine g_iast (pc := 78) 42 240 ar_42 h.1 dX6_sheet_78 ?_
    have h := h.2
    refine g_iinc (pc := 79) (1 : Int32) [(4, _), (0, _), (1, _), (3, _)] dX6_sheet_79 3 rfl rfl (Nat.le_of_ble_eq_true rfl) rfl ?_
    refine g_goto (pc := 82) 59 dX6_sheet_82 (by decide) ?_
    refine g_pm [1, 2, 3, 0] rfl ?_
    exact h
set_option maxHeartbeats 4000000 in
set_option maxRecDepth 100000 in
theorem ct_X6_lose {Γ : GT} {Q : Int32 → St → Prop} (σ : St) (x1 : Int32)
    (h : ∃ Q1 : Int32 → St → Prop, CtI Γ mX6_isSheet 1 [.int x1] σ Q1 ∧ ∀ (r2 : Int32) (τ3 : St), Q1 r2 τ3 → (((¬ r2 = 0) → (vp_in x1 4 ∧ (((¬ (τ3.1 39 x1.toNatClampNeg) = 0) → (vp_in x1 4 ∧ (vp_in x1 4 ∧ (Q ((sI τ3 39 x1.toNatClampNeg (vp_nar .boolean (0 : Int32))).1 41 x1.toNatClampNeg) (sI τ3 39 x1.toNatClampNeg (vp_nar .boolean (0 : Int32))))))) ∧ (((τ3.1 39 x1.toNatClampNeg) = 0) → (∃ Q4 : Int32 → St → Prop, CtI Γ mX6_meets 0 [rf Γ 25, .int (1 : Int32)] τ3 Q4 ∧ ∀ (r5 : Int32) (τ6 : St), Q4 r5 τ6 → (Q r5 τ6)))))) ∧ ((r2 = 0) → (Q (-2 : Int32) τ3)))) :
    CtI Γ mX6_lose 2 [rf Γ 25, .int x1] σ Q := by
  refine ct_of (by decide +kernel) (Nat.le_of_ble_eq_true rfl) ?_
  show G Γ mX6_lose (NI Γ 2 Q) 0 [(0, rf Γ 25), (1, .int x1)] [] σ
  refine g_iload_n (pc := 0) dX6_lose_0 rfl 1 rfl ?_
  obtain ⟨Q1, hc, h⟩ := h
  refine g_callSI (pc := 1) (M' := mX6_isSheet) (n := 2) (As := [.int x1]) (st := []) dX6_lose_1 ml_X6_104 ok_X6_isSheet rfl (rmOk_M _ _ _) (by decide) (Nat.le_of_ble_eq_true rfl) rfl hc (fun r2 τ3 hq => ?_)
  have h := h r2 τ3 hq
  refine g_if_ne (pc := 4) 10 dX6_lose_4 (by decide) (fun q => ?_) (fun q => ?_)
  · have h := h.1 q
    refine g_aload_n (pc := 10) dX6_lose_10 rfl 0 rfl ?_
    refine g_getR (pc := 11) 25 6 18 39 fr_25_18 fl_X6_58 dX6_lose_11 ?_
    refine g_iload_n (pc := 14) dX6_lose_14 rfl 1 rfl ?_
    refine g_zald (pc := 15) 39 4 ar_39 h.1 dX6_lose_15 ?_
    have h := h.2
    refine g_if_ne (pc := 16) 25 dX6_lose_16 (by decide) (fun q => ?_) (fun q => ?_)
    · have h := h.1 q
      refine g_aload_n (pc := 25) dX6_lose_25 rfl 0 rfl ?_
      refine g_getR (pc := 26) 25 6 18 39 fr_25_18 fl_X6_58 dX6_lose_26 ?_
      refine g_iload_n (pc := 29) dX6_lose_29 rfl 1 rfl ?_
      refine g_iconst (pc := 30) (0 : Int32) dX6_lose_30 rfl ?_
      refine g_zast (pc := 31) 39 4 ar_39 h.1 dX6_lose_31 ?_
      have h := h.2
      refine g_aload_n (pc := 32) dX6_lose_32 rfl 0 rfl ?_
      refine g_getR (pc := 33) 25 6 20 41 fr_25_20 fl_X6_64 dX6_lose_33 ?_
      refine g_iload_n (pc := 36) dX6_lose_36 rfl 1 rfl ?_
      refine g_iald (pc := 37) 41 4 ar_41 h.1 dX6_lose_37 ?_
      have h := h.2
      exact g_iret (pc := 38) rfl dX6_lose_38 h
    · have h := h.2 q
      refine g_aload_n (pc := 19) dX6_lose_19 rfl 0 rfl ?_
      refine g_iconst (pc := 20) (1 : Int32) dX6_lose_20 rfl ?_
      obtain ⟨Q4, hc, h⟩ := h
      refine g_callVI (pc := 21) (M' := mX6_meets) (n := 2) (As := [.int (1 : Int32)]) (st := []) dX6_lose_21 ml_X6_107 ok_X6_meets rfl (rmOk_M _ _ _) (by decide) rc_25 (Nat.le_of_ble_eq_true rfl) rfl hc (fun r5 τ6 hq => ?_)
      have h := h r5 τ6 hq
      exact g_iret (pc := 24) rfl dX6_lose_24 h
  · have h := h.2 q
    refine g_bipush (pc := 7) (-2 : Int32) dX6_lose_7 rfl ?_
    exact g_iret (pc := 9) rfl dX6_lose_9 h
set_option maxHeartbeats 4000000 in
set_option maxRecDepth 100000 in
theorem ct_X6_lacks {Γ : GT} {Q : Int32 → St → Prop} (σ : St) (x1 : Int32) (x2 : Int32) (x3 : Int32)
    (h : vp_in x1 4 ∧ (((¬ (σ.1 39 x1.toNatClampNeg) = 0) → (vp_in x1 4 ∧ ((((σ.1 40 x1.toNatClampNeg) = x2) → (vp_in x1 4 ∧ (∃ Q1 : Int32 → St → Prop, CtI Γ mX6_in 0 [.int x3, .int (0 : Int32), .int ((σ.1 41 x1.toNatClampNeg) - (1 : Int32))] σ Q1 ∧ ∀ (r2 : Int32) (τ3 : St), Q1 r2 τ3 → (((r2 = 0) → (Q (2 : Int32) τ3)) ∧ ((¬ r2 = 0) → (Q (0 : Int32) τ3)))))) ∧ ((¬ (σ.1 40 x1.toNatClampNeg) = x2) → (Q (3 : Int32) σ))))) ∧ (((σ.1 39 x1.toNatClampNeg) = 0) → (Q (1 : Int32) σ)))) :
    CtI Γ mX6_lacks 1 [rf Γ 25, .int x1, .int x2, .int x3] σ Q := by
  refine ct_of (by decide +kernel) (Nat.le_of_ble_eq_true rfl) ?_
  show G Γ mX6_lacks (NI Γ 1 Q) 0 [(0, rf Γ 25), (1, .int x1), (2, .int x2), (3, .int x3)] [] σ
  refine g_aload_n (pc := 0) dX6_lacks_0 rfl 0 rfl ?_
  refine g_getR (pc := 1) 25 6 18 39 fr_25_18 fl_X6_58 dX6_lacks_1 ?_
  refine g_iload_n (pc := 4) dX6_lacks_4 rfl 1 rfl ?_
  refine g_zald (pc := 5) 39 4 ar_39 h.1 dX6_lacks_5 ?_
  have h := h.2
  refine g_if_ne (pc := 6) 13 dX6_lacks_6 (by decide) (fun q => ?_) (fun q => ?_)
  · have h := h.1 q
    refine g_aload_n (pc := 13) dX6_lacks_13 rfl 0 rfl ?_
    refine g_getR (pc := 14) 25 6 19 40 fr_25_19 fl_X6_61 dX6_lacks_14 ?_
    refine g_iload_n (pc := 17) dX6_lacks_17 rfl 1 rfl ?_
    refine g_iald (pc := 18) 40 4 ar_40 h.1 dX6_lacks_18 ?_
    have h := h.2
    refine g_iload_n (pc := 19) dX6_lacks_19 rfl 2 rfl ?_
    refine g_icmp_eq (pc := 20) 27 dX6_lacks_20 (by decide) (fun q => ?_) (fun q => ?_)
    · have h := h.1 q
      refine g_iload_n (pc := 27) dX6_lacks_27 rfl 3 rfl ?_
      refine g_iconst (pc := 28) (0 : Int32) dX6_lacks_28 rfl ?_
      refine g_aload_n (pc := 29) dX6_lacks_29 rfl 0 rfl ?_
      refine g_getR (pc := 30) 25 6 20 41 fr_25_20 fl_X6_64 dX6_lacks_30 ?_
      refine g_iload_n (pc := 33) dX6_lacks_33 rfl 1 rfl ?_
      refine g_iald (pc := 34) 41 4 ar_41 h.1 dX6_lacks_34 ?_
      have h := h.2
      refine g_iconst (pc := 35) (1 : Int32) dX6_lacks_35 rfl ?_
      refine g_isub (pc := 36) dX6_lacks_36 ?_
      obtain ⟨Q1, hc, h⟩ := h
      refine g_callSI (pc := 37) (M' := mX6_in) (n := 1) (As := [.int x3, .int (0 : Int32), .int ((σ.1 41 x1.toNatClampNeg) - (1 : Int32))]) (st := []) dX6_lacks_37 ml_X6_75 ok_X6_in rfl (rmOk_M _ _ _) (by decide) (Nat.le_of_ble_eq_true rfl) rfl hc (fun r2 τ3 hq => ?_)
      have h := h r2 τ3 hq
      refine g_if_eq (pc := 40) 47 dX6_lacks_40 (by decide) (fun q => ?_) (fun q => ?_)
      · have h := h.1 q
        refine g_iconst (pc := 47) (2 : Int32) dX6_lacks_47 rfl ?_
        exact g_iret (pc := 48) rfl dX6_lacks_48 h
      · have h := h.2 q
        refine g_iconst (pc := 43) (0 : Int32) dX6_lacks_43 rfl ?_
        refine g_goto (pc := 44) 48 dX6_lacks_44 (by decide) ?_
        exact g_iret (pc := 48) rfl dX6_lacks_48 h
    · have h := h.2 q
      refine g_iconst (pc := 23) (3 : Int32) dX6_lacks_23 rfl ?_
      refine g_goto (pc := 24) 48 dX6_lacks_24 (by decide) ?_
      exact g_iret (pc := 48) rfl dX6_lacks_48 h
  · have h := h.2 q
    refine g_iconst (pc := 9) (1 : Int32) dX6_lacks_9 rfl ?_
    refine g_goto (pc := 10) 48 dX6_lacks_10 (by decide) ?_
    exact g_iret (pc := 48) rfl dX6_lacks_48 h
set_option maxHeartbeats 4000000 in
set_option maxRecDepth 100000 in
theorem ct_X6_keep {Γ : GT} {Q : St → Prop} (σ : St) (x1 : Int32) (x2 : Int32) (x3 : Int32)
    (h : vp_in x1 4 ∧ (((¬ (σ.1 40 x1.toNatClampNeg) = 0) → (vp_in x1 4 ∧ (((¬ (σ.1 40 x1.toNatClampNeg) = (1 : Int32)) → (vp_in (((60 : Int32) * x1) + x2) 240 ∧ (Q (sI σ 42 (((60 : Int32) * x1) + x2).toNatClampNeg x3)))) ∧ (((σ.1 40 x1.toNatClampNeg) = (1 : Int32)) → (vp_in (((60 : Int32) * x1) + x2) 240 ∧ (Q (sI σ 42 (((60 : Int32) * x1) + x2).toNatClampNeg x3.toInt16.toInt32))))))) ∧ (((σ.1 40 x1.toNatClampNeg) = 0) → (vp_in (((60 : Int32) * x1) + x2) 240 ∧ (Q (sI σ 42 (((60 : Int32) * x1) + x2).toNatClampNeg x3.toInt8.toInt32)))))) :
    CtV Γ mX6_keep 0 [rf Γ 25, .int x1, .int x2, .int x3] σ Q := by
  refine ct_of (by decide +kernel) (Nat.le_of_ble_eq_true rfl) ?_
  show G Γ mX6_keep (NV Γ 0 Q) 0 [(0, rf Γ 25), (1, .int x1), (2, .int x2), (3, .int x3)] [] σ
  refine g_aload_n (pc := 0) dX6_keep_0 rfl 0 rfl ?_
  refine g_getR (pc := 1) 25 6 21 42 fr_25_21 fl_X6_67 dX6_keep_1 ?_
  refine g_bipush (pc := 4) (60 : Int32) dX6_keep_4 rfl ?_
  refine g_iload_n (pc := 6) dX6_keep_6 rfl 1 rfl ?_
  refine g_imul (pc := 7) dX6_keep_7 ?_
  refine g_iload_n (pc := 8) dX6_keep_8 rfl 2 rfl ?_
  refine g_iadd (pc := 9) dX6_keep_9 ?_
  refine g_aload_n (pc := 10) dX6_keep_10 rfl 0 rfl ?_
  refine g_getR (pc := 11) 25 6 19 40 fr_25_19 fl_X6_61 dX6_keep_11 ?_
  refine g_iload_n (pc := 14) dX6_keep_14 rfl 1 rfl ?_
  refine g_iald (pc := 15) 40 4 ar_40 h.1 dX6_keep_15 ?_
  have h := h.2
  refine g_if_ne (pc := 16) 24 dX6_keep_16 (by decide) (fun q => ?_) (fun q => ?_)
  · have h := h.1 q
    refine g_aload_n (pc := 24) dX6_keep_24 rfl 0 rfl ?_
    refine g_getR (pc := 25) 25 6 19 40 fr_25_19 fl_X6_61 dX6_keep_25 ?_
    refine g_iload_n (pc := 28) dX6_keep_28 rfl 1 rfl ?_
    refine g_iald (pc := 29) 40 4 ar_40 h.1 dX6_keep_29 ?_
    have h := h.2
    refine g_iconst (pc := 30) (1 : Int32) dX6_keep_30 rfl ?_
    refine g_icmp_ne (pc := 31) 39 dX6_keep_31 (by decide) (fun q => ?_) (fun q => ?_)
    · have h := h.1 q
      refine g_iload_n (pc := 39) dX6_keep_39 rfl 3 rfl ?_
      refine g_iast (pc := 40) 42 240 ar_42 h.1 dX6_keep_40 ?_
      have h := h.2
      exact g_vret (pc := 41) rfl dX6_keep_41 h
    · have h := h.2 q
      refine g_iload_n (pc := 34) dX6_keep_34 rfl 3 rfl ?_
      refine g_i2s (pc := 35) dX6_keep_35 ?_
      refine g_goto (pc := 36) 40 dX6_keep_36 (by decide) ?_
      refine g_iast (pc := 40) 42 240 ar_42 h.1 dX6_keep_40 ?_
      have h := h.2
      exact g_vret (pc := 41) rfl dX6_keep_41 h
  · have h := h.2 q
    refine g_iload_n (pc := 19) dX6_keep_19 rfl 3 rfl ?_
    refine g_i2b (pc := 20) dX6_keep_20 ?_
    refine g_goto (pc := 21) 40 dX6_keep_21 (by decide) ?_
    refine g_iast (pc := 40) 42 240 ar_42 h.1 dX6_keep_40 ?_
    have h := h.2
    exact g_vret (pc := 41) rfl dX6_keep_41 h
set_option maxHeartbeats 4000000 in
set_option maxRecDepth 100000 in
theorem ct_X6_put {Γ : GT} {Q : Int32 → St → Prop} (σ : St) (x1 : Int32) (x2 : Int32) (x3 : Int32) (x4 : Int32)
    (h : ∃ Q1 : Int32 → St → Prop, CtI Γ mX6_isSheet 1 [.int x1] σ Q1 ∧ ∀ (r2 : Int32) (τ3 : St), Q1 r2 τ3 → (((r2 = 0) → (Q (-2 : Int32) τ3)) ∧ ((¬ r2 = 0) → (∃ Q4 : Int32 → St → Prop, CtI Γ mX6_in 0 [.int x2, .int (0 : Int32), .int (2 : Int32)] τ3 Q4 ∧ ∀ (r5 : Int32) (τ6 : St), Q4 r5 τ6 → (((¬ r5 = 0) → (∃ Q7 : Int32 → St → Prop, CtI Γ mX6_lacks 1 [rf Γ 25, .int x1, .int x2, .int x3] τ6 Q7 ∧ ∀ (r8 : Int32) (τ9 : St), Q7 r8 τ9 → (((r8 ≤ 0) → (∃ Q10 : St → Prop, CtV Γ mX6_keep 0 [rf Γ 25, .int x1, .int x3, .int x4] τ9 Q10 ∧ ∀ (τ12 : St), Q10 τ12 → (Q (1 : Int32) τ12))) ∧ ((¬ r8 ≤ 0) → (∃ Q13 : Int32 → St → Prop, CtI Γ mX6_meets 0 [rf Γ 25, .int r8] τ9 Q13 ∧ ∀ (r14 : Int32) (τ15 : St), Q13 r14 τ15 → (Q r14 τ15)))))) ∧ ((r5 = 0) → (Q (-2 : Int32) τ6))))))) :
    CtI Γ mX6_put 2 [rf Γ 25, .int x1, .int x2, .int x3, .int x4] σ Q := by
  refine ct_of (by decide +kernel) (Nat.le_of_ble_eq_true rfl) ?_
  show G Γ mX6_put (NI Γ 2 Q) 0 [(0, rf Γ 25), (1, .int x1), (2, .int x2), (3, .int x3), (4, .int x4)] [] σ
  refine g_iload_n (pc := 0) dX6_put_0 rfl 1 rfl ?_
  obtain ⟨Q1, hc, h⟩ := h
  refine g_callSI (pc := 1) (M' := mX6_isSheet) (n := 2) (As := [.int x1]) (st := []) dX6_put_1 ml_X6_104 ok_X6_isSheet rfl (rmOk_M _ _ _) (by decide) (Nat.le_of_ble_eq_true rfl) rfl hc (fun r2 τ3 hq => ?_)
  have h := h r2 τ3 hq
  refine g_if_eq (pc := 4) 16 dX6_put_4 (by decide) (fun q => ?_) (fun q => ?_)
  · have h := h.1 q
    refine g_bipush (pc := 16) (-2 : Int32) dX6_put_16 rfl ?_
    exact g_iret (pc := 18) rfl dX6_put_18 h
  · have h := h.2 q
    refine g_iload_n (pc := 7) dX6_put_7 rfl 2 rfl ?_
    refine g_iconst (pc := 8) (0 : Int32) dX6_put_8 rfl ?_
    refine g_iconst (pc := 9) (2 : Int32) dX6_put_9 rfl ?_
    obtain ⟨Q4, hc, h⟩ := h
    refine g_callSI (pc := 10) (M' := mX6_in) (n := 2) (As := [.int x2, .int (0 : Int32), .int (2 : Int32)]) (st := []) dX6_put_10 ml_X6_75 ok_X6_in rfl (rmOk_M _ _ _) (by decide) (Nat.le_of_ble_eq_true rfl) rfl hc (fun r5 τ6 hq => ?_)
    have h := h r5 τ6 hq
    refine g_if_ne (pc := 13) 19 dX6_put_13 (by decide) (fun q => ?_) (fun q => ?_)
    · have h := h.1 q
      refine g_aload_n (pc := 19) dX6_put_19 rfl 0 rfl ?_
      refine g_iload_n (pc := 20) dX6_put_20 rfl 1 rfl ?_
      refine g_iload_n (pc := 21) dX6_put_21 rfl 2 rfl ?_
      refine g_iload_n (pc := 22) dX6_put_22 rfl 3 rfl ?_
      obtain ⟨Q7, hc, h⟩ := h
      refine g_callVI (pc := 23) (M' := mX6_lacks) (n := 2) (As := [.int x1, .int x2, .int x3]) (st := []) dX6_put_23 ml_X6_199 ok_X6_lacks rfl (rmOk_M _ _ _) (by decide) rc_25 (Nat.le_of_ble_eq_true rfl) rfl hc (fun r8 τ9 hq => ?_)
      have h := h r8 τ9 hq
      refine g_istore (pc := 26) [(5, _), (0, _), (1, _), (2, _), (3, _), (4, _)] dX6_put_26 (Nat.le_of_ble_eq_true rfl) rfl ?_
      refine g_iload (pc := 28) dX6_put_28 0 rfl ?_
      refine g_if_le (pc := 30) 40 dX6_put_30 (by decide) (fun q => ?_) (fun q => ?_)
      · have h := h.1 q
        refine g_aload_n (pc := 40) dX6_put_40 rfl 1 rfl ?_
        refine g_iload_n (pc := 41) dX6_put_41 rfl 2 rfl ?_
        refine g_iload_n (pc := 42) dX6_put_42 rfl 4 rfl ?_
        refine g_iload (pc := 43) dX6_put_43 5 rfl ?_
        obtain ⟨Q10, hc, h⟩ := h
        refine g_callVV (pc := 45) (M' := mX6_keep) (n := 2) (As := [.int x1, .int x3, .int x4]) (st := []) dX6_put_45 ml_X6_203 ok_X6_keep rfl (rmOk_M _ _ _) (by decide) rc_25 (Nat.le_of_ble_eq_true rfl) rfl hc (fun τ12 hq => ?_)
        have h := h τ12 hq
        refine g_iconst (pc := 48) (1 : Int32) dX6_put_48 rfl ?_
        exact g_iret (pc := 49) rfl dX6_put_49 h
      · have h := h.2 q
        refine g_aload_n (pc := 33) dX6_put_33 rfl 1 rfl ?_
        refine g_iload (pc := 34) dX6_put_34 0 rfl ?_
        obtain ⟨Q13, hc, h⟩ := h
        refine g_callVI (pc := 36) (M' := mX6_meets) (n := 2) (As := [.int r8]) (st := []) dX6_put_36 ml_X6_107 ok_X6_meets rfl (rmOk_M _ _ _) (by decide) rc_25 (Nat.le_of_ble_eq_true rfl) rfl hc (fun r14 τ15 hq => ?_)
        have h := h r14 τ15 hq
        exact g_iret (pc := 39) rfl dX6_put_39 h
    · have h := h.2 q
      refine g_bipush (pc := 16) (-2 : Int32) dX6_put_16 rfl ?_
      exact g_iret (pc := 18) rfl dX6_put_18 h
set_option maxHeartbeats 4000000 in
set_option maxRecDepth 100000 in
theorem ct_X6_get {Γ : GT} {Q : Int32 → St → Prop} (σ : St) (x1 : Int32) (x2 : Int32) (x3 : Int32)
    (h : ∃ Q1 : Int32 → St → Prop, CtI Γ mX6_isSheet 1 [.int x1] σ Q1 ∧ ∀ (r2 : Int32) (τ3 : St), Q1 r2 τ3 → (((r2 = 0) → (Q (-2147483648 : Int32) τ3)) ∧ ((¬ r2 = 0) → (∃ Q4 : Int32 → St → Prop, CtI Γ mX6_in 0 [.int x2, .int (0 : Int32), .int (2 : Int32)] τ3 Q4 ∧ ∀ (r5 : Int32) (τ6 : St), Q4 r5 τ6 → (((¬ r5 = 0) → (∃ Q7 : Int32 → St → Prop, CtI Γ mX6_lacks 1 [rf Γ 25, .int x1, .int x2, .int x3] τ6 Q7 ∧ ∀ (r8 : Int32) (τ9 : St), Q7 r8 τ9 → (((r8 ≤ 0) → (vp_in (((60 : Int32) * x1) + x3) 240 ∧ (Q (τ9.1 42 (((60 : Int32) * x1) + x3).toNatClampNeg) τ9))) ∧ ((¬ r8 ≤ 0) → (Q (-2147483648 : Int32) (sI τ9 25 23 r8)))))) ∧ ((r5 = 0) → (Q (-2147483648 : Int32) τ6))))))) :
    CtI Γ mX6_get 2 [rf Γ 25, .int x1, .int x2, .int x3] σ Q := by
  refine ct_of (by decide +kernel) (Nat.le_of_ble_eq_true rfl) ?_
  show G Γ mX6_get (NI Γ 2 Q) 0 [(0, rf Γ 25), (1, .int x1), (2, .int x2), (3, .int x3)] [] σ
  refine g_iload_n (pc := 0) dX6_get_0 rfl 1 rfl ?_
  obtain ⟨Q1, hc, h⟩ := h
  refine g_callSI (pc := 1) (M' := mX6_isSheet) (n := 2) (As := [.int x1]) (st := []) dX6_get_1 ml_X6_104 ok_X6_isSheet rfl (rmOk_M _ _ _) (by decide) (Nat.le_of_ble_eq_true rfl) rfl hc (fun r2 τ3 hq => ?_)
  have h := h r2 τ3 hq
  refine g_if_eq (pc := 4) 16 dX6_get_4 (by decide) (fun q => ?_) (fun q => ?_)
  · have h := h.1 q
    refine g_ldc (pc := 16) (-2147483648 : Int32) kc_X6_207 dX6_get_16 ?_
    exact g_iret (pc := 18) rfl dX6_get_18 h
  · have h := h.2 q
    refine g_iload_n (pc := 7) dX6_get_7 rfl 2 rfl ?_
    refine g_iconst (pc := 8) (0 : Int32) dX6_get_8 rfl ?_
    refine g_iconst (pc := 9) (2 : Int32) dX6_get_9 rfl ?_
    obtain ⟨Q4, hc, h⟩ := h
    refine g_callSI (pc := 10) (M' := mX6_in) (n := 2) (As := [.int x2, .int (0 : Int32), .int (2 : Int32)]) (st := []) dX6_get_10 ml_X6_75 ok_X6_in rfl (rmOk_M _ _ _) (by decide) (Nat.le_of_ble_eq_true rfl) rfl hc (fun r5 τ6 hq => ?_)
    have h := h r5 τ6 hq
    refine g_if_ne (pc := 13) 19 dX6_get_13 (by decide) (fun q => ?_) (fun q => ?_)
    · have h := h.1 q
      refine g_aload_n (pc := 19) dX6_get_19 rfl 0 rfl ?_
      refine g_iload_n (pc := 20) dX6_get_20 rfl 1 rfl ?_
      refine g_iload_n (pc := 21) dX6_get_21 rfl 2 rfl ?_
      refine g_iload_n (pc := 22) dX6_get_22 rfl 3 rfl ?_
      obtain ⟨Q7, hc, h⟩ := h
      refine g_callVI (pc := 23) (M' := mX6_lacks) (n := 2) (As := [.int x1, .int x2, .int x3]) (st := []) dX6_get_23 ml_X6_199 ok_X6_lacks rfl (rmOk_M _ _ _) (by decide) rc_25 (Nat.le_of_ble_eq_true rfl) rfl hc (fun r8 τ9 hq => ?_)
      have h := h r8 τ9 hq
      refine g_istore (pc := 26) [(4, _), (0, _), (1, _), (2, _), (3, _)] dX6_get_26 (Nat.le_of_ble_eq_true rfl) rfl ?_
      refine g_iload (pc := 28) dX6_get_28 0 rfl ?_
      refine g_if_le (pc := 30) 42 dX6_get_30 (by decide) (fun q => ?_) (fun q => ?_)
      · have h := h.1 q
        refine g_aload_n (pc := 42) dX6_get_42 rfl 1 rfl ?_
        refine g_getR (pc := 43) 25 6 21 42 fr_25_21 fl_X6_67 dX6_get_43 ?_
        refine g_bipush (pc := 46) (60 : Int32) dX6_get_46 rfl ?_
        refine g_iload_n (pc := 48) dX6_get_48 rfl 2 rfl ?_
        refine g_imul (pc := 49) dX6_get_49 ?_
        refine g_iload_n (pc := 50) dX6_get_50 rfl 4 rfl ?_
        refine g_iadd (pc := 51) dX6_get_51 ?_
        refine g_iald (pc := 52) 42 240 ar_42 h.1 dX6_get_52 ?_
        have h := h.2
        exact g_iret (pc := 53) rfl dX6_get_53 h
      · have h := h.2 q
        refine g_aload_n (pc := 33) dX6_get_33 rfl 1 rfl ?_
        refine g_iload (pc := 34) dX6_get_34 0 rfl ?_
        refine g_put (pc := 36) 25 6 23 fpp_25_23 fp_X6_196 dX6_get_36 ?_
        refine g_ldc (pc := 39) (-2147483648 : Int32) kc_X6_207 dX6_get_39 ?_
        exact g_iret (pc := 41) rfl dX6_get_41 h
    · have h := h.2 q
      refine g_ldc (pc := 16) (-2147483648 : Int32) kc_X6_207 dX6_get_16 ?_
      exact g_iret (pc := 18) rfl dX6_get_18 h
set_option maxHeartbeats 4000000 in
set_option maxRecDepth 100000 in
theorem ct_X6_copy {Γ : GT} {Q : Int32 → St → Prop} (σ : St) (x1 : Int32) (x2 : Int32) (x3 : Int32) (x4 : Int32) (x5 : Int32)
    (h : ∃ Q1 : Int32 → St → Prop, CtI Γ mX6_isSheet 1 [.int x1] σ Q1 ∧ ∀ (r2 : Int32) (τ3 : St), Q1 r2 τ3 → (((r2 = 0) → (Q (-2 : Int32) τ3)) ∧ ((¬ r2 = 0) → (∃ Q4 : Int32 → St → Prop, CtI Γ mX6_isSheet 1 [.int x3] τ3 Q4 ∧ ∀ (r5 : Int32) (τ6 : St), Q4 r5 τ6 → (((¬ r5 = 0) → (vp_in x1 4 ∧ ((((τ6.1 39 x1.toNatClampNeg) = 0) → (∃ Q7 : Int32 → St → Prop, CtI Γ mX6_meets 0 [rf Γ 25, .int (1 : Int32)] τ6 Q7 ∧ ∀ (r8 : Int32) (τ9 : St), Q7 r8 τ9 → (Q r8 τ9))) ∧ ((¬ (τ6.1 39 x1.toNatClampNeg) = 0) → (vp_in x3 4 ∧ (((¬ (τ6.1 39 x3.toNatClampNeg) = 0) → (vp_in x1 4 ∧ (vp_in x3 4 ∧ ((((τ6.1 40 x1.toNatClampNeg) = (τ6.1 40 x3.toNatClampNeg)) → (((x2 < 0) → (∃ Q10 : Int32 → St → Prop, CtI Γ mX6_meets 0 [rf Γ 25, .int (2 : Int32)] τ6 Q10 ∧ ∀ (r11 : Int32) (τ12 : St), Q10 r11 τ12 → (Q r11 τ12))) ∧ ((¬ x2 < 0) → (((x4 < 0) → (∃ Q13 : Int32 → St → Prop, CtI Γ mX6_meets 0 [rf Γ 25, .int (2 : Int32)] τ6 Q13 ∧ ∀ (r14 : Int32) (τ15 : St), Q13 r14 τ15 → (Q r14 τ15))) ∧ ((¬ x4 < 0) → (((x5 < 0) → (∃ Q16 : Int32 → St → Prop, CtI Γ mX6_meets 0 [rf Γ 25, .int (2 : Int32)] τ6 Q16 ∧ ∀ (r17 : Int32) (τ18 : St), Q16 r17 τ18 → (Q r17 τ18))) ∧ ((¬ x5 < 0) → (vp_in x1 4 ∧ (((((τ6.1 41 x1.toNatClampNeg).toInt64) < (x2.toInt64 + x5.toInt64)) → (∃ Q19 : Int32 → St → Prop, CtI Γ mX6_meets 0 [rf Γ 25, .int (2 : Int32)] τ6 Q19 ∧ ∀ (r20 : Int32) (τ21 : St), Q19 r20 τ21 → (Q r20 τ21))) ∧ ((¬ ((τ6.1 41 x1.toNatClampNeg).toInt64) < (x2.toInt64 + x5.toInt64)) → (vp_in x3 4 ∧ ((((x4.toInt64 + x5.toInt64) ≤ ((τ6.1 41 x3.toNatClampNeg).toInt64)) → (G Γ mX6_copy (NI Γ 2 Q) 120 [(0, rf Γ 25), (1, .int x1), (2, .int x2), (3, .int x3), (4, .int x4), (5, .int x5), (6, .int (0 : Int32))] [] τ6)) ∧ ((¬ (x4.toInt64 + x5.toInt64) ≤ ((τ6.1 41 x3.toNatClampNeg).toInt64)) → (∃ Q22 : Int32 → St → Prop, CtI Γ mX6_meets 0 [rf Γ 25, .int (2 : Int32)] τ6 Q22 ∧ ∀ (r23 : Int32) (τ24 : St), Q22 r23 τ24 → (Q r23 τ24))))))))))))))) ∧ ((¬ (τ6.1 40 x1.toNatClampNeg) = (τ6.1 40 x3.toNatClampNeg)) → (∃ Q25 : Int32 → St → Prop, CtI Γ mX6_meets 0 [rf Γ 25, .int (4 : Int32)] τ6 Q25 ∧ ∀ (r26 : Int32) (τ27 : St), Q25 r26 τ27 → (Q r26 τ27))))))) ∧ (((τ6.1 39 x3.toNatClampNeg) = 0) → (∃ Q28 : Int32 → St → Prop, CtI Γ mX6_meets 0 [rf Γ 25, .int (1 : Int32)] τ6 Q28 ∧ ∀ (r29 : Int32) (τ30 : St), Q28 r29 τ30 → (Q r29 τ30))))))))) ∧ ((r5 = 0) → (Q (-2 : Int32) τ6))))))) :
    CtI Γ mX6_copy 2 [rf Γ 25, .int x1, .int x2, .int x3, .int x4, .int x5] σ Q := by
  refine ct_of (by decide +kernel) (Nat.le_of_ble_eq_true rfl) ?_
  show G Γ mX6_copy (NI Γ 2 Q) 0 [(0, rf Γ 25), (1, .int x1), (2, .int x2), (3, .int x3), (4, .int x4), (5, .int x5)] [] σ
  refine g_iload_n (pc := 0) dX6_copy_0 rfl 1 rfl ?_
  obtain ⟨Q1, hc, h⟩ := h
  refine g_callSI (pc := 1) (M' := mX6_isSheet) (n := 2) (As := [.int x1]) (st := []) dX6_copy_1 ml_X6_104 ok_X6_isSheet rfl (rmOk_M _ _ _) (by decide) (Nat.le_of_ble_eq_true rfl) rfl hc (fun r2 τ3 hq => ?_)
  have h := h r2 τ3 hq
  refine g_if_eq (pc := 4) 14 dX6_copy_4 (by decide) (fun q => ?_) (fun q => ?_)
  · have h := h.1 q
    refine g_bipush (pc := 14) (-2 : Int32) dX6_copy_14 rfl ?_
    exact g_iret (pc := 16) rfl dX6_copy_16 h
  · have h := h.2 q
    refine g_iload_n (pc := 7) dX6_copy_7 rfl 3 rfl ?_
    obtain ⟨Q4, hc, h⟩ := h
    refine g_callSI (pc := 8) (M' := mX6_isSheet) (n := 2) (As := [.int x3]) (st := []) dX6_copy_8 ml_X6_104 ok_X6_isSheet rfl (rmOk_M _ _ _) (by decide) (Nat.le_of_ble_eq_true rfl) rfl hc (fun r5 τ6 hq => ?_)
    have h := h r5 τ6 hq
    refine g_if_ne (pc := 11) 17 dX6_copy_11 (by decide) (fun q => ?_) (fun q => ?_)
    · have h := h.1 q
      refine g_aload_n (pc := 17) dX6_copy_17 rfl 0 rfl ?_
      refine g_getR (pc := 18) 25 6 18 39 fr_25_18 fl_X6_58 dX6_copy_18 ?_
      refine g_iload_n (pc := 21) dX6_copy_21 rfl 1 rfl ?_
      refine g_zald (pc := 22) 39 4 ar_39 h.1 dX6_copy_22 ?_
      have h := h.2
      refine g_if_eq (pc := 23) 35 dX6_copy_23 (by decide) (fun q => ?_) (fun q => ?_)
      · have h := h.1 q
        refine g_aload_n (pc := 35) dX6_copy_35 rfl 0 rfl ?_
        refine g_iconst (pc := 36) (1 : Int32) dX6_copy_36 rfl ?_
        obtain ⟨Q7, hc, h⟩ := h
        refine g_callVI (pc := 37) (M' := mX6_meets) (n := 2) (As := [.int (1 : Int32)]) (st := []) dX6_copy_37 ml_X6_107 ok_X6_meets rfl (rmOk_M _ _ _) (by decide) rc_25 (Nat.le_of_ble_eq_true rfl) rfl hc (fun r8 τ9 hq => ?_)
        have h := h r8 τ9 hq
        exact g_iret (pc := 40) rfl dX6_copy_40 h
      · have h := h.2 q
        refine g_aload_n (pc := 26) dX6_copy_26 rfl 0 rfl ?_
        refine g_getR (pc := 27) 25 6 18 39 fr_25_18 fl_X6_58 dX6_copy_27 ?_
        refine g_iload_n (pc := 30) dX6_copy_30 rfl 3 rfl ?_
        refine g_zald (pc := 31) 39 4 ar_39 h.1 dX6_copy_31 ?_
        have h := h.2
        refine g_if_ne (pc := 32) 41 dX6_copy_32 (by decide) (fun q => ?_) (fun q => ?_)
        · have h := h.1 q
          refine g_aload_n (pc := 41) dX6_copy_41 rfl 0 rfl ?_
          refine g_getR (pc := 42) 25 6 19 40 fr_25_19 fl_X6_61 dX6_copy_42 ?_
          refine g_iload_n (pc := 45) dX6_copy_45 rfl 1 rfl ?_
          refine g_iald (pc := 46) 40 4 ar_40 h.1 dX6_copy_46 ?_
          have h := h.2
          refine g_aload_n (pc := 47) dX6_copy_47 rfl 0 rfl ?_
          refine g_getR (pc := 48) 25 6 19 40 fr_25_19 fl_X6_61 dX6_copy_48 ?_
          refine g_iload_n (pc := 51) dX6_copy_51 rfl 3 rfl ?_
          refine g_iald (pc := 52) 40 4 ar_40 h.1 dX6_copy_52 ?_
          have h := h.2
          refine g_icmp_eq (pc := 53) 62 dX6_copy_53 (by decide) (fun q => ?_) (fun q => ?_)
          · have h := h.1 q
            refine g_iload_n (pc := 62) dX6_copy_62 rfl 2 rfl ?_
            refine g_if_lt (pc := 63) 111 dX6_copy_63 (by decide) (fun q => ?_) (fun q => ?_)
            · have h := h.1 q
              refine g_aload_n (pc := 111) dX6_copy_111 rfl 0 rfl ?_
              refine g_iconst (pc := 112) (2 : Int32) dX6_copy_112 rfl ?_
              obtain ⟨Q10, hc, h⟩ := h
              refine g_callVI (pc := 113) (M' := mX6_meets) (n := 2) (As := [.int (2 : Int32)]) (st := []) dX6_copy_113 ml_X6_107 ok_X6_meets rfl (rmOk_M _ _ _) (by decide) rc_25 (Nat.le_of_ble_eq_true rfl) rfl hc (fun r11 τ12 hq => ?_)
              have h := h r11 τ12 hq
              exact g_iret (pc := 116) rfl dX6_copy_116 h
            · have h := h.2 q
              refine g_iload (pc := 66) dX6_copy_66 4 rfl ?_
              refine g_if_lt (pc := 68) 111 dX6_copy_68 (by decide) (fun q => ?_) (fun q => ?_)
              · have h := h.1 q
                refine g_aload_n (pc := 111) dX6_copy_111 rfl 0 rfl ?_
                refine g_iconst (pc := 112) (2 : Int32) dX6_copy_112 rfl ?_
                obtain ⟨Q13, hc, h⟩ := h
                refine g_callVI (pc := 113) (M' := mX6_meets) (n := 2) (As := [.int (2 : Int32)]) (st := []) dX6_copy_113 ml_X6_107 ok_X6_meets rfl (rmOk_M _ _ _) (by decide) rc_25 (Nat.le_of_ble_eq_true rfl) rfl hc (fun r14 τ15 hq => ?_)
                have h := h r14 τ15 hq
                exact g_iret (pc := 116) rfl dX6_copy_116 h
              · have h := h.2 q
                refine g_iload (pc := 71) dX6_copy_71 5 rfl ?_
                refine g_if_lt (pc := 73) 111 dX6_copy_73 (by decide) (fun q => ?_) (fun q => ?_)
                · have h := h.1 q
                  refine g_aload_n (pc := 111) dX6_copy_111 rfl 0 rfl ?_
                  refine g_iconst (pc := 112) (2 : Int32) dX6_copy_112 rfl ?_
                  obtain ⟨Q16, hc, h⟩ := h
                  refine g_callVI (pc := 113) (M' := mX6_meets) (n := 2) (As := [.int (2 : Int32)]) (st := []) dX6_copy_113 ml_X6_107 ok_X6_meets rfl (rmOk_M _ _ _) (by decide) rc_25 (Nat.le_of_ble_eq_true rfl) rfl hc (fun r17 τ18 hq => ?_)
                  have h := h r17 τ18 hq
                  exact g_iret (pc := 116) rfl dX6_copy_116 h
                · have h := h.2 q
                  refine g_iload_n (pc := 76) dX6_copy_76 rfl 2 rfl ?_
                  refine g_i2l (pc := 77) dX6_copy_77 ?_
                  refine g_iload (pc := 78) dX6_copy_78 5 rfl ?_
                  refine g_i2l (pc := 80) dX6_copy_80 ?_
                  refine g_ladd (pc := 81) dX6_copy_81 ?_
                  refine g_aload_n (pc := 82) dX6_copy_82 rfl 0 rfl ?_
                  refine g_getR (pc := 83) 25 6 20 41 fr_25_20 fl_X6_64 dX6_copy_83 ?_
                  refine g_iload_n (pc := 86) dX6_copy_86 rfl 1 rfl ?_
                  refine g_iald (pc := 87) 41 4 ar_41 h.1 dX6_copy_87 ?_
                  have h := h.2
                  refine g_i2l (pc := 88) dX6_copy_88 ?_
                  refine g_lcmp_gt (pc := 89) 111 dX6_copy_89 dX6_copy_90 (by decide) (fun q => ?_) (fun q => ?_)
                  · have h := h.1 q
                    refine g_aload_n (pc := 111) dX6_copy_111 rfl 0 rfl ?_
                    refine g_iconst (pc := 112) (2 : Int32) dX6_copy_112 rfl ?_
                    obtain ⟨Q19, hc, h⟩ := h
                    refine g_callVI (pc := 113) (M' := mX6_meets) (n := 2) (As := [.int (2 : Int32)]) (st := []) dX6_copy_113 ml_X6_107 ok_X6_meets rfl (rmOk_M _ _ _) (by decide) rc_25 (Nat.le_of_ble_eq_true rfl) rfl hc (fun r20 τ21 hq => ?_)
                    have h := h r20 τ21 hq
                    exact g_iret (pc := 116) rfl dX6_copy_116 h
                  · have h := h.2 q
                    refine g_iload (pc := 93) dX6_copy_93 4 rfl ?_
                    refine g_i2l (pc := 95) dX6_copy_95 ?_
                    refine g_iload (pc := 96) dX6_copy_96 5 rfl ?_
                    refine g_i2l (pc := 98) dX6_copy_98 ?_
                    refine g_ladd (pc := 99) dX6_copy_99 ?_
                    refine g_aload_n (pc := 100) dX6_copy_100 rfl 0 rfl ?_
                    refine g_getR (pc := 101) 25 6 20 41 fr_25_20 fl_X6_64 dX6_copy_101 ?_
                    refine g_iload_n (pc := 104) dX6_copy_104 rfl 3 rfl ?_
                    refine g_iald (pc := 105) 41 4 ar_41 h.1 dX6_copy_105 ?_
                    have h := h.2
                    refine g_i2l (pc := 106) dX6_copy_106 ?_
                    refine g_lcmp_le (pc := 107) 117 dX6_copy_107 dX6_copy_108 (by decide) (fun q => ?_) (fun q => ?_)
                    · have h := h.1 q
                      refine g_iconst (pc := 117) (0 : Int32) dX6_copy_117 rfl ?_
                      refine g_istore (pc := 118) [(6, _), (0, _), (1, _), (2, _), (3, _), (4, _), (5, _)] dX6_copy_118 (Nat.le_of_ble_eq_true rfl) rfl ?_
                      refine g_pm [1, 2, 3, 4, 5, 6, 0] rfl ?_
                      exact h
                    · have h := h.2 q
                      refine g_aload_n (pc := 111) dX6_copy_111 rfl 0 rfl ?_
                      refine g_iconst (pc := 112) (2 : Int32) dX6_copy_112 rfl ?_
                      obtain ⟨Q22, hc, h⟩ := h
                      refine g_callVI (pc := 113) (M' := mX6_meets) (n := 2) (As := [.int (2 : Int32)]) (st := []) dX6_copy_113 ml_X6_107 ok_X6_meets rfl (rmOk_M _ _ _) (by decide) rc_25 (Nat.le_of_ble_eq_true rfl) rfl hc (fun r23 τ24 hq => ?_)
                      have h := h r23 τ24 hq
                      exact g_iret (pc := 116) rfl dX6_copy_116 h
          · have h := h.2 q
            refine g_aload_n (pc := 56) dX6_copy_56 rfl 0 rfl ?_
            refine g_iconst (pc := 57) (4 : Int32) dX6_copy_57 rfl ?_
            obtain ⟨Q25, hc, h⟩ := h
            refine g_callVI (pc := 58) (M' := mX6_meets) (n := 2) (As := [.int (4 : Int32)]) (st := []) dX6_copy_58 ml_X6_107 ok_X6_meets rfl (rmOk_M _ _ _) (by decide) rc_25 (Nat.le_of_ble_eq_true rfl) rfl hc (fun r26 τ27 hq => ?_)
            have h := h r26 τ27 hq
            exact g_iret (pc := 61) rfl dX6_copy_61 h
        · have h := h.2 q
          refine g_aload_n (pc := 35) dX6_copy_35 rfl 0 rfl ?_
          refine g_iconst (pc := 36) (1 : Int32) dX6_copy_36 rfl ?_
          obtain ⟨Q28, hc, h⟩ := h
          refine g_callVI (pc := 37) (M' := mX6_meets) (n := 2) (As := [.int (1 : Int32)]) (st := []) dX6_copy_37 ml_X6_107 ok_X6_meets rfl (rmOk_M _ _ _) (by decide) rc_25 (Nat.le_of_ble_eq_true rfl) rfl hc (fun r29 τ30 hq => ?_)
          have h := h r29 τ30 hq
          exact g_iret (pc := 40) rfl dX6_copy_40 h
    · have h := h.2 q
      refine g_bipush (pc := 14) (-2 : Int32) dX6_copy_14 rfl ?_
      exact g_iret (pc := 16) rfl dX6_copy_16 h
set_option maxHeartbeats 4000000 in
set_option maxRecDepth 100000 in
theorem t_X6_copy_120 {Γ : GT} {Q : Int32 → St → Prop} (σ : St) (x1 : Int32) (x2 : Int32) (x3 : Int32) (x4 : Int32) (x5 : Int32) (x6 : Int32)
    (h : ((x5 ≤ x6) → (G Γ mX6_copy (NI Γ 2 Q) 157 [(0, rf Γ 25), (3, .int x3), (4, .int x4), (5, .int x5), (6, .int (0 : Int32))] [] σ)) ∧ ((¬ x5 ≤ x6) → (vp_in ((((60 : Int32) * x1) + x2) + x6) 240 ∧ (vp_in x6 60 ∧ (G Γ mX6_copy (NI Γ 2 Q) 120 [(0, rf Γ 25), (1, .int x1), (2, .int x2), (3, .int x3), (4, .int x4), (5, .int x5), (6, .int (x6 + (1 : Int32)))] [] (sI σ 43 x6.toNatClampNeg (σ.1 42 ((((60 : Int32) * x1) + x2) + x6).toNatClampNeg))))))) :
    G Γ mX6_copy (NI Γ 2 Q) 120 [(0, rf Γ 25), (1, .int x1), (2, .int x2), (3, .int x3), (4, .int x4), (5, .int x5), (6, .int x6)] [] σ := by
  refine g_iload (pc := 120) dX6_copy_120 6 rfl ?_
  refine g_iload (pc := 122) dX6_copy_122 5 rfl ?_
  refine g_icmp_ge (pc := 124) 154 dX6_copy_124 (by decide) (fun q => ?_) (fun q => ?_)
  · have h := h.1 q
    refine g_iconst (pc := 154) (0 : Int32) dX6_copy_154 rfl ?_
    refine g_istore (pc := 155) [(6, _), (0, _), (1, _), (2, _), (3, _), (4, _), (5, _)] dX6_copy_155 (Nat.le_of_ble_eq_true rfl) rfl ?_
    refine g_pm [1, 4, 5, 6, 0] rfl ?_
    exact h
  · have h := h.2 q
    refine g_aload_n (pc := 127) dX6_copy_127 rfl 0 rfl ?_
    refine g_getR (pc := 128) 25 6 22 43 fr_25_22 fl_X6_70 dX6_copy_128 ?_
    refine g_iload (pc := 131) dX6_copy_131 6 rfl ?_
    refine g_aload_n (pc := 133) dX6_copy_133 rfl 0 rfl ?_
    refine g_getR (pc := 134) 25 6 21 42 fr_25_21 fl_X6_67 dX6_copy_134 ?_
    refine g_bipush (pc := 137) (60 : Int32) dX6_copy_137 rfl ?_
    refine g_iload_n (pc := 139) dX6_copy_139 rfl 1 rfl ?_
    refine g_imul (pc := 140) dX6_copy_140 ?_
    refine g_iload_n (pc := 141) dX6_copy_141 rfl 2 rfl ?_
    refine g_iadd (pc := 142) dX6_copy_142 ?_
    refine g_iload (pc := 143) dX6_copy_143 6 rfl ?_
    refine g_iadd (pc := 145) dX6_copy_145 ?_
    refine g_iald (pc := 146) 42 240 ar_42 h.1 dX6_copy_146 ?_
    have h := h.2
    refine g_iast (pc := 147) 43 60 ar_43 h.1 dX6_copy_147 ?_
    have h := h.2
    refine g_iinc (pc := 148) (1 : Int32) [(6, _), (0, _), (1, _), (2, _), (3, _), (4, _), (5, _)] dX6_copy_148 6 rfl rfl (Nat.le_of_ble_eq_true rfl) rfl ?_
    refine g_goto (pc := 151) 120 dX6_copy_151 (by decide) ?_
    refine g_pm [1, 2, 3, 4, 5, 6, 0] rfl ?_
    exact h
set_option maxHeartbeats 4000000 in
set_option maxRecDepth 100000 in
theorem t_X6_copy_157 {Γ : GT} {Q : Int32 → St → Prop} (σ : St) (x3 : Int32) (x4 : Int32) (x5 : Int32) (x6 : Int32)
    (h : ((x5 ≤ x6) → (Q (1 : Int32) σ)) ∧ ((¬ x5 ≤ x6) → (vp_in x6 60 ∧ (vp_in ((((60 : Int32) * x3) + x4) + x6) 240 ∧ (G Γ mX6_copy (NI Γ 2 Q) 157 [(0, rf Γ 25), (3, .int x3), (4, .int x4), (5, .int x5), (6, .int (x6 + (1 : Int32)))] [] (sI σ 42 ((((60 : Int32) * x3) + x4) + x6).toNatClampNeg (σ.1 43 x6.toNatClampNeg))))))) :
    G Γ mX6_copy (NI Γ 2 Q) 157 [(0, rf Γ 25), (3, .int x3), (4, .int x4), (5, .int x5), (6, .int x6)] [] σ := by
  refine g_iload (pc := 157) dX6_copy_157 4 rfl ?_
  refine g_iload (pc := 159) dX6_copy_159 3 rfl ?_
  refine g_icmp_ge (pc := 161) 192 dX6_copy_161 (by decide) (fun q => ?_) (fun q => ?_)
  · have h := h.1 q
    refine g_iconst (pc := 192) (1 : Int32) dX6_copy_192 rfl ?_
    exact g_iret (pc := 193) rfl dX6_copy_193 h
  · have h := h.2 q
    refine g_aload_n (pc := 164) dX6_copy_164 rfl 0 rfl ?_
    refine g_getR (pc := 165) 25 6 21 42 fr_25_21 fl_X6_67 dX6_copy_165 ?_
    refine g_bipush (pc := 168) (60 : Int32) dX6_copy_168 rfl ?_
    refine g_iload_n (pc := 170) dX6_copy_170 rfl 1 rfl ?_
    refine g_imul (pc := 171) dX6_copy_171 ?_
    refine g_iload (pc := 172) dX6_copy_172 2 rfl ?_
    refine g_iadd (pc := 174) dX6_copy_174 ?_
    refine g_iload (pc := 175) dX6_copy_175 4 rfl ?_
    refine g_iadd (pc := 177) dX6_copy_177 ?_
    refine g_aload_n (pc := 178) dX6_copy_178 rfl 0 rfl ?_
    refine g_getR (pc := 179) 25 6 22 43 fr_25_22 fl_X6_70 dX6_copy_179 ?_
    refine g_iload (pc := 182) dX6_copy_182 4 rfl ?_
    refine g_iald (pc := 184) 43 60 ar_43 h.1 dX6_copy_184 ?_
    have h := h.2
    refine g_iast (pc := 185) 42 240 ar_42 h.1 dX6_copy_185 ?_
    have h := h.2
    refine g_iinc (pc := 186) (1 : Int32) [(6, _), (0, _), (3, _), (4, _), (5, _)] dX6_copy_186 4 rfl rfl (Nat.le_of_ble_eq_true rfl) rfl ?_
    refine g_goto (pc := 189) 157 dX6_copy_189 (by decide) ?_
    refine g_pm [1, 2, 3, 4, 0] rfl ?_
    exact h
set_option maxHeartbeats 4000000 in
set_option maxRecDepth 100000 in
theorem ct_X6_write {Γ : GT} {Q : Int32 → St → Prop} (σ : St) (x1 : Int32)
    (h : ∃ Q1 : Int32 → St → Prop, CtI Γ mX6_isSheet 1 [.int x1] σ Q1 ∧ ∀ (r2 : Int32) (τ3 : St), Q1 r2 τ3 → (((¬ r2 = 0) → (vp_in x1 4 ∧ (((¬ (τ3.1 39 x1.toNatClampNeg) = 0) → (G Γ mX6_write (NI Γ 6 Q) 27 [(0, rf Γ 25), (1, .int x1), (2, .int (0 : Int32))] [] τ3)) ∧ (((τ3.1 39 x1.toNatClampNeg) = 0) → (∃ Q4 : Int32 → St → Prop, CtI Γ mX6_meets 0 [rf Γ 25, .int (1 : Int32)] τ3 Q4 ∧ ∀ (r5 : Int32) (τ6 : St), Q4 r5 τ6 → (Q r5 τ6)))))) ∧ ((r2 = 0) → (Q (-2 : Int32) τ3)))) :
    CtI Γ mX6_write 6 [rf Γ 25, .int x1] σ Q := by
  refine ct_of (by decide +kernel) (Nat.le_of_ble_eq_true rfl) ?_
  show G Γ mX6_write (NI Γ 6 Q) 0 [(0, rf Γ 25), (1, .int x1)] [] σ
  refine g_iload_n (pc := 0) dX6_write_0 rfl 1 rfl ?_
  obtain ⟨Q1, hc, h⟩ := h
  refine g_callSI (pc := 1) (M' := mX6_isSheet) (n := 6) (As := [.int x1]) (st := []) dX6_write_1 ml_X6_104 ok_X6_isSheet rfl (rmOk_M _ _ _) (by decide) (Nat.le_of_ble_eq_true rfl) rfl hc (fun r2 τ3 hq => ?_)
  have h := h r2 τ3 hq
  refine g_if_ne (pc := 4) 10 dX6_write_4 (by decide) (fun q => ?_) (fun q => ?_)
  · have h := h.1 q
    refine g_aload_n (pc := 10) dX6_write_10 rfl 0 rfl ?_
    refine g_getR (pc := 11) 25 6 18 39 fr_25_18 fl_X6_58 dX6_write_11 ?_
    refine g_iload_n (pc := 14) dX6_write_14 rfl 1 rfl ?_
    refine g_zald (pc := 15) 39 4 ar_39 h.1 dX6_write_15 ?_
    have h := h.2
    refine g_if_ne (pc := 16) 25 dX6_write_16 (by decide) (fun q => ?_) (fun q => ?_)
    · have h := h.1 q
      refine g_iconst (pc := 25) (0 : Int32) dX6_write_25 rfl ?_
      refine g_istore_n (pc := 26) [(2, _), (0, _), (1, _)] dX6_write_26 rfl (Nat.le_of_ble_eq_true rfl) rfl ?_
      refine g_pm [1, 2, 0] rfl ?_
      exact h
    · have h := h.2 q
      refine g_aload_n (pc := 19) dX6_write_19 rfl 0 rfl ?_
      refine g_iconst (pc := 20) (1 : Int32) dX6_write_20 rfl ?_
      obtain ⟨Q4, hc, h⟩ := h
      refine g_callVI (pc := 21) (M' := mX6_meets) (n := 6) (As := [.int (1 : Int32)]) (st := []) dX6_write_21 ml_X6_107 ok_X6_meets rfl (rmOk_M _ _ _) (by decide) rc_25 (Nat.le_of_ble_eq_true rfl) rfl hc (fun r5 τ6 hq => ?_)
      have h := h r5 τ6 hq
      exact g_iret (pc := 24) rfl dX6_write_24 h
  · have h := h.2 q
    refine g_bipush (pc := 7) (-2 : Int32) dX6_write_7 rfl ?_
    exact g_iret (pc := 9) rfl dX6_write_9 h
set_option maxHeartbeats 4000000 in
set_option maxRecDepth 100000 in
theorem t_X6_write_27 {Γ : GT} {Q : Int32 → St → Prop} (σ : St) (x1 : Int32) (x2 : Int32)
    (h : vp_in x1 4 ∧ ((((σ.1 41 x1.toNatClampNeg) ≤ x2) → (Q x2 σ)) ∧ ((¬ (σ.1 41 x1.toNatClampNeg) ≤ x2) → ((((σ.1 25 0) ≤ x2) → (Q x2 σ)) ∧ ((¬ (σ.1 25 0) ≤ x2) → (∃ Q7 : Int32 → St → Prop, CtI Γ mX6_restOf 5 [rf Γ 25, .int x2] σ Q7 ∧ ∀ (r8 : Int32) (τ9 : St), Q7 r8 τ9 → (∃ Q10 : St → Prop, CtV Γ mX6_keep 0 [rf Γ 25, .int x1, .int x2, .int r8] τ9 Q10 ∧ ∀ (τ12 : St), Q10 τ12 → (G Γ mX6_write (NI Γ 6 Q) 27 [(0, rf Γ 25), (1, .int x1), (2, .int (x2 + (1 : Int32)))] [] τ12)))))))) :
    G Γ mX6_write (NI Γ 6 Q) 27 [(0, rf Γ 25), (1, .int x1), (2, .int x2)] [] σ := by
  refine g_iload_n (pc := 27) dX6_write_27 rfl 2 rfl ?_
  refine g_aload_n (pc := 28) dX6_write_28 rfl 0 rfl ?_
  refine g_getR (pc := 29) 25 6 20 41 fr_25_20 fl_X6_64 dX6_write_29 ?_
  refine g_iload_n (pc := 32) dX6_write_32 rfl 1 rfl ?_
  refine g_iald (pc := 33) 41 4 ar_41 h.1 dX6_write_33 ?_
  have h := h.2
  refine g_icmp_ge (pc := 34) 62 dX6_write_34 (by decide) (fun q => ?_) (fun q => ?_)
  · have h := h.1 q
    refine g_iload_n (pc := 62) dX6_write_62 rfl 2 rfl ?_
    exact g_iret (pc := 63) rfl dX6_write_63 h
  · have h := h.2 q
    refine g_iload_n (pc := 37) dX6_write_37 rfl 2 rfl ?_
    refine g_aload_n (pc := 38) dX6_write_38 rfl 0 rfl ?_
    refine g_getI (pc := 39) 25 6 0 fi_25_0 fl_X6_7 dX6_write_39 ?_
    refine g_icmp_ge (pc := 42) 62 dX6_write_42 (by decide) (fun q => ?_) (fun q => ?_)
    · have h := h.1 q
      refine g_iload_n (pc := 62) dX6_write_62 rfl 2 rfl ?_
      exact g_iret (pc := 63) rfl dX6_write_63 h
    · have h := h.2 q
      refine g_aload_n (pc := 45) dX6_write_45 rfl 0 rfl ?_
      refine g_iload_n (pc := 46) dX6_write_46 rfl 1 rfl ?_
      refine g_iload_n (pc := 47) dX6_write_47 rfl 2 rfl ?_
      refine g_aload_n (pc := 48) dX6_write_48 rfl 0 rfl ?_
      refine g_iload_n (pc := 49) dX6_write_49 rfl 2 rfl ?_
      obtain ⟨Q7, hc, h⟩ := h
      refine g_callVI (pc := 50) (M' := mX6_restOf) (n := 6) (As := [.int x2]) (st := [.int x2, .int x1, rf Γ 25]) dX6_write_50 ml_X6_190 ok_X6_restOf rfl (rmOk_M _ _ _) (by decide) rc_25 (Nat.le_of_ble_eq_true rfl) rfl hc (fun r8 τ9 hq => ?_)
      have h := h r8 τ9 hq
      obtain ⟨Q10, hc, h⟩ := h
      refine g_callVV (pc := 53) (M' := mX6_keep) (n := 6) (As := [.int x1, .int x2, .int r8]) (st := []) dX6_write_53 ml_X6_203 ok_X6_keep rfl (rmOk_M _ _ _) (by decide) rc_25 (Nat.le_of_ble_eq_true rfl) rfl hc (fun τ12 hq => ?_)
      have h := h τ12 hq
      refine g_iinc (pc := 56) (1 : Int32) [(2, _), (0, _), (1, _)] dX6_write_56 2 rfl rfl (Nat.le_of_ble_eq_true rfl) rfl ?_
      refine g_goto (pc := 59) 27 dX6_write_59 (by decide) ?_
      refine g_pm [1, 2, 0] rfl ?_
      exact h
set_option maxHeartbeats 4000000 in
set_option maxRecDepth 100000 in
theorem ct_X6_sumOn {Γ : GT} {Q : Int32 → St → Prop} (σ : St) 
    (h : G Γ mX6_sumOn (NI Γ 0 Q) 4 [(0, rf Γ 25), (1, .int (0 : Int32)), (2, .int (0 : Int32))] [] σ) :
    CtI Γ mX6_sumOn 0 [rf Γ 25] σ Q := by
  refine ct_of (by decide +kernel) (Nat.le_of_ble_eq_true rfl) ?_
  show G Γ mX6_sumOn (NI Γ 0 Q) 0 [(0, rf Γ 25)] [] σ
  refine g_iconst (pc := 0) (0 : Int32) dX6_sumOn_0 rfl ?_
  refine g_istore_n (pc := 1) [(1, _), (0, _)] dX6_sumOn_1 rfl (Nat.le_of_ble_eq_true rfl) rfl ?_
  refine g_iconst (pc := 2) (0 : Int32) dX6_sumOn_2 rfl ?_
  refine g_istore_n (pc := 3) [(2, _), (1, _), (0, _)] dX6_sumOn_3 rfl (Nat.le_of_ble_eq_true rfl) rfl ?_
  refine g_pm [2, 1, 0] rfl ?_
  exact h
set_option maxHeartbeats 4000000 in
set_option maxRecDepth 100000 in
theorem t_X6_sumOn_4 {Γ : GT} {Q : Int32 → St → Prop} (σ : St) (x1 : Int32) (x2 : Int32)
    (h : (((σ.1 25 0) ≤ x2) → (Q x1 σ)) ∧ ((¬ (σ.1 25 0) ≤ x2) → (vp_in x2 5 ∧ ((((σ.1 30 x2.toNatClampNeg) = 0) → (G Γ mX6_sumOn (NI Γ 0 Q) 4 [(0, rf Γ 25), (1, .int (x1 + (0 : Int32))), (2, .int (x2 + (1 : Int32)))] [] σ)) ∧ ((¬ (σ.1 30 x2.toNatClampNeg) = 0) → (vp_in x2 5 ∧ (G Γ mX6_sumOn (NI Γ 0 Q) 4 [(0, rf Γ 25), (1, .int (x1 + (σ.1 31 x2.toNatClampNeg))), (2, .int (x2 + (1 : Int32)))] [] σ))))))) :
    G Γ mX6_sumOn (NI Γ 0 Q) 4 [(0, rf Γ 25), (1, .int x1), (2, .int x2)] [] σ := by
  refine g_iload_n (pc := 4) dX6_sumOn_4 rfl 2 rfl ?_
  refine g_aload_n (pc := 5) dX6_sumOn_5 rfl 0 rfl ?_
  refine g_getI (pc := 6) 25 6 0 fi_25_0 fl_X6_7 dX6_sumOn_6 ?_
  refine g_icmp_ge (pc := 9) 40 dX6_sumOn_9 (by decide) (fun q => ?_) (fun q => ?_)
  · have h := h.1 q
    refine g_iload_n (pc := 40) dX6_sumOn_40 rfl 1 rfl ?_
    exact g_iret (pc := 41) rfl dX6_sumOn_41 h
  · have h := h.2 q
    refine g_iload_n (pc := 12) dX6_sumOn_12 rfl 1 rfl ?_
    refine g_aload_n (pc := 13) dX6_sumOn_13 rfl 0 rfl ?_
    refine g_getR (pc := 14) 25 6 6 30 fr_25_6 fl_X6_26 dX6_sumOn_14 ?_
    refine g_iload_n (pc := 17) dX6_sumOn_17 rfl 2 rfl ?_
    refine g_zald (pc := 18) 30 5 ar_30 h.1 dX6_sumOn_18 ?_
    have h := h.2
    refine g_if_eq (pc := 19) 31 dX6_sumOn_19 (by decide) (fun q => ?_) (fun q => ?_)
    · have h := h.1 q
      refine g_iconst (pc := 31) (0 : Int32) dX6_sumOn_31 rfl ?_
      refine g_iadd (pc := 32) dX6_sumOn_32 ?_
      refine g_istore_n (pc := 33) [(1, _), (0, _), (2, _)] dX6_sumOn_33 rfl (Nat.le_of_ble_eq_true rfl) rfl ?_
      refine g_iinc (pc := 34) (1 : Int32) [(2, _), (1, _), (0, _)] dX6_sumOn_34 2 rfl rfl (Nat.le_of_ble_eq_true rfl) rfl ?_
      refine g_goto (pc := 37) 4 dX6_sumOn_37 (by decide) ?_
      refine g_pm [2, 1, 0] rfl ?_
      exact h
    · have h := h.2 q
      refine g_aload_n (pc := 22) dX6_sumOn_22 rfl 0 rfl ?_
      refine g_getR (pc := 23) 25 6 7 31 fr_25_7 fl_X6_30 dX6_sumOn_23 ?_
      refine g_iload_n (pc := 26) dX6_sumOn_26 rfl 2 rfl ?_
      refine g_iald (pc := 27) 31 5 ar_31 h.1 dX6_sumOn_27 ?_
      have h := h.2
      refine g_goto (pc := 28) 32 dX6_sumOn_28 (by decide) ?_
      refine g_iadd (pc := 32) dX6_sumOn_32 ?_
      refine g_istore_n (pc := 33) [(1, _), (0, _), (2, _)] dX6_sumOn_33 rfl (Nat.le_of_ble_eq_true rfl) rfl ?_
      refine g_iinc (pc := 34) (1 : Int32) [(2, _), (1, _), (0, _)] dX6_sumOn_34 2 rfl rfl (Nat.le_of_ble_eq_true rfl) rfl ?_
      refine g_goto (pc := 37) 4 dX6_sumOn_37 (by decide) ?_
      refine g_pm [2, 1, 0] rfl ?_
      exact h
set_option maxHeartbeats 4000000 in
set_option maxRecDepth 100000 in
theorem ct_X6_count {Γ : GT} {Q : Int32 → St → Prop} (σ : St) (x1 : Int32)
    (h : (x1 = 0 → (Q (σ.1 25 0) σ)) ∧ (x1 = 1 → (∃ Q1 : Int32 → St → Prop, CtI Γ mX6_onNow 0 [rf Γ 25] σ Q1 ∧ ∀ (r2 : Int32) (τ3 : St), Q1 r2 τ3 → (∃ Q4 : Int32 → St → Prop, CtI Γ mX6_bitsOf 0 [.int r2] τ3 Q4 ∧ ∀ (r5 : Int32) (τ6 : St), Q4 r5 τ6 → (Q r5 τ6)))) ∧ (x1 = 2 → (∃ Q7 : Int32 → St → Prop, CtI Γ mX6_metNow 2 [rf Γ 25] σ Q7 ∧ ∀ (r8 : Int32) (τ9 : St), Q7 r8 τ9 → (∃ Q10 : Int32 → St → Prop, CtI Γ mX6_bitsOf 0 [.int r8] τ9 Q10 ∧ ∀ (r11 : Int32) (τ12 : St), Q10 r11 τ12 → (Q r11 τ12)))) ∧ (x1 = 3 → (∃ Q13 : Int32 → St → Prop, CtI Γ mX6_sumOn 0 [rf Γ 25] σ Q13 ∧ ∀ (r14 : Int32) (τ15 : St), Q13 r14 τ15 → (Q r14 τ15))) ∧ (x1 = 4 → (∃ Q16 : Int32 → St → Prop, CtI Γ mX6_outNow 4 [rf Γ 25] σ Q16 ∧ ∀ (r17 : Int32) (τ18 : St), Q16 r17 τ18 → (∃ Q19 : Int32 → St → Prop, CtI Γ mX6_bitsOf 0 [.int r17] τ18 Q19 ∧ ∀ (r20 : Int32) (τ21 : St), Q19 r20 τ21 → (Q r20 τ21)))) ∧ (x1 = 5 → (∃ Q22 : Int32 → St → Prop, CtI Γ mX6_admittedNow 4 [rf Γ 25] σ Q22 ∧ ∀ (r23 : Int32) (τ24 : St), Q22 r23 τ24 → (∃ Q25 : Int32 → St → Prop, CtI Γ mX6_bitsOf 0 [.int r23] τ24 Q25 ∧ ∀ (r26 : Int32) (τ27 : St), Q25 r26 τ27 → (Q r26 τ27)))) ∧ (x1 = 6 → (Q (σ.1 25 9) σ)) ∧ (x1 = 7 → (∃ Q28 : Int32 → St → Prop, CtI Γ mX6_stillNow 4 [rf Γ 25] σ Q28 ∧ ∀ (r29 : Int32) (τ30 : St), Q28 r29 τ30 → (Q r29 τ30))) ∧ (x1 = 8 → (Q (σ.1 25 23) σ)) ∧ (¬ x1 = 0 → ¬ x1 = 1 → ¬ x1 = 2 → ¬ x1 = 3 → ¬ x1 = 4 → ¬ x1 = 5 → ¬ x1 = 6 → ¬ x1 = 7 → ¬ x1 = 8 → (Q (-2 : Int32) σ))) :
    CtI Γ mX6_count 5 [rf Γ 25, .int x1] σ Q := by
  refine ct_of (by decide +kernel) (Nat.le_of_ble_eq_true rfl) ?_
  show G Γ mX6_count (NI Γ 5 Q) 0 [(0, rf Γ 25), (1, .int x1)] [] σ
  refine g_iload_n (pc := 0) dX6_count_0 rfl 1 rfl ?_
  by_cases q0 : x1 = 0
  · have h := h.1 q0
    refine g_tswK (pc := 1) 0 52 dX6_count_1 q0 (by decide) (by decide) rfl (by decide) ?_
    refine g_aload_n (pc := 52) dX6_count_52 rfl 0 rfl ?_
    refine g_getI (pc := 53) 25 6 0 fi_25_0 fl_X6_7 dX6_count_53 ?_
    exact g_iret (pc := 56) rfl dX6_count_56 h
  by_cases q1 : x1 = 1
  · have h := h.2.1 q1
    refine g_tswK (pc := 1) 1 57 dX6_count_1 q1 (by decide) (by decide) rfl (by decide) ?_
    refine g_aload_n (pc := 57) dX6_count_57 rfl 0 rfl ?_
    obtain ⟨Q1, hc, h⟩ := h
    refine g_callVI (pc := 58) (M' := mX6_onNow) (n := 5) (As := []) (st := []) dX6_count_58 ml_X6_94 ok_X6_onNow rfl (rmOk_M _ _ _) (by decide) rc_25 (Nat.le_of_ble_eq_true rfl) rfl hc (fun r2 τ3 hq => ?_)
    have h := h r2 τ3 hq
    obtain ⟨Q4, hc, h⟩ := h
    refine g_callSI (pc := 61) (M' := mX6_bitsOf) (n := 5) (As := [.int r2]) (st := []) dX6_count_61 ml_X6_134 ok_X6_bitsOf rfl (rmOk_M _ _ _) (by decide) (Nat.le_of_ble_eq_true rfl) rfl hc (fun r5 τ6 hq => ?_)
    have h := h r5 τ6 hq
    exact g_iret (pc := 64) rfl dX6_count_64 h
  by_cases q2 : x1 = 2
  · have h := h.2.2.1 q2
    refine g_tswK (pc := 1) 2 65 dX6_count_1 q2 (by decide) (by decide) rfl (by decide) ?_
    refine g_aload_n (pc := 65) dX6_count_65 rfl 0 rfl ?_
    obtain ⟨Q7, hc, h⟩ := h
    refine g_callVI (pc := 66) (M' := mX6_metNow) (n := 5) (As := []) (st := []) dX6_count_66 ml_X6_193 ok_X6_metNow rfl (rmOk_M _ _ _) (by decide) rc_25 (Nat.le_of_ble_eq_true rfl) rfl hc (fun r8 τ9 hq => ?_)
    have h := h r8 τ9 hq
    obtain ⟨Q10, hc, h⟩ := h
    refine g_callSI (pc := 69) (M' := mX6_bitsOf) (n := 5) (As := [.int r8]) (st := []) dX6_count_69 ml_X6_134 ok_X6_bitsOf rfl (rmOk_M _ _ _) (by decide) (Nat.le_of_ble_eq_true rfl) rfl hc (fun r11 τ12 hq => ?_)
    have h := h r11 τ12 hq
    exact g_iret (pc := 72) rfl dX6_count_72 h
  by_cases q3 : x1 = 3
  · have h := h.2.2.2.1 q3
    refine g_tswK (pc := 1) 3 73 dX6_count_1 q3 (by decide) (by decide) rfl (by decide) ?_
    refine g_aload_n (pc := 73) dX6_count_73 rfl 0 rfl ?_
    obtain ⟨Q13, hc, h⟩ := h
    refine g_callVI (pc := 74) (M' := mX6_sumOn) (n := 5) (As := []) (st := []) dX6_count_74 ml_X6_208 ok_X6_sumOn rfl (rmOk_M _ _ _) (by decide) rc_25 (Nat.le_of_ble_eq_true rfl) rfl hc (fun r14 τ15 hq => ?_)
    have h := h r14 τ15 hq
    exact g_iret (pc := 77) rfl dX6_count_77 h
  by_cases q4 : x1 = 4
  · have h := h.2.2.2.2.1 q4
    refine g_tswK (pc := 1) 4 78 dX6_count_1 q4 (by decide) (by decide) rfl (by decide) ?_
    refine g_aload_n (pc := 78) dX6_count_78 rfl 0 rfl ?_
    obtain ⟨Q16, hc, h⟩ := h
    refine g_callVI (pc := 79) (M' := mX6_outNow) (n := 5) (As := []) (st := []) dX6_count_79 ml_X6_166 ok_X6_outNow rfl (rmOk_M _ _ _) (by decide) rc_25 (Nat.le_of_ble_eq_true rfl) rfl hc (fun r17 τ18 hq => ?_)
    have h := h r17 τ18 hq
    obtain ⟨Q19, hc, h⟩ := h
    refine g_callSI (pc := 82) (M' := mX6_bitsOf) (n := 5) (As := [.int r17]) (st := []) dX6_count_82 ml_X6_134 ok_X6_bitsOf rfl (rmOk_M _ _ _) (by decide) (Nat.le_of_ble_eq_true rfl) rfl hc (fun r20 τ21 hq => ?_)
    have h := h r20 τ21 hq
    exact g_iret (pc := 85) rfl dX6_count_85 h
  by_cases q5 : x1 = 5
  · have h := h.2.2.2.2.2.1 q5
    refine g_tswK (pc := 1) 5 86 dX6_count_1 q5 (by decide) (by decide) rfl (by decide) ?_
    refine g_aload_n (pc := 86) dX6_count_86 rfl 0 rfl ?_
    obtain ⟨Q22, hc, h⟩ := h
    refine g_callVI (pc := 87) (M' := mX6_admittedNow) (n := 5) (As := []) (st := []) dX6_count_87 ml_X6_169 ok_X6_admittedNow rfl (rmOk_M _ _ _) (by decide) rc_25 (Nat.le_of_ble_eq_true rfl) rfl hc (fun r23 τ24 hq => ?_)
    have h := h r23 τ24 hq
    obtain ⟨Q25, hc, h⟩ := h
    refine g_callSI (pc := 90) (M' := mX6_bitsOf) (n := 5) (As := [.int r23]) (st := []) dX6_count_90 ml_X6_134 ok_X6_bitsOf rfl (rmOk_M _ _ _) (by decide) (Nat.le_of_ble_eq_true rfl) rfl hc (fun r26 τ27 hq => ?_)
    have h := h r26 τ27 hq
    exact g_iret (pc := 93) rfl dX6_count_93 h
  by_cases q6 : x1 = 6
  · have h := h.2.2.2.2.2.2.1 q6
    refine g_tswK (pc := 1) 6 94 dX6_count_1 q6 (by decide) (by decide) rfl (by decide) ?_
    refine g_aload_n (pc := 94) dX6_count_94 rfl 0 rfl ?_
    refine g_getI (pc := 95) 25 6 9 fi_25_9 fl_X6_101 dX6_count_95 ?_
    exact g_iret (pc := 98) rfl dX6_count_98 h
  by_cases q7 : x1 = 7
  · have h := h.2.2.2.2.2.2.2.1 q7
    refine g_tswK (pc := 1) 7 99 dX6_count_1 q7 (by decide) (by decide) rfl (by decide) ?_
    refine g_aload_n (pc := 99) dX6_count_99 rfl 0 rfl ?_
    obtain ⟨Q28, hc, h⟩ := h
    refine g_callVI (pc := 100) (M' := mX6_stillNow) (n := 5) (As := []) (st := []) dX6_count_100 ml_X6_187 ok_X6_stillNow rfl (rmOk_M _ _ _) (by decide) rc_25 (Nat.le_of_ble_eq_true rfl) rfl hc (fun r29 τ30 hq => ?_)
    have h := h r29 τ30 hq
    exact g_iret (pc := 103) rfl dX6_count_103 h
  by_cases q8 : x1 = 8
  · have h := h.2.2.2.2.2.2.2.2.1 q8
    refine g_tswK (pc := 1) 8 104 dX6_count_1 q8 (by decide) (by decide) rfl (by decide) ?_
    refine g_aload_n (pc := 104) dX6_count_104 rfl 0 rfl ?_
    refine g_getI (pc := 105) 25 6 23 fi_25_23 fl_X6_196 dX6_count_105 ?_
    exact g_iret (pc := 108) rfl dX6_count_108 h
  have h := h.2.2.2.2.2.2.2.2.2 q0 q1 q2 q3 q4 q5 q6 q7 q8
  refine g_tswD (pc := 1) 109 dX6_count_1 (sw_out 8 (fun k hk => by rcases (show k = 0 ∨ k = 1 ∨ k = 2 ∨ k = 3 ∨ k = 4 ∨ k = 5 ∨ k = 6 ∨ k = 7 ∨ k = 8 by omega) with rfl | rfl | rfl | rfl | rfl | rfl | rfl | rfl | rfl <;> assumption)) (by decide) ?_
  refine g_bipush (pc := 109) (-2 : Int32) dX6_count_109 rfl ?_
  exact g_iret (pc := 111) rfl dX6_count_111 h
set_option maxHeartbeats 4000000 in
set_option maxRecDepth 100000 in
theorem ct_X6_senderDigest {Γ : GT} {Q : Int64 → St → Prop} (σ : St) (x1 : Int64) (x3 : Int32)
    (h : G Γ mX6_senderDigest (NJ Γ 6 Q) 6 [(0, rf Γ 25), (3, .int x3), (4, .long x1), (6, .int (0 : Int32))] [] σ) :
    CtJ Γ mX6_senderDigest 6 [rf Γ 25, .long x1, .int x3] σ Q := by
  refine ct_of (by decide +kernel) (Nat.le_of_ble_eq_true rfl) ?_
  show G Γ mX6_senderDigest (NJ Γ 6 Q) 0 [(0, rf Γ 25), (1, .long x1), (3, .int x3)] [] σ
  refine g_lload_n (pc := 0) dX6_senderDigest_0 rfl 1 rfl ?_
  refine g_lstore (pc := 1) [(4, _), (0, _), (1, _), (3, _)] dX6_senderDigest_1 (Nat.le_of_ble_eq_true rfl) rfl ?_
  refine g_iconst (pc := 3) (0 : Int32) dX6_senderDigest_3 rfl ?_
  refine g_istore (pc := 4) [(6, _), (4, _), (0, _), (1, _), (3, _)] dX6_senderDigest_4 (Nat.le_of_ble_eq_true rfl) rfl ?_
  refine g_pm [2, 4, 1, 0] rfl ?_
  exact h
set_option maxHeartbeats 4000000 in
set_option maxRecDepth 100000 in
theorem t_X6_senderDigest_6 {Γ : GT} {Q : Int64 → St → Prop} (σ : St) (x3 : Int32) (x4 : Int64) (x6 : Int32)
    (h : (((8 : Int32) ≤ x6) → (∃ Q1 : Int64 → St → Prop, CtJ Γ mX6_least 5 [rf Γ 25, .int x3, .int (0 : Int32)] σ Q1 ∧ ∀ (r2 : Int64) (τ3 : St), Q1 r2 τ3 → (∃ Q4 : Int64 → St → Prop, CtJ Γ mX6_least 5 [rf Γ 25, .int x3, .int (1 : Int32)] τ3 Q4 ∧ ∀ (r5 : Int64) (τ6 : St), Q4 r5 τ6 → (∃ Q7 : Int64 → St → Prop, CtJ Γ mX6_share 2 [rf Γ 25, .int x3, .int (0 : Int32)] τ6 Q7 ∧ ∀ (r8 : Int64) (τ9 : St), Q7 r8 τ9 → (∀ v10 : Int64, v10 = (((31 : Int64) * (((31 : Int64) * (((31 : Int64) * x4) + r2)) + r5)) + r8) → ∃ Q11 : Int64 → St → Prop, CtJ Γ mX6_share 2 [rf Γ 25, .int x3, .int (1 : Int32)] τ9 Q11 ∧ ∀ (r12 : Int64) (τ13 : St), Q11 r12 τ13 → (∃ Q14 : Int32 → St → Prop, CtI Γ mX6_restOf 5 [rf Γ 25, .int x3] τ13 Q14 ∧ ∀ (r15 : Int32) (τ16 : St), Q14 r15 τ16 → (G Γ mX6_senderDigest (NJ Γ 6 Q) 114 [(0, rf Γ 25), (3, .int x3), (4, .long (((31 : Int64) * (((31 : Int64) * v10) + r12)) + r15.toInt64)), (6, .int (0 : Int32))] [] τ16))))))) ∧ ((¬ (8 : Int32) ≤ x6) → (∃ Q17 : Int32 → St → Prop, CtI Γ mX6_infoOf 2 [rf Γ 25, .int x3, .int x6] σ Q17 ∧ ∀ (r18 : Int32) (τ19 : St), Q17 r18 τ19 → (G Γ mX6_senderDigest (NJ Γ 6 Q) 6 [(0, rf Γ 25), (3, .int x3), (4, .long (((31 : Int64) * x4) + r18.toInt64)), (6, .int (x6 + (1 : Int32)))] [] τ19)))) :
    G Γ mX6_senderDigest (NJ Γ 6 Q) 6 [(0, rf Γ 25), (3, .int x3), (4, .long x4), (6, .int x6)] [] σ := by
  refine g_iload (pc := 6) dX6_senderDigest_6 3 rfl ?_
  refine g_bipush (pc := 8) (8 : Int32) dX6_senderDigest_8 rfl ?_
  refine g_icmp_ge (pc := 10) 36 dX6_senderDigest_10 (by decide) (fun q => ?_) (fun q => ?_)
  · have h := h.1 q
    refine g_ldc2 (pc := 36) (31 : Int64) kl_X6_211 dX6_senderDigest_36 ?_
    refine g_lload (pc := 39) dX6_senderDigest_39 2 rfl ?_
    refine g_lmul (pc := 41) dX6_senderDigest_41 ?_
    refine g_aload_n (pc := 42) dX6_senderDigest_42 rfl 0 rfl ?_
    refine g_iload_n (pc := 43) dX6_senderDigest_43 rfl 1 rfl ?_
    refine g_iconst (pc := 44) (0 : Int32) dX6_senderDigest_44 rfl ?_
    obtain ⟨Q1, hc, h⟩ := h
    refine g_callVJ (pc := 45) (M' := mX6_least) (n := 6) (As := [.int x3, .int (0 : Int32)]) (st := [.long ((31 : Int64) * x4)]) dX6_senderDigest_45 ml_X6_213 ok_X6_least rfl (rmOk_M _ _ _) (by decide) rc_25 (Nat.le_of_ble_eq_true rfl) rfl hc (fun r2 τ3 hq => ?_)
    have h := h r2 τ3 hq
    refine g_ladd (pc := 48) dX6_senderDigest_48 ?_
    refine g_lstore (pc := 49) [(4, _), (0, _), (3, _), (6, _)] dX6_senderDigest_49 (Nat.le_of_ble_eq_true rfl) rfl ?_
    refine g_ldc2 (pc := 51) (31 : Int64) kl_X6_211 dX6_senderDigest_51 ?_
    refine g_lload (pc := 54) dX6_senderDigest_54 0 rfl ?_
    refine g_lmul (pc := 56) dX6_senderDigest_56 ?_
    refine g_aload_n (pc := 57) dX6_senderDigest_57 rfl 1 rfl ?_
    refine g_iload_n (pc := 58) dX6_senderDigest_58 rfl 2 rfl ?_
    refine g_iconst (pc := 59) (1 : Int32) dX6_senderDigest_59 rfl ?_
    obtain ⟨Q4, hc, h⟩ := h
    refine g_callVJ (pc := 60) (M' := mX6_least) (n := 6) (As := [.int x3, .int (1 : Int32)]) (st := [.long ((31 : Int64) * (((31 : Int64) * x4) + r2))]) dX6_senderDigest_60 ml_X6_213 ok_X6_least rfl (rmOk_M _ _ _) (by decide) rc_25 (Nat.le_of_ble_eq_true rfl) rfl hc (fun r5 τ6 hq => ?_)
    have h := h r5 τ6 hq
    refine g_ladd (pc := 63) dX6_senderDigest_63 ?_
    refine g_lstore (pc := 64) [(4, _), (0, _), (3, _), (6, _)] dX6_senderDigest_64 (Nat.le_of_ble_eq_true rfl) rfl ?_
    refine g_ldc2 (pc := 66) (31 : Int64) kl_X6_211 dX6_senderDigest_66 ?_
    refine g_lload (pc := 69) dX6_senderDigest_69 0 rfl ?_
    refine g_lmul (pc := 71) dX6_senderDigest_71 ?_
    refine g_aload_n (pc := 72) dX6_senderDigest_72 rfl 1 rfl ?_
    refine g_iload_n (pc := 73) dX6_senderDigest_73 rfl 2 rfl ?_
    refine g_iconst (pc := 74) (0 : Int32) dX6_senderDigest_74 rfl ?_
    obtain ⟨Q7, hc, h⟩ := h
    refine g_callVJ (pc := 75) (M' := mX6_share) (n := 6) (As := [.int x3, .int (0 : Int32)]) (st := [.long ((31 : Int64) * (((31 : Int64) * (((31 : Int64) * x4) + r2)) + r5))]) dX6_senderDigest_75 ml_X6_216 ok_X6_share rfl (rmOk_M _ _ _) (by decide) rc_25 (Nat.le_of_ble_eq_true rfl) rfl hc (fun r8 τ9 hq => ?_)
    have h := h r8 τ9 hq
    refine g_ladd (pc := 78) dX6_senderDigest_78 ?_
    refine g_topJ (fun v10 ev10 => ?_)
    refine g_lstore (pc := 79) [(4, _), (0, _), (3, _), (6, _)] dX6_senderDigest_79 (Nat.le_of_ble_eq_true rfl) rfl ?_
    have h := h v10 ev10
    refine g_ldc2 (pc := 81) (31 : Int64) kl_X6_211 dX6_senderDigest_81 ?_
    refine g_lload (pc := 84) dX6_senderDigest_84 0 rfl ?_
    refine g_lmul (pc := 86) dX6_senderDigest_86 ?_
    refine g_aload_n (pc := 87) dX6_senderDigest_87 rfl 1 rfl ?_
    refine g_iload_n (pc := 88) dX6_senderDigest_88 rfl 2 rfl ?_
    refine g_iconst (pc := 89) (1 : Int32) dX6_senderDigest_89 rfl ?_
    obtain ⟨Q11, hc, h⟩ := h
    refine g_callVJ (pc := 90) (M' := mX6_share) (n := 6) (As := [.int x3, .int (1 : Int32)]) (st := [.long ((31 : Int64) * v10)]) dX6_senderDigest_90 ml_X6_216 ok_X6_share rfl (rmOk_M _ _ _) (by decide) rc_25 (Nat.le_of_ble_eq_true rfl) rfl hc (fun r12 τ13 hq => ?_)
    have h := h r12 τ13 hq
    refine g_ladd (pc := 93) dX6_senderDigest_93 ?_
    refine g_lstore (pc := 94) [(4, _), (0, _), (3, _), (6, _)] dX6_senderDigest_94 (Nat.le_of_ble_eq_true rfl) rfl ?_
    refine g_ldc2 (pc := 96) (31 : Int64) kl_X6_211 dX6_senderDigest_96 ?_
    refine g_lload (pc := 99) dX6_senderDigest_99 0 rfl ?_
    refine g_lmul (pc := 101) dX6_senderDigest_101 ?_
    refine g_aload_n (pc := 102) dX6_senderDigest_102 rfl 1 rfl ?_
    refine g_iload_n (pc := 103) dX6_senderDigest_103 rfl 2 rfl ?_
    obtain ⟨Q14, hc, h⟩ := h
    refine g_callVI (pc := 104) (M' := mX6_restOf) (n := 6) (As := [.int x3]) (st := [.long ((31 : Int64) * (((31 : Int64) * v10) + r12))]) dX6_senderDigest_104 ml_X6_190 ok_X6_restOf rfl (rmOk_M _ _ _) (by decide) rc_25 (Nat.le_of_ble_eq_true rfl) rfl hc (fun r15 τ16 hq => ?_)
    have h := h r15 τ16 hq
    refine g_i2l (pc := 107) dX6_senderDigest_107 ?_
    refine g_ladd (pc := 108) dX6_senderDigest_108 ?_
    refine g_lstore (pc := 109) [(4, _), (0, _), (3, _), (6, _)] dX6_senderDigest_109 (Nat.le_of_ble_eq_true rfl) rfl ?_
    refine g_iconst (pc := 111) (0 : Int32) dX6_senderDigest_111 rfl ?_
    refine g_istore (pc := 112) [(6, _), (4, _), (0, _), (3, _)] dX6_senderDigest_112 (Nat.le_of_ble_eq_true rfl) rfl ?_
    refine g_pm [2, 3, 1, 0] rfl ?_
    exact h
  · have h := h.2 q
    refine g_ldc2 (pc := 13) (31 : Int64) kl_X6_211 dX6_senderDigest_13 ?_
    refine g_lload (pc := 16) dX6_senderDigest_16 2 rfl ?_
    refine g_lmul (pc := 18) dX6_senderDigest_18 ?_
    refine g_aload_n (pc := 19) dX6_senderDigest_19 rfl 0 rfl ?_
    refine g_iload_n (pc := 20) dX6_senderDigest_20 rfl 1 rfl ?_
    refine g_iload (pc := 21) dX6_senderDigest_21 3 rfl ?_
    obtain ⟨Q17, hc, h⟩ := h
    refine g_callVI (pc := 23) (M' := mX6_infoOf) (n := 6) (As := [.int x3, .int x6]) (st := [.long ((31 : Int64) * x4)]) dX6_senderDigest_23 ml_X6_123 ok_X6_infoOf rfl (rmOk_M _ _ _) (by decide) rc_25 (Nat.le_of_ble_eq_true rfl) rfl hc (fun r18 τ19 hq => ?_)
    have h := h r18 τ19 hq
    refine g_i2l (pc := 26) dX6_senderDigest_26 ?_
    refine g_ladd (pc := 27) dX6_senderDigest_27 ?_
    refine g_lstore (pc := 28) [(4, _), (0, _), (3, _), (6, _)] dX6_senderDigest_28 (Nat.le_of_ble_eq_true rfl) rfl ?_
    refine g_iinc (pc := 30) (1 : Int32) [(6, _), (4, _), (0, _), (3, _)] dX6_senderDigest_30 3 rfl rfl (Nat.le_of_ble_eq_true rfl) rfl ?_
    refine g_goto (pc := 33) 6 dX6_senderDigest_33 (by decide) ?_
    refine g_pm [2, 3, 1, 0] rfl ?_
    exact h
set_option maxHeartbeats 4000000 in
set_option maxRecDepth 100000 in
theorem t_X6_senderDigest_114 {Γ : GT} {Q : Int64 → St → Prop} (σ : St) (x3 : Int32) (x4 : Int64) (x6 : Int32)
    (h : (((σ.1 25 0) ≤ x6) → (Q x4 σ)) ∧ ((¬ (σ.1 25 0) ≤ x6) → (vp_in (((5 : Int32) * x3) + x6) 25 ∧ (∀ v20 : Int64, v20 = (((31 : Int64) * x4) + ((σ.1 26 (((5 : Int32) * x3) + x6).toNatClampNeg).toInt64)) → G Γ mX6_senderDigest (NJ Γ 6 Q) 114 [(0, rf Γ 25), (3, .int x3), (4, .long v20), (6, .int (x6 + (1 : Int32)))] [] σ)))) :
    G Γ mX6_senderDigest (NJ Γ 6 Q) 114 [(0, rf Γ 25), (3, .int x3), (4, .long x4), (6, .int x6)] [] σ := by
  refine g_iload (pc := 114) dX6_senderDigest_114 3 rfl ?_
  refine g_aload_n (pc := 116) dX6_senderDigest_116 rfl 0 rfl ?_
  refine g_getI (pc := 117) 25 6 0 fi_25_0 fl_X6_7 dX6_senderDigest_117 ?_
  refine g_icmp_ge (pc := 120) 150 dX6_senderDigest_120 (by decide) (fun q => ?_) (fun q => ?_)
  · have h := h.1 q
    refine g_lload (pc := 150) dX6_senderDigest_150 2 rfl ?_
    exact g_lret (pc := 152) rfl dX6_senderDigest_152 h
  · have h := h.2 q
    refine g_ldc2 (pc := 123) (31 : Int64) kl_X6_211 dX6_senderDigest_123 ?_
    refine g_lload (pc := 126) dX6_senderDigest_126 2 rfl ?_
    refine g_lmul (pc := 128) dX6_senderDigest_128 ?_
    refine g_aload_n (pc := 129) dX6_senderDigest_129 rfl 0 rfl ?_
    refine g_getR (pc := 130) 25 6 2 26 fr_25_2 fl_X6_13 dX6_senderDigest_130 ?_
    refine g_iconst (pc := 133) (5 : Int32) dX6_senderDigest_133 rfl ?_
    refine g_iload_n (pc := 134) dX6_senderDigest_134 rfl 1 rfl ?_
    refine g_imul (pc := 135) dX6_senderDigest_135 ?_
    refine g_iload (pc := 136) dX6_senderDigest_136 3 rfl ?_
    refine g_iadd (pc := 138) dX6_senderDigest_138 ?_
    refine g_iald (pc := 139) 26 25 ar_26 h.1 dX6_senderDigest_139 ?_
    have h := h.2
    refine g_i2l (pc := 140) dX6_senderDigest_140 ?_
    refine g_ladd (pc := 141) dX6_senderDigest_141 ?_
    refine g_topJ (fun v20 ev20 => ?_)
    refine g_lstore (pc := 142) [(4, _), (0, _), (3, _), (6, _)] dX6_senderDigest_142 (Nat.le_of_ble_eq_true rfl) rfl ?_
    have h := h v20 ev20
    refine g_iinc (pc := 144) (1 : Int32) [(6, _), (4, _), (0, _), (3, _)] dX6_senderDigest_144 3 rfl rfl (Nat.le_of_ble_eq_true rfl) rfl ?_
    refine g_goto (pc := 147) 114 dX6_senderDigest_147 (by decide) ?_
    refine g_pm [2, 3, 1, 0] rfl ?_
    exact h
set_option maxHeartbeats 4000000 in
set_option maxRecDepth 100000 in
theorem ct_X6_digest {Γ : GT} {Q : Int64 → St → Prop} (σ : St) 
    (h : G Γ mX6_digest (NJ Γ 7 Q) 6 [(0, rf Γ 25), (1, .long (17 : Int64)), (3, .int (0 : Int32))] [] σ) :
    CtJ Γ mX6_digest 7 [rf Γ 25] σ Q := by
  refine ct_of (by decide +kernel) (Nat.le_of_ble_eq_true rfl) ?_
  show G Γ mX6_digest (NJ Γ 7 Q) 0 [(0, rf Γ 25)] [] σ
  refine g_ldc2 (pc := 0) (17 : Int64) kl_X6_219 dX6_digest_0 ?_
  refine g_lstore_n (pc := 3) [(1, _), (0, _)] dX6_digest_3 rfl (Nat.le_of_ble_eq_true rfl) rfl ?_
  refine g_iconst (pc := 4) (0 : Int32) dX6_digest_4 rfl ?_
  refine g_istore_n (pc := 5) [(3, _), (1, _), (0, _)] dX6_digest_5 rfl (Nat.le_of_ble_eq_true rfl) rfl ?_
  refine g_pm [2, 1, 0] rfl ?_
  exact h
set_option maxHeartbeats 4000000 in
set_option maxRecDepth 100000 in
theorem t_X6_digest_6 {Γ : GT} {Q : Int64 → St → Prop} (σ : St) (x1 : Int64) (x3 : Int32)
    (h : (((8 : Int32) ≤ x3) → (∃ Q1 : Int32 → St → Prop, CtI Γ mX6_fault 2 [rf Γ 25] σ Q1 ∧ ∀ (r2 : Int32) (τ3 : St), Q1 r2 τ3 → (∃ Q4 : Int32 → St → Prop, CtI Γ mX6_feasible 5 [rf Γ 25] τ3 Q4 ∧ ∀ (r5 : Int32) (τ6 : St), Q4 r5 τ6 → (∃ Q7 : Int32 → St → Prop, CtI Γ mX6_witnessNow 5 [rf Γ 25] τ6 Q7 ∧ ∀ (r8 : Int32) (τ9 : St), Q7 r8 τ9 → (∀ v10 : Int64, v10 = (((31 : Int64) * (((31 : Int64) * (((31 : Int64) * x1) + r2.toInt64)) + r5.toInt64)) + r8.toInt64) → ∃ Q11 : Int32 → St → Prop, CtI Γ mX6_outNow 4 [rf Γ 25] τ9 Q11 ∧ ∀ (r12 : Int32) (τ13 : St), Q11 r12 τ13 → (∃ Q14 : Int32 → St → Prop, CtI Γ mX6_admittedNow 4 [rf Γ 25] τ13 Q14 ∧ ∀ (r15 : Int32) (τ16 : St), Q14 r15 τ16 → (∃ Q17 : Int32 → St → Prop, CtI Γ mX6_softer 5 [rf Γ 25] τ16 Q17 ∧ ∀ (r18 : Int32) (τ19 : St), Q17 r18 τ19 → (∀ v20 : Int64, v20 = (((31 : Int64) * (((31 : Int64) * (((31 : Int64) * v10) + r12.toInt64)) + r15.toInt64)) + r18.toInt64) → ∃ Q21 : Int32 → St → Prop, CtI Γ mX6_margin 4 [rf Γ 25] τ19 Q21 ∧ ∀ (r22 : Int32) (τ23 : St), Q21 r22 τ23 → (∃ Q24 : Int32 → St → Prop, CtI Γ mX6_metNow 2 [rf Γ 25] τ23 Q24 ∧ ∀ (r25 : Int32) (τ26 : St), Q24 r25 τ26 → (G Γ mX6_digest (NJ Γ 7 Q) 129 [(0, rf Γ 25), (1, .long (((31 : Int64) * (((31 : Int64) * v20) + r22.toInt64)) + r25.toInt64)), (3, .int (0 : Int32))] [] τ26)))))))))) ∧ ((¬ (8 : Int32) ≤ x3) → (∃ Q27 : Int32 → St → Prop, CtI Γ mX6_count 5 [rf Γ 25, .int x3] σ Q27 ∧ ∀ (r28 : Int32) (τ29 : St), Q27 r28 τ29 → (G Γ mX6_digest (NJ Γ 7 Q) 6 [(0, rf Γ 25), (1, .long (((31 : Int64) * x1) + r28.toInt64)), (3, .int (x3 + (1 : Int32)))] [] τ29)))) :
    G Γ mX6_digest (NJ Γ 7 Q) 6 [(0, rf Γ 25), (1, .long x1), (3, .int x3)] [] σ := by
  refine g_iload_n (pc := 6) dX6_digest_6 rfl 2 rfl ?_
  refine g_bipush (pc := 7) (8 : Int32) dX6_digest_7 rfl ?_
  refine g_icmp_ge (pc := 9) 31 dX6_digest_9 (by decide) (fun q => ?_) (fun q => ?_)
  · have h := h.1 q
    refine g_ldc2 (pc := 31) (31 : Int64) kl_X6_211 dX6_digest_31 ?_
    refine g_lload_n (pc := 34) dX6_digest_34 rfl 1 rfl ?_
    refine g_lmul (pc := 35) dX6_digest_35 ?_
    refine g_aload_n (pc := 36) dX6_digest_36 rfl 0 rfl ?_
    obtain ⟨Q1, hc, h⟩ := h
    refine g_callVI (pc := 37) (M' := mX6_fault) (n := 7) (As := []) (st := [.long ((31 : Int64) * x1)]) dX6_digest_37 ml_X6_184 ok_X6_fault rfl (rmOk_M _ _ _) (by decide) rc_25 (Nat.le_of_ble_eq_true rfl) rfl hc (fun r2 τ3 hq => ?_)
    have h := h r2 τ3 hq
    refine g_i2l (pc := 40) dX6_digest_40 ?_
    refine g_ladd (pc := 41) dX6_digest_41 ?_
    refine g_lstore_n (pc := 42) [(1, _), (0, _), (3, _)] dX6_digest_42 rfl (Nat.le_of_ble_eq_true rfl) rfl ?_
    refine g_ldc2 (pc := 43) (31 : Int64) kl_X6_211 dX6_digest_43 ?_
    refine g_lload_n (pc := 46) dX6_digest_46 rfl 0 rfl ?_
    refine g_lmul (pc := 47) dX6_digest_47 ?_
    refine g_aload_n (pc := 48) dX6_digest_48 rfl 1 rfl ?_
    obtain ⟨Q4, hc, h⟩ := h
    refine g_callVI (pc := 49) (M' := mX6_feasible) (n := 7) (As := []) (st := [.long ((31 : Int64) * (((31 : Int64) * x1) + r2.toInt64))]) dX6_digest_49 ml_X6_224 ok_X6_feasible rfl (rmOk_M _ _ _) (by decide) rc_25 (Nat.le_of_ble_eq_true rfl) rfl hc (fun r5 τ6 hq => ?_)
    have h := h r5 τ6 hq
    refine g_i2l (pc := 52) dX6_digest_52 ?_
    refine g_ladd (pc := 53) dX6_digest_53 ?_
    refine g_lstore_n (pc := 54) [(1, _), (0, _), (3, _)] dX6_digest_54 rfl (Nat.le_of_ble_eq_true rfl) rfl ?_
    refine g_ldc2 (pc := 55) (31 : Int64) kl_X6_211 dX6_digest_55 ?_
    refine g_lload_n (pc := 58) dX6_digest_58 rfl 0 rfl ?_
    refine g_lmul (pc := 59) dX6_digest_59 ?_
    refine g_aload_n (pc := 60) dX6_digest_60 rfl 1 rfl ?_
    obtain ⟨Q7, hc, h⟩ := h
    refine g_callVI (pc := 61) (M' := mX6_witnessNow) (n := 7) (As := []) (st := [.long ((31 : Int64) * (((31 : Int64) * (((31 : Int64) * x1) + r2.toInt64)) + r5.toInt64))]) dX6_digest_61 ml_X6_163 ok_X6_witnessNow rfl (rmOk_M _ _ _) (by decide) rc_25 (Nat.le_of_ble_eq_true rfl) rfl hc (fun r8 τ9 hq => ?_)
    have h := h r8 τ9 hq
    refine g_i2l (pc := 64) dX6_digest_64 ?_
    refine g_ladd (pc := 65) dX6_digest_65 ?_
    refine g_topJ (fun v10 ev10 => ?_)
    refine g_lstore_n (pc := 66) [(1, _), (0, _), (3, _)] dX6_digest_66 rfl (Nat.le_of_ble_eq_true rfl) rfl ?_
    have h := h v10 ev10
    refine g_ldc2 (pc := 67) (31 : Int64) kl_X6_211 dX6_digest_67 ?_
    refine g_lload_n (pc := 70) dX6_digest_70 rfl 0 rfl ?_
    refine g_lmul (pc := 71) dX6_digest_71 ?_
    refine g_aload_n (pc := 72) dX6_digest_72 rfl 1 rfl ?_
    obtain ⟨Q11, hc, h⟩ := h
    refine g_callVI (pc := 73) (M' := mX6_outNow) (n := 7) (As := []) (st := [.long ((31 : Int64) * v10)]) dX6_digest_73 ml_X6_166 ok_X6_outNow rfl (rmOk_M _ _ _) (by decide) rc_25 (Nat.le_of_ble_eq_true rfl) rfl hc (fun r12 τ13 hq => ?_)
    have h := h r12 τ13 hq
    refine g_i2l (pc := 76) dX6_digest_76 ?_
    refine g_ladd (pc := 77) dX6_digest_77 ?_
    refine g_lstore_n (pc := 78) [(1, _), (0, _), (3, _)] dX6_digest_78 rfl (Nat.le_of_ble_eq_true rfl) rfl ?_
    refine g_ldc2 (pc := 79) (31 : Int64) kl_X6_211 dX6_digest_79 ?_
    refine g_lload_n (pc := 82) dX6_digest_82 rfl 0 rfl ?_
    refine g_lmul (pc := 83) dX6_digest_83 ?_
    refine g_aload_n (pc := 84) dX6_digest_84 rfl 1 rfl ?_
    obtain ⟨Q14, hc, h⟩ := h
    refine g_callVI (pc := 85) (M' := mX6_admittedNow) (n := 7) (As := []) (st := [.long ((31 : Int64) * (((31 : Int64) * v10) + r12.toInt64))]) dX6_digest_85 ml_X6_169 ok_X6_admittedNow rfl (rmOk_M _ _ _) (by decide) rc_25 (Nat.le_of_ble_eq_true rfl) rfl hc (fun r15 τ16 hq => ?_)
    have h := h r15 τ16 hq
    refine g_i2l (pc := 88) dX6_digest_88 ?_
    refine g_ladd (pc := 89) dX6_digest_89 ?_
    refine g_lstore_n (pc := 90) [(1, _), (0, _), (3, _)] dX6_digest_90 rfl (Nat.le_of_ble_eq_true rfl) rfl ?_
    refine g_ldc2 (pc := 91) (31 : Int64) kl_X6_211 dX6_digest_91 ?_
    refine g_lload_n (pc := 94) dX6_digest_94 rfl 0 rfl ?_
    refine g_lmul (pc := 95) dX6_digest_95 ?_
    refine g_aload_n (pc := 96) dX6_digest_96 rfl 1 rfl ?_
    obtain ⟨Q17, hc, h⟩ := h
    refine g_callVI (pc := 97) (M' := mX6_softer) (n := 7) (As := []) (st := [.long ((31 : Int64) * (((31 : Int64) * (((31 : Int64) * v10) + r12.toInt64)) + r15.toInt64))]) dX6_digest_97 ml_X6_227 ok_X6_softer rfl (rmOk_M _ _ _) (by decide) rc_25 (Nat.le_of_ble_eq_true rfl) rfl hc (fun r18 τ19 hq => ?_)
    have h := h r18 τ19 hq
    refine g_i2l (pc := 100) dX6_digest_100 ?_
    refine g_ladd (pc := 101) dX6_digest_101 ?_
    refine g_topJ (fun v20 ev20 => ?_)
    refine g_lstore_n (pc := 102) [(1, _), (0, _), (3, _)] dX6_digest_102 rfl (Nat.le_of_ble_eq_true rfl) rfl ?_
    have h := h v20 ev20
    refine g_ldc2 (pc := 103) (31 : Int64) kl_X6_211 dX6_digest_103 ?_
    refine g_lload_n (pc := 106) dX6_digest_106 rfl 0 rfl ?_
    refine g_lmul (pc := 107) dX6_digest_107 ?_
    refine g_aload_n (pc := 108) dX6_digest_108 rfl 1 rfl ?_
    obtain ⟨Q21, hc, h⟩ := h
    refine g_callVI (pc := 109) (M' := mX6_margin) (n := 7) (As := []) (st := [.long ((31 : Int64) * v20)]) dX6_digest_109 ml_X6_230 ok_X6_margin rfl (rmOk_M _ _ _) (by decide) rc_25 (Nat.le_of_ble_eq_true rfl) rfl hc (fun r22 τ23 hq => ?_)
    have h := h r22 τ23 hq
    refine g_i2l (pc := 112) dX6_digest_112 ?_
    refine g_ladd (pc := 113) dX6_digest_113 ?_
    refine g_lstore_n (pc := 114) [(1, _), (0, _), (3, _)] dX6_digest_114 rfl (Nat.le_of_ble_eq_true rfl) rfl ?_
    refine g_ldc2 (pc := 115) (31 : Int64) kl_X6_211 dX6_digest_115 ?_
    refine g_lload_n (pc := 118) dX6_digest_118 rfl 0 rfl ?_
    refine g_lmul (pc := 119) dX6_digest_119 ?_
    refine g_aload_n (pc := 120) dX6_digest_120 rfl 1 rfl ?_
    obtain ⟨Q24, hc, h⟩ := h
    refine g_callVI (pc := 121) (M' := mX6_metNow) (n := 7) (As := []) (st := [.long ((31 : Int64) * (((31 : Int64) * v20) + r22.toInt64))]) dX6_digest_121 ml_X6_193 ok_X6_metNow rfl (rmOk_M _ _ _) (by decide) rc_25 (Nat.le_of_ble_eq_true rfl) rfl hc (fun r25 τ26 hq => ?_)
    have h := h r25 τ26 hq
    refine g_i2l (pc := 124) dX6_digest_124 ?_
    refine g_ladd (pc := 125) dX6_digest_125 ?_
    refine g_lstore_n (pc := 126) [(1, _), (0, _), (3, _)] dX6_digest_126 rfl (Nat.le_of_ble_eq_true rfl) rfl ?_
    refine g_iconst (pc := 127) (0 : Int32) dX6_digest_127 rfl ?_
    refine g_istore_n (pc := 128) [(3, _), (1, _), (0, _)] dX6_digest_128 rfl (Nat.le_of_ble_eq_true rfl) rfl ?_
    refine g_pm [2, 1, 0] rfl ?_
    exact h
  · have h := h.2 q
    refine g_ldc2 (pc := 12) (31 : Int64) kl_X6_211 dX6_digest_12 ?_
    refine g_lload_n (pc := 15) dX6_digest_15 rfl 1 rfl ?_
    refine g_lmul (pc := 16) dX6_digest_16 ?_
    refine g_aload_n (pc := 17) dX6_digest_17 rfl 0 rfl ?_
    refine g_iload_n (pc := 18) dX6_digest_18 rfl 2 rfl ?_
    obtain ⟨Q27, hc, h⟩ := h
    refine g_callVI (pc := 19) (M' := mX6_count) (n := 7) (As := [.int x3]) (st := [.long ((31 : Int64) * x1)]) dX6_digest_19 ml_X6_221 ok_X6_count rfl (rmOk_M _ _ _) (by decide) rc_25 (Nat.le_of_ble_eq_true rfl) rfl hc (fun r28 τ29 hq => ?_)
    have h := h r28 τ29 hq
    refine g_i2l (pc := 22) dX6_digest_22 ?_
    refine g_ladd (pc := 23) dX6_digest_23 ?_
    refine g_lstore_n (pc := 24) [(1, _), (0, _), (3, _)] dX6_digest_24 rfl (Nat.le_of_ble_eq_true rfl) rfl ?_
    refine g_iinc (pc := 25) (1 : Int32) [(3, _), (1, _), (0, _)] dX6_digest_25 2 rfl rfl (Nat.le_of_ble_eq_true rfl) rfl ?_
    refine g_goto (pc := 28) 6 dX6_digest_28 (by decide) ?_
    refine g_pm [2, 1, 0] rfl ?_
    exact h
set_option maxHeartbeats 4000000 in
set_option maxRecDepth 100000 in
theorem t_X6_digest_129 {Γ : GT} {Q : Int64 → St → Prop} (σ : St) (x1 : Int64) (x3 : Int32)
    (h : (((σ.1 25 0) ≤ x3) → (G Γ mX6_digest (NJ Γ 7 Q) 152 [(0, rf Γ 25), (1, .long x1), (3, .int (0 : Int32))] [] σ)) ∧ ((¬ (σ.1 25 0) ≤ x3) → (∃ Q30 : Int64 → St → Prop, CtJ Γ mX6_senderDigest 6 [rf Γ 25, .long x1, .int x3] σ Q30 ∧ ∀ (r31 : Int64) (τ32 : St), Q30 r31 τ32 → (G Γ mX6_digest (NJ Γ 7 Q) 129 [(0, rf Γ 25), (1, .long r31), (3, .int (x3 + (1 : Int32)))] [] τ32)))) :
    G Γ mX6_digest (NJ Γ 7 Q) 129 [(0, rf Γ 25), (1, .long x1), (3, .int x3)] [] σ := by
  refine g_iload_n (pc := 129) dX6_digest_129 rfl 2 rfl ?_
  refine g_aload_n (pc := 130) dX6_digest_130 rfl 0 rfl ?_
  refine g_getI (pc := 131) 25 6 0 fi_25_0 fl_X6_7 dX6_digest_131 ?_
  refine g_icmp_ge (pc := 134) 150 dX6_digest_134 (by decide) (fun q => ?_) (fun q => ?_)
  · have h := h.1 q
    refine g_iconst (pc := 150) (0 : Int32) dX6_digest_150 rfl ?_
    refine g_istore_n (pc := 151) [(3, _), (0, _), (1, _)] dX6_digest_151 rfl (Nat.le_of_ble_eq_true rfl) rfl ?_
    refine g_pm [1, 2, 0] rfl ?_
    exact h
  · have h := h.2 q
    refine g_aload_n (pc := 137) dX6_digest_137 rfl 0 rfl ?_
    refine g_lload_n (pc := 138) dX6_digest_138 rfl 1 rfl ?_
    refine g_iload_n (pc := 139) dX6_digest_139 rfl 2 rfl ?_
    obtain ⟨Q30, hc, h⟩ := h
    refine g_callVJ (pc := 140) (M' := mX6_senderDigest) (n := 7) (As := [.long x1, .int x3]) (st := []) dX6_digest_140 ml_X6_233 ok_X6_senderDigest rfl (rmOk_M _ _ _) (by decide) rc_25 (Nat.le_of_ble_eq_true rfl) rfl hc (fun r31 τ32 hq => ?_)
    have h := h r31 τ32 hq
    refine g_lstore_n (pc := 143) [(1, _), (0, _), (3, _)] dX6_digest_143 rfl (Nat.le_of_ble_eq_true rfl) rfl ?_
    refine g_iinc (pc := 144) (1 : Int32) [(3, _), (1, _), (0, _)] dX6_digest_144 2 rfl rfl (Nat.le_of_ble_eq_true rfl) rfl ?_
    refine g_goto (pc := 147) 129 dX6_digest_147 (by decide) ?_
    refine g_pm [2, 1, 0] rfl ?_
    exact h
set_option maxHeartbeats 4000000 in
set_option maxRecDepth 100000 in
theorem t_X6_digest_152 {Γ : GT} {Q : Int64 → St → Prop} (σ : St) (x1 : Int64) (x3 : Int32)
    (h : ((((1 : Int32) <<< ((σ.1 25 0) &&& 31)) ≤ x3) → (Q x1 σ)) ∧ ((¬ ((1 : Int32) <<< ((σ.1 25 0) &&& 31)) ≤ x3) → (∃ Q33 : Int64 → St → Prop, CtJ Γ mX6_minor 3 [rf Γ 25, .int x3] σ Q33 ∧ ∀ (r34 : Int64) (τ35 : St), Q33 r34 τ35 → (G Γ mX6_digest (NJ Γ 7 Q) 152 [(0, rf Γ 25), (1, .long (((31 : Int64) * x1) + r34)), (3, .int (x3 + (1 : Int32)))] [] τ35)))) :
    G Γ mX6_digest (NJ Γ 7 Q) 152 [(0, rf Γ 25), (1, .long x1), (3, .int x3)] [] σ := by
  refine g_iload_n (pc := 152) dX6_digest_152 rfl 2 rfl ?_
  refine g_iconst (pc := 153) (1 : Int32) dX6_digest_153 rfl ?_
  refine g_aload_n (pc := 154) dX6_digest_154 rfl 0 rfl ?_
  refine g_getI (pc := 155) 25 6 0 fi_25_0 fl_X6_7 dX6_digest_155 ?_
  refine g_ishl (pc := 158) dX6_digest_158 ?_
  refine g_icmp_ge (pc := 159) 180 dX6_digest_159 (by decide) (fun q => ?_) (fun q => ?_)
  · have h := h.1 q
    refine g_lload_n (pc := 180) dX6_digest_180 rfl 1 rfl ?_
    exact g_lret (pc := 181) rfl dX6_digest_181 h
  · have h := h.2 q
    refine g_ldc2 (pc := 162) (31 : Int64) kl_X6_211 dX6_digest_162 ?_
    refine g_lload_n (pc := 165) dX6_digest_165 rfl 1 rfl ?_
    refine g_lmul (pc := 166) dX6_digest_166 ?_
    refine g_aload_n (pc := 167) dX6_digest_167 rfl 0 rfl ?_
    refine g_iload_n (pc := 168) dX6_digest_168 rfl 2 rfl ?_
    obtain ⟨Q33, hc, h⟩ := h
    refine g_callVJ (pc := 169) (M' := mX6_minor) (n := 7) (As := [.int x3]) (st := [.long ((31 : Int64) * x1)]) dX6_digest_169 ml_X6_237 ok_X6_minor rfl (rmOk_M _ _ _) (by decide) rc_25 (Nat.le_of_ble_eq_true rfl) rfl hc (fun r34 τ35 hq => ?_)
    have h := h r34 τ35 hq
    refine g_ladd (pc := 172) dX6_digest_172 ?_
    refine g_lstore_n (pc := 173) [(1, _), (0, _), (3, _)] dX6_digest_173 rfl (Nat.le_of_ble_eq_true rfl) rfl ?_
    refine g_iinc (pc := 174) (1 : Int32) [(3, _), (1, _), (0, _)] dX6_digest_174 2 rfl rfl (Nat.le_of_ble_eq_true rfl) rfl ?_
    refine g_goto (pc := 177) 152 dX6_digest_177 (by decide) ?_
    refine g_pm [2, 1, 0] rfl ?_
    exact h
