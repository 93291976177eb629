set_option maxHeartbeats 4000000 in
set_option maxRecDepth 100000 in
theorem ct_X5_senders {Γ : GT} {Q : Int32 → St → Prop} (σ : St) (x1 : Int32)
    (h : ((x1 < (1 : Int32)) → (Q (-2 : Int32) σ)) ∧ ((¬ x1 < (1 : Int32)) → (((x1 ≤ (5 : Int32)) → (Q (σ.1 1 0) (sI σ 1 0 x1))) ∧ ((¬ x1 ≤ (5 : Int32)) → (Q (-2 : Int32) σ))))) :
    CtI Γ mX5_senders 0 [rf Γ 0, .int x1] σ Q := by
  refine ct_of (by decide +kernel) (Nat.le_of_ble_eq_true rfl) ?_
  show G Γ mX5_senders (NI Γ 0 Q) 0 [(0, rf Γ 0), (1, .int x1)] [] σ
  refine g_iload_n (pc := 0) dX5_senders_0 rfl 1 rfl ?_
  refine g_iconst (pc := 1) (1 : Int32) dX5_senders_1 rfl ?_
  refine g_icmp_lt (pc := 2) 10 dX5_senders_2 (by decide) (fun q => ?_) (fun q => ?_)
  · have h := h.1 q
    refine g_bipush (pc := 10) (-2 : Int32) dX5_senders_10 rfl ?_
    exact g_iret (pc := 12) rfl dX5_senders_12 h
  · have h := h.2 q
    refine g_iload_n (pc := 5) dX5_senders_5 rfl 1 rfl ?_
    refine g_iconst (pc := 6) (5 : Int32) dX5_senders_6 rfl ?_
    refine g_icmp_le (pc := 7) 13 dX5_senders_7 (by decide) (fun q => ?_) (fun q => ?_)
    · have h := h.1 q
      refine g_aload_n (pc := 13) dX5_senders_13 rfl 0 rfl ?_
      refine g_getR (pc := 14) 0 5 0 1 fr_0_0 fl_X5_10 dX5_senders_14 ?_
      refine g_getI (pc := 17) 1 1 0 fi_1_0 fl_X5_50 dX5_senders_17 ?_
      refine g_istore_n (pc := 20) [(2, _), (0, _), (1, _)] dX5_senders_20 rfl (Nat.le_of_ble_eq_true rfl) rfl ?_
      refine g_aload_n (pc := 21) dX5_senders_21 rfl 1 rfl ?_
      refine g_getR (pc := 22) 0 5 0 1 fr_0_0 fl_X5_10 dX5_senders_22 ?_
      refine g_iload_n (pc := 25) dX5_senders_25 rfl 2 rfl ?_
      refine g_put (pc := 26) 1 1 0 fpp_1_0 fp_X5_50 dX5_senders_26 ?_
      refine g_iload_n (pc := 29) dX5_senders_29 rfl 0 rfl ?_
      exact g_iret (pc := 30) rfl dX5_senders_30 h
    · have h := h.2 q
      refine g_bipush (pc := 10) (-2 : Int32) dX5_senders_10 rfl ?_
      exact g_iret (pc := 12) rfl dX5_senders_12 h
set_option maxHeartbeats 4000000 in
set_option maxRecDepth 100000 in
theorem ct_X5_gain {Γ : GT} {Q : Int32 → St → Prop} (σ : St) (x1 : Int32) (x2 : Int32) (x3 : Int32)
    (h : ∃ Q1 : Int32 → St → Prop, CtI Γ mX1_isThere 0 [rf Γ 1, .int x1] σ Q1 ∧ ∀ (r2 : Int32) (τ3 : St), Q1 r2 τ3 → (((r2 = 0) → (Q (-2 : Int32) τ3)) ∧ ((¬ r2 = 0) → (∃ Q4 : Int32 → St → Prop, CtI Γ mX1_isThere 0 [rf Γ 1, .int x2] τ3 Q4 ∧ ∀ (r5 : Int32) (τ6 : St), Q4 r5 τ6 → (((r5 = 0) → (Q (-2 : Int32) τ6)) ∧ ((¬ r5 = 0) → (∃ Q7 : Int32 → St → Prop, CtI Γ mX1_mayBeGain 0 [.int x1, .int x2, .int x3] τ6 Q7 ∧ ∀ (r8 : Int32) (τ9 : St), Q7 r8 τ9 → (((¬ r8 = 0) → (∃ Q10 : Int32 → St → Prop, CtI Γ mX1_gainOf 0 [rf Γ 1, .int x1, .int x2] τ9 Q10 ∧ ∀ (r11 : Int32) (τ12 : St), Q10 r11 τ12 → (∃ Q13 : St → Prop, CtV Γ mX1_tellGain 0 [rf Γ 1, .int x1, .int x2, .int x3] τ12 Q13 ∧ ∀ (τ15 : St), Q13 τ15 → (Q r11 τ15)))) ∧ ((r8 = 0) → (Q (-2 : Int32) τ9)))))))))) :
    CtI Γ mX5_gain 1 [rf Γ 0, .int x1, .int x2, .int x3] σ Q := by
  refine ct_of (by decide +kernel) (Nat.le_of_ble_eq_true rfl) ?_
  show G Γ mX5_gain (NI Γ 1 Q) 0 [(0, rf Γ 0), (1, .int x1), (2, .int x2), (3, .int x3)] [] σ
  refine g_aload_n (pc := 0) dX5_gain_0 rfl 0 rfl ?_
  refine g_getR (pc := 1) 0 5 0 1 fr_0_0 fl_X5_10 dX5_gain_1 ?_
  refine g_iload_n (pc := 4) dX5_gain_4 rfl 1 rfl ?_
  obtain ⟨Q1, hc, h⟩ := h
  refine g_callVI (pc := 5) (M' := mX1_isThere) (n := 1) (As := [.int x1]) (st := []) dX5_gain_5 ml_X5_53 ok_X1_isThere rfl (rmOk_M _ _ _) (by decide) rc_1 (Nat.le_of_ble_eq_true rfl) rfl hc (fun r2 τ3 hq => ?_)
  have h := h r2 τ3 hq
  refine g_if_eq (pc := 8) 31 dX5_gain_8 (by decide) (fun q => ?_) (fun q => ?_)
  · have h := h.1 q
    refine g_bipush (pc := 31) (-2 : Int32) dX5_gain_31 rfl ?_
    exact g_iret (pc := 33) rfl dX5_gain_33 h
  · have h := h.2 q
    refine g_aload_n (pc := 11) dX5_gain_11 rfl 0 rfl ?_
    refine g_getR (pc := 12) 0 5 0 1 fr_0_0 fl_X5_10 dX5_gain_12 ?_
    refine g_iload_n (pc := 15) dX5_gain_15 rfl 2 rfl ?_
    obtain ⟨Q4, hc, h⟩ := h
    refine g_callVI (pc := 16) (M' := mX1_isThere) (n := 1) (As := [.int x2]) (st := []) dX5_gain_16 ml_X5_53 ok_X1_isThere rfl (rmOk_M _ _ _) (by decide) rc_1 (Nat.le_of_ble_eq_true rfl) rfl hc (fun r5 τ6 hq => ?_)
    have h := h r5 τ6 hq
    refine g_if_eq (pc := 19) 31 dX5_gain_19 (by decide) (fun q => ?_) (fun q => ?_)
    · have h := h.1 q
      refine g_bipush (pc := 31) (-2 : Int32) dX5_gain_31 rfl ?_
      exact g_iret (pc := 33) rfl dX5_gain_33 h
    · have h := h.2 q
      refine g_iload_n (pc := 22) dX5_gain_22 rfl 1 rfl ?_
      refine g_iload_n (pc := 23) dX5_gain_23 rfl 2 rfl ?_
      refine g_iload_n (pc := 24) dX5_gain_24 rfl 3 rfl ?_
      obtain ⟨Q7, hc, h⟩ := h
      refine g_callSI (pc := 25) (M' := mX1_mayBeGain) (n := 1) (As := [.int x1, .int x2, .int x3]) (st := []) dX5_gain_25 ml_X5_57 ok_X1_mayBeGain rfl (rmOk_M _ _ _) (by decide) (Nat.le_of_ble_eq_true rfl) rfl hc (fun r8 τ9 hq => ?_)
      have h := h r8 τ9 hq
      refine g_if_ne (pc := 28) 34 dX5_gain_28 (by decide) (fun q => ?_) (fun q => ?_)
      · have h := h.1 q
        refine g_aload_n (pc := 34) dX5_gain_34 rfl 0 rfl ?_
        refine g_getR (pc := 35) 0 5 0 1 fr_0_0 fl_X5_10 dX5_gain_35 ?_
        refine g_iload_n (pc := 38) dX5_gain_38 rfl 1 rfl ?_
        refine g_iload_n (pc := 39) dX5_gain_39 rfl 2 rfl ?_
        obtain ⟨Q10, hc, h⟩ := h
        refine g_callVI (pc := 40) (M' := mX1_gainOf) (n := 1) (As := [.int x1, .int x2]) (st := []) dX5_gain_40 ml_X5_61 ok_X1_gainOf rfl (rmOk_M _ _ _) (by decide) rc_1 (Nat.le_of_ble_eq_true rfl) rfl hc (fun r11 τ12 hq => ?_)
        have h := h r11 τ12 hq
        refine g_istore (pc := 43) [(4, _), (0, _), (1, _), (2, _), (3, _)] dX5_gain_43 (Nat.le_of_ble_eq_true rfl) rfl ?_
        refine g_aload_n (pc := 45) dX5_gain_45 rfl 1 rfl ?_
        refine g_getR (pc := 46) 0 5 0 1 fr_0_0 fl_X5_10 dX5_gain_46 ?_
        refine g_iload_n (pc := 49) dX5_gain_49 rfl 2 rfl ?_
        refine g_iload_n (pc := 50) dX5_gain_50 rfl 3 rfl ?_
        refine g_iload_n (pc := 51) dX5_gain_51 rfl 4 rfl ?_
        obtain ⟨Q13, hc, h⟩ := h
        refine g_callVV (pc := 52) (M' := mX1_tellGain) (n := 1) (As := [.int x1, .int x2, .int x3]) (st := []) dX5_gain_52 ml_X5_65 ok_X1_tellGain rfl (rmOk_M _ _ _) (by decide) rc_1 (Nat.le_of_ble_eq_true rfl) rfl hc (fun τ15 hq => ?_)
        have h := h τ15 hq
        refine g_iload (pc := 55) dX5_gain_55 0 rfl ?_
        exact g_iret (pc := 57) rfl dX5_gain_57 h
      · have h := h.2 q
        refine g_bipush (pc := 31) (-2 : Int32) dX5_gain_31 rfl ?_
        exact g_iret (pc := 33) rfl dX5_gain_33 h
set_option maxHeartbeats 4000000 in
set_option maxRecDepth 100000 in
theorem ct_X5_set {Γ : GT} {Q : Int32 → St → Prop} (σ : St) (x1 : Int32) (x2 : Int32) (x3 : Int32)
    (h : ∃ Q1 : Int32 → St → Prop, CtI Γ mX1_isThere 0 [rf Γ 1, .int x1] σ Q1 ∧ ∀ (r2 : Int32) (τ3 : St), Q1 r2 τ3 → (((¬ r2 = 0) → ((x2 = 0 → (∃ Q4 : Int32 → St → Prop, CtI Γ mX5_exchange 0 [rf Γ 3, .int x1, .int x3, .int (1 : Int32), .int (20 : Int32)] τ3 Q4 ∧ ∀ (r5 : Int32) (τ6 : St), Q4 r5 τ6 → (Q r5 τ6))) ∧ (x2 = 1 → (∃ Q7 : Int32 → St → Prop, CtI Γ mX5_exchange 0 [rf Γ 4, .int x1, .int x3, .int (0 : Int32), .int (9 : Int32)] τ3 Q7 ∧ ∀ (r8 : Int32) (τ9 : St), Q7 r8 τ9 → (Q r8 τ9))) ∧ (x2 = 2 → (∃ Q10 : Int32 → St → Prop, CtI Γ mX5_exchange 0 [rf Γ 5, .int x1, .int x3, .int (0 : Int32), .int (999 : Int32)] τ3 Q10 ∧ ∀ (r11 : Int32) (τ12 : St), Q10 r11 τ12 → (Q r11 τ12))) ∧ (¬ x2 = 0 → ¬ x2 = 1 → ¬ x2 = 2 → (Q (-2 : Int32) τ3)))) ∧ ((r2 = 0) → (Q (-2 : Int32) τ3)))) :
    CtI Γ mX5_set 1 [rf Γ 0, .int x1, .int x2, .int x3] σ Q := by
  refine ct_of (by decide +kernel) (Nat.le_of_ble_eq_true rfl) ?_
  show G Γ mX5_set (NI Γ 1 Q) 0 [(0, rf Γ 0), (1, .int x1), (2, .int x2), (3, .int x3)] [] σ
  refine g_aload_n (pc := 0) dX5_set_0 rfl 0 rfl ?_
  refine g_getR (pc := 1) 0 5 0 1 fr_0_0 fl_X5_10 dX5_set_1 ?_
  refine g_iload_n (pc := 4) dX5_set_4 rfl 1 rfl ?_
  obtain ⟨Q1, hc, h⟩ := h
  refine g_callVI (pc := 5) (M' := mX1_isThere) (n := 1) (As := [.int x1]) (st := []) dX5_set_5 ml_X5_53 ok_X1_isThere rfl (rmOk_M _ _ _) (by decide) rc_1 (Nat.le_of_ble_eq_true rfl) rfl hc (fun r2 τ3 hq => ?_)
  have h := h r2 τ3 hq
  refine g_if_ne (pc := 8) 14 dX5_set_8 (by decide) (fun q => ?_) (fun q => ?_)
  · have h := h.1 q
    refine g_iload_n (pc := 14) dX5_set_14 rfl 2 rfl ?_
    by_cases q0 : x2 = 0
    · have h := h.1 q0
      refine g_tswK (pc := 15) 0 40 dX5_set_15 q0 (by decide) (by decide) rfl (by decide) ?_
      refine g_aload_n (pc := 40) dX5_set_40 rfl 0 rfl ?_
      refine g_getR (pc := 41) 0 5 0 1 fr_0_0 fl_X5_10 dX5_set_41 ?_
      refine g_getR (pc := 44) 1 1 3 3 fr_1_3 fl_X5_69 dX5_set_44 ?_
      refine g_iload_n (pc := 47) dX5_set_47 rfl 1 rfl ?_
      refine g_iload_n (pc := 48) dX5_set_48 rfl 3 rfl ?_
      refine g_iconst (pc := 49) (1 : Int32) dX5_set_49 rfl ?_
      refine g_bipush (pc := 50) (20 : Int32) dX5_set_50 rfl ?_
      obtain ⟨Q4, hc, h⟩ := h
      refine g_callSI (pc := 52) (M' := mX5_exchange) (n := 1) (As := [rf Γ 3, .int x1, .int x3, .int (1 : Int32), .int (20 : Int32)]) (st := []) dX5_set_52 ml_X5_73 ok_X5_exchange rfl (rmOk_M _ _ _) (by decide) (Nat.le_of_ble_eq_true rfl) rfl hc (fun r5 τ6 hq => ?_)
      have h := h r5 τ6 hq
      exact g_iret (pc := 55) rfl dX5_set_55 h
    by_cases q1 : x2 = 1
    · have h := h.2.1 q1
      refine g_tswK (pc := 15) 1 56 dX5_set_15 q1 (by decide) (by decide) rfl (by decide) ?_
      refine g_aload_n (pc := 56) dX5_set_56 rfl 0 rfl ?_
      refine g_getR (pc := 57) 0 5 0 1 fr_0_0 fl_X5_10 dX5_set_57 ?_
      refine g_getR (pc := 60) 1 1 4 4 fr_1_4 fl_X5_77 dX5_set_60 ?_
      refine g_iload_n (pc := 63) dX5_set_63 rfl 1 rfl ?_
      refine g_iload_n (pc := 64) dX5_set_64 rfl 3 rfl ?_
      refine g_iconst (pc := 65) (0 : Int32) dX5_set_65 rfl ?_
      refine g_bipush (pc := 66) (9 : Int32) dX5_set_66 rfl ?_
      obtain ⟨Q7, hc, h⟩ := h
      refine g_callSI (pc := 68) (M' := mX5_exchange) (n := 1) (As := [rf Γ 4, .int x1, .int x3, .int (0 : Int32), .int (9 : Int32)]) (st := []) dX5_set_68 ml_X5_73 ok_X5_exchange rfl (rmOk_M _ _ _) (by decide) (Nat.le_of_ble_eq_true rfl) rfl hc (fun r8 τ9 hq => ?_)
      have h := h r8 τ9 hq
      exact g_iret (pc := 71) rfl dX5_set_71 h
    by_cases q2 : x2 = 2
    · have h := h.2.2.1 q2
      refine g_tswK (pc := 15) 2 72 dX5_set_15 q2 (by decide) (by decide) rfl (by decide) ?_
      refine g_aload_n (pc := 72) dX5_set_72 rfl 0 rfl ?_
      refine g_getR (pc := 73) 0 5 0 1 fr_0_0 fl_X5_10 dX5_set_73 ?_
      refine g_getR (pc := 76) 1 1 5 5 fr_1_5 fl_X5_80 dX5_set_76 ?_
      refine g_iload_n (pc := 79) dX5_set_79 rfl 1 rfl ?_
      refine g_iload_n (pc := 80) dX5_set_80 rfl 3 rfl ?_
      refine g_iconst (pc := 81) (0 : Int32) dX5_set_81 rfl ?_
      refine g_sipush (pc := 82) (999 : Int32) dX5_set_82 rfl ?_
      obtain ⟨Q10, hc, h⟩ := h
      refine g_callSI (pc := 85) (M' := mX5_exchange) (n := 1) (As := [rf Γ 5, .int x1, .int x3, .int (0 : Int32), .int (999 : Int32)]) (st := []) dX5_set_85 ml_X5_73 ok_X5_exchange rfl (rmOk_M _ _ _) (by decide) (Nat.le_of_ble_eq_true rfl) rfl hc (fun r11 τ12 hq => ?_)
      have h := h r11 τ12 hq
      exact g_iret (pc := 88) rfl dX5_set_88 h
    have h := h.2.2.2 q0 q1 q2
    refine g_tswD (pc := 15) 89 dX5_set_15 (sw_out 2 (fun k hk => by rcases (show k = 0 ∨ k = 1 ∨ k = 2 by omega) with rfl | rfl | rfl <;> assumption)) (by decide) ?_
    refine g_bipush (pc := 89) (-2 : Int32) dX5_set_89 rfl ?_
    exact g_iret (pc := 91) rfl dX5_set_91 h
  · have h := h.2 q
    refine g_bipush (pc := 11) (-2 : Int32) dX5_set_11 rfl ?_
    exact g_iret (pc := 13) rfl dX5_set_13 h
set_option maxHeartbeats 4000000 in
set_option maxRecDepth 100000 in
theorem ct_X5_on {Γ : GT} {Q : Int32 → St → Prop} (σ : St) (x1 : Int32)
    (h : ∃ Q1 : Int32 → St → Prop, CtI Γ mX1_isThere 0 [rf Γ 1, .int x1] σ Q1 ∧ ∀ (r2 : Int32) (τ3 : St), Q1 r2 τ3 → (((¬ r2 = 0) → (∃ Q4 : Int32 → St → Prop, CtI Γ mX1_onSet 1 [rf Γ 1] (sI τ3 1 1 ((τ3.1 1 1) ^^^ ((1 : Int32) <<< (x1 &&& 31)))) Q4 ∧ ∀ (r5 : Int32) (τ6 : St), Q4 r5 τ6 → (Q r5 τ6))) ∧ ((r2 = 0) → (Q (-2 : Int32) τ3)))) :
    CtI Γ mX5_on 2 [rf Γ 0, .int x1] σ Q := by
  refine ct_of (by decide +kernel) (Nat.le_of_ble_eq_true rfl) ?_
  show G Γ mX5_on (NI Γ 2 Q) 0 [(0, rf Γ 0), (1, .int x1)] [] σ
  refine g_aload_n (pc := 0) dX5_on_0 rfl 0 rfl ?_
  refine g_getR (pc := 1) 0 5 0 1 fr_0_0 fl_X5_10 dX5_on_1 ?_
  refine g_iload_n (pc := 4) dX5_on_4 rfl 1 rfl ?_
  obtain ⟨Q1, hc, h⟩ := h
  refine g_callVI (pc := 5) (M' := mX1_isThere) (n := 2) (As := [.int x1]) (st := []) dX5_on_5 ml_X5_53 ok_X1_isThere rfl (rmOk_M _ _ _) (by decide) rc_1 (Nat.le_of_ble_eq_true rfl) rfl hc (fun r2 τ3 hq => ?_)
  have h := h r2 τ3 hq
  refine g_if_ne (pc := 8) 14 dX5_on_8 (by decide) (fun q => ?_) (fun q => ?_)
  · have h := h.1 q
    refine g_aload_n (pc := 14) dX5_on_14 rfl 0 rfl ?_
    refine g_getR (pc := 15) 0 5 0 1 fr_0_0 fl_X5_10 dX5_on_15 ?_
    refine g_dup (pc := 18) dX5_on_18 rfl ?_
    refine g_getI (pc := 19) 1 1 1 fi_1_1 fl_X5_83 dX5_on_19 ?_
    refine g_iconst (pc := 22) (1 : Int32) dX5_on_22 rfl ?_
    refine g_iload_n (pc := 23) dX5_on_23 rfl 1 rfl ?_
    refine g_ishl (pc := 24) dX5_on_24 ?_
    refine g_ixor (pc := 25) dX5_on_25 ?_
    refine g_put (pc := 26) 1 1 1 fpp_1_1 fp_X5_83 dX5_on_26 ?_
    refine g_aload_n (pc := 29) dX5_on_29 rfl 0 rfl ?_
    refine g_getR (pc := 30) 0 5 0 1 fr_0_0 fl_X5_10 dX5_on_30 ?_
    obtain ⟨Q4, hc, h⟩ := h
    refine g_callVI (pc := 33) (M' := mX1_onSet) (n := 2) (As := []) (st := []) dX5_on_33 ml_X5_86 ok_X1_onSet rfl (rmOk_M _ _ _) (by decide) rc_1 (Nat.le_of_ble_eq_true rfl) rfl hc (fun r5 τ6 hq => ?_)
    have h := h r5 τ6 hq
    exact g_iret (pc := 36) rfl dX5_on_36 h
  · have h := h.2 q
    refine g_bipush (pc := 11) (-2 : Int32) dX5_on_11 rfl ?_
    exact g_iret (pc := 13) rfl dX5_on_13 h
set_option maxHeartbeats 4000000 in
set_option maxRecDepth 100000 in
theorem ct_X5_power {Γ : GT} {Q : Int32 → St → Prop} (σ : St) (x1 : Int32) (x2 : Int32)
    (h : ∃ Q1 : Int32 → St → Prop, CtI Γ mX1_isThere 0 [rf Γ 1, .int x1] σ Q1 ∧ ∀ (r2 : Int32) (τ3 : St), Q1 r2 τ3 → (((r2 = 0) → (Q (-2 : Int32) τ3)) ∧ ((¬ r2 = 0) → (∃ Q4 : Int32 → St → Prop, CtI Γ mX5_exchange 0 [rf Γ 6, .int x1, .int x2, .int (0 : Int32), .int (999 : Int32)] τ3 Q4 ∧ ∀ (r5 : Int32) (τ6 : St), Q4 r5 τ6 → (Q r5 τ6))))) :
    CtI Γ mX5_power 1 [rf Γ 0, .int x1, .int x2] σ Q := by
  refine ct_of (by decide +kernel) (Nat.le_of_ble_eq_true rfl) ?_
  show G Γ mX5_power (NI Γ 1 Q) 0 [(0, rf Γ 0), (1, .int x1), (2, .int x2)] [] σ
  refine g_aload_n (pc := 0) dX5_power_0 rfl 0 rfl ?_
  refine g_getR (pc := 1) 0 5 0 1 fr_0_0 fl_X5_10 dX5_power_1 ?_
  refine g_iload_n (pc := 4) dX5_power_4 rfl 1 rfl ?_
  obtain ⟨Q1, hc, h⟩ := h
  refine g_callVI (pc := 5) (M' := mX1_isThere) (n := 1) (As := [.int x1]) (st := []) dX5_power_5 ml_X5_53 ok_X1_isThere rfl (rmOk_M _ _ _) (by decide) rc_1 (Nat.le_of_ble_eq_true rfl) rfl hc (fun r2 τ3 hq => ?_)
  have h := h r2 τ3 hq
  refine g_if_eq (pc := 8) 30 dX5_power_8 (by decide) (fun q => ?_) (fun q => ?_)
  · have h := h.1 q
    refine g_bipush (pc := 30) (-2 : Int32) dX5_power_30 rfl ?_
    exact g_iret (pc := 32) rfl dX5_power_32 h
  · have h := h.2 q
    refine g_aload_n (pc := 11) dX5_power_11 rfl 0 rfl ?_
    refine g_getR (pc := 12) 0 5 0 1 fr_0_0 fl_X5_10 dX5_power_12 ?_
    refine g_getR (pc := 15) 1 1 6 6 fr_1_6 fl_X5_90 dX5_power_15 ?_
    refine g_iload_n (pc := 18) dX5_power_18 rfl 1 rfl ?_
    refine g_iload_n (pc := 19) dX5_power_19 rfl 2 rfl ?_
    refine g_iconst (pc := 20) (0 : Int32) dX5_power_20 rfl ?_
    refine g_sipush (pc := 21) (999 : Int32) dX5_power_21 rfl ?_
    obtain ⟨Q4, hc, h⟩ := h
    refine g_callSI (pc := 24) (M' := mX5_exchange) (n := 1) (As := [rf Γ 6, .int x1, .int x2, .int (0 : Int32), .int (999 : Int32)]) (st := []) dX5_power_24 ml_X5_73 ok_X5_exchange rfl (rmOk_M _ _ _) (by decide) (Nat.le_of_ble_eq_true rfl) rfl hc (fun r5 τ6 hq => ?_)
    have h := h r5 τ6 hq
    refine g_goto (pc := 27) 32 dX5_power_27 (by decide) ?_
    exact g_iret (pc := 32) rfl dX5_power_32 h
set_option maxHeartbeats 4000000 in
set_option maxRecDepth 100000 in
theorem ct_X5_rule {Γ : GT} {Q : Int32 → St → Prop} (σ : St) (x1 : Int32)
    (h : ((x1 < 0) → (Q (-2 : Int32) σ)) ∧ ((¬ x1 < 0) → (((x1 ≤ (2 : Int32)) → (Q (σ.1 11 0) (sI σ 11 0 x1))) ∧ ((¬ x1 ≤ (2 : Int32)) → (Q (-2 : Int32) σ))))) :
    CtI Γ mX5_rule 0 [rf Γ 0, .int x1] σ Q := by
  refine ct_of (by decide +kernel) (Nat.le_of_ble_eq_true rfl) ?_
  show G Γ mX5_rule (NI Γ 0 Q) 0 [(0, rf Γ 0), (1, .int x1)] [] σ
  refine g_iload_n (pc := 0) dX5_rule_0 rfl 1 rfl ?_
  refine g_if_lt (pc := 1) 9 dX5_rule_1 (by decide) (fun q => ?_) (fun q => ?_)
  · have h := h.1 q
    refine g_bipush (pc := 9) (-2 : Int32) dX5_rule_9 rfl ?_
    exact g_iret (pc := 11) rfl dX5_rule_11 h
  · have h := h.2 q
    refine g_iload_n (pc := 4) dX5_rule_4 rfl 1 rfl ?_
    refine g_iconst (pc := 5) (2 : Int32) dX5_rule_5 rfl ?_
    refine g_icmp_le (pc := 6) 12 dX5_rule_6 (by decide) (fun q => ?_) (fun q => ?_)
    · have h := h.1 q
      refine g_aload_n (pc := 12) dX5_rule_12 rfl 0 rfl ?_
      refine g_getR (pc := 13) 0 5 2 11 fr_0_2 fl_X5_28 dX5_rule_13 ?_
      refine g_getI (pc := 16) 11 4 0 fi_11_0 fl_X5_93 dX5_rule_16 ?_
      refine g_istore_n (pc := 19) [(2, _), (0, _), (1, _)] dX5_rule_19 rfl (Nat.le_of_ble_eq_true rfl) rfl ?_
      refine g_aload_n (pc := 20) dX5_rule_20 rfl 1 rfl ?_
      refine g_getR (pc := 21) 0 5 2 11 fr_0_2 fl_X5_28 dX5_rule_21 ?_
      refine g_iload_n (pc := 24) dX5_rule_24 rfl 2 rfl ?_
      refine g_put (pc := 25) 11 4 0 fpp_11_0 fp_X5_93 dX5_rule_25 ?_
      refine g_iload_n (pc := 28) dX5_rule_28 rfl 0 rfl ?_
      exact g_iret (pc := 29) rfl dX5_rule_29 h
    · have h := h.2 q
      refine g_bipush (pc := 9) (-2 : Int32) dX5_rule_9 rfl ?_
      exact g_iret (pc := 11) rfl dX5_rule_11 h
set_option maxHeartbeats 4000000 in
set_option maxRecDepth 100000 in
theorem ct_X5_type {Γ : GT} {Q : Int32 → St → Prop} (σ : St) (x1 : Int32)
    (h : ((x1 < 0) → (Q (-2 : Int32) σ)) ∧ ((¬ x1 < 0) → (((x1 ≤ (255 : Int32)) → (∃ Q1 : Int32 → St → Prop, CtI Γ mX3_append 0 [rf Γ 14, .int x1] σ Q1 ∧ ∀ (r2 : Int32) (τ3 : St), Q1 r2 τ3 → (((r2 = 0) → (Q (-4 : Int32) τ3)) ∧ ((¬ r2 = 0) → (Q (τ3.1 14 0) τ3))))) ∧ ((¬ x1 ≤ (255 : Int32)) → (Q (-2 : Int32) σ))))) :
    CtI Γ mX5_type 1 [rf Γ 0, .int x1] σ Q := by
  refine ct_of (by decide +kernel) (Nat.le_of_ble_eq_true rfl) ?_
  show G Γ mX5_type (NI Γ 1 Q) 0 [(0, rf Γ 0), (1, .int x1)] [] σ
  refine g_iload_n (pc := 0) dX5_type_0 rfl 1 rfl ?_
  refine g_if_lt (pc := 1) 11 dX5_type_1 (by decide) (fun q => ?_) (fun q => ?_)
  · have h := h.1 q
    refine g_bipush (pc := 11) (-2 : Int32) dX5_type_11 rfl ?_
    exact g_iret (pc := 13) rfl dX5_type_13 h
  · have h := h.2 q
    refine g_iload_n (pc := 4) dX5_type_4 rfl 1 rfl ?_
    refine g_sipush (pc := 5) (255 : Int32) dX5_type_5 rfl ?_
    refine g_icmp_le (pc := 8) 14 dX5_type_8 (by decide) (fun q => ?_) (fun q => ?_)
    · have h := h.1 q
      refine g_aload_n (pc := 14) dX5_type_14 rfl 0 rfl ?_
      refine g_getR (pc := 15) 0 5 3 14 fr_0_3 fl_X5_35 dX5_type_15 ?_
      refine g_iload_n (pc := 18) dX5_type_18 rfl 1 rfl ?_
      obtain ⟨Q1, hc, h⟩ := h
      refine g_callVI (pc := 19) (M' := mX3_append) (n := 1) (As := [.int x1]) (st := []) dX5_type_19 ml_X5_96 ok_X3_append rfl (rmOk_M _ _ _) (by decide) rc_14 (Nat.le_of_ble_eq_true rfl) rfl hc (fun r2 τ3 hq => ?_)
      have h := h r2 τ3 hq
      refine g_if_eq (pc := 22) 35 dX5_type_22 (by decide) (fun q => ?_) (fun q => ?_)
      · have h := h.1 q
        refine g_bipush (pc := 35) (-4 : Int32) dX5_type_35 rfl ?_
        exact g_iret (pc := 37) rfl dX5_type_37 h
      · have h := h.2 q
        refine g_aload_n (pc := 25) dX5_type_25 rfl 0 rfl ?_
        refine g_getR (pc := 26) 0 5 3 14 fr_0_3 fl_X5_35 dX5_type_26 ?_
        refine g_getI (pc := 29) 14 3 0 fi_14_0 fl_X5_99 dX5_type_29 ?_
        refine g_goto (pc := 32) 37 dX5_type_32 (by decide) ?_
        exact g_iret (pc := 37) rfl dX5_type_37 h
    · have h := h.2 q
      refine g_bipush (pc := 11) (-2 : Int32) dX5_type_11 rfl ?_
      exact g_iret (pc := 13) rfl dX5_type_13 h
set_option maxHeartbeats 4000000 in
set_option maxRecDepth 100000 in
theorem ct_X5_wipe {Γ : GT} {Q : Int32 → St → Prop} (σ : St) 
    (h : Q (σ.1 14 0) (sI σ 14 0 (0 : Int32))) :
    CtI Γ mX5_wipe 0 [rf Γ 0] σ Q := by
  refine ct_of (by decide +kernel) (Nat.le_of_ble_eq_true rfl) ?_
  show G Γ mX5_wipe (NI Γ 0 Q) 0 [(0, rf Γ 0)] [] σ
  refine g_aload_n (pc := 0) dX5_wipe_0 rfl 0 rfl ?_
  refine g_getR (pc := 1) 0 5 3 14 fr_0_3 fl_X5_35 dX5_wipe_1 ?_
  refine g_getI (pc := 4) 14 3 0 fi_14_0 fl_X5_99 dX5_wipe_4 ?_
  refine g_istore_n (pc := 7) [(1, _), (0, _)] dX5_wipe_7 rfl (Nat.le_of_ble_eq_true rfl) rfl ?_
  refine g_aload_n (pc := 8) dX5_wipe_8 rfl 1 rfl ?_
  refine g_getR (pc := 9) 0 5 3 14 fr_0_3 fl_X5_35 dX5_wipe_9 ?_
  refine g_iconst (pc := 12) (0 : Int32) dX5_wipe_12 rfl ?_
  refine g_put (pc := 13) 14 3 0 fpp_14_0 fp_X5_99 dX5_wipe_13 ?_
  refine g_iload_n (pc := 16) dX5_wipe_16 rfl 0 rfl ?_
  exact g_iret (pc := 17) rfl dX5_wipe_17 h
set_option maxHeartbeats 4000000 in
set_option maxRecDepth 100000 in
theorem ct_X5_fault {Γ : GT} {Q : Int32 → St → Prop} (σ : St) 
    (h : ∃ Q1 : Int32 → St → Prop, CtI Γ mX3_firstWrong 0 [rf Γ 14, .int (σ.1 1 0)] σ Q1 ∧ ∀ (r2 : Int32) (τ3 : St), Q1 r2 τ3 → (Q r2 τ3)) :
    CtI Γ mX5_fault 1 [rf Γ 0] σ Q := by
  refine ct_of (by decide +kernel) (Nat.le_of_ble_eq_true rfl) ?_
  show G Γ mX5_fault (NI Γ 1 Q) 0 [(0, rf Γ 0)] [] σ
  refine g_aload_n (pc := 0) dX5_fault_0 rfl 0 rfl ?_
  refine g_getR (pc := 1) 0 5 3 14 fr_0_3 fl_X5_35 dX5_fault_1 ?_
  refine g_aload_n (pc := 4) dX5_fault_4 rfl 0 rfl ?_
  refine g_getR (pc := 5) 0 5 0 1 fr_0_0 fl_X5_10 dX5_fault_5 ?_
  refine g_getI (pc := 8) 1 1 0 fi_1_0 fl_X5_50 dX5_fault_8 ?_
  obtain ⟨Q1, hc, h⟩ := h
  refine g_callVI (pc := 11) (M' := mX3_firstWrong) (n := 1) (As := [.int (σ.1 1 0)]) (st := []) dX5_fault_11 ml_X5_102 ok_X3_firstWrong rfl (rmOk_M _ _ _) (by decide) rc_14 (Nat.le_of_ble_eq_true rfl) rfl hc (fun r2 τ3 hq => ?_)
  have h := h r2 τ3 hq
  exact g_iret (pc := 14) rfl dX5_fault_14 h
set_option maxHeartbeats 4000000 in
set_option maxRecDepth 100000 in
theorem ct_X5_read {Γ : GT} {Q : Int32 → St → Prop} (σ : St) (x1 : Int32)
    (h : ∃ Q1 : Int32 → St → Prop, CtI Γ mX5_refusalOfSheet 1 [rf Γ 0, .int x1] σ Q1 ∧ ∀ (r2 : Int32) (τ3 : St), Q1 r2 τ3 → (((r2 = 0) → (vp_in x1 4 ∧ (∃ Q5 : Int32 → St → Prop, CtI Γ mX5_readGains 1 [rf Γ 0, rf Γ (17 + x1.toNatClampNeg)] τ3 Q5 ∧ ∀ (r6 : Int32) (τ7 : St), Q5 r6 τ7 → (Q r6 τ7)))) ∧ ((¬ r2 = 0) → (Q r2 τ3)))) :
    CtI Γ mX5_read 2 [rf Γ 0, .int x1] σ Q := by
  refine ct_of (by decide +kernel) (Nat.le_of_ble_eq_true rfl) ?_
  show G Γ mX5_read (NI Γ 2 Q) 0 [(0, rf Γ 0), (1, .int x1)] [] σ
  refine g_aload_n (pc := 0) dX5_read_0 rfl 0 rfl ?_
  refine g_iload_n (pc := 1) dX5_read_1 rfl 1 rfl ?_
  obtain ⟨Q1, hc, h⟩ := h
  refine g_callVI (pc := 2) (M' := mX5_refusalOfSheet) (n := 2) (As := [.int x1]) (st := []) dX5_read_2 ml_X5_106 ok_X5_refusalOfSheet rfl (rmOk_M _ _ _) (by decide) rc_0 (Nat.le_of_ble_eq_true rfl) rfl hc (fun r2 τ3 hq => ?_)
  have h := h r2 τ3 hq
  refine g_istore_n (pc := 5) [(2, _), (0, _), (1, _)] dX5_read_5 rfl (Nat.le_of_ble_eq_true rfl) rfl ?_
  refine g_iload_n (pc := 6) dX5_read_6 rfl 0 rfl ?_
  refine g_if_eq (pc := 7) 14 dX5_read_7 (by decide) (fun q => ?_) (fun q => ?_)
  · have h := h.1 q
    refine g_aload_n (pc := 14) dX5_read_14 rfl 1 rfl ?_
    refine g_aload_n (pc := 15) dX5_read_15 rfl 1 rfl ?_
    refine g_getR (pc := 16) 0 5 4 16 fr_0_4 fl_X5_41 dX5_read_16 ?_
    refine g_iload_n (pc := 19) dX5_read_19 rfl 2 rfl ?_
    have hs4 := isSh_of h.1
    refine g_aald (pc := 20) h.1 dX5_read_20 ?_
    have h := h.2
    obtain ⟨Q5, hc, h⟩ := h
    refine g_callVI (pc := 21) (M' := mX5_readGains) (n := 2) (As := [rf Γ (17 + x1.toNatClampNeg)]) (st := []) dX5_read_21 ml_X5_109 ok_X5_readGains rfl (rmOk_M _ _ _) (by decide) rc_0 (Nat.le_of_ble_eq_true rfl) rfl hc (fun r6 τ7 hq => ?_)
    have h := h r6 τ7 hq
    exact g_iret (pc := 24) rfl dX5_read_24 h
  · have h := h.2 q
    refine g_iload_n (pc := 10) dX5_read_10 rfl 0 rfl ?_
    refine g_goto (pc := 11) 24 dX5_read_11 (by decide) ?_
    exact g_iret (pc := 24) rfl dX5_read_24 h
set_option maxHeartbeats 4000000 in
set_option maxRecDepth 100000 in
theorem ct_X5_info {Γ : GT} {Q : Int32 → St → Prop} (σ : St) (x1 : Int32) (x2 : Int32)
    (h : ∃ Q1 : Int32 → St → Prop, CtI Γ mX1_isThere 0 [rf Γ 1, .int x1] σ Q1 ∧ ∀ (r2 : Int32) (τ3 : St), Q1 r2 τ3 → (((¬ r2 = 0) → ((x2 = 0 → (vp_in x1 5 ∧ (Q (τ3.1 3 x1.toNatClampNeg) τ3))) ∧ (x2 = 1 → (vp_in x1 5 ∧ (Q (τ3.1 4 x1.toNatClampNeg) τ3))) ∧ (x2 = 2 → (vp_in x1 5 ∧ (Q (τ3.1 5 x1.toNatClampNeg) τ3))) ∧ (x2 = 3 → (∃ Q4 : Int32 → St → Prop, CtI Γ mX1_isOn 0 [rf Γ 1, .int x1] τ3 Q4 ∧ ∀ (r5 : Int32) (τ6 : St), Q4 r5 τ6 → (((r5 = 0) → (Q (0 : Int32) τ6)) ∧ ((¬ r5 = 0) → (Q (1 : Int32) τ6))))) ∧ (x2 = 4 → (vp_in x1 5 ∧ (Q (τ3.1 6 x1.toNatClampNeg) τ3))) ∧ (x2 = 5 → (∃ Q7 : Int32 → St → Prop, CtI Γ mX1_needOf 1 [rf Γ 1, .int x1, rf Γ 6] τ3 Q7 ∧ ∀ (r8 : Int32) (τ9 : St), Q7 r8 τ9 → (Q r8 τ9))) ∧ (x2 = 6 → (∃ Q10 : Int32 → St → Prop, CtI Γ mX1_isContent 1 [rf Γ 1, .int x1] τ3 Q10 ∧ ∀ (r11 : Int32) (τ12 : St), Q10 r11 τ12 → (((r11 = 0) → (Q (0 : Int32) τ12)) ∧ ((¬ r11 = 0) → (Q (1 : Int32) τ12))))) ∧ (x2 = 7 → (∃ Q13 : Int32 → St → Prop, CtI Γ mX1_gainOf 0 [rf Γ 1, .int x1, .int x1] τ3 Q13 ∧ ∀ (r14 : Int32) (τ15 : St), Q13 r14 τ15 → (Q r14 τ15))) ∧ (¬ x2 = 0 → ¬ x2 = 1 → ¬ x2 = 2 → ¬ x2 = 3 → ¬ x2 = 4 → ¬ x2 = 5 → ¬ x2 = 6 → ¬ x2 = 7 → (Q (-2 : Int32) τ3)))) ∧ ((r2 = 0) → (Q (-2 : Int32) τ3)))) :
    CtI Γ mX5_info 2 [rf Γ 0, .int x1, .int x2] σ Q := by
  refine ct_of (by decide +kernel) (Nat.le_of_ble_eq_true rfl) ?_
  show G Γ mX5_info (NI Γ 2 Q) 0 [(0, rf Γ 0), (1, .int x1), (2, .int x2)] [] σ
  refine g_aload_n (pc := 0) dX5_info_0 rfl 0 rfl ?_
  refine g_getR (pc := 1) 0 5 0 1 fr_0_0 fl_X5_10 dX5_info_1 ?_
  refine g_iload_n (pc := 4) dX5_info_4 rfl 1 rfl ?_
  obtain ⟨Q1, hc, h⟩ := h
  refine g_callVI (pc := 5) (M' := mX1_isThere) (n := 2) (As := [.int x1]) (st := []) dX5_info_5 ml_X5_53 ok_X1_isThere rfl (rmOk_M _ _ _) (by decide) rc_1 (Nat.le_of_ble_eq_true rfl) rfl hc (fun r2 τ3 hq => ?_)
  have h := h r2 τ3 hq
  refine g_if_ne (pc := 8) 14 dX5_info_8 (by decide) (fun q => ?_) (fun q => ?_)
  · have h := h.1 q
    refine g_iload_n (pc := 14) dX5_info_14 rfl 2 rfl ?_
    by_cases q0 : x2 = 0
    · have h := h.1 q0
      refine g_tswK (pc := 15) 0 60 dX5_info_15 q0 (by decide) (by decide) rfl (by decide) ?_
      refine g_aload_n (pc := 60) dX5_info_60 rfl 0 rfl ?_
      refine g_getR (pc := 61) 0 5 0 1 fr_0_0 fl_X5_10 dX5_info_61 ?_
      refine g_getR (pc := 64) 1 1 3 3 fr_1_3 fl_X5_69 dX5_info_64 ?_
      refine g_iload_n (pc := 67) dX5_info_67 rfl 1 rfl ?_
      refine g_iald (pc := 68) 3 5 ar_3 h.1 dX5_info_68 ?_
      have h := h.2
      exact g_iret (pc := 69) rfl dX5_info_69 h
    by_cases q1 : x2 = 1
    · have h := h.2.1 q1
      refine g_tswK (pc := 15) 1 70 dX5_info_15 q1 (by decide) (by decide) rfl (by decide) ?_
      refine g_aload_n (pc := 70) dX5_info_70 rfl 0 rfl ?_
      refine g_getR (pc := 71) 0 5 0 1 fr_0_0 fl_X5_10 dX5_info_71 ?_
      refine g_getR (pc := 74) 1 1 4 4 fr_1_4 fl_X5_77 dX5_info_74 ?_
      refine g_iload_n (pc := 77) dX5_info_77 rfl 1 rfl ?_
      refine g_iald (pc := 78) 4 5 ar_4 h.1 dX5_info_78 ?_
      have h := h.2
      exact g_iret (pc := 79) rfl dX5_info_79 h
    by_cases q2 : x2 = 2
    · have h := h.2.2.1 q2
      refine g_tswK (pc := 15) 2 80 dX5_info_15 q2 (by decide) (by decide) rfl (by decide) ?_
      refine g_aload_n (pc := 80) dX5_info_80 rfl 0 rfl ?_
      refine g_getR (pc := 81) 0 5 0 1 fr_0_0 fl_X5_10 dX5_info_81 ?_
      refine g_getR (pc := 84) 1 1 5 5 fr_1_5 fl_X5_80 dX5_info_84 ?_
      refine g_iload_n (pc := 87) dX5_info_87 rfl 1 rfl ?_
      refine g_iald (pc := 88) 5 5 ar_5 h.1 dX5_info_88 ?_
      have h := h.2
      exact g_iret (pc := 89) rfl dX5_info_89 h
    by_cases q3 : x2 = 3
    · have h := h.2.2.2.1 q3
      refine g_tswK (pc := 15) 3 90 dX5_info_15 q3 (by decide) (by decide) rfl (by decide) ?_
      refine g_aload_n (pc := 90) dX5_info_90 rfl 0 rfl ?_
      refine g_getR (pc := 91) 0 5 0 1 fr_0_0 fl_X5_10 dX5_info_91 ?_
      refine g_iload_n (pc := 94) dX5_info_94 rfl 1 rfl ?_
      obtain ⟨Q4, hc, h⟩ := h
      refine g_callVI (pc := 95) (M' := mX1_isOn) (n := 2) (As := [.int x1]) (st := []) dX5_info_95 ml_X5_113 ok_X1_isOn rfl (rmOk_M _ _ _) (by decide) rc_1 (Nat.le_of_ble_eq_true rfl) rfl hc (fun r5 τ6 hq => ?_)
      have h := h r5 τ6 hq
      refine g_if_eq (pc := 98) 105 dX5_info_98 (by decide) (fun q => ?_) (fun q => ?_)
      · have h := h.1 q
        refine g_iconst (pc := 105) (0 : Int32) dX5_info_105 rfl ?_
        exact g_iret (pc := 106) rfl dX5_info_106 h
      · have h := h.2 q
        refine g_iconst (pc := 101) (1 : Int32) dX5_info_101 rfl ?_
        refine g_goto (pc := 102) 106 dX5_info_102 (by decide) ?_
        exact g_iret (pc := 106) rfl dX5_info_106 h
    by_cases q4 : x2 = 4
    · have h := h.2.2.2.2.1 q4
      refine g_tswK (pc := 15) 4 107 dX5_info_15 q4 (by decide) (by decide) rfl (by decide) ?_
      refine g_aload_n (pc := 107) dX5_info_107 rfl 0 rfl ?_
      refine g_getR (pc := 108) 0 5 0 1 fr_0_0 fl_X5_10 dX5_info_108 ?_
      refine g_getR (pc := 111) 1 1 6 6 fr_1_6 fl_X5_90 dX5_info_111 ?_
      refine g_iload_n (pc := 114) dX5_info_114 rfl 1 rfl ?_
      refine g_iald (pc := 115) 6 5 ar_6 h.1 dX5_info_115 ?_
      have h := h.2
      exact g_iret (pc := 116) rfl dX5_info_116 h
    by_cases q5 : x2 = 5
    · have h := h.2.2.2.2.2.1 q5
      refine g_tswK (pc := 15) 5 117 dX5_info_15 q5 (by decide) (by decide) rfl (by decide) ?_
      refine g_aload_n (pc := 117) dX5_info_117 rfl 0 rfl ?_
      refine g_getR (pc := 118) 0 5 0 1 fr_0_0 fl_X5_10 dX5_info_118 ?_
      refine g_iload_n (pc := 121) dX5_info_121 rfl 1 rfl ?_
      refine g_aload_n (pc := 122) dX5_info_122 rfl 0 rfl ?_
      refine g_getR (pc := 123) 0 5 0 1 fr_0_0 fl_X5_10 dX5_info_123 ?_
      refine g_getR (pc := 126) 1 1 6 6 fr_1_6 fl_X5_90 dX5_info_126 ?_
      obtain ⟨Q7, hc, h⟩ := h
      refine g_callVI (pc := 129) (M' := mX1_needOf) (n := 2) (As := [.int x1, rf Γ 6]) (st := []) dX5_info_129 ml_X5_116 ok_X1_needOf rfl (rmOk_M _ _ _) (by decide) rc_1 (Nat.le_of_ble_eq_true rfl) rfl hc (fun r8 τ9 hq => ?_)
      have h := h r8 τ9 hq
      exact g_iret (pc := 132) rfl dX5_info_132 h
    by_cases q6 : x2 = 6
    · have h := h.2.2.2.2.2.2.1 q6
      refine g_tswK (pc := 15) 6 133 dX5_info_15 q6 (by decide) (by decide) rfl (by decide) ?_
      refine g_aload_n (pc := 133) dX5_info_133 rfl 0 rfl ?_
      refine g_getR (pc := 134) 0 5 0 1 fr_0_0 fl_X5_10 dX5_info_134 ?_
      refine g_iload_n (pc := 137) dX5_info_137 rfl 1 rfl ?_
      obtain ⟨Q10, hc, h⟩ := h
      refine g_callVI (pc := 138) (M' := mX1_isContent) (n := 2) (As := [.int x1]) (st := []) dX5_info_138 ml_X5_120 ok_X1_isContent rfl (rmOk_M _ _ _) (by decide) rc_1 (Nat.le_of_ble_eq_true rfl) rfl hc (fun r11 τ12 hq => ?_)
      have h := h r11 τ12 hq
      refine g_if_eq (pc := 141) 148 dX5_info_141 (by decide) (fun q => ?_) (fun q => ?_)
      · have h := h.1 q
        refine g_iconst (pc := 148) (0 : Int32) dX5_info_148 rfl ?_
        exact g_iret (pc := 149) rfl dX5_info_149 h
      · have h := h.2 q
        refine g_iconst (pc := 144) (1 : Int32) dX5_info_144 rfl ?_
        refine g_goto (pc := 145) 149 dX5_info_145 (by decide) ?_
        exact g_iret (pc := 149) rfl dX5_info_149 h
    by_cases q7 : x2 = 7
    · have h := h.2.2.2.2.2.2.2.1 q7
      refine g_tswK (pc := 15) 7 150 dX5_info_15 q7 (by decide) (by decide) rfl (by decide) ?_
      refine g_aload_n (pc := 150) dX5_info_150 rfl 0 rfl ?_
      refine g_getR (pc := 151) 0 5 0 1 fr_0_0 fl_X5_10 dX5_info_151 ?_
      refine g_iload_n (pc := 154) dX5_info_154 rfl 1 rfl ?_
      refine g_iload_n (pc := 155) dX5_info_155 rfl 1 rfl ?_
      obtain ⟨Q13, hc, h⟩ := h
      refine g_callVI (pc := 156) (M' := mX1_gainOf) (n := 2) (As := [.int x1, .int x1]) (st := []) dX5_info_156 ml_X5_61 ok_X1_gainOf rfl (rmOk_M _ _ _) (by decide) rc_1 (Nat.le_of_ble_eq_true rfl) rfl hc (fun r14 τ15 hq => ?_)
      have h := h r14 τ15 hq
      exact g_iret (pc := 159) rfl dX5_info_159 h
    have h := h.2.2.2.2.2.2.2.2 q0 q1 q2 q3 q4 q5 q6 q7
    refine g_tswD (pc := 15) 160 dX5_info_15 (sw_out 7 (fun k hk => by rcases (show k = 0 ∨ k = 1 ∨ k = 2 ∨ k = 3 ∨ k = 4 ∨ k = 5 ∨ k = 6 ∨ k = 7 by omega) with rfl | rfl | rfl | rfl | rfl | rfl | rfl | rfl <;> assumption)) (by decide) ?_
    refine g_bipush (pc := 160) (-2 : Int32) dX5_info_160 rfl ?_
    exact g_iret (pc := 162) rfl dX5_info_162 h
  · have h := h.2 q
    refine g_bipush (pc := 11) (-2 : Int32) dX5_info_11 rfl ?_
    exact g_iret (pc := 13) rfl dX5_info_13 h
set_option maxHeartbeats 4000000 in
set_option maxRecDepth 100000 in
theorem ct_X5_heard {Γ : GT} {Q : Int32 → St → Prop} (σ : St) (x1 : Int32) (x2 : Int32)
    (h : ∃ Q1 : Int32 → St → Prop, CtI Γ mX1_isThere 0 [rf Γ 1, .int x1] σ Q1 ∧ ∀ (r2 : Int32) (τ3 : St), Q1 r2 τ3 → (((r2 = 0) → (Q (-2 : Int32) τ3)) ∧ ((¬ r2 = 0) → (∃ Q4 : Int32 → St → Prop, CtI Γ mX1_isThere 0 [rf Γ 1, .int x2] τ3 Q4 ∧ ∀ (r5 : Int32) (τ6 : St), Q4 r5 τ6 → (((r5 = 0) → (Q (-2 : Int32) τ6)) ∧ ((¬ r5 = 0) → (∃ Q7 : Int32 → St → Prop, CtI Γ mX1_gainOf 0 [rf Γ 1, .int x1, .int x2] τ6 Q7 ∧ ∀ (r8 : Int32) (τ9 : St), Q7 r8 τ9 → (Q r8 τ9)))))))) :
    CtI Γ mX5_heard 1 [rf Γ 0, .int x1, .int x2] σ Q := by
  refine ct_of (by decide +kernel) (Nat.le_of_ble_eq_true rfl) ?_
  show G Γ mX5_heard (NI Γ 1 Q) 0 [(0, rf Γ 0), (1, .int x1), (2, .int x2)] [] σ
  refine g_aload_n (pc := 0) dX5_heard_0 rfl 0 rfl ?_
  refine g_getR (pc := 1) 0 5 0 1 fr_0_0 fl_X5_10 dX5_heard_1 ?_
  refine g_iload_n (pc := 4) dX5_heard_4 rfl 1 rfl ?_
  obtain ⟨Q1, hc, h⟩ := h
  refine g_callVI (pc := 5) (M' := mX1_isThere) (n := 1) (As := [.int x1]) (st := []) dX5_heard_5 ml_X5_53 ok_X1_isThere rfl (rmOk_M _ _ _) (by decide) rc_1 (Nat.le_of_ble_eq_true rfl) rfl hc (fun r2 τ3 hq => ?_)
  have h := h r2 τ3 hq
  refine g_if_eq (pc := 8) 34 dX5_heard_8 (by decide) (fun q => ?_) (fun q => ?_)
  · have h := h.1 q
    refine g_bipush (pc := 34) (-2 : Int32) dX5_heard_34 rfl ?_
    exact g_iret (pc := 36) rfl dX5_heard_36 h
  · have h := h.2 q
    refine g_aload_n (pc := 11) dX5_heard_11 rfl 0 rfl ?_
    refine g_getR (pc := 12) 0 5 0 1 fr_0_0 fl_X5_10 dX5_heard_12 ?_
    refine g_iload_n (pc := 15) dX5_heard_15 rfl 2 rfl ?_
    obtain ⟨Q4, hc, h⟩ := h
    refine g_callVI (pc := 16) (M' := mX1_isThere) (n := 1) (As := [.int x2]) (st := []) dX5_heard_16 ml_X5_53 ok_X1_isThere rfl (rmOk_M _ _ _) (by decide) rc_1 (Nat.le_of_ble_eq_true rfl) rfl hc (fun r5 τ6 hq => ?_)
    have h := h r5 τ6 hq
    refine g_if_eq (pc := 19) 34 dX5_heard_19 (by decide) (fun q => ?_) (fun q => ?_)
    · have h := h.1 q
      refine g_bipush (pc := 34) (-2 : Int32) dX5_heard_34 rfl ?_
      exact g_iret (pc := 36) rfl dX5_heard_36 h
    · have h := h.2 q
      refine g_aload_n (pc := 22) dX5_heard_22 rfl 0 rfl ?_
      refine g_getR (pc := 23) 0 5 0 1 fr_0_0 fl_X5_10 dX5_heard_23 ?_
      refine g_iload_n (pc := 26) dX5_heard_26 rfl 1 rfl ?_
      refine g_iload_n (pc := 27) dX5_heard_27 rfl 2 rfl ?_
      obtain ⟨Q7, hc, h⟩ := h
      refine g_callVI (pc := 28) (M' := mX1_gainOf) (n := 1) (As := [.int x1, .int x2]) (st := []) dX5_heard_28 ml_X5_61 ok_X1_gainOf rfl (rmOk_M _ _ _) (by decide) rc_1 (Nat.le_of_ble_eq_true rfl) rfl hc (fun r8 τ9 hq => ?_)
      have h := h r8 τ9 hq
      refine g_goto (pc := 31) 36 dX5_heard_31 (by decide) ?_
      exact g_iret (pc := 36) rfl dX5_heard_36 h
set_option maxHeartbeats 4000000 in
set_option maxRecDepth 100000 in
theorem ct_X5_minor {Γ : GT} {Q : Int64 → St → Prop} (σ : St) (x1 : Int32)
    (h : ((x1 < 0) → (∃ Q1 : Int64 → St → Prop, CtJ Γ mX5_asLong 0 [.int (-2 : Int32)] σ Q1 ∧ ∀ (r2 : Int64) (τ3 : St), Q1 r2 τ3 → (Q r2 τ3))) ∧ ((¬ x1 < 0) → (∃ Q4 : Int32 → St → Prop, CtI Γ mX1_allBits 0 [rf Γ 1] σ Q4 ∧ ∀ (r5 : Int32) (τ6 : St), Q4 r5 τ6 → (((x1 ≤ r5) → (∃ Q7 : St → Prop, CtV Γ mX0_buildAsTold 2 [rf Γ 7] τ6 Q7 ∧ ∀ (τ9 : St), Q7 τ9 → (∃ Q10 : Int32 → St → Prop, CtI Γ mX1_onSet 1 [rf Γ 1] τ9 Q10 ∧ ∀ (r11 : Int32) (τ12 : St), Q10 r11 τ12 → (∃ Q13 : Int64 → St → Prop, CtJ Γ mX0_minorOf 2 [rf Γ 7, .int (x1 &&& r11)] τ12 Q13 ∧ ∀ (r14 : Int64) (τ15 : St), Q13 r14 τ15 → (Q r14 τ15))))) ∧ ((¬ x1 ≤ r5) → (∃ Q16 : Int64 → St → Prop, CtJ Γ mX5_asLong 0 [.int (-2 : Int32)] τ6 Q16 ∧ ∀ (r17 : Int64) (τ18 : St), Q16 r17 τ18 → (Q r17 τ18))))))) :
    CtJ Γ mX5_minor 3 [rf Γ 0, .int x1] σ Q := by
  refine ct_of (by decide +kernel) (Nat.le_of_ble_eq_true rfl) ?_
  show G Γ mX5_minor (NJ Γ 3 Q) 0 [(0, rf Γ 0), (1, .int x1)] [] σ
  refine g_iload_n (pc := 0) dX5_minor_0 rfl 1 rfl ?_
  refine g_if_lt (pc := 1) 15 dX5_minor_1 (by decide) (fun q => ?_) (fun q => ?_)
  · have h := h.1 q
    refine g_bipush (pc := 15) (-2 : Int32) dX5_minor_15 rfl ?_
    obtain ⟨Q1, hc, h⟩ := h
    refine g_callSJ (pc := 17) (M' := mX5_asLong) (n := 3) (As := [.int (-2 : Int32)]) (st := []) dX5_minor_17 ml_X5_126 ok_X5_asLong rfl (rmOk_M _ _ _) (by decide) (Nat.le_of_ble_eq_true rfl) rfl hc (fun r2 τ3 hq => ?_)
    have h := h r2 τ3 hq
    exact g_lret (pc := 20) rfl dX5_minor_20 h
  · have h := h.2 q
    refine g_iload_n (pc := 4) dX5_minor_4 rfl 1 rfl ?_
    refine g_aload_n (pc := 5) dX5_minor_5 rfl 0 rfl ?_
    refine g_getR (pc := 6) 0 5 0 1 fr_0_0 fl_X5_10 dX5_minor_6 ?_
    obtain ⟨Q4, hc, h⟩ := h
    refine g_callVI (pc := 9) (M' := mX1_allBits) (n := 3) (As := []) (st := [.int x1]) dX5_minor_9 ml_X5_123 ok_X1_allBits rfl (rmOk_M _ _ _) (by decide) rc_1 (Nat.le_of_ble_eq_true rfl) rfl hc (fun r5 τ6 hq => ?_)
    have h := h r5 τ6 hq
    refine g_icmp_le (pc := 12) 21 dX5_minor_12 (by decide) (fun q => ?_) (fun q => ?_)
    · have h := h.1 q
      refine g_aload_n (pc := 21) dX5_minor_21 rfl 0 rfl ?_
      refine g_getR (pc := 22) 0 5 1 7 fr_0_1 fl_X5_21 dX5_minor_22 ?_
      obtain ⟨Q7, hc, h⟩ := h
      refine g_callVV (pc := 25) (M' := mX0_buildAsTold) (n := 3) (As := []) (st := []) dX5_minor_25 ml_X5_130 ok_X0_buildAsTold rfl (rmOk_M _ _ _) (by decide) rc_7 (Nat.le_of_ble_eq_true rfl) rfl hc (fun τ9 hq => ?_)
      have h := h τ9 hq
      refine g_aload_n (pc := 28) dX5_minor_28 rfl 0 rfl ?_
      refine g_getR (pc := 29) 0 5 1 7 fr_0_1 fl_X5_21 dX5_minor_29 ?_
      refine g_iload_n (pc := 32) dX5_minor_32 rfl 1 rfl ?_
      refine g_aload_n (pc := 33) dX5_minor_33 rfl 0 rfl ?_
      refine g_getR (pc := 34) 0 5 0 1 fr_0_0 fl_X5_10 dX5_minor_34 ?_
      obtain ⟨Q10, hc, h⟩ := h
      refine g_callVI (pc := 37) (M' := mX1_onSet) (n := 3) (As := []) (st := [.int x1, rf Γ 7]) dX5_minor_37 ml_X5_86 ok_X1_onSet rfl (rmOk_M _ _ _) (by decide) rc_1 (Nat.le_of_ble_eq_true rfl) rfl hc (fun r11 τ12 hq => ?_)
      have h := h r11 τ12 hq
      refine g_iand (pc := 40) dX5_minor_40 ?_
      obtain ⟨Q13, hc, h⟩ := h
      refine g_callVJ (pc := 41) (M' := mX0_minorOf) (n := 3) (As := [.int (x1 &&& r11)]) (st := []) dX5_minor_41 ml_X5_133 ok_X0_minorOf rfl (rmOk_M _ _ _) (by decide) rc_7 (Nat.le_of_ble_eq_true rfl) rfl hc (fun r14 τ15 hq => ?_)
      have h := h r14 τ15 hq
      exact g_lret (pc := 44) rfl dX5_minor_44 h
    · have h := h.2 q
      refine g_bipush (pc := 15) (-2 : Int32) dX5_minor_15 rfl ?_
      obtain ⟨Q16, hc, h⟩ := h
      refine g_callSJ (pc := 17) (M' := mX5_asLong) (n := 3) (As := [.int (-2 : Int32)]) (st := []) dX5_minor_17 ml_X5_126 ok_X5_asLong rfl (rmOk_M _ _ _) (by decide) (Nat.le_of_ble_eq_true rfl) rfl hc (fun r17 τ18 hq => ?_)
      have h := h r17 τ18 hq
      exact g_lret (pc := 20) rfl dX5_minor_20 h
set_option maxHeartbeats 4000000 in
set_option maxRecDepth 100000 in
theorem ct_X5_feasible {Γ : GT} {Q : Int32 → St → Prop} (σ : St) 
    (h : ∃ Q1 : St → Prop, CtV Γ mX0_buildAsTold 2 [rf Γ 7] σ Q1 ∧ ∀ (τ3 : St), Q1 τ3 → (∃ Q4 : Int32 → St → Prop, CtI Γ mX1_onSet 1 [rf Γ 1] τ3 Q4 ∧ ∀ (r5 : Int32) (τ6 : St), Q4 r5 τ6 → (∃ Q7 : Int32 → St → Prop, CtI Γ mX0_holdFor 2 [rf Γ 7, .int r5] τ6 Q7 ∧ ∀ (r8 : Int32) (τ9 : St), Q7 r8 τ9 → (((r8 = 0) → (Q (0 : Int32) τ9)) ∧ ((¬ r8 = 0) → (Q (1 : Int32) τ9)))))) :
    CtI Γ mX5_feasible 3 [rf Γ 0] σ Q := by
  refine ct_of (by decide +kernel) (Nat.le_of_ble_eq_true rfl) ?_
  show G Γ mX5_feasible (NI Γ 3 Q) 0 [(0, rf Γ 0)] [] σ
  refine g_aload_n (pc := 0) dX5_feasible_0 rfl 0 rfl ?_
  refine g_getR (pc := 1) 0 5 1 7 fr_0_1 fl_X5_21 dX5_feasible_1 ?_
  obtain ⟨Q1, hc, h⟩ := h
  refine g_callVV (pc := 4) (M' := mX0_buildAsTold) (n := 3) (As := []) (st := []) dX5_feasible_4 ml_X5_130 ok_X0_buildAsTold rfl (rmOk_M _ _ _) (by decide) rc_7 (Nat.le_of_ble_eq_true rfl) rfl hc (fun τ3 hq => ?_)
  have h := h τ3 hq
  refine g_aload_n (pc := 7) dX5_feasible_7 rfl 0 rfl ?_
  refine g_getR (pc := 8) 0 5 1 7 fr_0_1 fl_X5_21 dX5_feasible_8 ?_
  refine g_aload_n (pc := 11) dX5_feasible_11 rfl 0 rfl ?_
  refine g_getR (pc := 12) 0 5 0 1 fr_0_0 fl_X5_10 dX5_feasible_12 ?_
  obtain ⟨Q4, hc, h⟩ := h
  refine g_callVI (pc := 15) (M' := mX1_onSet) (n := 3) (As := []) (st := [rf Γ 7]) dX5_feasible_15 ml_X5_86 ok_X1_onSet rfl (rmOk_M _ _ _) (by decide) rc_1 (Nat.le_of_ble_eq_true rfl) rfl hc (fun r5 τ6 hq => ?_)
  have h := h r5 τ6 hq
  obtain ⟨Q7, hc, h⟩ := h
  refine g_callVI (pc := 18) (M' := mX0_holdFor) (n := 3) (As := [.int r5]) (st := []) dX5_feasible_18 ml_X5_136 ok_X0_holdFor rfl (rmOk_M _ _ _) (by decide) rc_7 (Nat.le_of_ble_eq_true rfl) rfl hc (fun r8 τ9 hq => ?_)
  have h := h r8 τ9 hq
  refine g_if_eq (pc := 21) 28 dX5_feasible_21 (by decide) (fun q => ?_) (fun q => ?_)
  · have h := h.1 q
    refine g_iconst (pc := 28) (0 : Int32) dX5_feasible_28 rfl ?_
    exact g_iret (pc := 29) rfl dX5_feasible_29 h
  · have h := h.2 q
    refine g_iconst (pc := 24) (1 : Int32) dX5_feasible_24 rfl ?_
    refine g_goto (pc := 25) 29 dX5_feasible_25 (by decide) ?_
    exact g_iret (pc := 29) rfl dX5_feasible_29 h
set_option maxHeartbeats 4000000 in
set_option maxRecDepth 100000 in
theorem ct_X5_least {Γ : GT} {Q : Int64 → St → Prop} (σ : St) (x1 : Int32) (x2 : Int32)
    (h : ∃ Q1 : Int32 → St → Prop, CtI Γ mX1_isThere 0 [rf Γ 1, .int x1] σ Q1 ∧ ∀ (r2 : Int32) (τ3 : St), Q1 r2 τ3 → (((r2 = 0) → (∃ Q4 : Int64 → St → Prop, CtJ Γ mX5_asLong 0 [.int (-2 : Int32)] τ3 Q4 ∧ ∀ (r5 : Int64) (τ6 : St), Q4 r5 τ6 → (Q r5 τ6))) ∧ ((¬ r2 = 0) → (((x2 < 0) → (∃ Q7 : Int64 → St → Prop, CtJ Γ mX5_asLong 0 [.int (-2 : Int32)] τ3 Q7 ∧ ∀ (r8 : Int64) (τ9 : St), Q7 r8 τ9 → (Q r8 τ9))) ∧ ((¬ x2 < 0) → (((x2 ≤ (1 : Int32)) → (∃ Q10 : Int32 → St → Prop, CtI Γ mX1_isOn 0 [rf Γ 1, .int x1] τ3 Q10 ∧ ∀ (r11 : Int32) (τ12 : St), Q10 r11 τ12 → (((¬ r11 = 0) → (∃ Q13 : Int32 → St → Prop, CtI Γ mX1_onSet 1 [rf Γ 1] τ12 Q13 ∧ ∀ (r14 : Int32) (τ15 : St), Q13 r14 τ15 → (∃ Q16 : St → Prop, CtV Γ mX0_buildAsTold 2 [rf Γ 7] τ15 Q16 ∧ ∀ (τ18 : St), Q16 τ18 → (∃ Q19 : Int32 → St → Prop, CtI Γ mX0_holdFor 2 [rf Γ 7, .int r14] τ18 Q19 ∧ ∀ (r20 : Int32) (τ21 : St), Q19 r20 τ21 → (((¬ r20 = 0) → (∃ Q22 : Int64 → St → Prop, CtJ Γ mX0_minorOf 2 [rf Γ 7, .int r14] τ21 Q22 ∧ ∀ (r23 : Int64) (τ24 : St), Q22 r23 τ24 → (∃ Q25 : St → Prop, CtV Γ mX0_replaceColumnByNoise 0 [rf Γ 7, .int x1] τ24 Q25 ∧ ∀ (τ27 : St), Q25 τ27 → (∃ Q28 : Int64 → St → Prop, CtJ Γ mX0_minorOf 2 [rf Γ 7, .int r14] τ27 Q28 ∧ ∀ (r29 : Int64) (τ30 : St), Q28 r29 τ30 → (∃ Q31 : Int64 → St → Prop, CtJ Γ mX5_lowestTerm 2 [.long r29, .long r23, .int x2] τ30 Q31 ∧ ∀ (r32 : Int64) (τ33 : St), Q31 r32 τ33 → (Q r32 τ33)))))) ∧ ((r20 = 0) → (∃ Q34 : Int64 → St → Prop, CtJ Γ mX5_asLong 0 [.int (-3 : Int32)] τ21 Q34 ∧ ∀ (r35 : Int64) (τ36 : St), Q34 r35 τ36 → (Q r35 τ36)))))))) ∧ ((r11 = 0) → (∃ Q37 : Int64 → St → Prop, CtJ Γ mX5_asLong 0 [.int (-3 : Int32)] τ12 Q37 ∧ ∀ (r38 : Int64) (τ39 : St), Q37 r38 τ39 → (Q r38 τ39)))))) ∧ ((¬ x2 ≤ (1 : Int32)) → (∃ Q40 : Int64 → St → Prop, CtJ Γ mX5_asLong 0 [.int (-2 : Int32)] τ3 Q40 ∧ ∀ (r41 : Int64) (τ42 : St), Q40 r41 τ42 → (Q r41 τ42))))))))) :
    CtJ Γ mX5_least 3 [rf Γ 0, .int x1, .int x2] σ Q := by
  refine ct_of (by decide +kernel) (Nat.le_of_ble_eq_true rfl) ?_
  show G Γ mX5_least (NJ Γ 3 Q) 0 [(0, rf Γ 0), (1, .int x1), (2, .int x2)] [] σ
  refine g_aload_n (pc := 0) dX5_least_0 rfl 0 rfl ?_
  refine g_getR (pc := 1) 0 5 0 1 fr_0_0 fl_X5_10 dX5_least_1 ?_
  refine g_iload_n (pc := 4) dX5_least_4 rfl 1 rfl ?_
  obtain ⟨Q1, hc, h⟩ := h
  refine g_callVI (pc := 5) (M' := mX1_isThere) (n := 3) (As := [.int x1]) (st := []) dX5_least_5 ml_X5_53 ok_X1_isThere rfl (rmOk_M _ _ _) (by decide) rc_1 (Nat.le_of_ble_eq_true rfl) rfl hc (fun r2 τ3 hq => ?_)
  have h := h r2 τ3 hq
  refine g_if_eq (pc := 8) 20 dX5_least_8 (by decide) (fun q => ?_) (fun q => ?_)
  · have h := h.1 q
    refine g_bipush (pc := 20) (-2 : Int32) dX5_least_20 rfl ?_
    obtain ⟨Q4, hc, h⟩ := h
    refine g_callSJ (pc := 22) (M' := mX5_asLong) (n := 3) (As := [.int (-2 : Int32)]) (st := []) dX5_least_22 ml_X5_126 ok_X5_asLong rfl (rmOk_M _ _ _) (by decide) (Nat.le_of_ble_eq_true rfl) rfl hc (fun r5 τ6 hq => ?_)
    have h := h r5 τ6 hq
    exact g_lret (pc := 25) rfl dX5_least_25 h
  · have h := h.2 q
    refine g_iload_n (pc := 11) dX5_least_11 rfl 2 rfl ?_
    refine g_if_lt (pc := 12) 20 dX5_least_12 (by decide) (fun q => ?_) (fun q => ?_)
    · have h := h.1 q
      refine g_bipush (pc := 20) (-2 : Int32) dX5_least_20 rfl ?_
      obtain ⟨Q7, hc, h⟩ := h
      refine g_callSJ (pc := 22) (M' := mX5_asLong) (n := 3) (As := [.int (-2 : Int32)]) (st := []) dX5_least_22 ml_X5_126 ok_X5_asLong rfl (rmOk_M _ _ _) (by decide) (Nat.le_of_ble_eq_true rfl) rfl hc (fun r8 τ9 hq => ?_)
      have h := h r8 τ9 hq
      exact g_lret (pc := 25) rfl dX5_least_25 h
    · have h := h.2 q
      refine g_iload_n (pc := 15) dX5_least_15 rfl 2 rfl ?_
      refine g_iconst (pc := 16) (1 : Int32) dX5_least_16 rfl ?_
      refine g_icmp_le (pc := 17) 26 dX5_least_17 (by decide) (fun q => ?_) (fun q => ?_)
      · have h := h.1 q
        refine g_aload_n (pc := 26) dX5_least_26 rfl 0 rfl ?_
        refine g_getR (pc := 27) 0 5 0 1 fr_0_0 fl_X5_10 dX5_least_27 ?_
        refine g_iload_n (pc := 30) dX5_least_30 rfl 1 rfl ?_
        obtain ⟨Q10, hc, h⟩ := h
        refine g_callVI (pc := 31) (M' := mX1_isOn) (n := 3) (As := [.int x1]) (st := []) dX5_least_31 ml_X5_113 ok_X1_isOn rfl (rmOk_M _ _ _) (by decide) rc_1 (Nat.le_of_ble_eq_true rfl) rfl hc (fun r11 τ12 hq => ?_)
        have h := h r11 τ12 hq
        refine g_if_ne (pc := 34) 43 dX5_least_34 (by decide) (fun q => ?_) (fun q => ?_)
        · have h := h.1 q
          refine g_aload_n (pc := 43) dX5_least_43 rfl 0 rfl ?_
          refine g_getR (pc := 44) 0 5 0 1 fr_0_0 fl_X5_10 dX5_least_44 ?_
          obtain ⟨Q13, hc, h⟩ := h
          refine g_callVI (pc := 47) (M' := mX1_onSet) (n := 3) (As := []) (st := []) dX5_least_47 ml_X5_86 ok_X1_onSet rfl (rmOk_M _ _ _) (by decide) rc_1 (Nat.le_of_ble_eq_true rfl) rfl hc (fun r14 τ15 hq => ?_)
          have h := h r14 τ15 hq
          refine g_istore_n (pc := 50) [(3, _), (0, _), (1, _), (2, _)] dX5_least_50 rfl (Nat.le_of_ble_eq_true rfl) rfl ?_
          refine g_aload_n (pc := 51) dX5_least_51 rfl 1 rfl ?_
          refine g_getR (pc := 52) 0 5 1 7 fr_0_1 fl_X5_21 dX5_least_52 ?_
          obtain ⟨Q16, hc, h⟩ := h
          refine g_callVV (pc := 55) (M' := mX0_buildAsTold) (n := 3) (As := []) (st := []) dX5_least_55 ml_X5_130 ok_X0_buildAsTold rfl (rmOk_M _ _ _) (by decide) rc_7 (Nat.le_of_ble_eq_true rfl) rfl hc (fun τ18 hq => ?_)
          have h := h τ18 hq
          refine g_aload_n (pc := 58) dX5_least_58 rfl 1 rfl ?_
          refine g_getR (pc := 59) 0 5 1 7 fr_0_1 fl_X5_21 dX5_least_59 ?_
          refine g_iload_n (pc := 62) dX5_least_62 rfl 0 rfl ?_
          obtain ⟨Q19, hc, h⟩ := h
          refine g_callVI (pc := 63) (M' := mX0_holdFor) (n := 3) (As := [.int r14]) (st := []) dX5_least_63 ml_X5_136 ok_X0_holdFor rfl (rmOk_M _ _ _) (by decide) rc_7 (Nat.le_of_ble_eq_true rfl) rfl hc (fun r20 τ21 hq => ?_)
          have h := h r20 τ21 hq
          refine g_if_ne (pc := 66) 75 dX5_least_66 (by decide) (fun q => ?_) (fun q => ?_)
          · have h := h.1 q
            refine g_aload_n (pc := 75) dX5_least_75 rfl 1 rfl ?_
            refine g_getR (pc := 76) 0 5 1 7 fr_0_1 fl_X5_21 dX5_least_76 ?_
            refine g_iload_n (pc := 79) dX5_least_79 rfl 0 rfl ?_
            obtain ⟨Q22, hc, h⟩ := h
            refine g_callVJ (pc := 80) (M' := mX0_minorOf) (n := 3) (As := [.int r14]) (st := []) dX5_least_80 ml_X5_133 ok_X0_minorOf rfl (rmOk_M _ _ _) (by decide) rc_7 (Nat.le_of_ble_eq_true rfl) rfl hc (fun r23 τ24 hq => ?_)
            have h := h r23 τ24 hq
            refine g_lstore (pc := 83) [(4, _), (3, _), (0, _), (1, _), (2, _)] dX5_least_83 (Nat.le_of_ble_eq_true rfl) rfl ?_
            refine g_aload_n (pc := 85) dX5_least_85 rfl 2 rfl ?_
            refine g_getR (pc := 86) 0 5 1 7 fr_0_1 fl_X5_21 dX5_least_86 ?_
            refine g_iload_n (pc := 89) dX5_least_89 rfl 3 rfl ?_
            obtain ⟨Q25, hc, h⟩ := h
            refine g_callVV (pc := 90) (M' := mX0_replaceColumnByNoise) (n := 3) (As := [.int x1]) (st := []) dX5_least_90 ml_X5_139 ok_X0_replaceColumnByNoise rfl (rmOk_M _ _ _) (by decide) rc_7 (Nat.le_of_ble_eq_true rfl) rfl hc (fun τ27 hq => ?_)
            have h := h τ27 hq
            refine g_aload_n (pc := 93) dX5_least_93 rfl 2 rfl ?_
            refine g_getR (pc := 94) 0 5 1 7 fr_0_1 fl_X5_21 dX5_least_94 ?_
            refine g_iload_n (pc := 97) dX5_least_97 rfl 1 rfl ?_
            obtain ⟨Q28, hc, h⟩ := h
            refine g_callVJ (pc := 98) (M' := mX0_minorOf) (n := 3) (As := [.int r14]) (st := []) dX5_least_98 ml_X5_133 ok_X0_minorOf rfl (rmOk_M _ _ _) (by decide) rc_7 (Nat.le_of_ble_eq_true rfl) rfl hc (fun r29 τ30 hq => ?_)
            have h := h r29 τ30 hq
            refine g_lload (pc := 101) dX5_least_101 0 rfl ?_
            refine g_iload_n (pc := 103) dX5_least_103 rfl 4 rfl ?_
            obtain ⟨Q31, hc, h⟩ := h
            refine g_callSJ (pc := 104) (M' := mX5_lowestTerm) (n := 3) (As := [.long r29, .long r23, .int x2]) (st := []) dX5_least_104 ml_X5_143 ok_X5_lowestTerm rfl (rmOk_M _ _ _) (by decide) (Nat.le_of_ble_eq_true rfl) rfl hc (fun r32 τ33 hq => ?_)
            have h := h r32 τ33 hq
            exact g_lret (pc := 107) rfl dX5_least_107 h
          · have h := h.2 q
            refine g_bipush (pc := 69) (-3 : Int32) dX5_least_69 rfl ?_
            obtain ⟨Q34, hc, h⟩ := h
            refine g_callSJ (pc := 71) (M' := mX5_asLong) (n := 3) (As := [.int (-3 : Int32)]) (st := []) dX5_least_71 ml_X5_126 ok_X5_asLong rfl (rmOk_M _ _ _) (by decide) (Nat.le_of_ble_eq_true rfl) rfl hc (fun r35 τ36 hq => ?_)
            have h := h r35 τ36 hq
            exact g_lret (pc := 74) rfl dX5_least_74 h
        · have h := h.2 q
          refine g_bipush (pc := 37) (-3 : Int32) dX5_least_37 rfl ?_
          obtain ⟨Q37, hc, h⟩ := h
          refine g_callSJ (pc := 39) (M' := mX5_asLong) (n := 3) (As := [.int (-3 : Int32)]) (st := []) dX5_least_39 ml_X5_126 ok_X5_asLong rfl (rmOk_M _ _ _) (by decide) (Nat.le_of_ble_eq_true rfl) rfl hc (fun r38 τ39 hq => ?_)
          have h := h r38 τ39 hq
          exact g_lret (pc := 42) rfl dX5_least_42 h
      · have h := h.2 q
        refine g_bipush (pc := 20) (-2 : Int32) dX5_least_20 rfl ?_
        obtain ⟨Q40, hc, h⟩ := h
        refine g_callSJ (pc := 22) (M' := mX5_asLong) (n := 3) (As := [.int (-2 : Int32)]) (st := []) dX5_least_22 ml_X5_126 ok_X5_asLong rfl (rmOk_M _ _ _) (by decide) (Nat.le_of_ble_eq_true rfl) rfl hc (fun r41 τ42 hq => ?_)
        have h := h r41 τ42 hq
        exact g_lret (pc := 25) rfl dX5_least_25 h
set_option maxHeartbeats 4000000 in
set_option maxRecDepth 100000 in
theorem ct_X5_witness {Γ : GT} {Q : Int32 → St → Prop} (σ : St) 
    (h : ∃ Q1 : St → Prop, CtV Γ mX0_buildAsTold 2 [rf Γ 7] σ Q1 ∧ ∀ (τ3 : St), Q1 τ3 → (∃ Q4 : Int32 → St → Prop, CtI Γ mX1_onSet 1 [rf Γ 1] τ3 Q4 ∧ ∀ (r5 : Int32) (τ6 : St), Q4 r5 τ6 → (∃ Q7 : Int32 → St → Prop, CtI Γ mX0_fewestTooMany 3 [rf Γ 7, .int r5] τ6 Q7 ∧ ∀ (r8 : Int32) (τ9 : St), Q7 r8 τ9 → (Q r8 τ9)))) :
    CtI Γ mX5_witness 4 [rf Γ 0] σ Q := by
  refine ct_of (by decide +kernel) (Nat.le_of_ble_eq_true rfl) ?_
  show G Γ mX5_witness (NI Γ 4 Q) 0 [(0, rf Γ 0)] [] σ
  refine g_aload_n (pc := 0) dX5_witness_0 rfl 0 rfl ?_
  refine g_getR (pc := 1) 0 5 1 7 fr_0_1 fl_X5_21 dX5_witness_1 ?_
  obtain ⟨Q1, hc, h⟩ := h
  refine g_callVV (pc := 4) (M' := mX0_buildAsTold) (n := 4) (As := []) (st := []) dX5_witness_4 ml_X5_130 ok_X0_buildAsTold rfl (rmOk_M _ _ _) (by decide) rc_7 (Nat.le_of_ble_eq_true rfl) rfl hc (fun τ3 hq => ?_)
  have h := h τ3 hq
  refine g_aload_n (pc := 7) dX5_witness_7 rfl 0 rfl ?_
  refine g_getR (pc := 8) 0 5 1 7 fr_0_1 fl_X5_21 dX5_witness_8 ?_
  refine g_aload_n (pc := 11) dX5_witness_11 rfl 0 rfl ?_
  refine g_getR (pc := 12) 0 5 0 1 fr_0_0 fl_X5_10 dX5_witness_12 ?_
  obtain ⟨Q4, hc, h⟩ := h
  refine g_callVI (pc := 15) (M' := mX1_onSet) (n := 4) (As := []) (st := [rf Γ 7]) dX5_witness_15 ml_X5_86 ok_X1_onSet rfl (rmOk_M _ _ _) (by decide) rc_1 (Nat.le_of_ble_eq_true rfl) rfl hc (fun r5 τ6 hq => ?_)
  have h := h r5 τ6 hq
  obtain ⟨Q7, hc, h⟩ := h
  refine g_callVI (pc := 18) (M' := mX0_fewestTooMany) (n := 4) (As := [.int r5]) (st := []) dX5_witness_18 ml_X5_147 ok_X0_fewestTooMany rfl (rmOk_M _ _ _) (by decide) rc_7 (Nat.le_of_ble_eq_true rfl) rfl hc (fun r8 τ9 hq => ?_)
  have h := h r8 τ9 hq
  exact g_iret (pc := 21) rfl dX5_witness_21 h
set_option maxHeartbeats 4000000 in
set_option maxRecDepth 100000 in
theorem ct_X5_out {Γ : GT} {Q : Int32 → St → Prop} (σ : St) 
    (h : ∃ Q1 : St → Prop, CtV Γ mX0_buildAsTold 2 [rf Γ 7] σ Q1 ∧ ∀ (τ3 : St), Q1 τ3 → (∃ Q4 : Int32 → St → Prop, CtI Γ mX1_onSet 1 [rf Γ 1] τ3 Q4 ∧ ∀ (r5 : Int32) (τ6 : St), Q4 r5 τ6 → (∃ Q7 : Int32 → St → Prop, CtI Γ mX0_fewestToLeave 3 [rf Γ 7, .int r5] τ6 Q7 ∧ ∀ (r8 : Int32) (τ9 : St), Q7 r8 τ9 → (Q r8 τ9)))) :
    CtI Γ mX5_out 4 [rf Γ 0] σ Q := by
  refine ct_of (by decide +kernel) (Nat.le_of_ble_eq_true rfl) ?_
  show G Γ mX5_out (NI Γ 4 Q) 0 [(0, rf Γ 0)] [] σ
  refine g_aload_n (pc := 0) dX5_out_0 rfl 0 rfl ?_
  refine g_getR (pc := 1) 0 5 1 7 fr_0_1 fl_X5_21 dX5_out_1 ?_
  obtain ⟨Q1, hc, h⟩ := h
  refine g_callVV (pc := 4) (M' := mX0_buildAsTold) (n := 4) (As := []) (st := []) dX5_out_4 ml_X5_130 ok_X0_buildAsTold rfl (rmOk_M _ _ _) (by decide) rc_7 (Nat.le_of_ble_eq_true rfl) rfl hc (fun τ3 hq => ?_)
  have h := h τ3 hq
  refine g_aload_n (pc := 7) dX5_out_7 rfl 0 rfl ?_
  refine g_getR (pc := 8) 0 5 1 7 fr_0_1 fl_X5_21 dX5_out_8 ?_
  refine g_aload_n (pc := 11) dX5_out_11 rfl 0 rfl ?_
  refine g_getR (pc := 12) 0 5 0 1 fr_0_0 fl_X5_10 dX5_out_12 ?_
  obtain ⟨Q4, hc, h⟩ := h
  refine g_callVI (pc := 15) (M' := mX1_onSet) (n := 4) (As := []) (st := [rf Γ 7]) dX5_out_15 ml_X5_86 ok_X1_onSet rfl (rmOk_M _ _ _) (by decide) rc_1 (Nat.le_of_ble_eq_true rfl) rfl hc (fun r5 τ6 hq => ?_)
  have h := h r5 τ6 hq
  obtain ⟨Q7, hc, h⟩ := h
  refine g_callVI (pc := 18) (M' := mX0_fewestToLeave) (n := 4) (As := [.int r5]) (st := []) dX5_out_18 ml_X5_150 ok_X0_fewestToLeave rfl (rmOk_M _ _ _) (by decide) rc_7 (Nat.le_of_ble_eq_true rfl) rfl hc (fun r8 τ9 hq => ?_)
  have h := h r8 τ9 hq
  exact g_iret (pc := 21) rfl dX5_out_21 h
set_option maxHeartbeats 4000000 in
set_option maxRecDepth 100000 in
theorem ct_X5_admitted {Γ : GT} {Q : Int32 → St → Prop} (σ : St) 
    (h : ∃ Q1 : St → Prop, CtV Γ mX0_buildAsTold 2 [rf Γ 7] σ Q1 ∧ ∀ (τ3 : St), Q1 τ3 → (∃ Q4 : Int32 → St → Prop, CtI Γ mX1_onSet 1 [rf Γ 1] τ3 Q4 ∧ ∀ (r5 : Int32) (τ6 : St), Q4 r5 τ6 → (∃ Q7 : Int32 → St → Prop, CtI Γ mX0_comeIn 3 [rf Γ 7, .int r5] τ6 Q7 ∧ ∀ (r8 : Int32) (τ9 : St), Q7 r8 τ9 → (Q r8 τ9)))) :
    CtI Γ mX5_admitted 4 [rf Γ 0] σ Q := by
  refine ct_of (by decide +kernel) (Nat.le_of_ble_eq_true rfl) ?_
  show G Γ mX5_admitted (NI Γ 4 Q) 0 [(0, rf Γ 0)] [] σ
  refine g_aload_n (pc := 0) dX5_admitted_0 rfl 0 rfl ?_
  refine g_getR (pc := 1) 0 5 1 7 fr_0_1 fl_X5_21 dX5_admitted_1 ?_
  obtain ⟨Q1, hc, h⟩ := h
  refine g_callVV (pc := 4) (M' := mX0_buildAsTold) (n := 4) (As := []) (st := []) dX5_admitted_4 ml_X5_130 ok_X0_buildAsTold rfl (rmOk_M _ _ _) (by decide) rc_7 (Nat.le_of_ble_eq_true rfl) rfl hc (fun τ3 hq => ?_)
  have h := h τ3 hq
  refine g_aload_n (pc := 7) dX5_admitted_7 rfl 0 rfl ?_
  refine g_getR (pc := 8) 0 5 1 7 fr_0_1 fl_X5_21 dX5_admitted_8 ?_
  refine g_aload_n (pc := 11) dX5_admitted_11 rfl 0 rfl ?_
  refine g_getR (pc := 12) 0 5 0 1 fr_0_0 fl_X5_10 dX5_admitted_12 ?_
  obtain ⟨Q4, hc, h⟩ := h
  refine g_callVI (pc := 15) (M' := mX1_onSet) (n := 4) (As := []) (st := [rf Γ 7]) dX5_admitted_15 ml_X5_86 ok_X1_onSet rfl (rmOk_M _ _ _) (by decide) rc_1 (Nat.le_of_ble_eq_true rfl) rfl hc (fun r5 τ6 hq => ?_)
  have h := h r5 τ6 hq
  obtain ⟨Q7, hc, h⟩ := h
  refine g_callVI (pc := 18) (M' := mX0_comeIn) (n := 4) (As := [.int r5]) (st := []) dX5_admitted_18 ml_X5_153 ok_X0_comeIn rfl (rmOk_M _ _ _) (by decide) rc_7 (Nat.le_of_ble_eq_true rfl) rfl hc (fun r8 τ9 hq => ?_)
  have h := h r8 τ9 hq
  exact g_iret (pc := 21) rfl dX5_admitted_21 h
set_option maxHeartbeats 4000000 in
set_option maxRecDepth 100000 in
theorem ct_X5_softer {Γ : GT} {Q : Int32 → St → Prop} (σ : St) 
    (h : ∃ Q1 : Int32 → St → Prop, CtI Γ mX1_onSet 1 [rf Γ 1] σ Q1 ∧ ∀ (r2 : Int32) (τ3 : St), Q1 r2 τ3 → (∃ Q4 : Int32 → St → Prop, CtI Γ mX0_whoseWishLess 3 [rf Γ 7, .int r2] τ3 Q4 ∧ ∀ (r5 : Int32) (τ6 : St), Q4 r5 τ6 → (Q r5 τ6))) :
    CtI Γ mX5_softer 4 [rf Γ 0] σ Q := by
  refine ct_of (by decide +kernel) (Nat.le_of_ble_eq_true rfl) ?_
  show G Γ mX5_softer (NI Γ 4 Q) 0 [(0, rf Γ 0)] [] σ
  refine g_aload_n (pc := 0) dX5_softer_0 rfl 0 rfl ?_
  refine g_getR (pc := 1) 0 5 1 7 fr_0_1 fl_X5_21 dX5_softer_1 ?_
  refine g_aload_n (pc := 4) dX5_softer_4 rfl 0 rfl ?_
  refine g_getR (pc := 5) 0 5 0 1 fr_0_0 fl_X5_10 dX5_softer_5 ?_
  obtain ⟨Q1, hc, h⟩ := h
  refine g_callVI (pc := 8) (M' := mX1_onSet) (n := 4) (As := []) (st := [rf Γ 7]) dX5_softer_8 ml_X5_86 ok_X1_onSet rfl (rmOk_M _ _ _) (by decide) rc_1 (Nat.le_of_ble_eq_true rfl) rfl hc (fun r2 τ3 hq => ?_)
  have h := h r2 τ3 hq
  obtain ⟨Q4, hc, h⟩ := h
  refine g_callVI (pc := 11) (M' := mX0_whoseWishLess) (n := 4) (As := [.int r2]) (st := []) dX5_softer_11 ml_X5_156 ok_X0_whoseWishLess rfl (rmOk_M _ _ _) (by decide) rc_7 (Nat.le_of_ble_eq_true rfl) rfl hc (fun r5 τ6 hq => ?_)
  have h := h r5 τ6 hq
  exact g_iret (pc := 14) rfl dX5_softer_14 h
set_option maxHeartbeats 4000000 in
set_option maxRecDepth 100000 in
theorem ct_X5_margin {Γ : GT} {Q : Int32 → St → Prop} (σ : St) 
    (h : ∃ Q1 : Int32 → St → Prop, CtI Γ mX1_onSet 1 [rf Γ 1] σ Q1 ∧ ∀ (r2 : Int32) (τ3 : St), Q1 r2 τ3 → (∃ Q4 : Int32 → St → Prop, CtI Γ mX0_greatestQuarters 3 [rf Γ 7, .int r2] τ3 Q4 ∧ ∀ (r5 : Int32) (τ6 : St), Q4 r5 τ6 → (Q r5 τ6))) :
    CtI Γ mX5_margin 4 [rf Γ 0] σ Q := by
  refine ct_of (by decide +kernel) (Nat.le_of_ble_eq_true rfl) ?_
  show G Γ mX5_margin (NI Γ 4 Q) 0 [(0, rf Γ 0)] [] σ
  refine g_aload_n (pc := 0) dX5_margin_0 rfl 0 rfl ?_
  refine g_getR (pc := 1) 0 5 1 7 fr_0_1 fl_X5_21 dX5_margin_1 ?_
  refine g_aload_n (pc := 4) dX5_margin_4 rfl 0 rfl ?_
  refine g_getR (pc := 5) 0 5 0 1 fr_0_0 fl_X5_10 dX5_margin_5 ?_
  obtain ⟨Q1, hc, h⟩ := h
  refine g_callVI (pc := 8) (M' := mX1_onSet) (n := 4) (As := []) (st := [rf Γ 7]) dX5_margin_8 ml_X5_86 ok_X1_onSet rfl (rmOk_M _ _ _) (by decide) rc_1 (Nat.le_of_ble_eq_true rfl) rfl hc (fun r2 τ3 hq => ?_)
  have h := h r2 τ3 hq
  obtain ⟨Q4, hc, h⟩ := h
  refine g_callVI (pc := 11) (M' := mX0_greatestQuarters) (n := 4) (As := [.int r2]) (st := []) dX5_margin_11 ml_X5_159 ok_X0_greatestQuarters rfl (rmOk_M _ _ _) (by decide) rc_7 (Nat.le_of_ble_eq_true rfl) rfl hc (fun r5 τ6 hq => ?_)
  have h := h r5 τ6 hq
  exact g_iret (pc := 14) rfl dX5_margin_14 h
set_option maxHeartbeats 4000000 in
set_option maxRecDepth 100000 in
theorem ct_X5_share {Γ : GT} {Q : Int64 → St → Prop} (σ : St) (x1 : Int32) (x2 : Int32)
    (h : ∃ Q1 : Int32 → St → Prop, CtI Γ mX1_isThere 0 [rf Γ 1, .int x1] σ Q1 ∧ ∀ (r2 : Int32) (τ3 : St), Q1 r2 τ3 → (((r2 = 0) → (∃ Q4 : Int64 → St → Prop, CtJ Γ mX5_asLong 0 [.int (-2 : Int32)] τ3 Q4 ∧ ∀ (r5 : Int64) (τ6 : St), Q4 r5 τ6 → (Q r5 τ6))) ∧ ((¬ r2 = 0) → (((x2 < 0) → (∃ Q7 : Int64 → St → Prop, CtJ Γ mX5_asLong 0 [.int (-2 : Int32)] τ3 Q7 ∧ ∀ (r8 : Int64) (τ9 : St), Q7 r8 τ9 → (Q r8 τ9))) ∧ ((¬ x2 < 0) → (((x2 ≤ (1 : Int32)) → (∃ Q10 : Int32 → St → Prop, CtI Γ mX1_othersAndNoise 0 [rf Γ 1, .int x1, rf Γ 6] τ3 Q10 ∧ ∀ (r11 : Int32) (τ12 : St), Q10 r11 τ12 → (∃ Q13 : Int32 → St → Prop, CtI Γ mX1_isOn 0 [rf Γ 1, .int x1] τ12 Q13 ∧ ∀ (r14 : Int32) (τ15 : St), Q13 r14 τ15 → (((r14 = 0) → (∃ Q16 : Int64 → St → Prop, CtJ Γ mX5_asLong 0 [.int (-3 : Int32)] τ15 Q16 ∧ ∀ (r17 : Int64) (τ18 : St), Q16 r17 τ18 → (Q r17 τ18))) ∧ ((¬ r14 = 0) → (((¬ r11 = 0) → (∃ Q19 : Int32 → St → Prop, CtI Γ mX1_gainOf 0 [rf Γ 1, .int x1, .int x1] τ15 Q19 ∧ ∀ (r20 : Int32) (τ21 : St), Q19 r20 τ21 → (vp_in x1 5 ∧ (∃ Q22 : Int64 → St → Prop, CtJ Γ mX5_lowestTerm 2 [.long (r20.toInt64 * ((τ21.1 6 x1.toNatClampNeg).toInt64)), .long r11.toInt64, .int x2] τ21 Q22 ∧ ∀ (r23 : Int64) (τ24 : St), Q22 r23 τ24 → (Q r23 τ24))))) ∧ ((r11 = 0) → (∃ Q25 : Int64 → St → Prop, CtJ Γ mX5_asLong 0 [.int (-3 : Int32)] τ15 Q25 ∧ ∀ (r26 : Int64) (τ27 : St), Q25 r26 τ27 → (Q r26 τ27))))))))) ∧ ((¬ x2 ≤ (1 : Int32)) → (∃ Q28 : Int64 → St → Prop, CtJ Γ mX5_asLong 0 [.int (-2 : Int32)] τ3 Q28 ∧ ∀ (r29 : Int64) (τ30 : St), Q28 r29 τ30 → (Q r29 τ30))))))))) :
    CtJ Γ mX5_share 3 [rf Γ 0, .int x1, .int x2] σ Q := by
  refine ct_of (by decide +kernel) (Nat.le_of_ble_eq_true rfl) ?_
  show G Γ mX5_share (NJ Γ 3 Q) 0 [(0, rf Γ 0), (1, .int x1), (2, .int x2)] [] σ
  refine g_aload_n (pc := 0) dX5_share_0 rfl 0 rfl ?_
  refine g_getR (pc := 1) 0 5 0 1 fr_0_0 fl_X5_10 dX5_share_1 ?_
  refine g_iload_n (pc := 4) dX5_share_4 rfl 1 rfl ?_
  obtain ⟨Q1, hc, h⟩ := h
  refine g_callVI (pc := 5) (M' := mX1_isThere) (n := 3) (As := [.int x1]) (st := []) dX5_share_5 ml_X5_53 ok_X1_isThere rfl (rmOk_M _ _ _) (by decide) rc_1 (Nat.le_of_ble_eq_true rfl) rfl hc (fun r2 τ3 hq => ?_)
  have h := h r2 τ3 hq
  refine g_if_eq (pc := 8) 20 dX5_share_8 (by decide) (fun q => ?_) (fun q => ?_)
  · have h := h.1 q
    refine g_bipush (pc := 20) (-2 : Int32) dX5_share_20 rfl ?_
    obtain ⟨Q4, hc, h⟩ := h
    refine g_callSJ (pc := 22) (M' := mX5_asLong) (n := 3) (As := [.int (-2 : Int32)]) (st := []) dX5_share_22 ml_X5_126 ok_X5_asLong rfl (rmOk_M _ _ _) (by decide) (Nat.le_of_ble_eq_true rfl) rfl hc (fun r5 τ6 hq => ?_)
    have h := h r5 τ6 hq
    exact g_lret (pc := 25) rfl dX5_share_25 h
  · have h := h.2 q
    refine g_iload_n (pc := 11) dX5_share_11 rfl 2 rfl ?_
    refine g_if_lt (pc := 12) 20 dX5_share_12 (by decide) (fun q => ?_) (fun q => ?_)
    · have h := h.1 q
      refine g_bipush (pc := 20) (-2 : Int32) dX5_share_20 rfl ?_
      obtain ⟨Q7, hc, h⟩ := h
      refine g_callSJ (pc := 22) (M' := mX5_asLong) (n := 3) (As := [.int (-2 : Int32)]) (st := []) dX5_share_22 ml_X5_126 ok_X5_asLong rfl (rmOk_M _ _ _) (by decide) (Nat.le_of_ble_eq_true rfl) rfl hc (fun r8 τ9 hq => ?_)
      have h := h r8 τ9 hq
      exact g_lret (pc := 25) rfl dX5_share_25 h
    · have h := h.2 q
      refine g_iload_n (pc := 15) dX5_share_15 rfl 2 rfl ?_
      refine g_iconst (pc := 16) (1 : Int32) dX5_share_16 rfl ?_
      refine g_icmp_le (pc := 17) 26 dX5_share_17 (by decide) (fun q => ?_) (fun q => ?_)
      · have h := h.1 q
        refine g_aload_n (pc := 26) dX5_share_26 rfl 0 rfl ?_
        refine g_getR (pc := 27) 0 5 0 1 fr_0_0 fl_X5_10 dX5_share_27 ?_
        refine g_iload_n (pc := 30) dX5_share_30 rfl 1 rfl ?_
        refine g_aload_n (pc := 31) dX5_share_31 rfl 0 rfl ?_
        refine g_getR (pc := 32) 0 5 0 1 fr_0_0 fl_X5_10 dX5_share_32 ?_
        refine g_getR (pc := 35) 1 1 6 6 fr_1_6 fl_X5_90 dX5_share_35 ?_
        obtain ⟨Q10, hc, h⟩ := h
        refine g_callVI (pc := 38) (M' := mX1_othersAndNoise) (n := 3) (As := [.int x1, rf Γ 6]) (st := []) dX5_share_38 ml_X5_162 ok_X1_othersAndNoise rfl (rmOk_M _ _ _) (by decide) rc_1 (Nat.le_of_ble_eq_true rfl) rfl hc (fun r11 τ12 hq => ?_)
        have h := h r11 τ12 hq
        refine g_istore_n (pc := 41) [(3, _), (0, _), (1, _), (2, _)] dX5_share_41 rfl (Nat.le_of_ble_eq_true rfl) rfl ?_
        refine g_aload_n (pc := 42) dX5_share_42 rfl 1 rfl ?_
        refine g_getR (pc := 43) 0 5 0 1 fr_0_0 fl_X5_10 dX5_share_43 ?_
        refine g_iload_n (pc := 46) dX5_share_46 rfl 2 rfl ?_
        obtain ⟨Q13, hc, h⟩ := h
        refine g_callVI (pc := 47) (M' := mX1_isOn) (n := 3) (As := [.int x1]) (st := []) dX5_share_47 ml_X5_113 ok_X1_isOn rfl (rmOk_M _ _ _) (by decide) rc_1 (Nat.le_of_ble_eq_true rfl) rfl hc (fun r14 τ15 hq => ?_)
        have h := h r14 τ15 hq
        refine g_if_eq (pc := 50) 57 dX5_share_50 (by decide) (fun q => ?_) (fun q => ?_)
        · have h := h.1 q
          refine g_bipush (pc := 57) (-3 : Int32) dX5_share_57 rfl ?_
          obtain ⟨Q16, hc, h⟩ := h
          refine g_callSJ (pc := 59) (M' := mX5_asLong) (n := 3) (As := [.int (-3 : Int32)]) (st := []) dX5_share_59 ml_X5_126 ok_X5_asLong rfl (rmOk_M _ _ _) (by decide) (Nat.le_of_ble_eq_true rfl) rfl hc (fun r17 τ18 hq => ?_)
          have h := h r17 τ18 hq
          exact g_lret (pc := 62) rfl dX5_share_62 h
        · have h := h.2 q
          refine g_iload_n (pc := 53) dX5_share_53 rfl 0 rfl ?_
          refine g_if_ne (pc := 54) 63 dX5_share_54 (by decide) (fun q => ?_) (fun q => ?_)
          · have h := h.1 q
            refine g_aload_n (pc := 63) dX5_share_63 rfl 1 rfl ?_
            refine g_getR (pc := 64) 0 5 0 1 fr_0_0 fl_X5_10 dX5_share_64 ?_
            refine g_iload_n (pc := 67) dX5_share_67 rfl 2 rfl ?_
            refine g_iload_n (pc := 68) dX5_share_68 rfl 2 rfl ?_
            obtain ⟨Q19, hc, h⟩ := h
            refine g_callVI (pc := 69) (M' := mX1_gainOf) (n := 3) (As := [.int x1, .int x1]) (st := []) dX5_share_69 ml_X5_61 ok_X1_gainOf rfl (rmOk_M _ _ _) (by decide) rc_1 (Nat.le_of_ble_eq_true rfl) rfl hc (fun r20 τ21 hq => ?_)
            have h := h r20 τ21 hq
            refine g_i2l (pc := 72) dX5_share_72 ?_
            refine g_aload_n (pc := 73) dX5_share_73 rfl 1 rfl ?_
            refine g_getR (pc := 74) 0 5 0 1 fr_0_0 fl_X5_10 dX5_share_74 ?_
            refine g_getR (pc := 77) 1 1 6 6 fr_1_6 fl_X5_90 dX5_share_77 ?_
            refine g_iload_n (pc := 80) dX5_share_80 rfl 2 rfl ?_
            refine g_iald (pc := 81) 6 5 ar_6 h.1 dX5_share_81 ?_
            have h := h.2
            refine g_i2l (pc := 82) dX5_share_82 ?_
            refine g_lmul (pc := 83) dX5_share_83 ?_
            refine g_iload_n (pc := 84) dX5_share_84 rfl 0 rfl ?_
            refine g_i2l (pc := 85) dX5_share_85 ?_
            refine g_iload_n (pc := 86) dX5_share_86 rfl 3 rfl ?_
            obtain ⟨Q22, hc, h⟩ := h
            refine g_callSJ (pc := 87) (M' := mX5_lowestTerm) (n := 3) (As := [.long (r20.toInt64 * ((τ21.1 6 x1.toNatClampNeg).toInt64)), .long r11.toInt64, .int x2]) (st := []) dX5_share_87 ml_X5_143 ok_X5_lowestTerm rfl (rmOk_M _ _ _) (by decide) (Nat.le_of_ble_eq_true rfl) rfl hc (fun r23 τ24 hq => ?_)
            have h := h r23 τ24 hq
            exact g_lret (pc := 90) rfl dX5_share_90 h
          · have h := h.2 q
            refine g_bipush (pc := 57) (-3 : Int32) dX5_share_57 rfl ?_
            obtain ⟨Q25, hc, h⟩ := h
            refine g_callSJ (pc := 59) (M' := mX5_asLong) (n := 3) (As := [.int (-3 : Int32)]) (st := []) dX5_share_59 ml_X5_126 ok_X5_asLong rfl (rmOk_M _ _ _) (by decide) (Nat.le_of_ble_eq_true rfl) rfl hc (fun r26 τ27 hq => ?_)
            have h := h r26 τ27 hq
            exact g_lret (pc := 62) rfl dX5_share_62 h
      · have h := h.2 q
        refine g_bipush (pc := 20) (-2 : Int32) dX5_share_20 rfl ?_
        obtain ⟨Q28, hc, h⟩ := h
        refine g_callSJ (pc := 22) (M' := mX5_asLong) (n := 3) (As := [.int (-2 : Int32)]) (st := []) dX5_share_22 ml_X5_126 ok_X5_asLong rfl (rmOk_M _ _ _) (by decide) (Nat.le_of_ble_eq_true rfl) rfl hc (fun r29 τ30 hq => ?_)
        have h := h r29 τ30 hq
        exact g_lret (pc := 25) rfl dX5_share_25 h
set_option maxHeartbeats 4000000 in
set_option maxRecDepth 100000 in
theorem ct_X5_step {Γ : GT} {Q : Int32 → St → Prop} (σ : St) (x1 : Int32)
    (h : ∃ Q1 : Int32 → St → Prop, CtI Γ mX1_isThere 0 [rf Γ 1, .int x1] σ Q1 ∧ ∀ (r2 : Int32) (τ3 : St), Q1 r2 τ3 → (((¬ r2 = 0) → (∃ Q4 : Int32 → St → Prop, CtI Γ mX1_isOn 0 [rf Γ 1, .int x1] τ3 Q4 ∧ ∀ (r5 : Int32) (τ6 : St), Q4 r5 τ6 → (((¬ r5 = 0) → (∃ Q7 : Int32 → St → Prop, CtI Γ mX4_stepOf 2 [rf Γ 11, .int x1, rf Γ 6] τ6 Q7 ∧ ∀ (r8 : Int32) (τ9 : St), Q7 r8 τ9 → (vp_in x1 5 ∧ (vp_in x1 5 ∧ (Q ((sI τ9 6 x1.toNatClampNeg r8).1 6 x1.toNatClampNeg) (sI τ9 6 x1.toNatClampNeg r8)))))) ∧ ((r5 = 0) → (Q (-3 : Int32) τ6))))) ∧ ((r2 = 0) → (Q (-2 : Int32) τ3)))) :
    CtI Γ mX5_step 3 [rf Γ 0, .int x1] σ Q := by
  refine ct_of (by decide +kernel) (Nat.le_of_ble_eq_true rfl) ?_
  show G Γ mX5_step (NI Γ 3 Q) 0 [(0, rf Γ 0), (1, .int x1)] [] σ
  refine g_aload_n (pc := 0) dX5_step_0 rfl 0 rfl ?_
  refine g_getR (pc := 1) 0 5 0 1 fr_0_0 fl_X5_10 dX5_step_1 ?_
  refine g_iload_n (pc := 4) dX5_step_4 rfl 1 rfl ?_
  obtain ⟨Q1, hc, h⟩ := h
  refine g_callVI (pc := 5) (M' := mX1_isThere) (n := 3) (As := [.int x1]) (st := []) dX5_step_5 ml_X5_53 ok_X1_isThere rfl (rmOk_M _ _ _) (by decide) rc_1 (Nat.le_of_ble_eq_true rfl) rfl hc (fun r2 τ3 hq => ?_)
  have h := h r2 τ3 hq
  refine g_if_ne (pc := 8) 14 dX5_step_8 (by decide) (fun q => ?_) (fun q => ?_)
  · have h := h.1 q
    refine g_aload_n (pc := 14) dX5_step_14 rfl 0 rfl ?_
    refine g_getR (pc := 15) 0 5 0 1 fr_0_0 fl_X5_10 dX5_step_15 ?_
    refine g_iload_n (pc := 18) dX5_step_18 rfl 1 rfl ?_
    obtain ⟨Q4, hc, h⟩ := h
    refine g_callVI (pc := 19) (M' := mX1_isOn) (n := 3) (As := [.int x1]) (st := []) dX5_step_19 ml_X5_113 ok_X1_isOn rfl (rmOk_M _ _ _) (by decide) rc_1 (Nat.le_of_ble_eq_true rfl) rfl hc (fun r5 τ6 hq => ?_)
    have h := h r5 τ6 hq
    refine g_if_ne (pc := 22) 28 dX5_step_22 (by decide) (fun q => ?_) (fun q => ?_)
    · have h := h.1 q
      refine g_aload_n (pc := 28) dX5_step_28 rfl 0 rfl ?_
      refine g_getR (pc := 29) 0 5 0 1 fr_0_0 fl_X5_10 dX5_step_29 ?_
      refine g_getR (pc := 32) 1 1 6 6 fr_1_6 fl_X5_90 dX5_step_32 ?_
      refine g_iload_n (pc := 35) dX5_step_35 rfl 1 rfl ?_
      refine g_aload_n (pc := 36) dX5_step_36 rfl 0 rfl ?_
      refine g_getR (pc := 37) 0 5 2 11 fr_0_2 fl_X5_28 dX5_step_37 ?_
      refine g_iload_n (pc := 40) dX5_step_40 rfl 1 rfl ?_
      refine g_aload_n (pc := 41) dX5_step_41 rfl 0 rfl ?_
      refine g_getR (pc := 42) 0 5 0 1 fr_0_0 fl_X5_10 dX5_step_42 ?_
      refine g_getR (pc := 45) 1 1 6 6 fr_1_6 fl_X5_90 dX5_step_45 ?_
      obtain ⟨Q7, hc, h⟩ := h
      refine g_callVI (pc := 48) (M' := mX4_stepOf) (n := 3) (As := [.int x1, rf Γ 6]) (st := [.int x1, rf Γ 6]) dX5_step_48 ml_X5_165 ok_X4_stepOf rfl (rmOk_M _ _ _) (by decide) rc_11 (Nat.le_of_ble_eq_true rfl) rfl hc (fun r8 τ9 hq => ?_)
      have h := h r8 τ9 hq
      refine g_iast (pc := 51) 6 5 ar_6 h.1 dX5_step_51 ?_
      have h := h.2
      refine g_aload_n (pc := 52) dX5_step_52 rfl 0 rfl ?_
      refine g_getR (pc := 53) 0 5 0 1 fr_0_0 fl_X5_10 dX5_step_53 ?_
      refine g_getR (pc := 56) 1 1 6 6 fr_1_6 fl_X5_90 dX5_step_56 ?_
      refine g_iload_n (pc := 59) dX5_step_59 rfl 1 rfl ?_
      refine g_iald (pc := 60) 6 5 ar_6 h.1 dX5_step_60 ?_
      have h := h.2
      exact g_iret (pc := 61) rfl dX5_step_61 h
    · have h := h.2 q
      refine g_bipush (pc := 25) (-3 : Int32) dX5_step_25 rfl ?_
      exact g_iret (pc := 27) rfl dX5_step_27 h
  · have h := h.2 q
    refine g_bipush (pc := 11) (-2 : Int32) dX5_step_11 rfl ?_
    exact g_iret (pc := 13) rfl dX5_step_13 h
set_option maxHeartbeats 4000000 in
set_option maxRecDepth 100000 in
theorem ct_X5_turn {Γ : GT} {Q : Int32 → St → Prop} (σ : St) 
    (h : ∃ Q1 : Int32 → St → Prop, CtI Γ mX4_takeTurn 4 [rf Γ 11, rf Γ 6] σ Q1 ∧ ∀ (r2 : Int32) (τ3 : St), Q1 r2 τ3 → (Q r2 τ3)) :
    CtI Γ mX5_turn 5 [rf Γ 0] σ Q := by
  refine ct_of (by decide +kernel) (Nat.le_of_ble_eq_true rfl) ?_
  show G Γ mX5_turn (NI Γ 5 Q) 0 [(0, rf Γ 0)] [] σ
  refine g_aload_n (pc := 0) dX5_turn_0 rfl 0 rfl ?_
  refine g_getR (pc := 1) 0 5 2 11 fr_0_2 fl_X5_28 dX5_turn_1 ?_
  refine g_aload_n (pc := 4) dX5_turn_4 rfl 0 rfl ?_
  refine g_getR (pc := 5) 0 5 0 1 fr_0_0 fl_X5_10 dX5_turn_5 ?_
  refine g_getR (pc := 8) 1 1 6 6 fr_1_6 fl_X5_90 dX5_turn_8 ?_
  obtain ⟨Q1, hc, h⟩ := h
  refine g_callVI (pc := 11) (M' := mX4_takeTurn) (n := 5) (As := [rf Γ 6]) (st := []) dX5_turn_11 ml_X5_168 ok_X4_takeTurn rfl (rmOk_M _ _ _) (by decide) rc_11 (Nat.le_of_ble_eq_true rfl) rfl hc (fun r2 τ3 hq => ?_)
  have h := h r2 τ3 hq
  exact g_iret (pc := 14) rfl dX5_turn_14 h
set_option maxHeartbeats 4000000 in
set_option maxRecDepth 100000 in
theorem ct_X5_order {Γ : GT} {Q : Int32 → St → Prop} (σ : St) 
    (h : ∃ Q1 : Int32 → St → Prop, CtI Γ mX3_firstWrong 0 [rf Γ 14, .int (σ.1 1 0)] σ Q1 ∧ ∀ (r2 : Int32) (τ3 : St), Q1 r2 τ3 → (((¬ r2 = (-1 : Int32)) → (Q (0 : Int32) τ3)) ∧ ((r2 = (-1 : Int32)) → (∃ Q4 : Int32 → St → Prop, CtI Γ mX5_stepsOfText 4 [rf Γ 0] τ3 Q4 ∧ ∀ (r5 : Int32) (τ6 : St), Q4 r5 τ6 → (Q r5 τ6))))) :
    CtI Γ mX5_order 5 [rf Γ 0] σ Q := by
  refine ct_of (by decide +kernel) (Nat.le_of_ble_eq_true rfl) ?_
  show G Γ mX5_order (NI Γ 5 Q) 0 [(0, rf Γ 0)] [] σ
  refine g_aload_n (pc := 0) dX5_order_0 rfl 0 rfl ?_
  refine g_getR (pc := 1) 0 5 3 14 fr_0_3 fl_X5_35 dX5_order_1 ?_
  refine g_aload_n (pc := 4) dX5_order_4 rfl 0 rfl ?_
  refine g_getR (pc := 5) 0 5 0 1 fr_0_0 fl_X5_10 dX5_order_5 ?_
  refine g_getI (pc := 8) 1 1 0 fi_1_0 fl_X5_50 dX5_order_8 ?_
  obtain ⟨Q1, hc, h⟩ := h
  refine g_callVI (pc := 11) (M' := mX3_firstWrong) (n := 5) (As := [.int (σ.1 1 0)]) (st := []) dX5_order_11 ml_X5_102 ok_X3_firstWrong rfl (rmOk_M _ _ _) (by decide) rc_14 (Nat.le_of_ble_eq_true rfl) rfl hc (fun r2 τ3 hq => ?_)
  have h := h r2 τ3 hq
  refine g_iconst (pc := 14) (-1 : Int32) dX5_order_14 rfl ?_
  refine g_icmp_ne (pc := 15) 25 dX5_order_15 (by decide) (fun q => ?_) (fun q => ?_)
  · have h := h.1 q
    refine g_iconst (pc := 25) (0 : Int32) dX5_order_25 rfl ?_
    exact g_iret (pc := 26) rfl dX5_order_26 h
  · have h := h.2 q
    refine g_aload_n (pc := 18) dX5_order_18 rfl 0 rfl ?_
    obtain ⟨Q4, hc, h⟩ := h
    refine g_callVI (pc := 19) (M' := mX5_stepsOfText) (n := 5) (As := []) (st := []) dX5_order_19 ml_X5_172 ok_X5_stepsOfText rfl (rmOk_M _ _ _) (by decide) rc_0 (Nat.le_of_ble_eq_true rfl) rfl hc (fun r5 τ6 hq => ?_)
    have h := h r5 τ6 hq
    refine g_goto (pc := 22) 26 dX5_order_22 (by decide) ?_
    exact g_iret (pc := 26) rfl dX5_order_26 h
set_option maxHeartbeats 4000000 in
set_option maxRecDepth 100000 in
theorem ct_X5_still {Γ : GT} {Q : Int32 → St → Prop} (σ : St) 
    (h : ∃ Q1 : Int32 → St → Prop, CtI Γ mX4_settle 5 [rf Γ 11] σ Q1 ∧ ∀ (r2 : Int32) (τ3 : St), Q1 r2 τ3 → (Q r2 τ3)) :
    CtI Γ mX5_still 6 [rf Γ 0] σ Q := by
  refine ct_of (by decide +kernel) (Nat.le_of_ble_eq_true rfl) ?_
  show G Γ mX5_still (NI Γ 6 Q) 0 [(0, rf Γ 0)] [] σ
  refine g_aload_n (pc := 0) dX5_still_0 rfl 0 rfl ?_
  refine g_getR (pc := 1) 0 5 2 11 fr_0_2 fl_X5_28 dX5_still_1 ?_
  obtain ⟨Q1, hc, h⟩ := h
  refine g_callVI (pc := 4) (M' := mX4_settle) (n := 6) (As := []) (st := []) dX5_still_4 ml_X5_175 ok_X4_settle rfl (rmOk_M _ _ _) (by decide) rc_11 (Nat.le_of_ble_eq_true rfl) rfl hc (fun r2 τ3 hq => ?_)
  have h := h r2 τ3 hq
  exact g_iret (pc := 7) rfl dX5_still_7 h
set_option maxHeartbeats 4000000 in
set_option maxRecDepth 100000 in
theorem ct_X5_rest {Γ : GT} {Q : Int32 → St → Prop} (σ : St) (x1 : Int32)
    (h : ∃ Q1 : Int32 → St → Prop, CtI Γ mX1_isThere 0 [rf Γ 1, .int x1] σ Q1 ∧ ∀ (r2 : Int32) (τ3 : St), Q1 r2 τ3 → (((¬ r2 = 0) → (∃ Q4 : Int32 → St → Prop, CtI Γ mX4_settle 5 [rf Γ 11] τ3 Q4 ∧ ∀ (r5 : Int32) (τ6 : St), Q4 r5 τ6 → (vp_in x1 5 ∧ (Q (τ6.1 12 x1.toNatClampNeg) τ6)))) ∧ ((r2 = 0) → (Q (-2 : Int32) τ3)))) :
    CtI Γ mX5_rest 6 [rf Γ 0, .int x1] σ Q := by
  refine ct_of (by decide +kernel) (Nat.le_of_ble_eq_true rfl) ?_
  show G Γ mX5_rest (NI Γ 6 Q) 0 [(0, rf Γ 0), (1, .int x1)] [] σ
  refine g_aload_n (pc := 0) dX5_rest_0 rfl 0 rfl ?_
  refine g_getR (pc := 1) 0 5 0 1 fr_0_0 fl_X5_10 dX5_rest_1 ?_
  refine g_iload_n (pc := 4) dX5_rest_4 rfl 1 rfl ?_
  obtain ⟨Q1, hc, h⟩ := h
  refine g_callVI (pc := 5) (M' := mX1_isThere) (n := 6) (As := [.int x1]) (st := []) dX5_rest_5 ml_X5_53 ok_X1_isThere rfl (rmOk_M _ _ _) (by decide) rc_1 (Nat.le_of_ble_eq_true rfl) rfl hc (fun r2 τ3 hq => ?_)
  have h := h r2 τ3 hq
  refine g_if_ne (pc := 8) 14 dX5_rest_8 (by decide) (fun q => ?_) (fun q => ?_)
  · have h := h.1 q
    refine g_aload_n (pc := 14) dX5_rest_14 rfl 0 rfl ?_
    refine g_getR (pc := 15) 0 5 2 11 fr_0_2 fl_X5_28 dX5_rest_15 ?_
    obtain ⟨Q4, hc, h⟩ := h
    refine g_callVI (pc := 18) (M' := mX4_settle) (n := 6) (As := []) (st := []) dX5_rest_18 ml_X5_175 ok_X4_settle rfl (rmOk_M _ _ _) (by decide) rc_11 (Nat.le_of_ble_eq_true rfl) rfl hc (fun r5 τ6 hq => ?_)
    have h := h r5 τ6 hq
    refine g_pop (pc := 21) dX5_rest_21 rfl ?_
    refine g_aload_n (pc := 22) dX5_rest_22 rfl 0 rfl ?_
    refine g_getR (pc := 23) 0 5 2 11 fr_0_2 fl_X5_28 dX5_rest_23 ?_
    refine g_getR (pc := 26) 11 4 1 12 fr_11_1 fl_X5_178 dX5_rest_26 ?_
    refine g_iload_n (pc := 29) dX5_rest_29 rfl 1 rfl ?_
    refine g_iald (pc := 30) 12 5 ar_12 h.1 dX5_rest_30 ?_
    have h := h.2
    exact g_iret (pc := 31) rfl dX5_rest_31 h
  · have h := h.2 q
    refine g_bipush (pc := 11) (-2 : Int32) dX5_rest_11 rfl ?_
    exact g_iret (pc := 13) rfl dX5_rest_13 h
set_option maxHeartbeats 4000000 in
set_option maxRecDepth 100000 in
theorem ct_X5_met {Γ : GT} {Q : Int32 → St → Prop} (σ : St) 
    (h : ∃ Q1 : Int32 → St → Prop, CtI Γ mX1_contentSet 2 [rf Γ 1] σ Q1 ∧ ∀ (r2 : Int32) (τ3 : St), Q1 r2 τ3 → (Q r2 τ3)) :
    CtI Γ mX5_met 3 [rf Γ 0] σ Q := by
  refine ct_of (by decide +kernel) (Nat.le_of_ble_eq_true rfl) ?_
  show G Γ mX5_met (NI Γ 3 Q) 0 [(0, rf Γ 0)] [] σ
  refine g_aload_n (pc := 0) dX5_met_0 rfl 0 rfl ?_
  refine g_getR (pc := 1) 0 5 0 1 fr_0_0 fl_X5_10 dX5_met_1 ?_
  obtain ⟨Q1, hc, h⟩ := h
  refine g_callVI (pc := 4) (M' := mX1_contentSet) (n := 3) (As := []) (st := []) dX5_met_4 ml_X5_181 ok_X1_contentSet rfl (rmOk_M _ _ _) (by decide) rc_1 (Nat.le_of_ble_eq_true rfl) rfl hc (fun r2 τ3 hq => ?_)
  have h := h r2 τ3 hq
  exact g_iret (pc := 7) rfl dX5_met_7 h
set_option maxHeartbeats 4000000 in
set_option maxRecDepth 100000 in
theorem ct_X5_sheet {Γ : GT} {Q : Int32 → St → Prop} (σ : St) (x1 : Int32) (x2 : Int32) (x3 : Int32)
    (h : ∃ Q1 : Int32 → St → Prop, CtI Γ mX5_isSheet 0 [.int x1] σ Q1 ∧ ∀ (r2 : Int32) (τ3 : St), Q1 r2 τ3 → (((r2 = 0) → (Q (-2 : Int32) τ3)) ∧ ((¬ r2 = 0) → (∃ Q4 : Int32 → St → Prop, CtI Γ mX5_isForm 0 [.int x2] τ3 Q4 ∧ ∀ (r5 : Int32) (τ6 : St), Q4 r5 τ6 → (((r5 = 0) → (Q (-2 : Int32) τ6)) ∧ ((¬ r5 = 0) → (((x3 ≤ (60 : Int32)) → (((0 ≤ x3) → (vp_in x1 4 ∧ (∃ Q8 : St → Prop, CtV Γ mX2_renew 0 [rf Γ (17 + x1.toNatClampNeg), .int x2, .int x3] τ6 Q8 ∧ ∀ (τ10 : St), Q8 τ10 → (Q x3 τ10)))) ∧ ((¬ 0 ≤ x3) → (∃ Q11 : Int32 → St → Prop, CtI Γ mX5_finding 0 [rf Γ 0, .int (5 : Int32)] τ6 Q11 ∧ ∀ (r12 : Int32) (τ13 : St), Q11 r12 τ13 → (Q r12 τ13))))) ∧ ((¬ x3 ≤ (60 : Int32)) → (Q (-2 : Int32) τ6))))))))) :
    CtI Γ mX5_sheet 1 [rf Γ 0, .int x1, .int x2, .int x3] σ Q := by
  refine ct_of (by decide +kernel) (Nat.le_of_ble_eq_true rfl) ?_
  show G Γ mX5_sheet (NI Γ 1 Q) 0 [(0, rf Γ 0), (1, .int x1), (2, .int x2), (3, .int x3)] [] σ
  refine g_iload_n (pc := 0) dX5_sheet_0 rfl 1 rfl ?_
  obtain ⟨Q1, hc, h⟩ := h
  refine g_callSI (pc := 1) (M' := mX5_isSheet) (n := 1) (As := [.int x1]) (st := []) dX5_sheet_1 ml_X5_184 ok_X5_isSheet rfl (rmOk_M _ _ _) (by decide) (Nat.le_of_ble_eq_true rfl) rfl hc (fun r2 τ3 hq => ?_)
  have h := h r2 τ3 hq
  refine g_if_eq (pc := 4) 20 dX5_sheet_4 (by decide) (fun q => ?_) (fun q => ?_)
  · have h := h.1 q
    refine g_bipush (pc := 20) (-2 : Int32) dX5_sheet_20 rfl ?_
    exact g_iret (pc := 22) rfl dX5_sheet_22 h
  · have h := h.2 q
    refine g_iload_n (pc := 7) dX5_sheet_7 rfl 2 rfl ?_
    obtain ⟨Q4, hc, h⟩ := h
    refine g_callSI (pc := 8) (M' := mX5_isForm) (n := 1) (As := [.int x2]) (st := []) dX5_sheet_8 ml_X5_187 ok_X5_isForm rfl (rmOk_M _ _ _) (by decide) (Nat.le_of_ble_eq_true rfl) rfl hc (fun r5 τ6 hq => ?_)
    have h := h r5 τ6 hq
    refine g_if_eq (pc := 11) 20 dX5_sheet_11 (by decide) (fun q => ?_) (fun q => ?_)
    · have h := h.1 q
      refine g_bipush (pc := 20) (-2 : Int32) dX5_sheet_20 rfl ?_
      exact g_iret (pc := 22) rfl dX5_sheet_22 h
    · have h := h.2 q
      refine g_iload_n (pc := 14) dX5_sheet_14 rfl 3 rfl ?_
      refine g_bipush (pc := 15) (60 : Int32) dX5_sheet_15 rfl ?_
      refine g_icmp_le (pc := 17) 23 dX5_sheet_17 (by decide) (fun q => ?_) (fun q => ?_)
      · have h := h.1 q
        refine g_iload_n (pc := 23) dX5_sheet_23 rfl 3 rfl ?_
        refine g_if_ge (pc := 24) 33 dX5_sheet_24 (by decide) (fun q => ?_) (fun q => ?_)
        · have h := h.1 q
          refine g_aload_n (pc := 33) dX5_sheet_33 rfl 0 rfl ?_
          refine g_getR (pc := 34) 0 5 4 16 fr_0_4 fl_X5_41 dX5_sheet_34 ?_
          refine g_iload_n (pc := 37) dX5_sheet_37 rfl 1 rfl ?_
          have hs7 := isSh_of h.1
          refine g_aald (pc := 38) h.1 dX5_sheet_38 ?_
          have h := h.2
          refine g_iload_n (pc := 39) dX5_sheet_39 rfl 2 rfl ?_
          refine g_iload_n (pc := 40) dX5_sheet_40 rfl 3 rfl ?_
          obtain ⟨Q8, hc, h⟩ := h
          refine g_callVV (pc := 41) (M' := mX2_renew) (n := 1) (As := [.int x2, .int x3]) (st := []) dX5_sheet_41 ml_X5_193 ok_X2_renew rfl (rmOk_M _ _ _) (by decide) (rc_sh hs7) (Nat.le_of_ble_eq_true rfl) rfl hc (fun τ10 hq => ?_)
          have h := h τ10 hq
          refine g_iload_n (pc := 44) dX5_sheet_44 rfl 3 rfl ?_
          exact g_iret (pc := 45) rfl dX5_sheet_45 h
        · have h := h.2 q
          refine g_aload_n (pc := 27) dX5_sheet_27 rfl 0 rfl ?_
          refine g_iconst (pc := 28) (5 : Int32) dX5_sheet_28 rfl ?_
          obtain ⟨Q11, hc, h⟩ := h
          refine g_callVI (pc := 29) (M' := mX5_finding) (n := 1) (As := [.int (5 : Int32)]) (st := []) dX5_sheet_29 ml_X5_190 ok_X5_finding rfl (rmOk_M _ _ _) (by decide) rc_0 (Nat.le_of_ble_eq_true rfl) rfl hc (fun r12 τ13 hq => ?_)
          have h := h r12 τ13 hq
          exact g_iret (pc := 32) rfl dX5_sheet_32 h
      · have h := h.2 q
        refine g_bipush (pc := 20) (-2 : Int32) dX5_sheet_20 rfl ?_
        exact g_iret (pc := 22) rfl dX5_sheet_22 h
set_option maxHeartbeats 4000000 in
set_option maxRecDepth 100000 in
theorem ct_X5_lose {Γ : GT} {Q : Int32 → St → Prop} (σ : St) (x1 : Int32)
    (h : ∃ Q1 : Int32 → St → Prop, CtI Γ mX5_refusalOfSheet 1 [rf Γ 0, .int x1] σ Q1 ∧ ∀ (r2 : Int32) (τ3 : St), Q1 r2 τ3 → (((r2 = 0) → (vp_in x1 4 ∧ (vp_in x1 4 ∧ (Q (τ3.1 (17 + x1.toNatClampNeg) 1) (sI τ3 (17 + x1.toNatClampNeg) 1 (-1 : Int32)))))) ∧ ((¬ r2 = 0) → (Q r2 τ3)))) :
    CtI Γ mX5_lose 2 [rf Γ 0, .int x1] σ Q := by
  refine ct_of (by decide +kernel) (Nat.le_of_ble_eq_true rfl) ?_
  show G Γ mX5_lose (NI Γ 2 Q) 0 [(0, rf Γ 0), (1, .int x1)] [] σ
  refine g_aload_n (pc := 0) dX5_lose_0 rfl 0 rfl ?_
  refine g_iload_n (pc := 1) dX5_lose_1 rfl 1 rfl ?_
  obtain ⟨Q1, hc, h⟩ := h
  refine g_callVI (pc := 2) (M' := mX5_refusalOfSheet) (n := 2) (As := [.int x1]) (st := []) dX5_lose_2 ml_X5_106 ok_X5_refusalOfSheet rfl (rmOk_M _ _ _) (by decide) rc_0 (Nat.le_of_ble_eq_true rfl) rfl hc (fun r2 τ3 hq => ?_)
  have h := h r2 τ3 hq
  refine g_istore_n (pc := 5) [(2, _), (0, _), (1, _)] dX5_lose_5 rfl (Nat.le_of_ble_eq_true rfl) rfl ?_
  refine g_iload_n (pc := 6) dX5_lose_6 rfl 0 rfl ?_
  refine g_if_eq (pc := 7) 12 dX5_lose_7 (by decide) (fun q => ?_) (fun q => ?_)
  · have h := h.1 q
    refine g_aload_n (pc := 12) dX5_lose_12 rfl 1 rfl ?_
    refine g_getR (pc := 13) 0 5 4 16 fr_0_4 fl_X5_41 dX5_lose_13 ?_
    refine g_iload_n (pc := 16) dX5_lose_16 rfl 2 rfl ?_
    have hs4 := isSh_of h.1
    refine g_aald (pc := 17) h.1 dX5_lose_17 ?_
    have h := h.2
    refine g_getI (pc := 18) (17 + x1.toNatClampNeg) 2 1 (fi_sh1 hs4) fl_X5_197 dX5_lose_18 ?_
    refine g_istore_n (pc := 21) [(3, _), (2, _), (0, _), (1, _)] dX5_lose_21 rfl (Nat.le_of_ble_eq_true rfl) rfl ?_
    refine g_aload_n (pc := 22) dX5_lose_22 rfl 2 rfl ?_
    refine g_getR (pc := 23) 0 5 4 16 fr_0_4 fl_X5_41 dX5_lose_23 ?_
    refine g_iload_n (pc := 26) dX5_lose_26 rfl 3 rfl ?_
    have hs5 := isSh_of h.1
    refine g_aald (pc := 27) h.1 dX5_lose_27 ?_
    have h := h.2
    refine g_iconst (pc := 28) (-1 : Int32) dX5_lose_28 rfl ?_
    refine g_put (pc := 29) (17 + x1.toNatClampNeg) 2 1 (fpp_sh1 hs5) fp_X5_197 dX5_lose_29 ?_
    refine g_iload_n (pc := 32) dX5_lose_32 rfl 0 rfl ?_
    exact g_iret (pc := 33) rfl dX5_lose_33 h
  · have h := h.2 q
    refine g_iload_n (pc := 10) dX5_lose_10 rfl 0 rfl ?_
    exact g_iret (pc := 11) rfl dX5_lose_11 h
set_option maxHeartbeats 4000000 in
set_option maxRecDepth 100000 in
theorem ct_X5_put {Γ : GT} {Q : Int32 → St → Prop} (σ : St) (x1 : Int32) (x2 : Int32) (x3 : Int32) (x4 : Int32)
    (h : ∃ Q1 : Int32 → St → Prop, CtI Γ mX5_refusalOfItem 1 [rf Γ 0, .int x1, .int x2, .int x3] σ Q1 ∧ ∀ (r2 : Int32) (τ3 : St), Q1 r2 τ3 → (((r2 = 0) → (vp_in x1 4 ∧ (∃ Q5 : St → Prop, CtV Γ mX2_store 0 [rf Γ (17 + x1.toNatClampNeg), .int x3, .int x4] τ3 Q5 ∧ ∀ (τ7 : St), Q5 τ7 → (Q (1 : Int32) τ7)))) ∧ ((¬ r2 = 0) → (Q r2 τ3)))) :
    CtI Γ mX5_put 2 [rf Γ 0, .int x1, .int x2, .int x3, .int x4] σ Q := by
  refine ct_of (by decide +kernel) (Nat.le_of_ble_eq_true rfl) ?_
  show G Γ mX5_put (NI Γ 2 Q) 0 [(0, rf Γ 0), (1, .int x1), (2, .int x2), (3, .int x3), (4, .int x4)] [] σ
  refine g_aload_n (pc := 0) dX5_put_0 rfl 0 rfl ?_
  refine g_iload_n (pc := 1) dX5_put_1 rfl 1 rfl ?_
  refine g_iload_n (pc := 2) dX5_put_2 rfl 2 rfl ?_
  refine g_iload_n (pc := 3) dX5_put_3 rfl 3 rfl ?_
  obtain ⟨Q1, hc, h⟩ := h
  refine g_callVI (pc := 4) (M' := mX5_refusalOfItem) (n := 2) (As := [.int x1, .int x2, .int x3]) (st := []) dX5_put_4 ml_X5_200 ok_X5_refusalOfItem rfl (rmOk_M _ _ _) (by decide) rc_0 (Nat.le_of_ble_eq_true rfl) rfl hc (fun r2 τ3 hq => ?_)
  have h := h r2 τ3 hq
  refine g_istore (pc := 7) [(5, _), (0, _), (1, _), (2, _), (3, _), (4, _)] dX5_put_7 (Nat.le_of_ble_eq_true rfl) rfl ?_
  refine g_iload (pc := 9) dX5_put_9 0 rfl ?_
  refine g_if_eq (pc := 11) 17 dX5_put_11 (by decide) (fun q => ?_) (fun q => ?_)
  · have h := h.1 q
    refine g_aload_n (pc := 17) dX5_put_17 rfl 1 rfl ?_
    refine g_getR (pc := 18) 0 5 4 16 fr_0_4 fl_X5_41 dX5_put_18 ?_
    refine g_iload_n (pc := 21) dX5_put_21 rfl 2 rfl ?_
    have hs4 := isSh_of h.1
    refine g_aald (pc := 22) h.1 dX5_put_22 ?_
    have h := h.2
    refine g_iload_n (pc := 23) dX5_put_23 rfl 4 rfl ?_
    refine g_iload (pc := 24) dX5_put_24 5 rfl ?_
    obtain ⟨Q5, hc, h⟩ := h
    refine g_callVV (pc := 26) (M' := mX2_store) (n := 2) (As := [.int x3, .int x4]) (st := []) dX5_put_26 ml_X5_204 ok_X2_store rfl (rmOk_M _ _ _) (by decide) (rc_sh hs4) (Nat.le_of_ble_eq_true rfl) rfl hc (fun τ7 hq => ?_)
    have h := h τ7 hq
    refine g_iconst (pc := 29) (1 : Int32) dX5_put_29 rfl ?_
    exact g_iret (pc := 30) rfl dX5_put_30 h
  · have h := h.2 q
    refine g_iload (pc := 14) dX5_put_14 0 rfl ?_
    exact g_iret (pc := 16) rfl dX5_put_16 h
set_option maxHeartbeats 4000000 in
set_option maxRecDepth 100000 in
theorem ct_X5_get {Γ : GT} {Q : Int32 → St → Prop} (σ : St) (x1 : Int32) (x2 : Int32) (x3 : Int32)
    (h : ∃ Q1 : Int32 → St → Prop, CtI Γ mX5_refusalOfItem 1 [rf Γ 0, .int x1, .int x2, .int x3] σ Q1 ∧ ∀ (r2 : Int32) (τ3 : St), Q1 r2 τ3 → (((r2 = 0) → (vp_in x1 4 ∧ (vp_in x3 60 ∧ (Q (τ3.1 ((17 + x1.toNatClampNeg) + 4) x3.toNatClampNeg) τ3)))) ∧ ((¬ r2 = 0) → (Q (-2147483648 : Int32) τ3)))) :
    CtI Γ mX5_get 2 [rf Γ 0, .int x1, .int x2, .int x3] σ Q := by
  refine ct_of (by decide +kernel) (Nat.le_of_ble_eq_true rfl) ?_
  show G Γ mX5_get (NI Γ 2 Q) 0 [(0, rf Γ 0), (1, .int x1), (2, .int x2), (3, .int x3)] [] σ
  refine g_aload_n (pc := 0) dX5_get_0 rfl 0 rfl ?_
  refine g_iload_n (pc := 1) dX5_get_1 rfl 1 rfl ?_
  refine g_iload_n (pc := 2) dX5_get_2 rfl 2 rfl ?_
  refine g_iload_n (pc := 3) dX5_get_3 rfl 3 rfl ?_
  obtain ⟨Q1, hc, h⟩ := h
  refine g_callVI (pc := 4) (M' := mX5_refusalOfItem) (n := 2) (As := [.int x1, .int x2, .int x3]) (st := []) dX5_get_4 ml_X5_200 ok_X5_refusalOfItem rfl (rmOk_M _ _ _) (by decide) rc_0 (Nat.le_of_ble_eq_true rfl) rfl hc (fun r2 τ3 hq => ?_)
  have h := h r2 τ3 hq
  refine g_if_eq (pc := 7) 15 dX5_get_7 (by decide) (fun q => ?_) (fun q => ?_)
  · have h := h.1 q
    refine g_aload_n (pc := 15) dX5_get_15 rfl 0 rfl ?_
    refine g_getR (pc := 16) 0 5 4 16 fr_0_4 fl_X5_41 dX5_get_16 ?_
    refine g_iload_n (pc := 19) dX5_get_19 rfl 1 rfl ?_
    have hs4 := isSh_of h.1
    refine g_aald (pc := 20) h.1 dX5_get_20 ?_
    have h := h.2
    refine g_getR (pc := 21) (17 + x1.toNatClampNeg) 2 2 ((17 + x1.toNatClampNeg) + 4) (fr_sh hs4) fl_X5_208 dX5_get_21 ?_
    refine g_iload_n (pc := 24) dX5_get_24 rfl 3 rfl ?_
    refine g_iald (pc := 25) ((17 + x1.toNatClampNeg) + 4) 60 (ai_sh hs4) h.1 dX5_get_25 ?_
    have h := h.2
    exact g_iret (pc := 26) rfl dX5_get_26 h
  · have h := h.2 q
    refine g_ldc (pc := 10) (-2147483648 : Int32) kc_X5_207 dX5_get_10 ?_
    refine g_goto (pc := 12) 26 dX5_get_12 (by decide) ?_
    exact g_iret (pc := 26) rfl dX5_get_26 h
set_option maxHeartbeats 4000000 in
set_option maxRecDepth 100000 in
theorem ct_X5_copy {Γ : GT} {Q : Int32 → St → Prop} (σ : St) (x1 : Int32) (x2 : Int32) (x3 : Int32) (x4 : Int32) (x5 : Int32)
    (h : ∃ Q1 : Int32 → St → Prop, CtI Γ mX5_isSheet 0 [.int x1] σ Q1 ∧ ∀ (r2 : Int32) (τ3 : St), Q1 r2 τ3 → (((r2 = 0) → (Q (-2 : Int32) τ3)) ∧ ((¬ r2 = 0) → (∃ Q4 : Int32 → St → Prop, CtI Γ mX5_isSheet 0 [.int x3] τ3 Q4 ∧ ∀ (r5 : Int32) (τ6 : St), Q4 r5 τ6 → (((¬ r5 = 0) → (vp_in x1 4 ∧ (vp_in x3 4 ∧ (∃ Q9 : Int32 → St → Prop, CtI Γ mX2_isLost 0 [rf Γ (17 + x1.toNatClampNeg)] τ6 Q9 ∧ ∀ (r10 : Int32) (τ11 : St), Q9 r10 τ11 → (((¬ r10 = 0) → (∃ Q12 : Int32 → St → Prop, CtI Γ mX5_finding 0 [rf Γ 0, .int (1 : Int32)] τ11 Q12 ∧ ∀ (r13 : Int32) (τ14 : St), Q12 r13 τ14 → (Q r13 τ14))) ∧ ((r10 = 0) → (∃ Q15 : Int32 → St → Prop, CtI Γ mX2_isLost 0 [rf Γ (17 + x3.toNatClampNeg)] τ11 Q15 ∧ ∀ (r16 : Int32) (τ17 : St), Q15 r16 τ17 → (((r16 = 0) → ((((τ17.1 (17 + x1.toNatClampNeg) 0) = (τ17.1 (17 + x3.toNatClampNeg) 0)) → (∃ Q18 : Int32 → St → Prop, CtI Γ mX2_hasRange 0 [rf Γ (17 + x1.toNatClampNeg), .int x2, .int x5] τ17 Q18 ∧ ∀ (r19 : Int32) (τ20 : St), Q18 r19 τ20 → (((r19 = 0) → (∃ Q21 : Int32 → St → Prop, CtI Γ mX5_finding 0 [rf Γ 0, .int (2 : Int32)] τ20 Q21 ∧ ∀ (r22 : Int32) (τ23 : St), Q21 r22 τ23 → (Q r22 τ23))) ∧ ((¬ r19 = 0) → (∃ Q24 : Int32 → St → Prop, CtI Γ mX2_hasRange 0 [rf Γ (17 + x3.toNatClampNeg), .int x4, .int x5] τ20 Q24 ∧ ∀ (r25 : Int32) (τ26 : St), Q24 r25 τ26 → (((¬ r25 = 0) → ((¬ x2 < 0 ∧ ¬ x4 < 0 ∧ ¬ x5 < 0 ∧ x2.toNatClampNeg + x5.toNatClampNeg ≤ 60 ∧ x4.toNatClampNeg + x5.toNatClampNeg ≤ 60) ∧ (Q (1 : Int32) (sF τ26 ((17 + x3.toNatClampNeg) + 4) (va_cpy (τ26.1 ((17 + x1.toNatClampNeg) + 4)) (τ26.1 ((17 + x3.toNatClampNeg) + 4)) x2.toNatClampNeg x4.toNatClampNeg x5.toNatClampNeg))))) ∧ ((r25 = 0) → (∃ Q27 : Int32 → St → Prop, CtI Γ mX5_finding 0 [rf Γ 0, .int (2 : Int32)] τ26 Q27 ∧ ∀ (r28 : Int32) (τ29 : St), Q27 r28 τ29 → (Q r28 τ29))))))))) ∧ ((¬ (τ17.1 (17 + x1.toNatClampNeg) 0) = (τ17.1 (17 + x3.toNatClampNeg) 0)) → (∃ Q30 : Int32 → St → Prop, CtI Γ mX5_finding 0 [rf Γ 0, .int (4 : Int32)] τ17 Q30 ∧ ∀ (r31 : Int32) (τ32 : St), Q30 r31 τ32 → (Q r31 τ32))))) ∧ ((¬ r16 = 0) → (∃ Q33 : Int32 → St → Prop, CtI Γ mX5_finding 0 [rf Γ 0, .int (1 : Int32)] τ17 Q33 ∧ ∀ (r34 : Int32) (τ35 : St), Q33 r34 τ35 → (Q r34 τ35))))))))))) ∧ ((r5 = 0) → (Q (-2 : Int32) τ6))))))) :
    CtI Γ mX5_copy 1 [rf Γ 0, .int x1, .int x2, .int x3, .int x4, .int x5] σ Q := by
  refine ct_of (by decide +kernel) (Nat.le_of_ble_eq_true rfl) ?_
  show G Γ mX5_copy (NI Γ 1 Q) 0 [(0, rf Γ 0), (1, .int x1), (2, .int x2), (3, .int x3), (4, .int x4), (5, .int x5)] [] σ
  refine g_iload_n (pc := 0) dX5_copy_0 rfl 1 rfl ?_
  obtain ⟨Q1, hc, h⟩ := h
  refine g_callSI (pc := 1) (M' := mX5_isSheet) (n := 1) (As := [.int x1]) (st := []) dX5_copy_1 ml_X5_184 ok_X5_isSheet rfl (rmOk_M _ _ _) (by decide) (Nat.le_of_ble_eq_true rfl) rfl hc (fun r2 τ3 hq => ?_)
  have h := h r2 τ3 hq
  refine g_if_eq (pc := 4) 14 dX5_copy_4 (by decide) (fun q => ?_) (fun q => ?_)
  · have h := h.1 q
    refine g_bipush (pc := 14) (-2 : Int32) dX5_copy_14 rfl ?_
    exact g_iret (pc := 16) rfl dX5_copy_16 h
  · have h := h.2 q
    refine g_iload_n (pc := 7) dX5_copy_7 rfl 3 rfl ?_
    obtain ⟨Q4, hc, h⟩ := h
    refine g_callSI (pc := 8) (M' := mX5_isSheet) (n := 1) (As := [.int x3]) (st := []) dX5_copy_8 ml_X5_184 ok_X5_isSheet rfl (rmOk_M _ _ _) (by decide) (Nat.le_of_ble_eq_true rfl) rfl hc (fun r5 τ6 hq => ?_)
    have h := h r5 τ6 hq
    refine g_if_ne (pc := 11) 17 dX5_copy_11 (by decide) (fun q => ?_) (fun q => ?_)
    · have h := h.1 q
      refine g_aload_n (pc := 17) dX5_copy_17 rfl 0 rfl ?_
      refine g_getR (pc := 18) 0 5 4 16 fr_0_4 fl_X5_41 dX5_copy_18 ?_
      refine g_iload_n (pc := 21) dX5_copy_21 rfl 1 rfl ?_
      have hs7 := isSh_of h.1
      refine g_aald (pc := 22) h.1 dX5_copy_22 ?_
      have h := h.2
      refine g_astore (pc := 23) [(6, _), (0, _), (1, _), (2, _), (3, _), (4, _), (5, _)] dX5_copy_23 (Nat.le_of_ble_eq_true rfl) rfl ?_
      refine g_aload_n (pc := 25) dX5_copy_25 rfl 1 rfl ?_
      refine g_getR (pc := 26) 0 5 4 16 fr_0_4 fl_X5_41 dX5_copy_26 ?_
      refine g_iload_n (pc := 29) dX5_copy_29 rfl 4 rfl ?_
      have hs8 := isSh_of h.1
      refine g_aald (pc := 30) h.1 dX5_copy_30 ?_
      have h := h.2
      refine g_astore (pc := 31) [(7, _), (6, _), (0, _), (1, _), (2, _), (3, _), (4, _), (5, _)] dX5_copy_31 (Nat.le_of_ble_eq_true rfl) rfl ?_
      refine g_aload (pc := 33) dX5_copy_33 1 rfl ?_
      obtain ⟨Q9, hc, h⟩ := h
      refine g_callVI (pc := 35) (M' := mX2_isLost) (n := 1) (As := []) (st := []) dX5_copy_35 ml_X5_211 ok_X2_isLost rfl (rmOk_M _ _ _) (by decide) (rc_sh hs7) (Nat.le_of_ble_eq_true rfl) rfl hc (fun r10 τ11 hq => ?_)
      have h := h r10 τ11 hq
      refine g_if_ne (pc := 38) 49 dX5_copy_38 (by decide) (fun q => ?_) (fun q => ?_)
      · have h := h.1 q
        refine g_aload_n (pc := 49) dX5_copy_49 rfl 2 rfl ?_
        refine g_iconst (pc := 50) (1 : Int32) dX5_copy_50 rfl ?_
        obtain ⟨Q12, hc, h⟩ := h
        refine g_callVI (pc := 51) (M' := mX5_finding) (n := 1) (As := [.int (1 : Int32)]) (st := []) dX5_copy_51 ml_X5_190 ok_X5_finding rfl (rmOk_M _ _ _) (by decide) rc_0 (Nat.le_of_ble_eq_true rfl) rfl hc (fun r13 τ14 hq => ?_)
        have h := h r13 τ14 hq
        exact g_iret (pc := 54) rfl dX5_copy_54 h
      · have h := h.2 q
        refine g_aload (pc := 41) dX5_copy_41 0 rfl ?_
        obtain ⟨Q15, hc, h⟩ := h
        refine g_callVI (pc := 43) (M' := mX2_isLost) (n := 1) (As := []) (st := []) dX5_copy_43 ml_X5_211 ok_X2_isLost rfl (rmOk_M _ _ _) (by decide) (rc_sh hs8) (Nat.le_of_ble_eq_true rfl) rfl hc (fun r16 τ17 hq => ?_)
        have h := h r16 τ17 hq
        refine g_if_eq (pc := 46) 55 dX5_copy_46 (by decide) (fun q => ?_) (fun q => ?_)
        · have h := h.1 q
          refine g_aload (pc := 55) dX5_copy_55 1 rfl ?_
          refine g_getI (pc := 57) (17 + x1.toNatClampNeg) 2 0 (fi_sh0 hs7) fl_X5_215 dX5_copy_57 ?_
          refine g_aload (pc := 60) dX5_copy_60 0 rfl ?_
          refine g_getI (pc := 62) (17 + x3.toNatClampNeg) 2 0 (fi_sh0 hs8) fl_X5_215 dX5_copy_62 ?_
          refine g_icmp_eq (pc := 65) 74 dX5_copy_65 (by decide) (fun q => ?_) (fun q => ?_)
          · have h := h.1 q
            refine g_aload (pc := 74) dX5_copy_74 1 rfl ?_
            refine g_iload_n (pc := 76) dX5_copy_76 rfl 4 rfl ?_
            refine g_iload (pc := 77) dX5_copy_77 7 rfl ?_
            obtain ⟨Q18, hc, h⟩ := h
            refine g_callVI (pc := 79) (M' := mX2_hasRange) (n := 1) (As := [.int x2, .int x5]) (st := []) dX5_copy_79 ml_X5_218 ok_X2_hasRange rfl (rmOk_M _ _ _) (by decide) (rc_sh hs7) (Nat.le_of_ble_eq_true rfl) rfl hc (fun r19 τ20 hq => ?_)
            have h := h r19 τ20 hq
            refine g_if_eq (pc := 82) 97 dX5_copy_82 (by decide) (fun q => ?_) (fun q => ?_)
            · have h := h.1 q
              refine g_aload_n (pc := 97) dX5_copy_97 rfl 2 rfl ?_
              refine g_iconst (pc := 98) (2 : Int32) dX5_copy_98 rfl ?_
              obtain ⟨Q21, hc, h⟩ := h
              refine g_callVI (pc := 99) (M' := mX5_finding) (n := 1) (As := [.int (2 : Int32)]) (st := []) dX5_copy_99 ml_X5_190 ok_X5_finding rfl (rmOk_M _ _ _) (by decide) rc_0 (Nat.le_of_ble_eq_true rfl) rfl hc (fun r22 τ23 hq => ?_)
              have h := h r22 τ23 hq
              exact g_iret (pc := 102) rfl dX5_copy_102 h
            · have h := h.2 q
              refine g_aload (pc := 85) dX5_copy_85 0 rfl ?_
              refine g_iload (pc := 87) dX5_copy_87 6 rfl ?_
              refine g_iload (pc := 89) dX5_copy_89 7 rfl ?_
              obtain ⟨Q24, hc, h⟩ := h
              refine g_callVI (pc := 91) (M' := mX2_hasRange) (n := 1) (As := [.int x4, .int x5]) (st := []) dX5_copy_91 ml_X5_218 ok_X2_hasRange rfl (rmOk_M _ _ _) (by decide) (rc_sh hs8) (Nat.le_of_ble_eq_true rfl) rfl hc (fun r25 τ26 hq => ?_)
              have h := h r25 τ26 hq
              refine g_if_ne (pc := 94) 103 dX5_copy_94 (by decide) (fun q => ?_) (fun q => ?_)
              · have h := h.1 q
                refine g_aload (pc := 103) dX5_copy_103 1 rfl ?_
                refine g_getR (pc := 105) (17 + x1.toNatClampNeg) 2 2 ((17 + x1.toNatClampNeg) + 4) (fr_sh hs7) fl_X5_208 dX5_copy_105 ?_
                refine g_iload_n (pc := 108) dX5_copy_108 rfl 4 rfl ?_
                refine g_aload (pc := 109) dX5_copy_109 0 rfl ?_
                refine g_getR (pc := 111) (17 + x3.toNatClampNeg) 2 2 ((17 + x3.toNatClampNeg) + 4) (fr_sh hs8) fl_X5_208 dX5_copy_111 ?_
                refine g_iload (pc := 114) dX5_copy_114 6 rfl ?_
                refine g_iload (pc := 116) dX5_copy_116 7 rfl ?_
                refine g_copy (pc := 118) (n := 1) ((17 + x1.toNatClampNeg) + 4) ((17 + x3.toNatClampNeg) + 4) 60 60 (ai_sh hs7) (ai_sh hs8) ml_X5_222 kw_copy (rmOk_M _ _ _) (by decide) (Nat.le_of_ble_eq_true rfl) dX5_copy_118 h.1 ?_
                have h := h.2
                refine g_iconst (pc := 121) (1 : Int32) dX5_copy_121 rfl ?_
                exact g_iret (pc := 122) rfl dX5_copy_122 h
              · have h := h.2 q
                refine g_aload_n (pc := 97) dX5_copy_97 rfl 2 rfl ?_
                refine g_iconst (pc := 98) (2 : Int32) dX5_copy_98 rfl ?_
                obtain ⟨Q27, hc, h⟩ := h
                refine g_callVI (pc := 99) (M' := mX5_finding) (n := 1) (As := [.int (2 : Int32)]) (st := []) dX5_copy_99 ml_X5_190 ok_X5_finding rfl (rmOk_M _ _ _) (by decide) rc_0 (Nat.le_of_ble_eq_true rfl) rfl hc (fun r28 τ29 hq => ?_)
                have h := h r28 τ29 hq
                exact g_iret (pc := 102) rfl dX5_copy_102 h
          · have h := h.2 q
            refine g_aload_n (pc := 68) dX5_copy_68 rfl 2 rfl ?_
            refine g_iconst (pc := 69) (4 : Int32) dX5_copy_69 rfl ?_
            obtain ⟨Q30, hc, h⟩ := h
            refine g_callVI (pc := 70) (M' := mX5_finding) (n := 1) (As := [.int (4 : Int32)]) (st := []) dX5_copy_70 ml_X5_190 ok_X5_finding rfl (rmOk_M _ _ _) (by decide) rc_0 (Nat.le_of_ble_eq_true rfl) rfl hc (fun r31 τ32 hq => ?_)
            have h := h r31 τ32 hq
            exact g_iret (pc := 73) rfl dX5_copy_73 h
        · have h := h.2 q
          refine g_aload_n (pc := 49) dX5_copy_49 rfl 2 rfl ?_
          refine g_iconst (pc := 50) (1 : Int32) dX5_copy_50 rfl ?_
          obtain ⟨Q33, hc, h⟩ := h
          refine g_callVI (pc := 51) (M' := mX5_finding) (n := 1) (As := [.int (1 : Int32)]) (st := []) dX5_copy_51 ml_X5_190 ok_X5_finding rfl (rmOk_M _ _ _) (by decide) rc_0 (Nat.le_of_ble_eq_true rfl) rfl hc (fun r34 τ35 hq => ?_)
          have h := h r34 τ35 hq
          exact g_iret (pc := 54) rfl dX5_copy_54 h
    · have h := h.2 q
      refine g_bipush (pc := 14) (-2 : Int32) dX5_copy_14 rfl ?_
      exact g_iret (pc := 16) rfl dX5_copy_16 h
set_option maxHeartbeats 4000000 in
set_option maxRecDepth 100000 in
theorem ct_X5_write {Γ : GT} {Q : Int32 → St → Prop} (σ : St) (x1 : Int32)
    (h : ∃ Q1 : Int32 → St → Prop, CtI Γ mX5_refusalOfSheet 1 [rf Γ 0, .int x1] σ Q1 ∧ ∀ (r2 : Int32) (τ3 : St), Q1 r2 τ3 → (((r2 = 0) → (∃ Q4 : Int32 → St → Prop, CtI Γ mX4_settle 5 [rf Γ 11] τ3 Q4 ∧ ∀ (r5 : Int32) (τ6 : St), Q4 r5 τ6 → (vp_in x1 4 ∧ (∀ v8 : Int32, v8 = (if (τ6.1 1 0) < (τ6.1 (17 + x1.toNatClampNeg) 1) then (τ6.1 1 0) else (τ6.1 (17 + x1.toNatClampNeg) 1)) → G Γ mX5_write (NI Γ 6 Q) 43 [(0, rf Γ 0), (1, .int x1), (3, .int v8), (4, .int (0 : Int32))] [] τ6)))) ∧ ((¬ r2 = 0) → (Q r2 τ3)))) :
    CtI Γ mX5_write 6 [rf Γ 0, .int x1] σ Q := by
  refine ct_of (by decide +kernel) (Nat.le_of_ble_eq_true rfl) ?_
  show G Γ mX5_write (NI Γ 6 Q) 0 [(0, rf Γ 0), (1, .int x1)] [] σ
  refine g_aload_n (pc := 0) dX5_write_0 rfl 0 rfl ?_
  refine g_iload_n (pc := 1) dX5_write_1 rfl 1 rfl ?_
  obtain ⟨Q1, hc, h⟩ := h
  refine g_callVI (pc := 2) (M' := mX5_refusalOfSheet) (n := 6) (As := [.int x1]) (st := []) dX5_write_2 ml_X5_106 ok_X5_refusalOfSheet rfl (rmOk_M _ _ _) (by decide) rc_0 (Nat.le_of_ble_eq_true rfl) rfl hc (fun r2 τ3 hq => ?_)
  have h := h r2 τ3 hq
  refine g_istore_n (pc := 5) [(2, _), (0, _), (1, _)] dX5_write_5 rfl (Nat.le_of_ble_eq_true rfl) rfl ?_
  refine g_iload_n (pc := 6) dX5_write_6 rfl 0 rfl ?_
  refine g_if_eq (pc := 7) 12 dX5_write_7 (by decide) (fun q => ?_) (fun q => ?_)
  · have h := h.1 q
    refine g_aload_n (pc := 12) dX5_write_12 rfl 1 rfl ?_
    refine g_getR (pc := 13) 0 5 2 11 fr_0_2 fl_X5_28 dX5_write_13 ?_
    obtain ⟨Q4, hc, h⟩ := h
    refine g_callVI (pc := 16) (M' := mX4_settle) (n := 6) (As := []) (st := []) dX5_write_16 ml_X5_175 ok_X4_settle rfl (rmOk_M _ _ _) (by decide) rc_11 (Nat.le_of_ble_eq_true rfl) rfl hc (fun r5 τ6 hq => ?_)
    have h := h r5 τ6 hq
    refine g_pop (pc := 19) dX5_write_19 rfl ?_
    refine g_aload_n (pc := 20) dX5_write_20 rfl 1 rfl ?_
    refine g_getR (pc := 21) 0 5 4 16 fr_0_4 fl_X5_41 dX5_write_21 ?_
    refine g_iload_n (pc := 24) dX5_write_24 rfl 2 rfl ?_
    have hs7 := isSh_of h.1
    refine g_aald (pc := 25) h.1 dX5_write_25 ?_
    have h := h.2
    refine g_getI (pc := 26) (17 + x1.toNatClampNeg) 2 1 (fi_sh1 hs7) fl_X5_197 dX5_write_26 ?_
    refine g_aload_n (pc := 29) dX5_write_29 rfl 1 rfl ?_
    refine g_getR (pc := 30) 0 5 0 1 fr_0_0 fl_X5_10 dX5_write_30 ?_
    refine g_getI (pc := 33) 1 1 0 fi_1_0 fl_X5_50 dX5_write_33 ?_
    refine g_mmin (pc := 36) (n := 6) ml_X5_228 kw_mmin (rmOk_M _ _ _) (by decide) (Nat.le_of_ble_eq_true rfl) dX5_write_36 ?_
    refine g_topI (fun v8 ev8 => ?_)
    refine g_istore_n (pc := 39) [(3, _), (2, _), (0, _), (1, _)] dX5_write_39 rfl (Nat.le_of_ble_eq_true rfl) rfl ?_
    have h := h v8 ev8
    refine g_iconst (pc := 40) (0 : Int32) dX5_write_40 rfl ?_
    refine g_istore (pc := 41) [(4, _), (3, _), (2, _), (0, _), (1, _)] dX5_write_41 (Nat.le_of_ble_eq_true rfl) rfl ?_
    refine g_pm [3, 4, 1, 0] rfl ?_
    exact h
  · have h := h.2 q
    refine g_iload_n (pc := 10) dX5_write_10 rfl 0 rfl ?_
    exact g_iret (pc := 11) rfl dX5_write_11 h
set_option maxHeartbeats 4000000 in
set_option maxRecDepth 100000 in
theorem t_X5_write_43 {Γ : GT} {Q : Int32 → St → Prop} (σ : St) (x1 : Int32) (x3 : Int32) (x4 : Int32)
    (h : ((x3 ≤ x4) → (Q x3 σ)) ∧ ((¬ x3 ≤ x4) → (vp_in x1 4 ∧ (vp_in x4 5 ∧ (∃ Q10 : St → Prop, CtV Γ mX2_store 0 [rf Γ (17 + x1.toNatClampNeg), .int x4, .int (σ.1 12 x4.toNatClampNeg)] σ Q10 ∧ ∀ (τ12 : St), Q10 τ12 → (G Γ mX5_write (NI Γ 6 Q) 43 [(0, rf Γ 0), (1, .int x1), (3, .int x3), (4, .int (x4 + (1 : Int32)))] [] τ12)))))) :
    G Γ mX5_write (NI Γ 6 Q) 43 [(0, rf Γ 0), (1, .int x1), (3, .int x3), (4, .int x4)] [] σ := by
  refine g_iload (pc := 43) dX5_write_43 3 rfl ?_
  refine g_iload_n (pc := 45) dX5_write_45 rfl 2 rfl ?_
  refine g_icmp_ge (pc := 46) 76 dX5_write_46 (by decide) (fun q => ?_) (fun q => ?_)
  · have h := h.1 q
    refine g_iload_n (pc := 76) dX5_write_76 rfl 2 rfl ?_
    exact g_iret (pc := 77) rfl dX5_write_77 h
  · have h := h.2 q
    refine g_aload_n (pc := 49) dX5_write_49 rfl 0 rfl ?_
    refine g_getR (pc := 50) 0 5 4 16 fr_0_4 fl_X5_41 dX5_write_50 ?_
    refine g_iload_n (pc := 53) dX5_write_53 rfl 1 rfl ?_
    have hs9 := isSh_of h.1
    refine g_aald (pc := 54) h.1 dX5_write_54 ?_
    have h := h.2
    refine g_iload (pc := 55) dX5_write_55 3 rfl ?_
    refine g_aload_n (pc := 57) dX5_write_57 rfl 0 rfl ?_
    refine g_getR (pc := 58) 0 5 2 11 fr_0_2 fl_X5_28 dX5_write_58 ?_
    refine g_getR (pc := 61) 11 4 1 12 fr_11_1 fl_X5_178 dX5_write_61 ?_
    refine g_iload (pc := 64) dX5_write_64 3 rfl ?_
    refine g_iald (pc := 66) 12 5 ar_12 h.1 dX5_write_66 ?_
    have h := h.2
    obtain ⟨Q10, hc, h⟩ := h
    refine g_callVV (pc := 67) (M' := mX2_store) (n := 6) (As := [.int x4, .int (σ.1 12 x4.toNatClampNeg)]) (st := []) dX5_write_67 ml_X5_204 ok_X2_store rfl (rmOk_M _ _ _) (by decide) (rc_sh hs9) (Nat.le_of_ble_eq_true rfl) rfl hc (fun τ12 hq => ?_)
    have h := h τ12 hq
    refine g_iinc (pc := 70) (1 : Int32) [(4, _), (0, _), (1, _), (3, _)] dX5_write_70 3 rfl rfl (Nat.le_of_ble_eq_true rfl) rfl ?_
    refine g_goto (pc := 73) 43 dX5_write_73 (by decide) ?_
    refine g_pm [1, 2, 3, 0] rfl ?_
    exact h
set_option maxHeartbeats 4000000 in
set_option maxRecDepth 100000 in
theorem ct_X5_count {Γ : GT} {Q : Int32 → St → Prop} (σ : St) (x1 : Int32)
    (h : (x1 = 0 → (Q (σ.1 1 0) σ)) ∧ (x1 = 1 → (∃ Q1 : Int32 → St → Prop, CtI Γ mX1_onSet 1 [rf Γ 1] σ Q1 ∧ ∀ (r2 : Int32) (τ3 : St), Q1 r2 τ3 → (∃ Q4 : Int32 → St → Prop, CtI Γ mJ6_bitCount_0f7a4 0 [.int r2] τ3 Q4 ∧ ∀ (r5 : Int32) (τ6 : St), Q4 r5 τ6 → (Q r5 τ6)))) ∧ (x1 = 2 → (∃ Q7 : Int32 → St → Prop, CtI Γ mX1_contentSet 2 [rf Γ 1] σ Q7 ∧ ∀ (r8 : Int32) (τ9 : St), Q7 r8 τ9 → (∃ Q10 : Int32 → St → Prop, CtI Γ mJ6_bitCount_0f7a4 0 [.int r8] τ9 Q10 ∧ ∀ (r11 : Int32) (τ12 : St), Q10 r11 τ12 → (Q r11 τ12)))) ∧ (x1 = 3 → (∃ Q13 : Int32 → St → Prop, CtI Γ mX1_sumOfPowers 1 [rf Γ 1] σ Q13 ∧ ∀ (r14 : Int32) (τ15 : St), Q13 r14 τ15 → (Q r14 τ15))) ∧ (x1 = 4 → (∃ Q16 : Int32 → St → Prop, CtI Γ mX5_out 4 [rf Γ 0] σ Q16 ∧ ∀ (r17 : Int32) (τ18 : St), Q16 r17 τ18 → (∃ Q19 : Int32 → St → Prop, CtI Γ mJ6_bitCount_0f7a4 0 [.int r17] τ18 Q19 ∧ ∀ (r20 : Int32) (τ21 : St), Q19 r20 τ21 → (Q r20 τ21)))) ∧ (x1 = 5 → (∃ Q22 : Int32 → St → Prop, CtI Γ mX5_admitted 4 [rf Γ 0] σ Q22 ∧ ∀ (r23 : Int32) (τ24 : St), Q22 r23 τ24 → (∃ Q25 : Int32 → St → Prop, CtI Γ mJ6_bitCount_0f7a4 0 [.int r23] τ24 Q25 ∧ ∀ (r26 : Int32) (τ27 : St), Q25 r26 τ27 → (Q r26 τ27)))) ∧ (x1 = 6 → (Q (σ.1 14 0) σ)) ∧ (x1 = 7 → (∃ Q28 : Int32 → St → Prop, CtI Γ mX4_settle 5 [rf Γ 11] σ Q28 ∧ ∀ (r29 : Int32) (τ30 : St), Q28 r29 τ30 → (Q r29 τ30))) ∧ (x1 = 8 → (Q (σ.1 0 5) σ)) ∧ (¬ x1 = 0 → ¬ x1 = 1 → ¬ x1 = 2 → ¬ x1 = 3 → ¬ x1 = 4 → ¬ x1 = 5 → ¬ x1 = 6 → ¬ x1 = 7 → ¬ x1 = 8 → (Q (-2 : Int32) σ))) :
    CtI Γ mX5_count 6 [rf Γ 0, .int x1] σ Q := by
  refine ct_of (by decide +kernel) (Nat.le_of_ble_eq_true rfl) ?_
  show G Γ mX5_count (NI Γ 6 Q) 0 [(0, rf Γ 0), (1, .int x1)] [] σ
  refine g_iload_n (pc := 0) dX5_count_0 rfl 1 rfl ?_
  by_cases q0 : x1 = 0
  · have h := h.1 q0
    refine g_tswK (pc := 1) 0 52 dX5_count_1 q0 (by decide) (by decide) rfl (by decide) ?_
    refine g_aload_n (pc := 52) dX5_count_52 rfl 0 rfl ?_
    refine g_getR (pc := 53) 0 5 0 1 fr_0_0 fl_X5_10 dX5_count_53 ?_
    refine g_getI (pc := 56) 1 1 0 fi_1_0 fl_X5_50 dX5_count_56 ?_
    exact g_iret (pc := 59) rfl dX5_count_59 h
  by_cases q1 : x1 = 1
  · have h := h.2.1 q1
    refine g_tswK (pc := 1) 1 60 dX5_count_1 q1 (by decide) (by decide) rfl (by decide) ?_
    refine g_aload_n (pc := 60) dX5_count_60 rfl 0 rfl ?_
    refine g_getR (pc := 61) 0 5 0 1 fr_0_0 fl_X5_10 dX5_count_61 ?_
    obtain ⟨Q1, hc, h⟩ := h
    refine g_callVI (pc := 64) (M' := mX1_onSet) (n := 6) (As := []) (st := []) dX5_count_64 ml_X5_86 ok_X1_onSet rfl (rmOk_M _ _ _) (by decide) rc_1 (Nat.le_of_ble_eq_true rfl) rfl hc (fun r2 τ3 hq => ?_)
    have h := h r2 τ3 hq
    obtain ⟨Q4, hc, h⟩ := h
    refine g_callSI (pc := 67) (M' := mJ6_bitCount_0f7a4) (n := 6) (As := [.int r2]) (st := []) dX5_count_67 ml_X5_233 ok_J6_bitCount_0f7a4 rfl (rmOk_M _ _ _) (by decide) (Nat.le_of_ble_eq_true rfl) rfl hc (fun r5 τ6 hq => ?_)
    have h := h r5 τ6 hq
    exact g_iret (pc := 70) rfl dX5_count_70 h
  by_cases q2 : x1 = 2
  · have h := h.2.2.1 q2
    refine g_tswK (pc := 1) 2 71 dX5_count_1 q2 (by decide) (by decide) rfl (by decide) ?_
    refine g_aload_n (pc := 71) dX5_count_71 rfl 0 rfl ?_
    refine g_getR (pc := 72) 0 5 0 1 fr_0_0 fl_X5_10 dX5_count_72 ?_
    obtain ⟨Q7, hc, h⟩ := h
    refine g_callVI (pc := 75) (M' := mX1_contentSet) (n := 6) (As := []) (st := []) dX5_count_75 ml_X5_181 ok_X1_contentSet rfl (rmOk_M _ _ _) (by decide) rc_1 (Nat.le_of_ble_eq_true rfl) rfl hc (fun r8 τ9 hq => ?_)
    have h := h r8 τ9 hq
    obtain ⟨Q10, hc, h⟩ := h
    refine g_callSI (pc := 78) (M' := mJ6_bitCount_0f7a4) (n := 6) (As := [.int r8]) (st := []) dX5_count_78 ml_X5_233 ok_J6_bitCount_0f7a4 rfl (rmOk_M _ _ _) (by decide) (Nat.le_of_ble_eq_true rfl) rfl hc (fun r11 τ12 hq => ?_)
    have h := h r11 τ12 hq
    exact g_iret (pc := 81) rfl dX5_count_81 h
  by_cases q3 : x1 = 3
  · have h := h.2.2.2.1 q3
    refine g_tswK (pc := 1) 3 82 dX5_count_1 q3 (by decide) (by decide) rfl (by decide) ?_
    refine g_aload_n (pc := 82) dX5_count_82 rfl 0 rfl ?_
    refine g_getR (pc := 83) 0 5 0 1 fr_0_0 fl_X5_10 dX5_count_83 ?_
    obtain ⟨Q13, hc, h⟩ := h
    refine g_callVI (pc := 86) (M' := mX1_sumOfPowers) (n := 6) (As := []) (st := []) dX5_count_86 ml_X5_238 ok_X1_sumOfPowers rfl (rmOk_M _ _ _) (by decide) rc_1 (Nat.le_of_ble_eq_true rfl) rfl hc (fun r14 τ15 hq => ?_)
    have h := h r14 τ15 hq
    exact g_iret (pc := 89) rfl dX5_count_89 h
  by_cases q4 : x1 = 4
  · have h := h.2.2.2.2.1 q4
    refine g_tswK (pc := 1) 4 90 dX5_count_1 q4 (by decide) (by decide) rfl (by decide) ?_
    refine g_aload_n (pc := 90) dX5_count_90 rfl 0 rfl ?_
    obtain ⟨Q16, hc, h⟩ := h
    refine g_callVI (pc := 91) (M' := mX5_out) (n := 6) (As := []) (st := []) dX5_count_91 ml_X5_241 ok_X5_out rfl (rmOk_M _ _ _) (by decide) rc_0 (Nat.le_of_ble_eq_true rfl) rfl hc (fun r17 τ18 hq => ?_)
    have h := h r17 τ18 hq
    obtain ⟨Q19, hc, h⟩ := h
    refine g_callSI (pc := 94) (M' := mJ6_bitCount_0f7a4) (n := 6) (As := [.int r17]) (st := []) dX5_count_94 ml_X5_233 ok_J6_bitCount_0f7a4 rfl (rmOk_M _ _ _) (by decide) (Nat.le_of_ble_eq_true rfl) rfl hc (fun r20 τ21 hq => ?_)
    have h := h r20 τ21 hq
    exact g_iret (pc := 97) rfl dX5_count_97 h
  by_cases q5 : x1 = 5
  · have h := h.2.2.2.2.2.1 q5
    refine g_tswK (pc := 1) 5 98 dX5_count_1 q5 (by decide) (by decide) rfl (by decide) ?_
    refine g_aload_n (pc := 98) dX5_count_98 rfl 0 rfl ?_
    obtain ⟨Q22, hc, h⟩ := h
    refine g_callVI (pc := 99) (M' := mX5_admitted) (n := 6) (As := []) (st := []) dX5_count_99 ml_X5_244 ok_X5_admitted rfl (rmOk_M _ _ _) (by decide) rc_0 (Nat.le_of_ble_eq_true rfl) rfl hc (fun r23 τ24 hq => ?_)
    have h := h r23 τ24 hq
    obtain ⟨Q25, hc, h⟩ := h
    refine g_callSI (pc := 102) (M' := mJ6_bitCount_0f7a4) (n := 6) (As := [.int r23]) (st := []) dX5_count_102 ml_X5_233 ok_J6_bitCount_0f7a4 rfl (rmOk_M _ _ _) (by decide) (Nat.le_of_ble_eq_true rfl) rfl hc (fun r26 τ27 hq => ?_)
    have h := h r26 τ27 hq
    exact g_iret (pc := 105) rfl dX5_count_105 h
  by_cases q6 : x1 = 6
  · have h := h.2.2.2.2.2.2.1 q6
    refine g_tswK (pc := 1) 6 106 dX5_count_1 q6 (by decide) (by decide) rfl (by decide) ?_
    refine g_aload_n (pc := 106) dX5_count_106 rfl 0 rfl ?_
    refine g_getR (pc := 107) 0 5 3 14 fr_0_3 fl_X5_35 dX5_count_107 ?_
    refine g_getI (pc := 110) 14 3 0 fi_14_0 fl_X5_99 dX5_count_110 ?_
    exact g_iret (pc := 113) rfl dX5_count_113 h
  by_cases q7 : x1 = 7
  · have h := h.2.2.2.2.2.2.2.1 q7
    refine g_tswK (pc := 1) 7 114 dX5_count_1 q7 (by decide) (by decide) rfl (by decide) ?_
    refine g_aload_n (pc := 114) dX5_count_114 rfl 0 rfl ?_
    refine g_getR (pc := 115) 0 5 2 11 fr_0_2 fl_X5_28 dX5_count_115 ?_
    obtain ⟨Q28, hc, h⟩ := h
    refine g_callVI (pc := 118) (M' := mX4_settle) (n := 6) (As := []) (st := []) dX5_count_118 ml_X5_175 ok_X4_settle rfl (rmOk_M _ _ _) (by decide) rc_11 (Nat.le_of_ble_eq_true rfl) rfl hc (fun r29 τ30 hq => ?_)
    have h := h r29 τ30 hq
    exact g_iret (pc := 121) rfl dX5_count_121 h
  by_cases q8 : x1 = 8
  · have h := h.2.2.2.2.2.2.2.2.1 q8
    refine g_tswK (pc := 1) 8 122 dX5_count_1 q8 (by decide) (by decide) rfl (by decide) ?_
    refine g_aload_n (pc := 122) dX5_count_122 rfl 0 rfl ?_
    refine g_getI (pc := 123) 0 5 5 fi_0_5 fl_X5_46 dX5_count_123 ?_
    exact g_iret (pc := 126) rfl dX5_count_126 h
  have h := h.2.2.2.2.2.2.2.2.2 q0 q1 q2 q3 q4 q5 q6 q7 q8
  refine g_tswD (pc := 1) 127 dX5_count_1 (sw_out 8 (fun k hk => by rcases (show k = 0 ∨ k = 1 ∨ k = 2 ∨ k = 3 ∨ k = 4 ∨ k = 5 ∨ k = 6 ∨ k = 7 ∨ k = 8 by omega) with rfl | rfl | rfl | rfl | rfl | rfl | rfl | rfl | rfl <;> assumption)) (by decide) ?_
  refine g_bipush (pc := 127) (-2 : Int32) dX5_count_127 rfl ?_
  exact g_iret (pc := 129) rfl dX5_count_129 h
set_option maxHeartbeats 4000000 in
set_option maxRecDepth 100000 in
theorem ct_X5_digest {Γ : GT} {Q : Int64 → St → Prop} (σ : St) 
    (h : G Γ mX5_digest (NJ Γ 7 Q) 6 [(0, rf Γ 0), (1, .long (17 : Int64)), (3, .int (0 : Int32))] [] σ) :
    CtJ Γ mX5_digest 7 [rf Γ 0] σ Q := by
  refine ct_of (by decide +kernel) (Nat.le_of_ble_eq_true rfl) ?_
  show G Γ mX5_digest (NJ Γ 7 Q) 0 [(0, rf Γ 0)] [] σ
  refine g_ldc2 (pc := 0) (17 : Int64) kl_X5_247 dX5_digest_0 ?_
  refine g_lstore_n (pc := 3) [(1, _), (0, _)] dX5_digest_3 rfl (Nat.le_of_ble_eq_true rfl) rfl ?_
  refine g_iconst (pc := 4) (0 : Int32) dX5_digest_4 rfl ?_
  refine g_istore_n (pc := 5) [(3, _), (1, _), (0, _)] dX5_digest_5 rfl (Nat.le_of_ble_eq_true rfl) rfl ?_
  refine g_pm [2, 1, 0] rfl ?_
  exact h
set_option maxHeartbeats 4000000 in
set_option maxRecDepth 100000 in
theorem t_X5_digest_6 {Γ : GT} {Q : Int64 → St → Prop} (σ : St) (x1 : Int64) (x3 : Int32)
    (h : (((6 : Int32) < x3) → (∃ Q1 : Int32 → St → Prop, CtI Γ mX4_settle 5 [rf Γ 11] σ Q1 ∧ ∀ (r2 : Int32) (τ3 : St), Q1 r2 τ3 → (∃ Q4 : Int32 → St → Prop, CtI Γ mX5_fault 1 [rf Γ 0] τ3 Q4 ∧ ∀ (r5 : Int32) (τ6 : St), Q4 r5 τ6 → (∃ Q7 : Int32 → St → Prop, CtI Γ mX5_feasible 3 [rf Γ 0] τ6 Q7 ∧ ∀ (r8 : Int32) (τ9 : St), Q7 r8 τ9 → (∀ v10 : Int64, v10 = (((31 : Int64) * (((31 : Int64) * (((31 : Int64) * x1) + r2.toInt64)) + r5.toInt64)) + r8.toInt64) → ∃ Q11 : Int32 → St → Prop, CtI Γ mX5_witness 4 [rf Γ 0] τ9 Q11 ∧ ∀ (r12 : Int32) (τ13 : St), Q11 r12 τ13 → (∃ Q14 : Int32 → St → Prop, CtI Γ mX5_out 4 [rf Γ 0] τ13 Q14 ∧ ∀ (r15 : Int32) (τ16 : St), Q14 r15 τ16 → (∃ Q17 : Int32 → St → Prop, CtI Γ mX5_admitted 4 [rf Γ 0] τ16 Q17 ∧ ∀ (r18 : Int32) (τ19 : St), Q17 r18 τ19 → (∀ v20 : Int64, v20 = (((31 : Int64) * (((31 : Int64) * (((31 : Int64) * v10) + r12.toInt64)) + r15.toInt64)) + r18.toInt64) → ∃ Q21 : Int32 → St → Prop, CtI Γ mX5_softer 4 [rf Γ 0] τ19 Q21 ∧ ∀ (r22 : Int32) (τ23 : St), Q21 r22 τ23 → (∃ Q24 : Int32 → St → Prop, CtI Γ mX5_margin 4 [rf Γ 0] τ23 Q24 ∧ ∀ (r25 : Int32) (τ26 : St), Q24 r25 τ26 → (∃ Q27 : Int32 → St → Prop, CtI Γ mX5_met 3 [rf Γ 0] τ26 Q27 ∧ ∀ (r28 : Int32) (τ29 : St), Q27 r28 τ29 → (∀ v30 : Int64, v30 = (((31 : Int64) * (((31 : Int64) * (((31 : Int64) * v20) + r22.toInt64)) + r25.toInt64)) + r28.toInt64) → G Γ mX5_digest (NJ Γ 7 Q) 144 [(0, rf Γ 0), (1, .long v30), (3, .int (0 : Int32))] [] τ29))))))))))) ∧ ((¬ (6 : Int32) < x3) → (∃ Q31 : Int32 → St → Prop, CtI Γ mX5_count 6 [rf Γ 0, .int x3] σ Q31 ∧ ∀ (r32 : Int32) (τ33 : St), Q31 r32 τ33 → (G Γ mX5_digest (NJ Γ 7 Q) 6 [(0, rf Γ 0), (1, .long (((31 : Int64) * x1) + r32.toInt64)), (3, .int (x3 + (1 : Int32)))] [] τ33)))) :
    G Γ mX5_digest (NJ Γ 7 Q) 6 [(0, rf Γ 0), (1, .long x1), (3, .int x3)] [] σ := by
  refine g_iload_n (pc := 6) dX5_digest_6 rfl 2 rfl ?_
  refine g_bipush (pc := 7) (6 : Int32) dX5_digest_7 rfl ?_
  refine g_icmp_gt (pc := 9) 31 dX5_digest_9 (by decide) (fun q => ?_) (fun q => ?_)
  · have h := h.1 q
    refine g_ldc2 (pc := 31) (31 : Int64) kl_X5_249 dX5_digest_31 ?_
    refine g_lload_n (pc := 34) dX5_digest_34 rfl 1 rfl ?_
    refine g_lmul (pc := 35) dX5_digest_35 ?_
    refine g_aload_n (pc := 36) dX5_digest_36 rfl 0 rfl ?_
    refine g_getR (pc := 37) 0 5 2 11 fr_0_2 fl_X5_28 dX5_digest_37 ?_
    obtain ⟨Q1, hc, h⟩ := h
    refine g_callVI (pc := 40) (M' := mX4_settle) (n := 7) (As := []) (st := [.long ((31 : Int64) * x1)]) dX5_digest_40 ml_X5_175 ok_X4_settle rfl (rmOk_M _ _ _) (by decide) rc_11 (Nat.le_of_ble_eq_true rfl) rfl hc (fun r2 τ3 hq => ?_)
    have h := h r2 τ3 hq
    refine g_i2l (pc := 43) dX5_digest_43 ?_
    refine g_ladd (pc := 44) dX5_digest_44 ?_
    refine g_lstore_n (pc := 45) [(1, _), (0, _), (3, _)] dX5_digest_45 rfl (Nat.le_of_ble_eq_true rfl) rfl ?_
    refine g_ldc2 (pc := 46) (31 : Int64) kl_X5_249 dX5_digest_46 ?_
    refine g_lload_n (pc := 49) dX5_digest_49 rfl 0 rfl ?_
    refine g_lmul (pc := 50) dX5_digest_50 ?_
    refine g_aload_n (pc := 51) dX5_digest_51 rfl 1 rfl ?_
    obtain ⟨Q4, hc, h⟩ := h
    refine g_callVI (pc := 52) (M' := mX5_fault) (n := 7) (As := []) (st := [.long ((31 : Int64) * (((31 : Int64) * x1) + r2.toInt64))]) dX5_digest_52 ml_X5_254 ok_X5_fault rfl (rmOk_M _ _ _) (by decide) rc_0 (Nat.le_of_ble_eq_true rfl) rfl hc (fun r5 τ6 hq => ?_)
    have h := h r5 τ6 hq
    refine g_i2l (pc := 55) dX5_digest_55 ?_
    refine g_ladd (pc := 56) dX5_digest_56 ?_
    refine g_lstore_n (pc := 57) [(1, _), (0, _), (3, _)] dX5_digest_57 rfl (Nat.le_of_ble_eq_true rfl) rfl ?_
    refine g_ldc2 (pc := 58) (31 : Int64) kl_X5_249 dX5_digest_58 ?_
    refine g_lload_n (pc := 61) dX5_digest_61 rfl 0 rfl ?_
    refine g_lmul (pc := 62) dX5_digest_62 ?_
    refine g_aload_n (pc := 63) dX5_digest_63 rfl 1 rfl ?_
    obtain ⟨Q7, hc, h⟩ := h
    refine g_callVI (pc := 64) (M' := mX5_feasible) (n := 7) (As := []) (st := [.long ((31 : Int64) * (((31 : Int64) * (((31 : Int64) * x1) + r2.toInt64)) + r5.toInt64))]) dX5_digest_64 ml_X5_257 ok_X5_feasible rfl (rmOk_M _ _ _) (by decide) rc_0 (Nat.le_of_ble_eq_true rfl) rfl hc (fun r8 τ9 hq => ?_)
    have h := h r8 τ9 hq
    refine g_i2l (pc := 67) dX5_digest_67 ?_
    refine g_ladd (pc := 68) dX5_digest_68 ?_
    refine g_topJ (fun v10 ev10 => ?_)
    refine g_lstore_n (pc := 69) [(1, _), (0, _), (3, _)] dX5_digest_69 rfl (Nat.le_of_ble_eq_true rfl) rfl ?_
    have h := h v10 ev10
    refine g_ldc2 (pc := 70) (31 : Int64) kl_X5_249 dX5_digest_70 ?_
    refine g_lload_n (pc := 73) dX5_digest_73 rfl 0 rfl ?_
    refine g_lmul (pc := 74) dX5_digest_74 ?_
    refine g_aload_n (pc := 75) dX5_digest_75 rfl 1 rfl ?_
    obtain ⟨Q11, hc, h⟩ := h
    refine g_callVI (pc := 76) (M' := mX5_witness) (n := 7) (As := []) (st := [.long ((31 : Int64) * v10)]) dX5_digest_76 ml_X5_260 ok_X5_witness rfl (rmOk_M _ _ _) (by decide) rc_0 (Nat.le_of_ble_eq_true rfl) rfl hc (fun r12 τ13 hq => ?_)
    have h := h r12 τ13 hq
    refine g_i2l (pc := 79) dX5_digest_79 ?_
    refine g_ladd (pc := 80) dX5_digest_80 ?_
    refine g_lstore_n (pc := 81) [(1, _), (0, _), (3, _)] dX5_digest_81 rfl (Nat.le_of_ble_eq_true rfl) rfl ?_
    refine g_ldc2 (pc := 82) (31 : Int64) kl_X5_249 dX5_digest_82 ?_
    refine g_lload_n (pc := 85) dX5_digest_85 rfl 0 rfl ?_
    refine g_lmul (pc := 86) dX5_digest_86 ?_
    refine g_aload_n (pc := 87) dX5_digest_87 rfl 1 rfl ?_
    obtain ⟨Q14, hc, h⟩ := h
    refine g_callVI (pc := 88) (M' := mX5_out) (n := 7) (As := []) (st := [.long ((31 : Int64) * (((31 : Int64) * v10) + r12.toInt64))]) dX5_digest_88 ml_X5_241 ok_X5_out rfl (rmOk_M _ _ _) (by decide) rc_0 (Nat.le_of_ble_eq_true rfl) rfl hc (fun r15 τ16 hq => ?_)
    have h := h r15 τ16 hq
    refine g_i2l (pc := 91) dX5_digest_91 ?_
    refine g_ladd (pc := 92) dX5_digest_92 ?_
    refine g_lstore_n (pc := 93) [(1, _), (0, _), (3, _)] dX5_digest_93 rfl (Nat.le_of_ble_eq_true rfl) rfl ?_
    refine g_ldc2 (pc := 94) (31 : Int64) kl_X5_249 dX5_digest_94 ?_
    refine g_lload_n (pc := 97) dX5_digest_97 rfl 0 rfl ?_
    refine g_lmul (pc := 98) dX5_digest_98 ?_
    refine g_aload_n (pc := 99) dX5_digest_99 rfl 1 rfl ?_
    obtain ⟨Q17, hc, h⟩ := h
    refine g_callVI (pc := 100) (M' := mX5_admitted) (n := 7) (As := []) (st := [.long ((31 : Int64) * (((31 : Int64) * (((31 : Int64) * v10) + r12.toInt64)) + r15.toInt64))]) dX5_digest_100 ml_X5_244 ok_X5_admitted rfl (rmOk_M _ _ _) (by decide) rc_0 (Nat.le_of_ble_eq_true rfl) rfl hc (fun r18 τ19 hq => ?_)
    have h := h r18 τ19 hq
    refine g_i2l (pc := 103) dX5_digest_103 ?_
    refine g_ladd (pc := 104) dX5_digest_104 ?_
    refine g_topJ (fun v20 ev20 => ?_)
    refine g_lstore_n (pc := 105) [(1, _), (0, _), (3, _)] dX5_digest_105 rfl (Nat.le_of_ble_eq_true rfl) rfl ?_
    have h := h v20 ev20
    refine g_ldc2 (pc := 106) (31 : Int64) kl_X5_249 dX5_digest_106 ?_
    refine g_lload_n (pc := 109) dX5_digest_109 rfl 0 rfl ?_
    refine g_lmul (pc := 110) dX5_digest_110 ?_
    refine g_aload_n (pc := 111) dX5_digest_111 rfl 1 rfl ?_
    obtain ⟨Q21, hc, h⟩ := h
    refine g_callVI (pc := 112) (M' := mX5_softer) (n := 7) (As := []) (st := [.long ((31 : Int64) * v20)]) dX5_digest_112 ml_X5_263 ok_X5_softer rfl (rmOk_M _ _ _) (by decide) rc_0 (Nat.le_of_ble_eq_true rfl) rfl hc (fun r22 τ23 hq => ?_)
    have h := h r22 τ23 hq
    refine g_i2l (pc := 115) dX5_digest_115 ?_
    refine g_ladd (pc := 116) dX5_digest_116 ?_
    refine g_lstore_n (pc := 117) [(1, _), (0, _), (3, _)] dX5_digest_117 rfl (Nat.le_of_ble_eq_true rfl) rfl ?_
    refine g_ldc2 (pc := 118) (31 : Int64) kl_X5_249 dX5_digest_118 ?_
    refine g_lload_n (pc := 121) dX5_digest_121 rfl 0 rfl ?_
    refine g_lmul (pc := 122) dX5_digest_122 ?_
    refine g_aload_n (pc := 123) dX5_digest_123 rfl 1 rfl ?_
    obtain ⟨Q24, hc, h⟩ := h
    refine g_callVI (pc := 124) (M' := mX5_margin) (n := 7) (As := []) (st := [.long ((31 : Int64) * (((31 : Int64) * v20) + r22.toInt64))]) dX5_digest_124 ml_X5_266 ok_X5_margin rfl (rmOk_M _ _ _) (by decide) rc_0 (Nat.le_of_ble_eq_true rfl) rfl hc (fun r25 τ26 hq => ?_)
    have h := h r25 τ26 hq
    refine g_i2l (pc := 127) dX5_digest_127 ?_
    refine g_ladd (pc := 128) dX5_digest_128 ?_
    refine g_lstore_n (pc := 129) [(1, _), (0, _), (3, _)] dX5_digest_129 rfl (Nat.le_of_ble_eq_true rfl) rfl ?_
    refine g_ldc2 (pc := 130) (31 : Int64) kl_X5_249 dX5_digest_130 ?_
    refine g_lload_n (pc := 133) dX5_digest_133 rfl 0 rfl ?_
    refine g_lmul (pc := 134) dX5_digest_134 ?_
    refine g_aload_n (pc := 135) dX5_digest_135 rfl 1 rfl ?_
    obtain ⟨Q27, hc, h⟩ := h
    refine g_callVI (pc := 136) (M' := mX5_met) (n := 7) (As := []) (st := [.long ((31 : Int64) * (((31 : Int64) * (((31 : Int64) * v20) + r22.toInt64)) + r25.toInt64))]) dX5_digest_136 ml_X5_269 ok_X5_met rfl (rmOk_M _ _ _) (by decide) rc_0 (Nat.le_of_ble_eq_true rfl) rfl hc (fun r28 τ29 hq => ?_)
    have h := h r28 τ29 hq
    refine g_i2l (pc := 139) dX5_digest_139 ?_
    refine g_ladd (pc := 140) dX5_digest_140 ?_
    refine g_topJ (fun v30 ev30 => ?_)
    refine g_lstore_n (pc := 141) [(1, _), (0, _), (3, _)] dX5_digest_141 rfl (Nat.le_of_ble_eq_true rfl) rfl ?_
    have h := h v30 ev30
    refine g_iconst (pc := 142) (0 : Int32) dX5_digest_142 rfl ?_
    refine g_istore_n (pc := 143) [(3, _), (1, _), (0, _)] dX5_digest_143 rfl (Nat.le_of_ble_eq_true rfl) rfl ?_
    refine g_pm [2, 1, 0] rfl ?_
    exact h
  · have h := h.2 q
    refine g_ldc2 (pc := 12) (31 : Int64) kl_X5_249 dX5_digest_12 ?_
    refine g_lload_n (pc := 15) dX5_digest_15 rfl 1 rfl ?_
    refine g_lmul (pc := 16) dX5_digest_16 ?_
    refine g_aload_n (pc := 17) dX5_digest_17 rfl 0 rfl ?_
    refine g_iload_n (pc := 18) dX5_digest_18 rfl 2 rfl ?_
    obtain ⟨Q31, hc, h⟩ := h
    refine g_callVI (pc := 19) (M' := mX5_count) (n := 7) (As := [.int x3]) (st := [.long ((31 : Int64) * x1)]) dX5_digest_19 ml_X5_251 ok_X5_count rfl (rmOk_M _ _ _) (by decide) rc_0 (Nat.le_of_ble_eq_true rfl) rfl hc (fun r32 τ33 hq => ?_)
    have h := h r32 τ33 hq
    refine g_i2l (pc := 22) dX5_digest_22 ?_
    refine g_ladd (pc := 23) dX5_digest_23 ?_
    refine g_lstore_n (pc := 24) [(1, _), (0, _), (3, _)] dX5_digest_24 rfl (Nat.le_of_ble_eq_true rfl) rfl ?_
    refine g_iinc (pc := 25) (1 : Int32) [(3, _), (1, _), (0, _)] dX5_digest_25 2 rfl rfl (Nat.le_of_ble_eq_true rfl) rfl ?_
    refine g_goto (pc := 28) 6 dX5_digest_28 (by decide) ?_
    refine g_pm [2, 1, 0] rfl ?_
    exact h
set_option maxHeartbeats 4000000 in
set_option maxRecDepth 100000 in
theorem t_X5_digest_144 {Γ : GT} {Q : Int64 → St → Prop} (σ : St) (x1 : Int64) (x3 : Int32)
    (h : (((σ.1 1 0) ≤ x3) → (G Γ mX5_digest (NJ Γ 7 Q) 170 [(0, rf Γ 0), (1, .long x1), (3, .int (0 : Int32))] [] σ)) ∧ ((¬ (σ.1 1 0) ≤ x3) → (∃ Q34 : Int64 → St → Prop, CtJ Γ mX5_digestSender 4 [rf Γ 0, .long x1, .int x3] σ Q34 ∧ ∀ (r35 : Int64) (τ36 : St), Q34 r35 τ36 → (G Γ mX5_digest (NJ Γ 7 Q) 144 [(0, rf Γ 0), (1, .long r35), (3, .int (x3 + (1 : Int32)))] [] τ36)))) :
    G Γ mX5_digest (NJ Γ 7 Q) 144 [(0, rf Γ 0), (1, .long x1), (3, .int x3)] [] σ := by
  refine g_iload_n (pc := 144) dX5_digest_144 rfl 2 rfl ?_
  refine g_aload_n (pc := 145) dX5_digest_145 rfl 0 rfl ?_
  refine g_getR (pc := 146) 0 5 0 1 fr_0_0 fl_X5_10 dX5_digest_146 ?_
  refine g_getI (pc := 149) 1 1 0 fi_1_0 fl_X5_50 dX5_digest_149 ?_
  refine g_icmp_ge (pc := 152) 168 dX5_digest_152 (by decide) (fun q => ?_) (fun q => ?_)
  · have h := h.1 q
    refine g_iconst (pc := 168) (0 : Int32) dX5_digest_168 rfl ?_
    refine g_istore_n (pc := 169) [(3, _), (0, _), (1, _)] dX5_digest_169 rfl (Nat.le_of_ble_eq_true rfl) rfl ?_
    refine g_pm [1, 2, 0] rfl ?_
    exact h
  · have h := h.2 q
    refine g_aload_n (pc := 155) dX5_digest_155 rfl 0 rfl ?_
    refine g_lload_n (pc := 156) dX5_digest_156 rfl 1 rfl ?_
    refine g_iload_n (pc := 157) dX5_digest_157 rfl 2 rfl ?_
    obtain ⟨Q34, hc, h⟩ := h
    refine g_callVJ (pc := 158) (M' := mX5_digestSender) (n := 7) (As := [.long x1, .int x3]) (st := []) dX5_digest_158 ml_X5_272 ok_X5_digestSender rfl (rmOk_M _ _ _) (by decide) rc_0 (Nat.le_of_ble_eq_true rfl) rfl hc (fun r35 τ36 hq => ?_)
    have h := h r35 τ36 hq
    refine g_lstore_n (pc := 161) [(1, _), (0, _), (3, _)] dX5_digest_161 rfl (Nat.le_of_ble_eq_true rfl) rfl ?_
    refine g_iinc (pc := 162) (1 : Int32) [(3, _), (1, _), (0, _)] dX5_digest_162 2 rfl rfl (Nat.le_of_ble_eq_true rfl) rfl ?_
    refine g_goto (pc := 165) 144 dX5_digest_165 (by decide) ?_
    refine g_pm [2, 1, 0] rfl ?_
    exact h
set_option maxHeartbeats 4000000 in
set_option maxRecDepth 100000 in
theorem t_X5_digest_170 {Γ : GT} {Q : Int64 → St → Prop} (σ : St) (x1 : Int64) (x3 : Int32)
    (h : ∃ Q37 : Int32 → St → Prop, CtI Γ mX1_allBits 0 [rf Γ 1] σ Q37 ∧ ∀ (r38 : Int32) (τ39 : St), Q37 r38 τ39 → (((r38 < x3) → (Q x1 τ39)) ∧ ((¬ r38 < x3) → (∃ Q40 : Int64 → St → Prop, CtJ Γ mX5_minor 3 [rf Γ 0, .int x3] τ39 Q40 ∧ ∀ (r41 : Int64) (τ42 : St), Q40 r41 τ42 → (G Γ mX5_digest (NJ Γ 7 Q) 170 [(0, rf Γ 0), (1, .long (((31 : Int64) * x1) + r41)), (3, .int (x3 + (1 : Int32)))] [] τ42))))) :
    G Γ mX5_digest (NJ Γ 7 Q) 170 [(0, rf Γ 0), (1, .long x1), (3, .int x3)] [] σ := by
  refine g_iload_n (pc := 170) dX5_digest_170 rfl 2 rfl ?_
  refine g_aload_n (pc := 171) dX5_digest_171 rfl 0 rfl ?_
  refine g_getR (pc := 172) 0 5 0 1 fr_0_0 fl_X5_10 dX5_digest_172 ?_
  obtain ⟨Q37, hc, h⟩ := h
  refine g_callVI (pc := 175) (M' := mX1_allBits) (n := 7) (As := []) (st := [.int x3]) dX5_digest_175 ml_X5_123 ok_X1_allBits rfl (rmOk_M _ _ _) (by decide) rc_1 (Nat.le_of_ble_eq_true rfl) rfl hc (fun r38 τ39 hq => ?_)
  have h := h r38 τ39 hq
  refine g_icmp_gt (pc := 178) 199 dX5_digest_178 (by decide) (fun q => ?_) (fun q => ?_)
  · have h := h.1 q
    refine g_lload_n (pc := 199) dX5_digest_199 rfl 1 rfl ?_
    exact g_lret (pc := 200) rfl dX5_digest_200 h
  · have h := h.2 q
    refine g_ldc2 (pc := 181) (31 : Int64) kl_X5_249 dX5_digest_181 ?_
    refine g_lload_n (pc := 184) dX5_digest_184 rfl 1 rfl ?_
    refine g_lmul (pc := 185) dX5_digest_185 ?_
    refine g_aload_n (pc := 186) dX5_digest_186 rfl 0 rfl ?_
    refine g_iload_n (pc := 187) dX5_digest_187 rfl 2 rfl ?_
    obtain ⟨Q40, hc, h⟩ := h
    refine g_callVJ (pc := 188) (M' := mX5_minor) (n := 7) (As := [.int x3]) (st := [.long ((31 : Int64) * x1)]) dX5_digest_188 ml_X5_276 ok_X5_minor rfl (rmOk_M _ _ _) (by decide) rc_0 (Nat.le_of_ble_eq_true rfl) rfl hc (fun r41 τ42 hq => ?_)
    have h := h r41 τ42 hq
    refine g_ladd (pc := 191) dX5_digest_191 ?_
    refine g_lstore_n (pc := 192) [(1, _), (0, _), (3, _)] dX5_digest_192 rfl (Nat.le_of_ble_eq_true rfl) rfl ?_
    refine g_iinc (pc := 193) (1 : Int32) [(3, _), (1, _), (0, _)] dX5_digest_193 2 rfl rfl (Nat.le_of_ble_eq_true rfl) rfl ?_
    refine g_goto (pc := 196) 170 dX5_digest_196 (by decide) ?_
    refine g_pm [2, 1, 0] rfl ?_
    exact h
set_option maxHeartbeats 4000000 in
set_option maxRecDepth 100000 in
theorem ct_X5_digestSender {Γ : GT} {Q : Int64 → St → Prop} (σ : St) (x1 : Int64) (x3 : Int32)
    (h : G Γ mX5_digestSender (NJ Γ 4 Q) 6 [(0, rf Γ 0), (3, .int x3), (4, .long x1), (6, .int (0 : Int32))] [] σ) :
    CtJ Γ mX5_digestSender 4 [rf Γ 0, .long x1, .int x3] σ Q := by
  refine ct_of (by decide +kernel) (Nat.le_of_ble_eq_true rfl) ?_
  show G Γ mX5_digestSender (NJ Γ 4 Q) 0 [(0, rf Γ 0), (1, .long x1), (3, .int x3)] [] σ
  refine g_lload_n (pc := 0) dX5_digestSender_0 rfl 1 rfl ?_
  refine g_lstore (pc := 1) [(4, _), (0, _), (1, _), (3, _)] dX5_digestSender_1 (Nat.le_of_ble_eq_true rfl) rfl ?_
  refine g_iconst (pc := 3) (0 : Int32) dX5_digestSender_3 rfl ?_
  refine g_istore (pc := 4) [(6, _), (4, _), (0, _), (1, _), (3, _)] dX5_digestSender_4 (Nat.le_of_ble_eq_true rfl) rfl ?_
  refine g_pm [2, 4, 1, 0] rfl ?_
  exact h
set_option maxHeartbeats 4000000 in
set_option maxRecDepth 100000 in
theorem t_X5_digestSender_6 {Γ : GT} {Q : Int64 → St → Prop} (σ : St) (x3 : Int32) (x4 : Int64) (x6 : Int32)
    (h : (((7 : Int32) < x6) → (∃ Q1 : Int64 → St → Prop, CtJ Γ mX5_least 3 [rf Γ 0, .int x3, .int (0 : Int32)] σ Q1 ∧ ∀ (r2 : Int64) (τ3 : St), Q1 r2 τ3 → (∃ Q4 : Int64 → St → Prop, CtJ Γ mX5_least 3 [rf Γ 0, .int x3, .int (1 : Int32)] τ3 Q4 ∧ ∀ (r5 : Int64) (τ6 : St), Q4 r5 τ6 → (∃ Q7 : Int64 → St → Prop, CtJ Γ mX5_share 3 [rf Γ 0, .int x3, .int (0 : Int32)] τ6 Q7 ∧ ∀ (r8 : Int64) (τ9 : St), Q7 r8 τ9 → (∀ v10 : Int64, v10 = (((31 : Int64) * (((31 : Int64) * (((31 : Int64) * x4) + r2)) + r5)) + r8) → ∃ Q11 : Int64 → St → Prop, CtJ Γ mX5_share 3 [rf Γ 0, .int x3, .int (1 : Int32)] τ9 Q11 ∧ ∀ (r12 : Int64) (τ13 : St), Q11 r12 τ13 → (vp_in x3 5 ∧ (∀ v14 : Int64, v14 = (((31 : Int64) * (((31 : Int64) * v10) + r12)) + ((τ13.1 12 x3.toNatClampNeg).toInt64)) → G Γ mX5_digestSender (NJ Γ 4 Q) 118 [(0, rf Γ 0), (3, .int x3), (4, .long v14), (6, .int (0 : Int32))] [] τ13))))))) ∧ ((¬ (7 : Int32) < x6) → (∃ Q15 : Int32 → St → Prop, CtI Γ mX5_info 2 [rf Γ 0, .int x3, .int x6] σ Q15 ∧ ∀ (r16 : Int32) (τ17 : St), Q15 r16 τ17 → (G Γ mX5_digestSender (NJ Γ 4 Q) 6 [(0, rf Γ 0), (3, .int x3), (4, .long (((31 : Int64) * x4) + r16.toInt64)), (6, .int (x6 + (1 : Int32)))] [] τ17)))) :
    G Γ mX5_digestSender (NJ Γ 4 Q) 6 [(0, rf Γ 0), (3, .int x3), (4, .long x4), (6, .int x6)] [] σ := by
  refine g_iload (pc := 6) dX5_digestSender_6 3 rfl ?_
  refine g_bipush (pc := 8) (7 : Int32) dX5_digestSender_8 rfl ?_
  refine g_icmp_gt (pc := 10) 36 dX5_digestSender_10 (by decide) (fun q => ?_) (fun q => ?_)
  · have h := h.1 q
    refine g_ldc2 (pc := 36) (31 : Int64) kl_X5_249 dX5_digestSender_36 ?_
    refine g_lload (pc := 39) dX5_digestSender_39 2 rfl ?_
    refine g_lmul (pc := 41) dX5_digestSender_41 ?_
    refine g_aload_n (pc := 42) dX5_digestSender_42 rfl 0 rfl ?_
    refine g_iload_n (pc := 43) dX5_digestSender_43 rfl 1 rfl ?_
    refine g_iconst (pc := 44) (0 : Int32) dX5_digestSender_44 rfl ?_
    obtain ⟨Q1, hc, h⟩ := h
    refine g_callVJ (pc := 45) (M' := mX5_least) (n := 4) (As := [.int x3, .int (0 : Int32)]) (st := [.long ((31 : Int64) * x4)]) dX5_digestSender_45 ml_X5_282 ok_X5_least rfl (rmOk_M _ _ _) (by decide) rc_0 (Nat.le_of_ble_eq_true rfl) rfl hc (fun r2 τ3 hq => ?_)
    have h := h r2 τ3 hq
    refine g_ladd (pc := 48) dX5_digestSender_48 ?_
    refine g_lstore (pc := 49) [(4, _), (0, _), (3, _), (6, _)] dX5_digestSender_49 (Nat.le_of_ble_eq_true rfl) rfl ?_
    refine g_ldc2 (pc := 51) (31 : Int64) kl_X5_249 dX5_digestSender_51 ?_
    refine g_lload (pc := 54) dX5_digestSender_54 0 rfl ?_
    refine g_lmul (pc := 56) dX5_digestSender_56 ?_
    refine g_aload_n (pc := 57) dX5_digestSender_57 rfl 1 rfl ?_
    refine g_iload_n (pc := 58) dX5_digestSender_58 rfl 2 rfl ?_
    refine g_iconst (pc := 59) (1 : Int32) dX5_digestSender_59 rfl ?_
    obtain ⟨Q4, hc, h⟩ := h
    refine g_callVJ (pc := 60) (M' := mX5_least) (n := 4) (As := [.int x3, .int (1 : Int32)]) (st := [.long ((31 : Int64) * (((31 : Int64) * x4) + r2))]) dX5_digestSender_60 ml_X5_282 ok_X5_least rfl (rmOk_M _ _ _) (by decide) rc_0 (Nat.le_of_ble_eq_true rfl) rfl hc (fun r5 τ6 hq => ?_)
    have h := h r5 τ6 hq
    refine g_ladd (pc := 63) dX5_digestSender_63 ?_
    refine g_lstore (pc := 64) [(4, _), (0, _), (3, _), (6, _)] dX5_digestSender_64 (Nat.le_of_ble_eq_true rfl) rfl ?_
    refine g_ldc2 (pc := 66) (31 : Int64) kl_X5_249 dX5_digestSender_66 ?_
    refine g_lload (pc := 69) dX5_digestSender_69 0 rfl ?_
    refine g_lmul (pc := 71) dX5_digestSender_71 ?_
    refine g_aload_n (pc := 72) dX5_digestSender_72 rfl 1 rfl ?_
    refine g_iload_n (pc := 73) dX5_digestSender_73 rfl 2 rfl ?_
    refine g_iconst (pc := 74) (0 : Int32) dX5_digestSender_74 rfl ?_
    obtain ⟨Q7, hc, h⟩ := h
    refine g_callVJ (pc := 75) (M' := mX5_share) (n := 4) (As := [.int x3, .int (0 : Int32)]) (st := [.long ((31 : Int64) * (((31 : Int64) * (((31 : Int64) * x4) + r2)) + r5))]) dX5_digestSender_75 ml_X5_286 ok_X5_share rfl (rmOk_M _ _ _) (by decide) rc_0 (Nat.le_of_ble_eq_true rfl) rfl hc (fun r8 τ9 hq => ?_)
    have h := h r8 τ9 hq
    refine g_ladd (pc := 78) dX5_digestSender_78 ?_
    refine g_topJ (fun v10 ev10 => ?_)
    refine g_lstore (pc := 79) [(4, _), (0, _), (3, _), (6, _)] dX5_digestSender_79 (Nat.le_of_ble_eq_true rfl) rfl ?_
    have h := h v10 ev10
    refine g_ldc2 (pc := 81) (31 : Int64) kl_X5_249 dX5_digestSender_81 ?_
    refine g_lload (pc := 84) dX5_digestSender_84 0 rfl ?_
    refine g_lmul (pc := 86) dX5_digestSender_86 ?_
    refine g_aload_n (pc := 87) dX5_digestSender_87 rfl 1 rfl ?_
    refine g_iload_n (pc := 88) dX5_digestSender_88 rfl 2 rfl ?_
    refine g_iconst (pc := 89) (1 : Int32) dX5_digestSender_89 rfl ?_
    obtain ⟨Q11, hc, h⟩ := h
    refine g_callVJ (pc := 90) (M' := mX5_share) (n := 4) (As := [.int x3, .int (1 : Int32)]) (st := [.long ((31 : Int64) * v10)]) dX5_digestSender_90 ml_X5_286 ok_X5_share rfl (rmOk_M _ _ _) (by decide) rc_0 (Nat.le_of_ble_eq_true rfl) rfl hc (fun r12 τ13 hq => ?_)
    have h := h r12 τ13 hq
    refine g_ladd (pc := 93) dX5_digestSender_93 ?_
    refine g_lstore (pc := 94) [(4, _), (0, _), (3, _), (6, _)] dX5_digestSender_94 (Nat.le_of_ble_eq_true rfl) rfl ?_
    refine g_ldc2 (pc := 96) (31 : Int64) kl_X5_249 dX5_digestSender_96 ?_
    refine g_lload (pc := 99) dX5_digestSender_99 0 rfl ?_
    refine g_lmul (pc := 101) dX5_digestSender_101 ?_
    refine g_aload_n (pc := 102) dX5_digestSender_102 rfl 1 rfl ?_
    refine g_getR (pc := 103) 0 5 2 11 fr_0_2 fl_X5_28 dX5_digestSender_103 ?_
    refine g_getR (pc := 106) 11 4 1 12 fr_11_1 fl_X5_178 dX5_digestSender_106 ?_
    refine g_iload_n (pc := 109) dX5_digestSender_109 rfl 2 rfl ?_
    refine g_iald (pc := 110) 12 5 ar_12 h.1 dX5_digestSender_110 ?_
    have h := h.2
    refine g_i2l (pc := 111) dX5_digestSender_111 ?_
    refine g_ladd (pc := 112) dX5_digestSender_112 ?_
    refine g_topJ (fun v14 ev14 => ?_)
    refine g_lstore (pc := 113) [(4, _), (0, _), (3, _), (6, _)] dX5_digestSender_113 (Nat.le_of_ble_eq_true rfl) rfl ?_
    have h := h v14 ev14
    refine g_iconst (pc := 115) (0 : Int32) dX5_digestSender_115 rfl ?_
    refine g_istore (pc := 116) [(6, _), (4, _), (0, _), (3, _)] dX5_digestSender_116 (Nat.le_of_ble_eq_true rfl) rfl ?_
    refine g_pm [2, 3, 1, 0] rfl ?_
    exact h
  · have h := h.2 q
    refine g_ldc2 (pc := 13) (31 : Int64) kl_X5_249 dX5_digestSender_13 ?_
    refine g_lload (pc := 16) dX5_digestSender_16 2 rfl ?_
    refine g_lmul (pc := 18) dX5_digestSender_18 ?_
    refine g_aload_n (pc := 19) dX5_digestSender_19 rfl 0 rfl ?_
    refine g_iload_n (pc := 20) dX5_digestSender_20 rfl 1 rfl ?_
    refine g_iload (pc := 21) dX5_digestSender_21 3 rfl ?_
    obtain ⟨Q15, hc, h⟩ := h
    refine g_callVI (pc := 23) (M' := mX5_info) (n := 4) (As := [.int x3, .int x6]) (st := [.long ((31 : Int64) * x4)]) dX5_digestSender_23 ml_X5_279 ok_X5_info rfl (rmOk_M _ _ _) (by decide) rc_0 (Nat.le_of_ble_eq_true rfl) rfl hc (fun r16 τ17 hq => ?_)
    have h := h r16 τ17 hq
    refine g_i2l (pc := 26) dX5_digestSender_26 ?_
    refine g_ladd (pc := 27) dX5_digestSender_27 ?_
    refine g_lstore (pc := 28) [(4, _), (0, _), (3, _), (6, _)] dX5_digestSender_28 (Nat.le_of_ble_eq_true rfl) rfl ?_
    refine g_iinc (pc := 30) (1 : Int32) [(6, _), (4, _), (0, _), (3, _)] dX5_digestSender_30 3 rfl rfl (Nat.le_of_ble_eq_true rfl) rfl ?_
    refine g_goto (pc := 33) 6 dX5_digestSender_33 (by decide) ?_
    refine g_pm [2, 3, 1, 0] rfl ?_
    exact h
set_option maxHeartbeats 4000000 in
set_option maxRecDepth 100000 in
theorem t_X5_digestSender_118 {Γ : GT} {Q : Int64 → St → Prop} (σ : St) (x3 : Int32) (x4 : Int64) (x6 : Int32)
    (h : (((σ.1 1 0) ≤ x6) → (Q x4 σ)) ∧ ((¬ (σ.1 1 0) ≤ x6) → (∃ Q18 : Int32 → St → Prop, CtI Γ mX1_gainOf 0 [rf Γ 1, .int x3, .int x6] σ Q18 ∧ ∀ (r19 : Int32) (τ20 : St), Q18 r19 τ20 → (G Γ mX5_digestSender (NJ Γ 4 Q) 118 [(0, rf Γ 0), (3, .int x3), (4, .long (((31 : Int64) * x4) + r19.toInt64)), (6, .int (x6 + (1 : Int32)))] [] τ20)))) :
    G Γ mX5_digestSender (NJ Γ 4 Q) 118 [(0, rf Γ 0), (3, .int x3), (4, .long x4), (6, .int x6)] [] σ := by
  refine g_iload (pc := 118) dX5_digestSender_118 3 rfl ?_
  refine g_aload_n (pc := 120) dX5_digestSender_120 rfl 0 rfl ?_
  refine g_getR (pc := 121) 0 5 0 1 fr_0_0 fl_X5_10 dX5_digestSender_121 ?_
  refine g_getI (pc := 124) 1 1 0 fi_1_0 fl_X5_50 dX5_digestSender_124 ?_
  refine g_icmp_ge (pc := 127) 156 dX5_digestSender_127 (by decide) (fun q => ?_) (fun q => ?_)
  · have h := h.1 q
    refine g_lload (pc := 156) dX5_digestSender_156 2 rfl ?_
    exact g_lret (pc := 158) rfl dX5_digestSender_158 h
  · have h := h.2 q
    refine g_ldc2 (pc := 130) (31 : Int64) kl_X5_249 dX5_digestSender_130 ?_
    refine g_lload (pc := 133) dX5_digestSender_133 2 rfl ?_
    refine g_lmul (pc := 135) dX5_digestSender_135 ?_
    refine g_aload_n (pc := 136) dX5_digestSender_136 rfl 0 rfl ?_
    refine g_getR (pc := 137) 0 5 0 1 fr_0_0 fl_X5_10 dX5_digestSender_137 ?_
    refine g_iload_n (pc := 140) dX5_digestSender_140 rfl 1 rfl ?_
    refine g_iload (pc := 141) dX5_digestSender_141 3 rfl ?_
    obtain ⟨Q18, hc, h⟩ := h
    refine g_callVI (pc := 143) (M' := mX1_gainOf) (n := 4) (As := [.int x3, .int x6]) (st := [.long ((31 : Int64) * x4)]) dX5_digestSender_143 ml_X5_61 ok_X1_gainOf rfl (rmOk_M _ _ _) (by decide) rc_1 (Nat.le_of_ble_eq_true rfl) rfl hc (fun r19 τ20 hq => ?_)
    have h := h r19 τ20 hq
    refine g_i2l (pc := 146) dX5_digestSender_146 ?_
    refine g_ladd (pc := 147) dX5_digestSender_147 ?_
    refine g_lstore (pc := 148) [(4, _), (0, _), (3, _), (6, _)] dX5_digestSender_148 (Nat.le_of_ble_eq_true rfl) rfl ?_
    refine g_iinc (pc := 150) (1 : Int32) [(6, _), (4, _), (0, _), (3, _)] dX5_digestSender_150 3 rfl rfl (Nat.le_of_ble_eq_true rfl) rfl ?_
    refine g_goto (pc := 153) 118 dX5_digestSender_153 (by decide) ?_
    refine g_pm [2, 3, 1, 0] rfl ?_
    exact h
set_option maxHeartbeats 4000000 in
set_option maxRecDepth 100000 in
theorem ct_X5_readGains {Γ : GT} {Q : Int32 → St → Prop} (σ : St) (a1 : Nat) (ha1 : isSh a1)
    (h : G Γ mX5_readGains (NI Γ 1 Q) 4 [(0, rf Γ 0), (1, rf Γ a1), (2, .int (0 : Int32)), (3, .int (0 : Int32))] [] σ) :
    CtI Γ mX5_readGains 1 [rf Γ 0, rf Γ a1] σ Q := by
  refine ct_of (by decide +kernel) (Nat.le_of_ble_eq_true rfl) ?_
  show G Γ mX5_readGains (NI Γ 1 Q) 0 [(0, rf Γ 0), (1, rf Γ a1)] [] σ
  refine g_iconst (pc := 0) (0 : Int32) dX5_readGains_0 rfl ?_
  refine g_istore_n (pc := 1) [(2, _), (0, _), (1, _)] dX5_readGains_1 rfl (Nat.le_of_ble_eq_true rfl) rfl ?_
  refine g_iconst (pc := 2) (0 : Int32) dX5_readGains_2 rfl ?_
  refine g_istore_n (pc := 3) [(3, _), (2, _), (0, _), (1, _)] dX5_readGains_3 rfl (Nat.le_of_ble_eq_true rfl) rfl ?_
  refine g_pm [2, 3, 1, 0] rfl ?_
  exact h
set_option maxHeartbeats 4000000 in
set_option maxRecDepth 100000 in
theorem t_X5_readGains_4 {Γ : GT} {Q : Int32 → St → Prop} (σ : St) (a1 : Nat) (x2 : Int32) (x3 : Int32) (ha1 : isSh a1)
    (h : (((σ.1 1 0) ≤ x3) → (Q x2 σ)) ∧ ((¬ (σ.1 1 0) ≤ x3) → (G Γ mX5_readGains (NI Γ 1 Q) 18 [(0, rf Γ 0), (1, rf Γ a1), (2, .int x2), (3, .int x3), (4, .int (0 : Int32))] [] σ))) :
    G Γ mX5_readGains (NI Γ 1 Q) 4 [(0, rf Γ 0), (1, rf Γ a1), (2, .int x2), (3, .int x3)] [] σ := by
  refine g_iload_n (pc := 4) dX5_readGains_4 rfl 3 rfl ?_
  refine g_aload_n (pc := 5) dX5_readGains_5 rfl 0 rfl ?_
  refine g_getR (pc := 6) 0 5 0 1 fr_0_0 fl_X5_10 dX5_readGains_6 ?_
  refine g_getI (pc := 9) 1 1 0 fi_1_0 fl_X5_50 dX5_readGains_9 ?_
  refine g_icmp_ge (pc := 12) 86 dX5_readGains_12 (by decide) (fun q => ?_) (fun q => ?_)
  · have h := h.1 q
    refine g_iload_n (pc := 86) dX5_readGains_86 rfl 2 rfl ?_
    exact g_iret (pc := 87) rfl dX5_readGains_87 h
  · have h := h.2 q
    refine g_iconst (pc := 15) (0 : Int32) dX5_readGains_15 rfl ?_
    refine g_istore (pc := 16) [(4, _), (0, _), (1, _), (2, _), (3, _)] dX5_readGains_16 (Nat.le_of_ble_eq_true rfl) rfl ?_
    refine g_pm [1, 2, 3, 4, 0] rfl ?_
    exact h
set_option maxHeartbeats 4000000 in
set_option maxRecDepth 100000 in
theorem t_X5_readGains_18 {Γ : GT} {Q : Int32 → St → Prop} (σ : St) (a1 : Nat) (x2 : Int32) (x3 : Int32) (x4 : Int32) (ha1 : isSh a1)
    (h : (((σ.1 1 0) ≤ x4) → (G Γ mX5_readGains (NI Γ 1 Q) 4 [(0, rf Γ 0), (1, rf Γ a1), (2, .int x2), (3, .int (x3 + (1 : Int32)))] [] σ)) ∧ ((¬ (σ.1 1 0) ≤ x4) → ((((σ.1 a1 1) ≤ x2) → (Q x2 σ)) ∧ ((¬ (σ.1 a1 1) ≤ x2) → (vp_in x2 60 ∧ (∃ Q1 : Int32 → St → Prop, CtI Γ mX1_mayBeGain 0 [.int x3, .int x4, .int (σ.1 (a1 + 4) x2.toNatClampNeg)] σ Q1 ∧ ∀ (r2 : Int32) (τ3 : St), Q1 r2 τ3 → (((¬ r2 = 0) → (vp_in x2 60 ∧ (∃ Q4 : St → Prop, CtV Γ mX1_tellGain 0 [rf Γ 1, .int x3, .int x4, .int (τ3.1 (a1 + 4) x2.toNatClampNeg)] τ3 Q4 ∧ ∀ (τ6 : St), Q4 τ6 → (G Γ mX5_readGains (NI Γ 1 Q) 18 [(0, rf Γ 0), (1, rf Γ a1), (2, .int (x2 + (1 : Int32))), (3, .int x3), (4, .int (x4 + (1 : Int32)))] [] τ6)))) ∧ ((r2 = 0) → (Q x2 τ3))))))))) :
    G Γ mX5_readGains (NI Γ 1 Q) 18 [(0, rf Γ 0), (1, rf Γ a1), (2, .int x2), (3, .int x3), (4, .int x4)] [] σ := by
  refine g_iload (pc := 18) dX5_readGains_18 4 rfl ?_
  refine g_aload_n (pc := 20) dX5_readGains_20 rfl 0 rfl ?_
  refine g_getR (pc := 21) 0 5 0 1 fr_0_0 fl_X5_10 dX5_readGains_21 ?_
  refine g_getI (pc := 24) 1 1 0 fi_1_0 fl_X5_50 dX5_readGains_24 ?_
  refine g_icmp_ge (pc := 27) 80 dX5_readGains_27 (by decide) (fun q => ?_) (fun q => ?_)
  · have h := h.1 q
    refine g_iinc (pc := 80) (1 : Int32) [(3, _), (0, _), (1, _), (2, _), (4, _)] dX5_readGains_80 3 rfl rfl (Nat.le_of_ble_eq_true rfl) rfl ?_
    refine g_goto (pc := 83) 4 dX5_readGains_83 (by decide) ?_
    refine g_pm [1, 2, 3, 0] rfl ?_
    exact h
  · have h := h.2 q
    refine g_iload_n (pc := 30) dX5_readGains_30 rfl 2 rfl ?_
    refine g_aload_n (pc := 31) dX5_readGains_31 rfl 1 rfl ?_
    refine g_getI (pc := 32) a1 2 1 (fi_sh1 ha1) fl_X5_197 dX5_readGains_32 ?_
    refine g_icmp_ge (pc := 35) 53 dX5_readGains_35 (by decide) (fun q => ?_) (fun q => ?_)
    · have h := h.1 q
      refine g_iload_n (pc := 53) dX5_readGains_53 rfl 2 rfl ?_
      exact g_iret (pc := 54) rfl dX5_readGains_54 h
    · have h := h.2 q
      refine g_iload_n (pc := 38) dX5_readGains_38 rfl 3 rfl ?_
      refine g_iload (pc := 39) dX5_readGains_39 4 rfl ?_
      refine g_aload_n (pc := 41) dX5_readGains_41 rfl 1 rfl ?_
      refine g_getR (pc := 42) a1 2 2 (a1 + 4) (fr_sh ha1) fl_X5_208 dX5_readGains_42 ?_
      refine g_iload_n (pc := 45) dX5_readGains_45 rfl 2 rfl ?_
      refine g_iald (pc := 46) (a1 + 4) 60 (ai_sh ha1) h.1 dX5_readGains_46 ?_
      have h := h.2
      obtain ⟨Q1, hc, h⟩ := h
      refine g_callSI (pc := 47) (M' := mX1_mayBeGain) (n := 1) (As := [.int x3, .int x4, .int (σ.1 (a1 + 4) x2.toNatClampNeg)]) (st := []) dX5_readGains_47 ml_X5_57 ok_X1_mayBeGain rfl (rmOk_M _ _ _) (by decide) (Nat.le_of_ble_eq_true rfl) rfl hc (fun r2 τ3 hq => ?_)
      have h := h r2 τ3 hq
      refine g_if_ne (pc := 50) 55 dX5_readGains_50 (by decide) (fun q => ?_) (fun q => ?_)
      · have h := h.1 q
        refine g_aload_n (pc := 55) dX5_readGains_55 rfl 0 rfl ?_
        refine g_getR (pc := 56) 0 5 0 1 fr_0_0 fl_X5_10 dX5_readGains_56 ?_
        refine g_iload_n (pc := 59) dX5_readGains_59 rfl 3 rfl ?_
        refine g_iload (pc := 60) dX5_readGains_60 4 rfl ?_
        refine g_aload_n (pc := 62) dX5_readGains_62 rfl 1 rfl ?_
        refine g_getR (pc := 63) a1 2 2 (a1 + 4) (fr_sh ha1) fl_X5_208 dX5_readGains_63 ?_
        refine g_iload_n (pc := 66) dX5_readGains_66 rfl 2 rfl ?_
        refine g_iald (pc := 67) (a1 + 4) 60 (ai_sh ha1) h.1 dX5_readGains_67 ?_
        have h := h.2
        obtain ⟨Q4, hc, h⟩ := h
        refine g_callVV (pc := 68) (M' := mX1_tellGain) (n := 1) (As := [.int x3, .int x4, .int (τ3.1 (a1 + 4) x2.toNatClampNeg)]) (st := []) dX5_readGains_68 ml_X5_65 ok_X1_tellGain rfl (rmOk_M _ _ _) (by decide) rc_1 (Nat.le_of_ble_eq_true rfl) rfl hc (fun τ6 hq => ?_)
        have h := h τ6 hq
        refine g_iinc (pc := 71) (1 : Int32) [(2, _), (0, _), (1, _), (3, _), (4, _)] dX5_readGains_71 2 rfl rfl (Nat.le_of_ble_eq_true rfl) rfl ?_
        refine g_iinc (pc := 74) (1 : Int32) [(4, _), (2, _), (0, _), (1, _), (3, _)] dX5_readGains_74 4 rfl rfl (Nat.le_of_ble_eq_true rfl) rfl ?_
        refine g_goto (pc := 77) 18 dX5_readGains_77 (by decide) ?_
        refine g_pm [2, 3, 1, 4, 0] rfl ?_
        exact h
      · have h := h.2 q
        refine g_iload_n (pc := 53) dX5_readGains_53 rfl 2 rfl ?_
        exact g_iret (pc := 54) rfl dX5_readGains_54 h
set_option maxHeartbeats 4000000 in
set_option maxRecDepth 100000 in
theorem ct_X5_stepsOfText {Γ : GT} {Q : Int32 → St → Prop} (σ : St) 
    (h : G Γ mX5_stepsOfText (NI Γ 4 Q) 4 [(0, rf Γ 0), (1, .int (0 : Int32)), (2, .int (0 : Int32))] [] σ) :
    CtI Γ mX5_stepsOfText 4 [rf Γ 0] σ Q := by
  refine ct_of (by decide +kernel) (Nat.le_of_ble_eq_true rfl) ?_
  show G Γ mX5_stepsOfText (NI Γ 4 Q) 0 [(0, rf Γ 0)] [] σ
  refine g_iconst (pc := 0) (0 : Int32) dX5_stepsOfText_0 rfl ?_
  refine g_istore_n (pc := 1) [(1, _), (0, _)] dX5_stepsOfText_1 rfl (Nat.le_of_ble_eq_true rfl) rfl ?_
  refine g_iconst (pc := 2) (0 : Int32) dX5_stepsOfText_2 rfl ?_
  refine g_istore_n (pc := 3) [(2, _), (1, _), (0, _)] dX5_stepsOfText_3 rfl (Nat.le_of_ble_eq_true rfl) rfl ?_
  refine g_pm [2, 1, 0] rfl ?_
  exact h
set_option maxHeartbeats 4000000 in
set_option maxRecDepth 100000 in
theorem t_X5_stepsOfText_4 {Γ : GT} {Q : Int32 → St → Prop} (σ : St) (x1 : Int32) (x2 : Int32)
    (h : (((σ.1 14 0) ≤ x2) → (Q x1 σ)) ∧ ((¬ (σ.1 14 0) ≤ x2) → (vp_in x2 12 ∧ (vp_in ((σ.1 15 x2.toNatClampNeg) - (97 : Int32)) 5 ∧ (∃ Q1 : Int32 → St → Prop, CtI Γ mX1_isOn 0 [rf Γ 1, .int ((σ.1 15 x2.toNatClampNeg) - (97 : Int32))] σ Q1 ∧ ∀ (r2 : Int32) (τ3 : St), Q1 r2 τ3 → (((r2 = 0) → (G Γ mX5_stepsOfText (NI Γ 4 Q) 4 [(0, rf Γ 0), (1, .int x1), (2, .int (x2 + (1 : Int32)))] [] τ3)) ∧ ((¬ r2 = 0) → (∃ Q4 : Int32 → St → Prop, CtI Γ mX5_step 3 [rf Γ 0, .int ((σ.1 15 x2.toNatClampNeg) - (97 : Int32))] τ3 Q4 ∧ ∀ (r5 : Int32) (τ6 : St), Q4 r5 τ6 → (((r5 = (σ.1 6 ((σ.1 15 x2.toNatClampNeg) - (97 : Int32)).toNatClampNeg)) → (G Γ mX5_stepsOfText (NI Γ 4 Q) 4 [(0, rf Γ 0), (1, .int x1), (2, .int (x2 + (1 : Int32)))] [] τ6)) ∧ ((¬ r5 = (σ.1 6 ((σ.1 15 x2.toNatClampNeg) - (97 : Int32)).toNatClampNeg)) → (G Γ mX5_stepsOfText (NI Γ 4 Q) 4 [(0, rf Γ 0), (1, .int (x1 + (1 : Int32))), (2, .int (x2 + (1 : Int32)))] [] τ6))))))))))) :
    G Γ mX5_stepsOfText (NI Γ 4 Q) 4 [(0, rf Γ 0), (1, .int x1), (2, .int x2)] [] σ := by
  refine g_iload_n (pc := 4) dX5_stepsOfText_4 rfl 2 rfl ?_
  refine g_aload_n (pc := 5) dX5_stepsOfText_5 rfl 0 rfl ?_
  refine g_getR (pc := 6) 0 5 3 14 fr_0_3 fl_X5_35 dX5_stepsOfText_6 ?_
  refine g_getI (pc := 9) 14 3 0 fi_14_0 fl_X5_99 dX5_stepsOfText_9 ?_
  refine g_icmp_ge (pc := 12) 69 dX5_stepsOfText_12 (by decide) (fun q => ?_) (fun q => ?_)
  · have h := h.1 q
    refine g_iload_n (pc := 69) dX5_stepsOfText_69 rfl 1 rfl ?_
    exact g_iret (pc := 70) rfl dX5_stepsOfText_70 h
  · have h := h.2 q
    refine g_aload_n (pc := 15) dX5_stepsOfText_15 rfl 0 rfl ?_
    refine g_getR (pc := 16) 0 5 3 14 fr_0_3 fl_X5_35 dX5_stepsOfText_16 ?_
    refine g_getR (pc := 19) 14 3 1 15 fr_14_1 fl_X5_289 dX5_stepsOfText_19 ?_
    refine g_iload_n (pc := 22) dX5_stepsOfText_22 rfl 2 rfl ?_
    refine g_iald (pc := 23) 15 12 ar_15 h.1 dX5_stepsOfText_23 ?_
    have h := h.2
    refine g_bipush (pc := 24) (97 : Int32) dX5_stepsOfText_24 rfl ?_
    refine g_isub (pc := 26) dX5_stepsOfText_26 ?_
    refine g_istore_n (pc := 27) [(3, _), (0, _), (1, _), (2, _)] dX5_stepsOfText_27 rfl (Nat.le_of_ble_eq_true rfl) rfl ?_
    refine g_aload_n (pc := 28) dX5_stepsOfText_28 rfl 1 rfl ?_
    refine g_getR (pc := 29) 0 5 0 1 fr_0_0 fl_X5_10 dX5_stepsOfText_29 ?_
    refine g_getR (pc := 32) 1 1 6 6 fr_1_6 fl_X5_90 dX5_stepsOfText_32 ?_
    refine g_iload_n (pc := 35) dX5_stepsOfText_35 rfl 0 rfl ?_
    refine g_iald (pc := 36) 6 5 ar_6 h.1 dX5_stepsOfText_36 ?_
    have h := h.2
    refine g_istore (pc := 37) [(4, _), (3, _), (0, _), (1, _), (2, _)] dX5_stepsOfText_37 (Nat.le_of_ble_eq_true rfl) rfl ?_
    refine g_aload_n (pc := 39) dX5_stepsOfText_39 rfl 2 rfl ?_
    refine g_getR (pc := 40) 0 5 0 1 fr_0_0 fl_X5_10 dX5_stepsOfText_40 ?_
    refine g_iload_n (pc := 43) dX5_stepsOfText_43 rfl 1 rfl ?_
    obtain ⟨Q1, hc, h⟩ := h
    refine g_callVI (pc := 44) (M' := mX1_isOn) (n := 4) (As := [.int ((σ.1 15 x2.toNatClampNeg) - (97 : Int32))]) (st := []) dX5_stepsOfText_44 ml_X5_113 ok_X1_isOn rfl (rmOk_M _ _ _) (by decide) rc_1 (Nat.le_of_ble_eq_true rfl) rfl hc (fun r2 τ3 hq => ?_)
    have h := h r2 τ3 hq
    refine g_if_eq (pc := 47) 63 dX5_stepsOfText_47 (by decide) (fun q => ?_) (fun q => ?_)
    · have h := h.1 q
      refine g_iinc (pc := 63) (1 : Int32) [(2, _), (4, _), (3, _), (0, _), (1, _)] dX5_stepsOfText_63 4 rfl rfl (Nat.le_of_ble_eq_true rfl) rfl ?_
      refine g_goto (pc := 66) 4 dX5_stepsOfText_66 (by decide) ?_
      refine g_pm [3, 4, 0] rfl ?_
      exact h
    · have h := h.2 q
      refine g_aload_n (pc := 50) dX5_stepsOfText_50 rfl 2 rfl ?_
      refine g_iload_n (pc := 51) dX5_stepsOfText_51 rfl 1 rfl ?_
      obtain ⟨Q4, hc, h⟩ := h
      refine g_callVI (pc := 52) (M' := mX5_step) (n := 4) (As := [.int ((σ.1 15 x2.toNatClampNeg) - (97 : Int32))]) (st := []) dX5_stepsOfText_52 ml_X5_292 ok_X5_step rfl (rmOk_M _ _ _) (by decide) rc_0 (Nat.le_of_ble_eq_true rfl) rfl hc (fun r5 τ6 hq => ?_)
      have h := h r5 τ6 hq
      refine g_iload (pc := 55) dX5_stepsOfText_55 0 rfl ?_
      refine g_icmp_eq (pc := 57) 63 dX5_stepsOfText_57 (by decide) (fun q => ?_) (fun q => ?_)
      · have h := h.1 q
        refine g_iinc (pc := 63) (1 : Int32) [(2, _), (4, _), (3, _), (0, _), (1, _)] dX5_stepsOfText_63 4 rfl rfl (Nat.le_of_ble_eq_true rfl) rfl ?_
        refine g_goto (pc := 66) 4 dX5_stepsOfText_66 (by decide) ?_
        refine g_pm [3, 4, 0] rfl ?_
        exact h
      · have h := h.2 q
        refine g_iinc (pc := 60) (1 : Int32) [(1, _), (4, _), (3, _), (0, _), (2, _)] dX5_stepsOfText_60 3 rfl rfl (Nat.le_of_ble_eq_true rfl) rfl ?_
        refine g_iinc (pc := 63) (1 : Int32) [(2, _), (1, _), (4, _), (3, _), (0, _)] dX5_stepsOfText_63 4 rfl rfl (Nat.le_of_ble_eq_true rfl) rfl ?_
        refine g_goto (pc := 66) 4 dX5_stepsOfText_66 (by decide) ?_
        refine g_pm [4, 1, 0] rfl ?_
        exact h
set_option maxHeartbeats 4000000 in
set_option maxRecDepth 100000 in
theorem ct_X5_refusalOfSheet {Γ : GT} {Q : Int32 → St → Prop} (σ : St) (x1 : Int32)
    (h : ∃ Q1 : Int32 → St → Prop, CtI Γ mX5_isSheet 0 [.int x1] σ Q1 ∧ ∀ (r2 : Int32) (τ3 : St), Q1 r2 τ3 → (((¬ r2 = 0) → (vp_in x1 4 ∧ (∃ Q5 : Int32 → St → Prop, CtI Γ mX2_isLost 0 [rf Γ (17 + x1.toNatClampNeg)] τ3 Q5 ∧ ∀ (r6 : Int32) (τ7 : St), Q5 r6 τ7 → (((r6 = 0) → (Q (0 : Int32) τ7)) ∧ ((¬ r6 = 0) → (∃ Q8 : Int32 → St → Prop, CtI Γ mX5_finding 0 [rf Γ 0, .int (1 : Int32)] τ7 Q8 ∧ ∀ (r9 : Int32) (τ10 : St), Q8 r9 τ10 → (Q r9 τ10))))))) ∧ ((r2 = 0) → (Q (-2 : Int32) τ3)))) :
    CtI Γ mX5_refusalOfSheet 1 [rf Γ 0, .int x1] σ Q := by
  refine ct_of (by decide +kernel) (Nat.le_of_ble_eq_true rfl) ?_
  show G Γ mX5_refusalOfSheet (NI Γ 1 Q) 0 [(0, rf Γ 0), (1, .int x1)] [] σ
  refine g_iload_n (pc := 0) dX5_refusalOfSheet_0 rfl 1 rfl ?_
  obtain ⟨Q1, hc, h⟩ := h
  refine g_callSI (pc := 1) (M' := mX5_isSheet) (n := 1) (As := [.int x1]) (st := []) dX5_refusalOfSheet_1 ml_X5_184 ok_X5_isSheet rfl (rmOk_M _ _ _) (by decide) (Nat.le_of_ble_eq_true rfl) rfl hc (fun r2 τ3 hq => ?_)
  have h := h r2 τ3 hq
  refine g_if_ne (pc := 4) 10 dX5_refusalOfSheet_4 (by decide) (fun q => ?_) (fun q => ?_)
  · have h := h.1 q
    refine g_aload_n (pc := 10) dX5_refusalOfSheet_10 rfl 0 rfl ?_
    refine g_getR (pc := 11) 0 5 4 16 fr_0_4 fl_X5_41 dX5_refusalOfSheet_11 ?_
    refine g_iload_n (pc := 14) dX5_refusalOfSheet_14 rfl 1 rfl ?_
    have hs4 := isSh_of h.1
    refine g_aald (pc := 15) h.1 dX5_refusalOfSheet_15 ?_
    have h := h.2
    obtain ⟨Q5, hc, h⟩ := h
    refine g_callVI (pc := 16) (M' := mX2_isLost) (n := 1) (As := []) (st := []) dX5_refusalOfSheet_16 ml_X5_211 ok_X2_isLost rfl (rmOk_M _ _ _) (by decide) (rc_sh hs4) (Nat.le_of_ble_eq_true rfl) rfl hc (fun r6 τ7 hq => ?_)
    have h := h r6 τ7 hq
    refine g_if_eq (pc := 19) 30 dX5_refusalOfSheet_19 (by decide) (fun q => ?_) (fun q => ?_)
    · have h := h.1 q
      refine g_iconst (pc := 30) (0 : Int32) dX5_refusalOfSheet_30 rfl ?_
      exact g_iret (pc := 31) rfl dX5_refusalOfSheet_31 h
    · have h := h.2 q
      refine g_aload_n (pc := 22) dX5_refusalOfSheet_22 rfl 0 rfl ?_
      refine g_iconst (pc := 23) (1 : Int32) dX5_refusalOfSheet_23 rfl ?_
      obtain ⟨Q8, hc, h⟩ := h
      refine g_callVI (pc := 24) (M' := mX5_finding) (n := 1) (As := [.int (1 : Int32)]) (st := []) dX5_refusalOfSheet_24 ml_X5_190 ok_X5_finding rfl (rmOk_M _ _ _) (by decide) rc_0 (Nat.le_of_ble_eq_true rfl) rfl hc (fun r9 τ10 hq => ?_)
      have h := h r9 τ10 hq
      refine g_goto (pc := 27) 31 dX5_refusalOfSheet_27 (by decide) ?_
      exact g_iret (pc := 31) rfl dX5_refusalOfSheet_31 h
  · have h := h.2 q
    refine g_bipush (pc := 7) (-2 : Int32) dX5_refusalOfSheet_7 rfl ?_
    exact g_iret (pc := 9) rfl dX5_refusalOfSheet_9 h
set_option maxHeartbeats 4000000 in
set_option maxRecDepth 100000 in
theorem ct_X5_refusalOfItem {Γ : GT} {Q : Int32 → St → Prop} (σ : St) (x1 : Int32) (x2 : Int32) (x3 : Int32)
    (h : ∃ Q1 : Int32 → St → Prop, CtI Γ mX5_isSheet 0 [.int x1] σ Q1 ∧ ∀ (r2 : Int32) (τ3 : St), Q1 r2 τ3 → (((r2 = 0) → (Q (-2 : Int32) τ3)) ∧ ((¬ r2 = 0) → (∃ Q4 : Int32 → St → Prop, CtI Γ mX5_isForm 0 [.int x2] τ3 Q4 ∧ ∀ (r5 : Int32) (τ6 : St), Q4 r5 τ6 → (((¬ r5 = 0) → (vp_in x1 4 ∧ (∃ Q8 : Int32 → St → Prop, CtI Γ mX2_isLost 0 [rf Γ (17 + x1.toNatClampNeg)] τ6 Q8 ∧ ∀ (r9 : Int32) (τ10 : St), Q8 r9 τ10 → (((r9 = 0) → (vp_in x1 4 ∧ ((((τ10.1 (17 + x1.toNatClampNeg) 0) = x2) → (vp_in x1 4 ∧ (∃ Q13 : Int32 → St → Prop, CtI Γ mX2_hasRange 0 [rf Γ (17 + x1.toNatClampNeg), .int x3, .int (1 : Int32)] τ10 Q13 ∧ ∀ (r14 : Int32) (τ15 : St), Q13 r14 τ15 → (((r14 = 0) → (∃ Q16 : Int32 → St → Prop, CtI Γ mX5_finding 0 [rf Γ 0, .int (2 : Int32)] τ15 Q16 ∧ ∀ (r17 : Int32) (τ18 : St), Q16 r17 τ18 → (Q r17 τ18))) ∧ ((¬ r14 = 0) → (Q (0 : Int32) τ15)))))) ∧ ((¬ (τ10.1 (17 + x1.toNatClampNeg) 0) = x2) → (∃ Q19 : Int32 → St → Prop, CtI Γ mX5_finding 0 [rf Γ 0, .int (3 : Int32)] τ10 Q19 ∧ ∀ (r20 : Int32) (τ21 : St), Q19 r20 τ21 → (Q r20 τ21)))))) ∧ ((¬ r9 = 0) → (∃ Q22 : Int32 → St → Prop, CtI Γ mX5_finding 0 [rf Γ 0, .int (1 : Int32)] τ10 Q22 ∧ ∀ (r23 : Int32) (τ24 : St), Q22 r23 τ24 → (Q r23 τ24))))))) ∧ ((r5 = 0) → (Q (-2 : Int32) τ6))))))) :
    CtI Γ mX5_refusalOfItem 1 [rf Γ 0, .int x1, .int x2, .int x3] σ Q := by
  refine ct_of (by decide +kernel) (Nat.le_of_ble_eq_true rfl) ?_
  show G Γ mX5_refusalOfItem (NI Γ 1 Q) 0 [(0, rf Γ 0), (1, .int x1), (2, .int x2), (3, .int x3)] [] σ
  refine g_iload_n (pc := 0) dX5_refusalOfItem_0 rfl 1 rfl ?_
  obtain ⟨Q1, hc, h⟩ := h
  refine g_callSI (pc := 1) (M' := mX5_isSheet) (n := 1) (As := [.int x1]) (st := []) dX5_refusalOfItem_1 ml_X5_184 ok_X5_isSheet rfl (rmOk_M _ _ _) (by decide) (Nat.le_of_ble_eq_true rfl) rfl hc (fun r2 τ3 hq => ?_)
  have h := h r2 τ3 hq
  refine g_if_eq (pc := 4) 14 dX5_refusalOfItem_4 (by decide) (fun q => ?_) (fun q => ?_)
  · have h := h.1 q
    refine g_bipush (pc := 14) (-2 : Int32) dX5_refusalOfItem_14 rfl ?_
    exact g_iret (pc := 16) rfl dX5_refusalOfItem_16 h
  · have h := h.2 q
    refine g_iload_n (pc := 7) dX5_refusalOfItem_7 rfl 2 rfl ?_
    obtain ⟨Q4, hc, h⟩ := h
    refine g_callSI (pc := 8) (M' := mX5_isForm) (n := 1) (As := [.int x2]) (st := []) dX5_refusalOfItem_8 ml_X5_187 ok_X5_isForm rfl (rmOk_M _ _ _) (by decide) (Nat.le_of_ble_eq_true rfl) rfl hc (fun r5 τ6 hq => ?_)
    have h := h r5 τ6 hq
    refine g_if_ne (pc := 11) 17 dX5_refusalOfItem_11 (by decide) (fun q => ?_) (fun q => ?_)
    · have h := h.1 q
      refine g_aload_n (pc := 17) dX5_refusalOfItem_17 rfl 0 rfl ?_
      refine g_getR (pc := 18) 0 5 4 16 fr_0_4 fl_X5_41 dX5_refusalOfItem_18 ?_
      refine g_iload_n (pc := 21) dX5_refusalOfItem_21 rfl 1 rfl ?_
      have hs7 := isSh_of h.1
      refine g_aald (pc := 22) h.1 dX5_refusalOfItem_22 ?_
      have h := h.2
      obtain ⟨Q8, hc, h⟩ := h
      refine g_callVI (pc := 23) (M' := mX2_isLost) (n := 1) (As := []) (st := []) dX5_refusalOfItem_23 ml_X5_211 ok_X2_isLost rfl (rmOk_M _ _ _) (by decide) (rc_sh hs7) (Nat.le_of_ble_eq_true rfl) rfl hc (fun r9 τ10 hq => ?_)
      have h := h r9 τ10 hq
      refine g_if_eq (pc := 26) 35 dX5_refusalOfItem_26 (by decide) (fun q => ?_) (fun q => ?_)
      · have h := h.1 q
        refine g_aload_n (pc := 35) dX5_refusalOfItem_35 rfl 0 rfl ?_
        refine g_getR (pc := 36) 0 5 4 16 fr_0_4 fl_X5_41 dX5_refusalOfItem_36 ?_
        refine g_iload_n (pc := 39) dX5_refusalOfItem_39 rfl 1 rfl ?_
        have hs11 := isSh_of h.1
        refine g_aald (pc := 40) h.1 dX5_refusalOfItem_40 ?_
        have h := h.2
        refine g_getI (pc := 41) (17 + x1.toNatClampNeg) 2 0 (fi_sh0 hs11) fl_X5_215 dX5_refusalOfItem_41 ?_
        refine g_iload_n (pc := 44) dX5_refusalOfItem_44 rfl 2 rfl ?_
        refine g_icmp_eq (pc := 45) 54 dX5_refusalOfItem_45 (by decide) (fun q => ?_) (fun q => ?_)
        · have h := h.1 q
          refine g_aload_n (pc := 54) dX5_refusalOfItem_54 rfl 0 rfl ?_
          refine g_getR (pc := 55) 0 5 4 16 fr_0_4 fl_X5_41 dX5_refusalOfItem_55 ?_
          refine g_iload_n (pc := 58) dX5_refusalOfItem_58 rfl 1 rfl ?_
          have hs12 := isSh_of h.1
          refine g_aald (pc := 59) h.1 dX5_refusalOfItem_59 ?_
          have h := h.2
          refine g_iload_n (pc := 60) dX5_refusalOfItem_60 rfl 3 rfl ?_
          refine g_iconst (pc := 61) (1 : Int32) dX5_refusalOfItem_61 rfl ?_
          obtain ⟨Q13, hc, h⟩ := h
          refine g_callVI (pc := 62) (M' := mX2_hasRange) (n := 1) (As := [.int x3, .int (1 : Int32)]) (st := []) dX5_refusalOfItem_62 ml_X5_218 ok_X2_hasRange rfl (rmOk_M _ _ _) (by decide) (rc_sh hs12) (Nat.le_of_ble_eq_true rfl) rfl hc (fun r14 τ15 hq => ?_)
          have h := h r14 τ15 hq
          refine g_if_eq (pc := 65) 72 dX5_refusalOfItem_65 (by decide) (fun q => ?_) (fun q => ?_)
          · have h := h.1 q
            refine g_aload_n (pc := 72) dX5_refusalOfItem_72 rfl 0 rfl ?_
            refine g_iconst (pc := 73) (2 : Int32) dX5_refusalOfItem_73 rfl ?_
            obtain ⟨Q16, hc, h⟩ := h
            refine g_callVI (pc := 74) (M' := mX5_finding) (n := 1) (As := [.int (2 : Int32)]) (st := []) dX5_refusalOfItem_74 ml_X5_190 ok_X5_finding rfl (rmOk_M _ _ _) (by decide) rc_0 (Nat.le_of_ble_eq_true rfl) rfl hc (fun r17 τ18 hq => ?_)
            have h := h r17 τ18 hq
            exact g_iret (pc := 77) rfl dX5_refusalOfItem_77 h
          · have h := h.2 q
            refine g_iconst (pc := 68) (0 : Int32) dX5_refusalOfItem_68 rfl ?_
            refine g_goto (pc := 69) 77 dX5_refusalOfItem_69 (by decide) ?_
            exact g_iret (pc := 77) rfl dX5_refusalOfItem_77 h
        · have h := h.2 q
          refine g_aload_n (pc := 48) dX5_refusalOfItem_48 rfl 0 rfl ?_
          refine g_iconst (pc := 49) (3 : Int32) dX5_refusalOfItem_49 rfl ?_
          obtain ⟨Q19, hc, h⟩ := h
          refine g_callVI (pc := 50) (M' := mX5_finding) (n := 1) (As := [.int (3 : Int32)]) (st := []) dX5_refusalOfItem_50 ml_X5_190 ok_X5_finding rfl (rmOk_M _ _ _) (by decide) rc_0 (Nat.le_of_ble_eq_true rfl) rfl hc (fun r20 τ21 hq => ?_)
          have h := h r20 τ21 hq
          exact g_iret (pc := 53) rfl dX5_refusalOfItem_53 h
      · have h := h.2 q
        refine g_aload_n (pc := 29) dX5_refusalOfItem_29 rfl 0 rfl ?_
        refine g_iconst (pc := 30) (1 : Int32) dX5_refusalOfItem_30 rfl ?_
        obtain ⟨Q22, hc, h⟩ := h
        refine g_callVI (pc := 31) (M' := mX5_finding) (n := 1) (As := [.int (1 : Int32)]) (st := []) dX5_refusalOfItem_31 ml_X5_190 ok_X5_finding rfl (rmOk_M _ _ _) (by decide) rc_0 (Nat.le_of_ble_eq_true rfl) rfl hc (fun r23 τ24 hq => ?_)
        have h := h r23 τ24 hq
        exact g_iret (pc := 34) rfl dX5_refusalOfItem_34 h
    · have h := h.2 q
      refine g_bipush (pc := 14) (-2 : Int32) dX5_refusalOfItem_14 rfl ?_
      exact g_iret (pc := 16) rfl dX5_refusalOfItem_16 h
set_option maxHeartbeats 4000000 in
set_option maxRecDepth 100000 in
theorem ct_X5_finding {Γ : GT} {Q : Int32 → St → Prop} (σ : St) (x1 : Int32)
    (h : Q ((-10 : Int32) - x1) (sI σ 0 5 x1)) :
    CtI Γ mX5_finding 0 [rf Γ 0, .int x1] σ Q := by
  refine ct_of (by decide +kernel) (Nat.le_of_ble_eq_true rfl) ?_
  show G Γ mX5_finding (NI Γ 0 Q) 0 [(0, rf Γ 0), (1, .int x1)] [] σ
  refine g_aload_n (pc := 0) dX5_finding_0 rfl 0 rfl ?_
  refine g_iload_n (pc := 1) dX5_finding_1 rfl 1 rfl ?_
  refine g_put (pc := 2) 0 5 5 fpp_0_5 fp_X5_46 dX5_finding_2 ?_
  refine g_bipush (pc := 5) (-10 : Int32) dX5_finding_5 rfl ?_
  refine g_iload_n (pc := 7) dX5_finding_7 rfl 1 rfl ?_
  refine g_isub (pc := 8) dX5_finding_8 ?_
  exact g_iret (pc := 9) rfl dX5_finding_9 h
set_option maxHeartbeats 4000000 in
set_option maxRecDepth 100000 in
theorem ct_X5_isSheet {Γ : GT} {Q : Int32 → St → Prop} (σ : St) (x0 : Int32)
    (h : ((x0 < 0) → (Q (0 : Int32) σ)) ∧ ((¬ x0 < 0) → ((((4 : Int32) ≤ x0) → (Q (0 : Int32) σ)) ∧ ((¬ (4 : Int32) ≤ x0) → (Q (1 : Int32) σ))))) :
    CtI Γ mX5_isSheet 0 [.int x0] σ Q := by
  refine ct_of (by decide +kernel) (Nat.le_of_ble_eq_true rfl) ?_
  show G Γ mX5_isSheet (NI Γ 0 Q) 0 [(0, .int x0)] [] σ
  refine g_iload_n (pc := 0) dX5_isSheet_0 rfl 0 rfl ?_
  refine g_if_lt (pc := 1) 13 dX5_isSheet_1 (by decide) (fun q => ?_) (fun q => ?_)
  · have h := h.1 q
    refine g_iconst (pc := 13) (0 : Int32) dX5_isSheet_13 rfl ?_
    exact g_zret (pc := 14) rfl dX5_isSheet_14 (Or.inl rfl) h
  · have h := h.2 q
    refine g_iload_n (pc := 4) dX5_isSheet_4 rfl 0 rfl ?_
    refine g_iconst (pc := 5) (4 : Int32) dX5_isSheet_5 rfl ?_
    refine g_icmp_ge (pc := 6) 13 dX5_isSheet_6 (by decide) (fun q => ?_) (fun q => ?_)
    · have h := h.1 q
      refine g_iconst (pc := 13) (0 : Int32) dX5_isSheet_13 rfl ?_
      exact g_zret (pc := 14) rfl dX5_isSheet_14 (Or.inl rfl) h
    · have h := h.2 q
      refine g_iconst (pc := 9) (1 : Int32) dX5_isSheet_9 rfl ?_
      refine g_goto (pc := 10) 14 dX5_isSheet_10 (by decide) ?_
      exact g_zret (pc := 14) rfl dX5_isSheet_14 (Or.inr rfl) h
set_option maxHeartbeats 4000000 in
set_option maxRecDepth 100000 in
theorem ct_X5_isForm {Γ : GT} {Q : Int32 → St → Prop} (σ : St) (x0 : Int32)
    (h : ((x0 < 0) → (Q (0 : Int32) σ)) ∧ ((¬ x0 < 0) → ((((3 : Int32) ≤ x0) → (Q (0 : Int32) σ)) ∧ ((¬ (3 : Int32) ≤ x0) → (Q (1 : Int32) σ))))) :
    CtI Γ mX5_isForm 0 [.int x0] σ Q := by
  refine ct_of (by decide +kernel) (Nat.le_of_ble_eq_true rfl) ?_
  show G Γ mX5_isForm (NI Γ 0 Q) 0 [(0, .int x0)] [] σ
  refine g_iload_n (pc := 0) dX5_isForm_0 rfl 0 rfl ?_
  refine g_if_lt (pc := 1) 13 dX5_isForm_1 (by decide) (fun q => ?_) (fun q => ?_)
  · have h := h.1 q
    refine g_iconst (pc := 13) (0 : Int32) dX5_isForm_13 rfl ?_
    exact g_zret (pc := 14) rfl dX5_isForm_14 (Or.inl rfl) h
  · have h := h.2 q
    refine g_iload_n (pc := 4) dX5_isForm_4 rfl 0 rfl ?_
    refine g_iconst (pc := 5) (3 : Int32) dX5_isForm_5 rfl ?_
    refine g_icmp_ge (pc := 6) 13 dX5_isForm_6 (by decide) (fun q => ?_) (fun q => ?_)
    · have h := h.1 q
      refine g_iconst (pc := 13) (0 : Int32) dX5_isForm_13 rfl ?_
      exact g_zret (pc := 14) rfl dX5_isForm_14 (Or.inl rfl) h
    · have h := h.2 q
      refine g_iconst (pc := 9) (1 : Int32) dX5_isForm_9 rfl ?_
      refine g_goto (pc := 10) 14 dX5_isForm_10 (by decide) ?_
      exact g_zret (pc := 14) rfl dX5_isForm_14 (Or.inr rfl) h
set_option maxHeartbeats 4000000 in
set_option maxRecDepth 100000 in
theorem ct_X5_exchange {Γ : GT} {Q : Int32 → St → Prop} (σ : St) (a0 : Nat) (x1 : Int32) (x2 : Int32) (x3 : Int32) (x4 : Int32) (ha0 : aI a0 5)
    (h : ((x2 < x3) → (Q (-2 : Int32) σ)) ∧ ((¬ x2 < x3) → (((x2 ≤ x4) → (vp_in x1 5 ∧ (vp_in x1 5 ∧ (Q (σ.1 a0 x1.toNatClampNeg) (sI σ a0 x1.toNatClampNeg x2))))) ∧ ((¬ x2 ≤ x4) → (Q (-2 : Int32) σ))))) :
    CtI Γ mX5_exchange 0 [rf Γ a0, .int x1, .int x2, .int x3, .int x4] σ Q := by
  refine ct_of (by decide +kernel) (Nat.le_of_ble_eq_true rfl) ?_
  show G Γ mX5_exchange (NI Γ 0 Q) 0 [(0, rf Γ a0), (1, .int x1), (2, .int x2), (3, .int x3), (4, .int x4)] [] σ
  refine g_iload_n (pc := 0) dX5_exchange_0 rfl 2 rfl ?_
  refine g_iload_n (pc := 1) dX5_exchange_1 rfl 3 rfl ?_
  refine g_icmp_lt (pc := 2) 11 dX5_exchange_2 (by decide) (fun q => ?_) (fun q => ?_)
  · have h := h.1 q
    refine g_bipush (pc := 11) (-2 : Int32) dX5_exchange_11 rfl ?_
    exact g_iret (pc := 13) rfl dX5_exchange_13 h
  · have h := h.2 q
    refine g_iload_n (pc := 5) dX5_exchange_5 rfl 2 rfl ?_
    refine g_iload (pc := 6) dX5_exchange_6 4 rfl ?_
    refine g_icmp_le (pc := 8) 14 dX5_exchange_8 (by decide) (fun q => ?_) (fun q => ?_)
    · have h := h.1 q
      refine g_aload_n (pc := 14) dX5_exchange_14 rfl 0 rfl ?_
      refine g_iload_n (pc := 15) dX5_exchange_15 rfl 1 rfl ?_
      refine g_iald (pc := 16) a0 5 ha0 h.1 dX5_exchange_16 ?_
      have h := h.2
      refine g_istore (pc := 17) [(5, _), (0, _), (1, _), (2, _), (3, _), (4, _)] dX5_exchange_17 (Nat.le_of_ble_eq_true rfl) rfl ?_
      refine g_aload_n (pc := 19) dX5_exchange_19 rfl 1 rfl ?_
      refine g_iload_n (pc := 20) dX5_exchange_20 rfl 2 rfl ?_
      refine g_iload_n (pc := 21) dX5_exchange_21 rfl 3 rfl ?_
      refine g_iast (pc := 22) a0 5 ha0 h.1 dX5_exchange_22 ?_
      have h := h.2
      refine g_iload (pc := 23) dX5_exchange_23 0 rfl ?_
      exact g_iret (pc := 25) rfl dX5_exchange_25 h
    · have h := h.2 q
      refine g_bipush (pc := 11) (-2 : Int32) dX5_exchange_11 rfl ?_
      exact g_iret (pc := 13) rfl dX5_exchange_13 h
set_option maxHeartbeats 4000000 in
set_option maxRecDepth 100000 in
theorem ct_X5_asLong {Γ : GT} {Q : Int64 → St → Prop} (σ : St) (x0 : Int32)
    (h : Q ((-9223372036854775808 : Int64) - x0.toInt64) σ) :
    CtJ Γ mX5_asLong 0 [.int x0] σ Q := by
  refine ct_of (by decide +kernel) (Nat.le_of_ble_eq_true rfl) ?_
  show G Γ mX5_asLong (NJ Γ 0 Q) 0 [(0, .int x0)] [] σ
  refine g_ldc2 (pc := 0) (-9223372036854775808 : Int64) kl_X5_295 dX5_asLong_0 ?_
  refine g_iload_n (pc := 3) dX5_asLong_3 rfl 0 rfl ?_
  refine g_i2l (pc := 4) dX5_asLong_4 ?_
  refine g_lsub (pc := 5) dX5_asLong_5 ?_
  exact g_lret (pc := 6) rfl dX5_asLong_6 h
set_option maxHeartbeats 4000000 in
set_option maxRecDepth 100000 in
theorem ct_X5_lowestTerm {Γ : GT} {Q : Int64 → St → Prop} (σ : St) (x0 : Int64) (x2 : Int64) (x4 : Int32)
    (h : ∃ Q1 : Int64 → St → Prop, CtJ Γ mX5_commonDivisor 1 [.long x0, .long x2] σ Q1 ∧ ∀ (r2 : Int64) (τ3 : St), Q1 r2 τ3 → (((¬ x4 = 0) → ((¬ r2 = 0) ∧ (Q (x2 / r2) τ3))) ∧ ((x4 = 0) → ((¬ r2 = 0) ∧ (Q (x0 / r2) τ3))))) :
    CtJ Γ mX5_lowestTerm 2 [.long x0, .long x2, .int x4] σ Q := by
  refine ct_of (by decide +kernel) (Nat.le_of_ble_eq_true rfl) ?_
  show G Γ mX5_lowestTerm (NJ Γ 2 Q) 0 [(0, .long x0), (2, .long x2), (4, .int x4)] [] σ
  refine g_lload_n (pc := 0) dX5_lowestTerm_0 rfl 0 rfl ?_
  refine g_lload_n (pc := 1) dX5_lowestTerm_1 rfl 1 rfl ?_
  obtain ⟨Q1, hc, h⟩ := h
  refine g_callSJ (pc := 2) (M' := mX5_commonDivisor) (n := 2) (As := [.long x0, .long x2]) (st := []) dX5_lowestTerm_2 ml_X5_297 ok_X5_commonDivisor rfl (rmOk_M _ _ _) (by decide) (Nat.le_of_ble_eq_true rfl) rfl hc (fun r2 τ3 hq => ?_)
  have h := h r2 τ3 hq
  refine g_lstore (pc := 5) [(5, _), (0, _), (2, _), (4, _)] dX5_lowestTerm_5 (Nat.le_of_ble_eq_true rfl) rfl ?_
  refine g_iload (pc := 7) dX5_lowestTerm_7 3 rfl ?_
  refine g_if_ne (pc := 9) 16 dX5_lowestTerm_9 (by decide) (fun q => ?_) (fun q => ?_)
  · have h := h.1 q
    refine g_lload_n (pc := 16) dX5_lowestTerm_16 rfl 2 rfl ?_
    refine g_lload (pc := 17) dX5_lowestTerm_17 0 rfl ?_
    refine g_ldiv (pc := 19) dX5_lowestTerm_19 h.1 ?_
    have h := h.2
    exact g_lret (pc := 20) rfl dX5_lowestTerm_20 h
  · have h := h.2 q
    refine g_lload_n (pc := 12) dX5_lowestTerm_12 rfl 1 rfl ?_
    refine g_goto (pc := 13) 17 dX5_lowestTerm_13 (by decide) ?_
    refine g_lload (pc := 17) dX5_lowestTerm_17 0 rfl ?_
    refine g_ldiv (pc := 19) dX5_lowestTerm_19 h.1 ?_
    have h := h.2
    exact g_lret (pc := 20) rfl dX5_lowestTerm_20 h
set_option maxHeartbeats 4000000 in
set_option maxRecDepth 100000 in
theorem ct_X5_commonDivisor {Γ : GT} {Q : Int64 → St → Prop} (σ : St) (x0 : Int64) (x2 : Int64)
    (h : G Γ mX5_commonDivisor (NJ Γ 1 Q) 9 [(4, .long x0), (6, .long x2), (8, .int (0 : Int32))] [] σ) :
    CtJ Γ mX5_commonDivisor 1 [.long x0, .long x2] σ Q := by
  refine ct_of (by decide +kernel) (Nat.le_of_ble_eq_true rfl) ?_
  show G Γ mX5_commonDivisor (NJ Γ 1 Q) 0 [(0, .long x0), (2, .long x2)] [] σ
  refine g_lload_n (pc := 0) dX5_commonDivisor_0 rfl 0 rfl ?_
  refine g_lstore (pc := 1) [(4, _), (0, _), (2, _)] dX5_commonDivisor_1 (Nat.le_of_ble_eq_true rfl) rfl ?_
  refine g_lload_n (pc := 3) dX5_commonDivisor_3 rfl 2 rfl ?_
  refine g_lstore (pc := 4) [(6, _), (4, _), (0, _), (2, _)] dX5_commonDivisor_4 (Nat.le_of_ble_eq_true rfl) rfl ?_
  refine g_iconst (pc := 6) (0 : Int32) dX5_commonDivisor_6 rfl ?_
  refine g_istore (pc := 7) [(8, _), (6, _), (4, _), (0, _), (2, _)] dX5_commonDivisor_7 (Nat.le_of_ble_eq_true rfl) rfl ?_
  refine g_pm [2, 1, 0] rfl ?_
  exact h
set_option maxHeartbeats 4000000 in
set_option maxRecDepth 100000 in
theorem t_X5_commonDivisor_9 {Γ : GT} {Q : Int64 → St → Prop} (σ : St) (x4 : Int64) (x6 : Int64) (x8 : Int32)
    (h : (((100 : Int32) ≤ x8) → (Q (if (1 : Int64) < x4 then x4 else (1 : Int64)) σ)) ∧ ((¬ (100 : Int32) ≤ x8) → (((x6 = (0 : Int64)) → (Q (if (1 : Int64) < x4 then x4 else (1 : Int64)) σ)) ∧ ((¬ x6 = (0 : Int64)) → ((¬ x6 = 0) ∧ (G Γ mX5_commonDivisor (NJ Γ 1 Q) 9 [(4, .long x6), (6, .long (x4 - x4 / x6 * x6)), (8, .int (x8 + (1 : Int32)))] [] σ)))))) :
    G Γ mX5_commonDivisor (NJ Γ 1 Q) 9 [(4, .long x4), (6, .long x6), (8, .int x8)] [] σ := by
  refine g_iload (pc := 9) dX5_commonDivisor_9 2 rfl ?_
  refine g_bipush (pc := 11) (100 : Int32) dX5_commonDivisor_11 rfl ?_
  refine g_icmp_ge (pc := 13) 44 dX5_commonDivisor_13 (by decide) (fun q => ?_) (fun q => ?_)
  · have h := h.1 q
    refine g_lload (pc := 44) dX5_commonDivisor_44 0 rfl ?_
    refine g_lconst (pc := 46) (1 : Int64) dX5_commonDivisor_46 rfl ?_
    refine g_mmaxl (pc := 47) (n := 1) ml_X5_301 kw_mmaxl (rmOk_M _ _ _) (by decide) (Nat.le_of_ble_eq_true rfl) dX5_commonDivisor_47 ?_
    exact g_lret (pc := 50) rfl dX5_commonDivisor_50 h
  · have h := h.2 q
    refine g_lload (pc := 16) dX5_commonDivisor_16 1 rfl ?_
    refine g_lconst (pc := 18) (0 : Int64) dX5_commonDivisor_18 rfl ?_
    refine g_lcmp_eq (pc := 19) 44 dX5_commonDivisor_19 dX5_commonDivisor_20 (by decide) (fun q => ?_) (fun q => ?_)
    · have h := h.1 q
      refine g_lload (pc := 44) dX5_commonDivisor_44 0 rfl ?_
      refine g_lconst (pc := 46) (1 : Int64) dX5_commonDivisor_46 rfl ?_
      refine g_mmaxl (pc := 47) (n := 1) ml_X5_301 kw_mmaxl (rmOk_M _ _ _) (by decide) (Nat.le_of_ble_eq_true rfl) dX5_commonDivisor_47 ?_
      exact g_lret (pc := 50) rfl dX5_commonDivisor_50 h
    · have h := h.2 q
      refine g_lload (pc := 23) dX5_commonDivisor_23 0 rfl ?_
      refine g_lload (pc := 25) dX5_commonDivisor_25 1 rfl ?_
      refine g_lrem (pc := 27) dX5_commonDivisor_27 h.1 ?_
      have h := h.2
      refine g_lstore (pc := 28) [(9, _), (4, _), (6, _), (8, _)] dX5_commonDivisor_28 (Nat.le_of_ble_eq_true rfl) rfl ?_
      refine g_lload (pc := 30) dX5_commonDivisor_30 2 rfl ?_
      refine g_lstore (pc := 32) [(4, _), (9, _), (6, _), (8, _)] dX5_commonDivisor_32 (Nat.le_of_ble_eq_true rfl) rfl ?_
      refine g_lload (pc := 34) dX5_commonDivisor_34 1 rfl ?_
      refine g_lstore (pc := 36) [(6, _), (4, _), (9, _), (8, _)] dX5_commonDivisor_36 (Nat.le_of_ble_eq_true rfl) rfl ?_
      refine g_iinc (pc := 38) (1 : Int32) [(8, _), (6, _), (4, _), (9, _)] dX5_commonDivisor_38 3 rfl rfl (Nat.le_of_ble_eq_true rfl) rfl ?_
      refine g_goto (pc := 41) 9 dX5_commonDivisor_41 (by decide) ?_
      refine g_pm [2, 1, 0] rfl ?_
      exact h
