/-! the constructors with a loop -/
def gnF (i j : Nat) : Nat → Int32 := fun k => if k < 5 * i + j then (if k % 6 = 0 then 10 else 1) else 0
def cF (i : Nat) (v : Int32) : Nat → Int32 := fun k => if k < i then v else 0
theorem gn_up {i j : Nat} (hi : i < 5) (hj : j < 5) {v : Int32} (hv : v = if i = j then 10 else 1) : upd (gnF i j) (5 * i + j) v = gnF i (j + 1) := by
  funext k
  unfold gnF
  by_cases c : k = 5 * i + j
  · subst c
    rw [up_eq, if_pos (show 5 * i + j < 5 * i + (j + 1) by omega), hv]
    by_cases d : i = j
    · rw [if_pos d, if_pos (show (5 * i + j) % 6 = 0 by omega)]
    · rw [if_neg d, if_neg (show ¬ (5 * i + j) % 6 = 0 by omega)]
  · rw [up_ne c]
    by_cases d : k < 5 * i + j
    · rw [if_pos d, if_pos (show k < 5 * i + (j + 1) by omega)]
    · rw [if_neg d, if_neg (show ¬ k < 5 * i + (j + 1) by omega)]
theorem gn_row (i : Nat) : gnF i 5 = gnF (i + 1) 0 := by unfold gnF; rw [show 5 * i + 5 = 5 * (i + 1) + 0 by omega]
theorem c_up (i : Nat) (v : Int32) : upd (cF i v) i v = cF (i + 1) v := by
  funext k
  unfold cF
  by_cases c : k = i
  · subst c; rw [up_eq, if_pos (by omega)]
  · rw [up_ne c]
    by_cases d : k < i
    · rw [if_pos d, if_pos (by omega)]
    · rw [if_neg d, if_neg (by omega)]
theorem gn_0 : gnF 0 0 = fun _ => 0 := by funext k; unfold gnF; rw [if_neg (by omega)]
theorem c_0 (v : Int32) : cF 0 v = fun _ => 0 := by funext k; unfold cF; rw [if_neg (by omega)]
def wX1 (Γ : GT) (h q1 q2 q3 q4 q5 gi gj ii : Nat) : va_W := [(h, .inr (1, [.int (3 : Int32), .int (31 : Int32), .ref q1, .ref q2, .ref q3, .ref q4, .ref q5])), (q1, ciN Γ 25 (gnF gi gj)), (q2, ciN Γ 5 (cF ii 5)), (q3, ciN Γ 5 (cF ii 1)), (q4, ciN Γ 5 (cF ii 100)), (q5, ciN Γ 5 (fun _ => 0))]
def QX1 (Γ : GT) (h : Nat) : va_W → Prop := fun w1 => ∃ q1 q2 q3 q4 q5 : Nat, w1 = wX1 Γ h q1 q2 q3 q4 q5 5 0 5
set_option maxHeartbeats 4000000 in
set_option maxRecDepth 100000 in
theorem iX1_in {Γ : GT} (h q1 q2 q3 q4 q5 i : Nat) (hi : i < 5) (hnx : GD Γ mX1_init (ND Γ 1 5 45 (QX1 Γ h)) 5 45 53 [(1, .int (nI (i + 1))), (0, .ref h)] [] (wX1 Γ h q1 q2 q3 q4 q5 (i + 1) 0 (i + 1))) : ∀ j, j ≤ 5 → GD Γ mX1_init (ND Γ 1 5 45 (QX1 Γ h)) 5 45 60 [(2, .int (nI j)), (1, .int (nI i)), (0, .ref h)] [] (wX1 Γ h q1 q2 q3 q4 q5 i j i) := by
  refine lp_up 5 ?_ (fun j hj ih => ?_)
  · refine gd_iload_n (pc := 60) dX1_init_60 rfl 0 rfl ?_
    refine gd_iconst (pc := 61) (5 : Int32) dX1_init_61 rfl ?_
    refine gd_icmp_ge (pc := 62) 92 dX1_init_62 (by decide) (fun _ => ?_) (fun q => absurd (by decide) q)
    refine gd_aload_n (pc := 92) dX1_init_92 rfl 2 rfl ?_
    refine gd_get (pc := 93) (q0 := 0) (ci := 1) (k := 3) (fs := [.int (3 : Int32), .int (31 : Int32), .ref q1, .ref q2, .ref q3, .ref q4, .ref q5]) rfl rfl fl_X1_20 dX1_init_93 ?_
    refine gd_iload_n (pc := 96) dX1_init_96 rfl 1 rfl ?_
    refine gd_iconst (pc := 97) (5 : Int32) dX1_init_97 rfl ?_
    refine gd_iast (pc := 98) (q0 := 2) (n := 5) (f := cF i 5) rfl (vin hi (by omega)) dX1_init_98 ?_
    rw [cl (by omega : i < 1000), c_up]
    refine gd_aload_n (pc := 99) dX1_init_99 rfl 2 rfl ?_
    refine gd_get (pc := 100) (q0 := 0) (ci := 1) (k := 4) (fs := [.int (3 : Int32), .int (31 : Int32), .ref q1, .ref q2, .ref q3, .ref q4, .ref q5]) rfl rfl fl_X1_23 dX1_init_100 ?_
    refine gd_iload_n (pc := 103) dX1_init_103 rfl 1 rfl ?_
    refine gd_iconst (pc := 104) (1 : Int32) dX1_init_104 rfl ?_
    refine gd_iast (pc := 105) (q0 := 3) (n := 5) (f := cF i 1) rfl (vin hi (by omega)) dX1_init_105 ?_
    rw [cl (by omega : i < 1000), c_up]
    refine gd_aload_n (pc := 106) dX1_init_106 rfl 2 rfl ?_
    refine gd_get (pc := 107) (q0 := 0) (ci := 1) (k := 5) (fs := [.int (3 : Int32), .int (31 : Int32), .ref q1, .ref q2, .ref q3, .ref q4, .ref q5]) rfl rfl fl_X1_26 dX1_init_107 ?_
    refine gd_iload_n (pc := 110) dX1_init_110 rfl 1 rfl ?_
    refine gd_bipush (pc := 111) (100 : Int32) dX1_init_111 rfl ?_
    refine gd_iast (pc := 113) (q0 := 4) (n := 5) (f := cF i 100) rfl (vin hi (by omega)) dX1_init_113 ?_
    rw [cl (by omega : i < 1000), c_up]
    refine gd_iinc (pc := 114) (1 : Int32) [(1, _), (2, _), (0, _)] dX1_init_114 1 rfl rfl (Nat.le_of_ble_eq_true rfl) rfl ?_
    rw [nI_1]
    refine gd_goto (pc := 117) 53 dX1_init_117 (by decide) ?_
    refine gd_pm [0, 2] rfl ?_
    have hr : wX1 Γ h q1 q2 q3 q4 q5 i 5 (i + 1) = wX1 Γ h q1 q2 q3 q4 q5 (i + 1) 0 (i + 1) := by unfold wX1; rw [gn_row]
    rw [← hr] at hnx
    exact hnx
  · refine gd_iload_n (pc := 60) dX1_init_60 rfl 0 rfl ?_
    refine gd_iconst (pc := 61) (5 : Int32) dX1_init_61 rfl ?_
    refine gd_icmp_ge (pc := 62) 92 dX1_init_62 (by decide) (fun q => absurd q (nI_ge (a := j) (b := 5) hj (by omega))) (fun _ => ?_)
    refine gd_aload_n (pc := 65) dX1_init_65 rfl 2 rfl ?_
    refine gd_get (pc := 66) (q0 := 0) (ci := 1) (k := 2) (fs := [.int (3 : Int32), .int (31 : Int32), .ref q1, .ref q2, .ref q3, .ref q4, .ref q5]) rfl rfl fl_X1_16 dX1_init_66 ?_
    refine gd_iload_n (pc := 69) dX1_init_69 rfl 1 rfl ?_
    refine gd_iconst (pc := 70) (5 : Int32) dX1_init_70 rfl ?_
    refine gd_imul (pc := 71) dX1_init_71 ?_
    refine gd_iload_n (pc := 72) dX1_init_72 rfl 0 rfl ?_
    refine gd_iadd (pc := 73) dX1_init_73 ?_
    rw [ix5]
    refine gd_iload_n (pc := 74) dX1_init_74 rfl 1 rfl ?_
    refine gd_iload_n (pc := 75) dX1_init_75 rfl 0 rfl ?_
    refine gd_icmp_ne (pc := 76) 84 dX1_init_76 (by decide) (fun q => ?_) (fun q => ?_)
    · refine gd_iconst (pc := 84) (1 : Int32) dX1_init_84 rfl ?_
      refine gd_iast (pc := 85) (q0 := 1) (n := 25) (f := gnF i j) rfl (vin (by omega) (by omega)) dX1_init_85 ?_
      rw [cl (by omega : 5 * i + j < 1000), gn_up hi hj (by rw [if_neg (fun z => q (by rw [z]))])]
      refine gd_iinc (pc := 86) (1 : Int32) [(2, _), (1, _), (0, _)] dX1_init_86 0 rfl rfl (Nat.le_of_ble_eq_true rfl) rfl ?_
      rw [nI_1]
      refine gd_goto (pc := 89) 60 dX1_init_89 (by decide) ?_
      exact ih
    · refine gd_bipush (pc := 79) (10 : Int32) dX1_init_79 rfl ?_
      refine gd_goto (pc := 81) 85 dX1_init_81 (by decide) ?_
      refine gd_iast (pc := 85) (q0 := 1) (n := 25) (f := gnF i j) rfl (vin (by omega) (by omega)) dX1_init_85 ?_
      rw [cl (by omega : 5 * i + j < 1000), gn_up hi hj (by rw [if_pos ((nI_eq (by omega) (by omega)).mp q)])]
      refine gd_iinc (pc := 86) (1 : Int32) [(2, _), (1, _), (0, _)] dX1_init_86 0 rfl rfl (Nat.le_of_ble_eq_true rfl) rfl ?_
      rw [nI_1]
      refine gd_goto (pc := 89) 60 dX1_init_89 (by decide) ?_
      exact ih
set_option maxHeartbeats 4000000 in
set_option maxRecDepth 100000 in
theorem iX1_out {Γ : GT} (h q1 q2 q3 q4 q5 : Nat) : ∀ i, i ≤ 5 → GD Γ mX1_init (ND Γ 1 5 45 (QX1 Γ h)) 5 45 53 [(1, .int (nI i)), (0, .ref h)] [] (wX1 Γ h q1 q2 q3 q4 q5 i 0 i) := by
  refine lp_up 5 ?_ (fun i hi ih => ?_)
  · refine gd_iload_n (pc := 53) dX1_init_53 rfl 0 rfl ?_
    refine gd_iconst (pc := 54) (5 : Int32) dX1_init_54 rfl ?_
    refine gd_icmp_ge (pc := 55) 120 dX1_init_55 (by decide) (fun _ => ?_) (fun q => absurd (by decide) q)
    exact gd_vret (pc := 120) rfl dX1_init_120 (Nat.le_refl _) (Nat.le_refl _) ⟨q1, q2, q3, q4, q5, rfl⟩
  · refine gd_iload_n (pc := 53) dX1_init_53 rfl 0 rfl ?_
    refine gd_iconst (pc := 54) (5 : Int32) dX1_init_54 rfl ?_
    refine gd_icmp_ge (pc := 55) 120 dX1_init_55 (by decide) (fun q => absurd q (nI_ge (a := i) (b := 5) hi (by omega))) (fun _ => ?_)
    refine gd_iconst (pc := 58) (0 : Int32) dX1_init_58 rfl ?_
    refine gd_istore_n (pc := 59) [(2, _), (1, _), (0, _)] dX1_init_59 rfl (Nat.le_of_ble_eq_true rfl) rfl ?_
    exact iX1_in h q1 q2 q3 q4 q5 i hi ih 0 (Nat.zero_le _)
set_option maxHeartbeats 4000000 in
set_option maxRecDepth 100000 in
theorem iX1_init {Γ : GT} (h : Nat) : CtD Γ mX1_init 1 5 45 [.ref h] [(h, .inr (1, [.int 0, .int 0, .null, .null, .null, .null, .null]))] (QX1 Γ h) := by
  refine ctD_of (by decide +kernel) (Nat.le_of_ble_eq_true rfl) ?_
  show GD Γ mX1_init (ND Γ 1 5 45 (QX1 Γ h)) 0 0 0 [(0, .ref h)] [] [(h, .inr (1, [.int 0, .int 0, .null, .null, .null, .null, .null]))]
  refine gd_aload_n (pc := 0) dX1_init_0 rfl 0 rfl ?_
  refine gd_objI (pc := 1) oi_X1 ⟨Nat.le_of_ble_eq_true rfl, Nat.le_of_ble_eq_true rfl⟩ (Nat.le_of_ble_eq_true rfl) dX1_init_1 ?_
  refine gd_aload_n (pc := 4) dX1_init_4 rfl 0 rfl ?_
  refine gd_iconst (pc := 5) (3 : Int32) dX1_init_5 rfl ?_
  refine gd_put (pc := 6) (q0 := 0) (ci := 1) (k := 0) (fs := [.int 0, .int 0, .null, .null, .null, .null, .null]) rfl (Nat.le_of_ble_eq_true rfl) fw_X1_7 rfl rfl dX1_init_6 ?_
  show GD Γ mX1_init (ND Γ 1 5 45 (QX1 Γ h)) 0 0 9 [(0, .ref h)] [] [(h, .inr (1, [.int (3 : Int32), .int 0, .null, .null, .null, .null, .null]))]
  refine gd_aload_n (pc := 9) dX1_init_9 rfl 0 rfl ?_
  refine gd_bipush (pc := 10) (31 : Int32) dX1_init_10 rfl ?_
  refine gd_put (pc := 12) (q0 := 0) (ci := 1) (k := 1) (fs := [.int (3 : Int32), .int 0, .null, .null, .null, .null, .null]) rfl (Nat.le_of_ble_eq_true rfl) fw_X1_13 rfl rfl dX1_init_12 ?_
  show GD Γ mX1_init (ND Γ 1 5 45 (QX1 Γ h)) 0 0 15 [(0, .ref h)] [] [(h, .inr (1, [.int (3 : Int32), .int (31 : Int32), .null, .null, .null, .null, .null]))]
  refine gd_aload_n (pc := 15) dX1_init_15 rfl 0 rfl ?_
  refine gd_bipush (pc := 16) (25 : Int32) dX1_init_16 rfl ?_
  refine gd_newI (pc := 18) (n' := 25) kac_I (by decide) (by decide) (by decide) (Nat.le_of_ble_eq_true rfl) (Nat.le_of_ble_eq_true rfl) dX1_init_18 (fun q1 => ?_)
  show GD Γ mX1_init (ND Γ 1 5 45 (QX1 Γ h)) 1 25 20 [(0, .ref h)] [.ref q1, .ref h] [(h, .inr (1, [.int (3 : Int32), .int (31 : Int32), .null, .null, .null, .null, .null])), (q1, ciN Γ 25 (fun _ => 0))]
  refine gd_putF (pc := 20) (q0 := 0) (ci := 1) (k := 2) (fs := [.int (3 : Int32), .int (31 : Int32), .null, .null, .null, .null, .null]) rfl rfl (Nat.le_of_ble_eq_true rfl) fw_X1_16 rfl rfl dX1_init_20 ?_
  show GD Γ mX1_init (ND Γ 1 5 45 (QX1 Γ h)) 1 25 23 [(0, .ref h)] [] [(h, .inr (1, [.int (3 : Int32), .int (31 : Int32), .ref q1, .null, .null, .null, .null])), (q1, ciN Γ 25 (fun _ => 0))]
  refine gd_aload_n (pc := 23) dX1_init_23 rfl 0 rfl ?_
  refine gd_iconst (pc := 24) (5 : Int32) dX1_init_24 rfl ?_
  refine gd_newI (pc := 25) (n' := 5) kac_I (by decide) (by decide) (by decide) (Nat.le_of_ble_eq_true rfl) (Nat.le_of_ble_eq_true rfl) dX1_init_25 (fun q2 => ?_)
  show GD Γ mX1_init (ND Γ 1 5 45 (QX1 Γ h)) 2 30 27 [(0, .ref h)] [.ref q2, .ref h] [(h, .inr (1, [.int (3 : Int32), .int (31 : Int32), .ref q1, .null, .null, .null, .null])), (q1, ciN Γ 25 (fun _ => 0)), (q2, ciN Γ 5 (fun _ => 0))]
  refine gd_putF (pc := 27) (q0 := 0) (ci := 1) (k := 3) (fs := [.int (3 : Int32), .int (31 : Int32), .ref q1, .null, .null, .null, .null]) rfl rfl (Nat.le_of_ble_eq_true rfl) fw_X1_20 rfl rfl dX1_init_27 ?_
  show GD Γ mX1_init (ND Γ 1 5 45 (QX1 Γ h)) 2 30 30 [(0, .ref h)] [] [(h, .inr (1, [.int (3 : Int32), .int (31 : Int32), .ref q1, .ref q2, .null, .null, .null])), (q1, ciN Γ 25 (fun _ => 0)), (q2, ciN Γ 5 (fun _ => 0))]
  refine gd_aload_n (pc := 30) dX1_init_30 rfl 0 rfl ?_
  refine gd_iconst (pc := 31) (5 : Int32) dX1_init_31 rfl ?_
  refine gd_newI (pc := 32) (n' := 5) kac_I (by decide) (by decide) (by decide) (Nat.le_of_ble_eq_true rfl) (Nat.le_of_ble_eq_true rfl) dX1_init_32 (fun q3 => ?_)
  show GD Γ mX1_init (ND Γ 1 5 45 (QX1 Γ h)) 3 35 34 [(0, .ref h)] [.ref q3, .ref h] [(h, .inr (1, [.int (3 : Int32), .int (31 : Int32), .ref q1, .ref q2, .null, .null, .null])), (q1, ciN Γ 25 (fun _ => 0)), (q2, ciN Γ 5 (fun _ => 0)), (q3, ciN Γ 5 (fun _ => 0))]
  refine gd_putF (pc := 34) (q0 := 0) (ci := 1) (k := 4) (fs := [.int (3 : Int32), .int (31 : Int32), .ref q1, .ref q2, .null, .null, .null]) rfl rfl (Nat.le_of_ble_eq_true rfl) fw_X1_23 rfl rfl dX1_init_34 ?_
  show GD Γ mX1_init (ND Γ 1 5 45 (QX1 Γ h)) 3 35 37 [(0, .ref h)] [] [(h, .inr (1, [.int (3 : Int32), .int (31 : Int32), .ref q1, .ref q2, .ref q3, .null, .null])), (q1, ciN Γ 25 (fun _ => 0)), (q2, ciN Γ 5 (fun _ => 0)), (q3, ciN Γ 5 (fun _ => 0))]
  refine gd_aload_n (pc := 37) dX1_init_37 rfl 0 rfl ?_
  refine gd_iconst (pc := 38) (5 : Int32) dX1_init_38 rfl ?_
  refine gd_newI (pc := 39) (n' := 5) kac_I (by decide) (by decide) (by decide) (Nat.le_of_ble_eq_true rfl) (Nat.le_of_ble_eq_true rfl) dX1_init_39 (fun q4 => ?_)
  show GD Γ mX1_init (ND Γ 1 5 45 (QX1 Γ h)) 4 40 41 [(0, .ref h)] [.ref q4, .ref h] [(h, .inr (1, [.int (3 : Int32), .int (31 : Int32), .ref q1, .ref q2, .ref q3, .null, .null])), (q1, ciN Γ 25 (fun _ => 0)), (q2, ciN Γ 5 (fun _ => 0)), (q3, ciN Γ 5 (fun _ => 0)), (q4, ciN Γ 5 (fun _ => 0))]
  refine gd_putF (pc := 41) (q0 := 0) (ci := 1) (k := 5) (fs := [.int (3 : Int32), .int (31 : Int32), .ref q1, .ref q2, .ref q3, .null, .null]) rfl rfl (Nat.le_of_ble_eq_true rfl) fw_X1_26 rfl rfl dX1_init_41 ?_
  show GD Γ mX1_init (ND Γ 1 5 45 (QX1 Γ h)) 4 40 44 [(0, .ref h)] [] [(h, .inr (1, [.int (3 : Int32), .int (31 : Int32), .ref q1, .ref q2, .ref q3, .ref q4, .null])), (q1, ciN Γ 25 (fun _ => 0)), (q2, ciN Γ 5 (fun _ => 0)), (q3, ciN Γ 5 (fun _ => 0)), (q4, ciN Γ 5 (fun _ => 0))]
  refine gd_aload_n (pc := 44) dX1_init_44 rfl 0 rfl ?_
  refine gd_iconst (pc := 45) (5 : Int32) dX1_init_45 rfl ?_
  refine gd_newI (pc := 46) (n' := 5) kac_I (by decide) (by decide) (by decide) (Nat.le_of_ble_eq_true rfl) (Nat.le_of_ble_eq_true rfl) dX1_init_46 (fun q5 => ?_)
  show GD Γ mX1_init (ND Γ 1 5 45 (QX1 Γ h)) 5 45 48 [(0, .ref h)] [.ref q5, .ref h] [(h, .inr (1, [.int (3 : Int32), .int (31 : Int32), .ref q1, .ref q2, .ref q3, .ref q4, .null])), (q1, ciN Γ 25 (fun _ => 0)), (q2, ciN Γ 5 (fun _ => 0)), (q3, ciN Γ 5 (fun _ => 0)), (q4, ciN Γ 5 (fun _ => 0)), (q5, ciN Γ 5 (fun _ => 0))]
  refine gd_putF (pc := 48) (q0 := 0) (ci := 1) (k := 6) (fs := [.int (3 : Int32), .int (31 : Int32), .ref q1, .ref q2, .ref q3, .ref q4, .null]) rfl rfl (Nat.le_of_ble_eq_true rfl) fw_X1_29 rfl rfl dX1_init_48 ?_
  show GD Γ mX1_init (ND Γ 1 5 45 (QX1 Γ h)) 5 45 51 [(0, .ref h)] [] [(h, .inr (1, [.int (3 : Int32), .int (31 : Int32), .ref q1, .ref q2, .ref q3, .ref q4, .ref q5])), (q1, ciN Γ 25 (fun _ => 0)), (q2, ciN Γ 5 (fun _ => 0)), (q3, ciN Γ 5 (fun _ => 0)), (q4, ciN Γ 5 (fun _ => 0)), (q5, ciN Γ 5 (fun _ => 0))]
  refine gd_iconst (pc := 51) (0 : Int32) dX1_init_51 rfl ?_
  refine gd_istore_n (pc := 52) [(1, _), (0, _)] dX1_init_52 rfl (Nat.le_of_ble_eq_true rfl) rfl ?_
  have hf := iX1_out (Γ := Γ) h q1 q2 q3 q4 q5 0 (Nat.zero_le _)
  unfold wX1 at hf
  simp only [gn_0, c_0] at hf
  exact hf
def wX6 (Γ : GT) (h q1 q2 q3 q4 q5 q6 q7 q8 q9 q10 q11 q12 q13 q14 q15 q16 q17 q18 gi gj ii : Nat) : va_W := [(h, .inr (6, [.int (3 : Int32), .int 0, .ref q1, .ref q2, .ref q3, .ref q4, .ref q5, .ref q6, .ref q7, .int 0, .ref q8, .ref q9, .ref q10, .int (1 : Int32), .int 0, .ref q11, .ref q12, .ref q13, .ref q14, .ref q15, .ref q16, .ref q17, .ref q18, .int 0])), (q1, ciN Γ 25 (gnF gi gj)), (q2, ciN Γ 5 (cF ii 5)), (q3, ciN Γ 5 (cF ii 1)), (q4, ciN Γ 5 (cF ii 100)), (q5, czN Γ 5 (cF ii 1)), (q6, ciN Γ 5 (fun _ => 0)), (q7, ciN Γ 12 (fun _ => 0)), (q8, cjN Γ 25 (fun _ => 0)), (q9, cjN Γ 32 (fun _ => 0)), (q10, ciN Γ 5 (fun _ => 0)), (q11, ciN Γ 5 (fun _ => 0)), (q12, ciN Γ 5 (fun _ => 0)), (q13, ciN Γ 5 (fun _ => 0)), (q14, czN Γ 4 (fun _ => 0)), (q15, ciN Γ 4 (fun _ => 0)), (q16, ciN Γ 4 (fun _ => 0)), (q17, ciN Γ 240 (fun _ => 0)), (q18, ciN Γ 60 (fun _ => 0))]
def QX6 (Γ : GT) (h : Nat) : va_W → Prop := fun w1 => ∃ q1 q2 q3 q4 q5 q6 q7 q8 q9 q10 q11 q12 q13 q14 q15 q16 q17 q18 : Nat, w1 = wX6 Γ h q1 q2 q3 q4 q5 q6 q7 q8 q9 q10 q11 q12 q13 q14 q15 q16 q17 q18 5 0 5
set_option maxHeartbeats 4000000 in
set_option maxRecDepth 100000 in
theorem iX6_in {Γ : GT} (h q1 q2 q3 q4 q5 q6 q7 q8 q9 q10 q11 q12 q13 q14 q15 q16 q17 q18 i : Nat) (hi : i < 5) (hnx : GD Γ mX6_init (ND Γ 1 18 451 (QX6 Γ h)) 18 451 149 [(1, .int (nI (i + 1))), (0, .ref h)] [] (wX6 Γ h q1 q2 q3 q4 q5 q6 q7 q8 q9 q10 q11 q12 q13 q14 q15 q16 q17 q18 (i + 1) 0 (i + 1))) : ∀ j, j ≤ 5 → GD Γ mX6_init (ND Γ 1 18 451 (QX6 Γ h)) 18 451 185 [(2, .int (nI j)), (1, .int (nI i)), (0, .ref h)] [] (wX6 Γ h q1 q2 q3 q4 q5 q6 q7 q8 q9 q10 q11 q12 q13 q14 q15 q16 q17 q18 i j (i + 1)) := by
  refine lp_up 5 ?_ (fun j hj ih => ?_)
  · refine gd_iload_n (pc := 185) dX6_init_185 rfl 0 rfl ?_
    refine gd_iconst (pc := 186) (5 : Int32) dX6_init_186 rfl ?_
    refine gd_icmp_ge (pc := 187) 217 dX6_init_187 (by decide) (fun _ => ?_) (fun q => absurd (by decide) q)
    refine gd_iinc (pc := 217) (1 : Int32) [(1, _), (2, _), (0, _)] dX6_init_217 1 rfl rfl (Nat.le_of_ble_eq_true rfl) rfl ?_
    rw [nI_1]
    refine gd_goto (pc := 220) 149 dX6_init_220 (by decide) ?_
    refine gd_pm [0, 2] rfl ?_
    have hr : wX6 Γ h q1 q2 q3 q4 q5 q6 q7 q8 q9 q10 q11 q12 q13 q14 q15 q16 q17 q18 i 5 (i + 1) = wX6 Γ h q1 q2 q3 q4 q5 q6 q7 q8 q9 q10 q11 q12 q13 q14 q15 q16 q17 q18 (i + 1) 0 (i + 1) := by unfold wX6; rw [gn_row]
    rw [← hr] at hnx
    exact hnx
  · refine gd_iload_n (pc := 185) dX6_init_185 rfl 0 rfl ?_
    refine gd_iconst (pc := 186) (5 : Int32) dX6_init_186 rfl ?_
    refine gd_icmp_ge (pc := 187) 217 dX6_init_187 (by decide) (fun q => absurd q (nI_ge (a := j) (b := 5) hj (by omega))) (fun _ => ?_)
    refine gd_aload_n (pc := 190) dX6_init_190 rfl 2 rfl ?_
    refine gd_get (pc := 191) (q0 := 0) (ci := 6) (k := 2) (fs := [.int (3 : Int32), .int 0, .ref q1, .ref q2, .ref q3, .ref q4, .ref q5, .ref q6, .ref q7, .int 0, .ref q8, .ref q9, .ref q10, .int (1 : Int32), .int 0, .ref q11, .ref q12, .ref q13, .ref q14, .ref q15, .ref q16, .ref q17, .ref q18, .int 0]) rfl rfl fl_X6_13 dX6_init_191 ?_
    refine gd_iconst (pc := 194) (5 : Int32) dX6_init_194 rfl ?_
    refine gd_iload_n (pc := 195) dX6_init_195 rfl 1 rfl ?_
    refine gd_imul (pc := 196) dX6_init_196 ?_
    refine gd_iload_n (pc := 197) dX6_init_197 rfl 0 rfl ?_
    refine gd_iadd (pc := 198) dX6_init_198 ?_
    rw [ix5']
    refine gd_iload_n (pc := 199) dX6_init_199 rfl 1 rfl ?_
    refine gd_iload_n (pc := 200) dX6_init_200 rfl 0 rfl ?_
    refine gd_icmp_ne (pc := 201) 209 dX6_init_201 (by decide) (fun q => ?_) (fun q => ?_)
    · refine gd_iconst (pc := 209) (1 : Int32) dX6_init_209 rfl ?_
      refine gd_iast (pc := 210) (q0 := 1) (n := 25) (f := gnF i j) rfl (vin (by omega) (by omega)) dX6_init_210 ?_
      rw [cl (by omega : 5 * i + j < 1000), gn_up hi hj (by rw [if_neg (fun z => q (by rw [z]))])]
      refine gd_iinc (pc := 211) (1 : Int32) [(2, _), (1, _), (0, _)] dX6_init_211 0 rfl rfl (Nat.le_of_ble_eq_true rfl) rfl ?_
      rw [nI_1]
      refine gd_goto (pc := 214) 185 dX6_init_214 (by decide) ?_
      exact ih
    · refine gd_bipush (pc := 204) (10 : Int32) dX6_init_204 rfl ?_
      refine gd_goto (pc := 206) 210 dX6_init_206 (by decide) ?_
      refine gd_iast (pc := 210) (q0 := 1) (n := 25) (f := gnF i j) rfl (vin (by omega) (by omega)) dX6_init_210 ?_
      rw [cl (by omega : 5 * i + j < 1000), gn_up hi hj (by rw [if_pos ((nI_eq (by omega) (by omega)).mp q)])]
      refine gd_iinc (pc := 211) (1 : Int32) [(2, _), (1, _), (0, _)] dX6_init_211 0 rfl rfl (Nat.le_of_ble_eq_true rfl) rfl ?_
      rw [nI_1]
      refine gd_goto (pc := 214) 185 dX6_init_214 (by decide) ?_
      exact ih
set_option maxHeartbeats 4000000 in
set_option maxRecDepth 100000 in
theorem iX6_out {Γ : GT} (h q1 q2 q3 q4 q5 q6 q7 q8 q9 q10 q11 q12 q13 q14 q15 q16 q17 q18 : Nat) : ∀ i, i ≤ 5 → GD Γ mX6_init (ND Γ 1 18 451 (QX6 Γ h)) 18 451 149 [(1, .int (nI i)), (0, .ref h)] [] (wX6 Γ h q1 q2 q3 q4 q5 q6 q7 q8 q9 q10 q11 q12 q13 q14 q15 q16 q17 q18 i 0 i) := by
  refine lp_up 5 ?_ (fun i hi ih => ?_)
  · refine gd_iload_n (pc := 149) dX6_init_149 rfl 0 rfl ?_
    refine gd_iconst (pc := 150) (5 : Int32) dX6_init_150 rfl ?_
    refine gd_icmp_ge (pc := 151) 223 dX6_init_151 (by decide) (fun _ => ?_) (fun q => absurd (by decide) q)
    exact gd_vret (pc := 223) rfl dX6_init_223 (Nat.le_refl _) (Nat.le_refl _) ⟨q1, q2, q3, q4, q5, q6, q7, q8, q9, q10, q11, q12, q13, q14, q15, q16, q17, q18, rfl⟩
  · refine gd_iload_n (pc := 149) dX6_init_149 rfl 0 rfl ?_
    refine gd_iconst (pc := 150) (5 : Int32) dX6_init_150 rfl ?_
    refine gd_icmp_ge (pc := 151) 223 dX6_init_151 (by decide) (fun q => absurd q (nI_ge (a := i) (b := 5) hi (by omega))) (fun _ => ?_)
    refine gd_aload_n (pc := 154) dX6_init_154 rfl 1 rfl ?_
    refine gd_get (pc := 155) (q0 := 0) (ci := 6) (k := 3) (fs := [.int (3 : Int32), .int 0, .ref q1, .ref q2, .ref q3, .ref q4, .ref q5, .ref q6, .ref q7, .int 0, .ref q8, .ref q9, .ref q10, .int (1 : Int32), .int 0, .ref q11, .ref q12, .ref q13, .ref q14, .ref q15, .ref q16, .ref q17, .ref q18, .int 0]) rfl rfl fl_X6_17 dX6_init_155 ?_
    refine gd_iload_n (pc := 158) dX6_init_158 rfl 0 rfl ?_
    refine gd_iconst (pc := 159) (5 : Int32) dX6_init_159 rfl ?_
    refine gd_iast (pc := 160) (q0 := 2) (n := 5) (f := cF i 5) rfl (vin hi (by omega)) dX6_init_160 ?_
    rw [cl (by omega : i < 1000), c_up]
    refine gd_aload_n (pc := 161) dX6_init_161 rfl 1 rfl ?_
    refine gd_get (pc := 162) (q0 := 0) (ci := 6) (k := 4) (fs := [.int (3 : Int32), .int 0, .ref q1, .ref q2, .ref q3, .ref q4, .ref q5, .ref q6, .ref q7, .int 0, .ref q8, .ref q9, .ref q10, .int (1 : Int32), .int 0, .ref q11, .ref q12, .ref q13, .ref q14, .ref q15, .ref q16, .ref q17, .ref q18, .int 0]) rfl rfl fl_X6_20 dX6_init_162 ?_
    refine gd_iload_n (pc := 165) dX6_init_165 rfl 0 rfl ?_
    refine gd_iconst (pc := 166) (1 : Int32) dX6_init_166 rfl ?_
    refine gd_iast (pc := 167) (q0 := 3) (n := 5) (f := cF i 1) rfl (vin hi (by omega)) dX6_init_167 ?_
    rw [cl (by omega : i < 1000), c_up]
    refine gd_aload_n (pc := 168) dX6_init_168 rfl 1 rfl ?_
    refine gd_get (pc := 169) (q0 := 0) (ci := 6) (k := 5) (fs := [.int (3 : Int32), .int 0, .ref q1, .ref q2, .ref q3, .ref q4, .ref q5, .ref q6, .ref q7, .int 0, .ref q8, .ref q9, .ref q10, .int (1 : Int32), .int 0, .ref q11, .ref q12, .ref q13, .ref q14, .ref q15, .ref q16, .ref q17, .ref q18, .int 0]) rfl rfl fl_X6_23 dX6_init_169 ?_
    refine gd_iload_n (pc := 172) dX6_init_172 rfl 0 rfl ?_
    refine gd_bipush (pc := 173) (100 : Int32) dX6_init_173 rfl ?_
    refine gd_iast (pc := 175) (q0 := 4) (n := 5) (f := cF i 100) rfl (vin hi (by omega)) dX6_init_175 ?_
    rw [cl (by omega : i < 1000), c_up]
    refine gd_aload_n (pc := 176) dX6_init_176 rfl 1 rfl ?_
    refine gd_get (pc := 177) (q0 := 0) (ci := 6) (k := 6) (fs := [.int (3 : Int32), .int 0, .ref q1, .ref q2, .ref q3, .ref q4, .ref q5, .ref q6, .ref q7, .int 0, .ref q8, .ref q9, .ref q10, .int (1 : Int32), .int 0, .ref q11, .ref q12, .ref q13, .ref q14, .ref q15, .ref q16, .ref q17, .ref q18, .int 0]) rfl rfl fl_X6_26 dX6_init_177 ?_
    refine gd_iload_n (pc := 180) dX6_init_180 rfl 0 rfl ?_
    refine gd_iconst (pc := 181) (1 : Int32) dX6_init_181 rfl ?_
    refine gd_zast (pc := 182) (q0 := 5) (n := 5) (f := cF i 1) rfl (vin hi (by omega)) dX6_init_182 ?_
    rw [cl (by omega : i < 1000), show vp_nar .boolean (1 : Int32) = 1 from rfl, c_up]
    refine gd_iconst (pc := 183) (0 : Int32) dX6_init_183 rfl ?_
    refine gd_istore_n (pc := 184) [(2, _), (1, _), (0, _)] dX6_init_184 rfl (Nat.le_of_ble_eq_true rfl) rfl ?_
    exact iX6_in h q1 q2 q3 q4 q5 q6 q7 q8 q9 q10 q11 q12 q13 q14 q15 q16 q17 q18 i hi ih 0 (Nat.zero_le _)
set_option maxHeartbeats 4000000 in
set_option maxRecDepth 100000 in
theorem iX6_init {Γ : GT} (h : Nat) : CtD Γ mX6_init 1 18 451 [.ref h] [(h, .inr (6, [.int 0, .int 0, .null, .null, .null, .null, .null, .null, .null, .int 0, .null, .null, .null, .int 0, .int 0, .null, .null, .null, .null, .null, .null, .null, .null, .int 0]))] (QX6 Γ h) := by
  refine ctD_of (by decide +kernel) (Nat.le_of_ble_eq_true rfl) ?_
  show GD Γ mX6_init (ND Γ 1 18 451 (QX6 Γ h)) 0 0 0 [(0, .ref h)] [] [(h, .inr (6, [.int 0, .int 0, .null, .null, .null, .null, .null, .null, .null, .int 0, .null, .null, .null, .int 0, .int 0, .null, .null, .null, .null, .null, .null, .null, .null, .int 0]))]
  refine gd_aload_n (pc := 0) dX6_init_0 rfl 0 rfl ?_
  refine gd_objI (pc := 1) oi_X6 ⟨Nat.le_of_ble_eq_true rfl, Nat.le_of_ble_eq_true rfl⟩ (Nat.le_of_ble_eq_true rfl) dX6_init_1 ?_
  refine gd_aload_n (pc := 4) dX6_init_4 rfl 0 rfl ?_
  refine gd_iconst (pc := 5) (3 : Int32) dX6_init_5 rfl ?_
  refine gd_put (pc := 6) (q0 := 0) (ci := 6) (k := 0) (fs := [.int 0, .int 0, .null, .null, .null, .null, .null, .null, .null, .int 0, .null, .null, .null, .int 0, .int 0, .null, .null, .null, .null, .null, .null, .null, .null, .int 0]) rfl (Nat.le_of_ble_eq_true rfl) fw_X6_7 rfl rfl dX6_init_6 ?_
  show GD Γ mX6_init (ND Γ 1 18 451 (QX6 Γ h)) 0 0 9 [(0, .ref h)] [] [(h, .inr (6, [.int (3 : Int32), .int 0, .null, .null, .null, .null, .null, .null, .null, .int 0, .null, .null, .null, .int 0, .int 0, .null, .null, .null, .null, .null, .null, .null, .null, .int 0]))]
  refine gd_aload_n (pc := 9) dX6_init_9 rfl 0 rfl ?_
  refine gd_bipush (pc := 10) (25 : Int32) dX6_init_10 rfl ?_
  refine gd_newI (pc := 12) (n' := 25) kac_I (by decide) (by decide) (by decide) (Nat.le_of_ble_eq_true rfl) (Nat.le_of_ble_eq_true rfl) dX6_init_12 (fun q1 => ?_)
  show GD Γ mX6_init (ND Γ 1 18 451 (QX6 Γ h)) 1 25 14 [(0, .ref h)] [.ref q1, .ref h] [(h, .inr (6, [.int (3 : Int32), .int 0, .null, .null, .null, .null, .null, .null, .null, .int 0, .null, .null, .null, .int 0, .int 0, .null, .null, .null, .null, .null, .null, .null, .null, .int 0])), (q1, ciN Γ 25 (fun _ => 0))]
  refine gd_putF (pc := 14) (q0 := 0) (ci := 6) (k := 2) (fs := [.int (3 : Int32), .int 0, .null, .null, .null, .null, .null, .null, .null, .int 0, .null, .null, .null, .int 0, .int 0, .null, .null, .null, .null, .null, .null, .null, .null, .int 0]) rfl rfl (Nat.le_of_ble_eq_true rfl) fw_X6_13 rfl rfl dX6_init_14 ?_
  show GD Γ mX6_init (ND Γ 1 18 451 (QX6 Γ h)) 1 25 17 [(0, .ref h)] [] [(h, .inr (6, [.int (3 : Int32), .int 0, .ref q1, .null, .null, .null, .null, .null, .null, .int 0, .null, .null, .null, .int 0, .int 0, .null, .null, .null, .null, .null, .null, .null, .null, .int 0])), (q1, ciN Γ 25 (fun _ => 0))]
  refine gd_aload_n (pc := 17) dX6_init_17 rfl 0 rfl ?_
  refine gd_iconst (pc := 18) (5 : Int32) dX6_init_18 rfl ?_
  refine gd_newI (pc := 19) (n' := 5) kac_I (by decide) (by decide) (by decide) (Nat.le_of_ble_eq_true rfl) (Nat.le_of_ble_eq_true rfl) dX6_init_19 (fun q2 => ?_)
  show GD Γ mX6_init (ND Γ 1 18 451 (QX6 Γ h)) 2 30 21 [(0, .ref h)] [.ref q2, .ref h] [(h, .inr (6, [.int (3 : Int32), .int 0, .ref q1, .null, .null, .null, .null, .null, .null, .int 0, .null, .null, .null, .int 0, .int 0, .null, .null, .null, .null, .null, .null, .null, .null, .int 0])), (q1, ciN Γ 25 (fun _ => 0)), (q2, ciN Γ 5 (fun _ => 0))]
  refine gd_putF (pc := 21) (q0 := 0) (ci := 6) (k := 3) (fs := [.int (3 : Int32), .int 0, .ref q1, .null, .null, .null, .null, .null, .null, .int 0, .null, .null, .null, .int 0, .int 0, .null, .null, .null, .null, .null, .null, .null, .null, .int 0]) rfl rfl (Nat.le_of_ble_eq_true rfl) fw_X6_17 rfl rfl dX6_init_21 ?_
  show GD Γ mX6_init (ND Γ 1 18 451 (QX6 Γ h)) 2 30 24 [(0, .ref h)] [] [(h, .inr (6, [.int (3 : Int32), .int 0, .ref q1, .ref q2, .null, .null, .null, .null, .null, .int 0, .null, .null, .null, .int 0, .int 0, .null, .null, .null, .null, .null, .null, .null, .null, .int 0])), (q1, ciN Γ 25 (fun _ => 0)), (q2, ciN Γ 5 (fun _ => 0))]
  refine gd_aload_n (pc := 24) dX6_init_24 rfl 0 rfl ?_
  refine gd_iconst (pc := 25) (5 : Int32) dX6_init_25 rfl ?_
  refine gd_newI (pc := 26) (n' := 5) kac_I (by decide) (by decide) (by decide) (Nat.le_of_ble_eq_true rfl) (Nat.le_of_ble_eq_true rfl) dX6_init_26 (fun q3 => ?_)
  show GD Γ mX6_init (ND Γ 1 18 451 (QX6 Γ h)) 3 35 28 [(0, .ref h)] [.ref q3, .ref h] [(h, .inr (6, [.int (3 : Int32), .int 0, .ref q1, .ref q2, .null, .null, .null, .null, .null, .int 0, .null, .null, .null, .int 0, .int 0, .null, .null, .null, .null, .null, .null, .null, .null, .int 0])), (q1, ciN Γ 25 (fun _ => 0)), (q2, ciN Γ 5 (fun _ => 0)), (q3, ciN Γ 5 (fun _ => 0))]
  refine gd_putF (pc := 28) (q0 := 0) (ci := 6) (k := 4) (fs := [.int (3 : Int32), .int 0, .ref q1, .ref q2, .null, .null, .null, .null, .null, .int 0, .null, .null, .null, .int 0, .int 0, .null, .null, .null, .null, .null, .null, .null, .null, .int 0]) rfl rfl (Nat.le_of_ble_eq_true rfl) fw_X6_20 rfl rfl dX6_init_28 ?_
  show GD Γ mX6_init (ND Γ 1 18 451 (QX6 Γ h)) 3 35 31 [(0, .ref h)] [] [(h, .inr (6, [.int (3 : Int32), .int 0, .ref q1, .ref q2, .ref q3, .null, .null, .null, .null, .int 0, .null, .null, .null, .int 0, .int 0, .null, .null, .null, .null, .null, .null, .null, .null, .int 0])), (q1, ciN Γ 25 (fun _ => 0)), (q2, ciN Γ 5 (fun _ => 0)), (q3, ciN Γ 5 (fun _ => 0))]
  refine gd_aload_n (pc := 31) dX6_init_31 rfl 0 rfl ?_
  refine gd_iconst (pc := 32) (5 : Int32) dX6_init_32 rfl ?_
  refine gd_newI (pc := 33) (n' := 5) kac_I (by decide) (by decide) (by decide) (Nat.le_of_ble_eq_true rfl) (Nat.le_of_ble_eq_true rfl) dX6_init_33 (fun q4 => ?_)
  show GD Γ mX6_init (ND Γ 1 18 451 (QX6 Γ h)) 4 40 35 [(0, .ref h)] [.ref q4, .ref h] [(h, .inr (6, [.int (3 : Int32), .int 0, .ref q1, .ref q2, .ref q3, .null, .null, .null, .null, .int 0, .null, .null, .null, .int 0, .int 0, .null, .null, .null, .null, .null, .null, .null, .null, .int 0])), (q1, ciN Γ 25 (fun _ => 0)), (q2, ciN Γ 5 (fun _ => 0)), (q3, ciN Γ 5 (fun _ => 0)), (q4, ciN Γ 5 (fun _ => 0))]
  refine gd_putF (pc := 35) (q0 := 0) (ci := 6) (k := 5) (fs := [.int (3 : Int32), .int 0, .ref q1, .ref q2, .ref q3, .null, .null, .null, .null, .int 0, .null, .null, .null, .int 0, .int 0, .null, .null, .null, .null, .null, .null, .null, .null, .int 0]) rfl rfl (Nat.le_of_ble_eq_true rfl) fw_X6_23 rfl rfl dX6_init_35 ?_
  show GD Γ mX6_init (ND Γ 1 18 451 (QX6 Γ h)) 4 40 38 [(0, .ref h)] [] [(h, .inr (6, [.int (3 : Int32), .int 0, .ref q1, .ref q2, .ref q3, .ref q4, .null, .null, .null, .int 0, .null, .null, .null, .int 0, .int 0, .null, .null, .null, .null, .null, .null, .null, .null, .int 0])), (q1, ciN Γ 25 (fun _ => 0)), (q2, ciN Γ 5 (fun _ => 0)), (q3, ciN Γ 5 (fun _ => 0)), (q4, ciN Γ 5 (fun _ => 0))]
  refine gd_aload_n (pc := 38) dX6_init_38 rfl 0 rfl ?_
  refine gd_iconst (pc := 39) (5 : Int32) dX6_init_39 rfl ?_
  refine gd_newZ (pc := 40) (n' := 5) kac_Z (by decide) (by decide) (by decide) (Nat.le_of_ble_eq_true rfl) (Nat.le_of_ble_eq_true rfl) dX6_init_40 (fun q5 => ?_)
  show GD Γ mX6_init (ND Γ 1 18 451 (QX6 Γ h)) 5 45 42 [(0, .ref h)] [.ref q5, .ref h] [(h, .inr (6, [.int (3 : Int32), .int 0, .ref q1, .ref q2, .ref q3, .ref q4, .null, .null, .null, .int 0, .null, .null, .null, .int 0, .int 0, .null, .null, .null, .null, .null, .null, .null, .null, .int 0])), (q1, ciN Γ 25 (fun _ => 0)), (q2, ciN Γ 5 (fun _ => 0)), (q3, ciN Γ 5 (fun _ => 0)), (q4, ciN Γ 5 (fun _ => 0)), (q5, czN Γ 5 (fun _ => 0))]
  refine gd_putF (pc := 42) (q0 := 0) (ci := 6) (k := 6) (fs := [.int (3 : Int32), .int 0, .ref q1, .ref q2, .ref q3, .ref q4, .null, .null, .null, .int 0, .null, .null, .null, .int 0, .int 0, .null, .null, .null, .null, .null, .null, .null, .null, .int 0]) rfl rfl (Nat.le_of_ble_eq_true rfl) fw_X6_26 rfl rfl dX6_init_42 ?_
  show GD Γ mX6_init (ND Γ 1 18 451 (QX6 Γ h)) 5 45 45 [(0, .ref h)] [] [(h, .inr (6, [.int (3 : Int32), .int 0, .ref q1, .ref q2, .ref q3, .ref q4, .ref q5, .null, .null, .int 0, .null, .null, .null, .int 0, .int 0, .null, .null, .null, .null, .null, .null, .null, .null, .int 0])), (q1, ciN Γ 25 (fun _ => 0)), (q2, ciN Γ 5 (fun _ => 0)), (q3, ciN Γ 5 (fun _ => 0)), (q4, ciN Γ 5 (fun _ => 0)), (q5, czN Γ 5 (fun _ => 0))]
  refine gd_aload_n (pc := 45) dX6_init_45 rfl 0 rfl ?_
  refine gd_iconst (pc := 46) (5 : Int32) dX6_init_46 rfl ?_
  refine gd_newI (pc := 47) (n' := 5) kac_I (by decide) (by decide) (by decide) (Nat.le_of_ble_eq_true rfl) (Nat.le_of_ble_eq_true rfl) dX6_init_47 (fun q6 => ?_)
  show GD Γ mX6_init (ND Γ 1 18 451 (QX6 Γ h)) 6 50 49 [(0, .ref h)] [.ref q6, .ref h] [(h, .inr (6, [.int (3 : Int32), .int 0, .ref q1, .ref q2, .ref q3, .ref q4, .ref q5, .null, .null, .int 0, .null, .null, .null, .int 0, .int 0, .null, .null, .null, .null, .null, .null, .null, .null, .int 0])), (q1, ciN Γ 25 (fun _ => 0)), (q2, ciN Γ 5 (fun _ => 0)), (q3, ciN Γ 5 (fun _ => 0)), (q4, ciN Γ 5 (fun _ => 0)), (q5, czN Γ 5 (fun _ => 0)), (q6, ciN Γ 5 (fun _ => 0))]
  refine gd_putF (pc := 49) (q0 := 0) (ci := 6) (k := 7) (fs := [.int (3 : Int32), .int 0, .ref q1, .ref q2, .ref q3, .ref q4, .ref q5, .null, .null, .int 0, .null, .null, .null, .int 0, .int 0, .null, .null, .null, .null, .null, .null, .null, .null, .int 0]) rfl rfl (Nat.le_of_ble_eq_true rfl) fw_X6_30 rfl rfl dX6_init_49 ?_
  show GD Γ mX6_init (ND Γ 1 18 451 (QX6 Γ h)) 6 50 52 [(0, .ref h)] [] [(h, .inr (6, [.int (3 : Int32), .int 0, .ref q1, .ref q2, .ref q3, .ref q4, .ref q5, .ref q6, .null, .int 0, .null, .null, .null, .int 0, .int 0, .null, .null, .null, .null, .null, .null, .null, .null, .int 0])), (q1, ciN Γ 25 (fun _ => 0)), (q2, ciN Γ 5 (fun _ => 0)), (q3, ciN Γ 5 (fun _ => 0)), (q4, ciN Γ 5 (fun _ => 0)), (q5, czN Γ 5 (fun _ => 0)), (q6, ciN Γ 5 (fun _ => 0))]
  refine gd_aload_n (pc := 52) dX6_init_52 rfl 0 rfl ?_
  refine gd_bipush (pc := 53) (12 : Int32) dX6_init_53 rfl ?_
  refine gd_newI (pc := 55) (n' := 12) kac_I (by decide) (by decide) (by decide) (Nat.le_of_ble_eq_true rfl) (Nat.le_of_ble_eq_true rfl) dX6_init_55 (fun q7 => ?_)
  show GD Γ mX6_init (ND Γ 1 18 451 (QX6 Γ h)) 7 62 57 [(0, .ref h)] [.ref q7, .ref h] [(h, .inr (6, [.int (3 : Int32), .int 0, .ref q1, .ref q2, .ref q3, .ref q4, .ref q5, .ref q6, .null, .int 0, .null, .null, .null, .int 0, .int 0, .null, .null, .null, .null, .null, .null, .null, .null, .int 0])), (q1, ciN Γ 25 (fun _ => 0)), (q2, ciN Γ 5 (fun _ => 0)), (q3, ciN Γ 5 (fun _ => 0)), (q4, ciN Γ 5 (fun _ => 0)), (q5, czN Γ 5 (fun _ => 0)), (q6, ciN Γ 5 (fun _ => 0)), (q7, ciN Γ 12 (fun _ => 0))]
  refine gd_putF (pc := 57) (q0 := 0) (ci := 6) (k := 8) (fs := [.int (3 : Int32), .int 0, .ref q1, .ref q2, .ref q3, .ref q4, .ref q5, .ref q6, .null, .int 0, .null, .null, .null, .int 0, .int 0, .null, .null, .null, .null, .null, .null, .null, .null, .int 0]) rfl rfl (Nat.le_of_ble_eq_true rfl) fw_X6_33 rfl rfl dX6_init_57 ?_
  show GD Γ mX6_init (ND Γ 1 18 451 (QX6 Γ h)) 7 62 60 [(0, .ref h)] [] [(h, .inr (6, [.int (3 : Int32), .int 0, .ref q1, .ref q2, .ref q3, .ref q4, .ref q5, .ref q6, .ref q7, .int 0, .null, .null, .null, .int 0, .int 0, .null, .null, .null, .null, .null, .null, .null, .null, .int 0])), (q1, ciN Γ 25 (fun _ => 0)), (q2, ciN Γ 5 (fun _ => 0)), (q3, ciN Γ 5 (fun _ => 0)), (q4, ciN Γ 5 (fun _ => 0)), (q5, czN Γ 5 (fun _ => 0)), (q6, ciN Γ 5 (fun _ => 0)), (q7, ciN Γ 12 (fun _ => 0))]
  refine gd_aload_n (pc := 60) dX6_init_60 rfl 0 rfl ?_
  refine gd_bipush (pc := 61) (25 : Int32) dX6_init_61 rfl ?_
  refine gd_newJ (pc := 63) (n' := 25) kac_J (by decide) (by decide) (by decide) (Nat.le_of_ble_eq_true rfl) (Nat.le_of_ble_eq_true rfl) dX6_init_63 (fun q8 => ?_)
  show GD Γ mX6_init (ND Γ 1 18 451 (QX6 Γ h)) 8 87 65 [(0, .ref h)] [.ref q8, .ref h] [(h, .inr (6, [.int (3 : Int32), .int 0, .ref q1, .ref q2, .ref q3, .ref q4, .ref q5, .ref q6, .ref q7, .int 0, .null, .null, .null, .int 0, .int 0, .null, .null, .null, .null, .null, .null, .null, .null, .int 0])), (q1, ciN Γ 25 (fun _ => 0)), (q2, ciN Γ 5 (fun _ => 0)), (q3, ciN Γ 5 (fun _ => 0)), (q4, ciN Γ 5 (fun _ => 0)), (q5, czN Γ 5 (fun _ => 0)), (q6, ciN Γ 5 (fun _ => 0)), (q7, ciN Γ 12 (fun _ => 0)), (q8, cjN Γ 25 (fun _ => 0))]
  refine gd_putF (pc := 65) (q0 := 0) (ci := 6) (k := 10) (fs := [.int (3 : Int32), .int 0, .ref q1, .ref q2, .ref q3, .ref q4, .ref q5, .ref q6, .ref q7, .int 0, .null, .null, .null, .int 0, .int 0, .null, .null, .null, .null, .null, .null, .null, .null, .int 0]) rfl rfl (Nat.le_of_ble_eq_true rfl) fw_X6_36 rfl rfl dX6_init_65 ?_
  show GD Γ mX6_init (ND Γ 1 18 451 (QX6 Γ h)) 8 87 68 [(0, .ref h)] [] [(h, .inr (6, [.int (3 : Int32), .int 0, .ref q1, .ref q2, .ref q3, .ref q4, .ref q5, .ref q6, .ref q7, .int 0, .ref q8, .null, .null, .int 0, .int 0, .null, .null, .null, .null, .null, .null, .null, .null, .int 0])), (q1, ciN Γ 25 (fun _ => 0)), (q2, ciN Γ 5 (fun _ => 0)), (q3, ciN Γ 5 (fun _ => 0)), (q4, ciN Γ 5 (fun _ => 0)), (q5, czN Γ 5 (fun _ => 0)), (q6, ciN Γ 5 (fun _ => 0)), (q7, ciN Γ 12 (fun _ => 0)), (q8, cjN Γ 25 (fun _ => 0))]
  refine gd_aload_n (pc := 68) dX6_init_68 rfl 0 rfl ?_
  refine gd_bipush (pc := 69) (32 : Int32) dX6_init_69 rfl ?_
  refine gd_newJ (pc := 71) (n' := 32) kac_J (by decide) (by decide) (by decide) (Nat.le_of_ble_eq_true rfl) (Nat.le_of_ble_eq_true rfl) dX6_init_71 (fun q9 => ?_)
  show GD Γ mX6_init (ND Γ 1 18 451 (QX6 Γ h)) 9 119 73 [(0, .ref h)] [.ref q9, .ref h] [(h, .inr (6, [.int (3 : Int32), .int 0, .ref q1, .ref q2, .ref q3, .ref q4, .ref q5, .ref q6, .ref q7, .int 0, .ref q8, .null, .null, .int 0, .int 0, .null, .null, .null, .null, .null, .null, .null, .null, .int 0])), (q1, ciN Γ 25 (fun _ => 0)), (q2, ciN Γ 5 (fun _ => 0)), (q3, ciN Γ 5 (fun _ => 0)), (q4, ciN Γ 5 (fun _ => 0)), (q5, czN Γ 5 (fun _ => 0)), (q6, ciN Γ 5 (fun _ => 0)), (q7, ciN Γ 12 (fun _ => 0)), (q8, cjN Γ 25 (fun _ => 0)), (q9, cjN Γ 32 (fun _ => 0))]
  refine gd_putF (pc := 73) (q0 := 0) (ci := 6) (k := 11) (fs := [.int (3 : Int32), .int 0, .ref q1, .ref q2, .ref q3, .ref q4, .ref q5, .ref q6, .ref q7, .int 0, .ref q8, .null, .null, .int 0, .int 0, .null, .null, .null, .null, .null, .null, .null, .null, .int 0]) rfl rfl (Nat.le_of_ble_eq_true rfl) fw_X6_40 rfl rfl dX6_init_73 ?_
  show GD Γ mX6_init (ND Γ 1 18 451 (QX6 Γ h)) 9 119 76 [(0, .ref h)] [] [(h, .inr (6, [.int (3 : Int32), .int 0, .ref q1, .ref q2, .ref q3, .ref q4, .ref q5, .ref q6, .ref q7, .int 0, .ref q8, .ref q9, .null, .int 0, .int 0, .null, .null, .null, .null, .null, .null, .null, .null, .int 0])), (q1, ciN Γ 25 (fun _ => 0)), (q2, ciN Γ 5 (fun _ => 0)), (q3, ciN Γ 5 (fun _ => 0)), (q4, ciN Γ 5 (fun _ => 0)), (q5, czN Γ 5 (fun _ => 0)), (q6, ciN Γ 5 (fun _ => 0)), (q7, ciN Γ 12 (fun _ => 0)), (q8, cjN Γ 25 (fun _ => 0)), (q9, cjN Γ 32 (fun _ => 0))]
  refine gd_aload_n (pc := 76) dX6_init_76 rfl 0 rfl ?_
  refine gd_iconst (pc := 77) (5 : Int32) dX6_init_77 rfl ?_
  refine gd_newI (pc := 78) (n' := 5) kac_I (by decide) (by decide) (by decide) (Nat.le_of_ble_eq_true rfl) (Nat.le_of_ble_eq_true rfl) dX6_init_78 (fun q10 => ?_)
  show GD Γ mX6_init (ND Γ 1 18 451 (QX6 Γ h)) 10 124 80 [(0, .ref h)] [.ref q10, .ref h] [(h, .inr (6, [.int (3 : Int32), .int 0, .ref q1, .ref q2, .ref q3, .ref q4, .ref q5, .ref q6, .ref q7, .int 0, .ref q8, .ref q9, .null, .int 0, .int 0, .null, .null, .null, .null, .null, .null, .null, .null, .int 0])), (q1, ciN Γ 25 (fun _ => 0)), (q2, ciN Γ 5 (fun _ => 0)), (q3, ciN Γ 5 (fun _ => 0)), (q4, ciN Γ 5 (fun _ => 0)), (q5, czN Γ 5 (fun _ => 0)), (q6, ciN Γ 5 (fun _ => 0)), (q7, ciN Γ 12 (fun _ => 0)), (q8, cjN Γ 25 (fun _ => 0)), (q9, cjN Γ 32 (fun _ => 0)), (q10, ciN Γ 5 (fun _ => 0))]
  refine gd_putF (pc := 80) (q0 := 0) (ci := 6) (k := 12) (fs := [.int (3 : Int32), .int 0, .ref q1, .ref q2, .ref q3, .ref q4, .ref q5, .ref q6, .ref q7, .int 0, .ref q8, .ref q9, .null, .int 0, .int 0, .null, .null, .null, .null, .null, .null, .null, .null, .int 0]) rfl rfl (Nat.le_of_ble_eq_true rfl) fw_X6_43 rfl rfl dX6_init_80 ?_
  show GD Γ mX6_init (ND Γ 1 18 451 (QX6 Γ h)) 10 124 83 [(0, .ref h)] [] [(h, .inr (6, [.int (3 : Int32), .int 0, .ref q1, .ref q2, .ref q3, .ref q4, .ref q5, .ref q6, .ref q7, .int 0, .ref q8, .ref q9, .ref q10, .int 0, .int 0, .null, .null, .null, .null, .null, .null, .null, .null, .int 0])), (q1, ciN Γ 25 (fun _ => 0)), (q2, ciN Γ 5 (fun _ => 0)), (q3, ciN Γ 5 (fun _ => 0)), (q4, ciN Γ 5 (fun _ => 0)), (q5, czN Γ 5 (fun _ => 0)), (q6, ciN Γ 5 (fun _ => 0)), (q7, ciN Γ 12 (fun _ => 0)), (q8, cjN Γ 25 (fun _ => 0)), (q9, cjN Γ 32 (fun _ => 0)), (q10, ciN Γ 5 (fun _ => 0))]
  refine gd_aload_n (pc := 83) dX6_init_83 rfl 0 rfl ?_
  refine gd_iconst (pc := 84) (1 : Int32) dX6_init_84 rfl ?_
  refine gd_put (pc := 85) (q0 := 0) (ci := 6) (k := 13) (fs := [.int (3 : Int32), .int 0, .ref q1, .ref q2, .ref q3, .ref q4, .ref q5, .ref q6, .ref q7, .int 0, .ref q8, .ref q9, .ref q10, .int 0, .int 0, .null, .null, .null, .null, .null, .null, .null, .null, .int 0]) rfl (Nat.le_of_ble_eq_true rfl) fw_X6_46 rfl rfl dX6_init_85 ?_
  show GD Γ mX6_init (ND Γ 1 18 451 (QX6 Γ h)) 10 124 88 [(0, .ref h)] [] [(h, .inr (6, [.int (3 : Int32), .int 0, .ref q1, .ref q2, .ref q3, .ref q4, .ref q5, .ref q6, .ref q7, .int 0, .ref q8, .ref q9, .ref q10, .int (1 : Int32), .int 0, .null, .null, .null, .null, .null, .null, .null, .null, .int 0])), (q1, ciN Γ 25 (fun _ => 0)), (q2, ciN Γ 5 (fun _ => 0)), (q3, ciN Γ 5 (fun _ => 0)), (q4, ciN Γ 5 (fun _ => 0)), (q5, czN Γ 5 (fun _ => 0)), (q6, ciN Γ 5 (fun _ => 0)), (q7, ciN Γ 12 (fun _ => 0)), (q8, cjN Γ 25 (fun _ => 0)), (q9, cjN Γ 32 (fun _ => 0)), (q10, ciN Γ 5 (fun _ => 0))]
  refine gd_aload_n (pc := 88) dX6_init_88 rfl 0 rfl ?_
  refine gd_iconst (pc := 89) (5 : Int32) dX6_init_89 rfl ?_
  refine gd_newI (pc := 90) (n' := 5) kac_I (by decide) (by decide) (by decide) (Nat.le_of_ble_eq_true rfl) (Nat.le_of_ble_eq_true rfl) dX6_init_90 (fun q11 => ?_)
  show GD Γ mX6_init (ND Γ 1 18 451 (QX6 Γ h)) 11 129 92 [(0, .ref h)] [.ref q11, .ref h] [(h, .inr (6, [.int (3 : Int32), .int 0, .ref q1, .ref q2, .ref q3, .ref q4, .ref q5, .ref q6, .ref q7, .int 0, .ref q8, .ref q9, .ref q10, .int (1 : Int32), .int 0, .null, .null, .null, .null, .null, .null, .null, .null, .int 0])), (q1, ciN Γ 25 (fun _ => 0)), (q2, ciN Γ 5 (fun _ => 0)), (q3, ciN Γ 5 (fun _ => 0)), (q4, ciN Γ 5 (fun _ => 0)), (q5, czN Γ 5 (fun _ => 0)), (q6, ciN Γ 5 (fun _ => 0)), (q7, ciN Γ 12 (fun _ => 0)), (q8, cjN Γ 25 (fun _ => 0)), (q9, cjN Γ 32 (fun _ => 0)), (q10, ciN Γ 5 (fun _ => 0)), (q11, ciN Γ 5 (fun _ => 0))]
  refine gd_putF (pc := 92) (q0 := 0) (ci := 6) (k := 15) (fs := [.int (3 : Int32), .int 0, .ref q1, .ref q2, .ref q3, .ref q4, .ref q5, .ref q6, .ref q7, .int 0, .ref q8, .ref q9, .ref q10, .int (1 : Int32), .int 0, .null, .null, .null, .null, .null, .null, .null, .null, .int 0]) rfl rfl (Nat.le_of_ble_eq_true rfl) fw_X6_49 rfl rfl dX6_init_92 ?_
  show GD Γ mX6_init (ND Γ 1 18 451 (QX6 Γ h)) 11 129 95 [(0, .ref h)] [] [(h, .inr (6, [.int (3 : Int32), .int 0, .ref q1, .ref q2, .ref q3, .ref q4, .ref q5, .ref q6, .ref q7, .int 0, .ref q8, .ref q9, .ref q10, .int (1 : Int32), .int 0, .ref q11, .null, .null, .null, .null, .null, .null, .null, .int 0])), (q1, ciN Γ 25 (fun _ => 0)), (q2, ciN Γ 5 (fun _ => 0)), (q3, ciN Γ 5 (fun _ => 0)), (q4, ciN Γ 5 (fun _ => 0)), (q5, czN Γ 5 (fun _ => 0)), (q6, ciN Γ 5 (fun _ => 0)), (q7, ciN Γ 12 (fun _ => 0)), (q8, cjN Γ 25 (fun _ => 0)), (q9, cjN Γ 32 (fun _ => 0)), (q10, ciN Γ 5 (fun _ => 0)), (q11, ciN Γ 5 (fun _ => 0))]
  refine gd_aload_n (pc := 95) dX6_init_95 rfl 0 rfl ?_
  refine gd_iconst (pc := 96) (5 : Int32) dX6_init_96 rfl ?_
  refine gd_newI (pc := 97) (n' := 5) kac_I (by decide) (by decide) (by decide) (Nat.le_of_ble_eq_true rfl) (Nat.le_of_ble_eq_true rfl) dX6_init_97 (fun q12 => ?_)
  show GD Γ mX6_init (ND Γ 1 18 451 (QX6 Γ h)) 12 134 99 [(0, .ref h)] [.ref q12, .ref h] [(h, .inr (6, [.int (3 : Int32), .int 0, .ref q1, .ref q2, .ref q3, .ref q4, .ref q5, .ref q6, .ref q7, .int 0, .ref q8, .ref q9, .ref q10, .int (1 : Int32), .int 0, .ref q11, .null, .null, .null, .null, .null, .null, .null, .int 0])), (q1, ciN Γ 25 (fun _ => 0)), (q2, ciN Γ 5 (fun _ => 0)), (q3, ciN Γ 5 (fun _ => 0)), (q4, ciN Γ 5 (fun _ => 0)), (q5, czN Γ 5 (fun _ => 0)), (q6, ciN Γ 5 (fun _ => 0)), (q7, ciN Γ 12 (fun _ => 0)), (q8, cjN Γ 25 (fun _ => 0)), (q9, cjN Γ 32 (fun _ => 0)), (q10, ciN Γ 5 (fun _ => 0)), (q11, ciN Γ 5 (fun _ => 0)), (q12, ciN Γ 5 (fun _ => 0))]
  refine gd_putF (pc := 99) (q0 := 0) (ci := 6) (k := 16) (fs := [.int (3 : Int32), .int 0, .ref q1, .ref q2, .ref q3, .ref q4, .ref q5, .ref q6, .ref q7, .int 0, .ref q8, .ref q9, .ref q10, .int (1 : Int32), .int 0, .ref q11, .null, .null, .null, .null, .null, .null, .null, .int 0]) rfl rfl (Nat.le_of_ble_eq_true rfl) fw_X6_52 rfl rfl dX6_init_99 ?_
  show GD Γ mX6_init (ND Γ 1 18 451 (QX6 Γ h)) 12 134 102 [(0, .ref h)] [] [(h, .inr (6, [.int (3 : Int32), .int 0, .ref q1, .ref q2, .ref q3, .ref q4, .ref q5, .ref q6, .ref q7, .int 0, .ref q8, .ref q9, .ref q10, .int (1 : Int32), .int 0, .ref q11, .ref q12, .null, .null, .null, .null, .null, .null, .int 0])), (q1, ciN Γ 25 (fun _ => 0)), (q2, ciN Γ 5 (fun _ => 0)), (q3, ciN Γ 5 (fun _ => 0)), (q4, ciN Γ 5 (fun _ => 0)), (q5, czN Γ 5 (fun _ => 0)), (q6, ciN Γ 5 (fun _ => 0)), (q7, ciN Γ 12 (fun _ => 0)), (q8, cjN Γ 25 (fun _ => 0)), (q9, cjN Γ 32 (fun _ => 0)), (q10, ciN Γ 5 (fun _ => 0)), (q11, ciN Γ 5 (fun _ => 0)), (q12, ciN Γ 5 (fun _ => 0))]
  refine gd_aload_n (pc := 102) dX6_init_102 rfl 0 rfl ?_
  refine gd_iconst (pc := 103) (5 : Int32) dX6_init_103 rfl ?_
  refine gd_newI (pc := 104) (n' := 5) kac_I (by decide) (by decide) (by decide) (Nat.le_of_ble_eq_true rfl) (Nat.le_of_ble_eq_true rfl) dX6_init_104 (fun q13 => ?_)
  show GD Γ mX6_init (ND Γ 1 18 451 (QX6 Γ h)) 13 139 106 [(0, .ref h)] [.ref q13, .ref h] [(h, .inr (6, [.int (3 : Int32), .int 0, .ref q1, .ref q2, .ref q3, .ref q4, .ref q5, .ref q6, .ref q7, .int 0, .ref q8, .ref q9, .ref q10, .int (1 : Int32), .int 0, .ref q11, .ref q12, .null, .null, .null, .null, .null, .null, .int 0])), (q1, ciN Γ 25 (fun _ => 0)), (q2, ciN Γ 5 (fun _ => 0)), (q3, ciN Γ 5 (fun _ => 0)), (q4, ciN Γ 5 (fun _ => 0)), (q5, czN Γ 5 (fun _ => 0)), (q6, ciN Γ 5 (fun _ => 0)), (q7, ciN Γ 12 (fun _ => 0)), (q8, cjN Γ 25 (fun _ => 0)), (q9, cjN Γ 32 (fun _ => 0)), (q10, ciN Γ 5 (fun _ => 0)), (q11, ciN Γ 5 (fun _ => 0)), (q12, ciN Γ 5 (fun _ => 0)), (q13, ciN Γ 5 (fun _ => 0))]
  refine gd_putF (pc := 106) (q0 := 0) (ci := 6) (k := 17) (fs := [.int (3 : Int32), .int 0, .ref q1, .ref q2, .ref q3, .ref q4, .ref q5, .ref q6, .ref q7, .int 0, .ref q8, .ref q9, .ref q10, .int (1 : Int32), .int 0, .ref q11, .ref q12, .null, .null, .null, .null, .null, .null, .int 0]) rfl rfl (Nat.le_of_ble_eq_true rfl) fw_X6_55 rfl rfl dX6_init_106 ?_
  show GD Γ mX6_init (ND Γ 1 18 451 (QX6 Γ h)) 13 139 109 [(0, .ref h)] [] [(h, .inr (6, [.int (3 : Int32), .int 0, .ref q1, .ref q2, .ref q3, .ref q4, .ref q5, .ref q6, .ref q7, .int 0, .ref q8, .ref q9, .ref q10, .int (1 : Int32), .int 0, .ref q11, .ref q12, .ref q13, .null, .null, .null, .null, .null, .int 0])), (q1, ciN Γ 25 (fun _ => 0)), (q2, ciN Γ 5 (fun _ => 0)), (q3, ciN Γ 5 (fun _ => 0)), (q4, ciN Γ 5 (fun _ => 0)), (q5, czN Γ 5 (fun _ => 0)), (q6, ciN Γ 5 (fun _ => 0)), (q7, ciN Γ 12 (fun _ => 0)), (q8, cjN Γ 25 (fun _ => 0)), (q9, cjN Γ 32 (fun _ => 0)), (q10, ciN Γ 5 (fun _ => 0)), (q11, ciN Γ 5 (fun _ => 0)), (q12, ciN Γ 5 (fun _ => 0)), (q13, ciN Γ 5 (fun _ => 0))]
  refine gd_aload_n (pc := 109) dX6_init_109 rfl 0 rfl ?_
  refine gd_iconst (pc := 110) (4 : Int32) dX6_init_110 rfl ?_
  refine gd_newZ (pc := 111) (n' := 4) kac_Z (by decide) (by decide) (by decide) (Nat.le_of_ble_eq_true rfl) (Nat.le_of_ble_eq_true rfl) dX6_init_111 (fun q14 => ?_)
  show GD Γ mX6_init (ND Γ 1 18 451 (QX6 Γ h)) 14 143 113 [(0, .ref h)] [.ref q14, .ref h] [(h, .inr (6, [.int (3 : Int32), .int 0, .ref q1, .ref q2, .ref q3, .ref q4, .ref q5, .ref q6, .ref q7, .int 0, .ref q8, .ref q9, .ref q10, .int (1 : Int32), .int 0, .ref q11, .ref q12, .ref q13, .null, .null, .null, .null, .null, .int 0])), (q1, ciN Γ 25 (fun _ => 0)), (q2, ciN Γ 5 (fun _ => 0)), (q3, ciN Γ 5 (fun _ => 0)), (q4, ciN Γ 5 (fun _ => 0)), (q5, czN Γ 5 (fun _ => 0)), (q6, ciN Γ 5 (fun _ => 0)), (q7, ciN Γ 12 (fun _ => 0)), (q8, cjN Γ 25 (fun _ => 0)), (q9, cjN Γ 32 (fun _ => 0)), (q10, ciN Γ 5 (fun _ => 0)), (q11, ciN Γ 5 (fun _ => 0)), (q12, ciN Γ 5 (fun _ => 0)), (q13, ciN Γ 5 (fun _ => 0)), (q14, czN Γ 4 (fun _ => 0))]
  refine gd_putF (pc := 113) (q0 := 0) (ci := 6) (k := 18) (fs := [.int (3 : Int32), .int 0, .ref q1, .ref q2, .ref q3, .ref q4, .ref q5, .ref q6, .ref q7, .int 0, .ref q8, .ref q9, .ref q10, .int (1 : Int32), .int 0, .ref q11, .ref q12, .ref q13, .null, .null, .null, .null, .null, .int 0]) rfl rfl (Nat.le_of_ble_eq_true rfl) fw_X6_58 rfl rfl dX6_init_113 ?_
  show GD Γ mX6_init (ND Γ 1 18 451 (QX6 Γ h)) 14 143 116 [(0, .ref h)] [] [(h, .inr (6, [.int (3 : Int32), .int 0, .ref q1, .ref q2, .ref q3, .ref q4, .ref q5, .ref q6, .ref q7, .int 0, .ref q8, .ref q9, .ref q10, .int (1 : Int32), .int 0, .ref q11, .ref q12, .ref q13, .ref q14, .null, .null, .null, .null, .int 0])), (q1, ciN Γ 25 (fun _ => 0)), (q2, ciN Γ 5 (fun _ => 0)), (q3, ciN Γ 5 (fun _ => 0)), (q4, ciN Γ 5 (fun _ => 0)), (q5, czN Γ 5 (fun _ => 0)), (q6, ciN Γ 5 (fun _ => 0)), (q7, ciN Γ 12 (fun _ => 0)), (q8, cjN Γ 25 (fun _ => 0)), (q9, cjN Γ 32 (fun _ => 0)), (q10, ciN Γ 5 (fun _ => 0)), (q11, ciN Γ 5 (fun _ => 0)), (q12, ciN Γ 5 (fun _ => 0)), (q13, ciN Γ 5 (fun _ => 0)), (q14, czN Γ 4 (fun _ => 0))]
  refine gd_aload_n (pc := 116) dX6_init_116 rfl 0 rfl ?_
  refine gd_iconst (pc := 117) (4 : Int32) dX6_init_117 rfl ?_
  refine gd_newI (pc := 118) (n' := 4) kac_I (by decide) (by decide) (by decide) (Nat.le_of_ble_eq_true rfl) (Nat.le_of_ble_eq_true rfl) dX6_init_118 (fun q15 => ?_)
  show GD Γ mX6_init (ND Γ 1 18 451 (QX6 Γ h)) 15 147 120 [(0, .ref h)] [.ref q15, .ref h] [(h, .inr (6, [.int (3 : Int32), .int 0, .ref q1, .ref q2, .ref q3, .ref q4, .ref q5, .ref q6, .ref q7, .int 0, .ref q8, .ref q9, .ref q10, .int (1 : Int32), .int 0, .ref q11, .ref q12, .ref q13, .ref q14, .null, .null, .null, .null, .int 0])), (q1, ciN Γ 25 (fun _ => 0)), (q2, ciN Γ 5 (fun _ => 0)), (q3, ciN Γ 5 (fun _ => 0)), (q4, ciN Γ 5 (fun _ => 0)), (q5, czN Γ 5 (fun _ => 0)), (q6, ciN Γ 5 (fun _ => 0)), (q7, ciN Γ 12 (fun _ => 0)), (q8, cjN Γ 25 (fun _ => 0)), (q9, cjN Γ 32 (fun _ => 0)), (q10, ciN Γ 5 (fun _ => 0)), (q11, ciN Γ 5 (fun _ => 0)), (q12, ciN Γ 5 (fun _ => 0)), (q13, ciN Γ 5 (fun _ => 0)), (q14, czN Γ 4 (fun _ => 0)), (q15, ciN Γ 4 (fun _ => 0))]
  refine gd_putF (pc := 120) (q0 := 0) (ci := 6) (k := 19) (fs := [.int (3 : Int32), .int 0, .ref q1, .ref q2, .ref q3, .ref q4, .ref q5, .ref q6, .ref q7, .int 0, .ref q8, .ref q9, .ref q10, .int (1 : Int32), .int 0, .ref q11, .ref q12, .ref q13, .ref q14, .null, .null, .null, .null, .int 0]) rfl rfl (Nat.le_of_ble_eq_true rfl) fw_X6_61 rfl rfl dX6_init_120 ?_
  show GD Γ mX6_init (ND Γ 1 18 451 (QX6 Γ h)) 15 147 123 [(0, .ref h)] [] [(h, .inr (6, [.int (3 : Int32), .int 0, .ref q1, .ref q2, .ref q3, .ref q4, .ref q5, .ref q6, .ref q7, .int 0, .ref q8, .ref q9, .ref q10, .int (1 : Int32), .int 0, .ref q11, .ref q12, .ref q13, .ref q14, .ref q15, .null, .null, .null, .int 0])), (q1, ciN Γ 25 (fun _ => 0)), (q2, ciN Γ 5 (fun _ => 0)), (q3, ciN Γ 5 (fun _ => 0)), (q4, ciN Γ 5 (fun _ => 0)), (q5, czN Γ 5 (fun _ => 0)), (q6, ciN Γ 5 (fun _ => 0)), (q7, ciN Γ 12 (fun _ => 0)), (q8, cjN Γ 25 (fun _ => 0)), (q9, cjN Γ 32 (fun _ => 0)), (q10, ciN Γ 5 (fun _ => 0)), (q11, ciN Γ 5 (fun _ => 0)), (q12, ciN Γ 5 (fun _ => 0)), (q13, ciN Γ 5 (fun _ => 0)), (q14, czN Γ 4 (fun _ => 0)), (q15, ciN Γ 4 (fun _ => 0))]
  refine gd_aload_n (pc := 123) dX6_init_123 rfl 0 rfl ?_
  refine gd_iconst (pc := 124) (4 : Int32) dX6_init_124 rfl ?_
  refine gd_newI (pc := 125) (n' := 4) kac_I (by decide) (by decide) (by decide) (Nat.le_of_ble_eq_true rfl) (Nat.le_of_ble_eq_true rfl) dX6_init_125 (fun q16 => ?_)
  show GD Γ mX6_init (ND Γ 1 18 451 (QX6 Γ h)) 16 151 127 [(0, .ref h)] [.ref q16, .ref h] [(h, .inr (6, [.int (3 : Int32), .int 0, .ref q1, .ref q2, .ref q3, .ref q4, .ref q5, .ref q6, .ref q7, .int 0, .ref q8, .ref q9, .ref q10, .int (1 : Int32), .int 0, .ref q11, .ref q12, .ref q13, .ref q14, .ref q15, .null, .null, .null, .int 0])), (q1, ciN Γ 25 (fun _ => 0)), (q2, ciN Γ 5 (fun _ => 0)), (q3, ciN Γ 5 (fun _ => 0)), (q4, ciN Γ 5 (fun _ => 0)), (q5, czN Γ 5 (fun _ => 0)), (q6, ciN Γ 5 (fun _ => 0)), (q7, ciN Γ 12 (fun _ => 0)), (q8, cjN Γ 25 (fun _ => 0)), (q9, cjN Γ 32 (fun _ => 0)), (q10, ciN Γ 5 (fun _ => 0)), (q11, ciN Γ 5 (fun _ => 0)), (q12, ciN Γ 5 (fun _ => 0)), (q13, ciN Γ 5 (fun _ => 0)), (q14, czN Γ 4 (fun _ => 0)), (q15, ciN Γ 4 (fun _ => 0)), (q16, ciN Γ 4 (fun _ => 0))]
  refine gd_putF (pc := 127) (q0 := 0) (ci := 6) (k := 20) (fs := [.int (3 : Int32), .int 0, .ref q1, .ref q2, .ref q3, .ref q4, .ref q5, .ref q6, .ref q7, .int 0, .ref q8, .ref q9, .ref q10, .int (1 : Int32), .int 0, .ref q11, .ref q12, .ref q13, .ref q14, .ref q15, .null, .null, .null, .int 0]) rfl rfl (Nat.le_of_ble_eq_true rfl) fw_X6_64 rfl rfl dX6_init_127 ?_
  show GD Γ mX6_init (ND Γ 1 18 451 (QX6 Γ h)) 16 151 130 [(0, .ref h)] [] [(h, .inr (6, [.int (3 : Int32), .int 0, .ref q1, .ref q2, .ref q3, .ref q4, .ref q5, .ref q6, .ref q7, .int 0, .ref q8, .ref q9, .ref q10, .int (1 : Int32), .int 0, .ref q11, .ref q12, .ref q13, .ref q14, .ref q15, .ref q16, .null, .null, .int 0])), (q1, ciN Γ 25 (fun _ => 0)), (q2, ciN Γ 5 (fun _ => 0)), (q3, ciN Γ 5 (fun _ => 0)), (q4, ciN Γ 5 (fun _ => 0)), (q5, czN Γ 5 (fun _ => 0)), (q6, ciN Γ 5 (fun _ => 0)), (q7, ciN Γ 12 (fun _ => 0)), (q8, cjN Γ 25 (fun _ => 0)), (q9, cjN Γ 32 (fun _ => 0)), (q10, ciN Γ 5 (fun _ => 0)), (q11, ciN Γ 5 (fun _ => 0)), (q12, ciN Γ 5 (fun _ => 0)), (q13, ciN Γ 5 (fun _ => 0)), (q14, czN Γ 4 (fun _ => 0)), (q15, ciN Γ 4 (fun _ => 0)), (q16, ciN Γ 4 (fun _ => 0))]
  refine gd_aload_n (pc := 130) dX6_init_130 rfl 0 rfl ?_
  refine gd_sipush (pc := 131) (240 : Int32) dX6_init_131 rfl ?_
  refine gd_newI (pc := 134) (n' := 240) kac_I (by decide) (by decide) (by decide) (Nat.le_of_ble_eq_true rfl) (Nat.le_of_ble_eq_true rfl) dX6_init_134 (fun q17 => ?_)
  show GD Γ mX6_init (ND Γ 1 18 451 (QX6 Γ h)) 17 391 136 [(0, .ref h)] [.ref q17, .ref h] [(h, .inr (6, [.int (3 : Int32), .int 0, .ref q1, .ref q2, .ref q3, .ref q4, .ref q5, .ref q6, .ref q7, .int 0, .ref q8, .ref q9, .ref q10, .int (1 : Int32), .int 0, .ref q11, .ref q12, .ref q13, .ref q14, .ref q15, .ref q16, .null, .null, .int 0])), (q1, ciN Γ 25 (fun _ => 0)), (q2, ciN Γ 5 (fun _ => 0)), (q3, ciN Γ 5 (fun _ => 0)), (q4, ciN Γ 5 (fun _ => 0)), (q5, czN Γ 5 (fun _ => 0)), (q6, ciN Γ 5 (fun _ => 0)), (q7, ciN Γ 12 (fun _ => 0)), (q8, cjN Γ 25 (fun _ => 0)), (q9, cjN Γ 32 (fun _ => 0)), (q10, ciN Γ 5 (fun _ => 0)), (q11, ciN Γ 5 (fun _ => 0)), (q12, ciN Γ 5 (fun _ => 0)), (q13, ciN Γ 5 (fun _ => 0)), (q14, czN Γ 4 (fun _ => 0)), (q15, ciN Γ 4 (fun _ => 0)), (q16, ciN Γ 4 (fun _ => 0)), (q17, ciN Γ 240 (fun _ => 0))]
  refine gd_putF (pc := 136) (q0 := 0) (ci := 6) (k := 21) (fs := [.int (3 : Int32), .int 0, .ref q1, .ref q2, .ref q3, .ref q4, .ref q5, .ref q6, .ref q7, .int 0, .ref q8, .ref q9, .ref q10, .int (1 : Int32), .int 0, .ref q11, .ref q12, .ref q13, .ref q14, .ref q15, .ref q16, .null, .null, .int 0]) rfl rfl (Nat.le_of_ble_eq_true rfl) fw_X6_67 rfl rfl dX6_init_136 ?_
  show GD Γ mX6_init (ND Γ 1 18 451 (QX6 Γ h)) 17 391 139 [(0, .ref h)] [] [(h, .inr (6, [.int (3 : Int32), .int 0, .ref q1, .ref q2, .ref q3, .ref q4, .ref q5, .ref q6, .ref q7, .int 0, .ref q8, .ref q9, .ref q10, .int (1 : Int32), .int 0, .ref q11, .ref q12, .ref q13, .ref q14, .ref q15, .ref q16, .ref q17, .null, .int 0])), (q1, ciN Γ 25 (fun _ => 0)), (q2, ciN Γ 5 (fun _ => 0)), (q3, ciN Γ 5 (fun _ => 0)), (q4, ciN Γ 5 (fun _ => 0)), (q5, czN Γ 5 (fun _ => 0)), (q6, ciN Γ 5 (fun _ => 0)), (q7, ciN Γ 12 (fun _ => 0)), (q8, cjN Γ 25 (fun _ => 0)), (q9, cjN Γ 32 (fun _ => 0)), (q10, ciN Γ 5 (fun _ => 0)), (q11, ciN Γ 5 (fun _ => 0)), (q12, ciN Γ 5 (fun _ => 0)), (q13, ciN Γ 5 (fun _ => 0)), (q14, czN Γ 4 (fun _ => 0)), (q15, ciN Γ 4 (fun _ => 0)), (q16, ciN Γ 4 (fun _ => 0)), (q17, ciN Γ 240 (fun _ => 0))]
  refine gd_aload_n (pc := 139) dX6_init_139 rfl 0 rfl ?_
  refine gd_bipush (pc := 140) (60 : Int32) dX6_init_140 rfl ?_
  refine gd_newI (pc := 142) (n' := 60) kac_I (by decide) (by decide) (by decide) (Nat.le_of_ble_eq_true rfl) (Nat.le_of_ble_eq_true rfl) dX6_init_142 (fun q18 => ?_)
  show GD Γ mX6_init (ND Γ 1 18 451 (QX6 Γ h)) 18 451 144 [(0, .ref h)] [.ref q18, .ref h] [(h, .inr (6, [.int (3 : Int32), .int 0, .ref q1, .ref q2, .ref q3, .ref q4, .ref q5, .ref q6, .ref q7, .int 0, .ref q8, .ref q9, .ref q10, .int (1 : Int32), .int 0, .ref q11, .ref q12, .ref q13, .ref q14, .ref q15, .ref q16, .ref q17, .null, .int 0])), (q1, ciN Γ 25 (fun _ => 0)), (q2, ciN Γ 5 (fun _ => 0)), (q3, ciN Γ 5 (fun _ => 0)), (q4, ciN Γ 5 (fun _ => 0)), (q5, czN Γ 5 (fun _ => 0)), (q6, ciN Γ 5 (fun _ => 0)), (q7, ciN Γ 12 (fun _ => 0)), (q8, cjN Γ 25 (fun _ => 0)), (q9, cjN Γ 32 (fun _ => 0)), (q10, ciN Γ 5 (fun _ => 0)), (q11, ciN Γ 5 (fun _ => 0)), (q12, ciN Γ 5 (fun _ => 0)), (q13, ciN Γ 5 (fun _ => 0)), (q14, czN Γ 4 (fun _ => 0)), (q15, ciN Γ 4 (fun _ => 0)), (q16, ciN Γ 4 (fun _ => 0)), (q17, ciN Γ 240 (fun _ => 0)), (q18, ciN Γ 60 (fun _ => 0))]
  refine gd_putF (pc := 144) (q0 := 0) (ci := 6) (k := 22) (fs := [.int (3 : Int32), .int 0, .ref q1, .ref q2, .ref q3, .ref q4, .ref q5, .ref q6, .ref q7, .int 0, .ref q8, .ref q9, .ref q10, .int (1 : Int32), .int 0, .ref q11, .ref q12, .ref q13, .ref q14, .ref q15, .ref q16, .ref q17, .null, .int 0]) rfl rfl (Nat.le_of_ble_eq_true rfl) fw_X6_70 rfl rfl dX6_init_144 ?_
  show GD Γ mX6_init (ND Γ 1 18 451 (QX6 Γ h)) 18 451 147 [(0, .ref h)] [] [(h, .inr (6, [.int (3 : Int32), .int 0, .ref q1, .ref q2, .ref q3, .ref q4, .ref q5, .ref q6, .ref q7, .int 0, .ref q8, .ref q9, .ref q10, .int (1 : Int32), .int 0, .ref q11, .ref q12, .ref q13, .ref q14, .ref q15, .ref q16, .ref q17, .ref q18, .int 0])), (q1, ciN Γ 25 (fun _ => 0)), (q2, ciN Γ 5 (fun _ => 0)), (q3, ciN Γ 5 (fun _ => 0)), (q4, ciN Γ 5 (fun _ => 0)), (q5, czN Γ 5 (fun _ => 0)), (q6, ciN Γ 5 (fun _ => 0)), (q7, ciN Γ 12 (fun _ => 0)), (q8, cjN Γ 25 (fun _ => 0)), (q9, cjN Γ 32 (fun _ => 0)), (q10, ciN Γ 5 (fun _ => 0)), (q11, ciN Γ 5 (fun _ => 0)), (q12, ciN Γ 5 (fun _ => 0)), (q13, ciN Γ 5 (fun _ => 0)), (q14, czN Γ 4 (fun _ => 0)), (q15, ciN Γ 4 (fun _ => 0)), (q16, ciN Γ 4 (fun _ => 0)), (q17, ciN Γ 240 (fun _ => 0)), (q18, ciN Γ 60 (fun _ => 0))]
  refine gd_iconst (pc := 147) (0 : Int32) dX6_init_147 rfl ?_
  refine gd_istore_n (pc := 148) [(1, _), (0, _)] dX6_init_148 rfl (Nat.le_of_ble_eq_true rfl) rfl ?_
  have hf := iX6_out (Γ := Γ) h q1 q2 q3 q4 q5 q6 q7 q8 q9 q10 q11 q12 q13 q14 q15 q16 q17 q18 0 (Nat.zero_le _)
  unfold wX6 at hf
  simp only [gn_0, c_0] at hf
  exact hf
