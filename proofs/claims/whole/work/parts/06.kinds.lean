/-! kinds of the cells -/
theorem g_callVI {Γ : GT} {M : MD} {N : NT} {pc : Nat} {ls : List (Nat × Value)} {st : List Value} {σ : St} {M' : MD} {np n n' idx a : Nat} {stk As : List Value} {Q0 : Int32 → St → Prop} (hd : decode M.2.1 pc = .ok (.invokevirtual idx, 3)) (hl : Cond.methodLink M.1.cls idx M'.1 ∈ gt) (ok : OkV M' np) (hlen : As.length = np) (hR : rmOk n N) (hn : n' + 1 ≤ n) (hrc : rc a M'.1.cls) (hrest : (st.map fun v => v.category).sum ≤ 8) (hst : stk = As.reverse ++ rf Γ a :: st) (hc : CtI Γ M' n' (rf Γ a :: As) σ Q0) (kk : ∀ r τ, Q0 r τ → G Γ M N (pc + 3) ls (.int r :: st) τ) : G Γ M N pc ls stk σ :=
  g_callV hd hl ok hlen hR hn hrc hrest hst hc (by rintro v τ ⟨r, rfl, hq⟩; exact kk r τ hq)
theorem g_callVJ {Γ : GT} {M : MD} {N : NT} {pc : Nat} {ls : List (Nat × Value)} {st : List Value} {σ : St} {M' : MD} {np n n' idx a : Nat} {stk As : List Value} {Q0 : Int64 → St → Prop} (hd : decode M.2.1 pc = .ok (.invokevirtual idx, 3)) (hl : Cond.methodLink M.1.cls idx M'.1 ∈ gt) (ok : OkV M' np) (hlen : As.length = np) (hR : rmOk n N) (hn : n' + 1 ≤ n) (hrc : rc a M'.1.cls) (hrest : (st.map fun v => v.category).sum ≤ 8) (hst : stk = As.reverse ++ rf Γ a :: st) (hc : CtJ Γ M' n' (rf Γ a :: As) σ Q0) (kk : ∀ r τ, Q0 r τ → G Γ M N (pc + 3) ls (.long r :: st) τ) : G Γ M N pc ls stk σ :=
  g_callV hd hl ok hlen hR hn hrc hrest hst hc (by rintro v τ ⟨r, rfl, hq⟩; exact kk r τ hq)
theorem g_callVV {Γ : GT} {M : MD} {N : NT} {pc : Nat} {ls : List (Nat × Value)} {st : List Value} {σ : St} {M' : MD} {np n n' idx a : Nat} {stk As : List Value} {Q0 : St → Prop} (hd : decode M.2.1 pc = .ok (.invokevirtual idx, 3)) (hl : Cond.methodLink M.1.cls idx M'.1 ∈ gt) (ok : OkV M' np) (hlen : As.length = np) (hR : rmOk n N) (hn : n' + 1 ≤ n) (hrc : rc a M'.1.cls) (hrest : (st.map fun v => v.category).sum ≤ 8) (hst : stk = As.reverse ++ rf Γ a :: st) (hc : CtV Γ M' n' (rf Γ a :: As) σ Q0) (kk : ∀ τ, Q0 τ → G Γ M N (pc + 3) ls st τ) : G Γ M N pc ls stk σ :=
  g_callV hd hl ok hlen hR hn hrc hrest hst hc (by rintro v τ ⟨rfl, hq⟩; exact kk τ hq)
theorem g_callSI {Γ : GT} {M : MD} {N : NT} {pc : Nat} {ls : List (Nat × Value)} {st : List Value} {σ : St} {M' : MD} {np n n' idx : Nat} {stk As : List Value} {Q0 : Int32 → St → Prop} (hd : decode M.2.1 pc = .ok (.invokestatic idx, 3)) (hl : Cond.methodLink M.1.cls idx M'.1 ∈ gt) (ok : OkS M' np) (hlen : As.length = np) (hR : rmOk n N) (hn : n' + 1 ≤ n) (hrest : (st.map fun v => v.category).sum ≤ 8) (hst : stk = As.reverse ++ st) (hc : CtI Γ M' n' As σ Q0) (kk : ∀ r τ, Q0 r τ → G Γ M N (pc + 3) ls (.int r :: st) τ) : G Γ M N pc ls stk σ :=
  g_callS hd hl ok hlen hR hn hrest hst hc (by rintro v τ ⟨r, rfl, hq⟩; exact kk r τ hq)
theorem g_callSJ {Γ : GT} {M : MD} {N : NT} {pc : Nat} {ls : List (Nat × Value)} {st : List Value} {σ : St} {M' : MD} {np n n' idx : Nat} {stk As : List Value} {Q0 : Int64 → St → Prop} (hd : decode M.2.1 pc = .ok (.invokestatic idx, 3)) (hl : Cond.methodLink M.1.cls idx M'.1 ∈ gt) (ok : OkS M' np) (hlen : As.length = np) (hR : rmOk n N) (hn : n' + 1 ≤ n) (hrest : (st.map fun v => v.category).sum ≤ 8) (hst : stk = As.reverse ++ st) (hc : CtJ Γ M' n' As σ Q0) (kk : ∀ r τ, Q0 r τ → G Γ M N (pc + 3) ls (.long r :: st) τ) : G Γ M N pc ls stk σ :=
  g_callS hd hl ok hlen hR hn hrest hst hc (by rintro v τ ⟨r, rfl, hq⟩; exact kk r τ hq)
theorem g_topI {Γ : GT} {M : MD} {N : NT} {pc : Nat} {ls : List (Nat × Value)} {st : List Value} {σ : St} {x : Int32} (k : ∀ y : Int32, y = x → G Γ M N pc ls (.int y :: st) σ) : G Γ M N pc ls (.int x :: st) σ := k x rfl
theorem g_topJ {Γ : GT} {M : MD} {N : NT} {pc : Nat} {ls : List (Nat × Value)} {st : List Value} {σ : St} {x : Int64} (k : ∀ y : Int64, y = x → G Γ M N pc ls (.long y :: st) σ) : G Γ M N pc ls (.long x :: st) σ := k x rfl
def isSh (a : Nat) : Prop := 17 ≤ a ∧ a < 21
theorem isSh_c {a : Nat} (h : isSh a) : a = 17 ∨ a = 18 ∨ a = 19 ∨ a = 20 := by unfold isSh at h; omega
theorem isSh_of {i : Int32} (h : vp_in i 4) : isSh (17 + i.toNatClampNeg) := by
  have : ¬ 4 ≤ i.toNatClampNeg := fun q => h (Or.inr q)
  unfold isSh; omega
theorem fi_sh0 {a : Nat} (h : isSh a) : fI a 2 0 := by rcases isSh_c h with rfl | rfl | rfl | rfl <;> exact ⟨by decide, fun _ _ _ => ⟨_, rfl, rfl⟩⟩
theorem fi_sh1 {a : Nat} (h : isSh a) : fI a 2 1 := by rcases isSh_c h with rfl | rfl | rfl | rfl <;> exact ⟨by decide, fun _ _ _ => ⟨_, rfl, rfl⟩⟩
theorem fpp_sh0 {a : Nat} (h : isSh a) : fP a 2 0 := by rcases isSh_c h with rfl | rfl | rfl | rfl <;> exact ⟨by decide, fun _ _ _ _ => ⟨_, rfl, Nat.le_of_ble_eq_true rfl, rfl⟩⟩
theorem fpp_sh1 {a : Nat} (h : isSh a) : fP a 2 1 := by rcases isSh_c h with rfl | rfl | rfl | rfl <;> exact ⟨by decide, fun _ _ _ _ => ⟨_, rfl, Nat.le_of_ble_eq_true rfl, rfl⟩⟩
theorem fr_sh {a : Nat} (h : isSh a) : fR a 2 2 (a + 4) := by rcases isSh_c h with rfl | rfl | rfl | rfl <;> exact ⟨by decide, fun _ _ _ => ⟨_, rfl, rfl⟩⟩
theorem ai_sh {a : Nat} (h : isSh a) : aI (a + 4) 60 := by rcases isSh_c h with rfl | rfl | rfl | rfl <;> exact ⟨by decide, fun _ _ _ => rfl⟩
theorem rc_sh {a : Nat} (h : isSh a) : rc a RX2 := by rcases isSh_c h with rfl | rfl | rfl | rfl <;> exact ⟨by decide, 2, _, rfl, rfl, fun _ _ _ => ⟨_, rfl⟩⟩
theorem rc_0 : rc 0 RX5 := ⟨by decide, 5, _, rfl, rfl, fun _ _ _ => ⟨_, rfl⟩⟩
theorem fi_0_5 : fI 0 5 5 := ⟨by decide, fun _ _ _ => ⟨_, rfl, rfl⟩⟩
theorem fpp_0_5 : fP 0 5 5 := ⟨by decide, fun _ _ _ _ => ⟨_, rfl, Nat.le_of_ble_eq_true rfl, rfl⟩⟩
theorem fr_0_0 : fR 0 5 0 1 := ⟨by decide, fun _ _ _ => ⟨_, rfl, rfl⟩⟩
theorem fr_0_1 : fR 0 5 1 7 := ⟨by decide, fun _ _ _ => ⟨_, rfl, rfl⟩⟩
theorem fr_0_2 : fR 0 5 2 11 := ⟨by decide, fun _ _ _ => ⟨_, rfl, rfl⟩⟩
theorem fr_0_3 : fR 0 5 3 14 := ⟨by decide, fun _ _ _ => ⟨_, rfl, rfl⟩⟩
theorem fr_0_4 : fR 0 5 4 16 := ⟨by decide, fun _ _ _ => ⟨_, rfl, rfl⟩⟩
theorem rc_1 : rc 1 RX1 := ⟨by decide, 1, _, rfl, rfl, fun _ _ _ => ⟨_, rfl⟩⟩
theorem fi_1_0 : fI 1 1 0 := ⟨by decide, fun _ _ _ => ⟨_, rfl, rfl⟩⟩
theorem fpp_1_0 : fP 1 1 0 := ⟨by decide, fun _ _ _ _ => ⟨_, rfl, Nat.le_of_ble_eq_true rfl, rfl⟩⟩
theorem fi_1_1 : fI 1 1 1 := ⟨by decide, fun _ _ _ => ⟨_, rfl, rfl⟩⟩
theorem fpp_1_1 : fP 1 1 1 := ⟨by decide, fun _ _ _ _ => ⟨_, rfl, Nat.le_of_ble_eq_true rfl, rfl⟩⟩
theorem fr_1_2 : fR 1 1 2 2 := ⟨by decide, fun _ _ _ => ⟨_, rfl, rfl⟩⟩
theorem fr_1_3 : fR 1 1 3 3 := ⟨by decide, fun _ _ _ => ⟨_, rfl, rfl⟩⟩
theorem fr_1_4 : fR 1 1 4 4 := ⟨by decide, fun _ _ _ => ⟨_, rfl, rfl⟩⟩
theorem fr_1_5 : fR 1 1 5 5 := ⟨by decide, fun _ _ _ => ⟨_, rfl, rfl⟩⟩
theorem fr_1_6 : fR 1 1 6 6 := ⟨by decide, fun _ _ _ => ⟨_, rfl, rfl⟩⟩
theorem rc_7 : rc 7 RX0 := ⟨by decide, 0, _, rfl, rfl, fun _ _ _ => ⟨_, rfl⟩⟩
theorem fr_7_0 : fR 7 0 0 1 := ⟨by decide, fun _ _ _ => ⟨_, rfl, rfl⟩⟩
theorem fr_7_1 : fR 7 0 1 8 := ⟨by decide, fun _ _ _ => ⟨_, rfl, rfl⟩⟩
theorem fr_7_2 : fR 7 0 2 9 := ⟨by decide, fun _ _ _ => ⟨_, rfl, rfl⟩⟩
theorem fr_7_3 : fR 7 0 3 10 := ⟨by decide, fun _ _ _ => ⟨_, rfl, rfl⟩⟩
theorem rc_11 : rc 11 RX4 := ⟨by decide, 4, _, rfl, rfl, fun _ _ _ => ⟨_, rfl⟩⟩
theorem fi_11_0 : fI 11 4 0 := ⟨by decide, fun _ _ _ => ⟨_, rfl, rfl⟩⟩
theorem fpp_11_0 : fP 11 4 0 := ⟨by decide, fun _ _ _ _ => ⟨_, rfl, Nat.le_of_ble_eq_true rfl, rfl⟩⟩
theorem fr_11_1 : fR 11 4 1 12 := ⟨by decide, fun _ _ _ => ⟨_, rfl, rfl⟩⟩
theorem fr_11_2 : fR 11 4 2 1 := ⟨by decide, fun _ _ _ => ⟨_, rfl, rfl⟩⟩
theorem fr_11_3 : fR 11 4 3 13 := ⟨by decide, fun _ _ _ => ⟨_, rfl, rfl⟩⟩
theorem rc_14 : rc 14 RX3 := ⟨by decide, 3, _, rfl, rfl, fun _ _ _ => ⟨_, rfl⟩⟩
theorem fi_14_0 : fI 14 3 0 := ⟨by decide, fun _ _ _ => ⟨_, rfl, rfl⟩⟩
theorem fpp_14_0 : fP 14 3 0 := ⟨by decide, fun _ _ _ _ => ⟨_, rfl, Nat.le_of_ble_eq_true rfl, rfl⟩⟩
theorem fr_14_1 : fR 14 3 1 15 := ⟨by decide, fun _ _ _ => ⟨_, rfl, rfl⟩⟩
theorem rc_25 : rc 25 RX6 := ⟨by decide, 6, _, rfl, rfl, fun _ _ _ => ⟨_, rfl⟩⟩
theorem fi_25_0 : fI 25 6 0 := ⟨by decide, fun _ _ _ => ⟨_, rfl, rfl⟩⟩
theorem fpp_25_0 : fP 25 6 0 := ⟨by decide, fun _ _ _ _ => ⟨_, rfl, Nat.le_of_ble_eq_true rfl, rfl⟩⟩
theorem fi_25_1 : fI 25 6 1 := ⟨by decide, fun _ _ _ => ⟨_, rfl, rfl⟩⟩
theorem fpp_25_1 : fP 25 6 1 := ⟨by decide, fun _ _ _ _ => ⟨_, rfl, Nat.le_of_ble_eq_true rfl, rfl⟩⟩
theorem fi_25_9 : fI 25 6 9 := ⟨by decide, fun _ _ _ => ⟨_, rfl, rfl⟩⟩
theorem fpp_25_9 : fP 25 6 9 := ⟨by decide, fun _ _ _ _ => ⟨_, rfl, Nat.le_of_ble_eq_true rfl, rfl⟩⟩
theorem fi_25_13 : fI 25 6 13 := ⟨by decide, fun _ _ _ => ⟨_, rfl, rfl⟩⟩
theorem fpp_25_13 : fP 25 6 13 := ⟨by decide, fun _ _ _ _ => ⟨_, rfl, Nat.le_of_ble_eq_true rfl, rfl⟩⟩
theorem fi_25_14 : fI 25 6 14 := ⟨by decide, fun _ _ _ => ⟨_, rfl, rfl⟩⟩
theorem fpp_25_14 : fP 25 6 14 := ⟨by decide, fun _ _ _ _ => ⟨_, rfl, Nat.le_of_ble_eq_true rfl, rfl⟩⟩
theorem fi_25_23 : fI 25 6 23 := ⟨by decide, fun _ _ _ => ⟨_, rfl, rfl⟩⟩
theorem fpp_25_23 : fP 25 6 23 := ⟨by decide, fun _ _ _ _ => ⟨_, rfl, Nat.le_of_ble_eq_true rfl, rfl⟩⟩
theorem fr_25_2 : fR 25 6 2 26 := ⟨by decide, fun _ _ _ => ⟨_, rfl, rfl⟩⟩
theorem fr_25_3 : fR 25 6 3 27 := ⟨by decide, fun _ _ _ => ⟨_, rfl, rfl⟩⟩
theorem fr_25_4 : fR 25 6 4 28 := ⟨by decide, fun _ _ _ => ⟨_, rfl, rfl⟩⟩
theorem fr_25_5 : fR 25 6 5 29 := ⟨by decide, fun _ _ _ => ⟨_, rfl, rfl⟩⟩
theorem fr_25_6 : fR 25 6 6 30 := ⟨by decide, fun _ _ _ => ⟨_, rfl, rfl⟩⟩
theorem fr_25_7 : fR 25 6 7 31 := ⟨by decide, fun _ _ _ => ⟨_, rfl, rfl⟩⟩
theorem fr_25_8 : fR 25 6 8 32 := ⟨by decide, fun _ _ _ => ⟨_, rfl, rfl⟩⟩
theorem fr_25_10 : fR 25 6 10 33 := ⟨by decide, fun _ _ _ => ⟨_, rfl, rfl⟩⟩
theorem fr_25_11 : fR 25 6 11 34 := ⟨by decide, fun _ _ _ => ⟨_, rfl, rfl⟩⟩
theorem fr_25_12 : fR 25 6 12 35 := ⟨by decide, fun _ _ _ => ⟨_, rfl, rfl⟩⟩
theorem fr_25_15 : fR 25 6 15 36 := ⟨by decide, fun _ _ _ => ⟨_, rfl, rfl⟩⟩
theorem fr_25_16 : fR 25 6 16 37 := ⟨by decide, fun _ _ _ => ⟨_, rfl, rfl⟩⟩
theorem fr_25_17 : fR 25 6 17 38 := ⟨by decide, fun _ _ _ => ⟨_, rfl, rfl⟩⟩
theorem fr_25_18 : fR 25 6 18 39 := ⟨by decide, fun _ _ _ => ⟨_, rfl, rfl⟩⟩
theorem fr_25_19 : fR 25 6 19 40 := ⟨by decide, fun _ _ _ => ⟨_, rfl, rfl⟩⟩
theorem fr_25_20 : fR 25 6 20 41 := ⟨by decide, fun _ _ _ => ⟨_, rfl, rfl⟩⟩
theorem fr_25_21 : fR 25 6 21 42 := ⟨by decide, fun _ _ _ => ⟨_, rfl, rfl⟩⟩
theorem fr_25_22 : fR 25 6 22 43 := ⟨by decide, fun _ _ _ => ⟨_, rfl, rfl⟩⟩
theorem ar_2 : aI 2 25 := ⟨by decide, fun _ _ _ => rfl⟩
theorem ar_3 : aI 3 5 := ⟨by decide, fun _ _ _ => rfl⟩
theorem ar_4 : aI 4 5 := ⟨by decide, fun _ _ _ => rfl⟩
theorem ar_5 : aI 5 5 := ⟨by decide, fun _ _ _ => rfl⟩
theorem ar_6 : aI 6 5 := ⟨by decide, fun _ _ _ => rfl⟩
theorem ar_8 : aJ 8 25 := ⟨by decide, fun _ _ _ => rfl⟩
theorem ar_9 : aJ 9 32 := ⟨by decide, fun _ _ _ => rfl⟩
theorem ar_10 : aI 10 5 := ⟨by decide, fun _ _ _ => rfl⟩
theorem ar_12 : aI 12 5 := ⟨by decide, fun _ _ _ => rfl⟩
theorem ar_13 : aI 13 5 := ⟨by decide, fun _ _ _ => rfl⟩
theorem ar_15 : aI 15 12 := ⟨by decide, fun _ _ _ => rfl⟩
theorem ar_21 : aI 21 60 := ⟨by decide, fun _ _ _ => rfl⟩
theorem ar_22 : aI 22 60 := ⟨by decide, fun _ _ _ => rfl⟩
theorem ar_23 : aI 23 60 := ⟨by decide, fun _ _ _ => rfl⟩
theorem ar_24 : aI 24 60 := ⟨by decide, fun _ _ _ => rfl⟩
theorem ar_26 : aI 26 25 := ⟨by decide, fun _ _ _ => rfl⟩
theorem ar_27 : aI 27 5 := ⟨by decide, fun _ _ _ => rfl⟩
theorem ar_28 : aI 28 5 := ⟨by decide, fun _ _ _ => rfl⟩
theorem ar_29 : aI 29 5 := ⟨by decide, fun _ _ _ => rfl⟩
theorem ar_30 : aZ 30 5 := ⟨by decide, fun _ _ _ => rfl⟩
theorem ar_31 : aI 31 5 := ⟨by decide, fun _ _ _ => rfl⟩
theorem ar_32 : aI 32 12 := ⟨by decide, fun _ _ _ => rfl⟩
theorem ar_33 : aJ 33 25 := ⟨by decide, fun _ _ _ => rfl⟩
theorem ar_34 : aJ 34 32 := ⟨by decide, fun _ _ _ => rfl⟩
theorem ar_35 : aI 35 5 := ⟨by decide, fun _ _ _ => rfl⟩
theorem ar_36 : aI 36 5 := ⟨by decide, fun _ _ _ => rfl⟩
theorem ar_37 : aI 37 5 := ⟨by decide, fun _ _ _ => rfl⟩
theorem ar_38 : aI 38 5 := ⟨by decide, fun _ _ _ => rfl⟩
theorem ar_39 : aZ 39 4 := ⟨by decide, fun _ _ _ => rfl⟩
theorem ar_40 : aI 40 4 := ⟨by decide, fun _ _ _ => rfl⟩
theorem ar_41 : aI 41 4 := ⟨by decide, fun _ _ _ => rfl⟩
theorem ar_42 : aI 42 240 := ⟨by decide, fun _ _ _ => rfl⟩
theorem ar_43 : aI 43 60 := ⟨by decide, fun _ _ _ => rfl⟩
