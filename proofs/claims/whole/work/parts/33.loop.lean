/-! the law's loop -/
section LOOP
variable {Γ : GT} {N : NT} {b L : Nat} {xs : Nat → Int32} {σ : St}
theorem w_L_0 (hR : rmOk 10 N) (hE : ∀ s A, N.2.2.2.2 s A → va_X b L xs s s.heap ∧ b < s.heap.size ∧ ¬ A b) (hr : Rel σ) (x3 : Int32) (hv : vp_in (x3 + 1) L ∧ vp_in (x3 + 2) L ∧ vp_in (x3 + 3) L ∧ vp_in (x3 + 4) L ∧ vp_in (x3 + 5) L ∧ True) (hn : ∀ τ, Rel τ → G Γ mL_law N 18 [(0, .ref b), (1, rf Γ 0), (2, rf Γ 25), (3, .int (x3 + 6))] [] τ) : G Γ mL_law N 188 [(0, .ref b), (1, rf Γ 0), (2, rf Γ 25), (3, .int x3)] [] σ := by
  apply t_L_law_188 hR hE
  obtain ⟨Q1, hc, hk⟩ := o_senders (Γ := Γ) hr (xs (x3 + (1 : Int32)).toNatClampNeg)
  refine ⟨hv.1, Q1, hc, fun r τ hq => ?_⟩
  obtain ⟨Q2, hc2, hk2⟩ := hk r τ hq
  exact ⟨hv.1, Q2, hc2, fun r' τ' hq' => ⟨fun _ => hn τ' (hk2 r' τ' hq').2, fun z => z (hk2 r' τ' hq').1⟩⟩
theorem w_L_1 (hR : rmOk 10 N) (hE : ∀ s A, N.2.2.2.2 s A → va_X b L xs s s.heap ∧ b < s.heap.size ∧ ¬ A b) (hr : Rel σ) (x3 : Int32) (hv : vp_in (x3 + 1) L ∧ vp_in (x3 + 2) L ∧ vp_in (x3 + 3) L ∧ vp_in (x3 + 4) L ∧ vp_in (x3 + 5) L ∧ True) (hn : ∀ τ, Rel τ → G Γ mL_law N 18 [(0, .ref b), (1, rf Γ 0), (2, rf Γ 25), (3, .int (x3 + 6))] [] τ) : G Γ mL_law N 211 [(0, .ref b), (1, rf Γ 0), (2, rf Γ 25), (3, .int x3)] [] σ := by
  apply t_L_law_211 hR hE
  obtain ⟨Q1, hc, hk⟩ := o_gain (Γ := Γ) hr (xs (x3 + (1 : Int32)).toNatClampNeg) (xs (x3 + (2 : Int32)).toNatClampNeg) (xs (x3 + (3 : Int32)).toNatClampNeg)
  refine ⟨hv.1, hv.2.1, hv.2.2.1, Q1, hc, fun r τ hq => ?_⟩
  obtain ⟨Q2, hc2, hk2⟩ := hk r τ hq
  exact ⟨hv.1, hv.2.1, hv.2.2.1, Q2, hc2, fun r' τ' hq' => ⟨fun _ => hn τ' (hk2 r' τ' hq').2, fun z => z (hk2 r' τ' hq').1⟩⟩
theorem w_L_2 (hR : rmOk 10 N) (hE : ∀ s A, N.2.2.2.2 s A → va_X b L xs s s.heap ∧ b < s.heap.size ∧ ¬ A b) (hr : Rel σ) (x3 : Int32) (hv : vp_in (x3 + 1) L ∧ vp_in (x3 + 2) L ∧ vp_in (x3 + 3) L ∧ vp_in (x3 + 4) L ∧ vp_in (x3 + 5) L ∧ True) (hn : ∀ τ, Rel τ → G Γ mL_law N 18 [(0, .ref b), (1, rf Γ 0), (2, rf Γ 25), (3, .int (x3 + 6))] [] τ) : G Γ mL_law N 254 [(0, .ref b), (1, rf Γ 0), (2, rf Γ 25), (3, .int x3)] [] σ := by
  apply t_L_law_254 hR hE
  obtain ⟨Q1, hc, hk⟩ := o_set (Γ := Γ) hr (xs (x3 + (1 : Int32)).toNatClampNeg) (xs (x3 + (2 : Int32)).toNatClampNeg) (xs (x3 + (3 : Int32)).toNatClampNeg)
  refine ⟨hv.1, hv.2.1, hv.2.2.1, Q1, hc, fun r τ hq => ?_⟩
  obtain ⟨Q2, hc2, hk2⟩ := hk r τ hq
  exact ⟨hv.1, hv.2.1, hv.2.2.1, Q2, hc2, fun r' τ' hq' => ⟨fun _ => hn τ' (hk2 r' τ' hq').2, fun z => z (hk2 r' τ' hq').1⟩⟩
theorem w_L_3 (hR : rmOk 10 N) (hE : ∀ s A, N.2.2.2.2 s A → va_X b L xs s s.heap ∧ b < s.heap.size ∧ ¬ A b) (hr : Rel σ) (x3 : Int32) (hv : vp_in (x3 + 1) L ∧ vp_in (x3 + 2) L ∧ vp_in (x3 + 3) L ∧ vp_in (x3 + 4) L ∧ vp_in (x3 + 5) L ∧ True) (hn : ∀ τ, Rel τ → G Γ mL_law N 18 [(0, .ref b), (1, rf Γ 0), (2, rf Γ 25), (3, .int (x3 + 6))] [] τ) : G Γ mL_law N 297 [(0, .ref b), (1, rf Γ 0), (2, rf Γ 25), (3, .int x3)] [] σ := by
  apply t_L_law_297 hR hE
  obtain ⟨Q1, hc, hk⟩ := o_on (Γ := Γ) hr (xs (x3 + (1 : Int32)).toNatClampNeg)
  refine ⟨hv.1, Q1, hc, fun r τ hq => ?_⟩
  obtain ⟨Q2, hc2, hk2⟩ := hk r τ hq
  exact ⟨hv.1, Q2, hc2, fun r' τ' hq' => ⟨fun _ => hn τ' (hk2 r' τ' hq').2, fun z => z (hk2 r' τ' hq').1⟩⟩
theorem w_L_4 (hR : rmOk 10 N) (hE : ∀ s A, N.2.2.2.2 s A → va_X b L xs s s.heap ∧ b < s.heap.size ∧ ¬ A b) (hr : Rel σ) (x3 : Int32) (hv : vp_in (x3 + 1) L ∧ vp_in (x3 + 2) L ∧ vp_in (x3 + 3) L ∧ vp_in (x3 + 4) L ∧ vp_in (x3 + 5) L ∧ True) (hn : ∀ τ, Rel τ → G Γ mL_law N 18 [(0, .ref b), (1, rf Γ 0), (2, rf Γ 25), (3, .int (x3 + 6))] [] τ) : G Γ mL_law N 320 [(0, .ref b), (1, rf Γ 0), (2, rf Γ 25), (3, .int x3)] [] σ := by
  apply t_L_law_320 hR hE
  obtain ⟨Q1, hc, hk⟩ := o_power (Γ := Γ) hr (xs (x3 + (1 : Int32)).toNatClampNeg) (xs (x3 + (2 : Int32)).toNatClampNeg)
  refine ⟨hv.1, hv.2.1, Q1, hc, fun r τ hq => ?_⟩
  obtain ⟨Q2, hc2, hk2⟩ := hk r τ hq
  exact ⟨hv.1, hv.2.1, Q2, hc2, fun r' τ' hq' => ⟨fun _ => hn τ' (hk2 r' τ' hq').2, fun z => z (hk2 r' τ' hq').1⟩⟩
theorem w_L_5 (hR : rmOk 10 N) (hE : ∀ s A, N.2.2.2.2 s A → va_X b L xs s s.heap ∧ b < s.heap.size ∧ ¬ A b) (hr : Rel σ) (x3 : Int32) (hv : vp_in (x3 + 1) L ∧ vp_in (x3 + 2) L ∧ vp_in (x3 + 3) L ∧ vp_in (x3 + 4) L ∧ vp_in (x3 + 5) L ∧ True) (hn : ∀ τ, Rel τ → G Γ mL_law N 18 [(0, .ref b), (1, rf Γ 0), (2, rf Γ 25), (3, .int (x3 + 6))] [] τ) : G Γ mL_law N 353 [(0, .ref b), (1, rf Γ 0), (2, rf Γ 25), (3, .int x3)] [] σ := by
  apply t_L_law_353 hR hE
  obtain ⟨Q1, hc, hk⟩ := o_rule (Γ := Γ) hr (xs (x3 + (1 : Int32)).toNatClampNeg)
  refine ⟨hv.1, Q1, hc, fun r τ hq => ?_⟩
  obtain ⟨Q2, hc2, hk2⟩ := hk r τ hq
  exact ⟨hv.1, Q2, hc2, fun r' τ' hq' => ⟨fun _ => hn τ' (hk2 r' τ' hq').2, fun z => z (hk2 r' τ' hq').1⟩⟩
theorem w_L_6 (hR : rmOk 10 N) (hE : ∀ s A, N.2.2.2.2 s A → va_X b L xs s s.heap ∧ b < s.heap.size ∧ ¬ A b) (hr : Rel σ) (x3 : Int32) (hv : vp_in (x3 + 1) L ∧ vp_in (x3 + 2) L ∧ vp_in (x3 + 3) L ∧ vp_in (x3 + 4) L ∧ vp_in (x3 + 5) L ∧ True) (hn : ∀ τ, Rel τ → G Γ mL_law N 18 [(0, .ref b), (1, rf Γ 0), (2, rf Γ 25), (3, .int (x3 + 6))] [] τ) : G Γ mL_law N 376 [(0, .ref b), (1, rf Γ 0), (2, rf Γ 25), (3, .int x3)] [] σ := by
  apply t_L_law_376 hR hE
  obtain ⟨Q1, hc, hk⟩ := o_type (Γ := Γ) hr (xs (x3 + (1 : Int32)).toNatClampNeg)
  refine ⟨hv.1, Q1, hc, fun r τ hq => ?_⟩
  obtain ⟨Q2, hc2, hk2⟩ := hk r τ hq
  exact ⟨hv.1, Q2, hc2, fun r' τ' hq' => ⟨fun _ => hn τ' (hk2 r' τ' hq').2, fun z => z (hk2 r' τ' hq').1⟩⟩
theorem w_L_7 (hR : rmOk 10 N) (hE : ∀ s A, N.2.2.2.2 s A → va_X b L xs s s.heap ∧ b < s.heap.size ∧ ¬ A b) (hr : Rel σ) (x3 : Int32) (hv : vp_in (x3 + 1) L ∧ vp_in (x3 + 2) L ∧ vp_in (x3 + 3) L ∧ vp_in (x3 + 4) L ∧ vp_in (x3 + 5) L ∧ True) (hn : ∀ τ, Rel τ → G Γ mL_law N 18 [(0, .ref b), (1, rf Γ 0), (2, rf Γ 25), (3, .int (x3 + 6))] [] τ) : G Γ mL_law N 399 [(0, .ref b), (1, rf Γ 0), (2, rf Γ 25), (3, .int x3)] [] σ := by
  apply t_L_law_399 hR hE
  obtain ⟨Q1, hc, hk⟩ := o_wipe (Γ := Γ) hr 
  refine ⟨Q1, hc, fun r τ hq => ?_⟩
  obtain ⟨Q2, hc2, hk2⟩ := hk r τ hq
  exact ⟨Q2, hc2, fun r' τ' hq' => ⟨fun _ => hn τ' (hk2 r' τ' hq').2, fun z => z (hk2 r' τ' hq').1⟩⟩
theorem w_L_8 (hR : rmOk 10 N) (hE : ∀ s A, N.2.2.2.2 s A → va_X b L xs s s.heap ∧ b < s.heap.size ∧ ¬ A b) (hr : Rel σ) (x3 : Int32) (hv : vp_in (x3 + 1) L ∧ vp_in (x3 + 2) L ∧ vp_in (x3 + 3) L ∧ vp_in (x3 + 4) L ∧ vp_in (x3 + 5) L ∧ True) (hn : ∀ τ, Rel τ → G Γ mL_law N 18 [(0, .ref b), (1, rf Γ 0), (2, rf Γ 25), (3, .int (x3 + 6))] [] τ) : G Γ mL_law N 412 [(0, .ref b), (1, rf Γ 0), (2, rf Γ 25), (3, .int x3)] [] σ := by
  apply t_L_law_412 hR hE
  obtain ⟨Q1, hc, hk⟩ := o_fault (Γ := Γ) hr 
  refine ⟨Q1, hc, fun r τ hq => ?_⟩
  obtain ⟨Q2, hc2, hk2⟩ := hk r τ hq
  exact ⟨Q2, hc2, fun r' τ' hq' => ⟨fun _ => hn τ' (hk2 r' τ' hq').2, fun z => z (hk2 r' τ' hq').1⟩⟩
theorem w_L_9 (hR : rmOk 10 N) (hE : ∀ s A, N.2.2.2.2 s A → va_X b L xs s s.heap ∧ b < s.heap.size ∧ ¬ A b) (hr : Rel σ) (x3 : Int32) (hv : vp_in (x3 + 1) L ∧ vp_in (x3 + 2) L ∧ vp_in (x3 + 3) L ∧ vp_in (x3 + 4) L ∧ vp_in (x3 + 5) L ∧ True) (hn : ∀ τ, Rel τ → G Γ mL_law N 18 [(0, .ref b), (1, rf Γ 0), (2, rf Γ 25), (3, .int (x3 + 6))] [] τ) : G Γ mL_law N 425 [(0, .ref b), (1, rf Γ 0), (2, rf Γ 25), (3, .int x3)] [] σ := by
  apply t_L_law_425 hR hE
  obtain ⟨Q1, hc, hk⟩ := o_read (Γ := Γ) hr (xs (x3 + (1 : Int32)).toNatClampNeg)
  refine ⟨hv.1, Q1, hc, fun r τ hq => ?_⟩
  obtain ⟨Q2, hc2, hk2⟩ := hk r τ hq
  exact ⟨hv.1, Q2, hc2, fun r' τ' hq' => ⟨fun _ => hn τ' (hk2 r' τ' hq').2, fun z => z (hk2 r' τ' hq').1⟩⟩
theorem w_L_10 (hR : rmOk 10 N) (hE : ∀ s A, N.2.2.2.2 s A → va_X b L xs s s.heap ∧ b < s.heap.size ∧ ¬ A b) (hr : Rel σ) (x3 : Int32) (hv : vp_in (x3 + 1) L ∧ vp_in (x3 + 2) L ∧ vp_in (x3 + 3) L ∧ vp_in (x3 + 4) L ∧ vp_in (x3 + 5) L ∧ True) (hn : ∀ τ, Rel τ → G Γ mL_law N 18 [(0, .ref b), (1, rf Γ 0), (2, rf Γ 25), (3, .int (x3 + 6))] [] τ) : G Γ mL_law N 448 [(0, .ref b), (1, rf Γ 0), (2, rf Γ 25), (3, .int x3)] [] σ := by
  apply t_L_law_448 hR hE
  obtain ⟨Q1, hc, hk⟩ := o_info (Γ := Γ) hr (xs (x3 + (1 : Int32)).toNatClampNeg) (xs (x3 + (2 : Int32)).toNatClampNeg)
  refine ⟨hv.1, hv.2.1, Q1, hc, fun r τ hq => ?_⟩
  obtain ⟨Q2, hc2, hk2⟩ := hk r τ hq
  exact ⟨hv.1, hv.2.1, Q2, hc2, fun r' τ' hq' => ⟨fun _ => hn τ' (hk2 r' τ' hq').2, fun z => z (hk2 r' τ' hq').1⟩⟩
theorem w_L_11 (hR : rmOk 10 N) (hE : ∀ s A, N.2.2.2.2 s A → va_X b L xs s s.heap ∧ b < s.heap.size ∧ ¬ A b) (hr : Rel σ) (x3 : Int32) (hv : vp_in (x3 + 1) L ∧ vp_in (x3 + 2) L ∧ vp_in (x3 + 3) L ∧ vp_in (x3 + 4) L ∧ vp_in (x3 + 5) L ∧ True) (hn : ∀ τ, Rel τ → G Γ mL_law N 18 [(0, .ref b), (1, rf Γ 0), (2, rf Γ 25), (3, .int (x3 + 6))] [] τ) : G Γ mL_law N 481 [(0, .ref b), (1, rf Γ 0), (2, rf Γ 25), (3, .int x3)] [] σ := by
  apply t_L_law_481 hR hE
  obtain ⟨Q1, hc, hk⟩ := o_heard (Γ := Γ) hr (xs (x3 + (1 : Int32)).toNatClampNeg) (xs (x3 + (2 : Int32)).toNatClampNeg)
  refine ⟨hv.1, hv.2.1, Q1, hc, fun r τ hq => ?_⟩
  obtain ⟨Q2, hc2, hk2⟩ := hk r τ hq
  exact ⟨hv.1, hv.2.1, Q2, hc2, fun r' τ' hq' => ⟨fun _ => hn τ' (hk2 r' τ' hq').2, fun z => z (hk2 r' τ' hq').1⟩⟩
theorem w_L_12 (hR : rmOk 10 N) (hE : ∀ s A, N.2.2.2.2 s A → va_X b L xs s s.heap ∧ b < s.heap.size ∧ ¬ A b) (hr : Rel σ) (x3 : Int32) (hv : vp_in (x3 + 1) L ∧ vp_in (x3 + 2) L ∧ vp_in (x3 + 3) L ∧ vp_in (x3 + 4) L ∧ vp_in (x3 + 5) L ∧ True) (hn : ∀ τ, Rel τ → G Γ mL_law N 18 [(0, .ref b), (1, rf Γ 0), (2, rf Γ 25), (3, .int (x3 + 6))] [] τ) : G Γ mL_law N 514 [(0, .ref b), (1, rf Γ 0), (2, rf Γ 25), (3, .int x3)] [] σ := by
  apply t_L_law_514 hR hE
  obtain ⟨Q1, hc, hk⟩ := o_minor (Γ := Γ) hr (xs (x3 + (1 : Int32)).toNatClampNeg)
  refine ⟨hv.1, Q1, hc, fun r τ hq => ?_⟩
  obtain ⟨Q2, hc2, hk2⟩ := hk r τ hq
  exact ⟨hv.1, Q2, hc2, fun r' τ' hq' => ⟨fun _ => hn τ' (hk2 r' τ' hq').2, fun z => z (hk2 r' τ' hq').1⟩⟩
theorem w_L_13 (hR : rmOk 10 N) (hE : ∀ s A, N.2.2.2.2 s A → va_X b L xs s s.heap ∧ b < s.heap.size ∧ ¬ A b) (hr : Rel σ) (x3 : Int32) (hv : vp_in (x3 + 1) L ∧ vp_in (x3 + 2) L ∧ vp_in (x3 + 3) L ∧ vp_in (x3 + 4) L ∧ vp_in (x3 + 5) L ∧ True) (hn : ∀ τ, Rel τ → G Γ mL_law N 18 [(0, .ref b), (1, rf Γ 0), (2, rf Γ 25), (3, .int (x3 + 6))] [] τ) : G Γ mL_law N 538 [(0, .ref b), (1, rf Γ 0), (2, rf Γ 25), (3, .int x3)] [] σ := by
  apply t_L_law_538 hR hE
  obtain ⟨Q1, hc, hk⟩ := o_feasible (Γ := Γ) hr 
  refine ⟨Q1, hc, fun r τ hq => ?_⟩
  obtain ⟨Q2, hc2, hk2⟩ := hk r τ hq
  exact ⟨Q2, hc2, fun r' τ' hq' => ⟨fun _ => hn τ' (hk2 r' τ' hq').2, fun z => z (hk2 r' τ' hq').1⟩⟩
theorem w_L_14 (hR : rmOk 10 N) (hE : ∀ s A, N.2.2.2.2 s A → va_X b L xs s s.heap ∧ b < s.heap.size ∧ ¬ A b) (hr : Rel σ) (x3 : Int32) (hv : vp_in (x3 + 1) L ∧ vp_in (x3 + 2) L ∧ vp_in (x3 + 3) L ∧ vp_in (x3 + 4) L ∧ vp_in (x3 + 5) L ∧ True) (hn : ∀ τ, Rel τ → G Γ mL_law N 18 [(0, .ref b), (1, rf Γ 0), (2, rf Γ 25), (3, .int (x3 + 6))] [] τ) : G Γ mL_law N 551 [(0, .ref b), (1, rf Γ 0), (2, rf Γ 25), (3, .int x3)] [] σ := by
  apply t_L_law_551 hR hE
  obtain ⟨Q1, hc, hk⟩ := o_least (Γ := Γ) hr (xs (x3 + (1 : Int32)).toNatClampNeg) (xs (x3 + (2 : Int32)).toNatClampNeg)
  refine ⟨hv.1, hv.2.1, Q1, hc, fun r τ hq => ?_⟩
  obtain ⟨Q2, hc2, hk2⟩ := hk r τ hq
  exact ⟨hv.1, hv.2.1, Q2, hc2, fun r' τ' hq' => ⟨fun _ => hn τ' (hk2 r' τ' hq').2, fun z => z (hk2 r' τ' hq').1⟩⟩
theorem w_L_15 (hR : rmOk 10 N) (hE : ∀ s A, N.2.2.2.2 s A → va_X b L xs s s.heap ∧ b < s.heap.size ∧ ¬ A b) (hr : Rel σ) (x3 : Int32) (hv : vp_in (x3 + 1) L ∧ vp_in (x3 + 2) L ∧ vp_in (x3 + 3) L ∧ vp_in (x3 + 4) L ∧ vp_in (x3 + 5) L ∧ True) (hn : ∀ τ, Rel τ → G Γ mL_law N 18 [(0, .ref b), (1, rf Γ 0), (2, rf Γ 25), (3, .int (x3 + 6))] [] τ) : G Γ mL_law N 585 [(0, .ref b), (1, rf Γ 0), (2, rf Γ 25), (3, .int x3)] [] σ := by
  apply t_L_law_585 hR hE
  obtain ⟨Q1, hc, hk⟩ := o_witness (Γ := Γ) hr 
  refine ⟨Q1, hc, fun r τ hq => ?_⟩
  obtain ⟨Q2, hc2, hk2⟩ := hk r τ hq
  exact ⟨Q2, hc2, fun r' τ' hq' => ⟨fun _ => hn τ' (hk2 r' τ' hq').2, fun z => z (hk2 r' τ' hq').1⟩⟩
theorem w_L_16 (hR : rmOk 10 N) (hE : ∀ s A, N.2.2.2.2 s A → va_X b L xs s s.heap ∧ b < s.heap.size ∧ ¬ A b) (hr : Rel σ) (x3 : Int32) (hv : vp_in (x3 + 1) L ∧ vp_in (x3 + 2) L ∧ vp_in (x3 + 3) L ∧ vp_in (x3 + 4) L ∧ vp_in (x3 + 5) L ∧ True) (hn : ∀ τ, Rel τ → G Γ mL_law N 18 [(0, .ref b), (1, rf Γ 0), (2, rf Γ 25), (3, .int (x3 + 6))] [] τ) : G Γ mL_law N 598 [(0, .ref b), (1, rf Γ 0), (2, rf Γ 25), (3, .int x3)] [] σ := by
  apply t_L_law_598 hR hE
  obtain ⟨Q1, hc, hk⟩ := o_out (Γ := Γ) hr 
  refine ⟨Q1, hc, fun r τ hq => ?_⟩
  obtain ⟨Q2, hc2, hk2⟩ := hk r τ hq
  exact ⟨Q2, hc2, fun r' τ' hq' => ⟨fun _ => hn τ' (hk2 r' τ' hq').2, fun z => z (hk2 r' τ' hq').1⟩⟩
theorem w_L_17 (hR : rmOk 10 N) (hE : ∀ s A, N.2.2.2.2 s A → va_X b L xs s s.heap ∧ b < s.heap.size ∧ ¬ A b) (hr : Rel σ) (x3 : Int32) (hv : vp_in (x3 + 1) L ∧ vp_in (x3 + 2) L ∧ vp_in (x3 + 3) L ∧ vp_in (x3 + 4) L ∧ vp_in (x3 + 5) L ∧ True) (hn : ∀ τ, Rel τ → G Γ mL_law N 18 [(0, .ref b), (1, rf Γ 0), (2, rf Γ 25), (3, .int (x3 + 6))] [] τ) : G Γ mL_law N 611 [(0, .ref b), (1, rf Γ 0), (2, rf Γ 25), (3, .int x3)] [] σ := by
  apply t_L_law_611 hR hE
  obtain ⟨Q1, hc, hk⟩ := o_admitted (Γ := Γ) hr 
  refine ⟨Q1, hc, fun r τ hq => ?_⟩
  obtain ⟨Q2, hc2, hk2⟩ := hk r τ hq
  exact ⟨Q2, hc2, fun r' τ' hq' => ⟨fun _ => hn τ' (hk2 r' τ' hq').2, fun z => z (hk2 r' τ' hq').1⟩⟩
theorem w_L_18 (hR : rmOk 10 N) (hE : ∀ s A, N.2.2.2.2 s A → va_X b L xs s s.heap ∧ b < s.heap.size ∧ ¬ A b) (hr : Rel σ) (x3 : Int32) (hv : vp_in (x3 + 1) L ∧ vp_in (x3 + 2) L ∧ vp_in (x3 + 3) L ∧ vp_in (x3 + 4) L ∧ vp_in (x3 + 5) L ∧ True) (hn : ∀ τ, Rel τ → G Γ mL_law N 18 [(0, .ref b), (1, rf Γ 0), (2, rf Γ 25), (3, .int (x3 + 6))] [] τ) : G Γ mL_law N 624 [(0, .ref b), (1, rf Γ 0), (2, rf Γ 25), (3, .int x3)] [] σ := by
  apply t_L_law_624 hR hE
  obtain ⟨Q1, hc, hk⟩ := o_softer (Γ := Γ) hr 
  refine ⟨Q1, hc, fun r τ hq => ?_⟩
  obtain ⟨Q2, hc2, hk2⟩ := hk r τ hq
  exact ⟨Q2, hc2, fun r' τ' hq' => ⟨fun _ => hn τ' (hk2 r' τ' hq').2, fun z => z (hk2 r' τ' hq').1⟩⟩
theorem w_L_19 (hR : rmOk 10 N) (hE : ∀ s A, N.2.2.2.2 s A → va_X b L xs s s.heap ∧ b < s.heap.size ∧ ¬ A b) (hr : Rel σ) (x3 : Int32) (hv : vp_in (x3 + 1) L ∧ vp_in (x3 + 2) L ∧ vp_in (x3 + 3) L ∧ vp_in (x3 + 4) L ∧ vp_in (x3 + 5) L ∧ True) (hn : ∀ τ, Rel τ → G Γ mL_law N 18 [(0, .ref b), (1, rf Γ 0), (2, rf Γ 25), (3, .int (x3 + 6))] [] τ) : G Γ mL_law N 637 [(0, .ref b), (1, rf Γ 0), (2, rf Γ 25), (3, .int x3)] [] σ := by
  apply t_L_law_637 hR hE
  obtain ⟨Q1, hc, hk⟩ := o_margin (Γ := Γ) hr 
  refine ⟨Q1, hc, fun r τ hq => ?_⟩
  obtain ⟨Q2, hc2, hk2⟩ := hk r τ hq
  exact ⟨Q2, hc2, fun r' τ' hq' => ⟨fun _ => hn τ' (hk2 r' τ' hq').2, fun z => z (hk2 r' τ' hq').1⟩⟩
theorem w_L_20 (hR : rmOk 10 N) (hE : ∀ s A, N.2.2.2.2 s A → va_X b L xs s s.heap ∧ b < s.heap.size ∧ ¬ A b) (hr : Rel σ) (x3 : Int32) (hv : vp_in (x3 + 1) L ∧ vp_in (x3 + 2) L ∧ vp_in (x3 + 3) L ∧ vp_in (x3 + 4) L ∧ vp_in (x3 + 5) L ∧ True) (hn : ∀ τ, Rel τ → G Γ mL_law N 18 [(0, .ref b), (1, rf Γ 0), (2, rf Γ 25), (3, .int (x3 + 6))] [] τ) : G Γ mL_law N 650 [(0, .ref b), (1, rf Γ 0), (2, rf Γ 25), (3, .int x3)] [] σ := by
  apply t_L_law_650 hR hE
  obtain ⟨Q1, hc, hk⟩ := o_share (Γ := Γ) hr (xs (x3 + (1 : Int32)).toNatClampNeg) (xs (x3 + (2 : Int32)).toNatClampNeg)
  refine ⟨hv.1, hv.2.1, Q1, hc, fun r τ hq => ?_⟩
  obtain ⟨Q2, hc2, hk2⟩ := hk r τ hq
  exact ⟨hv.1, hv.2.1, Q2, hc2, fun r' τ' hq' => ⟨fun _ => hn τ' (hk2 r' τ' hq').2, fun z => z (hk2 r' τ' hq').1⟩⟩
theorem w_L_21 (hR : rmOk 10 N) (hE : ∀ s A, N.2.2.2.2 s A → va_X b L xs s s.heap ∧ b < s.heap.size ∧ ¬ A b) (hr : Rel σ) (x3 : Int32) (hv : vp_in (x3 + 1) L ∧ vp_in (x3 + 2) L ∧ vp_in (x3 + 3) L ∧ vp_in (x3 + 4) L ∧ vp_in (x3 + 5) L ∧ True) (hn : ∀ τ, Rel τ → G Γ mL_law N 18 [(0, .ref b), (1, rf Γ 0), (2, rf Γ 25), (3, .int (x3 + 6))] [] τ) : G Γ mL_law N 684 [(0, .ref b), (1, rf Γ 0), (2, rf Γ 25), (3, .int x3)] [] σ := by
  apply t_L_law_684 hR hE
  obtain ⟨Q1, hc, hk⟩ := o_step (Γ := Γ) hr (xs (x3 + (1 : Int32)).toNatClampNeg)
  refine ⟨hv.1, Q1, hc, fun r τ hq => ?_⟩
  obtain ⟨Q2, hc2, hk2⟩ := hk r τ hq
  exact ⟨hv.1, Q2, hc2, fun r' τ' hq' => ⟨fun _ => hn τ' (hk2 r' τ' hq').2, fun z => z (hk2 r' τ' hq').1⟩⟩
theorem w_L_22 (hR : rmOk 10 N) (hE : ∀ s A, N.2.2.2.2 s A → va_X b L xs s s.heap ∧ b < s.heap.size ∧ ¬ A b) (hr : Rel σ) (x3 : Int32) (hv : vp_in (x3 + 1) L ∧ vp_in (x3 + 2) L ∧ vp_in (x3 + 3) L ∧ vp_in (x3 + 4) L ∧ vp_in (x3 + 5) L ∧ True) (hn : ∀ τ, Rel τ → G Γ mL_law N 18 [(0, .ref b), (1, rf Γ 0), (2, rf Γ 25), (3, .int (x3 + 6))] [] τ) : G Γ mL_law N 707 [(0, .ref b), (1, rf Γ 0), (2, rf Γ 25), (3, .int x3)] [] σ := by
  apply t_L_law_707 hR hE
  obtain ⟨Q1, hc, hk⟩ := o_turn (Γ := Γ) hr 
  refine ⟨Q1, hc, fun r τ hq => ?_⟩
  obtain ⟨Q2, hc2, hk2⟩ := hk r τ hq
  exact ⟨Q2, hc2, fun r' τ' hq' => ⟨fun _ => hn τ' (hk2 r' τ' hq').2, fun z => z (hk2 r' τ' hq').1⟩⟩
theorem w_L_23 (hR : rmOk 10 N) (hE : ∀ s A, N.2.2.2.2 s A → va_X b L xs s s.heap ∧ b < s.heap.size ∧ ¬ A b) (hr : Rel σ) (x3 : Int32) (hv : vp_in (x3 + 1) L ∧ vp_in (x3 + 2) L ∧ vp_in (x3 + 3) L ∧ vp_in (x3 + 4) L ∧ vp_in (x3 + 5) L ∧ True) (hn : ∀ τ, Rel τ → G Γ mL_law N 18 [(0, .ref b), (1, rf Γ 0), (2, rf Γ 25), (3, .int (x3 + 6))] [] τ) : G Γ mL_law N 720 [(0, .ref b), (1, rf Γ 0), (2, rf Γ 25), (3, .int x3)] [] σ := by
  apply t_L_law_720 hR hE
  obtain ⟨Q1, hc, hk⟩ := o_order (Γ := Γ) hr 
  refine ⟨Q1, hc, fun r τ hq => ?_⟩
  obtain ⟨Q2, hc2, hk2⟩ := hk r τ hq
  exact ⟨Q2, hc2, fun r' τ' hq' => ⟨fun _ => hn τ' (hk2 r' τ' hq').2, fun z => z (hk2 r' τ' hq').1⟩⟩
theorem w_L_24 (hR : rmOk 10 N) (hE : ∀ s A, N.2.2.2.2 s A → va_X b L xs s s.heap ∧ b < s.heap.size ∧ ¬ A b) (hr : Rel σ) (x3 : Int32) (hv : vp_in (x3 + 1) L ∧ vp_in (x3 + 2) L ∧ vp_in (x3 + 3) L ∧ vp_in (x3 + 4) L ∧ vp_in (x3 + 5) L ∧ True) (hn : ∀ τ, Rel τ → G Γ mL_law N 18 [(0, .ref b), (1, rf Γ 0), (2, rf Γ 25), (3, .int (x3 + 6))] [] τ) : G Γ mL_law N 733 [(0, .ref b), (1, rf Γ 0), (2, rf Γ 25), (3, .int x3)] [] σ := by
  apply t_L_law_733 hR hE
  obtain ⟨Q1, hc, hk⟩ := o_still (Γ := Γ) hr 
  refine ⟨Q1, hc, fun r τ hq => ?_⟩
  obtain ⟨Q2, hc2, hk2⟩ := hk r τ hq
  exact ⟨Q2, hc2, fun r' τ' hq' => ⟨fun _ => hn τ' (hk2 r' τ' hq').2, fun z => z (hk2 r' τ' hq').1⟩⟩
theorem w_L_25 (hR : rmOk 10 N) (hE : ∀ s A, N.2.2.2.2 s A → va_X b L xs s s.heap ∧ b < s.heap.size ∧ ¬ A b) (hr : Rel σ) (x3 : Int32) (hv : vp_in (x3 + 1) L ∧ vp_in (x3 + 2) L ∧ vp_in (x3 + 3) L ∧ vp_in (x3 + 4) L ∧ vp_in (x3 + 5) L ∧ True) (hn : ∀ τ, Rel τ → G Γ mL_law N 18 [(0, .ref b), (1, rf Γ 0), (2, rf Γ 25), (3, .int (x3 + 6))] [] τ) : G Γ mL_law N 746 [(0, .ref b), (1, rf Γ 0), (2, rf Γ 25), (3, .int x3)] [] σ := by
  apply t_L_law_746 hR hE
  obtain ⟨Q1, hc, hk⟩ := o_rest (Γ := Γ) hr (xs (x3 + (1 : Int32)).toNatClampNeg)
  refine ⟨hv.1, Q1, hc, fun r τ hq => ?_⟩
  obtain ⟨Q2, hc2, hk2⟩ := hk r τ hq
  exact ⟨hv.1, Q2, hc2, fun r' τ' hq' => ⟨fun _ => hn τ' (hk2 r' τ' hq').2, fun z => z (hk2 r' τ' hq').1⟩⟩
theorem w_L_26 (hR : rmOk 10 N) (hE : ∀ s A, N.2.2.2.2 s A → va_X b L xs s s.heap ∧ b < s.heap.size ∧ ¬ A b) (hr : Rel σ) (x3 : Int32) (hv : vp_in (x3 + 1) L ∧ vp_in (x3 + 2) L ∧ vp_in (x3 + 3) L ∧ vp_in (x3 + 4) L ∧ vp_in (x3 + 5) L ∧ True) (hn : ∀ τ, Rel τ → G Γ mL_law N 18 [(0, .ref b), (1, rf Γ 0), (2, rf Γ 25), (3, .int (x3 + 6))] [] τ) : G Γ mL_law N 769 [(0, .ref b), (1, rf Γ 0), (2, rf Γ 25), (3, .int x3)] [] σ := by
  apply t_L_law_769 hR hE
  obtain ⟨Q1, hc, hk⟩ := o_met (Γ := Γ) hr 
  refine ⟨Q1, hc, fun r τ hq => ?_⟩
  obtain ⟨Q2, hc2, hk2⟩ := hk r τ hq
  exact ⟨Q2, hc2, fun r' τ' hq' => ⟨fun _ => hn τ' (hk2 r' τ' hq').2, fun z => z (hk2 r' τ' hq').1⟩⟩
theorem w_L_27 (hR : rmOk 10 N) (hE : ∀ s A, N.2.2.2.2 s A → va_X b L xs s s.heap ∧ b < s.heap.size ∧ ¬ A b) (hr : Rel σ) (x3 : Int32) (hv : vp_in (x3 + 1) L ∧ vp_in (x3 + 2) L ∧ vp_in (x3 + 3) L ∧ vp_in (x3 + 4) L ∧ vp_in (x3 + 5) L ∧ True) (hn : ∀ τ, Rel τ → G Γ mL_law N 18 [(0, .ref b), (1, rf Γ 0), (2, rf Γ 25), (3, .int (x3 + 6))] [] τ) : G Γ mL_law N 782 [(0, .ref b), (1, rf Γ 0), (2, rf Γ 25), (3, .int x3)] [] σ := by
  apply t_L_law_782 hR hE
  obtain ⟨Q1, hc, hk⟩ := o_sheet (Γ := Γ) hr (xs (x3 + (1 : Int32)).toNatClampNeg) (xs (x3 + (2 : Int32)).toNatClampNeg) (xs (x3 + (3 : Int32)).toNatClampNeg)
  refine ⟨hv.1, hv.2.1, hv.2.2.1, Q1, hc, fun r τ hq => ?_⟩
  obtain ⟨Q2, hc2, hk2⟩ := hk r τ hq
  exact ⟨hv.1, hv.2.1, hv.2.2.1, Q2, hc2, fun r' τ' hq' => ⟨fun _ => hn τ' (hk2 r' τ' hq').2, fun z => z (hk2 r' τ' hq').1⟩⟩
theorem w_L_28 (hR : rmOk 10 N) (hE : ∀ s A, N.2.2.2.2 s A → va_X b L xs s s.heap ∧ b < s.heap.size ∧ ¬ A b) (hr : Rel σ) (x3 : Int32) (hv : vp_in (x3 + 1) L ∧ vp_in (x3 + 2) L ∧ vp_in (x3 + 3) L ∧ vp_in (x3 + 4) L ∧ vp_in (x3 + 5) L ∧ True) (hn : ∀ τ, Rel τ → G Γ mL_law N 18 [(0, .ref b), (1, rf Γ 0), (2, rf Γ 25), (3, .int (x3 + 6))] [] τ) : G Γ mL_law N 825 [(0, .ref b), (1, rf Γ 0), (2, rf Γ 25), (3, .int x3)] [] σ := by
  apply t_L_law_825 hR hE
  obtain ⟨Q1, hc, hk⟩ := o_lose (Γ := Γ) hr (xs (x3 + (1 : Int32)).toNatClampNeg)
  refine ⟨hv.1, Q1, hc, fun r τ hq => ?_⟩
  obtain ⟨Q2, hc2, hk2⟩ := hk r τ hq
  exact ⟨hv.1, Q2, hc2, fun r' τ' hq' => ⟨fun _ => hn τ' (hk2 r' τ' hq').2, fun z => z (hk2 r' τ' hq').1⟩⟩
theorem w_L_29 (hR : rmOk 10 N) (hE : ∀ s A, N.2.2.2.2 s A → va_X b L xs s s.heap ∧ b < s.heap.size ∧ ¬ A b) (hr : Rel σ) (x3 : Int32) (hv : vp_in (x3 + 1) L ∧ vp_in (x3 + 2) L ∧ vp_in (x3 + 3) L ∧ vp_in (x3 + 4) L ∧ vp_in (x3 + 5) L ∧ True) (hn : ∀ τ, Rel τ → G Γ mL_law N 18 [(0, .ref b), (1, rf Γ 0), (2, rf Γ 25), (3, .int (x3 + 6))] [] τ) : G Γ mL_law N 848 [(0, .ref b), (1, rf Γ 0), (2, rf Γ 25), (3, .int x3)] [] σ := by
  apply t_L_law_848 hR hE
  obtain ⟨Q1, hc, hk⟩ := o_put (Γ := Γ) hr (xs (x3 + (1 : Int32)).toNatClampNeg) (xs (x3 + (2 : Int32)).toNatClampNeg) (xs (x3 + (3 : Int32)).toNatClampNeg) (xs (x3 + (4 : Int32)).toNatClampNeg)
  refine ⟨hv.1, hv.2.1, hv.2.2.1, hv.2.2.2.1, Q1, hc, fun r τ hq => ?_⟩
  obtain ⟨Q2, hc2, hk2⟩ := hk r τ hq
  exact ⟨hv.1, hv.2.1, hv.2.2.1, hv.2.2.2.1, Q2, hc2, fun r' τ' hq' => ⟨fun _ => hn τ' (hk2 r' τ' hq').2, fun z => z (hk2 r' τ' hq').1⟩⟩
theorem w_L_30 (hR : rmOk 10 N) (hE : ∀ s A, N.2.2.2.2 s A → va_X b L xs s s.heap ∧ b < s.heap.size ∧ ¬ A b) (hr : Rel σ) (x3 : Int32) (hv : vp_in (x3 + 1) L ∧ vp_in (x3 + 2) L ∧ vp_in (x3 + 3) L ∧ vp_in (x3 + 4) L ∧ vp_in (x3 + 5) L ∧ True) (hn : ∀ τ, Rel τ → G Γ mL_law N 18 [(0, .ref b), (1, rf Γ 0), (2, rf Γ 25), (3, .int (x3 + 6))] [] τ) : G Γ mL_law N 901 [(0, .ref b), (1, rf Γ 0), (2, rf Γ 25), (3, .int x3)] [] σ := by
  apply t_L_law_901 hR hE
  obtain ⟨Q1, hc, hk⟩ := o_get (Γ := Γ) hr (xs (x3 + (1 : Int32)).toNatClampNeg) (xs (x3 + (2 : Int32)).toNatClampNeg) (xs (x3 + (3 : Int32)).toNatClampNeg)
  refine ⟨hv.1, hv.2.1, hv.2.2.1, Q1, hc, fun r τ hq => ?_⟩
  obtain ⟨Q2, hc2, hk2⟩ := hk r τ hq
  exact ⟨hv.1, hv.2.1, hv.2.2.1, Q2, hc2, fun r' τ' hq' => ⟨fun _ => hn τ' (hk2 r' τ' hq').2, fun z => z (hk2 r' τ' hq').1⟩⟩
theorem w_L_31 (hR : rmOk 10 N) (hE : ∀ s A, N.2.2.2.2 s A → va_X b L xs s s.heap ∧ b < s.heap.size ∧ ¬ A b) (hr : Rel σ) (x3 : Int32) (hv : vp_in (x3 + 1) L ∧ vp_in (x3 + 2) L ∧ vp_in (x3 + 3) L ∧ vp_in (x3 + 4) L ∧ vp_in (x3 + 5) L ∧ True) (hn : ∀ τ, Rel τ → G Γ mL_law N 18 [(0, .ref b), (1, rf Γ 0), (2, rf Γ 25), (3, .int (x3 + 6))] [] τ) : G Γ mL_law N 944 [(0, .ref b), (1, rf Γ 0), (2, rf Γ 25), (3, .int x3)] [] σ := by
  apply t_L_law_944 hR hE
  obtain ⟨Q1, hc, hk⟩ := o_copy (Γ := Γ) hr (xs (x3 + (1 : Int32)).toNatClampNeg) (xs (x3 + (2 : Int32)).toNatClampNeg) (xs (x3 + (3 : Int32)).toNatClampNeg) (xs (x3 + (4 : Int32)).toNatClampNeg) (xs (x3 + (5 : Int32)).toNatClampNeg)
  refine ⟨hv.1, hv.2.1, hv.2.2.1, hv.2.2.2.1, hv.2.2.2.2.1, Q1, hc, fun r τ hq => ?_⟩
  obtain ⟨Q2, hc2, hk2⟩ := hk r τ hq
  exact ⟨hv.1, hv.2.1, hv.2.2.1, hv.2.2.2.1, hv.2.2.2.2.1, Q2, hc2, fun r' τ' hq' => ⟨fun _ => hn τ' (hk2 r' τ' hq').2, fun z => z (hk2 r' τ' hq').1⟩⟩
theorem w_L_32 (hR : rmOk 10 N) (hE : ∀ s A, N.2.2.2.2 s A → va_X b L xs s s.heap ∧ b < s.heap.size ∧ ¬ A b) (hr : Rel σ) (x3 : Int32) (hv : vp_in (x3 + 1) L ∧ vp_in (x3 + 2) L ∧ vp_in (x3 + 3) L ∧ vp_in (x3 + 4) L ∧ vp_in (x3 + 5) L ∧ True) (hn : ∀ τ, Rel τ → G Γ mL_law N 18 [(0, .ref b), (1, rf Γ 0), (2, rf Γ 25), (3, .int (x3 + 6))] [] τ) : G Γ mL_law N 1007 [(0, .ref b), (1, rf Γ 0), (2, rf Γ 25), (3, .int x3)] [] σ := by
  apply t_L_law_1007 hR hE
  obtain ⟨Q1, hc, hk⟩ := o_write (Γ := Γ) hr (xs (x3 + (1 : Int32)).toNatClampNeg)
  refine ⟨hv.1, Q1, hc, fun r τ hq => ?_⟩
  obtain ⟨Q2, hc2, hk2⟩ := hk r τ hq
  exact ⟨hv.1, Q2, hc2, fun r' τ' hq' => ⟨fun _ => hn τ' (hk2 r' τ' hq').2, fun z => z (hk2 r' τ' hq').1⟩⟩
theorem w_L_33 (hR : rmOk 10 N) (hE : ∀ s A, N.2.2.2.2 s A → va_X b L xs s s.heap ∧ b < s.heap.size ∧ ¬ A b) (hr : Rel σ) (x3 : Int32) (hv : vp_in (x3 + 1) L ∧ vp_in (x3 + 2) L ∧ vp_in (x3 + 3) L ∧ vp_in (x3 + 4) L ∧ vp_in (x3 + 5) L ∧ True) (hn : ∀ τ, Rel τ → G Γ mL_law N 18 [(0, .ref b), (1, rf Γ 0), (2, rf Γ 25), (3, .int (x3 + 6))] [] τ) : G Γ mL_law N 1030 [(0, .ref b), (1, rf Γ 0), (2, rf Γ 25), (3, .int x3)] [] σ := by
  apply t_L_law_1030 hR hE
  obtain ⟨Q1, hc, hk⟩ := o_count (Γ := Γ) hr (xs (x3 + (1 : Int32)).toNatClampNeg)
  refine ⟨hv.1, Q1, hc, fun r τ hq => ?_⟩
  obtain ⟨Q2, hc2, hk2⟩ := hk r τ hq
  exact ⟨hv.1, Q2, hc2, fun r' τ' hq' => ⟨fun _ => hn τ' (hk2 r' τ' hq').2, fun z => z (hk2 r' τ' hq').1⟩⟩
theorem w_L_34 (hR : rmOk 10 N) (hE : ∀ s A, N.2.2.2.2 s A → va_X b L xs s s.heap ∧ b < s.heap.size ∧ ¬ A b) (hr : Rel σ) (x3 : Int32) (hv : vp_in (x3 + 1) L ∧ vp_in (x3 + 2) L ∧ vp_in (x3 + 3) L ∧ vp_in (x3 + 4) L ∧ vp_in (x3 + 5) L ∧ True) (hn : ∀ τ, Rel τ → G Γ mL_law N 18 [(0, .ref b), (1, rf Γ 0), (2, rf Γ 25), (3, .int (x3 + 6))] [] τ) : G Γ mL_law N 1053 [(0, .ref b), (1, rf Γ 0), (2, rf Γ 25), (3, .int x3)] [] σ := by
  apply t_L_law_1053 hR hE
  obtain ⟨Q1, hc, hk⟩ := o_digest (Γ := Γ) hr 
  refine ⟨Q1, hc, fun r τ hq => ?_⟩
  obtain ⟨Q2, hc2, hk2⟩ := hk r τ hq
  exact ⟨Q2, hc2, fun r' τ' hq' => ⟨fun _ => hn τ' (hk2 r' τ' hq').2, fun z => z (hk2 r' τ' hq').1⟩⟩
theorem law_loop (hR : rmOk 10 N) (hE : ∀ s A, N.2.2.2.2 s A → va_X b L xs s s.heap ∧ b < s.heap.size ∧ ¬ A b) (hL : L ≤ 3072) (hend : ∀ (x3 : Int32) (σ : St), G Γ mL_law N 1073 [(0, .ref b), (1, rf Γ 0), (2, rf Γ 25), (3, .int x3)] [] σ) : ∀ (d k : Nat) (σ : St), L ≤ 6 * k + d → 6 * k ≤ L + 6 → Rel σ → G Γ mL_law N 18 [(0, .ref b), (1, rf Γ 0), (2, rf Γ 25), (3, .int (nI (6 * k)))] [] σ := by
  intro d
  induction d using Nat.strongRecOn with
  | ind d ih =>
    intro k σ hd hk hr
    apply t_L_law_18 hR hE
    refine ⟨fun _ => hend _ _, fun q => ?_⟩
    rw [Int32.lt_iff_toInt_lt, show (6 : Int32) = nI 6 from rfl, pk_sub_toInt (by omega) (by omega), nI_toInt (by omega)] at q
    have hv : vp_in (nI (6 * k) + 1) L ∧ vp_in (nI (6 * k) + 2) L ∧ vp_in (nI (6 * k) + 3) L ∧ vp_in (nI (6 * k) + 4) L ∧ vp_in (nI (6 * k) + 5) L ∧ True := by
      have h := fun c (hc : c < 6) => vp_in_nI (show 6 * k + c < L by omega) (show L < 2 ^ 31 by omega)
      exact ⟨by rw [show (1 : Int32) = nI 1 from rfl, nI_add]; exact h 1 (by omega), by rw [show (2 : Int32) = nI 2 from rfl, nI_add]; exact h 2 (by omega), by rw [show (3 : Int32) = nI 3 from rfl, nI_add]; exact h 3 (by omega), by rw [show (4 : Int32) = nI 4 from rfl, nI_add]; exact h 4 (by omega), by rw [show (5 : Int32) = nI 5 from rfl, nI_add]; exact h 5 (by omega), trivial⟩
    have hn : ∀ τ, Rel τ → G Γ mL_law N 18 [(0, .ref b), (1, rf Γ 0), (2, rf Γ 25), (3, .int (nI (6 * k) + 6))] [] τ := by
      intro τ ht
      rw [show (6 : Int32) = nI 6 from rfl, nI_add, show 6 * k + 6 = 6 * (k + 1) by omega]
      exact ih (d - 6) (by omega) (k + 1) τ (by omega) (by omega) ht
    refine ⟨vp_in_nI (by omega) (by omega), fun _ => w_L_0 hR hE hr _ hv hn, fun _ => w_L_1 hR hE hr _ hv hn, fun _ => w_L_2 hR hE hr _ hv hn, fun _ => w_L_3 hR hE hr _ hv hn, fun _ => w_L_4 hR hE hr _ hv hn, fun _ => w_L_5 hR hE hr _ hv hn, fun _ => w_L_6 hR hE hr _ hv hn, fun _ => w_L_7 hR hE hr _ hv hn, fun _ => w_L_8 hR hE hr _ hv hn, fun _ => w_L_9 hR hE hr _ hv hn, fun _ => w_L_10 hR hE hr _ hv hn, fun _ => w_L_11 hR hE hr _ hv hn, fun _ => w_L_12 hR hE hr _ hv hn, fun _ => w_L_13 hR hE hr _ hv hn, fun _ => w_L_14 hR hE hr _ hv hn, fun _ => w_L_15 hR hE hr _ hv hn, fun _ => w_L_16 hR hE hr _ hv hn, fun _ => w_L_17 hR hE hr _ hv hn, fun _ => w_L_18 hR hE hr _ hv hn, fun _ => w_L_19 hR hE hr _ hv hn, fun _ => w_L_20 hR hE hr _ hv hn, fun _ => w_L_21 hR hE hr _ hv hn, fun _ => w_L_22 hR hE hr _ hv hn, fun _ => w_L_23 hR hE hr _ hv hn, fun _ => w_L_24 hR hE hr _ hv hn, fun _ => w_L_25 hR hE hr _ hv hn, fun _ => w_L_26 hR hE hr _ hv hn, fun _ => w_L_27 hR hE hr _ hv hn, fun _ => w_L_28 hR hE hr _ hv hn, fun _ => w_L_29 hR hE hr _ hv hn, fun _ => w_L_30 hR hE hr _ hv hn, fun _ => w_L_31 hR hE hr _ hv hn, fun _ => w_L_32 hR hE hr _ hv hn, fun _ => w_L_33 hR hE hr _ hv hn, fun _ => w_L_34 hR hE hr _ hv hn, ?_⟩
    intros
    exact hn σ hr
end LOOP
