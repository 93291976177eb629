/-! both at once: the relation, and calls without a change -/
def shS (σ : St) (s : Nat) : Prop := (σ.1 (17 + s) 1 = -1 ∧ σ.1 39 s = 0) ∨ ∃ z, z ≤ 60 ∧ σ.1 (17 + s) 1 = nI z ∧ σ.1 39 s = 1 ∧ σ.1 41 s = nI z ∧ σ.1 40 s = σ.1 (17 + s) 0
def shR (σ : St) : Prop := (∀ s, s < 4 → shS σ s) ∧ ∀ s i, s < 4 → i < 60 → σ.1 42 (60 * s + i) = σ.1 (21 + s) i
def Rel (σ : St) : Prop := icC σ ∧ icM σ ∧ vC σ = vM σ ∧ shR σ
theorem shR_eq {σ τ : St} (h : shR σ) (hq : ∀ a, (17 ≤ a ∧ a ≤ 24) ∨ (39 ≤ a ∧ a ≤ 42) → τ.1 a = σ.1 a) : shR τ := by
  refine ⟨fun s hs => ?_, fun s i hs hi => ?_⟩
  · have := h.1 s hs
    unfold shS at this ⊢
    rw [hq (17 + s) (by omega), hq 39 (by omega), hq 40 (by omega), hq 41 (by omega)]
    exact this
  · rw [hq 42 (by omega), hq (21 + s) (by omega)]; exact h.2 s i hs hi
theorem Rel_frC {σ τ : St} (h : Rel σ) (hf : frC σ τ) : Rel τ := by
  obtain ⟨h1, h2, h3, h4⟩ := h
  have hm : fmC σ τ → False ∨ True := fun _ => Or.inr trivial
  have e1 := vC_fr hf
  have e2 : vM τ = vM σ := by
    unfold vM evM onM
    rw [hf.1 25 (by decide), hf.1 26 (by decide), hf.1 27 (by decide), hf.1 28 (by decide), hf.1 29 (by decide), hf.1 30 (by decide), hf.1 31 (by decide), hf.1 32 (by decide)]
  have e3 : evM τ = evM σ := congrArg (fun v : V => v.1) e2
  refine ⟨icC_fr hf h1, ?_, by rw [e1, e2, h3], shR_eq h4 (fun a ha => hf.1 a (by simp; omega))⟩
  unfold icM inM
  rw [e2, e3, hf.1 25 (by decide)]
  exact h2
theorem Rel_fmC {σ τ : St} (h : Rel σ) (hf : fmC σ τ) : Rel τ := by
  obtain ⟨h1, h2, h3, h4⟩ := h
  have e2 := vM_fm hf
  have q : ∀ a, a < 25 → τ.1 a = σ.1 a := fun a ha => hf.1.1 a (by simp; omega)
  have e1 : vC τ = vC σ := by
    unfold vC evC onC ob
    rw [q 0 (by omega), q 1 (by omega), q 2 (by omega), q 3 (by omega), q 4 (by omega), q 5 (by omega), q 6 (by omega), q 11 (by omega), q 14 (by omega), q 15 (by omega)]
  have e3 : evC τ = evC σ := congrArg (fun v : V => v.1) e1
  refine ⟨?_, icM_fm hf h2, by rw [e1, e2, h3], shR_eq h4 (fun a ha => hf.1.1 a (by simp; omega))⟩
  unfold icC inC
  rw [e1, e3, q 1 (by omega), q 14 (by omega)]
  exact h1
theorem Rel.mk' {τ : St} (v : V) (hv : okV v) (h1 : vC τ = v) (h2 : vM τ = v) (n1 : τ.1 1 0 = nI v.1.1) (n2 : τ.1 25 0 = nI v.1.1) (l1 : τ.1 14 0 = nI v.2.2.1) (l2 : τ.1 25 9 = nI v.2.2.1) (hs : shR τ) : Rel τ := by
  have e1 : evC τ = v.1 := congrArg (fun v : V => v.1) h1
  have e2 : evM τ = v.1 := congrArg (fun v : V => v.1) h2
  exact ⟨⟨⟨by rw [e1]; exact hv.1, by rw [e1]; exact n1⟩, by rw [h1]; exact hv, by rw [h1]; exact l1⟩, ⟨⟨by rw [e2]; exact hv.1, by rw [e2]; exact n2⟩, by rw [h2]; exact hv, by rw [h2]; exact l2⟩, h1.trans h2.symm, hs⟩
def PairI (Γ : GT) (M : MD) (n : Nat) (a : List Value) (M' : MD) (n' : Nat) (a' : List Value) (σ : St) : Prop :=
  ∃ Q1 : Int32 → St → Prop, CtI Γ M n a σ Q1 ∧ ∀ (r : Int32) (τ : St), Q1 r τ → ∃ Q2 : Int32 → St → Prop, CtI Γ M' n' a' τ Q2 ∧ ∀ (r' : Int32) (τ' : St), Q2 r' τ' → r = r' ∧ Rel τ'
def PairJ (Γ : GT) (M : MD) (n : Nat) (a : List Value) (M' : MD) (n' : Nat) (a' : List Value) (σ : St) : Prop :=
  ∃ Q1 : Int64 → St → Prop, CtJ Γ M n a σ Q1 ∧ ∀ (r : Int64) (τ : St), Q1 r τ → ∃ Q2 : Int64 → St → Prop, CtJ Γ M' n' a' τ Q2 ∧ ∀ (r' : Int64) (τ' : St), Q2 r' τ' → r = r' ∧ Rel τ'
section PAIRS
variable {Γ : GT} {σ : St} {M M' : MD} {n n' : Nat} {a a' : List Value}
theorem pairRO {S : V → Int32} (hR : Rel σ) (hc : CtI Γ M n a σ (fun r τ => r = S (vC σ) ∧ frC σ τ)) (hm : ∀ τ, icM τ → vM τ = vC σ → CtI Γ M' n' a' τ (fun r υ => r = S (vM τ) ∧ fmC τ υ)) : PairI Γ M n a M' n' a' σ := by
  refine ⟨_, hc, ?_⟩
  rintro _ τ ⟨rfl, hf⟩
  have hR2 := Rel_frC hR hf
  have e : vM τ = vC σ := by rw [← hR2.2.2.1, vC_fr hf]
  refine ⟨_, hm τ hR2.2.1 e, ?_⟩
  rintro _ υ ⟨rfl, hf2⟩
  exact ⟨by rw [e], Rel_fmC hR2 hf2⟩
theorem pairROJ {S : V → Int64} (hR : Rel σ) (hc : CtJ Γ M n a σ (fun r τ => r = S (vC σ) ∧ frC σ τ)) (hm : ∀ τ, icM τ → vM τ = vC σ → CtJ Γ M' n' a' τ (fun r υ => r = S (vM τ) ∧ fmC τ υ)) : PairJ Γ M n a M' n' a' σ := by
  refine ⟨_, hc, ?_⟩
  rintro _ τ ⟨rfl, hf⟩
  have hR2 := Rel_frC hR hf
  have e : vM τ = vC σ := by rw [← hR2.2.2.1, vC_fr hf]
  refine ⟨_, hm τ hR2.2.1 e, ?_⟩
  rintro _ υ ⟨rfl, hf2⟩
  exact ⟨by rw [e], Rel_fmC hR2 hf2⟩
theorem pairB {c : Int32} (hR : Rel σ) (hc : CtI Γ M n a σ (fun r τ => r = c ∧ σ = τ)) (hm : CtI Γ M' n' a' σ (fun r τ => r = c ∧ σ = τ)) : PairI Γ M n a M' n' a' σ := by
  refine ⟨_, hc, ?_⟩
  rintro _ _ ⟨rfl, rfl⟩
  refine ⟨_, hm, ?_⟩
  rintro _ _ ⟨rfl, rfl⟩
  exact ⟨rfl, hR⟩
theorem pairBJ {c : Int64} (hR : Rel σ) (hc : CtJ Γ M n a σ (fun r τ => r = c ∧ σ = τ)) (hm : CtJ Γ M' n' a' σ (fun r τ => r = c ∧ σ = τ)) : PairJ Γ M n a M' n' a' σ := by
  refine ⟨_, hc, ?_⟩
  rintro _ _ ⟨rfl, rfl⟩
  refine ⟨_, hm, ?_⟩
  rintro _ _ ⟨rfl, rfl⟩
  exact ⟨rfl, hR⟩
theorem Ct.eqI {S : Int32} (h : CtI Γ M n a σ (fun r τ => r = S ∧ σ = τ)) : CtI Γ M n a σ (fun r τ => r = S ∧ frC σ τ) := by
  refine Ct.mono h ?_
  rintro v τ ⟨r, hv, hr, rfl⟩
  exact ⟨r, hv, hr, fr.rf⟩
theorem Ct.eqJ {S : Int64} (h : CtJ Γ M n a σ (fun r τ => r = S ∧ σ = τ)) : CtJ Γ M n a σ (fun r τ => r = S ∧ frC σ τ) := by
  refine Ct.mono h ?_
  rintro v τ ⟨r, hv, hr, rfl⟩
  exact ⟨r, hv, hr, fr.rf⟩
theorem Ct.LI {S : Int32} (h : CtI Γ M n a σ (fun r τ => r = S ∧ frL σ τ)) : CtI Γ M n a σ (fun r τ => r = S ∧ frC σ τ) := by
  refine Ct.mono h ?_
  rintro v τ ⟨r, hv, hr, hf⟩
  exact ⟨r, hv, hr, hf.C⟩
theorem Ct.LJ {S : Int64} (h : CtJ Γ M n a σ (fun r τ => r = S ∧ frL σ τ)) : CtJ Γ M n a σ (fun r τ => r = S ∧ frC σ τ) := by
  refine Ct.mono h ?_
  rintro v τ ⟨r, hv, hr, hf⟩
  exact ⟨r, hv, hr, hf.C⟩
theorem Ct.eqM {S : Int32} (h : CtI Γ M n a σ (fun r τ => r = S ∧ σ = τ)) : CtI Γ M n a σ (fun r τ => r = S ∧ fmC σ τ) := by
  refine Ct.mono h ?_
  rintro v τ ⟨r, hv, hr, rfl⟩
  exact ⟨r, hv, hr, fm.rf⟩
theorem Rel.ev (h : Rel σ) : evM σ = evC σ := (congrArg (fun v : V => v.1) h.2.2.1).symm
theorem v_ev {τ : St} (h : vM τ = vC σ) : evM τ = evC σ := congrArg (fun v : V => v.1) h
theorem o_fault (hR : Rel σ) : PairI Γ mX5_fault 1 [rf Γ 0] mX6_fault 2 [rf Γ 25] σ := pairRO (S := sFault) hR (c_fault hR.1).eqI (fun τ h _ => (m_fault h).eqM)
theorem o_feasible (hR : Rel σ) : PairI Γ mX5_feasible 3 [rf Γ 0] mX6_feasible 5 [rf Γ 25] σ := pairRO (S := sFeas) hR (c_feasible hR.1).LI (fun τ h _ => m_feasible h)
theorem o_witness (hR : Rel σ) : PairI Γ mX5_witness 4 [rf Γ 0] mX6_witness 6 [rf Γ 25] σ := pairRO (S := sWit) hR (c_witness hR.1).LI (fun τ h _ => by
  apply ct_X6_witness; exact ⟨_, m_witnessNow h, fun r υ hq => hq⟩)
theorem o_out (hR : Rel σ) : PairI Γ mX5_out 4 [rf Γ 0] mX6_out 5 [rf Γ 25] σ := pairRO (S := fun v => nI (sOut v)) hR (c_out hR.1).LI (fun τ h _ => by
  apply ct_X6_out; exact ⟨_, m_outNow h, fun r υ hq => hq⟩)
theorem o_admitted (hR : Rel σ) : PairI Γ mX5_admitted 4 [rf Γ 0] mX6_admitted 5 [rf Γ 25] σ := pairRO (S := fun v => nI (sAdm v)) hR (c_admitted hR.1).LI (fun τ h _ => by
  apply ct_X6_admitted; exact ⟨_, m_admittedNow h, fun r υ hq => hq⟩)
theorem o_softer (hR : Rel σ) : PairI Γ mX5_softer 4 [rf Γ 0] mX6_softer 5 [rf Γ 25] σ := pairRO (S := sSoft) hR (c_softer hR.1).LI (fun τ h _ => m_softer h)
theorem o_margin (hR : Rel σ) : PairI Γ mX5_margin 4 [rf Γ 0] mX6_margin 4 [rf Γ 25] σ := pairRO (S := sMarg) hR (c_margin hR.1).LI (fun τ h _ => m_margin h)
theorem o_still (hR : Rel σ) : PairI Γ mX5_still 6 [rf Γ 0] mX6_still 5 [rf Γ 25] σ := by
  refine pairRO (S := fun v => (sStl v).1) hR ?_ (fun τ h _ => ?_)
  · refine Ct.mono (c_still hR.1) ?_
    rintro v τ ⟨r, hv, hr, -, hf⟩
    exact ⟨r, hv, hr, hf⟩
  · apply ct_X6_still
    refine ⟨_, m_stillNow h, ?_⟩
    rintro r υ ⟨hr, -, hf⟩
    exact ⟨hr, toM hf (by simp) (by simp) (by simp)⟩
theorem o_met (hR : Rel σ) : PairI Γ mX5_met 3 [rf Γ 0] mX6_met 3 [rf Γ 25] σ := pairRO (S := sMet) hR (c_met hR.1).eqI (fun τ h _ => by
  apply ct_X6_met; exact ⟨_, m_metNow h, fun r υ hq => hq⟩)
theorem o_count (hR : Rel σ) (x : Int32) : PairI Γ mX5_count 6 [rf Γ 0, .int x] mX6_count 5 [rf Γ 25, .int x] σ := pairRO (S := fun v => sCount v x) hR (c_count hR.1 x) (fun τ h _ => m_count h x)
theorem o_digest (hR : Rel σ) : PairJ Γ mX5_digest 7 [rf Γ 0] mX6_digest 7 [rf Γ 25] σ := pairROJ (S := sDig) hR (c_digest hR.1) (fun τ h _ => m_digest h)
theorem m_info_bad (h : icM σ) {x : Int32} (hx : noS (evM σ) x) (y : Int32) : CtI Γ mX6_info 3 [rf Γ 25, .int x, .int y] σ (fun r τ => r = -2 ∧ σ = τ) := by
  apply ct_X6_info
  refine ⟨_, m_isSender h.1 x, ?_⟩
  rintro _ _ ⟨rfl, rfl⟩
  rw [if_pos hx]
  exact ⟨fun _ => ⟨rfl, rfl⟩, fun q => absurd rfl q⟩
theorem m_info {i : Nat} (h : icM σ) (hi : i < (evM σ).1) (y : Int32) : CtI Γ mX6_info 3 [rf Γ 25, .int (nI i), .int y] σ (fun r τ => r = (if y < 0 ∨ 7 < y then -2 else sInfo (vM σ) i y) ∧ fmC σ τ) := by
  have h5 := h.1.1.2.1
  apply ct_X6_info
  refine ⟨_, m_isSender h.1 _, ?_⟩
  rintro _ _ ⟨rfl, rfl⟩
  rw [if_neg (noS_not h5 hi)]
  refine ⟨fun q => absurd q (by decide), fun _ => ⟨_, m_in _ _ _, ?_⟩⟩
  rintro _ _ ⟨rfl, rfl⟩
  unfold okI
  by_cases c : y < 0 ∨ 7 < y
  · rw [if_pos c, if_pos c]
    exact ⟨fun _ => ⟨rfl, fm.rf⟩, fun q => absurd rfl q⟩
  · rw [if_neg c, if_neg c]
    exact ⟨fun q => absurd q (by decide), fun _ => ⟨_, m_infoOf h (by omega) c, fun r τ hq => hq⟩⟩
theorem o_info (hR : Rel σ) (x y : Int32) : PairI Γ mX5_info 2 [rf Γ 0, .int x, .int y] mX6_info 3 [rf Γ 25, .int x, .int y] σ := by
  rcases noS_or (evC σ) hR.1.1.1.2.1 x with q | ⟨i, hi, rfl⟩
  · exact pairB hR (c_info_bad hR.1 q y) (m_info_bad hR.2.1 (by rw [hR.ev]; exact q) y)
  · exact pairRO (S := fun v => if y < 0 ∨ 7 < y then -2 else sInfo v i y) hR (c_info hR.1 hi y).eqI (fun τ h e => m_info h (by rw [v_ev e]; exact hi) y)
theorem o_heard (hR : Rel σ) (x y : Int32) : PairI Γ mX5_heard 1 [rf Γ 0, .int x, .int y] mX6_heard 2 [rf Γ 25, .int x, .int y] σ := by
  have h5 := hR.1.1.1.2.1
  by_cases q : noS (evC σ) x ∨ noS (evC σ) y
  · refine pairB (c := -2) hR ?_ ?_
    · apply ct_X5_heard
      refine ⟨_, c_isThere hR.1.1 x, ?_⟩
      rintro _ _ ⟨rfl, rfl⟩
      by_cases c : noS (evC σ) x
      · rw [if_pos c]; exact ⟨fun _ => ⟨rfl, rfl⟩, fun z => absurd rfl z⟩
      · rw [if_neg c]
        refine ⟨fun z => absurd z (by decide), fun _ => ⟨_, c_isThere hR.1.1 y, ?_⟩⟩
        rintro _ _ ⟨rfl, rfl⟩
        have d : noS (evC σ) y := by rcases q with z | z; exact absurd z c; exact z
        rw [if_pos d]; exact ⟨fun _ => ⟨rfl, rfl⟩, fun z => absurd rfl z⟩
    · rw [← hR.ev] at q
      apply ct_X6_heard
      refine ⟨_, m_isSender hR.2.1.1 x, ?_⟩
      rintro _ _ ⟨rfl, rfl⟩
      by_cases c : noS (evM σ) x
      · rw [if_pos c]; exact ⟨fun _ => ⟨rfl, rfl⟩, fun z => absurd rfl z⟩
      · rw [if_neg c]
        refine ⟨fun z => absurd z (by decide), fun _ => ⟨_, m_isSender hR.2.1.1 y, ?_⟩⟩
        rintro _ _ ⟨rfl, rfl⟩
        have d : noS (evM σ) y := by rcases q with z | z; exact absurd z c; exact z
        rw [if_pos d]; exact ⟨fun _ => ⟨rfl, rfl⟩, fun z => absurd rfl z⟩
  · rcases noS_or (evC σ) h5 x with z | ⟨i, hi, rfl⟩
    · exact absurd (Or.inl z) q
    rcases noS_or (evC σ) h5 y with z | ⟨j, hj, rfl⟩
    · exact absurd (Or.inr z) q
    refine pairRO (S := fun v => eg v.1 (5 * i + j)) hR (Ct.eqI ?_) (fun τ h e => ?_)
    · apply ct_X5_heard
      refine ⟨_, c_isThere hR.1.1 _, ?_⟩
      rintro _ _ ⟨rfl, rfl⟩
      rw [if_neg (noS_not h5 hi)]
      refine ⟨fun z => absurd z (by decide), fun _ => ⟨_, c_isThere hR.1.1 _, ?_⟩⟩
      rintro _ _ ⟨rfl, rfl⟩
      rw [if_neg (noS_not h5 hj)]
      refine ⟨fun z => absurd z (by decide), fun _ => ⟨_, c_gainOf (by omega) (by omega), ?_⟩⟩
      rintro _ _ ⟨rfl, rfl⟩
      exact ⟨rfl, rfl⟩
    · have e2 := v_ev e
      rw [← e2] at h5 hi hj
      apply ct_X6_heard
      refine ⟨_, m_isSender h.1 _, ?_⟩
      rintro _ _ ⟨rfl, rfl⟩
      rw [if_neg (noS_not h5 hi)]
      refine ⟨fun z => absurd z (by decide), fun _ => ⟨_, m_isSender h.1 _, ?_⟩⟩
      rintro _ _ ⟨rfl, rfl⟩
      rw [if_neg (noS_not h5 hj), ix5', cl (by omega)]
      exact ⟨fun z => absurd z (by decide), fun _ => ⟨vin (by omega) (by omega), rfl, fm.rf⟩⟩
theorem o_minor (hR : Rel σ) (x : Int32) : PairJ Γ mX5_minor 3 [rf Γ 0, .int x] mX6_minor 3 [rf Γ 25, .int x] σ := by
  have h5 := hR.1.1.1.2.1
  have p32 := pow_32 _ h5
  have pp := Nat.two_pow_pos (evC σ).1
  by_cases q : x < 0 ∨ nI (2 ^ (evC σ).1 - 1) < x
  · exact pairBJ hR (c_minor_bad hR.1 q) (m_minor_bad hR.2.1 (by rw [hR.ev]; exact q))
  · rcases pk_ix x (n := 2 ^ (evC σ).1) (by omega) with z | z | ⟨k, hk, rfl⟩
    · exact absurd (Or.inl z) q
    · exact absurd (Or.inr (Int32.lt_of_lt_of_le (nI_lt (by omega) (by omega)) z)) q
    · exact pairROJ (S := fun v => sMinor v k) hR (c_minor hR.1 hk).LJ (fun τ h e => m_minor h (by rw [v_ev e]; exact hk))
theorem o_least (hR : Rel σ) (x y : Int32) : PairJ Γ mX5_least 3 [rf Γ 0, .int x, .int y] mX6_least 5 [rf Γ 25, .int x, .int y] σ := by
  have h5 := hR.1.1.1.2.1
  by_cases q : noS (evC σ) x ∨ y < 0 ∨ 1 < y
  · exact pairBJ hR (c_least_bad hR.1 q) (m_least_bad hR.2.1 (by rw [hR.ev]; exact q))
  · rcases noS_or (evC σ) h5 x with z | ⟨i, hi, rfl⟩
    · exact absurd (Or.inl z) q
    have h0 : ¬ y < 0 := fun z => q (Or.inr (Or.inl z))
    have h1 : y ≤ 1 := Int32.not_lt.mp (fun z => q (Or.inr (Or.inr z)))
    exact pairROJ (S := fun v => sLeast v i y) hR (c_least hR.1 hi h0 h1).LJ (fun τ h e => m_least h (by rw [v_ev e]; exact hi) h0 h1)
theorem o_share (hR : Rel σ) (x y : Int32) : PairJ Γ mX5_share 3 [rf Γ 0, .int x, .int y] mX6_share 2 [rf Γ 25, .int x, .int y] σ := by
  have h5 := hR.1.1.1.2.1
  by_cases q : noS (evC σ) x ∨ y < 0 ∨ 1 < y
  · exact pairBJ hR (c_share_bad hR.1 q) (m_share_bad hR.2.1 (by rw [hR.ev]; exact q))
  · rcases noS_or (evC σ) h5 x with z | ⟨i, hi, rfl⟩
    · exact absurd (Or.inl z) q
    have h0 : ¬ y < 0 := fun z => q (Or.inr (Or.inl z))
    have h1 : y ≤ 1 := Int32.not_lt.mp (fun z => q (Or.inr (Or.inr z)))
    exact pairROJ (S := fun v => sShare v i y) hR (c_share hR.1 hi h0 h1).eqJ (fun τ h e => m_share h (by rw [v_ev e]; exact hi) h0 h1)
theorem o_rest (hR : Rel σ) (x : Int32) : PairI Γ mX5_rest 6 [rf Γ 0, .int x] mX6_rest 6 [rf Γ 25, .int x] σ := by
  have h5 := hR.1.1.1.2.1
  rcases noS_or (evC σ) h5 x with q | ⟨i, hi, rfl⟩
  · refine pairB (c := -2) hR ?_ ?_
    · apply ct_X5_rest
      refine ⟨_, c_isThere hR.1.1 x, ?_⟩
      rintro _ _ ⟨rfl, rfl⟩
      rw [if_pos q]; exact ⟨fun z => absurd rfl z, fun _ => ⟨rfl, rfl⟩⟩
    · rw [← hR.ev] at q
      apply ct_X6_rest
      refine ⟨_, m_isSender hR.2.1.1 x, ?_⟩
      rintro _ _ ⟨rfl, rfl⟩
      rw [if_pos q]; exact ⟨fun _ => ⟨rfl, rfl⟩, fun z => absurd rfl z⟩
  · refine pairRO (S := fun v => (sStl v).2 i) hR ?_ (fun τ h e => ?_)
    · apply ct_X5_rest
      refine ⟨_, c_isThere hR.1.1 _, ?_⟩
      rintro _ _ ⟨rfl, rfl⟩
      rw [if_neg (noS_not h5 hi), cl (by omega)]
      refine ⟨fun _ => ⟨_, c_settle hR.1.1, ?_⟩, fun z => absurd z (by decide)⟩
      rintro _ τ ⟨rfl, h1, hf⟩
      exact ⟨vin (by omega) (by omega), h1 i (by omega), toC hf (by simp) (by simp)⟩
    · rw [← v_ev e] at h5 hi
      apply ct_X6_rest
      refine ⟨_, m_isSender h.1 _, ?_⟩
      rintro _ _ ⟨rfl, rfl⟩
      rw [if_neg (noS_not h5 hi)]
      exact ⟨fun z => absurd z (by decide), fun _ => ⟨_, m_restOf h (by omega), fun r υ hq => hq⟩⟩
end PAIRS
