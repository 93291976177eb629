/-! both at once: what is told -/
theorem okI_n {v : Int32} (lo hi : Nat) (hl : lo ≤ hi) (hh : hi < 2 ^ 31 - 1) (h : ¬ (v < nI lo ∨ nI hi < v)) : ∃ k, lo ≤ k ∧ k ≤ hi ∧ v = nI k := by
  rcases pk_ix v (n := hi + 1) (by omega) with q | q | ⟨k, hk, rfl⟩
  · exact absurd (Or.inl (Int32.lt_of_lt_of_le q (nI_pos' (by omega)))) h
  · exact absurd (Or.inr (Int32.lt_of_lt_of_le (nI_lt (by omega) (by omega)) q)) h
  · refine ⟨k, ?_, by omega, rfl⟩
    rcases Nat.lt_or_ge k lo with z | z
    · exact absurd (Or.inl (nI_lt z (by omega))) h
    · exact z
theorem okI_0 {v lo hi : Int32} (h : v < lo ∨ hi < v) : okI v lo hi = 0 := if_pos h
theorem okI_1 {v lo hi : Int32} (h : ¬ (v < lo ∨ hi < v)) : okI v lo hi = 1 := if_neg h
theorem ok1 {v lo hi : Int32} (h : okI v lo hi = 1) : ¬ (v < lo ∨ hi < v) := fun z => by rw [okI_0 z] at h; exact absurd h (by decide)
section WRITERS
variable {Γ : GT} {σ : St}
theorem o_senders (hR : Rel σ) (x : Int32) : PairI Γ mX5_senders 0 [rf Γ 0, .int x] mX6_senders 1 [rf Γ 25, .int x] σ := by
  by_cases q : x < 1 ∨ 5 < x
  · refine pairB (c := -2) hR ?_ ?_
    · apply ct_X5_senders
      refine ⟨fun _ => ⟨rfl, rfl⟩, fun z => ⟨fun w => ?_, fun _ => ⟨rfl, rfl⟩⟩⟩
      rcases q with y | y
      · exact absurd y z
      · exact absurd y (Int32.not_lt.mpr w)
    · apply ct_X6_senders
      refine ⟨_, m_in _ _ _, ?_⟩
      rintro _ _ ⟨rfl, rfl⟩
      rw [okI_0 q]; exact ⟨fun z => absurd rfl z, fun _ => ⟨rfl, rfl⟩⟩
  · obtain ⟨k, k1, k5, rfl⟩ := okI_n 1 5 (by omega) (by omega) q
    refine ⟨fun r τ => r = σ.1 1 0 ∧ τ = sI σ 1 0 (nI k), ?_, ?_⟩
    · apply ct_X5_senders
      refine ⟨fun z => absurd (Or.inl z) q, fun _ => ⟨fun _ => ⟨rfl, rfl⟩, fun z => absurd (Or.inr (Int32.not_le.mp z)) q⟩⟩
    · rintro _ _ ⟨rfl, rfl⟩
      refine ⟨fun r τ => r = σ.1 25 0 ∧ τ = sI (sI σ 1 0 (nI k)) 25 0 (nI k), ?_, ?_⟩
      · apply ct_X6_senders
        refine ⟨_, m_in _ _ _, ?_⟩
        rintro _ _ ⟨rfl, rfl⟩
        rw [okI_1 q]; exact ⟨fun _ => ⟨rfl, rfl⟩, fun z => absurd z (by decide)⟩
      · rintro _ _ ⟨rfl, rfl⟩
        have hk : (nI k).toNatClampNeg = k := cl (by omega)
        refine ⟨by rw [hR.1.1.2, hR.2.1.1.2, hR.ev], Rel.mk' ((k, (vC σ).1.2), (vC σ).2) ⟨⟨k1, k5, hR.1.1.1.2.2⟩, hR.1.2.1.2⟩ ?_ ?_ rfl rfl hR.1.2.2 (by have := hR.2.1.2.2; rw [← hR.2.2.1] at this; exact this) (shR_eq hR.2.2.2 (fun a ha => by rw [sI_ne (by omega), sI_ne (by omega)]))⟩
        · show (((nI k).toNatClampNeg, (vC σ).1.2), (vC σ).2) = _
          rw [hk]
        · rw [hR.2.2.1]
          show (((nI k).toNatClampNeg, (vM σ).1.2), (vM σ).2) = _
          rw [hk]
-- ---- gain
theorem c_gain_bad (h : icC σ) {x y v : Int32} (hx : noS (evC σ) x ∨ noS (evC σ) y ∨ (if x = y then okI v 1 30 else okI v 0 9) = 0) : CtI Γ mX5_gain 1 [rf Γ 0, .int x, .int y, .int v] σ (fun r τ => r = -2 ∧ σ = τ) := by
  apply ct_X5_gain
  refine ⟨_, c_isThere h.1 x, ?_⟩
  rintro _ _ ⟨rfl, rfl⟩
  by_cases c : noS (evC σ) x
  · rw [if_pos c]; exact ⟨fun _ => ⟨rfl, rfl⟩, fun z => absurd rfl z⟩
  rw [if_neg c]
  refine ⟨fun z => absurd z (by decide), fun _ => ⟨_, c_isThere h.1 y, ?_⟩⟩
  rintro _ _ ⟨rfl, rfl⟩
  by_cases d : noS (evC σ) y
  · rw [if_pos d]; exact ⟨fun _ => ⟨rfl, rfl⟩, fun z => absurd rfl z⟩
  rw [if_neg d]
  refine ⟨fun z => absurd z (by decide), fun _ => ⟨_, c_mayBeGain _ _ _, ?_⟩⟩
  rintro _ _ ⟨rfl, rfl⟩
  have e : (if x = y then okI v 1 30 else okI v 0 9) = 0 := by rcases hx with z | z | z; exact absurd z c; exact absurd z d; exact z
  rw [e]; exact ⟨fun z => absurd rfl z, fun _ => ⟨rfl, rfl⟩⟩
theorem m_gain_bad (h : icM σ) {x y v : Int32} (hx : noS (evM σ) x ∨ noS (evM σ) y ∨ (if x = y then okI v 1 30 else okI v 0 9) = 0) : CtI Γ mX6_gain 2 [rf Γ 25, .int x, .int y, .int v] σ (fun r τ => r = -2 ∧ σ = τ) := by
  apply ct_X6_gain
  refine ⟨_, m_isSender h.1 x, ?_⟩
  rintro _ _ ⟨rfl, rfl⟩
  by_cases c : noS (evM σ) x
  · rw [if_pos c]; exact ⟨fun _ => ⟨rfl, rfl⟩, fun z => absurd rfl z⟩
  rw [if_neg c]
  refine ⟨fun z => absurd z (by decide), fun _ => ⟨_, m_isSender h.1 y, ?_⟩⟩
  rintro _ _ ⟨rfl, rfl⟩
  by_cases d : noS (evM σ) y
  · rw [if_pos d]; exact ⟨fun _ => ⟨rfl, rfl⟩, fun z => absurd rfl z⟩
  rw [if_neg d]
  refine ⟨fun z => absurd z (by decide), fun _ => ⟨_, m_isGain _ _ _, ?_⟩⟩
  rintro _ _ ⟨rfl, rfl⟩
  have e : (if x = y then okI v 1 30 else okI v 0 9) = 0 := by rcases hx with z | z | z; exact absurd z c; exact absurd z d; exact z
  rw [e]; exact ⟨fun z => absurd rfl z, fun _ => ⟨rfl, rfl⟩⟩
theorem gk_zo (x y v : Int32) : (if x = y then okI v 1 30 else okI v 0 9) = 0 ∨ (if x = y then okI v 1 30 else okI v 0 9) = 1 := by split <;> exact okI_zo _ _ _
/-- GAINS stay as they may be -/
theorem okE_g {e : Ev} (h : okE e) {i j : Nat} (hi : i < 5) (hj : j < 5) {v : Int32} (hv : (if nI i = nI j then okI v 1 30 else okI v 0 9) = 1) : okE (e.1, e.2.1, upd (eg e) (5 * i + j) v, e.2.2.2) := by
  obtain ⟨h1, h2, h3, h4, h5, h6⟩ := h
  refine ⟨h1, h2, h3, fun a ha => ?_, fun a b ha hb hab => ?_, h6⟩
  · show ∃ k, 1 ≤ k ∧ k ≤ 30 ∧ upd (eg e) (5 * i + j) v (6 * a) = nI k
    by_cases c : 6 * a = 5 * i + j
    · have : i = j := by omega
      subst this
      rw [if_pos rfl] at hv
      have : ¬ (v < nI 1 ∨ nI 30 < v) := ok1 hv
      rw [c, up_eq]
      exact okI_n 1 30 (by omega) (by omega) this
    · rw [up_ne c]; exact h4 a ha
  · show ∃ k, k ≤ 9 ∧ upd (eg e) (5 * i + j) v (5 * a + b) = nI k
    by_cases c : 5 * a + b = 5 * i + j
    · have hij : ¬ nI i = nI j := fun z => by
        have := (nI_eq (by omega) (by omega)).mp z
        omega
      rw [if_neg hij] at hv
      have : ¬ (v < nI 0 ∨ nI 9 < v) := ok1 hv
      rw [c, up_eq]
      obtain ⟨k, -, k2, k3⟩ := okI_n 0 9 (by omega) (by omega) this
      exact ⟨k, k2, k3⟩
    · rw [up_ne c]; exact h5 a b ha hb hab
theorem Rel_gain (hR : Rel σ) {i j : Nat} (hi : i < 5) (hj : j < 5) {v : Int32} (hv : (if nI i = nI j then okI v 1 30 else okI v 0 9) = 1) : Rel (sI (sI σ 2 (5 * i + j) v) 26 (5 * i + j) v) := by
  have h2 : evM σ = evC σ := hR.ev
  refine Rel.mk' (((vC σ).1.1, (vC σ).1.2.1, upd (eg (vC σ).1) (5 * i + j) v, (vC σ).1.2.2.2), (vC σ).2) ⟨okE_g hR.1.1.1 hi hj hv, hR.1.2.1.2⟩ rfl ?_ hR.1.1.2 (by rw [← hR.2.2.1.symm]; exact hR.2.1.1.2) hR.1.2.2 (by have := hR.2.1.2.2; rw [← hR.2.2.1] at this; exact this) (shR_eq hR.2.2.2 (fun a ha => by rw [sI_ne (by omega), sI_ne (by omega)]))
  rw [hR.2.2.1]; rfl
theorem o_gain (hR : Rel σ) (x y v : Int32) : PairI Γ mX5_gain 1 [rf Γ 0, .int x, .int y, .int v] mX6_gain 2 [rf Γ 25, .int x, .int y, .int v] σ := by
  have h5 := hR.1.1.1.2.1
  by_cases q : noS (evC σ) x ∨ noS (evC σ) y ∨ (if x = y then okI v 1 30 else okI v 0 9) = 0
  · exact pairB hR (c_gain_bad hR.1 q) (m_gain_bad hR.2.1 (by rw [hR.ev]; exact q))
  · rcases noS_or (evC σ) h5 x with z | ⟨i, hi, rfl⟩
    · exact absurd (Or.inl z) q
    rcases noS_or (evC σ) h5 y with z | ⟨j, hj, rfl⟩
    · exact absurd (Or.inr (Or.inl z)) q
    have hv : (if nI i = nI j then okI v 1 30 else okI v 0 9) = 1 := by
      rcases gk_zo (nI i) (nI j) v with z | z
      · exact absurd (Or.inr (Or.inr z)) q
      · exact z
    refine ⟨fun r τ => r = eg (evC σ) (5 * i + j) ∧ τ = sI σ 2 (5 * i + j) v, ?_, ?_⟩
    · apply ct_X5_gain
      refine ⟨_, c_isThere hR.1.1 _, ?_⟩
      rintro _ _ ⟨rfl, rfl⟩
      rw [if_neg (noS_not h5 hi)]
      refine ⟨fun z => absurd z (by decide), fun _ => ⟨_, c_isThere hR.1.1 _, ?_⟩⟩
      rintro _ _ ⟨rfl, rfl⟩
      rw [if_neg (noS_not h5 hj)]
      refine ⟨fun z => absurd z (by decide), fun _ => ⟨_, c_mayBeGain _ _ _, ?_⟩⟩
      rintro _ _ ⟨rfl, rfl⟩
      rw [hv]
      refine ⟨fun _ => ⟨_, c_gainOf (by omega) (by omega), ?_⟩, fun z => absurd z (by decide)⟩
      rintro _ _ ⟨rfl, rfl⟩
      refine ⟨_, c_tellGain (by omega) (by omega) v, ?_⟩
      rintro _ rfl
      exact ⟨rfl, rfl⟩
    · rintro _ _ ⟨rfl, rfl⟩
      have hf : fr [2] [] σ (sI σ 2 (5 * i + j) v) := fr.rf.sI (by simp)
      have hM : inM (sI σ 2 (5 * i + j) v) := hR.2.1.1
      have eM : evM (sI σ 2 (5 * i + j) v) = evM σ := rfl
      refine ⟨fun r τ => r = eg (evM σ) (5 * i + j) ∧ τ = sI (sI σ 2 (5 * i + j) v) 26 (5 * i + j) v, ?_, ?_⟩
      · rw [← hR.ev, ← eM] at h5 hi hj
        apply ct_X6_gain
        refine ⟨_, m_isSender hM _, ?_⟩
        rintro _ _ ⟨rfl, rfl⟩
        rw [if_neg (noS_not h5 hi)]
        refine ⟨fun z => absurd z (by decide), fun _ => ⟨_, m_isSender hM _, ?_⟩⟩
        rintro _ _ ⟨rfl, rfl⟩
        rw [if_neg (noS_not h5 hj)]
        refine ⟨fun z => absurd z (by decide), fun _ => ⟨_, m_isGain _ _ _, ?_⟩⟩
        rintro _ _ ⟨rfl, rfl⟩
        rw [hv, ix5', cl (by omega)]
        exact ⟨fun _ => ⟨vin (by omega) (by omega), vin (by omega) (by omega), rfl, rfl⟩, fun z => absurd z (by decide)⟩
      · rintro _ _ ⟨rfl, rfl⟩
        exact ⟨by rw [hR.ev], Rel_gain hR (by omega) (by omega) hv⟩
-- ---- set, power
theorem c_exchange {a i : Nat} (ha : aI a 5) (hi : i < 5) (v lo hi' : Int32) : CtI Γ mX5_exchange 0 [rf Γ a, .int (nI i), .int v, .int lo, .int hi'] σ (fun r τ => (okI v lo hi' = 0 ∧ r = -2 ∧ τ = σ) ∨ (okI v lo hi' = 1 ∧ r = σ.1 a i ∧ τ = sI σ a i v)) := by
  apply ct_X5_exchange _ _ _ _ _ _ ha
  rw [cl (by omega)]
  have hv := vin hi (by omega : 5 < 1000)
  refine ⟨fun q => Or.inl ⟨okI_0 (Or.inl q), rfl, rfl⟩, fun q => ⟨fun z => ⟨hv, hv, Or.inr ⟨okI_1 (by rintro (y | y); exact q y; exact absurd y (Int32.not_lt.mpr z)), rfl, rfl⟩⟩, fun z => Or.inl ⟨okI_0 (Or.inr (Int32.not_le.mp z)), rfl, rfl⟩⟩⟩
/-- what a setting may be -/
def okSet (y v : Int32) : Int32 := if y = 0 then okI v 1 20 else if y = 1 then okI v 0 9 else if y = 2 then okI v 0 999 else 0
theorem okSet_zo (y v : Int32) : okSet y v = 0 ∨ okSet y v = 1 := by
  unfold okSet; split
  · exact okI_zo _ _ _
  · split
    · exact okI_zo _ _ _
    · split
      · exact okI_zo _ _ _
      · exact Or.inl rfl
theorem m_isSetting (y v : Int32) : CtI Γ mX6_isSetting 1 [.int y, .int v] σ (fun r τ => r = okSet y v ∧ σ = τ) := by
  apply ct_X6_isSetting
  unfold okSet
  refine ⟨fun q => ⟨fun z => ⟨fun w => ⟨by rw [if_neg q, if_neg z, if_neg w], rfl⟩, fun w => ⟨_, m_in _ _ _, ?_⟩⟩, fun z => ⟨_, m_in _ _ _, ?_⟩⟩, fun q => ⟨_, m_in _ _ _, ?_⟩⟩
  · rintro _ _ ⟨rfl, rfl⟩
    rw [if_neg q, if_neg z, if_pos w]
    refine ⟨fun y => ⟨y.symm, rfl⟩, fun y => ⟨?_, rfl⟩⟩
    rcases okI_zo v 0 999 with u | u
    · exact absurd u y
    · exact u.symm
  · rintro _ _ ⟨rfl, rfl⟩
    rw [if_neg q, if_pos z]
    exact ⟨okI_zo _ _ _, rfl, rfl⟩
  · rintro _ _ ⟨rfl, rfl⟩
    rw [if_pos q]
    exact ⟨okI_zo _ _ _, rfl, rfl⟩
theorem c_set_bad (h : icC σ) {x y v : Int32} (hx : noS (evC σ) x ∨ okSet y v = 0) : CtI Γ mX5_set 1 [rf Γ 0, .int x, .int y, .int v] σ (fun r τ => r = -2 ∧ σ = τ) := by
  have h5 := h.1.1.2.1
  apply ct_X5_set
  refine ⟨_, c_isThere h.1 x, ?_⟩
  rintro _ _ ⟨rfl, rfl⟩
  by_cases c : noS (evC σ) x
  · rw [if_pos c]; exact ⟨fun z => absurd rfl z, fun _ => ⟨rfl, rfl⟩⟩
  rw [if_neg c]
  have hb : okSet y v = 0 := by rcases hx with z | z; exact absurd z c; exact z
  rcases noS_or (evC σ) h5 x with z | ⟨i, hi, rfl⟩
  · exact absurd z c
  unfold okSet at hb
  refine ⟨fun _ => ⟨fun q => ⟨_, c_exchange ar_3 (by omega) _ _ _, ?_⟩, fun q => ⟨_, c_exchange ar_4 (by omega) _ _ _, ?_⟩, fun q => ⟨_, c_exchange ar_5 (by omega) _ _ _, ?_⟩, fun _ _ _ => ⟨rfl, rfl⟩⟩, fun z => absurd z (by decide)⟩
  · subst q
    rintro r τ (⟨-, rfl, rfl⟩ | ⟨z, -⟩)
    · exact ⟨rfl, rfl⟩
    · rw [if_pos rfl, z] at hb; exact absurd hb (by decide)
  · subst q
    rintro r τ (⟨-, rfl, rfl⟩ | ⟨z, -⟩)
    · exact ⟨rfl, rfl⟩
    · rw [if_neg (by decide), if_pos rfl, z] at hb; exact absurd hb (by decide)
  · subst q
    rintro r τ (⟨-, rfl, rfl⟩ | ⟨z, -⟩)
    · exact ⟨rfl, rfl⟩
    · rw [if_neg (by decide), if_neg (by decide), if_pos rfl, z] at hb; exact absurd hb (by decide)
theorem m_set_bad (h : icM σ) {x y v : Int32} (hx : noS (evM σ) x ∨ okSet y v = 0) : CtI Γ mX6_set 2 [rf Γ 25, .int x, .int y, .int v] σ (fun r τ => r = -2 ∧ σ = τ) := by
  apply ct_X6_set
  refine ⟨_, m_isSender h.1 x, ?_⟩
  rintro _ _ ⟨rfl, rfl⟩
  by_cases c : noS (evM σ) x
  · rw [if_pos c]; exact ⟨fun _ => ⟨rfl, rfl⟩, fun z => absurd rfl z⟩
  rw [if_neg c]
  have hb : okSet y v = 0 := by rcases hx with z | z; exact absurd z c; exact z
  refine ⟨fun z => absurd z (by decide), fun _ => ⟨_, m_isSetting _ _, ?_⟩⟩
  rintro _ _ ⟨rfl, rfl⟩
  rw [hb]; exact ⟨fun z => absurd rfl z, fun _ => ⟨rfl, rfl⟩⟩
/-- the cell of a setting: 3, 4, 5 of the class -/
def sCell (y : Int32) : Nat := if y = 0 then 3 else if y = 1 then 4 else 5
theorem okSet_1 {y v : Int32} (h : okSet y v = 1) : (y = 0 ∧ okI v 1 20 = 1) ∨ (y = 1 ∧ okI v 0 9 = 1) ∨ (y = 2 ∧ okI v 0 999 = 1) := by
  unfold okSet at h
  split at h
  · exact Or.inl ⟨by assumption, h⟩
  · split at h
    · exact Or.inr (Or.inl ⟨by assumption, h⟩)
    · split at h
      · exact Or.inr (Or.inr ⟨by assumption, h⟩)
      · exact absurd h (by decide)
theorem Rel_w (hR : Rel σ) {i : Nat} (hi : i < 5) {v : Int32} (hv : okI v 1 20 = 1) : Rel (sI (sI σ 3 i v) 27 i v) := by
  obtain ⟨g1, g2, g3, g4, g5, g6, g7⟩ := hR.1.1.1
  refine Rel.mk' (((vC σ).1.1, (vC σ).1.2.1, (vC σ).1.2.2.1, upd (ew (vC σ).1) i v, (vC σ).1.2.2.2.2), (vC σ).2) ⟨⟨g1, g2, g3, g4, g5, fun a ha => ?_, g7⟩, hR.1.2.1.2⟩ rfl (by rw [hR.2.2.1]; rfl) hR.1.1.2 (by rw [← hR.2.2.1.symm]; exact hR.2.1.1.2) hR.1.2.2 (by have := hR.2.1.2.2; rw [← hR.2.2.1] at this; exact this) (shR_eq hR.2.2.2 (fun a ha => by rw [sI_ne (by omega), sI_ne (by omega)]))
  show ∃ k, 1 ≤ k ∧ k ≤ 20 ∧ upd (ew (vC σ).1) i v a = nI k
  by_cases c : a = i
  · subst c; rw [up_eq]; exact okI_n 1 20 (by omega) (by omega) (ok1 hv)
  · rw [up_ne c]; exact g6 a ha
theorem Rel_no (hR : Rel σ) {i : Nat} (hi : i < 5) {v : Int32} (hv : okI v 0 9 = 1) : Rel (sI (sI σ 4 i v) 28 i v) := by
  obtain ⟨g1, g2, g3, g4, g5, g6, g7, g8⟩ := hR.1.1.1
  refine Rel.mk' (((vC σ).1.1, (vC σ).1.2.1, (vC σ).1.2.2.1, (vC σ).1.2.2.2.1, upd (eno (vC σ).1) i v, (vC σ).1.2.2.2.2.2), (vC σ).2) ⟨⟨g1, g2, g3, g4, g5, g6, fun a ha => ?_, g8⟩, hR.1.2.1.2⟩ rfl (by rw [hR.2.2.1]; rfl) hR.1.1.2 (by rw [← hR.2.2.1.symm]; exact hR.2.1.1.2) hR.1.2.2 (by have := hR.2.1.2.2; rw [← hR.2.2.1] at this; exact this) (shR_eq hR.2.2.2 (fun a ha => by rw [sI_ne (by omega), sI_ne (by omega)]))
  show ∃ k, k ≤ 9 ∧ upd (eno (vC σ).1) i v a = nI k
  by_cases c : a = i
  · subst c; rw [up_eq]
    obtain ⟨k, -, k2, k3⟩ := okI_n 0 9 (by omega) (by omega) (ok1 hv)
    exact ⟨k, k2, k3⟩
  · rw [up_ne c]; exact g7 a ha
theorem Rel_cap (hR : Rel σ) {i : Nat} (hi : i < 5) {v : Int32} (hv : okI v 0 999 = 1) : Rel (sI (sI σ 5 i v) 29 i v) := by
  obtain ⟨g1, g2, g3, g4, g5, g6, g7, g8⟩ := hR.1.1.1
  refine Rel.mk' (((vC σ).1.1, (vC σ).1.2.1, (vC σ).1.2.2.1, (vC σ).1.2.2.2.1, (vC σ).1.2.2.2.2.1, upd (ecap (vC σ).1) i v, (vC σ).1.2.2.2.2.2.2), (vC σ).2) ⟨⟨g1, g2, g3, g4, g5, g6, g7, fun a ha => ?_⟩, hR.1.2.1.2⟩ rfl (by rw [hR.2.2.1]; rfl) hR.1.1.2 (by rw [← hR.2.2.1.symm]; exact hR.2.1.1.2) hR.1.2.2 (by have := hR.2.1.2.2; rw [← hR.2.2.1] at this; exact this) (shR_eq hR.2.2.2 (fun a ha => by rw [sI_ne (by omega), sI_ne (by omega)]))
  show ∃ k, k ≤ 999 ∧ upd (ecap (vC σ).1) i v a = nI k
  by_cases c : a = i
  · subst c; rw [up_eq]
    obtain ⟨k, -, k2, k3⟩ := okI_n 0 999 (by omega) (by omega) (ok1 hv)
    exact ⟨k, k2, k3⟩
  · rw [up_ne c]; exact g8 a ha
/-- powers: both rows become p' -/
theorem Rel_p {τ : St} (hR : Rel σ) (p' : Nat → Int32) (hp : okP p') (h6 : τ.1 6 = p') (h31 : τ.1 31 = p') (hq : ∀ a, a ≠ 6 → a ≠ 31 → τ.1 a = σ.1 a) : Rel τ := by
  refine Rel.mk' ((vC σ).1, p', (vC σ).2.2) ⟨hR.1.1.1, hp, hR.1.2.1.2.2⟩ ?_ ?_ (by rw [hq 1 (by decide) (by decide)]; exact hR.1.1.2) (by rw [hq 25 (by decide) (by decide), ← hR.2.2.1.symm]; exact hR.2.1.1.2) (by rw [hq 14 (by decide) (by decide)]; exact hR.1.2.2) (by rw [hq 25 (by decide) (by decide)]; have := hR.2.1.2.2; rw [← hR.2.2.1] at this; exact this) (shR_eq hR.2.2.2 (fun a ha => hq a (by omega) (by omega)))
  · unfold vC evC onC ob
    rw [hq 1 (by decide) (by decide), hq 2 (by decide) (by decide), hq 3 (by decide) (by decide), hq 4 (by decide) (by decide), hq 5 (by decide) (by decide), hq 11 (by decide) (by decide), hq 14 (by decide) (by decide), hq 15 (by decide) (by decide), hq 0 (by decide) (by decide), h6]
  · rw [hR.2.2.1]
    unfold vM evM onM
    rw [hq 25 (by decide) (by decide), hq 26 (by decide) (by decide), hq 27 (by decide) (by decide), hq 28 (by decide) (by decide), hq 29 (by decide) (by decide), hq 30 (by decide) (by decide), hq 32 (by decide) (by decide), h31]
theorem Rel.pw (hR : Rel σ) : σ.1 31 = σ.1 6 := (congrArg (fun v : V => v.2.1) hR.2.2.1).symm
theorem o_set (hR : Rel σ) (x y v : Int32) : PairI Γ mX5_set 1 [rf Γ 0, .int x, .int y, .int v] mX6_set 2 [rf Γ 25, .int x, .int y, .int v] σ := by
  have h5 := hR.1.1.1.2.1
  by_cases q : noS (evC σ) x ∨ okSet y v = 0
  · exact pairB hR (c_set_bad hR.1 q) (m_set_bad hR.2.1 (by rw [hR.ev]; exact q))
  · rcases noS_or (evC σ) h5 x with z | ⟨i, hi, rfl⟩
    · exact absurd (Or.inl z) q
    have hs : okSet y v = 1 := by rcases okSet_zo y v with z | z; exact absurd (Or.inr z) q; exact z
    have h5' := h5
    have hi' := hi
    rw [← hR.ev] at h5' hi'
    have hmod : ∀ (a b : Nat), (y = 0 ∧ a = 3 ∧ b = 27) ∨ (y = 1 ∧ a = 4 ∧ b = 28) ∨ (y = 2 ∧ a = 5 ∧ b = 29) → CtI Γ mX6_set 2 [rf Γ 25, .int (nI i), .int y, .int v] (sI σ a i v) (fun r τ => r = σ.1 b i ∧ τ = sI (sI σ a i v) b i v) := by
      intro a b hab
      have ha : a = 3 ∨ a = 4 ∨ a = 5 := by omega
      have hM : inM (sI σ a i v) := by rcases ha with rfl | rfl | rfl <;> exact hR.2.1.1
      have eM : evM (sI σ a i v) = evM σ := by rcases ha with rfl | rfl | rfl <;> rfl
      rw [← eM] at h5' hi'
      apply ct_X6_set
      refine ⟨_, m_isSender hM _, ?_⟩
      rintro _ _ ⟨rfl, rfl⟩
      rw [if_neg (noS_not h5' hi')]
      refine ⟨fun z => absurd z (by decide), fun _ => ⟨_, m_isSetting _ _, ?_⟩⟩
      rintro _ _ ⟨rfl, rfl⟩
      rw [hs]
      refine ⟨fun _ => ⟨_, m_setting (by omega) _, ?_⟩, fun z => absurd z (by decide)⟩
      rintro _ _ ⟨rfl, rfl⟩
      rw [cl (by omega), eM]
      have hv := vin (by omega : i < 5) (by omega : 5 < 1000)
      rcases hab with ⟨rfl, rfl, rfl⟩ | ⟨rfl, rfl, rfl⟩ | ⟨rfl, rfl, rfl⟩
      · exact ⟨fun z => absurd rfl z, fun _ => ⟨hv, rfl, rfl⟩⟩
      · exact ⟨fun _ => ⟨fun z => absurd rfl z, fun _ => ⟨hv, rfl, rfl⟩⟩, fun z => absurd z (by decide)⟩
      · exact ⟨fun _ => ⟨fun _ => ⟨hv, rfl, rfl⟩, fun z => absurd z (by decide)⟩, fun z => absurd z (by decide)⟩
    have hcls : ∀ (a : Nat), (y = 0 ∧ a = 3) ∨ (y = 1 ∧ a = 4) ∨ (y = 2 ∧ a = 5) → CtI Γ mX5_set 1 [rf Γ 0, .int (nI i), .int y, .int v] σ (fun r τ => r = σ.1 a i ∧ τ = sI σ a i v) := by
      intro a ha
      apply ct_X5_set
      refine ⟨_, c_isThere hR.1.1 _, ?_⟩
      rintro _ _ ⟨rfl, rfl⟩
      rw [if_neg (noS_not h5 hi)]
      have hs2 := okSet_1 hs
      refine ⟨fun _ => ⟨fun q => ⟨_, c_exchange ar_3 (by omega) _ _ _, ?_⟩, fun q => ⟨_, c_exchange ar_4 (by omega) _ _ _, ?_⟩, fun q => ⟨_, c_exchange ar_5 (by omega) _ _ _, ?_⟩, fun q0 q1 q2 => ?_⟩, fun z => absurd z (by decide)⟩
      · subst q
        have ha : a = 3 := by rcases ha with z | z | z; exact z.2; exact absurd z.1 (by decide); exact absurd z.1 (by decide)
        subst ha
        rintro r τ (⟨z, -⟩ | ⟨-, rfl, rfl⟩)
        · rcases hs2 with w | w | w
          · rw [w.2] at z; exact absurd z (by decide)
          · exact absurd w.1 (by decide)
          · exact absurd w.1 (by decide)
        · exact ⟨rfl, rfl⟩
      · subst q
        have ha : a = 4 := by rcases ha with z | z | z; exact absurd z.1 (by decide); exact z.2; exact absurd z.1 (by decide)
        subst ha
        rintro r τ (⟨z, -⟩ | ⟨-, rfl, rfl⟩)
        · rcases hs2 with w | w | w
          · exact absurd w.1 (by decide)
          · rw [w.2] at z; exact absurd z (by decide)
          · exact absurd w.1 (by decide)
        · exact ⟨rfl, rfl⟩
      · subst q
        have ha : a = 5 := by rcases ha with z | z | z; exact absurd z.1 (by decide); exact absurd z.1 (by decide); exact z.2
        subst ha
        rintro r τ (⟨z, -⟩ | ⟨-, rfl, rfl⟩)
        · rcases hs2 with w | w | w
          · exact absurd w.1 (by decide)
          · exact absurd w.1 (by decide)
          · rw [w.2] at z; exact absurd z (by decide)
        · exact ⟨rfl, rfl⟩
      · rcases hs2 with w | w | w
        · exact absurd w.1 q0
        · exact absurd w.1 q1
        · exact absurd w.1 q2
    have hev := hR.ev
    rcases okSet_1 hs with ⟨hy, hv⟩ | ⟨hy, hv⟩ | ⟨hy, hv⟩
    · refine ⟨_, hcls 3 (Or.inl ⟨hy, rfl⟩), ?_⟩
      rintro _ _ ⟨rfl, rfl⟩
      refine ⟨_, hmod 3 27 (Or.inl ⟨hy, rfl, rfl⟩), ?_⟩
      rintro _ _ ⟨rfl, rfl⟩
      exact ⟨(congrFun (congrArg (fun e : Ev => ew e) hev) i).symm, Rel_w hR (by omega) hv⟩
    · refine ⟨_, hcls 4 (Or.inr (Or.inl ⟨hy, rfl⟩)), ?_⟩
      rintro _ _ ⟨rfl, rfl⟩
      refine ⟨_, hmod 4 28 (Or.inr (Or.inl ⟨hy, rfl, rfl⟩)), ?_⟩
      rintro _ _ ⟨rfl, rfl⟩
      exact ⟨(congrFun (congrArg (fun e : Ev => eno e) hev) i).symm, Rel_no hR (by omega) hv⟩
    · refine ⟨_, hcls 5 (Or.inr (Or.inr ⟨hy, rfl⟩)), ?_⟩
      rintro _ _ ⟨rfl, rfl⟩
      refine ⟨_, hmod 5 29 (Or.inr (Or.inr ⟨hy, rfl, rfl⟩)), ?_⟩
      rintro _ _ ⟨rfl, rfl⟩
      exact ⟨(congrFun (congrArg (fun e : Ev => ecap e) hev) i).symm, Rel_cap hR (by omega) hv⟩
theorem okP_up {p : Nat → Int32} (h : okP p) {i k : Nat} (hk : k ≤ 999) : okP (upd p i (nI k)) := by
  intro a ha
  by_cases c : a = i
  · subst c; rw [up_eq]; exact ⟨k, hk, rfl⟩
  · rw [up_ne c]; exact h a ha
theorem o_power (hR : Rel σ) (x v : Int32) : PairI Γ mX5_power 1 [rf Γ 0, .int x, .int v] mX6_power 2 [rf Γ 25, .int x, .int v] σ := by
  have h5 := hR.1.1.1.2.1
  rcases noS_or (evC σ) h5 x with q | ⟨i, hi, rfl⟩
  · refine pairB (c := -2) hR ?_ ?_
    · apply ct_X5_power
      refine ⟨_, c_isThere hR.1.1 x, ?_⟩
      rintro _ _ ⟨rfl, rfl⟩
      rw [if_pos q]; exact ⟨fun _ => ⟨rfl, rfl⟩, fun z => absurd rfl z⟩
    · rw [← hR.ev] at q
      apply ct_X6_power
      refine ⟨_, m_isSender hR.2.1.1 x, ?_⟩
      rintro _ _ ⟨rfl, rfl⟩
      rw [if_pos q]; exact ⟨fun _ => ⟨rfl, rfl⟩, fun z => absurd rfl z⟩
  · have hcls : CtI Γ mX5_power 1 [rf Γ 0, .int (nI i), .int v] σ (fun r τ => (okI v 0 999 = 0 ∧ r = -2 ∧ τ = σ) ∨ (okI v 0 999 = 1 ∧ r = σ.1 6 i ∧ τ = sI σ 6 i v)) := by
      apply ct_X5_power
      refine ⟨_, c_isThere hR.1.1 _, ?_⟩
      rintro _ _ ⟨rfl, rfl⟩
      rw [if_neg (noS_not h5 hi)]
      exact ⟨fun z => absurd z (by decide), fun _ => ⟨_, c_exchange ar_6 (by omega) _ _ _, fun r τ hq => hq⟩⟩
    refine ⟨_, hcls, ?_⟩
    have h5' := h5
    have hi' := hi
    rw [← hR.ev] at h5' hi'
    rintro r τ (⟨z, rfl, rfl⟩ | ⟨z, rfl, rfl⟩)
    · refine ⟨fun r τ' => r = -2 ∧ τ = τ', ?_, ?_⟩
      · apply ct_X6_power
        refine ⟨_, m_isSender hR.2.1.1 _, ?_⟩
        rintro _ _ ⟨rfl, rfl⟩
        rw [if_neg (noS_not h5' hi')]
        refine ⟨fun z => absurd z (by decide), fun _ => ⟨_, m_in _ _ _, ?_⟩⟩
        rintro _ _ ⟨rfl, rfl⟩
        rw [z]; exact ⟨fun z => absurd rfl z, fun _ => ⟨rfl, rfl⟩⟩
      · rintro _ _ ⟨rfl, rfl⟩; exact ⟨rfl, hR⟩
    · refine ⟨fun r τ' => r = σ.1 31 i ∧ τ' = sI (sI σ 6 i v) 31 i v, ?_, ?_⟩
      · have hM : inM (sI σ 6 i v) := hR.2.1.1
        have eM : evM (sI σ 6 i v) = evM σ := rfl
        rw [← eM] at h5' hi'
        apply ct_X6_power
        refine ⟨_, m_isSender hM _, ?_⟩
        rintro _ _ ⟨rfl, rfl⟩
        rw [if_neg (noS_not h5' hi')]
        refine ⟨fun z => absurd z (by decide), fun _ => ⟨_, m_in _ _ _, ?_⟩⟩
        rintro _ _ ⟨rfl, rfl⟩
        rw [z, cl (by omega)]
        exact ⟨fun _ => ⟨vin (by omega) (by omega), vin (by omega) (by omega), rfl, rfl⟩, fun z => absurd z (by decide)⟩
      · rintro _ _ ⟨rfl, rfl⟩
        obtain ⟨k, -, k2, rfl⟩ := okI_n 0 999 (by omega) (by omega) (ok1 z)
        exact ⟨by rw [hR.pw], Rel_p hR (upd (σ.1 6) i (nI k)) (okP_up hR.1.2.1.2.1 k2) rfl (by show upd (σ.1 31) i (nI k) = _; rw [hR.pw]) (fun a h1 h2 => by rw [sI_ne h2, sI_ne h1])⟩
theorem o_rule (hR : Rel σ) (x : Int32) : PairI Γ mX5_rule 0 [rf Γ 0, .int x] mX6_rule 1 [rf Γ 25, .int x] σ := by
  by_cases q : x < 0 ∨ 2 < x
  · refine pairB (c := -2) hR ?_ ?_
    · apply ct_X5_rule
      refine ⟨fun _ => ⟨rfl, rfl⟩, fun z => ⟨fun w => ?_, fun _ => ⟨rfl, rfl⟩⟩⟩
      rcases q with y | y
      · exact absurd y z
      · exact absurd y (Int32.not_lt.mpr w)
    · apply ct_X6_rule
      refine ⟨_, m_in _ _ _, ?_⟩
      rintro _ _ ⟨rfl, rfl⟩
      rw [okI_0 q]; exact ⟨fun z => absurd rfl z, fun _ => ⟨rfl, rfl⟩⟩
  · refine ⟨fun r τ => r = σ.1 11 0 ∧ τ = sI σ 11 0 x, ?_, ?_⟩
    · apply ct_X5_rule
      refine ⟨fun z => absurd (Or.inl z) q, fun _ => ⟨fun _ => ⟨rfl, rfl⟩, fun z => absurd (Or.inr (Int32.not_le.mp z)) q⟩⟩
    · rintro _ _ ⟨rfl, rfl⟩
      refine ⟨fun r τ => r = σ.1 25 1 ∧ τ = sI (sI σ 11 0 x) 25 1 x, ?_, ?_⟩
      · apply ct_X6_rule
        refine ⟨_, m_in _ _ _, ?_⟩
        rintro _ _ ⟨rfl, rfl⟩
        rw [okI_1 q]; exact ⟨fun _ => ⟨rfl, rfl⟩, fun z => absurd z (by decide)⟩
      · rintro _ _ ⟨rfl, rfl⟩
        refine ⟨(congrArg (fun e : Ev => erule e) hR.ev).symm, Rel.mk' (((vC σ).1.1, (vC σ).1.2.1, (vC σ).1.2.2.1, (vC σ).1.2.2.2.1, (vC σ).1.2.2.2.2.1, (vC σ).1.2.2.2.2.2.1, x), (vC σ).2) ⟨hR.1.1.1, hR.1.2.1.2⟩ rfl (by rw [hR.2.2.1]; rfl) hR.1.1.2 (by rw [← hR.2.2.1.symm]; exact hR.2.1.1.2) hR.1.2.2 (by have := hR.2.1.2.2; rw [← hR.2.2.1] at this; exact this) (shR_eq hR.2.2.2 (fun a ha => by rw [sI_ne (by omega), sI_ne (by omega)]))⟩
end WRITERS
