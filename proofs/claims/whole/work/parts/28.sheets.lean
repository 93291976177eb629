/-! both at once: sheets -/
abbrev noSh (x : Int32) : Prop := x < 0 ∨ 4 ≤ x
abbrev noFm (x : Int32) : Prop := x < 0 ∨ 3 ≤ x
theorem noSh_or (x : Int32) : noSh x ∨ ∃ s, s < 4 ∧ x = nI s := by
  rcases pk_ix x (n := 4) (by decide) with q | q | q
  · exact Or.inl (Or.inl q)
  · exact Or.inl (Or.inr q)
  · exact Or.inr q
theorem noFm_or (x : Int32) : noFm x ∨ ∃ s, s < 3 ∧ x = nI s := by
  rcases pk_ix x (n := 3) (by decide) with q | q | q
  · exact Or.inl (Or.inl q)
  · exact Or.inl (Or.inr q)
  · exact Or.inr q
theorem noSh_not {s : Nat} (h : s < 4) : ¬ noSh (nI s) := by
  rintro (q | q)
  · exact nI_pos (by omega) q
  · exact nI_ge h (by omega) q
theorem noFm_not {s : Nat} (h : s < 3) : ¬ noFm (nI s) := by
  rintro (q | q)
  · exact nI_pos (by omega) q
  · exact nI_ge h (by omega) q
theorem okI_sh {x : Int32} (h : noSh x) : okI x 0 3 = 0 := by
  refine okI_0 ?_
  rcases h with q | q
  · exact Or.inl q
  · exact Or.inr (Int32.lt_of_lt_of_le (by decide) q)
theorem okI_sh1 {s : Nat} (h : s < 4) : okI (nI s) 0 3 = 1 := okI_1 (by
  rintro (q | q)
  · exact nI_pos (by omega) q
  · exact nI_nlt (by omega : s ≤ 3) (by omega) q)
theorem okI_fm {x : Int32} (h : noFm x) : okI x 0 2 = 0 := by
  refine okI_0 ?_
  rcases h with q | q
  · exact Or.inl q
  · exact Or.inr (Int32.lt_of_lt_of_le (by decide) q)
theorem okI_fm1 {s : Nat} (h : s < 3) : okI (nI s) 0 2 = 1 := okI_1 (by
  rintro (q | q)
  · exact nI_pos (by omega) q
  · exact nI_nlt (by omega : s ≤ 2) (by omega) q)
/-- an item that there is, or none -/
theorem it_or (x : Int32) {z : Nat} (hz : z ≤ 60) : (∃ k, k < z ∧ x = nI k) ∨ ((x < 0 ∨ nI z - 1 < x) ∧ ¬ ∃ k, k < z ∧ x = nI k) := by
  rcases pk_ix x (n := z) (by omega) with q | q | q
  · refine Or.inr ⟨Or.inl q, ?_⟩
    rintro ⟨k, hk, rfl⟩; exact nI_pos (by omega) q
  · refine Or.inr ⟨Or.inr ?_, ?_⟩
    · rcases Nat.eq_zero_or_pos z with rfl | hz0
      · exact Int32.lt_of_lt_of_le (by decide) q
      · rw [show nI z - 1 = nI (z - 1) by rw [show z = z - 1 + 1 by omega, nI_pred, Nat.add_sub_cancel]]
        exact Int32.lt_of_lt_of_le (nI_lt (by omega) (by omega)) q
    · rintro ⟨k, hk, rfl⟩; exact nI_ge hk (by omega) q
  · exact Or.inl q
theorem it_not {k z : Nat} (hk : k < z) (hz : z ≤ 60) : ¬ (nI k < 0 ∨ nI z - 1 < nI k) := by
  rintro (q | q)
  · exact nI_pos (by omega) q
  · rw [show nI z - 1 = nI (z - 1) by rw [show z = z - 1 + 1 by omega, nI_pred, Nat.add_sub_cancel]] at q
    exact nI_nlt (by omega) (by omega) q
section SHEETS
variable {Γ : GT} {σ : St} {M M' : MD} {n n' : Nat} {a a' : List Value}
theorem c_isSheet (x : Int32) : CtI Γ mX5_isSheet 0 [.int x] σ (fun r τ => r = (if noSh x then 0 else 1) ∧ σ = τ) := by
  apply ct_X5_isSheet
  exact ⟨fun q => ⟨(if_pos (Or.inl q)).symm, rfl⟩, fun q => ⟨fun z => ⟨(if_pos (Or.inr z)).symm, rfl⟩, fun z => ⟨(if_neg (by rintro (y | y); exact q y; exact z y)).symm, rfl⟩⟩⟩
theorem c_isForm (x : Int32) : CtI Γ mX5_isForm 0 [.int x] σ (fun r τ => r = (if noFm x then 0 else 1) ∧ σ = τ) := by
  apply ct_X5_isForm
  exact ⟨fun q => ⟨(if_pos (Or.inl q)).symm, rfl⟩, fun q => ⟨fun z => ⟨(if_pos (Or.inr z)).symm, rfl⟩, fun z => ⟨(if_neg (by rintro (y | y); exact q y; exact z y)).symm, rfl⟩⟩⟩
theorem c_finding (x : Int32) : CtI Γ mX5_finding 0 [rf Γ 0, .int x] σ (fun r τ => r = -10 - x ∧ τ = sI σ 0 5 x) := by
  apply ct_X5_finding; exact ⟨rfl, rfl⟩
theorem m_meets (x : Int32) : CtI Γ mX6_meets 0 [rf Γ 25, .int x] σ (fun r τ => r = -10 - x ∧ τ = sI σ 25 23 x) := by
  apply ct_X6_meets; exact ⟨rfl, rfl⟩
theorem m_isSheet (x : Int32) : CtI Γ mX6_isSheet 1 [.int x] σ (fun r τ => r = okI x 0 3 ∧ σ = τ) := by
  apply ct_X6_isSheet
  refine ⟨_, m_in _ _ _, ?_⟩
  rintro _ _ ⟨rfl, rfl⟩
  exact ⟨okI_zo _ _ _, rfl, rfl⟩
theorem Rel_find (hR : Rel σ) (f : Int32) : Rel (sI (sI σ 0 5 f) 25 23 f) := by
  refine Rel.mk' ((vC σ).1, (vC σ).2.1, (vC σ).2.2.1, (vC σ).2.2.2.1, f) hR.1.2.1 rfl (by rw [hR.2.2.1]; rfl) hR.1.1.2 (by rw [← hR.2.2.1.symm]; exact hR.2.1.1.2) hR.L.1 hR.L.2.1 (shR_eq hR.2.2.2 (fun a ha => by rw [sI_ne (by omega), sI_ne (by omega)]))
theorem pairF {c f : Int32} (hR : Rel σ) (hc : CtI Γ M n a σ (fun r τ => r = c ∧ τ = sI σ 0 5 f)) (hm : CtI Γ M' n' a' (sI σ 0 5 f) (fun r τ => r = c ∧ τ = sI (sI σ 0 5 f) 25 23 f)) : PairI Γ M n a M' n' a' σ := by
  refine ⟨_, hc, ?_⟩
  rintro _ _ ⟨rfl, rfl⟩
  refine ⟨_, hm, ?_⟩
  rintro _ _ ⟨rfl, rfl⟩
  exact ⟨rfl, Rel_find hR f⟩
/-- sheets change, nothing else that is told -/
theorem Rel_sh {τ : St} (hR : Rel σ) (hq : ∀ a, a < 17 ∨ (25 ≤ a ∧ a ≤ 32) → τ.1 a = σ.1 a) (hs : shR τ) : Rel τ := by
  refine Rel.mk' (vC σ) hR.1.2.1 ?_ ?_ (by rw [hq 1 (by omega)]; exact hR.1.1.2) (by rw [hq 25 (by omega), ← hR.2.2.1.symm]; exact hR.2.1.1.2) (by rw [hq 14 (by omega)]; exact hR.L.1) (by rw [hq 25 (by omega)]; exact hR.L.2.1) hs
  · unfold vC evC onC ob
    rw [hq 0 (by omega), hq 1 (by omega), hq 2 (by omega), hq 3 (by omega), hq 4 (by omega), hq 5 (by omega), hq 6 (by omega), hq 11 (by omega), hq 14 (by omega), hq 15 (by omega)]
  · rw [hR.2.2.1]
    unfold vM evM onM
    rw [hq 25 (by omega), hq 26 (by omega), hq 27 (by omega), hq 28 (by omega), hq 29 (by omega), hq 30 (by omega), hq 31 (by omega), hq 32 (by omega)]
theorem sh_at {s : Nat} (hs : s < 4) : isSh (17 + s) := ⟨by omega, by omega⟩
theorem v4 {s : Nat} (hs : s < 4) : vp_in (nI s) 4 := vin hs (by omega)
-- ---- sheet
theorem o_sheet (hR : Rel σ) (x y v : Int32) : PairI Γ mX5_sheet 1 [rf Γ 0, .int x, .int y, .int v] mX6_sheet 2 [rf Γ 25, .int x, .int y, .int v] σ := by
  by_cases q : noSh x ∨ noFm y ∨ ¬ v ≤ 60
  · refine pairB (c := -2) hR ?_ ?_
    · apply ct_X5_sheet
      refine ⟨_, c_isSheet x, ?_⟩
      rintro _ _ ⟨rfl, rfl⟩
      by_cases c : noSh x
      · rw [if_pos c]; exact ⟨fun _ => ⟨rfl, rfl⟩, fun z => absurd rfl z⟩
      rw [if_neg c]
      refine ⟨fun z => absurd z (by decide), fun _ => ⟨_, c_isForm y, ?_⟩⟩
      rintro _ _ ⟨rfl, rfl⟩
      by_cases d : noFm y
      · rw [if_pos d]; exact ⟨fun _ => ⟨rfl, rfl⟩, fun z => absurd rfl z⟩
      rw [if_neg d]
      refine ⟨fun z => absurd z (by decide), fun _ => ⟨fun z => ?_, fun _ => ⟨rfl, rfl⟩⟩⟩
      rcases q with w | w | w
      · exact absurd w c
      · exact absurd w d
      · exact absurd z w
    · apply ct_X6_sheet
      refine ⟨_, m_isSheet x, ?_⟩
      rintro _ _ ⟨rfl, rfl⟩
      rcases noSh_or x with c | ⟨s, hs, rfl⟩
      · rw [okI_sh c]; exact ⟨fun _ => ⟨rfl, rfl⟩, fun z => absurd rfl z⟩
      rw [okI_sh1 hs]
      refine ⟨fun z => absurd z (by decide), fun _ => ⟨_, m_in _ _ _, ?_⟩⟩
      rintro _ _ ⟨rfl, rfl⟩
      rcases noFm_or y with d | ⟨f, hf, rfl⟩
      · rw [okI_fm d]; exact ⟨fun _ => ⟨rfl, rfl⟩, fun z => absurd rfl z⟩
      rw [okI_fm1 hf]
      refine ⟨fun z => absurd z (by decide), fun _ => ⟨fun z => ?_, fun _ => ⟨rfl, rfl⟩⟩⟩
      rcases q with w | w | w
      · exact absurd w (noSh_not hs)
      · exact absurd w (noFm_not hf)
      · exact absurd z w
  · rcases noSh_or x with c | ⟨s, hs, rfl⟩
    · exact absurd (Or.inl c) q
    rcases noFm_or y with d | ⟨f, hf, rfl⟩
    · exact absurd (Or.inr (Or.inl d)) q
    have h60 : v ≤ 60 := Classical.byContradiction (fun z => q (Or.inr (Or.inr z)))
    by_cases w : 0 ≤ v
    · obtain ⟨z, -, hz, rfl⟩ := okI_n 0 60 (by omega) (by omega) (v := v) (by
        rintro (y | y)
        · exact absurd y (Int32.not_lt.mpr w)
        · exact absurd y (Int32.not_lt.mpr h60))
      refine ⟨fun r τ => r = nI z ∧ fr [17 + s, 17 + s + 4] [] σ τ ∧ τ.1 (17 + s) 0 = nI f ∧ τ.1 (17 + s) 1 = nI z ∧ (∀ k, k < 60 → τ.1 (17 + s + 4) k = 0), ?_, ?_⟩
      · apply ct_X5_sheet
        refine ⟨_, c_isSheet _, ?_⟩
        rintro _ _ ⟨rfl, rfl⟩
        rw [if_neg (noSh_not hs)]
        refine ⟨fun z => absurd z (by decide), fun _ => ⟨_, c_isForm _, ?_⟩⟩
        rintro _ _ ⟨rfl, rfl⟩
        rw [if_neg (noFm_not hf), cl (by omega)]
        refine ⟨fun z => absurd z (by decide), fun _ => ⟨fun _ => ⟨fun _ => ⟨v4 hs, _, c_renew (sh_at hs) _ _, ?_⟩, fun y => absurd w y⟩, fun y => absurd h60 y⟩⟩
        rintro τ hq
        exact ⟨rfl, hq⟩
      · rintro _ τ ⟨rfl, hf1, h0, h1, h2⟩
        have hqf : ∀ a, a ≠ 17 + s → a ≠ 17 + s + 4 → τ.1 a = σ.1 a := fun a ha hb => hf1.1 a (by simp [ha, hb])
        have n1 : vp_nar .boolean 1 = 1 := rfl
        refine ⟨fun r υ => r = nI z ∧ fr [39, 40, 41, 42] [] τ υ ∧ υ.1 39 = upd (τ.1 39) s 1 ∧ υ.1 40 = upd (τ.1 40) s (nI f) ∧ υ.1 41 = upd (τ.1 41) s (nI z) ∧ (∀ b i, b < 4 → i < 60 → υ.1 42 (60 * b + i) = if b = s then 0 else τ.1 42 (60 * b + i)), ?_, ?_⟩
        · apply ct_X6_sheet
          refine ⟨_, m_isSheet _, ?_⟩
          rintro _ _ ⟨rfl, rfl⟩
          rw [okI_sh1 hs]
          refine ⟨fun z => absurd z (by decide), fun _ => ⟨_, m_in _ _ _, ?_⟩⟩
          rintro _ _ ⟨rfl, rfl⟩
          rw [okI_fm1 hf, cl (by omega), n1]
          refine ⟨fun z => absurd z (by decide), fun _ => ⟨fun _ => ⟨fun _ => ⟨v4 hs, v4 hs, v4 hs, ?_⟩, fun y => absurd w y⟩, fun y => absurd h60 y⟩⟩
          refine lp_up (P := fun j => ∀ υ : St, fr [39, 40, 41, 42] [] τ υ → υ.1 39 = upd (τ.1 39) s 1 → υ.1 40 = upd (τ.1 40) s (nI f) → υ.1 41 = upd (τ.1 41) s (nI z) → (∀ b i, b < 4 → i < 60 → υ.1 42 (60 * b + i) = if b = s ∧ i < j then 0 else τ.1 42 (60 * b + i)) → G Γ mX6_sheet _ 59 [(0, rf Γ 25), (1, .int (nI s)), (3, .int (nI z)), (4, .int (nI j))] [] υ) 60 ?_ (fun j hj ih => ?_) 0 (Nat.zero_le _) _ (((fr.rf.sI (by simp)).sI (by simp)).sI (by simp)) rfl rfl rfl (fun b i hb hi => by rw [if_neg (by omega)]; rfl)
          · intro υ g1 g2 g3 g4 g5
            apply t_X6_sheet_59
            refine pk_le 60 60 (fun _ => ⟨rfl, g1, g2, g3, g4, fun b i hb hi => ?_⟩) (fun q => absurd q (by omega))
            rw [g5 b i hb hi]
            by_cases c : b = s
            · rw [if_pos ⟨c, hi⟩, if_pos c]
            · rw [if_neg (fun y => c y.1), if_neg c]
          · intro υ g1 g2 g3 g4 g5
            apply t_X6_sheet_59
            refine pk_le 60 j (fun q => absurd q (by omega)) (fun _ => ?_)
            rw [ix60, cl (by omega : 60 * s + j < 1000), nI_1]
            refine ⟨vin (by omega) (by omega), ih _ (g1.sI (by simp)) (by rw [sI_ne (by decide)]; exact g2) (by rw [sI_ne (by decide)]; exact g3) (by rw [sI_ne (by decide)]; exact g4) (fun b i hb hi => ?_)⟩
            rw [sI_eq]
            by_cases c : 60 * b + i = 60 * s + j
            · rw [c, up_eq, if_pos (by omega)]
            · rw [up_ne c, g5 b i hb hi]
              by_cases d : b = s ∧ i < j
              · rw [if_pos d, if_pos (by omega)]
              · rw [if_neg d, if_neg (by omega)]
        · rintro _ υ ⟨rfl, g1, g2, g3, g4, g5⟩
          have hqu : ∀ a, a ∉ [39, 40, 41, 42] → υ.1 a = τ.1 a := fun a ha => g1.1 a ha
          refine ⟨rfl, Rel_sh hR (fun a ha => by rw [hqu a (by simp; omega), hqf a (by omega) (by omega)]) ⟨fun b hb => ?_, fun b i hb hi => ?_⟩⟩
          · unfold shS
            rw [hqu (17 + b) (by simp; omega), g2, g3, g4, hqf 39 (by omega) (by omega), hqf 40 (by omega) (by omega), hqf 41 (by omega) (by omega)]
            by_cases c : b = s
            · subst c
              rw [up_eq, up_eq, up_eq]
              exact Or.inr ⟨z, hz, h1, rfl, rfl, h0.symm⟩
            · rw [up_ne c, up_ne c, up_ne c, hqf (17 + b) (by omega) (by omega)]
              exact hR.2.2.2.1 b hb
          · rw [g5 b i hb hi, hqu (21 + b) (by simp; omega)]
            by_cases c : b = s
            · subst c; rw [if_pos rfl, show 21 + b = 17 + b + 4 by omega, h2 i hi]
            · rw [if_neg c, hqf 42 (by omega) (by omega), hqf (21 + b) (by omega) (by omega)]
              exact hR.2.2.2.2 b i hb hi
    · refine pairF (c := -15) (f := 5) hR ?_ ?_
      · apply ct_X5_sheet
        refine ⟨_, c_isSheet _, ?_⟩
        rintro _ _ ⟨rfl, rfl⟩
        rw [if_neg (noSh_not hs)]
        refine ⟨fun z => absurd z (by decide), fun _ => ⟨_, c_isForm _, ?_⟩⟩
        rintro _ _ ⟨rfl, rfl⟩
        rw [if_neg (noFm_not hf)]
        refine ⟨fun z => absurd z (by decide), fun _ => ⟨fun _ => ⟨fun y => absurd y w, fun _ => ⟨_, c_finding _, ?_⟩⟩, fun y => absurd h60 y⟩⟩
        rintro _ _ ⟨rfl, rfl⟩
        exact ⟨rfl, rfl⟩
      · apply ct_X6_sheet
        refine ⟨_, m_isSheet _, ?_⟩
        rintro _ _ ⟨rfl, rfl⟩
        rw [okI_sh1 hs]
        refine ⟨fun z => absurd z (by decide), fun _ => ⟨_, m_in _ _ _, ?_⟩⟩
        rintro _ _ ⟨rfl, rfl⟩
        rw [okI_fm1 hf]
        refine ⟨fun z => absurd z (by decide), fun _ => ⟨fun _ => ⟨fun y => absurd y w, fun _ => ⟨_, m_meets _, ?_⟩⟩, fun y => absurd h60 y⟩⟩
        rintro _ _ ⟨rfl, rfl⟩
        exact ⟨rfl, rfl⟩
-- ---- the sheet itself
theorem c_refSh_bad {x : Int32} (h : noSh x) : CtI Γ mX5_refusalOfSheet 1 [rf Γ 0, .int x] σ (fun r τ => r = -2 ∧ σ = τ) := by
  apply ct_X5_refusalOfSheet
  refine ⟨_, c_isSheet x, ?_⟩
  rintro _ _ ⟨rfl, rfl⟩
  rw [if_pos h]; exact ⟨fun z => absurd rfl z, fun _ => ⟨rfl, rfl⟩⟩
theorem c_refSh {s : Nat} (hs : s < 4) : CtI Γ mX5_refusalOfSheet 1 [rf Γ 0, .int (nI s)] σ (fun r τ => (σ.1 (17 + s) 1 = -1 ∧ r = -11 ∧ τ = sI σ 0 5 1) ∨ (¬ σ.1 (17 + s) 1 = -1 ∧ r = 0 ∧ τ = σ)) := by
  apply ct_X5_refusalOfSheet
  refine ⟨_, c_isSheet _, ?_⟩
  rintro _ _ ⟨rfl, rfl⟩
  rw [if_neg (noSh_not hs), cl (by omega)]
  refine ⟨fun _ => ⟨v4 hs, _, c_isLost (sh_at hs), ?_⟩, fun z => absurd z (by decide)⟩
  rintro _ _ ⟨rfl, rfl⟩
  by_cases c : σ.1 (17 + s) 1 = -1
  · rw [if_pos c]
    refine ⟨fun z => absurd z (by decide), fun _ => ⟨_, c_finding _, ?_⟩⟩
    rintro _ _ ⟨rfl, rfl⟩
    exact Or.inl ⟨c, rfl, rfl⟩
  · rw [if_neg c]
    exact ⟨fun _ => Or.inr ⟨c, rfl, rfl⟩, fun z => absurd rfl z⟩
theorem nz {z : Nat} (h : z ≤ 60) : ¬ nI z = -1 := fun q => nI_pos (by omega : z < 2 ^ 31) (by rw [q]; decide)
theorem o_lose (hR : Rel σ) (x : Int32) : PairI Γ mX5_lose 2 [rf Γ 0, .int x] mX6_lose 2 [rf Γ 25, .int x] σ := by
  rcases noSh_or x with q | ⟨s, hs, rfl⟩
  · refine pairB (c := -2) hR ?_ ?_
    · apply ct_X5_lose
      refine ⟨_, c_refSh_bad q, ?_⟩
      rintro _ _ ⟨rfl, rfl⟩
      exact ⟨fun z => absurd z (by decide), fun _ => ⟨rfl, rfl⟩⟩
    · apply ct_X6_lose
      refine ⟨_, m_isSheet x, ?_⟩
      rintro _ _ ⟨rfl, rfl⟩
      rw [okI_sh q]; exact ⟨fun z => absurd rfl z, fun _ => ⟨rfl, rfl⟩⟩
  · rcases hR.2.2.2.1 s hs with ⟨h1, h2⟩ | ⟨z, hz, h1, h2, h3, h4⟩
    · refine pairF (c := -11) (f := 1) hR ?_ ?_
      · apply ct_X5_lose
        refine ⟨_, c_refSh hs, ?_⟩
        rintro r τ (⟨-, rfl, rfl⟩ | ⟨c, -⟩)
        · exact ⟨fun z => absurd z (by decide), fun _ => ⟨rfl, rfl⟩⟩
        · exact absurd h1 c
      · apply ct_X6_lose
        refine ⟨_, m_isSheet _, ?_⟩
        rintro _ _ ⟨rfl, rfl⟩
        rw [okI_sh1 hs, cl (by omega)]
        have e39 : (sI σ 0 5 1).1 39 s = 0 := h2
        rw [e39]
        refine ⟨fun _ => ⟨v4 hs, fun z => absurd rfl z, fun _ => ⟨_, m_meets _, ?_⟩⟩, fun z => absurd z (by decide)⟩
        rintro _ _ ⟨rfl, rfl⟩
        exact ⟨rfl, rfl⟩
    · refine ⟨fun r τ => r = nI z ∧ τ = sI σ (17 + s) 1 (-1), ?_, ?_⟩
      · apply ct_X5_lose
        refine ⟨_, c_refSh hs, ?_⟩
        rintro r τ (⟨c, -⟩ | ⟨-, rfl, rfl⟩)
        · exact absurd (h1.symm.trans c) (nz hz)
        · rw [cl (by omega), h1]
          exact ⟨fun _ => ⟨v4 hs, v4 hs, rfl, rfl⟩, fun z => absurd rfl z⟩
      · rintro _ _ ⟨rfl, rfl⟩
        have e : ∀ a, a ≠ 17 + s → (sI σ (17 + s) 1 (-1)).1 a = σ.1 a := fun a ha => sI_ne ha
        refine ⟨fun r τ => r = nI z ∧ τ = sI (sI σ (17 + s) 1 (-1)) 39 s 0, ?_, ?_⟩
        · apply ct_X6_lose
          refine ⟨_, m_isSheet _, ?_⟩
          rintro _ _ ⟨rfl, rfl⟩
          have n0 : vp_nar .boolean 0 = 0 := rfl
          rw [okI_sh1 hs, cl (by omega), n0, sI_ne (by decide : (41 : Nat) ≠ 39), e 39 (by omega), e 41 (by omega), h2, h3]
          exact ⟨fun _ => ⟨v4 hs, fun _ => ⟨v4 hs, v4 hs, rfl, rfl⟩, fun z => absurd z (by decide)⟩, fun z => absurd z (by decide)⟩
        · rintro _ _ ⟨rfl, rfl⟩
          refine ⟨rfl, Rel_sh hR (fun a ha => by rw [sI_ne (by omega), e a (by omega)]) ⟨fun b hb => ?_, fun b i hb hi => ?_⟩⟩
          · unfold shS
            rw [sI_eq, sI_ne (by omega : 17 + b ≠ 39), sI_ne (by omega : (40 : Nat) ≠ 39), sI_ne (by omega : (41 : Nat) ≠ 39), e 39 (by omega), e 40 (by omega), e 41 (by omega)]
            by_cases c : b = s
            · subst c
              rw [up_eq, sI_eq, up_eq]
              exact Or.inl ⟨rfl, rfl⟩
            · rw [up_ne c, e (17 + b) (by omega)]
              exact hR.2.2.2.1 b hb
          · rw [sI_ne (by omega : (42 : Nat) ≠ 39), sI_ne (by omega : 21 + b ≠ 39), e 42 (by omega), e (21 + b) (by omega)]
            exact hR.2.2.2.2 b i hb hi
-- ---- items
theorem hr_bad {x : Int32} {z : Nat} (hz : z ≤ 60) (h : ¬ ∃ k, k < z ∧ x = nI k) : x < 0 ∨ (1 : Int32) < 0 ∨ nI z < 1 ∨ nI z - 1 < x := by
  rcases it_or x hz with c | ⟨c, -⟩
  · exact absurd c h
  · rcases c with c | c
    · exact Or.inl c
    · exact Or.inr (Or.inr (Or.inr c))
theorem hr_ok {k z : Nat} (hz : z ≤ 60) (hk : k < z) : ¬ (nI k < 0 ∨ (1 : Int32) < 0 ∨ nI z < 1 ∨ nI z - 1 < nI k) := by
  rintro (q | q | q | q)
  · exact nI_pos (by omega) q
  · exact absurd q (by decide)
  · exact nI_nlt (by omega : 1 ≤ z) (by omega) q
  · exact it_not hk hz (Or.inr q)
theorem c_refIt_bad {x y v : Int32} (h : noSh x ∨ noFm y) : CtI Γ mX5_refusalOfItem 1 [rf Γ 0, .int x, .int y, .int v] σ (fun r τ => r = -2 ∧ σ = τ) := by
  apply ct_X5_refusalOfItem
  refine ⟨_, c_isSheet x, ?_⟩
  rintro _ _ ⟨rfl, rfl⟩
  by_cases c : noSh x
  · rw [if_pos c]; exact ⟨fun _ => ⟨rfl, rfl⟩, fun z => absurd rfl z⟩
  rw [if_neg c]
  refine ⟨fun z => absurd z (by decide), fun _ => ⟨_, c_isForm y, ?_⟩⟩
  rintro _ _ ⟨rfl, rfl⟩
  have d : noFm y := by rcases h with z | z; exact absurd z c; exact z
  rw [if_pos d]; exact ⟨fun z => absurd rfl z, fun _ => ⟨rfl, rfl⟩⟩
/-- the number of the refusal of an item, 0: none -/
def lack (σ : St) (s f : Nat) (v : Int32) (l : Nat) : Prop :=
  (σ.1 (17 + s) 1 = -1 ∧ l = 1) ∨ ∃ z, z ≤ 60 ∧ σ.1 (17 + s) 1 = nI z ∧ ((¬ σ.1 (17 + s) 0 = nI f ∧ l = 3) ∨ (σ.1 (17 + s) 0 = nI f ∧ ((¬ (∃ k, k < z ∧ v = nI k) ∧ l = 2) ∨ ((∃ k, k < z ∧ v = nI k) ∧ l = 0))))
theorem lack_or (hR : Rel σ) {s f : Nat} (hs : s < 4) (v : Int32) : ∃ l, l ≤ 3 ∧ lack σ s f v l := by
  rcases hR.2.2.2.1 s hs with ⟨h1, h2⟩ | ⟨z, hz, h1, h2, h3, h4⟩
  · exact ⟨1, by omega, Or.inl ⟨h1, rfl⟩⟩
  · by_cases c : σ.1 (17 + s) 0 = nI f
    · by_cases d : ∃ k, k < z ∧ v = nI k
      · exact ⟨0, by omega, Or.inr ⟨z, hz, h1, Or.inr ⟨c, Or.inr ⟨d, rfl⟩⟩⟩⟩
      · exact ⟨2, by omega, Or.inr ⟨z, hz, h1, Or.inr ⟨c, Or.inl ⟨d, rfl⟩⟩⟩⟩
    · exact ⟨3, by omega, Or.inr ⟨z, hz, h1, Or.inl ⟨c, rfl⟩⟩⟩
theorem c_refIt {s f l : Nat} (hs : s < 4) (hf : f < 3) {v : Int32} (h : lack σ s f v l) : CtI Γ mX5_refusalOfItem 1 [rf Γ 0, .int (nI s), .int (nI f), .int v] σ (fun r τ => (l = 0 ∧ r = 0 ∧ τ = σ) ∨ (¬ l = 0 ∧ r = -10 - nI l ∧ τ = sI σ 0 5 (nI l))) := by
  apply ct_X5_refusalOfItem
  refine ⟨_, c_isSheet _, ?_⟩
  rintro _ _ ⟨rfl, rfl⟩
  rw [if_neg (noSh_not hs), cl (by omega)]
  refine ⟨fun z => absurd z (by decide), fun _ => ⟨_, c_isForm _, ?_⟩⟩
  rintro _ _ ⟨rfl, rfl⟩
  rw [if_neg (noFm_not hf)]
  refine ⟨fun _ => ⟨v4 hs, _, c_isLost (sh_at hs), ?_⟩, fun z => absurd z (by decide)⟩
  rintro _ _ ⟨rfl, rfl⟩
  rcases h with ⟨h1, rfl⟩ | ⟨z, hz, h1, h⟩
  · rw [if_pos h1]
    refine ⟨fun z => absurd z (by decide), fun _ => ⟨_, c_finding _, ?_⟩⟩
    rintro _ _ ⟨rfl, rfl⟩
    exact Or.inr ⟨by decide, rfl, rfl⟩
  · rw [if_neg (by rw [h1]; exact nz hz)]
    refine ⟨fun _ => ⟨v4 hs, ?_⟩, fun z => absurd rfl z⟩
    rcases h with ⟨c, rfl⟩ | ⟨c, h⟩
    · refine ⟨fun y => absurd y c, fun _ => ⟨_, c_finding _, ?_⟩⟩
      rintro _ _ ⟨rfl, rfl⟩
      exact Or.inr ⟨by decide, rfl, rfl⟩
    · refine ⟨fun _ => ⟨v4 hs, _, c_hasRange (sh_at hs) _ _, ?_⟩, fun y => absurd c y⟩
      rintro _ _ ⟨rfl, rfl⟩
      rw [h1]
      rcases h with ⟨d, rfl⟩ | ⟨⟨k, hk, rfl⟩, rfl⟩
      · rw [if_pos (hr_bad hz d)]
        refine ⟨fun _ => ⟨_, c_finding _, ?_⟩, fun y => absurd rfl y⟩
        rintro _ _ ⟨rfl, rfl⟩
        exact Or.inr ⟨by decide, rfl, rfl⟩
      · rw [if_neg (hr_ok hz hk)]
        exact ⟨fun y => absurd y (by decide), fun _ => Or.inl ⟨rfl, rfl, rfl⟩⟩
theorem m_lacks {s f l : Nat} (hs : s < 4) {v : Int32} {τ : St} (h : lack σ s f v l) (h39 : ∀ q, σ.1 (17 + s) 1 = q → (q = -1 → τ.1 39 s = 0) ∧ (∀ z, z ≤ 60 → q = nI z → τ.1 39 s = 1 ∧ τ.1 41 s = nI z ∧ τ.1 40 s = σ.1 (17 + s) 0)) : CtI Γ mX6_lacks 1 [rf Γ 25, .int (nI s), .int (nI f), .int v] τ (fun r υ => r = nI l ∧ τ = υ) := by
  apply ct_X6_lacks
  rw [cl (by omega)]
  rcases h with ⟨h1, rfl⟩ | ⟨z, hz, h1, h⟩
  · rw [(h39 _ h1).1 rfl]
    exact ⟨v4 hs, fun y => absurd rfl y, fun _ => ⟨rfl, rfl⟩⟩
  · obtain ⟨e1, e2, e3⟩ := (h39 _ h1).2 z hz rfl
    rw [e1, e2, e3]
    refine ⟨v4 hs, fun _ => ⟨v4 hs, ?_⟩, fun y => absurd y (by decide)⟩
    rcases h with ⟨c, rfl⟩ | ⟨c, h⟩
    · exact ⟨fun y => absurd y c, fun _ => ⟨rfl, rfl⟩⟩
    · refine ⟨fun _ => ⟨v4 hs, _, m_in _ _ _, ?_⟩, fun y => absurd c y⟩
      rintro _ _ ⟨rfl, rfl⟩
      rcases h with ⟨d, rfl⟩ | ⟨⟨k, hk, rfl⟩, rfl⟩
      · rw [okI_0 (by rcases it_or v hz with c | ⟨c, -⟩; exact absurd c d; exact c)]
        exact ⟨fun _ => ⟨rfl, rfl⟩, fun y => absurd rfl y⟩
      · rw [okI_1 (it_not hk hz)]
        exact ⟨fun y => absurd y (by decide), fun _ => ⟨rfl, rfl⟩⟩
theorem sh39 (hR : Rel σ) {s : Nat} (hs : s < 4) : ∀ q, σ.1 (17 + s) 1 = q → (q = -1 → σ.1 39 s = 0) ∧ (∀ z, z ≤ 60 → q = nI z → σ.1 39 s = 1 ∧ σ.1 41 s = nI z ∧ σ.1 40 s = σ.1 (17 + s) 0) := by
  intro q hq
  rcases hR.2.2.2.1 s hs with ⟨h1, h2⟩ | ⟨z, hz, h1, h2, h3, h4⟩
  · refine ⟨fun _ => h2, fun z hz hz2 => ?_⟩
    exact absurd (hz2.symm.trans (hq.symm.trans h1)) (nz hz)
  · refine ⟨fun y => absurd (h1.symm.trans (hq.trans y)) (nz hz), fun z2 hz2 e => ?_⟩
    have : z2 = z := (nI_eq (by omega) (by omega)).mp (e.symm.trans (hq.symm.trans h1))
    subst this
    exact ⟨h2, h3, h4⟩
theorem m_keep {s k : Nat} (hs : s < 4) (hk : k < 60) (v : Int32) : CtV Γ mX6_keep 0 [rf Γ 25, .int (nI s), .int (nI k), .int v] σ (fun τ => τ = sI σ 42 (60 * s + k) (cutF (σ.1 40 s) v)) := by
  apply ct_X6_keep
  rw [ix60, cl (by omega), cl (by omega)]
  have hv : vp_in (nI (60 * s + k)) 240 := vin (by omega) (by omega)
  refine ⟨v4 hs, fun q => ⟨v4 hs, fun z => ⟨hv, ?_⟩, fun z => ⟨hv, ?_⟩⟩, fun q => ⟨hv, ?_⟩⟩
  · rw [cutF, if_neg q, if_neg z]
  · rw [cutF, if_neg q, if_pos z]
  · rw [cutF, if_pos q]
theorem lk_ne {l : Nat} (h3 : l ≤ 3) (h : ¬ l = 0) : ¬ (-10 - nI l = 0) ∧ ¬ nI l ≤ 0 := by
  rcases (show l = 1 ∨ l = 2 ∨ l = 3 by omega) with rfl | rfl | rfl <;> decide
/-- an item of both changes -/
theorem Rel_item (hR : Rel σ) {s k : Nat} (hs : s < 4) (hk : k < 60) (w : Int32) : Rel (sI (sI σ (17 + s + 4) k w) 42 (60 * s + k) w) := by
  have e : ∀ a, a ≠ 17 + s + 4 → a ≠ 42 → (sI (sI σ (17 + s + 4) k w) 42 (60 * s + k) w).1 a = σ.1 a := fun a ha hb => by rw [sI_ne hb, sI_ne ha]
  refine Rel_sh hR (fun a ha => e a (by omega) (by omega)) ⟨fun b hb => ?_, fun b i hb hi => ?_⟩
  · unfold shS
    rw [e (17 + b) (by omega) (by omega), e 39 (by omega) (by omega), e 40 (by omega) (by omega), e 41 (by omega) (by omega)]
    exact hR.2.2.2.1 b hb
  · rw [sI_eq, sI_ne (by omega : 21 + b ≠ 42), sI_ne (by omega : (42 : Nat) ≠ 17 + s + 4)]
    by_cases c : b = s
    · subst c
      rw [show 21 + b = 17 + b + 4 by omega, sI_eq]
      by_cases d : i = k
      · subst d; rw [up_eq, up_eq]
      · rw [up_ne d, up_ne (by omega)]
        have := hR.2.2.2.2 b i hb hi
        rw [show 21 + b = 17 + b + 4 by omega] at this
        exact this
    · rw [up_ne (by omega), sI_ne (by omega)]
      exact hR.2.2.2.2 b i hb hi
theorem o_put (hR : Rel σ) (x y v u : Int32) : PairI Γ mX5_put 2 [rf Γ 0, .int x, .int y, .int v, .int u] mX6_put 2 [rf Γ 25, .int x, .int y, .int v, .int u] σ := by
  by_cases q : noSh x ∨ noFm y
  · refine pairB (c := -2) hR ?_ ?_
    · apply ct_X5_put
      refine ⟨_, c_refIt_bad q, ?_⟩
      rintro _ _ ⟨rfl, rfl⟩
      exact ⟨fun z => absurd z (by decide), fun _ => ⟨rfl, rfl⟩⟩
    · apply ct_X6_put
      refine ⟨_, m_isSheet x, ?_⟩
      rintro _ _ ⟨rfl, rfl⟩
      rcases noSh_or x with c | ⟨s, hs, rfl⟩
      · rw [okI_sh c]; exact ⟨fun _ => ⟨rfl, rfl⟩, fun z => absurd rfl z⟩
      rw [okI_sh1 hs]
      refine ⟨fun z => absurd z (by decide), fun _ => ⟨_, m_in _ _ _, ?_⟩⟩
      rintro _ _ ⟨rfl, rfl⟩
      have d : noFm y := by rcases q with z | z; exact absurd z (noSh_not hs); exact z
      rw [okI_fm d]; exact ⟨fun z => absurd rfl z, fun _ => ⟨rfl, rfl⟩⟩
  · rcases noSh_or x with c | ⟨s, hs, rfl⟩
    · exact absurd (Or.inl c) q
    rcases noFm_or y with d | ⟨f, hf, rfl⟩
    · exact absurd (Or.inr d) q
    obtain ⟨l, hl, hlk⟩ := lack_or (f := f) hR hs v
    have pre : ∀ {τ : St} {Q : Int32 → St → Prop}, (∀ q, σ.1 (17 + s) 1 = q → (q = -1 → τ.1 39 s = 0) ∧ (∀ z, z ≤ 60 → q = nI z → τ.1 39 s = 1 ∧ τ.1 41 s = nI z ∧ τ.1 40 s = σ.1 (17 + s) 0)) →
        (((nI l ≤ 0) → (∃ Q10 : St → Prop, CtV Γ mX6_keep 0 [rf Γ 25, .int (nI s), .int v, .int u] τ Q10 ∧ ∀ (υ : St), Q10 υ → Q 1 υ)) ∧ ((¬ nI l ≤ 0) → (∃ Q13 : Int32 → St → Prop, CtI Γ mX6_meets 0 [rf Γ 25, .int (nI l)] τ Q13 ∧ ∀ (r : Int32) (υ : St), Q13 r υ → Q r υ))) → CtI Γ mX6_put 2 [rf Γ 25, .int (nI s), .int (nI f), .int v, .int u] τ Q := by
      intro τ Q h39 hQ
      apply ct_X6_put
      refine ⟨_, m_isSheet _, ?_⟩
      rintro _ _ ⟨rfl, rfl⟩
      rw [okI_sh1 hs]
      refine ⟨fun z => absurd z (by decide), fun _ => ⟨_, m_in _ _ _, ?_⟩⟩
      rintro _ _ ⟨rfl, rfl⟩
      rw [okI_fm1 hf]
      refine ⟨fun _ => ⟨_, m_lacks hs hlk h39, ?_⟩, fun z => absurd z (by decide)⟩
      rintro _ _ ⟨rfl, rfl⟩
      exact hQ
    by_cases l0 : l = 0
    · subst l0
      obtain ⟨k, hk60, rfl⟩ : ∃ k, k < 60 ∧ v = nI k := by
        rcases hlk with ⟨-, h⟩ | ⟨z, hz, -, ⟨-, h⟩ | ⟨-, ⟨-, h⟩ | ⟨⟨k, hk, e⟩, -⟩⟩⟩
        · exact absurd h (by decide)
        · exact absurd h (by decide)
        · exact absurd h (by decide)
        · exact ⟨k, by omega, e⟩
      refine ⟨fun r τ => r = 1 ∧ τ = sI σ (17 + s + 4) k (cutF (σ.1 (17 + s) 0) u), ?_, ?_⟩
      · apply ct_X5_put
        refine ⟨_, c_refIt hs hf hlk, ?_⟩
        rintro r τ (⟨-, rfl, rfl⟩ | ⟨c, -⟩)
        · rw [cl (by omega)]
          refine ⟨fun _ => ⟨v4 hs, _, c_store (sh_at hs) hk60 u, ?_⟩, fun z => absurd rfl z⟩
          rintro _ rfl
          exact ⟨rfl, rfl⟩
        · exact absurd rfl c
      · rintro _ _ ⟨rfl, rfl⟩
        generalize hw : cutF (σ.1 (17 + s) 0) u = w
        have e : ∀ a, a ≠ 17 + s + 4 → (sI σ (17 + s + 4) k w).1 a = σ.1 a := fun a ha => sI_ne ha
        have h40 : σ.1 40 s = σ.1 (17 + s) 0 := by
          rcases hlk with ⟨-, h⟩ | ⟨z, hz, hz1, -⟩
          · exact absurd h (by decide)
          · exact ((sh39 hR hs _ hz1).2 z hz rfl).2.2
        refine ⟨fun r τ => r = 1 ∧ τ = sI (sI σ (17 + s + 4) k w) 42 (60 * s + k) w, ?_, ?_⟩
        · refine pre (by rw [e 39 (by omega), e 40 (by omega), e 41 (by omega)]; exact sh39 hR hs) ⟨fun _ => ⟨_, m_keep hs hk60 u, ?_⟩, fun z => absurd (by decide) z⟩
          rintro _ rfl
          rw [e 40 (by omega), h40, hw]
          exact ⟨rfl, rfl⟩
        · rintro _ _ ⟨rfl, rfl⟩
          exact ⟨rfl, Rel_item hR hs hk60 w⟩
    · refine pairF (c := -10 - nI l) (f := nI l) hR ?_ ?_
      · apply ct_X5_put
        refine ⟨_, c_refIt hs hf hlk, ?_⟩
        rintro r τ (⟨c, -⟩ | ⟨-, rfl, rfl⟩)
        · exact absurd c l0
        · exact ⟨fun z => absurd z (lk_ne hl l0).1, fun _ => ⟨rfl, rfl⟩⟩
      · refine pre (sh39 hR hs) ⟨fun z => absurd z (lk_ne hl l0).2, fun _ => ⟨_, m_meets _, ?_⟩⟩
        rintro _ _ ⟨rfl, rfl⟩
        exact ⟨rfl, rfl⟩
theorem o_get (hR : Rel σ) (x y v : Int32) : PairI Γ mX5_get 2 [rf Γ 0, .int x, .int y, .int v] mX6_get 2 [rf Γ 25, .int x, .int y, .int v] σ := by
  by_cases q : noSh x ∨ noFm y
  · refine pairB (c := -2147483648) hR ?_ ?_
    · apply ct_X5_get
      refine ⟨_, c_refIt_bad q, ?_⟩
      rintro _ _ ⟨rfl, rfl⟩
      exact ⟨fun z => absurd z (by decide), fun _ => ⟨rfl, rfl⟩⟩
    · apply ct_X6_get
      refine ⟨_, m_isSheet x, ?_⟩
      rintro _ _ ⟨rfl, rfl⟩
      rcases noSh_or x with c | ⟨s, hs, rfl⟩
      · rw [okI_sh c]; exact ⟨fun _ => ⟨rfl, rfl⟩, fun z => absurd rfl z⟩
      rw [okI_sh1 hs]
      refine ⟨fun z => absurd z (by decide), fun _ => ⟨_, m_in _ _ _, ?_⟩⟩
      rintro _ _ ⟨rfl, rfl⟩
      have d : noFm y := by rcases q with z | z; exact absurd z (noSh_not hs); exact z
      rw [okI_fm d]; exact ⟨fun z => absurd rfl z, fun _ => ⟨rfl, rfl⟩⟩
  · rcases noSh_or x with c | ⟨s, hs, rfl⟩
    · exact absurd (Or.inl c) q
    rcases noFm_or y with d | ⟨f, hf, rfl⟩
    · exact absurd (Or.inr d) q
    obtain ⟨l, hl, hlk⟩ := lack_or (f := f) hR hs v
    have pre : ∀ {τ : St} {Q : Int32 → St → Prop}, (∀ q, σ.1 (17 + s) 1 = q → (q = -1 → τ.1 39 s = 0) ∧ (∀ z, z ≤ 60 → q = nI z → τ.1 39 s = 1 ∧ τ.1 41 s = nI z ∧ τ.1 40 s = σ.1 (17 + s) 0)) →
        (((nI l ≤ 0) → (vp_in ((60 * nI s) + v) 240 ∧ Q (τ.1 42 ((60 * nI s) + v).toNatClampNeg) τ)) ∧ ((¬ nI l ≤ 0) → Q (-2147483648) (sI τ 25 23 (nI l)))) → CtI Γ mX6_get 2 [rf Γ 25, .int (nI s), .int (nI f), .int v] τ Q := by
      intro τ Q h39 hQ
      apply ct_X6_get
      refine ⟨_, m_isSheet _, ?_⟩
      rintro _ _ ⟨rfl, rfl⟩
      rw [okI_sh1 hs]
      refine ⟨fun z => absurd z (by decide), fun _ => ⟨_, m_in _ _ _, ?_⟩⟩
      rintro _ _ ⟨rfl, rfl⟩
      rw [okI_fm1 hf]
      refine ⟨fun _ => ⟨_, m_lacks hs hlk h39, ?_⟩, fun z => absurd z (by decide)⟩
      rintro _ _ ⟨rfl, rfl⟩
      exact hQ
    by_cases l0 : l = 0
    · subst l0
      obtain ⟨k, hk60, rfl⟩ : ∃ k, k < 60 ∧ v = nI k := by
        rcases hlk with ⟨-, h⟩ | ⟨z, hz, -, ⟨-, h⟩ | ⟨-, ⟨-, h⟩ | ⟨⟨k, hk, e⟩, -⟩⟩⟩
        · exact absurd h (by decide)
        · exact absurd h (by decide)
        · exact absurd h (by decide)
        · exact ⟨k, by omega, e⟩
      refine ⟨fun r τ => r = σ.1 (21 + s) k ∧ σ = τ, ?_, ?_⟩
      · apply ct_X5_get
        refine ⟨_, c_refIt hs hf hlk, ?_⟩
        rintro r τ (⟨-, rfl, rfl⟩ | ⟨c, -⟩)
        · rw [cl (by omega), cl (by omega), show 17 + s + 4 = 21 + s by omega]
          exact ⟨fun _ => ⟨v4 hs, vin hk60 (by omega), rfl, rfl⟩, fun z => absurd rfl z⟩
        · exact absurd rfl c
      · rintro _ _ ⟨rfl, rfl⟩
        refine ⟨fun r τ => r = σ.1 42 (60 * s + k) ∧ σ = τ, ?_, ?_⟩
        · refine pre (sh39 hR hs) ⟨fun _ => ?_, fun z => absurd (by decide) z⟩
          rw [ix60, cl (by omega)]
          exact ⟨vin (by omega) (by omega), rfl, rfl⟩
        · rintro _ _ ⟨rfl, rfl⟩
          exact ⟨(hR.2.2.2.2 s k hs hk60).symm, hR⟩
    · refine pairF (c := -2147483648) (f := nI l) hR ?_ ?_
      · apply ct_X5_get
        refine ⟨_, c_refIt hs hf hlk, ?_⟩
        rintro r τ (⟨c, -⟩ | ⟨-, rfl, rfl⟩)
        · exact absurd c l0
        · exact ⟨fun z => absurd z (lk_ne hl l0).1, fun _ => ⟨rfl, rfl⟩⟩
      · exact pre (sh39 hR hs) ⟨fun z => absurd z (lk_ne hl l0).2, fun _ => ⟨rfl, rfl⟩⟩
end SHEETS
