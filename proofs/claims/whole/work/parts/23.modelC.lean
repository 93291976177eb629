/-! the reference: what it answers without a change -/
section MODELC
variable {Γ : GT} {σ : St}
theorem onM_at {i : Nat} (hi : i < 5) : σ.1 30 i = eon (evM σ) i := by show _ = onM σ i; unfold onM; rw [if_pos hi]
theorem m_stillNow (h : icM σ) : CtI Γ mX6_stillNow 4 [rf Γ 25] σ (fun r τ => r = (sStl (vM σ)).1 ∧ eq5 (τ.1 36) (sStl (vM σ)).2 ∧ fm [36, 37, 38] [] [] σ τ) := by
  have h5 := h.1.1.2.1
  apply ct_X6_stillNow
  refine ⟨_, m_triesNow, ?_⟩
  rintro τ0 ⟨he0, hf0⟩
  have hs := stl_c (e := evM σ) h5 200 0 he0
  have hdef : stl (evM σ) 200 0 (σ.1 31) = sStl (vM σ) := rfl
  rw [hdef] at hs
  generalize sStl (vM σ) = F at hs ⊢
  have im : ∀ {τ : St}, fm [36, 37, 38] [] [] σ τ → inM τ ∧ evM τ = evM σ := fun hf => ⟨inM_fm hf (by decide) (by decide) h.1, evM_fm hf (by decide) (by decide)⟩
  have last : ∀ τ : St, fm [36, 37, 38] [] [] σ τ → (stl (evM σ) 0 200 (τ.1 36)).1 = F.1 → eq5 (τ.1 36) F.2 → G Γ mX6_stillNow (NI Γ 4 (fun r τ => r = F.1 ∧ eq5 (τ.1 36) F.2 ∧ fm [36, 37, 38] [] [] σ τ)) 37 [(0, rf Γ 25), (2, .int 0)] [] τ := by
    intro τ hf h1 h2
    refine lp_up (P := fun j => ∀ υ : St, fm [36, 37, 38] [] [] σ υ → υ.1 36 = τ.1 36 → (∀ k, k < j → υ.1 38 k = τ.1 36 k) → G Γ mX6_stillNow _ 37 [(0, rf Γ 25), (2, .int (nI j))] [] υ) (evM σ).1 ?_ (fun j hj ih => ?_) 0 (Nat.zero_le _) τ hf rfl (fun k hk => absurd hk (by omega))
    · intro υ hfu hu hk
      apply t_X6_stillNow_37
      rw [(im hfu).1.2, (im hfu).2]
      refine pk_le (evM σ).1 (evM σ).1 (fun _ => ⟨_, m_turns (im hfu).1, ?_⟩) (fun q => absurd q (by omega))
      rintro _ υ2 ⟨rfl, hfin, hf2⟩
      rw [(im hfu).2, hu] at hfin ⊢
      have hf3 : fm [36, 37, 38] [] [] σ υ2 := hfu.tr (hf2.mono (by simp) (by simp) (by simp))
      have h38 : ∀ k, k < (evM σ).1 → υ2.1 38 k = τ.1 36 k := fun k hk2 => by rw [hf2.at 38 (by decide)]; exact hk k hk2
      have hout : ∀ k, (evM σ).1 ≤ k → υ2.1 36 k = τ.1 36 k := fun k hk2 => by rw [hfin]; unfold fin; rw [if_neg (by omega)]
      unfold stl at h1
      have hlt : cnt (evM σ) (τ.1 36) (evM σ).1 < 2 ^ 31 := Nat.lt_of_le_of_lt (cnt_le _ _ _) (by omega)
      generalize cnt (evM σ) (τ.1 36) (evM σ).1 = cc at h1 hlt
      refine lp_up (P := fun j => ∀ ω : St, fm [36, 37, 38] [] [] σ ω → (∀ k, k < (evM σ).1 → ω.1 38 k = τ.1 36 k) → (∀ k, k < j ∨ (evM σ).1 ≤ k → ω.1 36 k = τ.1 36 k) → G Γ mX6_stillNow _ 70 [(0, rf Γ 25), (2, .int (nI cc)), (3, .int (nI j))] [] ω) (evM σ).1 ?_ (fun j hj ih2 => ?_) 0 (Nat.zero_le _) υ2 hf3 h38 (fun k hk2 => hout k (by omega))
      · intro ω hfo ho1 ho2
        apply t_X6_stillNow_70
        rw [(im hfo).1.2, (im hfo).2]
        have hall : ω.1 36 = τ.1 36 := by funext k; exact ho2 k (by omega)
        refine pk_le (evM σ).1 (evM σ).1 (fun _ => ⟨fun q => ⟨?_, by rw [hall]; exact h2, hfo⟩, fun q => ⟨?_, by rw [hall]; exact h2, hfo⟩⟩) (fun q => absurd q (by omega))
        · rw [← h1]
          have : cc = 0 := by
            rcases Nat.eq_zero_or_pos cc with z | z
            · exact z
            · exact absurd q (nI_nle z hlt)
          rw [if_pos this]
        · rw [← h1]
          have : ¬ cc = 0 := by
            intro z; subst z; exact q (by decide)
          rw [if_neg this]
      · intro ω hfo ho1 ho2
        apply t_X6_stillNow_70
        rw [(im hfo).1.2, (im hfo).2]
        have hv : vp_in (nI j) 5 := vin (by omega) (by omega)
        refine pk_le (evM σ).1 j (fun q => absurd q (by omega)) (fun _ => ⟨hv, hv, ?_⟩)
        rw [cl (by omega : j < 1000), nI_1]
        refine ih2 _ (hfo.si (by simp) (by decide)) (fun k hk2 => by rw [sI_ne (by decide)]; exact ho1 k hk2) (fun k hk2 => ?_)
        rw [sI_eq]
        by_cases c : k = j
        · subst c; rw [up_eq]; exact ho1 k hj
        · rw [up_ne c]; exact ho2 k (by omega)
    · intro υ hfu hu hk
      apply t_X6_stillNow_37
      rw [(im hfu).1.2, (im hfu).2]
      have hv : vp_in (nI j) 5 := vin (by omega) (by omega)
      refine pk_le (evM σ).1 j (fun q => absurd q (by omega)) (fun _ => ⟨hv, hv, ?_⟩)
      rw [cl (by omega : j < 1000), nI_1]
      refine ih _ (hfu.si (by simp) (by decide)) (by rw [sI_ne (by decide)]; exact hu) (fun k hk2 => ?_)
      rw [sI_eq]
      by_cases c : k = j
      · subst c; rw [up_eq, hu]
      · rw [up_ne c]; exact hk k (by omega)
  have key : ∀ k, ∀ t, t + k = 200 → ∀ τ : St, fm [36, 37, 38] [] [] σ τ → (stl (evM σ) k t (τ.1 36)).1 = F.1 → eq5 (stl (evM σ) k t (τ.1 36)).2 F.2 → G Γ mX6_stillNow (NI Γ 4 (fun r τ => r = F.1 ∧ eq5 (τ.1 36) F.2 ∧ fm [36, 37, 38] [] [] σ τ)) 6 [(0, rf Γ 25), (1, .int (nI t))] [] τ := by
    intro k
    induction k with
    | zero =>
      intro t ht τ hf h1 h2
      have ht : t = 200 := by omega
      subst ht
      apply t_X6_stillNow_6
      exact pk_le 200 200 (fun _ => pk_le 200 200 (fun _ => last τ hf h1 h2) (fun q => absurd q (by omega))) (fun q => absurd q (by omega))
    | succ k ih =>
      intro t ht τ hf h1 h2
      apply t_X6_stillNow_6
      refine pk_le 200 t (fun q => absurd q (by omega)) (fun _ => ⟨_, m_turns (im hf).1, ?_⟩)
      rintro _ υ ⟨rfl, hu, hf2⟩
      rw [(im hf).2] at hu ⊢
      rw [nI_1]
      have hf3 : fm [36, 37, 38] [] [] σ υ := hf.tr (hf2.mono (by simp) (by simp) (by simp))
      unfold stl at h1 h2
      have hlt : cnt (evM σ) (τ.1 36) (evM σ).1 < 2 ^ 31 := Nat.lt_of_le_of_lt (cnt_le _ _ _) (by omega)
      refine ⟨fun q => ?_, fun q => ?_⟩
      · have c : cnt (evM σ) (τ.1 36) (evM σ).1 = 0 := by
          rcases Nat.eq_zero_or_pos (cnt (evM σ) (τ.1 36) (evM σ).1) with z | z
          · exact z
          · exact absurd q (nI_nle z hlt)
        rw [if_pos c] at h1 h2
        rw [fin_0 c] at hu
        exact pk_le 200 t (fun q => absurd q (by omega)) (fun _ => ⟨h1, by rw [hu]; exact h2, hf3⟩)
      · have c : ¬ cnt (evM σ) (τ.1 36) (evM σ).1 = 0 := fun z => q (by rw [z]; decide)
        rw [if_neg c] at h1 h2
        exact ih (t + 1) (by omega) υ hf3 (by rw [hu]; exact h1) (by rw [hu]; exact h2)
  exact key 200 0 rfl τ0 (hf0.mono (by simp) (by simp) (by simp)) hs.1 hs.2
theorem m_restOf {i : Nat} (h : icM σ) (hi : i < 5) : CtI Γ mX6_restOf 5 [rf Γ 25, .int (nI i)] σ (fun r τ => r = (sStl (vM σ)).2 i ∧ fmC σ τ) := by
  apply ct_X6_restOf
  refine ⟨_, m_stillNow h, ?_⟩
  rintro _ τ ⟨rfl, h1, hf⟩
  rw [cl (by omega)]
  exact ⟨vin hi (by omega), h1 i hi, toM hf (by simp) (by simp) (by simp)⟩
theorem m_metNow (h : icM σ) : CtI Γ mX6_metNow 2 [rf Γ 25] σ (fun r τ => r = sMet (vM σ) ∧ fmC σ τ) := by
  have h5 := h.1.1.2.1
  apply ct_X6_metNow
  refine lp_up (P := fun j => ∀ τ : St, fmC σ τ → G Γ mX6_metNow _ 4 [(0, rf Γ 25), (1, .int (bitsL (hasW (evM σ) (σ.1 31)) j)), (2, .int (nI j))] [] τ) (evM σ).1 ?_ (fun j hj ih => ?_) 0 (Nat.zero_le _) σ fm.rf
  · intro τ hf
    have hM := inM_fm hf hIM (by decide) h.1
    apply t_X6_metNow_4
    rw [hM.2, evM_fm hf hIM (by decide)]
    exact pk_le (evM σ).1 (evM σ).1 (fun _ => ⟨rfl, hf⟩) (fun q => absurd q (by omega))
  · intro τ hf
    have hM := inM_fm hf hIM (by decide) h.1
    have hE := evM_fm hf hIM (by decide)
    apply t_X6_metNow_4
    rw [hM.2, hE]
    refine pk_le (evM σ).1 j (fun q => absurd q (by omega)) (fun _ => ⟨_, m_hasWish hM (by omega), ?_⟩)
    rintro _ υ ⟨rfl, hf2⟩
    have hf3 : fmC σ υ := hf.tr (toM hf2 (by simp) (by simp) (by simp))
    rw [nI_1, hE, hf.at 31 (by decide), Int32.or_zero]
    rw [bitsL] at ih
    exact ⟨fun q => by rw [if_pos q] at ih; exact ih υ hf3, fun q => by rw [if_neg q] at ih; exact ih υ hf3⟩
theorem m_sumOn (h : icM σ) : CtI Γ mX6_sumOn 0 [rf Γ 25] σ (fun r τ => r = sSum (vM σ) ∧ σ = τ) := by
  have h5 := h.1.1.2.1
  apply ct_X6_sumOn
  refine lp_up (P := fun j => G Γ mX6_sumOn _ 4 [(0, rf Γ 25), (1, .int (sumL (eon (evM σ)) (σ.1 31) j)), (2, .int (nI j))] [] σ) (evM σ).1 ?_ (fun j hj ih => ?_) 0 (Nat.zero_le _)
  · apply t_X6_sumOn_4
    rw [h.1.2]
    exact pk_le (evM σ).1 (evM σ).1 (fun _ => ⟨rfl, rfl⟩) (fun q => absurd q (by omega))
  · apply t_X6_sumOn_4
    rw [h.1.2]
    have hv : vp_in (nI j) 5 := vin (by omega) (by omega)
    refine pk_le (evM σ).1 j (fun q => absurd q (by omega)) (fun _ => ⟨hv, ?_⟩)
    rw [nI_1, cl (by omega : j < 1000), Int32.add_zero, onM_at (by omega)]
    rw [sumL] at ih
    exact ⟨fun q => by rw [if_pos q] at ih; exact ih, fun q => by rw [if_neg q] at ih; exact ⟨hv, ih⟩⟩
theorem m_fault (h : icM σ) : CtI Γ mX6_fault 2 [rf Γ 25] σ (fun r τ => r = sFault (vM σ) ∧ σ = τ) := by
  obtain ⟨hL, h12⟩ : σ.1 25 9 = nI (vM σ).2.2.1 ∧ (vM σ).2.2.1 ≤ 12 := ⟨h.2.2, h.2.1.2.2⟩
  apply ct_X6_fault
  have hdef : sFault (vM σ) = flt (evM σ).1 (σ.1 32) (vM σ).2.2.1 0 := rfl
  rw [hL, hdef]
  generalize (vM σ).2.2.1 = L at h12
  have key : ∀ m, m ≤ L → G Γ mX6_fault (NI Γ 2 (fun r τ => r = flt (evM σ).1 (σ.1 32) L 0 ∧ σ = τ)) 9 [(0, rf Γ 25), (1, .int (flt (evM σ).1 (σ.1 32) (L - m) m)), (2, .int (nI m - 1))] [] σ := by
    intro m
    induction m with
    | zero =>
      intro _
      apply t_X6_fault_9
      exact br_t (by decide) ⟨rfl, rfl⟩
    | succ m ih =>
      intro hm
      have ih := ih (by omega)
      apply t_X6_fault_9
      rw [nI_pred, cl (by omega : m < 1000)]
      refine br_f (nI_pos (by omega)) ⟨vin (by omega) (by omega), _, m_isSender h.1 _, ?_⟩
      rintro _ _ ⟨rfl, rfl⟩
      rw [show nI m + (-1 : Int32) = nI m - 1 from (Int32.sub_eq_add_neg _ _).symm]
      rw [show L - m = L - (m + 1) + 1 by omega, flt] at ih
      by_cases c : σ.1 32 m - 97 < 0 ∨ nI (evM σ).1 ≤ σ.1 32 m - 97
      · rw [if_pos c] at ih ⊢
        exact ⟨fun _ => ih, fun q => absurd rfl q⟩
      · rw [if_neg c] at ih ⊢
        exact ⟨fun q => absurd q (by decide), fun _ => ih⟩
  have := key L (Nat.le_refl _)
  rw [Nat.sub_self] at this
  exact this
theorem m_setting {i : Nat} (hi : i < 5) (y : Int32) : CtI Γ mX6_setting 0 [rf Γ 25, .int (nI i), .int y] σ (fun r τ => r = (if y = 0 then ew (evM σ) i else if y = 1 then eno (evM σ) i else ecap (evM σ) i) ∧ σ = τ) := by
  apply ct_X6_setting
  rw [cl (by omega)]
  have hv := vin hi (by omega : 5 < 1000)
  refine ⟨fun q => ⟨fun z => ⟨hv, ?_, rfl⟩, fun z => ⟨hv, ?_, rfl⟩⟩, fun q => ⟨hv, ?_, rfl⟩⟩
  · rw [if_neg q, if_neg z]; rfl
  · rw [if_neg q, if_pos z]; rfl
  · rw [if_pos q]; rfl
theorem m_infoOf {i : Nat} (h : icM σ) (hi : i < 5) {y : Int32} (hy : ¬ (y < 0 ∨ 7 < y)) : CtI Γ mX6_infoOf 2 [rf Γ 25, .int (nI i), .int y] σ (fun r τ => r = sInfo (vM σ) i y ∧ fmC σ τ) := by
  have h5 := h.1.1.2.1
  apply ct_X6_infoOf
  refine ⟨_, m_triesNow, ?_⟩
  rintro τ ⟨he, hf⟩
  have hM := inM_fm hf (by decide) (by decide) h.1
  have hE := evM_fm hf (by decide) (by decide)
  have hfC : fmC σ τ := toM hf (by simp) (by simp) (by simp)
  have hv := vin hi (by omega : 5 < 1000)
  rw [cl (by omega), ix6, cl (by omega), hf.at 31 (by decide), hf.at 26 (by decide), hf.at 30 (by decide), onM_at hi]
  refine ⟨fun q => ⟨_, m_setting hi _, ?_⟩, fun q => ⟨_, m_setting hi _, ?_⟩, fun q => ⟨_, m_setting hi _, ?_⟩, fun q => ⟨hv, fun z => ⟨?_, hfC⟩, fun z => ⟨?_, hfC⟩⟩, fun q => ⟨hv, ?_, hfC⟩, fun q => ⟨_, m_needOf hM hi, ?_⟩, fun q => ⟨_, m_hasWish hM hi, ?_⟩, fun q0 q1 q2 q3 q4 q5 q6 => ⟨vin (by omega) (by omega), ?_, hfC⟩⟩
  · rintro _ _ ⟨rfl, rfl⟩; subst q; rw [hE]; exact ⟨rfl, hfC⟩
  · rintro _ _ ⟨rfl, rfl⟩; subst q; rw [hE]; exact ⟨rfl, hfC⟩
  · rintro _ _ ⟨rfl, rfl⟩; subst q; rw [hE]; exact ⟨rfl, hfC⟩
  · subst q; exact z.symm
  · subst q
    rcases h.1.1.2.2.1 i with y | y
    · exact absurd y z
    · exact y.symm
  · subst q; rfl
  · rintro _ _ ⟨rfl, rfl⟩; subst q
    refine ⟨?_, hfC⟩
    have hh : hb (evM τ) (τ.1 36) i = hb (evM σ) (σ.1 31) i := by rw [hE]; exact hbL_c he i _ h5
    unfold nd
    rw [hh, hE]; rfl
  · rintro _ υ ⟨rfl, hf2⟩; subst q
    have hf3 : fmC σ υ := hfC.tr (toM hf2 (by simp) (by simp) (by simp))
    rw [hE, hf.at 31 (by decide)]
    refine ⟨fun q => ⟨q.symm, hf3⟩, fun q => ⟨?_, hf3⟩⟩
    rcases hasW_zo (evM σ) (σ.1 31) i with z | z
    · exact absurd z q
    · exact z.symm
  · unfold sInfo
    rw [if_neg q0, if_neg q1, if_neg q2, if_neg q3, if_neg q4, if_neg q5, if_neg q6]
    rfl
theorem m_feasible (h : icM σ) : CtI Γ mX6_feasible 5 [rf Γ 25] σ (fun r τ => r = sFeas (vM σ) ∧ fmC σ τ) := by
  apply ct_X6_feasible
  refine ⟨_, m_isFeasibleNow h.1, ?_⟩
  rintro _ τ ⟨rfl, -, hf⟩
  have hfC : fmC σ τ := toM hf (by simp) (by simp) (by simp)
  unfold sFeas
  show _ ∧ _
  by_cases c : feas (enT (evM σ)) (onm (evM σ)) = true
  · have c' : feas (enT (vM σ).1) (onm (vM σ).1) = true := c
    rw [c, c']; exact ⟨fun q => absurd q (by decide), fun _ => ⟨rfl, hfC⟩⟩
  · have c2 : feas (enT (evM σ)) (onm (evM σ)) = false := by simpa using c
    have c' : feas (enT (vM σ).1) (onm (vM σ).1) = false := c2
    rw [c2, c']; exact ⟨fun _ => ⟨rfl, hfC⟩, fun q => absurd rfl q⟩
theorem m_minor_bad (h : icM σ) {x : Int32} (hx : x < 0 ∨ nI (2 ^ (evM σ).1 - 1) < x) : CtJ Γ mX6_minor 3 [rf Γ 25, .int x] σ (fun r τ => r = lmin (-2) ∧ σ = τ) := by
  have h5 := h.1.1.2.1
  apply ct_X6_minor
  rw [h.1.2, shl_j _ (by omega), pm1 h5]
  refine ⟨_, m_in _ _ _, ?_⟩
  rintro _ _ ⟨rfl, rfl⟩
  unfold okI
  rw [if_pos hx]
  refine ⟨fun q => absurd rfl q, fun _ => ⟨_, m_no _, ?_⟩⟩
  rintro _ _ ⟨rfl, rfl⟩
  exact ⟨rfl, rfl⟩
theorem m_minor {k : Nat} (h : icM σ) (hk : k < 2 ^ (evM σ).1) : CtJ Γ mX6_minor 3 [rf Γ 25, .int (nI k)] σ (fun r τ => r = sMinor (vM σ) k ∧ fmC σ τ) := by
  have h5 := h.1.1.2.1
  have h32 := pow_32 _ h5
  apply ct_X6_minor
  rw [h.1.2, shl_j _ (by omega), pm1 h5]
  refine ⟨_, m_in _ _ _, ?_⟩
  rintro _ _ ⟨rfl, rfl⟩
  unfold okI
  rw [if_neg (by rintro (q | q); exact nI_pos (by omega) q; exact nI_nlt (by omega) (by omega) q)]
  refine ⟨fun _ => ⟨_, m_asks, ?_⟩, fun q => absurd q (by decide)⟩
  rintro τ ⟨ha, hf⟩
  have hM := inM_fm hf (by decide) (by decide) h.1
  have hE := evM_fm hf (by decide) (by decide)
  refine ⟨_, m_onNow hM, ?_⟩
  rintro _ _ ⟨rfl, rfl⟩
  have ho := onm_lt (evM σ)
  have hand := and_j k (by omega) (onm (evM σ)) (by omega)
  rw [hE, hand.1]
  have hs32 : k &&& onm (evM σ) < 32 := by omega
  have hz := pop_le _ hs32
  have p32 := pow_32 _ hz
  have pp := Nat.two_pow_pos (pop (k &&& onm (evM σ)))
  refine ⟨_, m_lays hs32 (-1), ?_⟩
  rintro υ ⟨hw, hT, hf2⟩
  rw [hw, shl_j _ (by omega), pm1 hz, cl (by omega), hT _ (by omega)]
  refine ⟨vin (by omega) (by omega), ?_, (toM hf (by simp) (by simp) (by simp)).tr (toM hf2 (by simp) (by simp) (by simp))⟩
  rw [pd_c hz (layM_m1 hs32) _ (by omega)]
  have := mnr_c (n := 5) (s := k &&& onm (evM σ)) (Nat.le_refl _) hs32 (laE_T ha)
  unfold mnr at this
  rw [this, hE]; rfl
-- ---- the searches
theorem wf_top {F : Nat → Bool} {all : Nat} (h : all < 32) : ∀ {k : Nat}, all ≤ k → wf F all k = wf F all all := by
  have hs : ∀ s, all < s → ¬ s &&& all = s := fun s h1 h2 => by
    have := Nat.and_le_right (n := s) (m := all)
    omega
  intro k hk
  induction k with
  | zero => rw [Nat.le_zero.mp hk]
  | succ k ih =>
    rcases (show all = k + 1 ∨ all ≤ k by omega) with rfl | h2
    · rfl
    · rw [wf, if_neg (fun z => hs (k + 1) (by omega) z.1)]; exact ih h2
theorem pop_sub : ∀ t, t < 32 → ∀ s, s < 32 → s &&& t = s → pop s ≤ pop t := by decide +kernel
theorem lvs_sub {F : Nat → Bool} {all : Nat} : ∀ k, lvF F all k &&& all = lvF F all k
  | 0 => Nat.and_self _
  | k + 1 => by
    rw [lvF]; split
    · next q => exact q.1
    · exact lvs_sub k
theorem lv_top {F : Nat → Bool} {all : Nat} (h : all < 32) : ∀ {k : Nat}, all ≤ k → lvF F all k = lvF F all all := by
  intro k hk
  induction k with
  | zero => rw [Nat.le_zero.mp hk]
  | succ k ih =>
    rcases (show all = k + 1 ∨ all ≤ k by omega) with rfl | h2
    · rfl
    · rw [lvF, if_neg]
      · exact ih h2
      · intro z
        have hle := Nat.and_le_right (n := k) (m := all)
        have hk2 : k = all := by omega
        subst hk2
        have := lvs_sub (F := F) (all := k) k
        have hl : lvF F k k ≤ k := by have := Nat.and_le_right (n := lvF F k k) (m := k); omega
        have := pop_sub k h _ (by omega) this
        omega
theorem wf_0 {F : Nat → Bool} {all : Nat} (h : ∀ s, s &&& all = s → F s = true) : ∀ k, wf F all k = 0
  | 0 => rfl
  | k + 1 => by
    rw [wf, if_neg]
    · exact wf_0 h k
    · intro z
      rw [h _ z.1] at z
      exact absurd z.2.2 (by decide)
theorem m_witnessNow (h : icM σ) : CtI Γ mX6_witnessNow 5 [rf Γ 25] σ (fun r τ => r = sWit (vM σ) ∧ fmC σ τ) := by
  have h5 := h.1.1.2.1
  have h32 := onm_32 h5
  apply ct_X6_witnessNow
  refine ⟨_, m_onNow h.1, ?_⟩
  rintro _ _ ⟨rfl, rfl⟩
  refine ⟨_, m_isFeasibleNow h.1, ?_⟩
  rintro _ τ0 ⟨rfl, ha0, hf0⟩
  have hw : sWit (vM σ) = nI (wf (feas (enT (evM σ))) (onm (evM σ)) (onm (evM σ))) := rfl
  rw [hw]
  have hf0C : fmC σ τ0 := toM hf0 (by simp) (by simp) (by simp)
  by_cases c : feas (enT (evM σ)) (onm (evM σ)) = true
  · rw [c, wf_0 (wit_ok h.1.1 c)]
    apply t_X6_witnessNow_15
    exact ⟨fun q => absurd q (by decide), fun _ => ⟨fun _ => ⟨rfl, hf0C⟩, fun q => absurd q (by decide)⟩⟩
  · have c2 : feas (enT (evM σ)) (onm (evM σ)) = false := by simpa using c
    rw [c2]
    generalize hF : feas (enT (evM σ)) = F
    generalize hA : onm (evM σ) = all at h32
    rw [← wf_top h32 (by omega : all ≤ 31)]
    obtain ⟨W, hW⟩ : ∃ W, W = wf F all 31 := ⟨_, rfl⟩
    rw [← hW]
    refine lp_up (P := fun k => ∀ τ : St, fmC σ τ → asT τ → G Γ mX6_witnessNow _ 15 [(0, rf Γ 25), (1, .int (nI all)), (2, .int (nI (wf F all k))), (3, .int 0), (4, .int (nI (k + 1)))] [] τ) 31 ?_ (fun k hk ih => ?_) 0 (Nat.zero_le _) τ0 hf0C ha0
    · intro τ hf ha
      apply t_X6_witnessNow_15
      exact pk_le 32 32 (fun _ => ⟨by rw [hW], hf⟩) (fun q => absurd q (by omega))
    · intro τ hf ha
      have hE := evM_fm hf hIM (by decide)
      have hwl := wf_le F all k
      have body : ∀ y : Int32, (y = 0 ∧ ¬ (wf F all k = 0 ∨ pop (k + 1) < pop (wf F all k))) ∨ (¬ y = 0 ∧ (wf F all k = 0 ∨ pop (k + 1) < pop (wf F all k))) → G Γ mX6_witnessNow (NI Γ 5 (fun r τ => r = nI W ∧ fmC σ τ)) 47 [(0, rf Γ 25), (1, .int (nI all)), (2, .int (nI (wf F all k))), (3, .int 0), (4, .int (nI (k + 1)))] [.int y] τ := by
        intro y hy
        apply t_X6_witnessNow_47
        rw [sbs_j (k + 1) (by omega) all h32, nI_1]
        rw [wf] at ih
        refine ⟨fun z => ?_, fun z => ⟨fun w => ?_, fun w => ⟨_, m_isFeasible (by omega), ?_⟩⟩⟩
        · rw [if_neg (fun q => z q.1)] at ih; exact ih τ hf ha
        · rcases hy with y1 | y1
          · rw [if_neg (fun q => y1.2 q.2.1)] at ih; exact ih τ hf ha
          · exact absurd w y1.1
        · rintro _ υ ⟨rfl, hf2⟩
          have hf3 : fmC σ υ := hf.tr (toM hf2 (by simp) (by simp) (by simp))
          have ha3 := asT_fm ha hf2 (by decide) (by decide) (by decide) (by decide)
          rw [feas_T ha (by omega), hE, hF]
          rcases hy with y1 | y1
          · exact absurd y1.1 w
          · by_cases d : F (k + 1) = true
            · rw [if_neg (fun q => by rw [d] at q; exact absurd q.2.2 (by decide))] at ih
              rw [d]
              exact ⟨fun _ => ih υ hf3 ha3, fun q => absurd q (by decide)⟩
            · have d2 : F (k + 1) = false := by simpa using d
              rw [if_pos ⟨z, y1.2, d2⟩] at ih
              rw [d2]
              exact ⟨fun q => absurd rfl q, fun _ => ih υ hf3 ha3⟩
      apply t_X6_witnessNow_15
      refine pk_le 32 (k + 1) (fun q => absurd q (by omega)) (fun _ => ⟨fun q => absurd rfl q, fun _ => ⟨fun q => ?_, fun q => ⟨_, m_bitsOf (by omega), ?_⟩⟩⟩)
      · have : wf F all k = 0 := (nI_eq (by omega) (by decide : 0 < 2 ^ 31)).mp q
        exact body 1 (Or.inr ⟨by decide, Or.inl this⟩)
      · rintro _ _ ⟨rfl, rfl⟩
        refine ⟨_, m_bitsOf (by omega), ?_⟩
        rintro _ _ ⟨rfl, rfl⟩
        have hp1 := pop_le (wf F all k) (by omega)
        have hp2 := pop_le (k + 1) (by omega)
        have q0 : ¬ wf F all k = 0 := fun z => q (by rw [z]; rfl)
        refine pk_le (pop (wf F all k)) (pop (k + 1)) (fun z => body 0 (Or.inl ⟨rfl, by rintro (y | y); exact q0 y; omega⟩)) (fun z => body 1 (Or.inr ⟨by decide, Or.inr z⟩))
theorem m_outNow (h : icM σ) : CtI Γ mX6_outNow 4 [rf Γ 25] σ (fun r τ => r = nI (sOut (vM σ)) ∧ fmC σ τ) := by
  have h5 := h.1.1.2.1
  have h32 := onm_32 h5
  apply ct_X6_outNow
  refine ⟨_, m_asks, ?_⟩
  rintro τ0 ⟨ha0, hf0⟩
  have hM0 := inM_fm hf0 (by decide) (by decide) h.1
  refine ⟨_, m_onNow hM0, ?_⟩
  rintro _ _ ⟨rfl, rfl⟩
  rw [evM_fm hf0 (by decide) (by decide)]
  have hw : sOut (vM σ) = lvF (feas (enT (evM σ))) (onm (evM σ)) (onm (evM σ)) := rfl
  rw [hw]
  generalize hF : feas (enT (evM σ)) = F
  generalize hA : onm (evM σ) = all at h32
  rw [← lv_top h32 (by omega : all ≤ 32)]
  obtain ⟨W, hW⟩ : ∃ W, W = lvF F all 32 := ⟨_, rfl⟩
  rw [← hW]
  refine lp_up (P := fun k => ∀ τ : St, fmC σ τ → asT τ → G Γ mX6_outNow _ 13 [(0, rf Γ 25), (1, .int (nI all)), (2, .int (nI (lvF F all k))), (3, .int (nI k))] [] τ) 32 ?_ (fun k hk ih => ?_) 0 (Nat.zero_le _) τ0 (toM hf0 (by simp) (by simp) (by simp)) ha0
  · intro τ hf ha
    apply t_X6_outNow_13
    exact pk_le 32 32 (fun _ => ⟨by rw [hW], hf⟩) (fun q => absurd q (by omega))
  · intro τ hf ha
    have hE := evM_fm hf hIM (by decide)
    have hl : lvF F all k < 32 := by have := lv_le F all k; omega
    apply t_X6_outNow_13
    refine pk_le 32 k (fun q => absurd q (by omega)) (fun _ => ⟨_, m_bitsOf hk, ?_⟩)
    rintro _ _ ⟨rfl, rfl⟩
    refine ⟨_, m_bitsOf hl, ?_⟩
    rintro _ _ ⟨rfl, rfl⟩
    have hp1 := pop_le _ hl
    have hp2 := pop_le k hk
    rw [lvF] at ih
    refine pk_le (pop (lvF F all k)) (pop k) (fun q => ?_) (fun q => ?_)
    · rw [if_neg (fun z => by omega)] at ih
      apply t_X6_outNow_35
      rw [nI_1]
      exact ⟨fun _ => ih τ hf ha, fun _ => ⟨fun _ => ih τ hf ha, fun z => absurd rfl z⟩⟩
    · apply t_X6_outNow_35
      rw [sbs_j k hk all h32, nI_1]
      refine ⟨fun z => ?_, fun z => ⟨fun y => absurd y (by decide), fun _ => ?_⟩⟩
      · rw [if_neg (fun y => z y.1)] at ih; exact ih τ hf ha
      · rw [dif_j k hk all h32 z]
        refine ⟨_, m_isFeasible (by omega), ?_⟩
        rintro _ υ ⟨rfl, hf2⟩
        have hf3 : fmC σ υ := hf.tr (toM hf2 (by simp) (by simp) (by simp))
        have ha3 := asT_fm ha hf2 (by decide) (by decide) (by decide) (by decide)
        rw [feas_T ha (by omega), hE, hF]
        by_cases c : F (all - k) = true
        · rw [if_pos ⟨z, q, c⟩] at ih
          rw [c]
          exact ⟨fun y => absurd y (by decide), fun _ => ih υ hf3 ha3⟩
        · rw [if_neg (fun y => c y.2.2)] at ih
          have c3 : F (all - k) = false := by simpa using c
          rw [c3]
          exact ⟨fun _ => ih υ hf3 ha3, fun y => absurd rfl y⟩
theorem m_admittedNow (h : icM σ) : CtI Γ mX6_admittedNow 4 [rf Γ 25] σ (fun r τ => r = nI (sAdm (vM σ)) ∧ fmC σ τ) := by
  have h5 := h.1.1.2.1
  apply ct_X6_admittedNow
  refine ⟨_, m_asks, ?_⟩
  rintro τ0 ⟨ha0, hf0⟩
  have hw : sAdm (vM σ) = ciF (feas (enT (evM σ))) (fun i => decide (eon (evM σ) i = 1)) (evM σ).1 :=
    ci_c (n := (evM σ).1) (fun _ _ => rfl) (Nat.le_refl _) (fun i hi => onmL_tb hi)
  rw [hw]
  generalize hF : feas (enT (evM σ)) = F
  refine lp_up (P := fun k => ∀ τ : St, fmC σ τ → asT τ → G Γ mX6_admittedNow _ 8 [(0, rf Γ 25), (1, .int (nI (ciF F (fun i => decide (eon (evM σ) i = 1)) k))), (2, .int (nI k))] [] τ) (evM σ).1 ?_ (fun k hk ih => ?_) 0 (Nat.zero_le _) τ0 (toM hf0 (by simp) (by simp) (by simp)) ha0
  · intro τ hf ha
    have hM := inM_fm hf hIM (by decide) h.1
    apply t_X6_admittedNow_8
    rw [hM.2, evM_fm hf hIM (by decide)]
    exact pk_le (evM σ).1 (evM σ).1 (fun _ => ⟨rfl, hf⟩) (fun q => absurd q (by omega))
  · intro τ hf ha
    have hM := inM_fm hf hIM (by decide) h.1
    have hE := evM_fm hf hIM (by decide)
    have hc := ci_lt F (fun i => decide (eon (evM σ) i = 1)) k
    have hcl := add_lt _ h5 k hk _ hc
    have hp : 2 ^ k ≤ 32 := pow_32 k (by omega)
    have hp5 := pow_32 _ h5
    apply t_X6_admittedNow_8
    rw [hM.2, hE]
    refine pk_le (evM σ).1 k (fun q => absurd q (by omega)) (fun _ => ⟨vin (by omega) (by omega), ?_⟩)
    rw [cl (by omega : k < 1000), onM_at (by omega), hE, shl_j k (by omega), or_j _ (by omega) k (by omega) hcl.2.2, nI_1]
    rw [ciF] at ih
    refine ⟨fun q => ?_, fun q => ⟨_, m_isFeasible (by omega), ?_⟩⟩
    · rw [if_neg (fun z => by simp [q] at z)] at ih; exact ih τ hf ha
    · rintro _ υ ⟨rfl, hf2⟩
      have hf3 : fmC σ υ := hf.tr (toM hf2 (by simp) (by simp) (by simp))
      have ha3 := asT_fm ha hf2 (by decide) (by decide) (by decide) (by decide)
      have q1 : eon (evM σ) k = 1 := by rcases h.1.1.2.2.1 k with y | y; exact absurd y q; exact y
      rw [feas_T ha (by omega), hE, hF]
      by_cases d : F (ciF F (fun i => decide (eon (evM σ) i = 1)) k + 2 ^ k) = true
      · rw [if_pos ⟨by simp [q1], d⟩] at ih
        rw [d]
        exact ⟨fun y => absurd y (by decide), fun _ => ih υ hf3 ha3⟩
      · rw [if_neg (fun y => d y.2)] at ih
        have d3 : F (ciF F (fun i => decide (eon (evM σ) i = 1)) k + 2 ^ k) = false := by simpa using d
        rw [d3]
        exact ⟨fun _ => ih υ hf3 ha3, fun y => absurd rfl y⟩
end MODELC
