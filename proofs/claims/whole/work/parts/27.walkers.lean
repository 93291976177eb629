/-! both at once: on, the text, steps and turns -/
theorem tg_fin : ∀ j, j < 32 → ∀ i, i < 5 → ∀ a, a < 5 → ((nI j ^^^ (((1 : Int32) <<< (nI i &&& 31)) &&& 31)) >>> (nI a &&& 31)) &&& 1 = (if a = i then (if (nI j >>> (nI i &&& 31)) &&& 1 = 0 then 1 else 0) else (nI j >>> (nI a &&& 31)) &&& 1) := by decide +kernel
theorem tg (x : Int32) {i a : Nat} (hi : i < 5) (ha : a < 5) : ((x ^^^ ((1 : Int32) <<< (nI i &&& 31))) >>> (nI a &&& 31)) &&& 1 = (if a = i then (if (x >>> (nI i &&& 31)) &&& 1 = 0 then 1 else 0) else (x >>> (nI a &&& 31)) &&& 1) := by
  obtain ⟨j, hj, e⟩ := pk_andE x (m := 31) 5 rfl
  rw [b_low (x ^^^ _) a ha, b_xor31, b_low x i hi, b_low x a ha, e]
  exact tg_fin j hj i hi a ha
def onT (e : Ev) (i : Nat) : Nat → Int32 := fun a => if a < 5 then (if a = i then (if eon e i = 0 then 1 else 0) else eon e a) else 0
section WALKERS
variable {Γ : GT} {σ : St}
theorem okE_on {e : Ev} (h : okE e) (i : Nat) : okE (e.1, onT e i, e.2.2) := by
  obtain ⟨h1, h2, h3, h4⟩ := h
  refine ⟨h1, h2, fun a => ?_, h4⟩
  show onT e i a = 0 ∨ onT e i a = 1
  unfold onT
  split
  · split
    · split
      · exact Or.inr rfl
      · exact Or.inl rfl
    · exact h3 a
  · exact Or.inl rfl
theorem o_on (hR : Rel σ) (x : Int32) : PairI Γ mX5_on 2 [rf Γ 0, .int x] mX6_on 2 [rf Γ 25, .int x] σ := by
  have h5 := hR.1.1.1.2.1
  rcases noS_or (evC σ) h5 x with q | ⟨i, hi, rfl⟩
  · refine pairB (c := -2) hR ?_ ?_
    · apply ct_X5_on
      refine ⟨_, c_isThere hR.1.1 x, ?_⟩
      rintro _ _ ⟨rfl, rfl⟩
      rw [if_pos q]; exact ⟨fun z => absurd rfl z, fun _ => ⟨rfl, rfl⟩⟩
    · rw [← hR.ev] at q
      apply ct_X6_on
      refine ⟨_, m_isSender hR.2.1.1 x, ?_⟩
      rintro _ _ ⟨rfl, rfl⟩
      rw [if_pos q]; exact ⟨fun z => absurd rfl z, fun _ => ⟨rfl, rfl⟩⟩
  · have i5 : i < 5 := by omega
    generalize hw : σ.1 1 1 ^^^ ((1 : Int32) <<< (nI i &&& 31)) = w
    have e1 : evC (sI σ 1 1 w) = ((evC σ).1, onT (evC σ) i, (evC σ).2.2) := by
      have : onC (sI σ 1 1 w) = onT (evC σ) i := by
        funext a
        unfold onT onC
        by_cases c : a < 5
        · rw [if_pos c, if_pos c]
          show ((w >>> (nI a &&& 31)) &&& 1) = _
          rw [← hw, tg _ i5 c]
          show _ = (if a = i then (if onC σ i = 0 then 1 else 0) else onC σ a)
          rw [onC_ob i5, onC_ob c]; rfl
        · rw [if_neg c, if_neg c]
      show ((σ.1 1 0).toNatClampNeg, onC (sI σ 1 1 w), (evC σ).2.2) = _
      rw [this]; rfl
    have hC1 : inC (sI σ 1 1 w) := ⟨by rw [e1]; exact okE_on hR.1.1.1 i, by rw [e1]; exact hR.1.1.2⟩
    refine ⟨fun r τ => r = nI (onm ((evC σ).1, onT (evC σ) i, (evC σ).2.2)) ∧ τ = sI σ 1 1 w, ?_, ?_⟩
    · apply ct_X5_on
      refine ⟨_, c_isThere hR.1.1 _, ?_⟩
      rintro _ _ ⟨rfl, rfl⟩
      rw [if_neg (noS_not h5 hi), hw]
      refine ⟨fun _ => ⟨_, c_onS hC1, ?_⟩, fun z => absurd z (by decide)⟩
      rintro _ _ ⟨rfl, rfl⟩
      rw [e1]; exact ⟨rfl, rfl⟩
    · rintro _ _ ⟨rfl, rfl⟩
      have hM : inM (sI σ 1 1 w) := hR.2.1.1
      have eM : evM (sI σ 1 1 w) = evM σ := rfl
      generalize hu : (if eon (evC σ) i = 0 then (1 : Int32) else 0) = u
      have e2 : evM (sI (sI σ 1 1 w) 30 i u) = ((evC σ).1, onT (evC σ) i, (evC σ).2.2) := by
        have : onM (sI (sI σ 1 1 w) 30 i u) = onT (evC σ) i := by
          funext a
          unfold onT onM
          by_cases c : a < 5
          · rw [if_pos c, if_pos c, sI_eq]
            by_cases d : a = i
            · rw [d, up_eq, if_pos rfl, hu]
            · rw [up_ne d, if_neg d]
              show σ.1 30 a = _
              rw [onM_at c, hR.ev]
          · rw [if_neg c, if_neg c]
        rw [← hR.ev]
        rw [← hR.ev] at this
        show ((σ.1 25 0).toNatClampNeg, onM (sI (sI σ 1 1 w) 30 i u), (evM σ).2.2) = _
        rw [this]; rfl
      have hM2 : inM (sI (sI σ 1 1 w) 30 i u) := ⟨by rw [e2]; exact okE_on hR.1.1.1 i, by rw [e2, ← hR.ev]; exact hR.2.1.1.2⟩
      refine ⟨fun r τ => r = nI (onm ((evC σ).1, onT (evC σ) i, (evC σ).2.2)) ∧ τ = sI (sI σ 1 1 w) 30 i u, ?_, ?_⟩
      · have h5' := h5
        have hi' := hi
        rw [← hR.ev, ← eM] at h5' hi'
        apply ct_X6_on
        refine ⟨_, m_isSender hM _, ?_⟩
        rintro _ _ ⟨rfl, rfl⟩
        rw [if_neg (noS_not h5' hi'), cl (by omega)]
        have hv := vin i5 (by omega : 5 < 1000)
        have h30 : (sI σ 1 1 w).1 30 i = eon (evC σ) i := by rw [← hR.ev]; exact onM_at i5
        rw [h30]
        have n0 : vp_nar .boolean 0 = 0 := rfl
        have n1 : vp_nar .boolean 1 = 1 := rfl
        rw [n0, n1]
        refine ⟨fun _ => ⟨hv, fun z => ⟨hv, ?_⟩, fun z => ⟨hv, ?_⟩⟩, fun z => absurd z (by decide)⟩
        · rw [if_neg z] at hu
          subst hu
          refine ⟨_, m_onNow hM2, ?_⟩
          rintro _ _ ⟨rfl, rfl⟩
          rw [e2]; exact ⟨rfl, rfl⟩
        · rw [if_pos z] at hu
          subst hu
          refine ⟨_, m_onNow hM2, ?_⟩
          rintro _ _ ⟨rfl, rfl⟩
          rw [e2]; exact ⟨rfl, rfl⟩
      · rintro _ _ ⟨rfl, rfl⟩
        refine ⟨rfl, Rel.mk' (((evC σ).1, onT (evC σ) i, (evC σ).2.2), (vC σ).2) ⟨okE_on hR.1.1.1 i, hR.1.2.1.2⟩ ?_ ?_ hR.1.1.2 (by have := hR.2.1.1.2; rw [hR.ev] at this; exact this) hR.1.2.2 (by have := hR.2.1.2.2; rw [← hR.2.2.1] at this; exact this) (shR_eq hR.2.2.2 (fun a ha => by rw [sI_ne (by omega), sI_ne (by omega)]))⟩
        · show (evC (sI σ 1 1 w), (vC σ).2) = _
          rw [e1]
        · show (evM (sI (sI σ 1 1 w) 30 i u), (vM σ).2) = _
          rw [e2, hR.2.2.1]
-- ---- the text
theorem Rel.L (hR : Rel σ) : σ.1 14 0 = nI (vC σ).2.2.1 ∧ σ.1 25 9 = nI (vC σ).2.2.1 ∧ (vC σ).2.2.1 ≤ 12 ∧ σ.1 32 = σ.1 15 := by
  refine ⟨hR.1.2.2, ?_, hR.1.2.1.2.2, ?_⟩
  · have := hR.2.1.2.2
    rw [← hR.2.2.1] at this; exact this
  · exact (congrArg (fun v : V => v.2.2.2.1) hR.2.2.1).symm
theorem o_wipe (hR : Rel σ) : PairI Γ mX5_wipe 0 [rf Γ 0] mX6_wipe 0 [rf Γ 25] σ := by
  obtain ⟨l1, l2, l3, l4⟩ := hR.L
  refine ⟨fun r τ => r = σ.1 14 0 ∧ τ = sI σ 14 0 0, ct_X5_wipe _ ⟨rfl, rfl⟩, ?_⟩
  rintro _ _ ⟨rfl, rfl⟩
  refine ⟨fun r τ => r = σ.1 25 9 ∧ τ = sI (sI σ 14 0 0) 25 9 0, ct_X6_wipe _ ⟨rfl, rfl⟩, ?_⟩
  rintro _ _ ⟨rfl, rfl⟩
  refine ⟨by rw [l1, l2], Rel.mk' ((vC σ).1, (vC σ).2.1, 0, (vC σ).2.2.2) ⟨hR.1.1.1, hR.1.2.1.2.1, Nat.zero_le 12⟩ rfl ?_ hR.1.1.2 (by rw [← hR.2.2.1.symm]; exact hR.2.1.1.2) rfl rfl (shR_eq hR.2.2.2 (fun a ha => by rw [sI_ne (by omega), sI_ne (by omega)]))⟩
  rw [hR.2.2.1]; rfl
theorem o_type (hR : Rel σ) (x : Int32) : PairI Γ mX5_type 1 [rf Γ 0, .int x] mX6_type 1 [rf Γ 25, .int x] σ := by
  obtain ⟨l1, l2, l3, l4⟩ := hR.L
  by_cases q : x < 0 ∨ 255 < x
  · refine pairB (c := -2) hR ?_ ?_
    · apply ct_X5_type
      refine ⟨fun _ => ⟨rfl, rfl⟩, fun z => ⟨fun w => ?_, fun _ => ⟨rfl, rfl⟩⟩⟩
      rcases q with y | y
      · exact absurd y z
      · exact absurd y (Int32.not_lt.mpr w)
    · apply ct_X6_type
      refine ⟨_, m_in _ _ _, ?_⟩
      rintro _ _ ⟨rfl, rfl⟩
      rw [okI_0 q]; exact ⟨fun z => absurd rfl z, fun _ => ⟨rfl, rfl⟩⟩
  · have hcls : CtI Γ mX5_type 1 [rf Γ 0, .int x] σ (fun r τ => ((vC σ).2.2.1 < 12 ∧ r = nI ((vC σ).2.2.1 + 1) ∧ τ = sI (sI σ 15 (vC σ).2.2.1 x) 14 0 (nI ((vC σ).2.2.1 + 1))) ∨ ((vC σ).2.2.1 = 12 ∧ r = -4 ∧ τ = σ)) := by
      apply ct_X5_type
      refine ⟨fun z => absurd (Or.inl z) q, fun _ => ⟨fun _ => ⟨_, c_append l1 l3 x, ?_⟩, fun z => absurd (Or.inr (Int32.not_le.mp z)) q⟩⟩
      rintro r τ (⟨z, rfl, rfl⟩ | ⟨z, rfl, rfl⟩)
      · exact ⟨fun y => absurd y (by decide), fun _ => Or.inl ⟨z, rfl, rfl⟩⟩
      · exact ⟨fun _ => Or.inr ⟨z, rfl, rfl⟩, fun y => absurd rfl y⟩
    refine ⟨_, hcls, ?_⟩
    generalize hL : (vC σ).2.2.1 = L at *
    rintro r τ (⟨z, rfl, rfl⟩ | ⟨z, rfl, rfl⟩)
    · refine ⟨fun r τ => r = nI (L + 1) ∧ τ = sI (sI (sI (sI σ 15 L x) 14 0 (nI (L + 1))) 32 L x) 25 9 (nI (L + 1)), ?_, ?_⟩
      · apply ct_X6_type
        refine ⟨_, m_in _ _ _, ?_⟩
        rintro _ _ ⟨rfl, rfl⟩
        have e9 : (sI (sI σ 15 L x) 14 0 (nI (L + 1))).1 25 9 = nI L := l2
        rw [okI_1 q, sI_ne (by decide : (25 : Nat) ≠ 32), e9, cl (by omega), nI_1, sI_eq, up_eq]
        refine ⟨fun _ => ⟨fun _ => ⟨vin z (by omega), rfl, rfl⟩, fun y => ?_⟩, fun z => absurd z (by decide)⟩
        have := (nI_eq (by omega) (by decide : 12 < 2 ^ 31)).mp y
        omega
      · rintro _ _ ⟨rfl, rfl⟩
        have hk : (nI (L + 1)).toNatClampNeg = L + 1 := cl (by omega)
        refine ⟨rfl, Rel.mk' ((vC σ).1, (vC σ).2.1, L + 1, upd (σ.1 15) L x, (vC σ).2.2.2.2) ⟨hR.1.1.1, hR.1.2.1.2.1, (show L + 1 ≤ 12 by omega)⟩ ?_ ?_ hR.1.1.2 (by rw [← hR.2.2.1.symm]; exact hR.2.1.1.2) rfl rfl (shR_eq hR.2.2.2 (fun a ha => by rw [sI_ne (by omega), sI_ne (by omega), sI_ne (by omega), sI_ne (by omega)]))⟩
        · show ((vC σ).1, (vC σ).2.1, (nI (L + 1)).toNatClampNeg, upd (σ.1 15) L x, (vC σ).2.2.2.2) = _
          rw [hk]
        · rw [hR.2.2.1]
          show ((vM σ).1, (vM σ).2.1, (nI (L + 1)).toNatClampNeg, upd (σ.1 32) L x, (vM σ).2.2.2.2) = _
          rw [hk, l4]
    · refine ⟨fun r τ' => r = -4 ∧ τ = τ', ?_, ?_⟩
      · apply ct_X6_type
        refine ⟨_, m_in _ _ _, ?_⟩
        rintro _ _ ⟨rfl, rfl⟩
        rw [okI_1 q, l2, z]
        exact ⟨fun _ => ⟨fun y => absurd rfl y, fun _ => ⟨rfl, rfl⟩⟩, fun z => absurd z (by decide)⟩
      · rintro _ _ ⟨rfl, rfl⟩
        exact ⟨rfl, hR⟩
-- ---- steps
/-- powers become p', and scratch may change -/
theorem Rel_p2 {τ : St} (hR : Rel σ) (p' : Nat → Int32) (hp : okP p') (h6 : τ.1 6 = p') (h31 : τ.1 31 = p') (hq : ∀ a, a ∉ [6, 31, 10, 12, 13, 25, 35, 36, 37, 38, 43] → τ.1 a = σ.1 a) (hk : ∀ k, k ≠ 13 → k ≠ 14 → τ.1 25 k = σ.1 25 k) : Rel τ := by
  refine Rel.mk' ((vC σ).1, p', (vC σ).2.2) ⟨hR.1.1.1, hp, hR.1.2.1.2.2⟩ ?_ ?_ (by rw [hq 1 (by decide)]; exact hR.1.1.2) (by rw [hk 0 (by decide) (by decide), ← hR.2.2.1.symm]; exact hR.2.1.1.2) (by rw [hq 14 (by decide)]; exact hR.1.2.2) (by rw [hk 9 (by decide) (by decide)]; exact hR.L.2.1) (shR_eq hR.2.2.2 (fun a ha => hq a (by simp; omega)))
  · unfold vC evC onC ob
    rw [hq 1 (by decide), hq 2 (by decide), hq 3 (by decide), hq 4 (by decide), hq 5 (by decide), hq 11 (by decide), hq 14 (by decide), hq 15 (by decide), hq 0 (by decide), h6]
  · rw [hR.2.2.1]
    unfold vM evM onM
    rw [hk 0 (by decide) (by decide), hk 1 (by decide) (by decide), hk 9 (by decide) (by decide), hk 23 (by decide) (by decide), hq 26 (by decide), hq 27 (by decide), hq 28 (by decide), hq 29 (by decide), hq 30 (by decide), hq 32 (by decide), h31]
theorem c_step {i : Nat} (h : inC σ) (hi : i < (evC σ).1) : CtI Γ mX5_step 3 [rf Γ 0, .int (nI i)] σ (fun r τ => (eon (evC σ) i = 0 ∧ r = -3 ∧ τ = σ) ∨ (¬ eon (evC σ) i = 0 ∧ r = stp (evC σ) (σ.1 6) i ∧ τ = sI σ 6 i (stp (evC σ) (σ.1 6) i))) := by
  have h5 := h.1.2.1
  apply ct_X5_step
  refine ⟨_, c_isThere h _, ?_⟩
  rintro _ _ ⟨rfl, rfl⟩
  rw [if_neg (noS_not h5 hi)]
  refine ⟨fun _ => ⟨_, c_isOn (by omega), ?_⟩, fun z => absurd z (by decide)⟩
  rintro _ _ ⟨rfl, rfl⟩
  refine ⟨fun q => ⟨_, c_stepOf h (by omega) ar_6, ?_⟩, fun q => Or.inl ⟨q, rfl, rfl⟩⟩
  rintro _ _ ⟨rfl, rfl⟩
  rw [cl (by omega), sI_eq, up_eq]
  have hv := vin (by omega : i < 5) (by omega : 5 < 1000)
  exact ⟨hv, hv, Or.inr ⟨q, rfl, rfl⟩⟩
theorem o_step (hR : Rel σ) (x : Int32) : PairI Γ mX5_step 3 [rf Γ 0, .int x] mX6_step 3 [rf Γ 25, .int x] σ := by
  have h5 := hR.1.1.1.2.1
  rcases noS_or (evC σ) h5 x with q | ⟨i, hi, rfl⟩
  · refine pairB (c := -2) hR ?_ ?_
    · apply ct_X5_step
      refine ⟨_, c_isThere hR.1.1 x, ?_⟩
      rintro _ _ ⟨rfl, rfl⟩
      rw [if_pos q]; exact ⟨fun z => absurd rfl z, fun _ => ⟨rfl, rfl⟩⟩
    · rw [← hR.ev] at q
      apply ct_X6_step
      refine ⟨_, m_isSender hR.2.1.1 x, ?_⟩
      rintro _ _ ⟨rfl, rfl⟩
      rw [if_pos q]; exact ⟨fun z => absurd rfl z, fun _ => ⟨rfl, rfl⟩⟩
  · refine ⟨_, c_step hR.1.1 hi, ?_⟩
    have hv := vin (by omega : i < 5) (by omega : 5 < 1000)
    have h5' := h5
    have hi' := hi
    rw [← hR.ev] at h5' hi'
    rintro r τ (⟨z, rfl, rfl⟩ | ⟨z, rfl, rfl⟩)
    · refine ⟨fun r τ' => r = -3 ∧ τ = τ', ?_, ?_⟩
      · apply ct_X6_step
        refine ⟨_, m_isSender hR.2.1.1 _, ?_⟩
        rintro _ _ ⟨rfl, rfl⟩
        rw [if_neg (noS_not h5' hi'), cl (by omega), onM_at (by omega), hR.ev]
        exact ⟨fun _ => ⟨hv, fun y => absurd z y, fun _ => ⟨rfl, rfl⟩⟩, fun y => absurd y (by decide)⟩
      · rintro _ _ ⟨rfl, rfl⟩; exact ⟨rfl, hR⟩
    · generalize hw : stp (evC σ) (σ.1 6) i = w
      have hM : inM (sI σ 6 i w) := hR.2.1.1
      have eM : evM (sI σ 6 i w) = evC σ := hR.ev
      refine ⟨fun r τ => r = w ∧ τ.1 31 = upd (σ.1 6) i w ∧ fm [31, 36] [] [] (sI σ 6 i w) τ, ?_, ?_⟩
      · rw [← eM] at h5 hi
        apply ct_X6_step
        refine ⟨_, m_isSender hM _, ?_⟩
        rintro _ _ ⟨rfl, rfl⟩
        rw [if_neg (noS_not h5 hi), cl (by omega), onM_at (by omega), eM]
        refine ⟨fun _ => ⟨hv, fun _ => ⟨_, m_triesNow, ?_⟩, fun y => absurd y z⟩, fun y => absurd y (by decide)⟩
        rintro τ1 ⟨he, hf⟩
        refine ⟨_, m_stepped (inM_fm hf (by decide) (by decide) hM) (by omega), ?_⟩
        rintro _ _ ⟨rfl, rfl⟩
        have e1 : stp (evM τ1) (τ1.1 36) i = w := by
          rw [evM_fm hf (by decide) (by decide), eM, ← hw, ← hR.pw]
          exact stp_c (by rw [eM] at h5; exact h5) he i
        rw [e1, sI_eq, up_eq]
        refine ⟨hv, hv, rfl, ?_, (hf.mono (by simp) (by simp) (by simp)).si (by simp) (by decide)⟩
        rw [hf.at 31 (by decide)]
        show upd (σ.1 31) i w = _
        rw [hR.pw]
      · rintro r' τ ⟨hr', h31, hf⟩
        obtain ⟨k, k1, k2⟩ := stp_n hR.1.1.1 hR.1.2.1.2.1 (by omega : i < 5)
        have hk : w = nI k := by rw [← hw]; exact k2
        refine ⟨hr'.symm, Rel_p2 hR (upd (σ.1 6) i w) (by rw [hk]; exact okP_up hR.1.2.1.2.1 k1) (by rw [hf.at 6 (by decide), sI_eq]) h31 (fun a ha => ?_) (fun k _ _ => hf.2 k (by simp))⟩
        rw [hf.at a (by simp at ha ⊢; omega), sI_ne (by simp at ha; omega)]
theorem m_keepsTried (h : inM σ) : CtV Γ mX6_keepsTried 0 [rf Γ 25] σ (fun τ => τ.1 31 = (fun k => if k < (evM σ).1 then σ.1 36 k else σ.1 31 k) ∧ fm [31] [] [] σ τ) := by
  have h5 := h.1.2.1
  apply ct_X6_keepsTried
  refine lp_up (P := fun j => ∀ τ : St, fm [31] [] [] σ τ → τ.1 31 = (fun k => if k < j then σ.1 36 k else σ.1 31 k) → G Γ mX6_keepsTried _ 2 [(0, rf Γ 25), (1, .int (nI j))] [] τ) (evM σ).1 ?_ (fun j hj ih => ?_) 0 (Nat.zero_le _) σ fm.rf (by funext k; rw [if_neg (by omega)])
  · intro τ hf hq
    apply t_X6_keepsTried_2
    rw [hf.2 0 (by simp), h.2]
    exact pk_le (evM σ).1 (evM σ).1 (fun _ => ⟨hq, hf⟩) (fun q => absurd q (by omega))
  · intro τ hf hq
    apply t_X6_keepsTried_2
    rw [hf.2 0 (by simp), h.2]
    have hv := vin (by omega : j < 5) (by omega : 5 < 1000)
    refine pk_le (evM σ).1 j (fun q => absurd q (by omega)) (fun _ => ⟨hv, hv, ?_⟩)
    rw [cl (by omega : j < 1000), nI_1]
    refine ih _ (hf.si (by simp) (by decide)) ?_
    rw [sI_eq, hq, hf.at 36 (by decide)]
    funext k
    by_cases c : k = j
    · subst c; rw [up_eq, if_pos (by omega)]
    · rw [up_ne c]
      by_cases d : k < j
      · rw [if_pos d, if_pos (by omega)]
      · rw [if_neg d, if_neg (by omega)]
theorem o_turn (hR : Rel σ) : PairI Γ mX5_turn 5 [rf Γ 0] mX6_turn 4 [rf Γ 25] σ := by
  have h5 := hR.1.1.1.2.1
  refine ⟨fun r τ => r = nI (cnt (evC σ) (σ.1 6) (evC σ).1) ∧ τ.1 6 = fin (evC σ) (σ.1 6) ∧ fr [6, 13] [] σ τ, ct_X5_turn _ ⟨_, c_takeTurn hR.1.1 (Or.inl rfl), fun r τ hq => hq⟩, ?_⟩
  rintro _ τ ⟨rfl, h6, hf⟩
  have eM : evM τ = evC σ := by
    rw [← hR.ev]
    unfold evM onM
    rw [hf.1 25 (by decide), hf.1 26 (by decide), hf.1 27 (by decide), hf.1 28 (by decide), hf.1 29 (by decide), hf.1 30 (by decide)]
  have hM : inM τ := ⟨by rw [eM]; exact hR.1.1.1, by rw [hf.1 25 (by decide), eM, ← hR.ev]; exact hR.2.1.1.2⟩
  refine ⟨fun r υ => r = nI (cnt (evC σ) (σ.1 6) (evC σ).1) ∧ υ.1 31 = fin (evC σ) (σ.1 6) ∧ fm [31, 36, 37] [] [] τ υ, ?_, ?_⟩
  · apply ct_X6_turn
    refine ⟨_, m_triesNow, ?_⟩
    rintro τ1 ⟨he, hf1⟩
    have hM1 := inM_fm hf1 (by decide) (by decide) hM
    have e1 : evM τ1 = evC σ := (evM_fm hf1 (by decide) (by decide)).trans eM
    refine ⟨_, m_turns hM1, ?_⟩
    rintro _ τ2 ⟨rfl, h36, hf2⟩
    have hM2 := inM_fm hf2 (by decide) (by decide) hM1
    have e2 : evM τ2 = evC σ := (evM_fm hf2 (by decide) (by decide)).trans e1
    refine ⟨_, m_keepsTried hM2, ?_⟩
    rintro τ3 ⟨h31, hf3⟩
    have he5 : eq5 (τ1.1 36) (σ.1 6) := by
      intro k hk
      rw [he k hk, hf.1 31 (by decide), hR.pw]
    refine ⟨?_, ?_, ((hf1.mono (by simp) (by simp) (by simp)).tr (hf2.mono (by simp) (by simp) (by simp))).tr (hf3.mono (by simp) (by simp) (by simp))⟩
    · rw [e1, cnt_c h5 he5 _ h5]
    · rw [h31, h36, e1, e2, hf2.at 31 (by decide), hf1.at 31 (by decide), hf.1 31 (by decide), hR.pw]
      funext k
      unfold fin
      by_cases c : k < (evC σ).1
      · rw [if_pos c, if_pos c, if_pos c, nxt_c h5 he5 (by omega)]
      · rw [if_neg c, if_neg c]
  · rintro _ υ ⟨rfl, h31, hf2⟩
    refine ⟨rfl, Rel_p2 hR _ (fin_n hR.1.1.1 hR.1.2.1.2.1) (by rw [hf2.at 6 (by decide)]; exact h6) h31 (fun a ha => ?_) (fun k _ _ => by rw [hf2.2 k (by simp), hf.1 25 (by decide)])⟩
    rw [hf2.at a (by simp at ha ⊢; omega), hf.1 a (by simp at ha ⊢; omega)]
-- ---- the order
def od (e : Ev) (b p : Nat → Int32) : Nat → (Nat → Int32) × Nat
  | 0 => (p, 0)
  | k + 1 => if eon e (b k - 97).toNatClampNeg = 0 then od e b p k else (upd (od e b p k).1 (b k - 97).toNatClampNeg (stp e (od e b p k).1 (b k - 97).toNatClampNeg), (od e b p k).2 + (if stp e (od e b p k).1 (b k - 97).toNatClampNeg = (od e b p k).1 (b k - 97).toNatClampNeg then 0 else 1))
theorem flt_ok {n : Nat} (hn : n ≤ 5) {b : Nat → Int32} : ∀ {m k : Nat}, k + m ≤ 12 → flt n b m k = -1 → ∀ a, k ≤ a → a < k + m → ∃ i, i < n ∧ b a - 97 = nI i
  | 0, k, _, _, a, h1, h2 => by omega
  | m + 1, k, hk, h, a, h1, h2 => by
    rw [flt] at h
    by_cases c : b k - 97 < 0 ∨ nI n ≤ b k - 97
    · rw [if_pos c] at h
      exfalso
      have : nI k < 0 := by rw [h]; decide
      exact nI_pos (by omega) this
    · rw [if_neg c] at h
      rcases (show a = k ∨ k + 1 ≤ a by omega) with rfl | q
      · rcases th_ix (b a - 97) hn with z | z | z
        · exact absurd (Or.inl z) c
        · exact absurd (Or.inr z) c
        · exact z
      · exact flt_ok hn (by omega) h a q (by omega)
theorem od_n {e : Ev} (h : okE e) {b p : Nat → Int32} (hp : okP p) {L : Nat} (hb : ∀ a, a < L → ∃ i, i < e.1 ∧ b a - 97 = nI i) : ∀ k, k ≤ L → okP (od e b p k).1 ∧ (od e b p k).2 ≤ k
  | 0, _ => ⟨hp, Nat.le_refl _⟩
  | k + 1, hk => by
    have ih := od_n h hp hb k (by omega)
    rw [od]
    split
    · exact ⟨ih.1, by omega⟩
    · obtain ⟨i, hi, e1⟩ := hb k (by omega)
      have := h.2.1
      rw [e1, cl (by omega)]
      obtain ⟨q, q1, q2⟩ := stp_n h ih.1 (by omega : i < 5)
      refine ⟨by rw [q2]; exact okP_up ih.1 q1, ?_⟩
      show (od e b p k).2 + _ ≤ k + 1
      split <;> omega
theorem o_order (hR : Rel σ) : PairI Γ mX5_order 5 [rf Γ 0] mX6_order 3 [rf Γ 25] σ := by
  obtain ⟨l1, l2, l3, l4⟩ := hR.L
  have h5 := hR.1.1.1.2.1
  generalize hL : (vC σ).2.2.1 = L at *
  have hlt : ∀ k, k ≤ 12 → ¬ nI k = -1 := fun k hk z => nI_pos (by omega : k < 2 ^ 31) (by rw [z]; decide)
  by_cases q : flt (evC σ).1 (σ.1 15) L 0 = -1
  · have hb : ∀ a, a < L → ∃ i, i < (evC σ).1 ∧ σ.1 15 a - 97 = nI i := fun a ha => flt_ok h5 (by omega) q a (by omega) (by omega)
    have hod := od_n hR.1.1.1 hR.1.2.1.2.1 hb
    refine ⟨fun r τ => r = nI (od (evC σ) (σ.1 15) (σ.1 6) L).2 ∧ τ.1 6 = (od (evC σ) (σ.1 15) (σ.1 6) L).1 ∧ fr [6] [] σ τ, ?_, ?_⟩
    · apply ct_X5_order
      rw [hR.1.1.2]
      refine ⟨_, c_firstWrong l1 l3, ?_⟩
      rintro _ _ ⟨rfl, rfl⟩
      rw [q]
      refine ⟨fun z => absurd rfl z, fun _ => ?_⟩
      refine ⟨fun r τ => r = nI (od (evC σ) (σ.1 15) (σ.1 6) L).2 ∧ τ.1 6 = (od (evC σ) (σ.1 15) (σ.1 6) L).1 ∧ fr [6] [] σ τ, ?_, fun r τ hq => hq⟩
      apply ct_X5_stepsOfText
      refine lp_up (P := fun k => ∀ τ : St, fr [6] [] σ τ → τ.1 6 = (od (evC σ) (σ.1 15) (σ.1 6) k).1 → G Γ mX5_stepsOfText _ 4 [(0, rf Γ 0), (1, .int (nI (od (evC σ) (σ.1 15) (σ.1 6) k).2)), (2, .int (nI k))] [] τ) L ?_ (fun k hk ih => ?_) 0 (Nat.zero_le _) σ fr.rf rfl
      · intro τ hf h6
        apply t_X5_stepsOfText_4
        rw [hf.1 14 (by decide), l1]
        exact pk_le L L (fun _ => ⟨rfl, h6, hf⟩) (fun q => absurd q (by omega))
      · intro τ hf h6
        have hI6 : 1 ∉ [6] ∧ 2 ∉ [6] ∧ 3 ∉ [6] ∧ 4 ∉ [6] ∧ 5 ∉ [6] ∧ 11 ∉ [6] := by decide
        have hC := inC_fr hf hI6 hR.1.1
        have hE := evC_fr hf hI6
        apply t_X5_stepsOfText_4
        rw [hf.1 14 (by decide), l1, hf.1 15 (by decide)]
        obtain ⟨i, hi, e1⟩ := hb k hk
        refine pk_le L k (fun q => absurd q (by omega)) (fun _ => ⟨vin (by omega) (by omega), ?_⟩)
        rw [cl (by omega : k < 1000), e1, nI_1]
        rw [od, e1, cl (by omega : i < 1000)] at ih
        rw [cl (by omega : i < 1000)]
        refine ⟨vin (by omega) (by omega), _, c_isOn (by omega), ?_⟩
        rintro _ _ ⟨rfl, rfl⟩
        rw [hE]
        refine ⟨fun z => ?_, fun z => ⟨_, c_step hC (by rw [hE]; exact hi), ?_⟩⟩
        · rw [if_pos z] at ih; exact ih τ hf h6
        · rintro r τ2 (⟨y, -⟩ | ⟨-, rfl, rfl⟩)
          · rw [hE] at y; exact absurd y z
          · rw [if_neg z] at ih
            rw [hE, h6]
            have go := ih (sI τ 6 i (stp (evC σ) (od (evC σ) (σ.1 15) (σ.1 6) k).1 i)) (hf.sI (by simp)) (by rw [sI_eq, h6])
            dsimp only at go
            refine ⟨fun y => ?_, fun y => ?_⟩
            · rw [if_pos y, Nat.add_zero] at go; exact go
            · rw [if_neg y] at go; rw [nI_1]; exact go
    · rintro _ τ ⟨rfl, h6, hf⟩
      have eM : evM τ = evC σ := by
        rw [← hR.ev]
        unfold evM onM
        rw [hf.1 25 (by decide), hf.1 26 (by decide), hf.1 27 (by decide), hf.1 28 (by decide), hf.1 29 (by decide), hf.1 30 (by decide)]
      have hM : icM τ := by
        have e2 : vM τ = vM σ := by
          unfold vM
          rw [eM, hR.ev, hf.1 25 (by decide), hf.1 31 (by decide), hf.1 32 (by decide)]
        unfold icM inM
        rw [e2, eM, hf.1 25 (by decide), ← hR.ev]
        exact hR.2.1
      refine ⟨fun r υ => r = nI (od (evC σ) (σ.1 15) (σ.1 6) L).2 ∧ υ.1 31 = (od (evC σ) (σ.1 15) (σ.1 6) L).1 ∧ fm [31, 36] [] [] τ υ, ?_, ?_⟩
      · apply ct_X6_order
        refine lp_up (P := fun k => ∀ υ : St, fm [31, 36] [] [] τ υ → υ.1 31 = (od (evC σ) (σ.1 15) (σ.1 6) k).1 → G Γ mX6_order _ 4 [(0, rf Γ 25), (1, .int (nI (od (evC σ) (σ.1 15) (σ.1 6) k).2)), (2, .int (nI k))] [] υ) L ?_ (fun k hk ih => ?_) 0 (Nat.zero_le _) τ fm.rf (by rw [hf.1 31 (by decide), hR.pw]; rfl)
        · intro υ hfu h31
          apply t_X6_order_4
          rw [hfu.2 9 (by simp), hf.1 25 (by decide), l2]
          exact pk_le L L (fun _ => ⟨rfl, h31, hfu⟩) (fun q => absurd q (by omega))
        · intro υ hfu h31
          have hEu : evM υ = evC σ := (evM_fm hfu (by decide) (by decide)).trans eM
          have hMu := inM_fm hfu (by decide) (by decide) hM.1
          have h9 : υ.1 25 9 = nI L := by rw [hfu.2 9 (by simp), hf.1 25 (by decide), l2]
          have h32 : υ.1 32 = σ.1 15 := by rw [hfu.at 32 (by decide), hf.1 32 (by decide), l4]
          have vL : (vM υ).2.2.1 = L := by show (υ.1 25 9).toNatClampNeg = L; rw [h9]; exact cl (by omega)
          have hIc : icM υ := ⟨hMu, ⟨hMu.1, by show okP (υ.1 31); rw [h31]; exact (hod k (by omega)).1, by rw [vL]; exact l3⟩, by rw [vL]; exact h9⟩
          have hfl : sFault (vM υ) = -1 := by
            show flt (evM υ).1 (υ.1 32) (vM υ).2.2.1 0 = -1
            rw [hEu, h32, vL]; exact q
          obtain ⟨i, hi, e1⟩ := hb k hk
          apply t_X6_order_4
          rw [h9]
          refine pk_le L k (fun q => absurd q (by omega)) (fun _ => ⟨_, m_fault hIc, ?_⟩)
          rintro _ _ ⟨rfl, rfl⟩
          rw [hfl, cl (by omega : k < 1000), h32, e1, cl (by omega : i < 1000)]
          simp only [nI_1]
          rw [od, e1, cl (by omega : i < 1000)] at ih
          have hv := vin (by omega : i < 5) (by omega : 5 < 1000)
          refine ⟨fun z => absurd trivial z, fun _ => ⟨vin (by omega) (by omega), _, m_triesNow, ?_⟩⟩
          rintro τ1 ⟨he, hf1⟩
          have hM1 := inM_fm hf1 (by decide) (by decide) hMu
          have hE1 : evM τ1 = evC σ := (evM_fm hf1 (by decide) (by decide)).trans hEu
          have f1 : fm [31, 36] [] [] τ τ1 := hfu.tr (hf1.mono (by simp) (by simp) (by simp))
          have h311 : τ1.1 31 = (od (evC σ) (σ.1 15) (σ.1 6) k).1 := by rw [hf1.at 31 (by decide), h31]
          rw [onM_at (by omega), hE1]
          have hs1 : stp (evM τ1) (τ1.1 36) i = stp (evC σ) (od (evC σ) (σ.1 15) (σ.1 6) k).1 i := by
            rw [hE1]; exact stp_c h5 (by intro a ha; rw [he a ha, h31]) i
          refine ⟨hv, fun z => ?_, fun z => ⟨_, m_stepped hM1 (by omega), ?_⟩⟩
          · rw [if_pos z] at ih; exact ih τ1 f1 h311
          · rintro _ _ ⟨rfl, rfl⟩
            rw [if_neg z] at ih
            rw [hs1, h311]
            refine ⟨hv, fun y => ?_, fun y => ⟨_, m_stepped hM1 (by omega), ?_⟩⟩
            · have go := ih τ1 f1 (by rw [h311]; dsimp only; rw [y, up_id])
              dsimp only at go
              rw [if_pos y, Nat.add_zero] at go; exact go
            · rintro _ _ ⟨rfl, rfl⟩
              rw [hs1]
              have go := ih (sI τ1 31 i (stp (evC σ) (od (evC σ) (σ.1 15) (σ.1 6) k).1 i)) (f1.si (by simp) (by decide)) (by rw [sI_eq, h311])
              dsimp only at go
              rw [if_neg y] at go
              exact ⟨hv, go⟩
      · rintro _ υ ⟨rfl, h31, hf2⟩
        refine ⟨rfl, Rel_p2 hR _ (hod L (Nat.le_refl _)).1 (by rw [hf2.at 6 (by decide)]; exact h6) h31 (fun a ha => ?_) (fun k _ _ => by rw [hf2.2 k (by simp), hf.1 25 (by decide)])⟩
        rw [hf2.at a (by simp at ha ⊢; omega), hf.1 a (by simp at ha ⊢; omega)]
  · have hL0 : 0 < L := by
      rcases Nat.eq_zero_or_pos L with z | z
      · subst z; exact absurd rfl q
      · exact z
    refine ⟨fun r τ => r = 0 ∧ σ = τ, ?_, ?_⟩
    · apply ct_X5_order
      rw [hR.1.1.2]
      refine ⟨_, c_firstWrong l1 l3, ?_⟩
      rintro _ _ ⟨rfl, rfl⟩
      exact ⟨fun _ => ⟨rfl, rfl⟩, fun z => absurd z q⟩
    · rintro _ _ ⟨rfl, rfl⟩
      refine ⟨fun r τ => r = 0 ∧ σ = τ, ?_, ?_⟩
      · apply ct_X6_order
        apply t_X6_order_4
        rw [l2]
        refine pk_le L 0 (fun z => absurd z (by omega)) (fun _ => ⟨_, m_fault hR.2.1, ?_⟩)
        rintro _ _ ⟨rfl, rfl⟩
        have : sFault (vM σ) = flt (evC σ).1 (σ.1 15) L 0 := by
          rw [← hR.2.2.1, ← hL]; rfl
        rw [this]
        exact ⟨fun _ => ⟨rfl, rfl⟩, fun z => absurd z q⟩
      · rintro _ _ ⟨rfl, rfl⟩
        exact ⟨rfl, hR⟩
end WALKERS
