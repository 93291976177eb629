/-! the reference: its parts -/
/-- of the reference's own row these fields differ, and these cells -/
def fm (I J K : List Nat) (σ τ : St) : Prop := fr (25 :: I) J σ τ ∧ ∀ k, k ∉ K → τ.1 25 k = σ.1 25 k
theorem fm.rf {I J K : List Nat} {σ : St} : fm I J K σ σ := ⟨fr.rf, fun _ _ => rfl⟩
theorem fm.tr {I J K : List Nat} {σ τ υ : St} (h : fm I J K σ τ) (g : fm I J K τ υ) : fm I J K σ υ := ⟨h.1.tr g.1, fun k hk => (g.2 k hk).trans (h.2 k hk)⟩
theorem fm.mono {I J K I' J' K' : List Nat} {σ τ : St} (h : fm I J K σ τ) (hI : ∀ a ∈ I, a ∈ I') (hJ : ∀ a ∈ J, a ∈ J') (hK : ∀ a ∈ K, a ∈ K') : fm I' J' K' σ τ :=
  ⟨h.1.mono (fun a ha => by rcases List.mem_cons.mp ha with q | q; exact q ▸ List.mem_cons_self; exact List.mem_cons_of_mem _ (hI a q)) hJ, fun k hk => h.2 k (fun q => hk (hK k q))⟩
theorem fm.si {I J K : List Nat} {σ τ : St} {a k : Nat} {v : Int32} (h : fm I J K σ τ) (ha : a ∈ I) (h25 : a ≠ 25) : fm I J K σ (sI τ a k v) :=
  ⟨h.1.sI (List.mem_cons_of_mem _ ha), fun j hj => by rw [sI_ne (Ne.symm h25)]; exact h.2 j hj⟩
theorem fm.s25 {I J K : List Nat} {σ τ : St} {k : Nat} {v : Int32} (h : fm I J K σ τ) (hk : k ∈ K) : fm I J K σ (sI τ 25 k v) :=
  ⟨h.1.sI List.mem_cons_self, fun j hj => by
    have hjk : j ≠ k := fun q => hj (by rw [q]; exact hk)
    rw [sI_eq, up_ne hjk]; exact h.2 j hj⟩
theorem fm.sj {I J K : List Nat} {σ τ : St} {a k : Nat} {v : Int64} (h : fm I J K σ τ) (ha : a ∈ J) : fm I J K σ (sJ τ a k v) := ⟨h.1.sJ ha, h.2⟩
theorem evM_fm {I J K : List Nat} {σ τ : St} (h : fm I J K σ τ) (hI : 26 ∉ I ∧ 27 ∉ I ∧ 28 ∉ I ∧ 29 ∉ I ∧ 30 ∉ I) (hK : 0 ∉ K ∧ 1 ∉ K) : evM τ = evM σ := by
  have q : ∀ a, a ≠ 25 → a ∉ I → τ.1 a = σ.1 a := fun a h1 h2 => h.1.1 a (by simp [h1, h2])
  have o : onM τ = onM σ := by funext i; unfold onM; rw [q 30 (by decide) hI.2.2.2.2]
  unfold evM
  rw [o, h.2 0 hK.1, h.2 1 hK.2, q 26 (by decide) hI.1, q 27 (by decide) hI.2.1, q 28 (by decide) hI.2.2.1, q 29 (by decide) hI.2.2.2.1]
theorem inM_fm {I J K : List Nat} {σ τ : St} (h : fm I J K σ τ) (hI : 26 ∉ I ∧ 27 ∉ I ∧ 28 ∉ I ∧ 29 ∉ I ∧ 30 ∉ I) (hK : 0 ∉ K ∧ 1 ∉ K) (k : inM σ) : inM τ := by
  unfold inM
  rw [evM_fm h hI hK, h.2 0 hK.1]
  exact k
theorem fm.at {I J K : List Nat} {σ τ : St} (h : fm I J K σ τ) (a : Nat) (h1 : a ≠ 25 ∧ a ∉ I) : τ.1 a = σ.1 a := h.1.1 a (by simp [h1.1, h1.2])
def onmL (f : Nat → Int32) : Nat → Nat
  | 0 => 0
  | i + 1 => onmL f i + (if f i = 1 then 2 ^ i else 0)
def onm (e : Ev) : Nat := onmL (eon e) e.1
theorem onmL_lt (f : Nat → Int32) : ∀ i, onmL f i < 2 ^ i
  | 0 => Nat.zero_lt_one
  | i + 1 => by
    have := onmL_lt f i
    have p : 2 ^ (i + 1) = 2 * 2 ^ i := by rw [Nat.pow_succ, Nat.mul_comm]
    rw [onmL]; split <;> omega
theorem onm_lt (e : Ev) : onm e < 2 ^ e.1 := onmL_lt _ _
theorem onm_32 {e : Ev} (h : e.1 ≤ 5) : onm e < 32 := Nat.lt_of_lt_of_le (onm_lt e) (pow_32 _ h)
theorem onmL_tb {f : Nat → Int32} {n : Nat} : ∀ {i : Nat}, i < n → (onmL f n).testBit i = decide (f i = 1) := by
  induction n with
  | zero => intro i h; omega
  | succ n ih =>
    intro i hi
    rw [onmL]
    by_cases c : i = n
    · subst c
      have := Nat.testBit_lt_two_pow (onmL_lt f i)
      by_cases q : f i = 1
      · rw [if_pos q, Nat.add_comm, Nat.testBit_two_pow_add_eq, this]; simp [q]
      · rw [if_neg q, Nat.add_zero, this]; simp [q]
    · split
      · rw [Nat.add_comm, Nat.testBit_two_pow_add_gt (by omega)]; exact ih (by omega)
      · exact ih (by omega)
def ln (s j : Nat) : Nat := (lstI s j).length
theorem ln_s : ∀ s, s < 32 → ∀ j, j < 5 → ln s (j + 1) = ln s j + (if s.testBit j then 1 else 0) := by decide +kernel
theorem ln_5 : ∀ s, s < 32 → ln s 5 = pop s := by decide +kernel
theorem mem_ln : ∀ s, s < 32 → ∀ j, j < 5 → s.testBit j = true → mem s (ln s j) = j ∧ ln s j < pop s := by decide +kernel
theorem shr_j : ∀ s, s < 32 → ∀ i, i < 6 → nI s >>> (nI i &&& 31) = nI (s / 2 ^ i) := by decide +kernel
def pl (s : Nat) : Nat → Int32
  | 0 => 0
  | j + 1 => pl s j + ((nI s >>> (nI j &&& 31)) &&& 1)
theorem pl_5 : ∀ s, s < 32 → pl s 5 = nI (pop s) := by decide +kernel
section MODEL
variable {Γ : GT} {σ : St}
theorem m_in (v lo hi : Int32) : CtI Γ mX6_in 0 [.int v, .int lo, .int hi] σ (fun r τ => r = okI v lo hi ∧ σ = τ) := by
  apply ct_X6_in
  unfold okI
  exact ⟨fun q => ⟨(if_pos (Or.inl q)).symm, rfl⟩, fun q => ⟨fun q' => ⟨(if_pos (Or.inr q')).symm, rfl⟩, fun q' => ⟨(if_neg (by rintro (z | z); exact q z; exact q' z)).symm, rfl⟩⟩⟩
theorem okI_zo (v lo hi : Int32) : okI v lo hi = 0 ∨ okI v lo hi = 1 := by unfold okI; split; exact Or.inl rfl; exact Or.inr rfl
theorem m_no (x : Int32) : CtJ Γ mX6_no 0 [.int x] σ (fun r τ => r = (-9223372036854775808 : Int64) - x.toInt64 ∧ σ = τ) := by
  apply ct_X6_no; exact ⟨rfl, rfl⟩
theorem lt_pred (x : Int32) {n : Nat} (h1 : 1 ≤ n) (h5 : n ≤ 5) : (nI n - 1 < x ↔ nI n ≤ x) := by
  rw [show nI n - 1 = nI (n - 1) by rw [show n = n - 1 + 1 by omega, nI_pred, Nat.add_sub_cancel]]
  rcases pk_ix x (n := n) (by omega) with q | q | ⟨j, hj, rfl⟩
  · constructor
    · intro h
      exact absurd (Int32.lt_trans h q) (nI_pos (by omega))
    · intro h
      exact absurd (Int32.lt_of_le_of_lt h q) (nI_pos (by omega))
  · exact ⟨fun _ => q, fun _ => Int32.lt_of_lt_of_le (nI_lt (by omega) (by omega)) q⟩
  · rw [nI_ltI (by omega) (by omega), nI_leI (by omega) (by omega)]; omega
theorem m_isSender (h : inM σ) (x : Int32) : CtI Γ mX6_isSender 1 [rf Γ 25, .int x] σ (fun r τ => r = (if x < 0 ∨ nI (evM σ).1 ≤ x then 0 else 1) ∧ σ = τ) := by
  apply ct_X6_isSender
  refine ⟨_, m_in _ _ _, ?_⟩
  rintro _ _ ⟨rfl, rfl⟩
  refine ⟨okI_zo _ _ _, ?_, rfl⟩
  unfold okI
  rw [h.2]
  simp only [lt_pred x h.1.1 h.1.2.1]
theorem m_isGain (i j v : Int32) : CtI Γ mX6_isGain 1 [.int i, .int j, .int v] σ (fun r τ => r = (if i = j then okI v 1 30 else okI v 0 9) ∧ σ = τ) := by
  apply ct_X6_isGain
  refine ⟨fun q => ⟨_, m_in _ _ _, ?_⟩, fun q => ⟨_, m_in _ _ _, ?_⟩⟩
  · rintro _ _ ⟨rfl, rfl⟩; exact ⟨okI_zo _ _ _, (if_neg q).symm, rfl⟩
  · rintro _ _ ⟨rfl, rfl⟩; exact ⟨okI_zo _ _ _, (if_pos q).symm, rfl⟩
theorem m_onNow (h : inM σ) : CtI Γ mX6_onNow 0 [rf Γ 25] σ (fun r τ => r = nI (onm (evM σ)) ∧ σ = τ) := by
  have h5 := h.1.2.1
  apply ct_X6_onNow
  refine lp_up (P := fun j => G Γ mX6_onNow _ 4 [(0, rf Γ 25), (1, .int (nI (onmL (eon (evM σ)) j))), (2, .int (nI j))] [] σ) (evM σ).1 ?_ (fun j hj ih => ?_) 0 (Nat.zero_le _)
  · apply t_X6_onNow_4
    rw [h.2]
    exact pk_le (evM σ).1 (evM σ).1 (fun _ => ⟨rfl, rfl⟩) (fun q => absurd q (by omega))
  · apply t_X6_onNow_4
    rw [h.2]
    refine pk_le (evM σ).1 j (fun q => absurd q (by omega)) (fun _ => ⟨vin (by omega) (by omega), ?_⟩)
    have hl := onmL_lt (eon (evM σ)) j
    have hp := pow_32 j (by omega)
    rw [cl (by omega : j < 1000), nI_1, shl_j j (by omega), or_j _ (by omega) j (by omega) (Nat.testBit_lt_two_pow hl)]
    have ho : eon (evM σ) j = σ.1 30 j := by show onM σ j = _; unfold onM; rw [if_pos (by omega)]
    rw [onmL] at ih
    refine ⟨fun q => ?_, fun q => ?_⟩
    · rw [if_neg (by rw [ho, q]; decide), Nat.add_zero] at ih
      rw [Int32.or_zero]; exact ih
    · rw [if_pos (by rcases h.1.2.2.1 j with z | z; rw [ho] at z; exact absurd z q; exact z)] at ih
      exact ih
theorem m_triesNow : CtV Γ mX6_triesNow 0 [rf Γ 25] σ (fun τ => eq5 (τ.1 36) (σ.1 31) ∧ fm [36] [] [] σ τ) := by
  apply ct_X6_triesNow
  refine lp_up (P := fun j => ∀ τ : St, fm [36] [] [] σ τ → (∀ k, k < j → τ.1 36 k = σ.1 31 k) → G Γ mX6_triesNow _ 2 [(0, rf Γ 25), (1, .int (nI j))] [] τ) 5 ?_ (fun j hj ih => ?_) 0 (Nat.zero_le _) σ fm.rf (fun k hk => absurd hk (by omega))
  · intro τ hf hq
    apply t_X6_triesNow_2
    exact pk_le 5 5 (fun _ => ⟨hq, hf⟩) (fun q => absurd q (by omega))
  · intro τ hf hq
    apply t_X6_triesNow_2
    refine pk_le 5 j (fun q => absurd q (by omega)) (fun _ => ⟨vin hj (by omega), vin hj (by omega), ?_⟩)
    rw [cl (by omega : j < 1000), nI_1]
    refine ih _ (hf.si (by simp) (by decide)) (fun k hk => ?_)
    rw [sI_eq]
    by_cases c : k = j
    · subst c; rw [up_eq, hf.at 31 (by decide)]
    · rw [up_ne c]; exact hq k (by omega)
theorem m_heardBy {i : Nat} (h : inM σ) (hi : i < 5) : CtI Γ mX6_heardBy 0 [rf Γ 25, .int (nI i)] σ (fun r τ => r = hb (evM σ) (σ.1 36) i ∧ σ = τ) := by
  have h5 := h.1.2.1
  apply ct_X6_heardBy
  refine ⟨vin hi (by omega), ?_⟩
  rw [cl (by omega)]
  refine lp_up (P := fun j => G Γ mX6_heardBy _ 9 [(0, rf Γ 25), (1, .int (nI i)), (2, .int (hbL (evM σ) (σ.1 36) i j)), (3, .int (nI j))] [] σ) (evM σ).1 ?_ (fun j hj ih => ?_) 0 (Nat.zero_le _)
  · apply t_X6_heardBy_9
    rw [h.2]
    exact pk_le (evM σ).1 (evM σ).1 (fun _ => ⟨rfl, rfl⟩) (fun q => absurd q (by omega))
  · apply t_X6_heardBy_9
    rw [h.2]
    refine pk_le (evM σ).1 j (fun q => absurd q (by omega)) (fun _ => ?_)
    have ho : eon (evM σ) j = σ.1 30 j := by show onM σ j = _; unfold onM; rw [if_pos (by omega)]
    rw [ix5', cl (by omega : 5 * i + j < 1000), cl (by omega : j < 1000), nI_1, Int32.add_zero]
    have hv : vp_in (nI j) 5 := vin (by omega) (by omega)
    refine pk_eq j i (fun q => ?_) (fun q => ⟨hv, fun c => ?_, fun c => ⟨vin (by omega) (by omega), hv, ?_⟩⟩)
    · have e : hbL (evM σ) (σ.1 36) i (j + 1) = hbL (evM σ) (σ.1 36) i j := by simp [hbL, q]
      rw [← e]; exact ih
    · have e : hbL (evM σ) (σ.1 36) i (j + 1) = hbL (evM σ) (σ.1 36) i j := by
        have : ¬ eon (evM σ) j = 1 := by rw [ho, c]; decide
        simp [hbL, this]
      rw [← e]; exact ih
    · rintro _ rfl
      have e : hbL (evM σ) (σ.1 36) i (j + 1) = hbL (evM σ) (σ.1 36) i j + σ.1 26 (5 * i + j) * σ.1 36 j := by
        have : eon (evM σ) j = 1 := by rcases h.1.2.2.1 j with z | z; rw [ho] at z; exact absurd z c; exact z
        simp [hbL, this, q]; rfl
      rw [← e]; exact ih
theorem m_needOf {i : Nat} (h : inM σ) (hi : i < 5) : CtI Γ mX6_needOf 1 [rf Γ 25, .int (nI i)] σ (fun r τ => r = nd (evM σ) (σ.1 36) i ∧ σ = τ) := by
  have hg := own_pos h.1 hi
  apply ct_X6_needOf
  rw [ix6, cl (by omega), cl (by omega)]
  refine ⟨vin (by omega) (by omega), vin hi (by omega), _, m_heardBy h hi, ?_⟩
  rintro _ _ ⟨rfl, rfl⟩
  refine ⟨fun q => ?_, rfl, rfl⟩
  have : (10 : Int32) * eg (evM σ) (6 * i) = 0 := q
  rw [this] at hg
  exact absurd hg (by decide)
theorem m_hasWish {i : Nat} (h : inM σ) (hi : i < 5) : CtI Γ mX6_hasWish 1 [rf Γ 25, .int (nI i)] σ (fun r τ => r = hasW (evM σ) (σ.1 31) i ∧ fm [36] [] [] σ τ) := by
  have h5 := h.1.2.1
  apply ct_X6_hasWish
  refine ⟨_, m_triesNow, ?_⟩
  rintro τ ⟨he, hf⟩
  have hE := evM_fm hf (by decide) (by decide)
  have hM := inM_fm hf (by decide) (by decide) h
  have hv := vin hi (by omega : 5 < 1000)
  rw [cl (by omega), ix6, cl (by omega), hf.at 30 (by decide), hf.at 26 (by decide), hf.at 27 (by decide), hf.at 31 (by decide)]
  have ho : eon (evM σ) i = σ.1 30 i := by show onM σ i = _; unfold onM; rw [if_pos hi]
  unfold hasW
  rw [ho]
  refine ⟨hv, fun q => ⟨(if_pos q).symm, hf⟩, fun q => ⟨vin (by omega) (by omega), hv, hv, _, m_heardBy hM hi, ?_⟩⟩
  rintro _ _ ⟨rfl, rfl⟩
  have hh : hb (evM τ) (τ.1 36) i = hb (evM σ) (σ.1 31) i := by rw [hE]; exact hbL_c he i _ h5
  rw [hh, if_neg q]
  exact ⟨fun q => ⟨(if_pos q).symm, hf⟩, fun q => ⟨(if_neg q).symm, hf⟩⟩
theorem m_bitsOf {s : Nat} (hs : s < 32) : CtI Γ mX6_bitsOf 0 [.int (nI s)] σ (fun r τ => r = nI (pop s) ∧ σ = τ) := by
  apply ct_X6_bitsOf
  refine lp_up (P := fun j => G Γ mX6_bitsOf _ 4 [(0, .int (nI s)), (1, .int (pl s j)), (2, .int (nI j))] [] σ) 5 ?_ (fun j hj ih => ?_) 0 (Nat.zero_le _)
  · apply t_X6_bitsOf_4
    exact pk_le 5 5 (fun _ => ⟨pl_5 s hs, rfl⟩) (fun q => absurd q (by omega))
  · apply t_X6_bitsOf_4
    refine pk_le 5 j (fun q => absurd q (by omega)) (fun _ => ?_)
    rw [nI_1]; exact ih
theorem m_asksAsTold : CtV Γ mX6_asksAsTold 0 [rf Γ 25] σ (fun τ => τ.1 25 13 = 1 ∧ eq5 (τ.1 35) (σ.1 27) ∧ fm [35] [] [13] σ τ) := by
  apply ct_X6_asksAsTold
  refine lp_up (P := fun j => ∀ τ : St, fm [35] [] [13] σ τ → τ.1 25 13 = 1 → (∀ k, k < j → τ.1 35 k = σ.1 27 k) → G Γ mX6_asksAsTold _ 7 [(0, rf Γ 25), (1, .int (nI j))] [] τ) 5 ?_ (fun j hj ih => ?_) 0 (Nat.zero_le _) _ (fm.rf.s25 (by simp)) (by rw [sI_eq, up_eq]) (fun k hk => absurd hk (by omega))
  · intro τ hf h1 hq
    apply t_X6_asksAsTold_7
    exact pk_le 5 5 (fun _ => ⟨h1, hq, hf⟩) (fun q => absurd q (by omega))
  · intro τ hf h1 hq
    apply t_X6_asksAsTold_7
    refine pk_le 5 j (fun q => absurd q (by omega)) (fun _ => ⟨vin hj (by omega), vin hj (by omega), ?_⟩)
    rw [cl (by omega : j < 1000), nI_1]
    refine ih _ (hf.si (by simp) (by decide)) (by rw [sI_ne (by decide)]; exact h1) (fun k hk => ?_)
    rw [sI_eq]
    by_cases c : k = j
    · subst c; rw [up_eq, hf.at 27 (by decide)]
    · rw [up_ne c]; exact hq k (by omega)
theorem m_determines {z : Nat} (hz : z ≤ 5) (hw : σ.1 25 14 = nI z) : CtV Γ mX6_determines 1 [rf Γ 25] σ (fun τ => (∀ k, k < 2 ^ z → τ.2 34 k = pd (fun r c => σ.2 33 (5 * r + c)) k) ∧ fm [] [34] [] σ τ) := by
  have p32 := pow_32 z hz
  apply ct_X6_determines
  refine ⟨vin (k := 0) (by omega) (by omega), ?_⟩
  have key : ∀ j, j ≤ 2 ^ z → 1 ≤ j → ∀ τ : St, fm [] [34] [] σ τ → (∀ k, k < j → τ.2 34 k = pd (fun r c => σ.2 33 (5 * r + c)) k) → G Γ mX6_determines (NV Γ 1 (fun τ => (∀ k, k < 2 ^ z → τ.2 34 k = pd (fun r c => σ.2 33 (5 * r + c)) k) ∧ fm [] [34] [] σ τ)) 9 [(0, rf Γ 25), (1, .int (nI j))] [] τ := by
    refine lp_up (2 ^ z) ?_ ?_
    · intro h1 τ hf hT
      apply t_X6_determines_9
      rw [hf.2 14 (by decide), hw, shl_j _ (by omega)]
      exact pk_le (2 ^ z) (2 ^ z) (fun _ => ⟨hT, hf⟩) (fun q => absurd q (by omega))
    · intro j hj ih h1 τ hf hT
      have hp := pop_pos j (by omega) h1
      have hp2 := pop_lt z hz j hj
      apply t_X6_determines_9
      rw [hf.2 14 (by decide), hw, shl_j _ (by omega)]
      refine pk_le (2 ^ z) j (fun q => absurd q (by omega)) (fun _ => ⟨_, m_bitsOf (by omega), ?_⟩)
      rintro _ _ ⟨rfl, rfl⟩
      rw [show nI (pop j) - 1 = nI (pop j - 1) from by rw [show pop j = pop j - 1 + 1 by omega, nI_pred, Nat.add_sub_cancel]]
      refine lp_up (P := fun c => G Γ mX6_determines _ 31 [(0, rf Γ 25), (1, .int (nI j)), (2, .int (nI (pop j - 1))), (3, .long (sm (tm (fun c => σ.2 33 (5 * (pop j - 1) + c)) (τ.2 34) j) c)), (5, .int (nI c))] [] τ) z ?_ (fun c hc ih2 => ?_) 0 (Nat.zero_le _)
      · apply t_X6_determines_31
        rw [hf.2 14 (by decide), hw, cl (by omega : j < 1000), nI_1]
        refine pk_le z z (fun _ => ⟨vin (by omega) (by omega), ih (by omega) _ (hf.sj (by simp)) (fun k hk => ?_)⟩) (fun q => absurd q (by omega))
        rw [sJ_eq]
        by_cases c : k = j
        · subst c
          rw [pk_uLs, pd_eq _ hz hj h1]
          exact sm_c (fun c hc => tm_c (fun q => ⟨rfl, hT _ (tb_sub k (by omega) c (by omega) q).2.1⟩))
        · rw [pk_uLn c]; exact hT k (by omega)
      · apply t_X6_determines_31
        rw [hf.2 14 (by decide), hw]
        refine pk_le z c (fun q => absurd q (by omega)) (fun _ => ?_)
        rw [bit_j j (by omega) c (by omega), nI_1, shl_j c (by omega), shr_j j (by omega) (c + 1) (by omega), ix5', cl (by omega : 5 * (pop j - 1) + c < 1000), hf.1.2 33 (by decide)]
        unfold sm at ih2
        by_cases q : j.testBit c = true
        · have ht := tb_sub j (by omega) c (by omega) q
          have hc2 : 2 ^ c ≤ j := Nat.ge_two_pow_of_testBit q
          rw [pk_sub hc2, cl (by omega : j - 2 ^ c < 1000)]
          refine ⟨fun y => absurd (by simp [q]) y, fun _ => ⟨vin (by omega) (by omega), vin (by omega) (by omega), ?_⟩⟩
          rintro _ rfl
          have hdl : j / 2 ^ (c + 1) < 32 := Nat.lt_of_le_of_lt (Nat.div_le_self _ _) (by omega)
          refine ⟨_, m_bitsOf hdl, ?_⟩
          rintro _ _ ⟨rfl, rfl⟩
          have hpl := pop_le _ hdl
          rw [show (2 : Int32) = nI 2 from rfl, pk_rem (by omega) (by decide) (by decide)]
          refine ⟨by decide, fun y => ?_, fun y => ?_⟩
          · have e : tm (fun c => σ.2 33 (5 * (pop j - 1) + c)) (τ.2 34) j c = -(σ.2 33 (5 * (pop j - 1) + c) * τ.2 34 (j - 2 ^ c)) := by
              have : evn j (c + 1) = false := by
                unfold evn
                rcases (show pop (j / 2 ^ (c + 1)) % 2 = 0 ∨ pop (j / 2 ^ (c + 1)) % 2 = 1 by omega) with z | z
                · rw [z] at y; exact absurd rfl y
                · rw [z]; rfl
              unfold tm; rw [if_pos q, this]; rfl
            rw [e] at ih2; exact ih2
          · have e : tm (fun c => σ.2 33 (5 * (pop j - 1) + c)) (τ.2 34) j c = σ.2 33 (5 * (pop j - 1) + c) * τ.2 34 (j - 2 ^ c) := by
              have : evn j (c + 1) = true := by
                unfold evn
                rcases (show pop (j / 2 ^ (c + 1)) % 2 = 0 ∨ pop (j / 2 ^ (c + 1)) % 2 = 1 by omega) with z | z
                · rw [z]; rfl
                · rw [z] at y; exact absurd y (by decide)
              unfold tm; rw [if_pos q, this]; rfl
            rw [e] at ih2; exact ih2
        · refine ⟨fun _ => ?_, fun y => absurd y (by simp [q])⟩
          have e : tm (fun c => σ.2 33 (5 * (pop j - 1) + c)) (τ.2 34) j c = 0 := by unfold tm; rw [if_neg q]
          rw [e, Int64.add_zero] at ih2
          exact ih2
  refine key 1 (Nat.one_le_two_pow) (Nat.le_refl _) _ (fm.rf.sj (by simp)) (fun k hk => ?_)
  rw [sJ_eq, show k = 0 by omega]
  rfl
end MODEL
