/-! PowerShares$Senders, $Walk -/
section SENDERS
variable {Γ : GT} {σ : St}
theorem c_mayBeGain (i j v : Int32) : CtI Γ mX1_mayBeGain 0 [.int i, .int j, .int v] σ (fun r τ => r = (if i = j then okI v 1 30 else okI v 0 9) ∧ σ = τ) := by
  apply ct_X1_mayBeGain
  unfold okI
  by_cases h : i = j
  · refine ⟨fun q => absurd h q, fun _ => ⟨fun q => ?_, fun q => ⟨fun q' => ?_, fun q' => ?_⟩⟩⟩ <;> simp_all
  · refine ⟨fun _ => ⟨fun q => ?_, fun q => ⟨fun q' => ?_, fun q' => ?_⟩⟩, fun q => absurd q h⟩ <;> simp_all
theorem c_isThere (h : inC σ) (x : Int32) : CtI Γ mX1_isThere 0 [rf Γ 1, .int x] σ (fun r τ => r = (if x < 0 ∨ nI (evC σ).1 ≤ x then 0 else 1) ∧ σ = τ) := by
  apply ct_X1_isThere
  rw [h.2]
  refine ⟨fun q => ?_, fun q => ⟨fun q' => ?_, fun q' => ?_⟩⟩ <;> simp_all
theorem c_allBits : CtI Γ mX1_allBits 0 [rf Γ 1] σ (fun r τ => r = ((1 : Int32) <<< (σ.1 1 0 &&& 31)) - 1 ∧ σ = τ) := by
  apply ct_X1_allBits
  exact ⟨rfl, rfl⟩
theorem c_onSet : CtI Γ mX1_onSet 1 [rf Γ 1] σ (fun r τ => r = σ.1 1 1 &&& (((1 : Int32) <<< (σ.1 1 0 &&& 31)) - 1) ∧ σ = τ) := by
  apply ct_X1_onSet
  refine ⟨_, c_allBits, ?_⟩
  rintro _ _ ⟨rfl, rfl⟩
  exact ⟨rfl, rfl⟩
theorem c_isOn {i : Nat} (hi : i < 5) : CtI Γ mX1_isOn 0 [rf Γ 1, .int (nI i)] σ (fun r τ => r = eon (evC σ) i ∧ σ = τ) := by
  apply ct_X1_isOn
  show (¬ ob σ i = 1 → 0 = onC σ i ∧ _) ∧ (ob σ i = 1 → 1 = onC σ i ∧ _)
  rw [onC_ob hi]
  refine ⟨fun q => ⟨?_, rfl⟩, fun q => ⟨q.symm, rfl⟩⟩
  rcases ob_zo σ i with h | h
  · exact h.symm
  · exact absurd h q
theorem c_gainOf {i j : Nat} (hi : i < 5) (hj : j < 5) : CtI Γ mX1_gainOf 0 [rf Γ 1, .int (nI i), .int (nI j)] σ (fun r τ => r = eg (evC σ) (5 * i + j) ∧ σ = τ) := by
  apply ct_X1_gainOf
  rw [ix5, cl (by omega)]
  exact ⟨vin (by omega) (by omega), rfl, rfl⟩
theorem c_tellGain {i j : Nat} (hi : i < 5) (hj : j < 5) (v : Int32) : CtV Γ mX1_tellGain 0 [rf Γ 1, .int (nI i), .int (nI j), .int v] σ (fun τ => τ = sI σ 2 (5 * i + j) v) := by
  apply ct_X1_tellGain
  rw [ix5, cl (by omega)]
  exact ⟨vin (by omega) (by omega), rfl⟩
theorem c_othersAndNoise {i a : Nat} (h : inC σ) (hi : i < 5) (ha : aI a 5) : CtI Γ mX1_othersAndNoise 0 [rf Γ 1, .int (nI i), rf Γ a] σ (fun r τ => r = hb (evC σ) (σ.1 a) i ∧ σ = τ) := by
  obtain ⟨⟨-, h5, -⟩, hn⟩ := h
  apply ct_X1_othersAndNoise _ _ _ ha
  refine ⟨vin hi (by omega), ?_⟩
  rw [cl (by omega)]
  refine lp_up (P := fun j => G Γ mX1_othersAndNoise _ 10 [(0, rf Γ 1), (1, .int (nI i)), (2, rf Γ a), (3, .int (hbL (evC σ) (σ.1 a) i j)), (4, .int (nI j))] [] σ) (evC σ).1 ?_ (fun j hj ih => ?_) 0 (Nat.zero_le _)
  · apply t_X1_othersAndNoise_10 _ _ _ _ _ ha
    rw [hn]
    exact pk_le (evC σ).1 (evC σ).1 (fun _ => ⟨rfl, rfl⟩) (fun q => absurd q (by omega))
  · apply t_X1_othersAndNoise_10 _ _ _ _ _ ha
    rw [hn]
    refine pk_le (evC σ).1 j (fun q => absurd q (by omega)) (fun _ => ?_)
    rw [ix5, cl (by omega : 5 * i + j < 1000), cl (by omega : j < 1000), nI_1]
    have ho : eon (evC σ) j = ob σ j := onC_ob (by omega)
    refine pk_eq j i (fun q => ?_) (fun q => ⟨fun c => ?_, fun c => ⟨vin (by omega) (by omega), vin (by omega) (by omega), ?_⟩⟩)
    · have e : hbL (evC σ) (σ.1 a) i (j + 1) = hbL (evC σ) (σ.1 a) i j := by simp [hbL, q]
      rw [← e]; exact ih
    · have e : hbL (evC σ) (σ.1 a) i (j + 1) = hbL (evC σ) (σ.1 a) i j := by
        have : ¬ eon (evC σ) j = 1 := by rw [ho]; exact c
        simp [hbL, this]
      rw [← e]; exact ih
    · rintro _ rfl
      have e : hbL (evC σ) (σ.1 a) i (j + 1) = hbL (evC σ) (σ.1 a) i j + σ.1 2 (5 * i + j) * σ.1 a j := by
        have : eon (evC σ) j = 1 := by rw [ho]; exact c
        simp [hbL, this, q]; rfl
      rw [← e]; exact ih
theorem c_needOf {i a : Nat} (h : inC σ) (hi : i < 5) (ha : aI a 5) : CtI Γ mX1_needOf 1 [rf Γ 1, .int (nI i), rf Γ a] σ (fun r τ => r = nd (evC σ) (σ.1 a) i ∧ σ = τ) := by
  have hg := own_pos h.1 hi
  apply ct_X1_needOf _ _ _ ha
  refine ⟨_, c_gainOf hi hi, ?_⟩
  rintro _ _ ⟨rfl, rfl⟩
  rw [show 5 * i + i = 6 * i by omega]
  refine br_t hg ⟨vin hi (by omega), _, c_othersAndNoise h hi ha, ?_⟩
  rintro _ _ ⟨rfl, rfl⟩
  rw [cl (by omega)]
  refine ⟨fun q => ?_, rfl, rfl⟩
  rw [q] at hg
  exact absurd hg (by decide)
/-- HAS its WISH, and is ON -/
def hasW (e : Ev) (p : Nat → Int32) (i : Nat) : Int32 := if eon e i = 0 then 0 else if 10 * eg e (6 * i) * p i < ew e i * hb e p i then 0 else 1
theorem c_isContent {i : Nat} (h : inC σ) (hi : i < 5) : CtI Γ mX1_isContent 1 [rf Γ 1, .int (nI i)] σ (fun r τ => r = hasW (evC σ) (σ.1 6) i ∧ σ = τ) := by
  apply ct_X1_isContent
  refine ⟨_, c_isOn hi, ?_⟩
  rintro _ _ ⟨rfl, rfl⟩
  unfold hasW
  refine ⟨fun q => by rw [if_pos q]; exact ⟨rfl, rfl⟩, fun q => ?_⟩
  rw [if_neg q]
  refine ⟨_, c_gainOf hi hi, ?_⟩
  rintro _ _ ⟨rfl, rfl⟩
  refine ⟨vin hi (by omega), vin hi (by omega), _, c_othersAndNoise h hi ar_6, ?_⟩
  rintro _ _ ⟨rfl, rfl⟩
  rw [cl (by omega), show 5 * i + i = 6 * i by omega]
  exact ⟨fun q => ⟨(if_pos q).symm, rfl⟩, fun q => ⟨(if_neg q).symm, rfl⟩⟩
/-- bits of the first j of which f isn't 0 -/
def bitsL (f : Nat → Int32) : Nat → Int32
  | 0 => 0
  | j + 1 => if f j = 0 then bitsL f j else bitsL f j ||| ((1 : Int32) <<< (nI j &&& 31))
theorem c_contentSet (h : inC σ) : CtI Γ mX1_contentSet 2 [rf Γ 1] σ (fun r τ => r = bitsL (hasW (evC σ) (σ.1 6)) (evC σ).1 ∧ σ = τ) := by
  obtain ⟨⟨-, h5, -⟩, hn⟩ := id h
  apply ct_X1_contentSet
  refine lp_up (P := fun j => G Γ mX1_contentSet _ 4 [(0, rf Γ 1), (1, .int (bitsL (hasW (evC σ) (σ.1 6)) j)), (2, .int (nI j))] [] σ) (evC σ).1 ?_ (fun j hj ih => ?_) 0 (Nat.zero_le _)
  · apply t_X1_contentSet_4
    rw [hn]
    exact pk_le (evC σ).1 (evC σ).1 (fun _ => ⟨rfl, rfl⟩) (fun q => absurd q (by omega))
  · apply t_X1_contentSet_4
    rw [hn]
    refine pk_le (evC σ).1 j (fun q => absurd q (by omega)) (fun _ => ⟨_, c_isContent h (by omega), ?_⟩)
    rintro _ _ ⟨rfl, rfl⟩
    rw [nI_1]
    rw [bitsL] at ih
    exact ⟨fun q => by rw [if_pos q] at ih; exact ih, fun q => by rw [if_neg q] at ih; exact ih⟩
def sumL (f p : Nat → Int32) : Nat → Int32
  | 0 => 0
  | j + 1 => if f j = 0 then sumL f p j else sumL f p j + p j
theorem c_sumOfPowers (h : inC σ) : CtI Γ mX1_sumOfPowers 1 [rf Γ 1] σ (fun r τ => r = sumL (eon (evC σ)) (σ.1 6) (evC σ).1 ∧ σ = τ) := by
  obtain ⟨⟨-, h5, -⟩, hn⟩ := id h
  apply ct_X1_sumOfPowers
  refine lp_up (P := fun j => G Γ mX1_sumOfPowers _ 4 [(0, rf Γ 1), (1, .int (sumL (eon (evC σ)) (σ.1 6) j)), (2, .int (nI j))] [] σ) (evC σ).1 ?_ (fun j hj ih => ?_) 0 (Nat.zero_le _)
  · apply t_X1_sumOfPowers_4
    rw [hn]
    exact pk_le (evC σ).1 (evC σ).1 (fun _ => ⟨rfl, rfl⟩) (fun q => absurd q (by omega))
  · apply t_X1_sumOfPowers_4
    rw [hn]
    refine pk_le (evC σ).1 j (fun q => absurd q (by omega)) (fun _ => ⟨_, c_isOn (by omega), ?_⟩)
    rintro _ _ ⟨rfl, rfl⟩
    rw [nI_1, cl (by omega : j < 1000)]
    rw [sumL] at ih
    exact ⟨fun q => by rw [if_pos q] at ih; exact ih, fun q => by rw [if_neg q] at ih; exact ⟨vin (by omega) (by omega), ih⟩⟩
-- ---- Walk
theorem c_stepOf {i a : Nat} (h : inC σ) (hi : i < 5) (ha : aI a 5) : CtI Γ mX4_stepOf 2 [rf Γ 11, .int (nI i), rf Γ a] σ (fun r τ => r = stp (evC σ) (σ.1 a) i ∧ σ = τ) := by
  apply ct_X4_stepOf _ _ _ ha
  refine ⟨_, c_needOf h hi ha, ?_⟩
  rintro _ _ ⟨rfl, rfl⟩
  rw [cl (by omega)]
  exact ⟨vin hi (by omega), rfl, rfl⟩
theorem c_goalOf {i a : Nat} (h : inC σ) (hi : i < 5) (ha : aI a 5) : CtI Γ mX4_goalOf 3 [rf Γ 11, .int (nI i), rf Γ a] σ (fun r τ => r = gol (evC σ) (σ.1 a) i ∧ σ = τ) := by
  apply ct_X4_goalOf _ _ _ ha
  refine ⟨_, c_isOn hi, ?_⟩
  rintro _ _ ⟨rfl, rfl⟩
  rw [cl (by omega)]
  unfold gol
  refine ⟨fun q => ⟨_, c_stepOf h hi ha, ?_⟩, fun q => ⟨vin hi (by omega), by rw [if_pos q], rfl⟩⟩
  rintro _ _ ⟨rfl, rfl⟩
  rw [if_neg q]
  exact ⟨fun q => ⟨(if_neg q).symm, rfl⟩, fun q => ⟨vin hi (by omega), by decide, (if_pos q).symm, rfl⟩⟩
theorem c_takeTurn {a : Nat} (h : inC σ) (ha : a = 6 ∨ a = 12) : CtI Γ mX4_takeTurn 4 [rf Γ 11, rf Γ a] σ (fun r τ => r = nI (cnt (evC σ) (σ.1 a) (evC σ).1) ∧ τ.1 a = fin (evC σ) (σ.1 a) ∧ fr [a, 13] [] σ τ) := by
  have hai : aI a 5 := by rcases ha with rfl | rfl; exact ar_6; exact ar_12
  have hI : 1 ∉ [a, 13] ∧ 2 ∉ [a, 13] ∧ 3 ∉ [a, 13] ∧ 4 ∉ [a, 13] ∧ 5 ∉ [a, 13] ∧ 11 ∉ [a, 13] := by rcases ha with rfl | rfl <;> decide
  have ha13 : a ≠ 13 := by omega
  have h5 := h.1.2.1
  apply ct_X4_takeTurn _ _ hai
  refine lp_up (P := fun j => ∀ τ : St, fr [a, 13] [] σ τ → τ.1 a = rowA (evC σ) (σ.1 a) j → (∀ k, k < j → τ.1 13 k = nxt (evC σ) (σ.1 a) k) → G Γ mX4_takeTurn _ 4 [(0, rf Γ 11), (1, rf Γ a), (2, .int (nI (cnt (evC σ) (σ.1 a) j))), (3, .int (nI j))] [] τ) (evC σ).1 ?_ (fun j hj ih => ?_) 0 (Nat.zero_le _) σ fr.rf rfl (fun k hk => absurd hk (by omega))
  · intro τ hf hr hnx
    apply t_X4_takeTurn_4 _ _ _ _ hai
    rw [hf.1 1 hI.1, h.2]
    refine pk_le (evC σ).1 (evC σ).1 (fun _ => ⟨⟨by decide, by decide, nI_pos (by omega), by rw [c0, cl (by omega)]; omega, by rw [c0, cl (by omega)]; omega⟩, rfl, ?_, hf.sF (by simp)⟩) (fun q => absurd q (by omega))
    rw [sF_eq, c0, cl (by omega)]
    funext k
    unfold va_cpy fin
    by_cases c : k < (evC σ).1
    · rw [if_pos ⟨Nat.zero_le _, by omega⟩, if_pos c, Nat.zero_add, Nat.sub_zero]; exact hnx k c
    · rw [if_neg (by omega), if_neg c, hr]; exact rowA_ge (by omega)
  · intro τ hf hr hnx
    have hC := inC_fr hf hI h
    have hE := evC_fr hf hI
    apply t_X4_takeTurn_4 _ _ _ _ hai
    rw [hf.1 1 hI.1, h.2]
    refine pk_le (evC σ).1 j (fun q => absurd q (by omega)) (fun _ => ⟨_, c_goalOf hC (by omega) hai, ?_⟩)
    rintro _ _ ⟨rfl, rfl⟩
    have hv : vp_in (nI j) 5 := vin (by omega) (by omega)
    rw [cl (by omega : j < 1000), nI_1, sI_eq, up_eq, sI_ne ha13, hE, hr, sI_ne (by decide : (11 : Nat) ≠ 13), hf.1 11 hI.2.2.2.2.2, nI_1]
    rw [rowA_ge (Nat.le_refl j)]
    refine ⟨hv, hv, hv, ?_⟩
    have hg : gol (evC σ) (rowA (evC σ) (σ.1 a) j) j = nxt (evC σ) (σ.1 a) j := rfl
    rw [hg]
    have k3 : ∀ υ : St, υ.1 13 = upd (τ.1 13) j (nxt (evC σ) (σ.1 a) j) → ∀ k, k < j + 1 → υ.1 13 k = nxt (evC σ) (σ.1 a) k := by
      intro υ h3 k hk
      rw [h3]
      by_cases c : k = j
      · subst c; rw [up_eq]
      · rw [up_ne c]; exact hnx k (by omega)
    have k1 := fun q : ¬ erule (evC σ) = 1 => ih (sI τ 13 j (nxt (evC σ) (σ.1 a) j)) (hf.sI (by simp)) (by rw [sI_ne ha13, hr, rowA, if_neg q]) (k3 _ (sI_eq _ _ _ _))
    have k2 := fun q : erule (evC σ) = 1 => ih (sI (sI τ 13 j (nxt (evC σ) (σ.1 a) j)) a j (nxt (evC σ) (σ.1 a) j)) ((hf.sI (by simp)).sI (by simp)) (by rw [sI_eq, sI_ne ha13, hr, rowA, if_pos q]; rfl) (k3 _ (by rw [sI_ne (Ne.symm ha13), sI_eq]))
    rw [cnt] at k1 k2
    refine ⟨fun c => ?_, fun c => ?_⟩
    · rw [if_pos c] at k1 k2
      exact ⟨k1, fun q => ⟨hv, hv, k2 q⟩⟩
    · rw [if_neg c] at k1 k2
      exact ⟨k1, fun q => ⟨hv, hv, k2 q⟩⟩
end SENDERS
