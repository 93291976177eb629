/-! PowerShares$Senders -/
section SENDERS
variable {Γ : GT} {σ : St}
theorem c_mayBeGain (i j v : Int32) : CtI Γ mX1_mayBeGain 0 [.int i, .int j, .int v] σ (fun r τ => r = (if (if i = j then 1 ≤ v ∧ v ≤ 30 else 0 ≤ v ∧ v ≤ 9) then 1 else 0) ∧ τ = σ) := by
  apply ct_X1_mayBeGain
  by_cases h : i = j
  · refine ⟨fun q => absurd h q, fun _ => ⟨fun q => ?_, fun q => ⟨fun q' => ?_, fun q' => ?_⟩⟩⟩ <;> simp_all [Int32.not_lt, Int32.not_le]
  · refine ⟨fun _ => ⟨fun q => ?_, fun q => ⟨fun q' => ?_, fun q' => ?_⟩⟩, fun q => absurd q h⟩ <;> simp_all [Int32.not_lt, Int32.not_le]
theorem c_isThere {n : Nat} (hn : σ.1 1 0 = nI n) (x : Int32) : CtI Γ mX1_isThere 0 [rf Γ 1, .int x] σ (fun r τ => r = (if x < 0 ∨ nI n ≤ x then 0 else 1) ∧ τ = σ) := by
  apply ct_X1_isThere
  rw [hn]
  refine ⟨fun q => ?_, fun q => ⟨fun q' => ?_, fun q' => ?_⟩⟩ <;> simp_all
theorem c_allBits : CtI Γ mX1_allBits 0 [rf Γ 1] σ (fun r τ => r = ((1 : Int32) <<< (σ.1 1 0 &&& 31)) - 1 ∧ τ = σ) := by
  apply ct_X1_allBits
  exact ⟨rfl, rfl⟩
theorem c_onSet : CtI Γ mX1_onSet 1 [rf Γ 1] σ (fun r τ => r = σ.1 1 1 &&& (((1 : Int32) <<< (σ.1 1 0 &&& 31)) - 1) ∧ τ = σ) := by
  apply ct_X1_onSet
  refine ⟨_, c_allBits, ?_⟩
  rintro _ _ ⟨rfl, rfl⟩
  exact ⟨rfl, rfl⟩
theorem c_isOn (i : Nat) : CtI Γ mX1_isOn 0 [rf Γ 1, .int (nI i)] σ (fun r τ => r = ob σ i ∧ τ = σ) := by
  apply ct_X1_isOn
  refine ⟨fun q => ⟨?_, rfl⟩, fun q => ⟨q.symm, rfl⟩⟩
  rcases ob_zo σ i with h | h
  · exact h.symm
  · exact absurd h q
theorem c_gainOf {i j : Nat} (hi : i < 5) (hj : j < 5) : CtI Γ mX1_gainOf 0 [rf Γ 1, .int (nI i), .int (nI j)] σ (fun r τ => r = σ.1 2 (5 * i + j) ∧ τ = σ) := by
  apply ct_X1_gainOf
  rw [ix5, cl (by omega)]
  exact ⟨vin (by omega) (by omega), rfl, rfl⟩
theorem c_tellGain {i j : Nat} (hi : i < 5) (hj : j < 5) (v : Int32) : CtV Γ mX1_tellGain 0 [rf Γ 1, .int (nI i), .int (nI j), .int v] σ (fun τ => τ = sI σ 2 (5 * i + j) v) := by
  apply ct_X1_tellGain
  rw [ix5, cl (by omega)]
  exact ⟨vin (by omega) (by omega), rfl⟩
theorem c_othersAndNoise {n i a : Nat} (hn : σ.1 1 0 = nI n) (h5 : n ≤ 5) (hi : i < 5) (ha : aI a 5) : CtI Γ mX1_othersAndNoise 0 [rf Γ 1, .int (nI i), rf Γ a] σ (fun r τ => r = hb n (ob σ) (σ.1 2) (σ.1 4) (σ.1 a) i ∧ τ = σ) := by
  apply ct_X1_othersAndNoise _ _ _ ha
  refine ⟨vin hi (by omega), ?_⟩
  rw [cl (by omega)]
  refine lp_up (P := fun j => G Γ mX1_othersAndNoise _ 10 [(0, rf Γ 1), (1, .int (nI i)), (2, rf Γ a), (3, .int (hbL (ob σ) (σ.1 2) (σ.1 a) (σ.1 4 i) i j)), (4, .int (nI j))] [] σ) n ?_ (fun j hj ih => ?_) 0 (Nat.zero_le _)
  · apply t_X1_othersAndNoise_10 _ _ _ _ _ ha
    rw [hn]
    exact pk_le n n (fun _ => ⟨rfl, rfl⟩) (fun q => absurd q (by omega))
  · apply t_X1_othersAndNoise_10 _ _ _ _ _ ha
    rw [hn]
    refine pk_le n j (fun q => absurd q (by omega)) (fun _ => ?_)
    rw [ix5, cl (by omega : 5 * i + j < 1000), cl (by omega : j < 1000), nI_1]
    refine pk_eq j i (fun q => ?_) (fun q => ⟨fun c => ?_, fun c => ⟨vin (by omega) (by omega), vin (by omega) (by omega), ?_⟩⟩)
    · have e : hbL (ob σ) (σ.1 2) (σ.1 a) (σ.1 4 i) i (j + 1) = hbL (ob σ) (σ.1 2) (σ.1 a) (σ.1 4 i) i j := by simp [hbL, q]
      rw [← e]; exact ih
    · have e : hbL (ob σ) (σ.1 2) (σ.1 a) (σ.1 4 i) i (j + 1) = hbL (ob σ) (σ.1 2) (σ.1 a) (σ.1 4 i) i j := by simp [hbL, ob, c]
      rw [← e]; exact ih
    · rintro _ rfl
      have e : hbL (ob σ) (σ.1 2) (σ.1 a) (σ.1 4 i) i (j + 1) = hbL (ob σ) (σ.1 2) (σ.1 a) (σ.1 4 i) i j + σ.1 2 (5 * i + j) * σ.1 a j := by simp [hbL, ob, c, q]
      rw [← e]; exact ih
theorem c_needOf {n i a : Nat} (hn : σ.1 1 0 = nI n) (h5 : n ≤ 5) (hi : i < 5) (ha : aI a 5) (hg : 0 < 10 * σ.1 2 (6 * i)) : CtI Γ mX1_needOf 1 [rf Γ 1, .int (nI i), rf Γ a] σ (fun r τ => r = nd n (ob σ) (σ.1 2) (σ.1 3) (σ.1 4) (σ.1 a) i ∧ τ = σ) := by
  apply ct_X1_needOf _ _ _ ha
  refine ⟨_, c_gainOf hi hi, ?_⟩
  rintro _ _ ⟨rfl, rfl⟩
  rw [show 5 * i + i = 6 * i by omega]
  refine br_t hg ⟨vin hi (by omega), _, c_othersAndNoise hn h5 hi ha, ?_⟩
  rintro _ _ ⟨rfl, rfl⟩
  rw [cl (by omega)]
  refine ⟨fun q => ?_, rfl, rfl⟩
  rw [q] at hg
  exact absurd hg (by decide)
end SENDERS
