/-! PowerShares$Laws -/
section LAWS
variable {Γ : GT} {σ : St}
def sqC (σ : St) : Nat → Nat → Int64 := fun i j => σ.2 8 (5 * i + j)
theorem hI10 : 1 ∉ [10] ∧ 2 ∉ [10] ∧ 3 ∉ [10] ∧ 4 ∉ [10] ∧ 5 ∉ [10] ∧ 11 ∉ [10] := by decide
theorem hI0 : 1 ∉ ([] : List Nat) ∧ 2 ∉ ([] : List Nat) ∧ 3 ∉ ([] : List Nat) ∧ 4 ∉ ([] : List Nat) ∧ 5 ∉ ([] : List Nat) ∧ 11 ∉ ([] : List Nat) := by decide
theorem c_listMembers {s : Nat} (h : inC σ) (hs : s < 2 ^ (evC σ).1) : CtI Γ mX0_listMembers 0 [rf Γ 7, .int (nI s)] σ (fun r τ => r = nI (pop s) ∧ (∀ k, k < pop s → τ.1 10 k = nI (mem s k)) ∧ fr [10] [] σ τ) := by
  have h5 := h.1.2.1
  have h32 : s < 32 := Nat.lt_of_lt_of_le hs (pow_32 _ h5)
  apply ct_X0_listMembers
  refine lp_up (P := fun j => ∀ τ : St, fr [10] [] σ τ → (∀ k, k < (lstI s j).length → τ.1 10 k = nI ((lstI s j).getD k 0)) → G Γ mX0_listMembers _ 4 [(0, rf Γ 7), (1, .int (nI s)), (2, .int (nI (lstI s j).length)), (3, .int (nI j))] [] τ) (evC σ).1 ?_ (fun j hj ih => ?_) 0 (Nat.zero_le _) σ fr.rf (fun k hk => absurd hk (by simp [lstI]))
  · intro τ hf hm
    apply t_X0_listMembers_4
    rw [hf.1 1 hI10.1, h.2]
    rw [lstI_n _ h5 s hs] at hm ⊢
    rw [lst_pop s h32] at hm ⊢
    exact pk_le (evC σ).1 (evC σ).1 (fun _ => ⟨rfl, hm, hf⟩) (fun q => absurd q (by omega))
  · intro τ hf hm
    apply t_X0_listMembers_4
    rw [hf.1 1 hI10.1, h.2]
    have hl : (lstI s j).length ≤ j := by
      have := List.length_filter_le (fun k => s.testBit k) (List.range j)
      rw [List.length_range] at this; exact this
    refine pk_le (evC σ).1 j (fun q => absurd q (by omega)) (fun _ => ?_)
    rw [bit_j s h32 j (by omega), nI_1, nI_1, cl (by omega : (lstI s j).length < 1000)]
    have hsx : lstI s (j + 1) = if s.testBit j then lstI s j ++ [j] else lstI s j := by
      by_cases c : s.testBit j = true
      · simp [lstI, List.range_succ, List.filter_append, c]
      · simp [lstI, List.range_succ, List.filter_append, c]
    by_cases c : s.testBit j = true
    · rw [if_pos c] at hsx
      refine ⟨fun q => absurd (by simp [c]) q, fun _ => ⟨vin (by omega) (by omega), ?_⟩⟩
      have := ih (sI τ 10 (lstI s j).length (nI j)) (hf.sI (by simp)) (fun k hk => ?_)
      · rw [hsx, List.length_append] at this; exact this
      · rw [hsx, List.length_append, List.length_singleton] at hk
        rw [sI_eq, hsx]
        by_cases q : k = (lstI s j).length
        · subst q; rw [up_eq]; simp
        · rw [up_ne q, hm k (by omega)]
          rw [List.getD_eq_getElem?_getD, List.getD_eq_getElem?_getD, List.getElem?_append_left (by omega)]
    · rw [if_neg c] at hsx
      refine ⟨fun _ => ?_, fun q => absurd q (by simp [c])⟩
      have := ih τ hf (by rw [hsx]; exact hm)
      rw [hsx] at this; exact this
theorem l_neg1 (x y : Int64) : (-1 * x) * y = -(x * y) := by rw [Int64.neg_mul, Int64.one_mul, Int64.neg_mul]
/-- the row's part of the set k -/
theorem c_expandRow {k z ρ : Nat} (hk : k < 2 ^ z) (hz : z ≤ 5) (hρ : ρ < 5) (M : Nat → Nat) (hM : ∀ i, i < z → M i < 5 ∧ σ.1 10 i = nI (M i)) : CtJ Γ mX0_expandRow 0 [rf Γ 7, .int (nI ρ), .int (nI k), .int (nI z)] σ (fun r τ => r = sm (tm (fun c => sqC σ ρ (M c)) (σ.2 9) k) z ∧ σ = τ) := by
  have h32 : k < 32 := Nat.lt_of_lt_of_le hk (pow_32 _ hz)
  apply ct_X0_expandRow
  generalize hF : sm (tm (fun c => sqC σ ρ (M c)) (σ.2 9) k) z = F
  have key : ∀ m, m ≤ z → ∀ x : Int64, x + sm (tm (fun c => sqC σ ρ (M c)) (σ.2 9) k) m = F → G Γ mX0_expandRow (NJ Γ 0 (fun r τ => r = F ∧ σ = τ)) 11 [(0, rf Γ 7), (1, .int (nI ρ)), (2, .int (nI k)), (4, .long x), (6, .long (if evn k m then 1 else -1)), (8, .int (nI m - 1))] [] σ := by
    intro m
    induction m with
    | zero =>
      intro _ x hx
      apply t_X0_expandRow_11
      refine br_t (by decide) ⟨?_, rfl⟩
      rw [← hx]; exact (Int64.add_zero x).symm
    | succ m ih =>
      intro hm x hx
      have ih := ih (by omega)
      apply t_X0_expandRow_11
      rw [nI_pred]
      refine br_f (nI_pos (by omega)) ?_
      rw [bit_j k h32 m (by omega), cl (by omega : m < 1000), (hM m (by omega)).2, ix5, cl (by have := (hM m (by omega)).1; omega : 5 * ρ + M m < 1000), shl_j m (by omega)]
      have hdec : nI m + (-1 : Int32) = nI m - 1 := (Int32.sub_eq_add_neg _ _).symm
      rw [hdec]
      have he := evn_s k h32 m (by omega)
      unfold sm at hx
      by_cases c : k.testBit m = true
      · rw [if_pos c] at he
        have ht := tb_sub k h32 m (by omega) c
        rw [xor_j k h32 m (by omega) c, cl (by omega : k - 2 ^ m < 1000)]
        refine ⟨fun q => absurd (by simp [c]) q, fun _ => ⟨vin (by omega) (by omega), vin (by have := (hM m (by omega)).1; omega) (by omega), vin ht.1 (by omega), ?_⟩⟩
        rintro _ rfl
        have e1 : (-(if evn k (m + 1) = true then (1 : Int64) else -1)) = (if evn k m = true then 1 else -1) := by
          rw [he]; cases evn k (m + 1) <;> rfl
        rw [e1]
        refine ih _ ?_
        have e2 : (if evn k (m + 1) = true then (1 : Int64) else -1) * σ.2 8 (5 * ρ + M m) * σ.2 9 (k - 2 ^ m) = tm (fun c => sqC σ ρ (M c)) (σ.2 9) k m := by
          unfold tm; rw [if_pos c]
          cases evn k (m + 1)
          · exact l_neg1 _ _
          · show 1 * _ * _ = _; rw [Int64.one_mul]; rfl
        rw [e2, ← hx, Int64.add_assoc, Int64.add_comm (tm _ _ _ _)]
      · rw [if_neg c] at he
        refine ⟨fun _ => ?_, fun q => absurd q (by simp [c])⟩
        rw [← he]
        refine ih x ?_
        rw [← hx]
        have : tm (fun c => sqC σ ρ (M c)) (σ.2 9) k m = 0 := by unfold tm; rw [if_neg c]
        rw [this, Int64.add_zero]
  have := key z (Nat.le_refl _) 0 (by rw [Int64.zero_add]; exact hF)
  rw [evn_t z hz k hk] at this
  exact this
theorem c_expand {s : Nat} (h : inC σ) (hs : s < 2 ^ (evC σ).1) : CtI Γ mX0_expand 1 [rf Γ 7, .int (nI s)] σ (fun r τ => r = nI (pop s) ∧ (∀ k, k < 2 ^ pop s → τ.2 9 k = pd (subm (sqC σ) s) k) ∧ fr [10] [9] σ τ) := by
  have h5 := h.1.2.1
  have h32 : s < 32 := Nat.lt_of_lt_of_le hs (pow_32 _ h5)
  have hz := pop_le s h32
  apply ct_X0_expand
  refine ⟨_, c_listMembers h hs, ?_⟩
  rintro _ τ0 ⟨rfl, hm, hf0⟩
  refine ⟨vin (k := 0) (by omega) (by omega), ?_⟩
  have key : ∀ j, j ≤ 2 ^ pop s → 1 ≤ j → ∀ τ : St, fr [10] [9] σ τ → (∀ k, k < pop s → τ.1 10 k = nI (mem s k)) → (∀ k, k < j → τ.2 9 k = pd (subm (sqC σ) s) k) → G Γ mX0_expand (NI Γ 1 (fun r τ => r = nI (pop s) ∧ (∀ k, k < 2 ^ pop s → τ.2 9 k = pd (subm (sqC σ) s) k) ∧ fr [10] [9] σ τ)) 15 [(0, rf Γ 7), (2, .int (nI (pop s))), (3, .int (nI j))] [] τ := by
    have p32 := pow_32 _ hz
    refine lp_up (2 ^ pop s) ?_ ?_
    · intro h1 τ hf hmm hT
      apply t_X0_expand_15
      rw [shl_j _ (by omega)]
      exact pk_le (2 ^ pop s) (2 ^ pop s) (fun _ => ⟨rfl, hT, hf⟩) (fun q => absurd q (by omega))
    · intro j hj ih h1 τ hf hmm hT
      apply t_X0_expand_15
      rw [shl_j _ (by omega)]
      refine pk_le (2 ^ pop s) j (fun q => absurd q (by omega)) (fun _ => ⟨_, c_bitCount (by omega), ?_⟩)
      rintro _ _ ⟨rfl, rfl⟩
      have hp := pop_pos j (by omega) h1
      have hp2 := pop_lt _ hz j hj
      rw [show nI (pop j) - 1 = nI (pop j - 1) from by rw [show pop j = pop j - 1 + 1 by omega, nI_pred, Nat.add_sub_cancel], cl (by omega : pop j - 1 < 1000)]
      refine ⟨vin (by omega) (by omega), ?_⟩
      rw [hmm (pop j - 1) (by omega)]
      have hml : ∀ i, i < pop s → mem s i < 5 := fun i hi => Nat.lt_of_lt_of_le (mem_lt _ h5 s hs i hi) h5
      refine ⟨_, c_expandRow hj hz (hml _ (by omega)) (mem s) (fun i hi => ⟨hml i hi, hmm i hi⟩), ?_⟩
      rintro _ _ ⟨rfl, rfl⟩
      rw [cl (by omega : j < 1000), nI_1]
      refine ⟨vin (by omega) (by omega), ih (by omega) _ (hf.sJ (by simp)) hmm (fun k hk => ?_)⟩
      rw [sJ_eq]
      by_cases c : k = j
      · subst c
        rw [pk_uLs, pd_eq _ hz hj h1]
        refine sm_c (fun c hc => tm_c (fun q => ⟨?_, ?_⟩))
        · show τ.2 8 _ = σ.2 8 _
          rw [hf.2 8 (by decide)]
        · exact hT _ (tb_sub k (by omega) c (by omega) q).2.1
      · rw [pk_uLn c]; exact hT k (by omega)
  refine key 1 (Nat.one_le_two_pow) (Nat.le_refl _) _ ((hf0.mono (fun _ q => q) (fun _ q => absurd q (by simp))).sJ (by simp)) hm (fun k hk => ?_)
  rw [sJ_eq, show k = 0 by omega]
  rfl
theorem c_minorOf {s : Nat} (h : inC σ) (hs : s < 2 ^ (evC σ).1) : CtJ Γ mX0_minorOf 2 [rf Γ 7, .int (nI s)] σ (fun r τ => r = mnr (sqC σ) s ∧ fr [10] [9] σ τ) := by
  have h5 := h.1.2.1
  have h32 : s < 32 := Nat.lt_of_lt_of_le hs (pow_32 _ h5)
  have hz := pop_le s h32
  have p32 := pow_32 _ hz
  have pp := Nat.two_pow_pos (pop s)
  apply ct_X0_minorOf
  refine ⟨_, c_expand h hs, ?_⟩
  rintro _ τ ⟨rfl, hT, hf⟩
  rw [shl_j _ (by omega), show nI (2 ^ pop s) - 1 = nI (2 ^ pop s - 1) from by rw [show 2 ^ pop s = 2 ^ pop s - 1 + 1 by omega, nI_pred, Nat.add_sub_cancel], cl (by omega)]
  exact ⟨vin (by omega) (by omega), hT _ (by omega), hf⟩
theorem c_holdFor {s : Nat} (h : inC σ) (hs : s < 2 ^ (evC σ).1) : CtI Γ mX0_holdFor 2 [rf Γ 7, .int (nI s)] σ (fun r τ => r = (if feas (sqC σ) s then 1 else 0) ∧ fr [10] [9] σ τ) := by
  have h5 := h.1.2.1
  have h32 : s < 32 := Nat.lt_of_lt_of_le hs (pow_32 _ h5)
  have hz := pop_le s h32
  apply ct_X0_holdFor
  refine ⟨_, c_expand h hs, ?_⟩
  rintro _ τ ⟨rfl, hT, hf⟩
  refine lp_up (P := fun j => fsb (pd (subm (sqC σ) s)) j = true → G Γ mX0_holdFor _ 8 [(0, rf Γ 7), (2, .int (nI (pop s))), (3, .int (nI (j + 1)))] [] τ) (pop s) ?_ (fun j hj ih => ?_) 0 (Nat.zero_le _) rfl
  · intro hp
    apply t_X0_holdFor_8
    refine pk_lt (pop s) (pop s + 1) (fun _ => ⟨?_, hf⟩) (fun q => absurd q (by omega))
    unfold feas; rw [hp]; rfl
  · intro hp
    apply t_X0_holdFor_8
    refine pk_lt (pop s) (j + 1) (fun q => absurd q (by omega)) (fun _ => ?_)
    have p32 := pow_32 (j + 1) (by omega)
    have pp := Nat.two_pow_pos (j + 1)
    have pl : 2 ^ (j + 1) ≤ 2 ^ pop s := Nat.pow_le_pow_right (by omega) (by omega)
    rw [shl_j _ (by omega), show nI (2 ^ (j + 1)) - 1 = nI (2 ^ (j + 1) - 1) from by rw [show 2 ^ (j + 1) = 2 ^ (j + 1) - 1 + 1 by omega, nI_pred, Nat.add_sub_cancel], cl (by omega : 2 ^ (j + 1) - 1 < 1000), hT _ (by omega), nI_1]
    refine ⟨vin (by omega) (by omega), fun q => ih (by unfold fsb; rw [hp]; simp [q]), fun q => ⟨?_, hf⟩⟩
    unfold feas; rw [fsb_f hj q]; rfl
end LAWS
