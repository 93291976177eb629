/-! ON as bits; squares told in one way -/
theorem b_low (x : Int32) : ∀ i, i < 5 → (x >>> (nI i &&& 31)) &&& 1 = ((x &&& 31) >>> (nI i &&& 31)) &&& 1 := by
  intro i hi
  apply Int32.toBitVec_inj.mp
  have hs : ∀ i, i < 5 → ((nI i &&& 31).toBitVec.smod 32) = BitVec.ofNat 32 i := by decide +kernel
  simp only [Int32.toBitVec_and, Int32.toBitVec_shiftRight]
  apply BitVec.eq_of_getLsbD_eq
  intro j hj
  have h31 : ∀ i, i < 5 → (31 : Int32).toBitVec.getLsbD i = true := by decide +kernel
  have h1 : ∀ j, j < 32 → j ≠ 0 → (1 : Int32).toBitVec.getLsbD j = false := by decide +kernel
  simp only [BitVec.getLsbD_and]
  by_cases c : j = 0
  · subst c
    have hi2 : (BitVec.ofNat 32 i).toNat = i := by rw [BitVec.toNat_ofNat]; exact Nat.mod_eq_of_lt (by omega)
    have hs2 : ∀ i, i < 5 → (((nI i).toBitVec &&& (31 : Int32).toBitVec).smod 32).toNat = i := by decide +kernel
    simp only [BitVec.sshiftRight_eq', BitVec.getLsbD_sshiftRight, BitVec.getLsbD_and, hs2 i hi]
    simp [h31 i hi, show i < 32 by omega]
    have h31b : ∀ i, i < 5 → (31#32).getLsbD i = true := by decide +kernel
    simp [h31b i hi]
  · rw [h1 j hj c]; simp
theorem b_xor31 (x y : Int32) : (x ^^^ y) &&& 31 = (x &&& 31) ^^^ (y &&& 31) := by
  apply Int32.toBitVec_inj.mp
  simp only [Int32.toBitVec_and, Int32.toBitVec_xor]
  apply BitVec.eq_of_getLsbD_eq
  intro j hj
  simp only [BitVec.getLsbD_and, BitVec.getLsbD_xor]
  cases x.toBitVec.getLsbD j <;> cases y.toBitVec.getLsbD j <;> cases (31 : Int32).toBitVec.getLsbD j <;> rfl
theorem b_mask (x : Int32) : ∀ n, n ≤ 5 → x &&& (nI (2 ^ n) - 1) = (x &&& 31) &&& (nI (2 ^ n) - 1) := by
  intro n hn
  have h : ∀ n, n ≤ 5 → (31 : Int32) &&& (nI (2 ^ n) - 1) = nI (2 ^ n) - 1 := by decide +kernel
  rw [Int32.and_assoc, h n hn]
theorem b_fin : ∀ j, j < 32 → ∀ n, n ≤ 5 → nI j &&& (nI (2 ^ n) - 1) = nI (onmL (fun i => if i < 5 then ((nI j >>> (nI i &&& 31)) &&& 1) else 0) n) := by decide +kernel
theorem onSet_v {σ : St} (h : inC σ) : σ.1 1 1 &&& (((1 : Int32) <<< (σ.1 1 0 &&& 31)) - 1) = nI (onm (evC σ)) := by
  have h5 := h.1.2.1
  rw [h.2, shl_j _ (by omega), b_mask _ _ h5]
  obtain ⟨j, hj, e⟩ := pk_andE (σ.1 1 1) (m := 31) 5 rfl
  rw [e, b_fin j hj _ h5]
  have : (fun i => if i < 5 then ((nI j >>> (nI i &&& 31)) &&& 1) else 0) = eon (evC σ) := by
    funext i
    show _ = onC σ i
    unfold onC ob
    by_cases c : i < 5
    · rw [if_pos c, if_pos c, b_low (σ.1 1 1) i c, e]
    · rw [if_neg c, if_neg c]
  rw [this]; rfl
theorem c_onS {Γ : GT} {σ : St} (h : inC σ) : CtI Γ mX1_onSet 1 [rf Γ 1] σ (fun r τ => r = nI (onm (evC σ)) ∧ σ = τ) := by
  refine Ct.mono c_onSet ?_
  rintro v τ ⟨r, hv, rfl, rfl⟩
  exact ⟨_, hv, onSet_v h, rfl⟩
/-- the softened and the quartered squares -/
def enS (e : Ev) (k : Nat) : Nat → Nat → Int64 := en e 1 (fun i => (wz e (nI k) i).toInt64)
def enQ (e : Ev) (t : Nat) : Nat → Nat → Int64 := en e 4 (fun i => (ew e i * nI t).toInt64)
theorem i64_one : (1 : Int32).toInt64 = 1 := by decide
theorem i64_four : (4 : Int32).toInt64 = 4 := by decide
theorem bEn_T {e : Ev} : ∀ i j, i < 5 → j < 5 → bEn e 1 1 (-1) i j = enT e i j := by
  intro i j hi _
  have hz : wz e (-1) i = ew e i := by
    unfold wz; rw [if_neg]
    intro q
    have : (nI i) < 0 := by rw [q]; decide
    exact nI_pos (by omega) this
  unfold bEn enT en
  rw [hz, i64_one]
  split
  · rw [Int64.mul_one, Int64.mul_one]
  · rw [Int64.mul_one]
theorem bEn_S {e : Ev} {k : Nat} : ∀ i j, i < 5 → j < 5 → bEn e 1 1 (nI k) i j = enS e k i j := by
  intro i j hi _
  unfold bEn enS en
  rw [i64_one]
  split
  · rw [Int64.mul_one, Int64.mul_one]
  · rw [Int64.mul_one]
theorem bEn_Q {e : Ev} (h : okE e) {t : Nat} (ht : t ≤ 8) : ∀ i j, i < 5 → j < 5 → bEn e 4 (nI t) (-1) i j = enQ e t i j := by
  intro i j hi _
  have hz : wz e (-1) i = ew e i := by
    unfold wz; rw [if_neg]
    intro q
    have : (nI i) < 0 := by rw [q]; decide
    exact nI_pos (by omega) this
  obtain ⟨k, k1, k2, hk⟩ := h.2.2.2.2.2.1 i hi
  have hkt : k * t ≤ 160 := Nat.le_trans (Nat.mul_le_mul k2 ht) (by decide)
  unfold bEn enQ en
  rw [hz, i64_four, hk]
  dsimp only
  rw [hk, pk_mul, nI_l (by omega), nI_l (by omega), nI_l (by omega)]
  split
  · rw [Int64.mul_assoc, Int64.mul_assoc, Int64.mul_comm 4]
  · rw [Int64.neg_mul, lN_mul]
