/-! both at once: a sheet copied -/
def rg (x y : Int32) (z : Nat) : Prop := 0 ≤ x.toInt ∧ 0 ≤ y.toInt ∧ x.toInt + y.toInt ≤ z
theorem rg_nat {x y : Int32} {z : Nat} (hz : z ≤ 60) (h : rg x y z) : ∃ p m, x = nI p ∧ y = nI m ∧ p + m ≤ z := by
  obtain ⟨h1, h2, h3⟩ := h
  refine ⟨x.toInt.toNat, y.toInt.toNat, ?_, ?_, by omega⟩
  · apply Int32.toInt_inj.mp
    rw [nI_toInt (by omega)]; omega
  · apply Int32.toInt_inj.mp
    rw [nI_toInt (by omega)]; omega
theorem i32_neg (x : Int32) : x < 0 ↔ x.toInt < 0 := by
  rw [Int32.lt_iff_toInt_lt]; rfl
theorem rg_c {x y : Int32} {z : Nat} (hz : z ≤ 60) : (x < 0 ∨ y < 0 ∨ nI z < y ∨ nI z - y < x) ↔ ¬ rg x y z := by
  have ez := nI_toInt (n := z) (by omega)
  constructor
  · rintro h hr
    obtain ⟨p, m, rfl, rfl, hpm⟩ := rg_nat hz hr
    rcases h with h | h | h | h
    · exact nI_pos (by omega) h
    · exact nI_pos (by omega) h
    · exact nI_nlt (by omega) (by omega) h
    · rw [Int32.lt_iff_toInt_lt, pk_sub_toInt (by omega) (by omega), nI_toInt (by omega)] at h
      omega
  · intro h
    by_cases c1 : x < 0
    · exact Or.inl c1
    by_cases c2 : y < 0
    · exact Or.inr (Or.inl c2)
    by_cases c3 : nI z < y
    · exact Or.inr (Or.inr (Or.inl c3))
    refine Or.inr (Or.inr (Or.inr ?_))
    rw [i32_neg] at c1 c2
    rw [Int32.lt_iff_toInt_lt, ez] at c3
    have ey : y = nI y.toInt.toNat := by
      apply Int32.toInt_inj.mp
      rw [nI_toInt (by omega)]; omega
    rw [ey, Int32.lt_iff_toInt_lt, pk_sub_toInt (by omega) (by omega)]
    have : ¬ (x.toInt + y.toInt ≤ z) := fun q => h ⟨by omega, by omega, q⟩
    omega
theorem i64_sum (x y : Int32) : (x.toInt64 + y.toInt64).toInt = x.toInt + y.toInt := by
  have h1 := Int32.toInt_lt x
  have h2 := Int32.le_toInt x
  have h3 := Int32.toInt_lt y
  have h4 := Int32.le_toInt y
  rw [Int64.toInt_add, Int32.toInt_toInt64, Int32.toInt_toInt64]
  exact Int.bmod_eq_of_le (by omega) (by omega)
theorem z64_lt {x y : Int32} {z : Nat} (hz : z ≤ 60) : (nI z).toInt64 < x.toInt64 + y.toInt64 ↔ ¬ (x.toInt + y.toInt ≤ z) := by
  rw [Int64.lt_iff_toInt_lt, i64_sum, Int32.toInt_toInt64, nI_toInt (by omega)]
  omega
theorem z64_le {x y : Int32} {z : Nat} (hz : z ≤ 60) : x.toInt64 + y.toInt64 ≤ (nI z).toInt64 ↔ (x.toInt + y.toInt ≤ z) := by
  rw [Int64.le_iff_toInt_le, i64_sum, Int32.toInt_toInt64, nI_toInt (by omega)]
section SHEETS3
variable {Γ : GT} {σ : St}
/-- what a copy lacks, 0: nothing -/
def cpL (σ : St) (s t : Nat) (x2 x4 x5 : Int32) (l : Nat) : Prop :=
  (l = 1 ∧ (σ.1 (17 + s) 1 = -1 ∨ (¬ σ.1 (17 + s) 1 = -1 ∧ σ.1 (17 + t) 1 = -1))) ∨
  ∃ z w, z ≤ 60 ∧ w ≤ 60 ∧ σ.1 (17 + s) 1 = nI z ∧ σ.1 (17 + t) 1 = nI w ∧
    ((l = 4 ∧ ¬ σ.1 (17 + s) 0 = σ.1 (17 + t) 0) ∨ (σ.1 (17 + s) 0 = σ.1 (17 + t) 0 ∧ ((l = 2 ∧ ¬ (rg x2 x5 z ∧ rg x4 x5 w)) ∨ (l = 0 ∧ rg x2 x5 z ∧ rg x4 x5 w))))
theorem cpL_or (hR : Rel σ) {s t : Nat} (hs : s < 4) (ht : t < 4) (x2 x4 x5 : Int32) : ∃ l, (l = 0 ∨ l = 1 ∨ l = 2 ∨ l = 4) ∧ cpL σ s t x2 x4 x5 l := by
  rcases hR.2.2.2.1 s hs with ⟨h1, -⟩ | ⟨z, hz, h1, -⟩
  · exact ⟨1, by omega, Or.inl ⟨rfl, Or.inl h1⟩⟩
  rcases hR.2.2.2.1 t ht with ⟨g1, -⟩ | ⟨w, hw, g1, -⟩
  · exact ⟨1, by omega, Or.inl ⟨rfl, Or.inr ⟨by rw [h1]; exact nz hz, g1⟩⟩⟩
  by_cases c : σ.1 (17 + s) 0 = σ.1 (17 + t) 0
  · by_cases d : rg x2 x5 z ∧ rg x4 x5 w
    · exact ⟨0, by omega, Or.inr ⟨z, w, hz, hw, h1, g1, Or.inr ⟨c, Or.inr ⟨rfl, d⟩⟩⟩⟩
    · exact ⟨2, by omega, Or.inr ⟨z, w, hz, hw, h1, g1, Or.inr ⟨c, Or.inl ⟨rfl, d⟩⟩⟩⟩
  · exact ⟨4, by omega, Or.inr ⟨z, w, hz, hw, h1, g1, Or.inl ⟨rfl, c⟩⟩⟩
theorem c_copy {s t l : Nat} (hs : s < 4) (ht : t < 4) {x2 x4 x5 : Int32} (h : cpL σ s t x2 x4 x5 l) : CtI Γ mX5_copy 1 [rf Γ 0, .int (nI s), .int x2, .int (nI t), .int x4, .int x5] σ (fun r τ => (¬ l = 0 ∧ r = -10 - nI l ∧ τ = sI σ 0 5 (nI l)) ∨ (l = 0 ∧ r = 1 ∧ τ = sF σ (17 + t + 4) (va_cpy (σ.1 (17 + s + 4)) (σ.1 (17 + t + 4)) x2.toNatClampNeg x4.toNatClampNeg x5.toNatClampNeg))) := by
  have ff : ∀ (f : Nat), ¬ f = 0 → f = l → ∃ Q : Int32 → St → Prop, CtI Γ mX5_finding 0 [rf Γ 0, .int (nI f)] σ Q ∧ ∀ (r : Int32) (τ : St), Q r τ → ((¬ l = 0 ∧ r = -10 - nI l ∧ τ = sI σ 0 5 (nI l)) ∨ (l = 0 ∧ r = 1 ∧ τ = sF σ (17 + t + 4) (va_cpy (σ.1 (17 + s + 4)) (σ.1 (17 + t + 4)) x2.toNatClampNeg x4.toNatClampNeg x5.toNatClampNeg))) := by
    rintro f hf rfl
    refine ⟨_, c_finding _, ?_⟩
    rintro _ _ ⟨rfl, rfl⟩
    exact Or.inl ⟨hf, rfl, rfl⟩
  apply ct_X5_copy
  refine ⟨_, c_isSheet _, ?_⟩
  rintro _ _ ⟨rfl, rfl⟩
  rw [if_neg (noSh_not hs), cl (by omega), cl (by omega)]
  refine ⟨fun z => absurd z (by decide), fun _ => ⟨_, c_isSheet _, ?_⟩⟩
  rintro _ _ ⟨rfl, rfl⟩
  rw [if_neg (noSh_not ht)]
  refine ⟨fun _ => ⟨v4 hs, v4 ht, _, c_isLost (sh_at hs), ?_⟩, fun z => absurd z (by decide)⟩
  rintro _ _ ⟨rfl, rfl⟩
  rcases h with ⟨hl, h | ⟨h, h'⟩⟩ | ⟨z, w, hz, hw, h1, g1, h⟩
  · rw [if_pos h]
    exact ⟨fun _ => ff 1 (by decide) hl.symm, fun z => absurd z (by decide)⟩
  · rw [if_neg h]
    refine ⟨fun z => absurd rfl z, fun _ => ⟨_, c_isLost (sh_at ht), ?_⟩⟩
    rintro _ _ ⟨rfl, rfl⟩
    rw [if_pos h']
    exact ⟨fun z => absurd z (by decide), fun _ => ff 1 (by decide) hl.symm⟩
  · rw [if_neg (by rw [h1]; exact nz hz)]
    refine ⟨fun z => absurd rfl z, fun _ => ⟨_, c_isLost (sh_at ht), ?_⟩⟩
    rintro _ _ ⟨rfl, rfl⟩
    rw [if_neg (by rw [g1]; exact nz hw)]
    refine ⟨fun _ => ?_, fun z => absurd rfl z⟩
    rcases h with ⟨hl, h⟩ | ⟨hF, h⟩
    · exact ⟨fun z => absurd z h, fun _ => ff 4 (by decide) hl.symm⟩
    · refine ⟨fun _ => ⟨_, c_hasRange (sh_at hs) _ _, ?_⟩, fun z => absurd hF z⟩
      rintro _ _ ⟨rfl, rfl⟩
      rw [h1]
      by_cases c : rg x2 x5 z
      · rw [if_neg (fun y => (rg_c hz).mp y c)]
        refine ⟨fun z => absurd z (by decide), fun _ => ⟨_, c_hasRange (sh_at ht) _ _, ?_⟩⟩
        rintro _ _ ⟨rfl, rfl⟩
        rw [g1]
        by_cases d : rg x4 x5 w
        · rw [if_neg (fun y => (rg_c hw).mp y d)]
          rcases h with ⟨-, h⟩ | ⟨hl, -⟩
          · exact absurd ⟨c, d⟩ h
          refine ⟨fun _ => ⟨?_, Or.inr ⟨hl, rfl, rfl⟩⟩, fun z => absurd z (by decide)⟩
          obtain ⟨p, m, rfl, rfl, hpm⟩ := rg_nat hz c
          obtain ⟨q, m', rfl, e, hqm⟩ := rg_nat hw d
          have : m = m' := (nI_eq (by omega) (by omega)).mp e
          subst this
          rw [cl (by omega), cl (by omega), cl (by omega)]
          exact ⟨nI_pos (by omega), nI_pos (by omega), nI_pos (by omega), by omega, by omega⟩
        · rw [if_pos ((rg_c hw).mpr d)]
          rcases h with ⟨hl, h⟩ | ⟨-, -, h⟩
          · exact ⟨fun z => absurd rfl z, fun _ => ff 2 (by decide) hl.symm⟩
          · exact absurd h d
      · rw [if_pos ((rg_c hz).mpr c)]
        rcases h with ⟨hl, h⟩ | ⟨-, h, -⟩
        · exact ⟨fun _ => ff 2 (by decide) hl.symm, fun z => absurd rfl z⟩
        · exact absurd h c
theorem m_copy {s t l : Nat} (hs : s < 4) (ht : t < 4) {x2 x4 x5 : Int32} {τ : St} (h : cpL σ s t x2 x4 x5 l)
    (hS : ∀ b, b < 4 → ∀ q, σ.1 (17 + b) 1 = q → (q = -1 → τ.1 39 b = 0) ∧ (∀ z, z ≤ 60 → q = nI z → τ.1 39 b = 1 ∧ τ.1 41 b = nI z ∧ τ.1 40 b = σ.1 (17 + b) 0)) (hN : ∀ b, b < 4 → ¬ σ.1 (17 + b) 1 = -1 → τ.1 39 b = 1) :
    CtI Γ mX6_copy 2 [rf Γ 25, .int (nI s), .int x2, .int (nI t), .int x4, .int x5] τ (fun r υ => (¬ l = 0 ∧ r = -10 - nI l ∧ υ = sI τ 25 23 (nI l)) ∨ (l = 0 ∧ r = 1 ∧ fr [42, 43] [] τ υ ∧ ∀ b i, b < 4 → i < 60 → υ.1 42 (60 * b + i) = if b = t ∧ x4.toNatClampNeg ≤ i ∧ i < x4.toNatClampNeg + x5.toNatClampNeg then τ.1 42 (60 * s + (x2.toNatClampNeg + (i - x4.toNatClampNeg))) else τ.1 42 (60 * b + i))) := by
  have ff : ∀ (f : Nat), ¬ f = 0 → f = l → ∃ Q : Int32 → St → Prop, CtI Γ mX6_meets 0 [rf Γ 25, .int (nI f)] τ Q ∧ ∀ (r : Int32) (υ : St), Q r υ → ((¬ l = 0 ∧ r = -10 - nI l ∧ υ = sI τ 25 23 (nI l)) ∨ (l = 0 ∧ r = 1 ∧ fr [42, 43] [] τ υ ∧ ∀ b i, b < 4 → i < 60 → υ.1 42 (60 * b + i) = if b = t ∧ x4.toNatClampNeg ≤ i ∧ i < x4.toNatClampNeg + x5.toNatClampNeg then τ.1 42 (60 * s + (x2.toNatClampNeg + (i - x4.toNatClampNeg))) else τ.1 42 (60 * b + i))) := by
    rintro f hf rfl
    refine ⟨_, m_meets _, ?_⟩
    rintro _ _ ⟨rfl, rfl⟩
    exact Or.inl ⟨hf, rfl, rfl⟩
  apply ct_X6_copy
  refine ⟨_, m_isSheet _, ?_⟩
  rintro _ _ ⟨rfl, rfl⟩
  rw [okI_sh1 hs]
  refine ⟨fun z => absurd z (by decide), fun _ => ⟨_, m_isSheet _, ?_⟩⟩
  rintro _ _ ⟨rfl, rfl⟩
  rw [okI_sh1 ht, cl (by omega : s < 1000), cl (by omega : t < 1000)]
  refine ⟨fun _ => ⟨v4 hs, ?_⟩, fun z => absurd z (by decide)⟩
  rcases h with ⟨hl, h | ⟨h, h'⟩⟩ | ⟨z, w, hz, hw, h1, g1, h⟩
  · rw [(hS s hs _ h).1 rfl]
    exact ⟨fun _ => ff 1 (by decide) hl.symm, fun z => absurd rfl z⟩
  · rw [hN s hs h, (hS t ht _ h').1 rfl]
    exact ⟨fun z => absurd z (by decide), fun _ => ⟨v4 ht, fun z => absurd rfl z, fun _ => ff 1 (by decide) hl.symm⟩⟩
  · obtain ⟨e1, e2, e3⟩ := (hS s hs _ h1).2 z hz rfl
    obtain ⟨f1, f2, f3⟩ := (hS t ht _ g1).2 w hw rfl
    rw [e1, f1, e2, f2, e3, f3]
    refine ⟨fun z => absurd z (by decide), fun _ => ⟨v4 ht, fun _ => ⟨v4 hs, v4 ht, ?_⟩, fun z => absurd z (by decide)⟩⟩
    rcases h with ⟨hl, h⟩ | ⟨hF, h⟩
    · exact ⟨fun z => absurd z h, fun _ => ff 4 (by decide) hl.symm⟩
    · refine ⟨fun _ => ?_, fun z => absurd hF z⟩
      rcases h with ⟨hl, h⟩ | ⟨hl, c, d⟩
      · refine ⟨fun _ => ff 2 (by decide) hl.symm, fun q1 => ⟨fun _ => ff 2 (by decide) hl.symm, fun q2 => ⟨fun _ => ff 2 (by decide) hl.symm, fun q3 => ⟨v4 hs, fun _ => ff 2 (by decide) hl.symm, fun q4 => ⟨v4 ht, fun q5 => ?_, fun _ => ff 2 (by decide) hl.symm⟩⟩⟩⟩⟩
        exfalso
        rw [i32_neg] at q1 q2 q3
        rw [z64_lt hz] at q4
        rw [z64_le hw] at q5
        exact h ⟨⟨by omega, by omega, by omega⟩, by omega, by omega, by omega⟩
      · have c3 := c.2.2
        have d3 := d.2.2
        have n4 : ¬ (nI z).toInt64 < x2.toInt64 + x5.toInt64 := fun y => (z64_lt hz).mp y c3
        have n5 : x4.toInt64 + x5.toInt64 ≤ (nI w).toInt64 := (z64_le hw).mpr d3
        obtain ⟨p, m, rfl, rfl, hpm⟩ := rg_nat hz c
        obtain ⟨q, m', rfl, e, hqm⟩ := rg_nat hw d
        have : m = m' := (nI_eq (by omega) (by omega)).mp e
        subst this
        rw [cl (by omega : p < 1000), cl (by omega : q < 1000), cl (by omega : m < 1000)]
        refine ⟨fun y => absurd y (nI_pos (by omega)), fun _ => ⟨fun y => absurd y (nI_pos (by omega)), fun _ => ⟨fun y => absurd y (nI_pos (by omega)), fun _ => ⟨v4 hs, fun y => absurd y n4, fun _ => ⟨v4 ht, fun _ => ?_, fun y => absurd n5 y⟩⟩⟩⟩⟩
        refine lp_up (P := fun j => ∀ υ : St, fr [42, 43] [] τ υ → υ.1 42 = τ.1 42 → (∀ i, i < j → υ.1 43 i = τ.1 42 (60 * s + (p + i))) → G Γ mX6_copy _ 120 [(0, rf Γ 25), (1, .int (nI s)), (2, .int (nI p)), (3, .int (nI t)), (4, .int (nI q)), (5, .int (nI m)), (6, .int (nI j))] [] υ) m ?_ (fun j hj ih => ?_) 0 (Nat.zero_le _) τ fr.rf rfl (fun i hi => absurd hi (by omega))
        · intro υ k1 k2 k3
          apply t_X6_copy_120
          refine pk_le m m (fun _ => ?_) (fun y => absurd y (by omega))
          refine lp_up (P := fun j => ∀ ω : St, fr [42, 43] [] τ ω → (∀ i, i < m → ω.1 43 i = τ.1 42 (60 * s + (p + i))) → (∀ b i, b < 4 → i < 60 → ω.1 42 (60 * b + i) = if b = t ∧ q ≤ i ∧ i < q + j then τ.1 42 (60 * s + (p + (i - q))) else τ.1 42 (60 * b + i)) → G Γ mX6_copy _ 157 [(0, rf Γ 25), (3, .int (nI t)), (4, .int (nI q)), (5, .int (nI m)), (6, .int (nI j))] [] ω) m ?_ (fun j hj ih => ?_) 0 (Nat.zero_le _) υ k1 k3 (fun b i hb hi => by rw [if_neg (by omega), k2])
          · intro ω g1 g2 g3
            apply t_X6_copy_157
            exact pk_le m m (fun _ => Or.inr ⟨hl, rfl, g1, g3⟩) (fun y => absurd y (by omega))
          · intro ω g1 g2 g3
            apply t_X6_copy_157
            refine pk_le m j (fun y => absurd y (by omega)) (fun _ => ?_)
            rw [ix60, nI_add, cl (by omega : 60 * t + q + j < 1000), cl (by omega : j < 1000), nI_1]
            refine ⟨vin (by omega) (by omega), vin (by omega) (by omega), ih _ (g1.sI (by simp)) (fun i hi => by rw [sI_ne (by decide)]; exact g2 i hi) (fun b i hb hi => ?_)⟩
            rw [sI_eq]
            by_cases cc : 60 * b + i = 60 * t + q + j
            · rw [cc, up_eq, if_pos (by omega), g2 j hj, show i - q = j by omega]
            · rw [up_ne cc, g3 b i hb hi]
              by_cases dd : b = t ∧ q ≤ i ∧ i < q + j
              · rw [if_pos dd, if_pos (by omega)]
              · rw [if_neg dd, if_neg (by omega)]
        · intro υ k1 k2 k3
          apply t_X6_copy_120
          refine pk_le m j (fun y => absurd y (by omega)) (fun _ => ?_)
          rw [ix60, nI_add, cl (by omega : 60 * s + p + j < 1000), cl (by omega : j < 1000), nI_1]
          refine ⟨vin (by omega) (by omega), vin (by omega) (by omega), ih _ (k1.sI (by simp)) (by rw [sI_ne (by decide)]; exact k2) (fun i hi => ?_)⟩
          rw [sI_eq, k2]
          by_cases cc : i = j
          · subst cc
            rw [up_eq, Nat.add_assoc]
          · rw [up_ne cc]; exact k3 i (by omega)
theorem o_copy (hR : Rel σ) (x1 x2 x3 x4 x5 : Int32) : PairI Γ mX5_copy 1 [rf Γ 0, .int x1, .int x2, .int x3, .int x4, .int x5] mX6_copy 2 [rf Γ 25, .int x1, .int x2, .int x3, .int x4, .int x5] σ := by
  by_cases q : noSh x1 ∨ noSh x3
  · refine pairB (c := -2) hR ?_ ?_
    · apply ct_X5_copy
      refine ⟨_, c_isSheet x1, ?_⟩
      rintro _ _ ⟨rfl, rfl⟩
      by_cases c : noSh x1
      · rw [if_pos c]; exact ⟨fun _ => ⟨rfl, rfl⟩, fun z => absurd rfl z⟩
      rw [if_neg c]
      refine ⟨fun z => absurd z (by decide), fun _ => ⟨_, c_isSheet x3, ?_⟩⟩
      rintro _ _ ⟨rfl, rfl⟩
      have d : noSh x3 := by rcases q with z | z; exact absurd z c; exact z
      rw [if_pos d]; exact ⟨fun z => absurd rfl z, fun _ => ⟨rfl, rfl⟩⟩
    · apply ct_X6_copy
      refine ⟨_, m_isSheet x1, ?_⟩
      rintro _ _ ⟨rfl, rfl⟩
      rcases noSh_or x1 with c | ⟨s, hs, rfl⟩
      · rw [okI_sh c]; exact ⟨fun _ => ⟨rfl, rfl⟩, fun z => absurd rfl z⟩
      rw [okI_sh1 hs]
      refine ⟨fun z => absurd z (by decide), fun _ => ⟨_, m_isSheet x3, ?_⟩⟩
      rintro _ _ ⟨rfl, rfl⟩
      have d : noSh x3 := by rcases q with z | z; exact absurd z (noSh_not hs); exact z
      rw [okI_sh d]; exact ⟨fun z => absurd rfl z, fun _ => ⟨rfl, rfl⟩⟩
  · rcases noSh_or x1 with c | ⟨s, hs, rfl⟩
    · exact absurd (Or.inl c) q
    rcases noSh_or x3 with c | ⟨t, ht, rfl⟩
    · exact absurd (Or.inr c) q
    obtain ⟨l, hl, hc⟩ := cpL_or hR hs ht x2 x4 x5
    have hS0 : ∀ b, b < 4 → ∀ q, σ.1 (17 + b) 1 = q → (q = -1 → σ.1 39 b = 0) ∧ (∀ z, z ≤ 60 → q = nI z → σ.1 39 b = 1 ∧ σ.1 41 b = nI z ∧ σ.1 40 b = σ.1 (17 + b) 0) := fun b hb => sh39 hR hb
    have hN0 : ∀ b, b < 4 → ¬ σ.1 (17 + b) 1 = -1 → σ.1 39 b = 1 := by
      intro b hb h
      rcases hR.2.2.2.1 b hb with ⟨h1, -⟩ | ⟨z, hz, h1, h2, -⟩
      · exact absurd h1 h
      · exact h2
    refine ⟨_, c_copy hs ht hc, ?_⟩
    intro r τ hrt
    rcases hrt with ⟨l0, rfl, rfl⟩ | ⟨l0, rfl, rfl⟩
    · refine ⟨_, m_copy hs ht hc hS0 hN0, ?_⟩
      rintro r υ (⟨-, rfl, rfl⟩ | ⟨z, -⟩)
      · exact ⟨rfl, Rel_find hR _⟩
      · exact absurd z l0
    · obtain ⟨τ, hτ⟩ : ∃ τ, τ = sF σ (17 + t + 4) (va_cpy (σ.1 (17 + s + 4)) (σ.1 (17 + t + 4)) x2.toNatClampNeg x4.toNatClampNeg x5.toNatClampNeg) := ⟨_, rfl⟩
      rw [← hτ]
      have e : ∀ a, a ≠ 17 + t + 4 → τ.1 a = σ.1 a := fun a ha => by rw [hτ, sF_ne ha]
      have hx2 : x2.toNatClampNeg + x5.toNatClampNeg ≤ 60 := by
        rcases hc with ⟨z, -⟩ | ⟨z, w, hz, hw, -, -, ⟨z', -⟩ | ⟨-, ⟨z', -⟩ | ⟨-, c, d⟩⟩⟩
        · omega
        · omega
        · omega
        · obtain ⟨p, m, rfl, rfl, hpm⟩ := rg_nat hz c
          rw [cl (by omega), cl (by omega)]; omega
      refine ⟨_, m_copy hs ht hc (by rw [e 39 (by omega), e 40 (by omega), e 41 (by omega)]; exact hS0) (by rw [e 39 (by omega)]; exact hN0), ?_⟩
      rintro r υ (⟨z, -⟩ | ⟨-, rfl, g1, g2⟩)
      · exact absurd l0 z
      · have g1' : ∀ a, a ≠ 42 → a ≠ 43 → υ.1 a = τ.1 a := fun a ha hb => g1.1 a (by simp [ha, hb])
        refine ⟨rfl, Rel_its hR ht (fun a ha => ?_) (fun k _ _ => by rw [g1' 25 (by omega) (by omega), e 25 (by omega)]) (fun i hi => ?_) (fun b i hb hbs hi => ?_)⟩
        · simp at ha
          rw [g1' a (by omega) (by omega), e a (by omega)]
        · rw [g2 t i ht hi, g1' (17 + t + 4) (by omega) (by omega), e 42 (by omega), hτ, sF_eq]
          unfold va_cpy
          by_cases c : x4.toNatClampNeg ≤ i ∧ i < x4.toNatClampNeg + x5.toNatClampNeg
          · rw [if_pos ⟨rfl, c⟩, if_pos c]
            have := hR.2.2.2.2 s (x2.toNatClampNeg + (i - x4.toNatClampNeg)) hs (by omega)
            rw [show 21 + s = 17 + s + 4 by omega] at this
            exact this
          · rw [if_neg (fun y => c y.2), if_neg c]
            have := hR.2.2.2.2 t i ht hi
            rw [show 21 + t = 17 + t + 4 by omega] at this
            exact this
        · rw [g2 b i hb hi, if_neg (fun y => hbs y.1), e 42 (by omega)]
end SHEETS3
