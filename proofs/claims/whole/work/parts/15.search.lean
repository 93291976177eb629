/-! the search among sets -/
theorem sbs_j : ∀ s, s < 32 → ∀ t, t < 32 → (nI s &&& (nI t ^^^ -1) = 0 ↔ s &&& t = s) := by decide +kernel
theorem dif_j : ∀ s, s < 32 → ∀ t, t < 32 → s &&& t = s → nI t &&& (nI s ^^^ -1) = nI (t - s) := by decide +kernel
theorem add_lt : ∀ n, n ≤ 5 → ∀ i, i < n → ∀ s, s < 2 ^ i → s + 2 ^ i < 2 ^ n ∧ s + 2 ^ i < 2 ^ (i + 1) ∧ s.testBit i = false := by decide +kernel
def wf (F : Nat → Bool) (all : Nat) : Nat → Nat
  | 0 => 0
  | k + 1 => if (k + 1) &&& all = k + 1 ∧ (wf F all k = 0 ∨ pop (k + 1) < pop (wf F all k)) ∧ F (k + 1) = false then k + 1 else wf F all k
def lvF (F : Nat → Bool) (all : Nat) : Nat → Nat
  | 0 => all
  | k + 1 => if k &&& all = k ∧ pop k < pop (lvF F all k) ∧ F (all - k) = true then k else lvF F all k
def ciF (F P : Nat → Bool) : Nat → Nat
  | 0 => 0
  | i + 1 => if P i = true ∧ F (ciF F P i + 2 ^ i) = true then ciF F P i + 2 ^ i else ciF F P i
def fnd (P : Nat → Bool) : Nat → Nat → Int32
  | 0, _ => -1
  | m + 1, k => if P k then nI k else fnd P m (k + 1)
def mg (P : Nat → Bool) : Nat → Int32
  | 0 => 0
  | t + 1 => if P (t + 1) then nI (t + 1) else mg P t
theorem wf_le (F : Nat → Bool) (all : Nat) : ∀ k, wf F all k ≤ k
  | 0 => Nat.le_refl _
  | k + 1 => by
    have := wf_le F all k
    rw [wf]; split <;> omega
theorem lv_le (F : Nat → Bool) (all : Nat) : ∀ k, lvF F all k ≤ all ∨ lvF F all k < k
  | 0 => Or.inl (Nat.le_refl _)
  | k + 1 => by
    have := lv_le F all k
    rw [lvF]; split <;> omega
theorem ci_lt (F P : Nat → Bool) : ∀ i, ciF F P i < 2 ^ i
  | 0 => Nat.zero_lt_one
  | i + 1 => by
    have := ci_lt F P i
    have p : 2 ^ (i + 1) = 2 * 2 ^ i := by rw [Nat.pow_succ, Nat.mul_comm]
    rw [ciF]; split <;> omega
section SEARCH
variable {Γ : GT} {σ : St}
theorem sqC_fr {I J : List Nat} {τ : St} (h : fr I J σ τ) (hJ : 8 ∉ J) : sqC τ = sqC σ := by
  unfold sqC; rw [h.2 8 hJ]
theorem c_fewestTooMany {all : Nat} (h : inC σ) (ha : all < 2 ^ (evC σ).1) : CtI Γ mX0_fewestTooMany 3 [rf Γ 7, .int (nI all)] σ (fun r τ => r = nI (wf (feas (sqC σ)) all all) ∧ fr [10] [9] σ τ) := by
  have h5 := h.1.2.1
  have h32 : all < 32 := Nat.lt_of_lt_of_le ha (pow_32 _ h5)
  apply ct_X0_fewestTooMany
  generalize hF : feas (sqC σ) = F
  refine lp_up (P := fun k => ∀ τ : St, fr [10] [9] σ τ → G Γ mX0_fewestTooMany _ 8 [(0, rf Γ 7), (1, .int (nI all)), (2, .int (nI (wf F all k))), (3, .int (nI (if wf F all k = 0 then 6 else pop (wf F all k)))), (4, .int (nI (k + 1)))] [] τ) all ?_ (fun k hk ih => ?_) 0 (Nat.zero_le _) σ fr.rf
  · intro τ hf
    apply t_X0_fewestTooMany_8
    exact pk_lt all (all + 1) (fun _ => ⟨rfl, hf⟩) (fun q => absurd q (by omega))
  · intro τ hf
    apply t_X0_fewestTooMany_8
    refine pk_lt all (k + 1) (fun q => absurd q (by omega)) (fun _ => ⟨_, c_bitCount (by omega), ?_⟩)
    rintro _ _ ⟨rfl, rfl⟩
    have hw := wf_le F all k
    have hp := pop_le (wf F all k) (by omega)
    have hp2 := pop_le (k + 1) (by omega)
    rw [sbs_j (k + 1) (by omega) all h32, nI_1]
    rw [wf] at ih
    have hx : (if wf F all k = 0 then 6 else pop (wf F all k)) < 2 ^ 31 := by split <;> omega
    refine ⟨fun q => ?_, fun q => ?_⟩
    · rw [if_neg (fun z => q z.1)] at ih; exact ih τ hf
    · refine pk_le _ (pop (k + 1)) (fun q2 => ?_) (fun q2 => ⟨_, c_holdFor (inC_fr hf hI10 h) (by rw [evC_fr hf hI10]; omega), ?_⟩) rfl rfl hx (by omega)
      · rw [if_neg (by rintro ⟨-, z | z, -⟩ <;> (split at q2 <;> omega))] at ih
        exact ih τ hf
      · rintro _ υ ⟨rfl, hf2⟩
        rw [sqC_fr hf (by decide), hF]
        have c2 : wf F all k = 0 ∨ pop (k + 1) < pop (wf F all k) := by
          by_cases z : wf F all k = 0
          · exact Or.inl z
          · rw [if_neg z] at q2; exact Or.inr q2
        by_cases c : F (k + 1) = true
        · rw [if_neg (fun z => by rw [c] at z; exact absurd z.2.2 (by decide))] at ih
          rw [c]
          exact ⟨fun _ => ih υ (hf.tr hf2), fun z => absurd z (by decide)⟩
        · have c3 : F (k + 1) = false := by simpa using c
          rw [if_pos ⟨q, c2, c3⟩, if_neg (by omega : ¬ k + 1 = 0)] at ih
          rw [c3]
          exact ⟨fun z => absurd rfl z, fun _ => ih υ (hf.tr hf2)⟩
theorem c_fewestToLeave {all : Nat} (h : inC σ) (ha : all < 2 ^ (evC σ).1) : CtI Γ mX0_fewestToLeave 3 [rf Γ 7, .int (nI all)] σ (fun r τ => r = nI (lvF (feas (sqC σ)) all all) ∧ fr [10] [9] σ τ) := by
  have h5 := h.1.2.1
  have h32 : all < 32 := Nat.lt_of_lt_of_le ha (pow_32 _ h5)
  apply ct_X0_fewestToLeave
  generalize hF : feas (sqC σ) = F
  refine lp_up (P := fun k => ∀ τ : St, fr [10] [9] σ τ → G Γ mX0_fewestToLeave _ 4 [(0, rf Γ 7), (1, .int (nI all)), (2, .int (nI (lvF F all k))), (3, .int (nI k))] [] τ) all ?_ (fun k hk ih => ?_) 0 (Nat.zero_le _) σ fr.rf
  · intro τ hf
    apply t_X0_fewestToLeave_4
    exact pk_le all all (fun _ => ⟨rfl, hf⟩) (fun q => absurd q (by omega))
  · intro τ hf
    apply t_X0_fewestToLeave_4
    have hl : lvF F all k < 32 := by have := lv_le F all k; omega
    refine pk_le all k (fun q => absurd q (by omega)) (fun _ => ⟨_, c_bitCount (by omega), ?_⟩)
    rintro _ _ ⟨rfl, rfl⟩
    refine ⟨_, c_bitCount hl, ?_⟩
    rintro _ _ ⟨rfl, rfl⟩
    have hp := pop_le _ hl
    have hp2 := pop_le k (by omega)
    rw [lvF] at ih
    refine pk_le (pop (lvF F all k)) (pop k) (fun q => ?_) (fun q => ?_)
    · rw [if_neg (fun z => by omega)] at ih
      apply t_X0_fewestToLeave_25
      rw [nI_1]
      exact ⟨fun _ => ih τ hf, fun _ => ⟨fun _ => ih τ hf, fun z => absurd rfl z⟩⟩
    · apply t_X0_fewestToLeave_25
      rw [sbs_j k (by omega) all h32, nI_1]
      refine ⟨fun z => ?_, fun z => ⟨fun y => absurd y (by decide), fun _ => ?_⟩⟩
      · rw [if_neg (fun y => z y.1)] at ih; exact ih τ hf
      · rw [dif_j k (by omega) all h32 z]
        refine ⟨_, c_holdFor (inC_fr hf hI10 h) (by rw [evC_fr hf hI10]; omega), ?_⟩
        rintro _ υ ⟨rfl, hf2⟩
        rw [sqC_fr hf (by decide), hF]
        by_cases c : F (all - k) = true
        · rw [if_pos ⟨z, q, c⟩] at ih
          rw [c]
          exact ⟨fun y => absurd y (by decide), fun _ => ih υ (hf.tr hf2)⟩
        · rw [if_neg (fun y => c y.2.2)] at ih
          have c3 : F (all - k) = false := by simpa using c
          rw [c3]
          exact ⟨fun _ => ih υ (hf.tr hf2), fun y => absurd rfl y⟩
theorem c_comeIn {all : Nat} (h : inC σ) (ha : all < 2 ^ (evC σ).1) : CtI Γ mX0_comeIn 3 [rf Γ 7, .int (nI all)] σ (fun r τ => r = nI (ciF (feas (sqC σ)) all.testBit (evC σ).1) ∧ fr [10] [9] σ τ) := by
  have h5 := h.1.2.1
  have h32 : all < 32 := Nat.lt_of_lt_of_le ha (pow_32 _ h5)
  apply ct_X0_comeIn
  generalize hF : feas (sqC σ) = F
  refine lp_up (P := fun k => ∀ τ : St, fr [10] [9] σ τ → G Γ mX0_comeIn _ 4 [(0, rf Γ 7), (1, .int (nI all)), (2, .int (nI (ciF F all.testBit k))), (3, .int (nI k))] [] τ) (evC σ).1 ?_ (fun k hk ih => ?_) 0 (Nat.zero_le _) σ fr.rf
  · intro τ hf
    apply t_X0_comeIn_4
    rw [hf.1 1 hI10.1, h.2]
    exact pk_le (evC σ).1 (evC σ).1 (fun _ => ⟨rfl, hf⟩) (fun q => absurd q (by omega))
  · intro τ hf
    apply t_X0_comeIn_4
    rw [hf.1 1 hI10.1, h.2]
    have hc := ci_lt F all.testBit k
    have hcl := add_lt _ h5 k hk _ hc
    have hp : 2 ^ k ≤ 32 := pow_32 k (by omega)
    refine pk_le (evC σ).1 k (fun q => absurd q (by omega)) (fun _ => ?_)
    rw [bit_j all h32 k (by omega), shl_j k (by omega), or_j _ (by omega) k (by omega) hcl.2.2, nI_1]
    rw [ciF] at ih
    by_cases c : all.testBit k = true
    · refine ⟨fun q => absurd (by simp [c]) q, fun _ => ⟨_, c_holdFor (inC_fr hf hI10 h) (by rw [evC_fr hf hI10]; exact hcl.1), ?_⟩⟩
      rintro _ υ ⟨rfl, hf2⟩
      rw [sqC_fr hf (by decide), hF]
      by_cases d : F (ciF F all.testBit k + 2 ^ k) = true
      · rw [if_pos ⟨c, d⟩] at ih
        rw [d]
        exact ⟨fun y => absurd y (by decide), fun _ => ih υ (hf.tr hf2)⟩
      · rw [if_neg (fun y => d y.2)] at ih
        have c3 : F (ciF F all.testBit k + 2 ^ k) = false := by simpa using d
        rw [c3]
        exact ⟨fun _ => ih υ (hf.tr hf2), fun y => absurd rfl y⟩
    · rw [if_neg (fun y => c y.1)] at ih
      exact ⟨fun _ => ih τ hf, fun q => absurd q (by simp [c])⟩
/-- the square as build lays it -/
def wz (e : Ev) (x3 : Int32) (i : Nat) : Int32 := if nI i = x3 then (if ew e i - 1 < 1 then 1 else ew e i - 1) else ew e i
def bEn (e : Ev) (x1 x2 x3 : Int32) (i j : Nat) : Int64 := if i = j then (10 * (eg e (6 * i)).toInt64) * x1.toInt64 else ((-(wz e x3 i).toInt64) * x2.toInt64) * (eg e (5 * i + j)).toInt64
theorem c_build (h : inC σ) (x1 x2 x3 : Int32) : CtV Γ mX0_build 1 [rf Γ 7, .int x1, .int x2, .int x3] σ (fun τ => (∀ i j, i < (evC σ).1 → j < (evC σ).1 → sqC τ i j = bEn (evC σ) x1 x2 x3 i j) ∧ fr [] [8] σ τ) := by
  have h5 := h.1.2.1
  apply ct_X0_build
  refine lp_up (P := fun i => ∀ τ : St, fr [] [8] σ τ → (∀ a b, a < i → b < (evC σ).1 → sqC τ a b = bEn (evC σ) x1 x2 x3 a b) → G Γ mX0_build _ 3 [(0, rf Γ 7), (1, .int x1), (2, .int x2), (3, .int x3), (4, .int (nI i))] [] τ) (evC σ).1 ?_ (fun i hi ih => ?_) 0 (Nat.zero_le _) σ fr.rf (fun a b q => absurd q (by omega))
  · intro τ hf hq
    apply t_X0_build_3
    rw [hf.1 1 (by decide), h.2]
    exact pk_le (evC σ).1 (evC σ).1 (fun _ => ⟨hq, hf⟩) (fun q => absurd q (by omega))
  · intro τ hf hq
    have key := lp_up (P := fun j => ∀ υ : St, fr [] [8] σ υ → (∀ a b, a < i → b < (evC σ).1 → sqC υ a b = bEn (evC σ) x1 x2 x3 a b) → (∀ b, b < j → sqC υ i b = bEn (evC σ) x1 x2 x3 i b) → G Γ mX0_build (NV Γ 1 (fun τ => (∀ i j, i < (evC σ).1 → j < (evC σ).1 → sqC τ i j = bEn (evC σ) x1 x2 x3 i j) ∧ fr [] [8] σ τ)) 46 [(0, rf Γ 7), (1, .int x1), (2, .int x2), (3, .int x3), (4, .int (nI i)), (5, .int (wz (evC σ) x3 i)), (6, .int (nI j))] [] υ) (evC σ).1 ?_ (fun j hj ih2 => ?_) 0 (Nat.zero_le _) τ hf hq (fun b q => absurd q (by omega))
    · apply t_X0_build_3
      rw [hf.1 1 (by decide), h.2, hf.1 3 (by decide)]
      refine pk_le (evC σ).1 i (fun q => absurd q (by omega)) (fun _ => ⟨vin (by omega) (by omega), ?_⟩)
      rw [cl (by omega : i < 1000)]
      unfold wz at key
      refine ⟨fun q => ?_, fun q => ?_⟩
      · rw [if_neg q] at key; exact key
      · rw [if_pos q] at key
        rintro _ rfl
        exact key
    · intro υ hfu h1 h2
      apply t_X0_build_46
      rw [hfu.1 1 (by decide), h.2, nI_1]
      refine pk_le (evC σ).1 (evC σ).1 (fun _ => ih υ hfu (fun a b ha hb => ?_)) (fun q => absurd q (by omega))
      rcases (show a < i ∨ a = i by omega) with q | rfl
      · exact h1 a b q hb
      · exact h2 b hb
    · intro υ hfu h1 h2
      apply t_X0_build_46
      rw [hfu.1 1 (by decide), h.2]
      have hst : ∀ v : Int64, v = bEn (evC σ) x1 x2 x3 i j → G Γ mX0_build (NV Γ 1 (fun τ => (∀ i j, i < (evC σ).1 → j < (evC σ).1 → sqC τ i j = bEn (evC σ) x1 x2 x3 i j) ∧ fr [] [8] σ τ)) 46 [(0, rf Γ 7), (1, .int x1), (2, .int x2), (3, .int x3), (4, .int (nI i)), (5, .int (wz (evC σ) x3 i)), (6, .int (nI (j + 1)))] [] (sJ υ 8 (5 * i + j) v) := by
        intro v hv
        refine ih2 _ (hfu.sJ (by simp)) (fun a b ha hb => ?_) (fun b hb => ?_)
        · show (sJ υ 8 (5 * i + j) v).2 8 (5 * a + b) = _
          rw [sJ_eq, pk_uLn (by omega)]; exact h1 a b ha hb
        · show (sJ υ 8 (5 * i + j) v).2 8 (5 * i + b) = _
          rw [sJ_eq]
          by_cases c : b = j
          · subst c; rw [pk_uLs]; exact hv
          · rw [pk_uLn (by omega)]; exact h2 b (by omega)
      refine pk_le (evC σ).1 j (fun q => absurd q (by omega)) (fun _ => ?_)
      have hE := evC_fr hfu hI0
      refine ⟨fun q => ⟨_, c_gainOf (by omega) (by omega), ?_⟩, fun q => ⟨_, c_gainOf (by omega) (by omega), ?_⟩⟩
      · rintro _ _ ⟨rfl, rfl⟩
        rw [ix5, cl (by omega : 5 * i + j < 1000), nI_1, hE]
        refine ⟨vin (by omega) (by omega), hst _ ?_⟩
        unfold bEn
        rw [if_neg (fun z => q (by rw [z]))]
      · rintro _ _ ⟨rfl, rfl⟩
        rw [ix5, cl (by omega : 5 * i + j < 1000), nI_1, hE]
        have hij : i = j := (nI_eq (by omega) (by omega)).mp q
        refine ⟨vin (by omega) (by omega), hst _ ?_⟩
        unfold bEn
        rw [if_pos hij, show 5 * i + i = 6 * i by omega]
theorem c_buildAsTold (h : inC σ) : CtV Γ mX0_buildAsTold 2 [rf Γ 7] σ (fun τ => (∀ i j, i < (evC σ).1 → j < (evC σ).1 → sqC τ i j = bEn (evC σ) 1 1 (-1) i j) ∧ fr [] [8] σ τ) := by
  apply ct_X0_buildAsTold
  exact ⟨_, c_build h 1 1 (-1), fun τ hq => hq⟩
theorem c_replaceColumnByNoise {c : Nat} (h : inC σ) (hc : c < 5) : CtV Γ mX0_replaceColumnByNoise 0 [rf Γ 7, .int (nI c)] σ (fun τ => (∀ i j, i < (evC σ).1 → j < 5 → sqC τ i j = (if j = c then (ew (evC σ) i).toInt64 * (eno (evC σ) i).toInt64 else sqC σ i j)) ∧ fr [] [8] σ τ) := by
  have h5 := h.1.2.1
  apply ct_X0_replaceColumnByNoise
  refine lp_up (P := fun i => ∀ τ : St, fr [] [8] σ τ → (∀ a b, b < 5 → sqC τ a b = (if b = c ∧ a < i then (ew (evC σ) a).toInt64 * (eno (evC σ) a).toInt64 else sqC σ a b)) → G Γ mX0_replaceColumnByNoise _ 2 [(0, rf Γ 7), (1, .int (nI c)), (2, .int (nI i))] [] τ) (evC σ).1 ?_ (fun i hi ih => ?_) 0 (Nat.zero_le _) σ fr.rf (fun a b _ => by rw [if_neg (by omega)])
  · intro τ hf hq
    apply t_X0_replaceColumnByNoise_2
    rw [hf.1 1 (by decide), h.2]
    refine pk_le (evC σ).1 (evC σ).1 (fun _ => ⟨fun a b ha hb => ?_, hf⟩) (fun q => absurd q (by omega))
    rw [hq a b hb]
    by_cases z : b = c
    · rw [if_pos ⟨z, ha⟩, if_pos z]
    · rw [if_neg (fun y => z y.1), if_neg z]
  · intro τ hf hq
    apply t_X0_replaceColumnByNoise_2
    rw [hf.1 1 (by decide), h.2, hf.1 3 (by decide), hf.1 4 (by decide)]
    refine pk_le (evC σ).1 i (fun q => absurd q (by omega)) (fun _ => ⟨vin (by omega) (by omega), vin (by omega) (by omega), ?_⟩)
    rw [ix5, cl (by omega : 5 * i + c < 1000), cl (by omega : i < 1000), nI_1]
    refine ⟨vin (by omega) (by omega), ih _ (hf.sJ (by simp)) (fun a b hb => ?_)⟩
    show (sJ τ 8 (5 * i + c) _).2 8 (5 * a + b) = _
    rw [sJ_eq]
    by_cases z : b = c ∧ a = i
    · obtain ⟨rfl, rfl⟩ := z
      rw [pk_uLs, if_pos ⟨rfl, by omega⟩]; rfl
    · rw [pk_uLn (by omega)]
      have := hq a b hb
      unfold sqC at this ⊢
      rw [this]
      by_cases y : b = c ∧ a < i
      · rw [if_pos y, if_pos ⟨y.1, by omega⟩]
      · rw [if_neg y, if_neg (by omega)]
theorem hI108 : ∀ {τ υ : St}, fr [] [8] σ τ → fr [10] [9] τ υ → fr [10] [8, 9] σ υ := fun h g => (h.mono (by simp) (by simp)).tr (g.mono (by simp) (by simp))
/-- the softened square -/
theorem c_whoseWishLess {all : Nat} (h : inC σ) (ha : all < 2 ^ (evC σ).1) : CtI Γ mX0_whoseWishLess 3 [rf Γ 7, .int (nI all)] σ (fun r τ => r = (if feas (bEn (evC σ) 1 1 (-1)) all then -1 else fnd (fun i => all.testBit i && feas (bEn (evC σ) 1 1 (nI i)) all) (evC σ).1 0) ∧ fr [10] [8, 9] σ τ) := by
  have h5 := h.1.2.1
  have h32 : all < 32 := Nat.lt_of_lt_of_le ha (pow_32 _ h5)
  have fm : ∀ {τ : St}, fr [10] [8, 9] σ τ → inC τ ∧ evC τ = evC σ := fun hf => ⟨inC_fr hf hI10 h, evC_fr hf hI10⟩
  apply ct_X0_whoseWishLess
  refine ⟨_, c_buildAsTold h, ?_⟩
  rintro τ0 ⟨hq0, hf0⟩
  have hf1 : fr [10] [8, 9] σ τ0 := hf0.mono (by simp) (by simp)
  refine ⟨_, c_holdFor (fm hf1).1 (by rw [(fm hf1).2]; exact ha), ?_⟩
  rintro _ τ1 ⟨rfl, hf2⟩
  rw [feas_c h5 ha hq0]
  by_cases c : feas (bEn (evC σ) 1 1 (-1)) all = true
  · rw [c]
    exact ⟨fun z => absurd z (by decide), fun _ => ⟨rfl, hI108 hf0 hf2⟩⟩
  · have c3 : feas (bEn (evC σ) 1 1 (-1)) all = false := by simpa using c
    rw [c3]
    refine ⟨fun _ => ?_, fun z => absurd rfl z⟩
    generalize hF : fnd (fun i => all.testBit i && feas (bEn (evC σ) 1 1 (nI i)) all) (evC σ).1 0 = F
    have key : ∀ m k, k + m = (evC σ).1 → fnd (fun i => all.testBit i && feas (bEn (evC σ) 1 1 (nI i)) all) m k = F → ∀ τ : St, fr [10] [8, 9] σ τ → G Γ mX0_whoseWishLess (NI Γ 3 (fun r τ => r = (if false = true then -1 else F) ∧ fr [10] [8, 9] σ τ)) 16 [(0, rf Γ 7), (1, .int (nI all)), (2, .int (nI k))] [] τ := by
      intro m
      induction m with
      | zero =>
        intro k hk he τ hf
        apply t_X0_whoseWishLess_16
        rw [hf.1 1 (by decide), h.2]
        exact pk_le (evC σ).1 k (fun _ => ⟨he, hf⟩) (fun q => absurd q (by omega))
      | succ m ih =>
        intro k hk he τ hf
        apply t_X0_whoseWishLess_16
        rw [hf.1 1 (by decide), h.2]
        refine pk_le (evC σ).1 k (fun q => absurd q (by omega)) (fun _ => ⟨_, c_build (fm hf).1 1 1 (nI k), ?_⟩)
        rintro τ2 ⟨hq2, hf3⟩
        rw [(fm hf).2] at hq2
        have hf4 : fr [10] [8, 9] σ τ2 := hf.tr (hf3.mono (by simp) (by simp))
        rw [bit_j all h32 k (by omega), nI_1]
        unfold fnd at he
        by_cases d : all.testBit k = true
        · refine ⟨fun q => absurd (by simp [d]) q, fun _ => ⟨_, c_holdFor (fm hf4).1 (by rw [(fm hf4).2]; exact ha), ?_⟩⟩
          rintro _ υ ⟨rfl, hf5⟩
          rw [feas_c h5 ha hq2]
          have hf6 : fr [10] [8, 9] σ υ := hf4.tr (hf5.mono (by simp) (by simp))
          by_cases g : feas (bEn (evC σ) 1 1 (nI k)) all = true
          · rw [d, g] at he
            rw [g]
            exact ⟨fun z => absurd z (by decide), fun _ => ⟨he, hf6⟩⟩
          · have g3 : feas (bEn (evC σ) 1 1 (nI k)) all = false := by simpa using g
            rw [d, g3] at he
            rw [g3]
            exact ⟨fun _ => ih (k + 1) (by omega) he υ hf6, fun z => absurd rfl z⟩
        · refine ⟨fun _ => ih (k + 1) (by omega) ?_ τ2 hf4, fun q => absurd q (by simp [d])⟩
          have d3 : all.testBit k = false := by simpa using d
          rw [d3] at he; exact he
    exact key (evC σ).1 0 (by omega) hF τ1 (hI108 hf0 hf2)
theorem c_greatestQuarters {all : Nat} (h : inC σ) (ha : all < 2 ^ (evC σ).1) : CtI Γ mX0_greatestQuarters 3 [rf Γ 7, .int (nI all)] σ (fun r τ => r = mg (fun t => feas (bEn (evC σ) 4 (nI t) (-1)) all) 8 ∧ fr [10] [8, 9] σ τ) := by
  have h5 := h.1.2.1
  have fm : ∀ {τ : St}, fr [10] [8, 9] σ τ → inC τ ∧ evC τ = evC σ := fun hf => ⟨inC_fr hf hI10 h, evC_fr hf hI10⟩
  apply ct_X0_greatestQuarters
  generalize hF : mg (fun t => feas (bEn (evC σ) 4 (nI t) (-1)) all) 8 = F
  have key : ∀ t, t ≤ 8 → mg (fun t => feas (bEn (evC σ) 4 (nI t) (-1)) all) t = F → ∀ τ : St, fr [10] [8, 9] σ τ → G Γ mX0_greatestQuarters (NI Γ 3 (fun r τ => r = F ∧ fr [10] [8, 9] σ τ)) 3 [(0, rf Γ 7), (1, .int (nI all)), (2, .int (nI t))] [] τ := by
    intro t
    induction t with
    | zero =>
      intro _ he τ hf
      apply t_X0_greatestQuarters_3
      exact br_t (by decide) ⟨he, hf⟩
    | succ t ih =>
      intro ht he τ hf
      apply t_X0_greatestQuarters_3
      refine br_f (nI_nle (by omega) (by omega)) ⟨_, c_build (fm hf).1 4 (nI (t + 1)) (-1), ?_⟩
      rintro τ2 ⟨hq2, hf3⟩
      rw [(fm hf).2] at hq2
      have hf4 : fr [10] [8, 9] σ τ2 := hf.tr (hf3.mono (by simp) (by simp))
      refine ⟨_, c_holdFor (fm hf4).1 (by rw [(fm hf4).2]; exact ha), ?_⟩
      rintro _ υ ⟨rfl, hf5⟩
      rw [feas_c h5 ha hq2, pk_m1]
      have hf6 : fr [10] [8, 9] σ υ := hf4.tr (hf5.mono (by simp) (by simp))
      unfold mg at he
      by_cases g : feas (bEn (evC σ) 4 (nI (t + 1)) (-1)) all = true
      · rw [g] at he
        rw [g]
        exact ⟨fun z => absurd z (by decide), fun _ => ⟨he, hf6⟩⟩
      · have g3 : feas (bEn (evC σ) 4 (nI (t + 1)) (-1)) all = false := by simpa using g
        rw [g3] at he
        rw [g3]
        exact ⟨fun _ => ih (by omega) he υ hf6, fun z => absurd rfl z⟩
  exact key 8 (Nat.le_refl _) hF σ fr.rf
end SEARCH
