/-! PowerShares: what it answers without a change -/
section PUBC
variable {Γ : GT} {σ : St}
theorem c_asLong (x : Int32) : CtJ Γ mX5_asLong 0 [.int x] σ (fun r τ => r = lmin x ∧ σ = τ) := by
  apply ct_X5_asLong; exact ⟨rfl, rfl⟩
theorem c_commonDivisor {a b : Nat} (ha : a < 2 ^ 63) (hb : b < 2 ^ 49) (h0 : 0 < b) : CtJ Γ mX5_commonDivisor 1 [.long (lN a), .long (lN b)] σ (fun r τ => r = lN (Nat.gcd a b) ∧ σ = τ) := by
  apply ct_X5_commonDivisor
  have hg0 : 0 < Nat.gcd a b := Nat.gcd_pos_of_pos_right _ h0
  generalize hgg : Nat.gcd a b = g at hg0
  have mx : ∀ x, 0 < x → x < 2 ^ 63 → (if (1 : Int64) < lN x then lN x else 1) = lN x := by
    intro x hx hx2
    split
    · rfl
    · next q =>
      have : ¬ lN 1 < lN x := q
      rw [pk_lLT (by decide) hx2] at this
      rw [show x = 1 by omega]; rfl
  have stop : ∀ x r, x < 2 ^ 63 → x = g → G Γ mX5_commonDivisor (NJ Γ 1 (fun r τ => r = lN g ∧ σ = τ)) 9 [(4, .long (lN x)), (6, .long (lN 0)), (8, .int (nI r))] [] σ := by
    intro x r hx hxg
    apply t_X5_commonDivisor_9
    rw [mx x (by omega) hx, hxg]
    exact ⟨fun _ => ⟨rfl, rfl⟩, fun _ => ⟨fun _ => ⟨rfl, rfl⟩, fun q => absurd rfl q⟩⟩
  have key : ∀ k x y r, y < 2 ^ k → k ≤ 49 → r + 2 * k ≤ 100 → x < 2 ^ 63 → Nat.gcd x y = g → G Γ mX5_commonDivisor (NJ Γ 1 (fun r τ => r = lN g ∧ σ = τ)) 9 [(4, .long (lN x)), (6, .long (lN y)), (8, .int (nI r))] [] σ := by
    intro k
    induction k with
    | zero =>
      intro x y r hy _ _ hx hg
      have : y = 0 := by omega
      subst this
      rw [Nat.gcd_zero_right] at hg
      exact stop x r hx hg
    | succ k ih =>
      intro x y r hy hk hr hx hg
      rcases Nat.eq_zero_or_pos y with rfl | hy0
      · rw [Nat.gcd_zero_right] at hg
        exact stop x r hx hg
      have p63 : y < 2 ^ 63 := Nat.lt_of_lt_of_le hy (Nat.pow_le_pow_right (by omega) (by omega))
      have hz := Nat.mod_lt x hy0
      have hg1 : Nat.gcd y (x % y) = g := by rw [← hg, Nat.gcd_comm x y, Nat.gcd_rec y x, Nat.gcd_comm]
      apply t_X5_commonDivisor_9
      rw [pk_lRem hx hy0 p63, nI_1]
      refine pk_le 100 r (fun q => absurd q (by omega)) (fun _ => ⟨fun q => absurd q (l_ne0 hy0 p63), fun _ => ⟨l_ne0 hy0 p63, ?_⟩⟩)
      generalize hzz : x % y = z at hz hg1
      rcases Nat.eq_zero_or_pos z with rfl | hz0
      · rw [Nat.gcd_zero_right] at hg1
        exact stop y (r + 1) p63 hg1
      have z63 : z < 2 ^ 63 := by omega
      have hw := Nat.mod_lt y hz0
      have hg2 : Nat.gcd z (y % z) = g := by rw [← hg1, Nat.gcd_comm y z, Nat.gcd_rec z y, Nat.gcd_comm]
      apply t_X5_commonDivisor_9
      rw [pk_lRem p63 hz0 z63, nI_1]
      refine pk_le 100 (r + 1) (fun q => absurd q (by omega)) (fun _ => ⟨fun q => absurd q (l_ne0 hz0 z63), fun _ => ⟨l_ne0 hz0 z63, ?_⟩⟩)
      refine ih z (y % z) (r + 1 + 1) ?_ (by omega) (by omega) z63 hg2
      have h1 : y % z + z ≤ y := by
        have := Nat.mod_add_div y z
        have : z * 1 ≤ z * (y / z) := Nat.mul_le_mul_left _ (Nat.div_pos (by omega) hz0)
        omega
      have p : 2 ^ (k + 1) = 2 * 2 ^ k := by rw [Nat.pow_succ, Nat.mul_comm]
      omega
  exact key 49 a b 0 hb (Nat.le_refl _) (by omega) ha hgg
theorem c_lowestTerm {a b : Nat} (ha : a < 2 ^ 63) (hb : b < 2 ^ 49) (h0 : 0 < b) (what : Int32) : CtJ Γ mX5_lowestTerm 2 [.long (lN a), .long (lN b), .int what] σ (fun r τ => r = part a b what ∧ σ = τ) := by
  apply ct_X5_lowestTerm
  refine ⟨_, c_commonDivisor ha hb h0, ?_⟩
  rintro _ _ ⟨rfl, rfl⟩
  have hg0 : 0 < Nat.gcd a b := Nat.gcd_pos_of_pos_right _ h0
  have hg1 : Nat.gcd a b ≤ b := Nat.gcd_le_right _ h0
  have hn : ¬ lN (Nat.gcd a b) = 0 := l_ne0 hg0 (by omega)
  unfold part
  exact ⟨fun q => ⟨hn, (if_neg q).symm, rfl⟩, fun q => ⟨hn, (if_pos q).symm, rfl⟩⟩
theorem c_fault (h : icC σ) : CtI Γ mX5_fault 1 [rf Γ 0] σ (fun r τ => r = sFault (vC σ) ∧ σ = τ) := by
  apply ct_X5_fault
  rw [h.1.2]
  refine ⟨_, c_firstWrong h.2.2 h.2.1.2.2, ?_⟩
  rintro _ _ ⟨rfl, rfl⟩
  exact ⟨rfl, rfl⟩
theorem c_feasible (h : icC σ) : CtI Γ mX5_feasible 3 [rf Γ 0] σ (fun r τ => r = sFeas (vC σ) ∧ frL σ τ) := by
  have h5 := h.1.1.2.1
  apply ct_X5_feasible
  refine ⟨_, c_buildAsTold h.1, ?_⟩
  rintro τ ⟨hq, hf⟩
  have hC := inC_fr hf hI0 h.1
  have hE := evC_fr hf hI0
  refine ⟨_, c_onS hC, ?_⟩
  rintro _ _ ⟨rfl, rfl⟩
  refine ⟨_, c_holdFor hC (onm_lt _), ?_⟩
  rintro _ υ ⟨rfl, hf2⟩
  have e1 : feas (sqC τ) (onm (evC τ)) = feas (enT (evC σ)) (onm (evC σ)) := by
    rw [hE]; exact feas_c h5 (onm_lt _) (fun i j hi hj => (hq i j hi hj).trans (bEn_T i j (by omega) (by omega)))
  rw [e1]
  have hff : frL σ υ := hI108 hf hf2
  unfold sFeas
  show _ ∧ _
  by_cases c : feas (enT (evC σ)) (onm (evC σ)) = true
  · have c' : feas (enT (vC σ).1) (onm (vC σ).1) = true := c
    rw [c, c']; exact ⟨fun q => absurd q (by decide), fun _ => ⟨rfl, hff⟩⟩
  · have c2 : feas (enT (evC σ)) (onm (evC σ)) = false := by simpa using c
    have c' : feas (enT (vC σ).1) (onm (vC σ).1) = false := c2
    rw [c2, c']; exact ⟨fun _ => ⟨rfl, hff⟩, fun q => absurd rfl q⟩
theorem sq_T {τ : St} (h5 : (evC σ).1 ≤ 5) (hq : ∀ i j, i < (evC σ).1 → j < (evC σ).1 → sqC τ i j = bEn (evC σ) 1 1 (-1) i j) : ∀ s, s < 2 ^ (evC σ).1 → feas (sqC τ) s = feas (enT (evC σ)) s ∧ mnr (sqC τ) s = mnr (enT (evC σ)) s :=
  fun _ hs => ⟨feas_c h5 hs (fun i j hi hj => (hq i j hi hj).trans (bEn_T i j (by omega) (by omega))), mnr_c h5 hs (fun i j hi hj => (hq i j hi hj).trans (bEn_T i j (by omega) (by omega)))⟩
theorem wf_c {F G : Nat → Bool} {all : Nat} : ∀ {k : Nat}, (∀ s, s ≤ k → F s = G s) → wf F all k = wf G all k
  | 0, _ => rfl
  | k + 1, h => by rw [wf, wf, wf_c (fun s hs => h s (by omega)), h (k + 1) (Nat.le_refl _)]
theorem lv_c {F G : Nat → Bool} {all : Nat} (h : ∀ s, s ≤ all → F s = G s) : ∀ {k : Nat}, lvF F all k = lvF G all k
  | 0 => rfl
  | k + 1 => by rw [lvF, lvF, lv_c h, h (all - k) (by omega)]
theorem ci_c {F G P R : Nat → Bool} {n : Nat} (h : ∀ s, s < 2 ^ n → F s = G s) : ∀ {k : Nat}, k ≤ n → (∀ i, i < k → P i = R i) → ciF F P k = ciF G R k
  | 0, _, _ => rfl
  | k + 1, hk, hP => by
    have hl := ci_lt G R k
    have hp : 2 ^ (k + 1) ≤ 2 ^ n := Nat.pow_le_pow_right (by omega) hk
    have p : 2 ^ (k + 1) = 2 * 2 ^ k := by rw [Nat.pow_succ, Nat.mul_comm]
    rw [ciF, ciF, ci_c h (by omega) (fun i hi => hP i (by omega)), h _ (by omega), hP k (by omega)]
theorem c_witness (h : icC σ) : CtI Γ mX5_witness 4 [rf Γ 0] σ (fun r τ => r = sWit (vC σ) ∧ frL σ τ) := by
  have h5 := h.1.1.2.1
  apply ct_X5_witness
  refine ⟨_, c_buildAsTold h.1, ?_⟩
  rintro τ ⟨hq, hf⟩
  have hC := inC_fr hf hI0 h.1
  have hE := evC_fr hf hI0
  refine ⟨_, c_onS hC, ?_⟩
  rintro _ _ ⟨rfl, rfl⟩
  refine ⟨_, c_fewestTooMany hC (onm_lt _), ?_⟩
  rintro _ υ ⟨rfl, hf2⟩
  refine ⟨?_, hI108 hf hf2⟩
  rw [hE]
  have := onm_lt (evC σ)
  rw [wf_c (G := feas (enT (evC σ))) (fun s hs => (sq_T h5 hq s (by omega)).1)]
  rfl
theorem c_out (h : icC σ) : CtI Γ mX5_out 4 [rf Γ 0] σ (fun r τ => r = nI (sOut (vC σ)) ∧ frL σ τ) := by
  have h5 := h.1.1.2.1
  apply ct_X5_out
  refine ⟨_, c_buildAsTold h.1, ?_⟩
  rintro τ ⟨hq, hf⟩
  have hC := inC_fr hf hI0 h.1
  have hE := evC_fr hf hI0
  refine ⟨_, c_onS hC, ?_⟩
  rintro _ _ ⟨rfl, rfl⟩
  refine ⟨_, c_fewestToLeave hC (onm_lt _), ?_⟩
  rintro _ υ ⟨rfl, hf2⟩
  refine ⟨?_, hI108 hf hf2⟩
  rw [hE]
  have := onm_lt (evC σ)
  rw [lv_c (G := feas (enT (evC σ))) (fun s hs => (sq_T h5 hq s (by omega)).1)]
  rfl
theorem c_admitted (h : icC σ) : CtI Γ mX5_admitted 4 [rf Γ 0] σ (fun r τ => r = nI (sAdm (vC σ)) ∧ frL σ τ) := by
  have h5 := h.1.1.2.1
  apply ct_X5_admitted
  refine ⟨_, c_buildAsTold h.1, ?_⟩
  rintro τ ⟨hq, hf⟩
  have hC := inC_fr hf hI0 h.1
  have hE := evC_fr hf hI0
  refine ⟨_, c_onS hC, ?_⟩
  rintro _ _ ⟨rfl, rfl⟩
  refine ⟨_, c_comeIn hC (onm_lt _), ?_⟩
  rintro _ υ ⟨rfl, hf2⟩
  refine ⟨?_, hI108 hf hf2⟩
  rw [hE]
  rw [ci_c (G := feas (enT (evC σ))) (R := (onm (evC σ)).testBit) (fun s hs => (sq_T h5 hq s hs).1) (Nat.le_refl _) (fun i _ => rfl)]
  rfl
theorem fnd_c {P R : Nat → Bool} : ∀ {m k : Nat}, (∀ i, k ≤ i → i < k + m → P i = R i) → fnd P m k = fnd R m k
  | 0, _, _ => rfl
  | m + 1, k, h => by rw [fnd, fnd, h k (Nat.le_refl _) (by omega), fnd_c (fun i h1 h2 => h i (by omega) (by omega))]
theorem mg_c {P R : Nat → Bool} : ∀ {t : Nat}, (∀ i, i ≤ t → P i = R i) → mg P t = mg R t
  | 0, _ => rfl
  | t + 1, h => by rw [mg, mg, h (t + 1) (Nat.le_refl _), mg_c (fun i hi => h i (by omega))]
theorem c_softer (h : icC σ) : CtI Γ mX5_softer 4 [rf Γ 0] σ (fun r τ => r = sSoft (vC σ) ∧ frL σ τ) := by
  have h5 := h.1.1.2.1
  apply ct_X5_softer
  refine ⟨_, c_onS h.1, ?_⟩
  rintro _ _ ⟨rfl, rfl⟩
  refine ⟨_, c_whoseWishLess h.1 (onm_lt _), ?_⟩
  rintro _ υ ⟨rfl, hf2⟩
  refine ⟨?_, hf2⟩
  have e1 : feas (bEn (evC σ) 1 1 (-1)) (onm (evC σ)) = feas (enT (evC σ)) (onm (evC σ)) := feas_c h5 (onm_lt _) (fun i j hi hj => bEn_T i j (by omega) (by omega))
  have e2 : fnd (fun i => (onm (evC σ)).testBit i && feas (bEn (evC σ) 1 1 (nI i)) (onm (evC σ))) (evC σ).1 0 = fnd (fun i => (onm (evC σ)).testBit i && feas (enS (evC σ) i) (onm (evC σ))) (evC σ).1 0 :=
    fnd_c (fun i _ _ => by rw [feas_c h5 (onm_lt _) (fun a b ha hb => bEn_S a b (by omega) (by omega))])
  rw [e1, e2]
  rfl
theorem c_margin (h : icC σ) : CtI Γ mX5_margin 4 [rf Γ 0] σ (fun r τ => r = sMarg (vC σ) ∧ frL σ τ) := by
  have h5 := h.1.1.2.1
  apply ct_X5_margin
  refine ⟨_, c_onS h.1, ?_⟩
  rintro _ _ ⟨rfl, rfl⟩
  refine ⟨_, c_greatestQuarters h.1 (onm_lt _), ?_⟩
  rintro _ υ ⟨rfl, hf2⟩
  refine ⟨?_, hf2⟩
  exact mg_c (fun t ht => feas_c h5 (onm_lt _) (fun a b ha hb => bEn_Q h.1.1 ht a b (by omega) (by omega)))
theorem c_info_bad (h : icC σ) {x : Int32} (hx : noS (evC σ) x) (y : Int32) : CtI Γ mX5_info 2 [rf Γ 0, .int x, .int y] σ (fun r τ => r = -2 ∧ σ = τ) := by
  apply ct_X5_info
  refine ⟨_, c_isThere h.1 x, ?_⟩
  rintro _ _ ⟨rfl, rfl⟩
  rw [if_pos hx]
  exact ⟨fun q => absurd rfl q, fun _ => ⟨rfl, rfl⟩⟩
theorem c_info {i : Nat} (h : icC σ) (hi : i < (evC σ).1) (y : Int32) : CtI Γ mX5_info 2 [rf Γ 0, .int (nI i), .int y] σ (fun r τ => r = (if y < 0 ∨ 7 < y then -2 else sInfo (vC σ) i y) ∧ σ = τ) := by
  have h5 := h.1.1.2.1
  apply ct_X5_info
  refine ⟨_, c_isThere h.1 _, ?_⟩
  rintro _ _ ⟨rfl, rfl⟩
  rw [if_neg (noS_not h5 hi), cl (by omega)]
  have hv : vp_in (nI i) 5 := vin (by omega) (by omega)
  refine ⟨fun _ => ⟨fun q => ?_, fun q => ?_, fun q => ?_, fun q => ?_, fun q => ?_, fun q => ?_, fun q => ?_, fun q => ?_, fun q0 q1 q2 q3 q4 q5 q6 q7 => ?_⟩, fun q => absurd q (by decide)⟩
  · subst q; exact ⟨hv, rfl, rfl⟩
  · subst q; exact ⟨hv, rfl, rfl⟩
  · subst q; exact ⟨hv, rfl, rfl⟩
  · subst q
    refine ⟨_, c_isOn (by omega), ?_⟩
    rintro _ _ ⟨rfl, rfl⟩
    refine ⟨fun q => ⟨?_, rfl⟩, fun q => ⟨?_, rfl⟩⟩
    · exact q.symm
    · rcases h.1.1.2.2.1 i with z | z
      · exact absurd z q
      · exact z.symm
  · subst q; exact ⟨hv, rfl, rfl⟩
  · subst q
    refine ⟨_, c_needOf h.1 (by omega) ar_6, ?_⟩
    rintro _ _ ⟨rfl, rfl⟩
    exact ⟨rfl, rfl⟩
  · subst q
    refine ⟨_, c_isContent h.1 (by omega), ?_⟩
    rintro _ _ ⟨rfl, rfl⟩
    refine ⟨fun q => ⟨q.symm, rfl⟩, fun q => ⟨?_, rfl⟩⟩
    rcases hasW_zo (evC σ) (σ.1 6) i with z | z
    · exact absurd z q
    · exact z.symm
  · subst q
    refine ⟨_, c_gainOf (by omega) (by omega), ?_⟩
    rintro _ _ ⟨rfl, rfl⟩
    rw [show 5 * i + i = 6 * i by omega]
    exact ⟨rfl, rfl⟩
  · refine ⟨?_, rfl⟩
    rw [if_pos]
    rcases pk_ix y (n := 8) (by decide) with z | z | ⟨j, hj, rfl⟩
    · exact Or.inl z
    · exact Or.inr (Int32.lt_of_lt_of_le (by decide) z)
    · exfalso
      rcases (show j = 0 ∨ j = 1 ∨ j = 2 ∨ j = 3 ∨ j = 4 ∨ j = 5 ∨ j = 6 ∨ j = 7 by omega) with rfl | rfl | rfl | rfl | rfl | rfl | rfl | rfl <;> first | exact q0 rfl | exact q1 rfl | exact q2 rfl | exact q3 rfl | exact q4 rfl | exact q5 rfl | exact q6 rfl | exact q7 rfl
theorem and_j : ∀ s, s < 32 → ∀ t, t < 32 → nI s &&& nI t = nI (s &&& t) ∧ s &&& t ≤ t := by decide +kernel
theorem pm1 {n : Nat} (h : n ≤ 5) : nI (2 ^ n) - 1 = nI (2 ^ n - 1) := by
  have := Nat.two_pow_pos n
  rw [show 2 ^ n = 2 ^ n - 1 + 1 by omega, nI_pred, Nat.add_sub_cancel]
theorem c_minor_bad (h : icC σ) {x : Int32} (hx : x < 0 ∨ nI (2 ^ (evC σ).1 - 1) < x) : CtJ Γ mX5_minor 3 [rf Γ 0, .int x] σ (fun r τ => r = lmin (-2) ∧ σ = τ) := by
  have h5 := h.1.1.2.1
  apply ct_X5_minor
  refine ⟨fun q => ⟨_, c_asLong _, ?_⟩, fun q => ⟨_, c_allBits, ?_⟩⟩
  · rintro _ _ ⟨rfl, rfl⟩; exact ⟨rfl, rfl⟩
  · rintro _ _ ⟨rfl, rfl⟩
    rw [h.1.2, shl_j _ (by omega), pm1 h5]
    refine ⟨fun z => ?_, fun z => ⟨_, c_asLong _, ?_⟩⟩
    · rcases hx with y | y
      · exact absurd y q
      · exact absurd y (Int32.not_lt.mpr z)
    · rintro _ _ ⟨rfl, rfl⟩; exact ⟨rfl, rfl⟩
theorem c_minor {k : Nat} (h : icC σ) (hk : k < 2 ^ (evC σ).1) : CtJ Γ mX5_minor 3 [rf Γ 0, .int (nI k)] σ (fun r τ => r = sMinor (vC σ) k ∧ frL σ τ) := by
  have h5 := h.1.1.2.1
  have h32 := pow_32 _ h5
  apply ct_X5_minor
  refine ⟨fun q => absurd q (nI_pos (by omega)), fun _ => ⟨_, c_allBits, ?_⟩⟩
  rintro _ _ ⟨rfl, rfl⟩
  rw [h.1.2, shl_j _ (by omega), pm1 h5]
  refine pk_le k (2 ^ (evC σ).1 - 1) (fun _ => ⟨_, c_buildAsTold h.1, ?_⟩) (fun q => absurd q (by omega))
  rintro τ ⟨hq, hf⟩
  have hC := inC_fr hf hI0 h.1
  have hE := evC_fr hf hI0
  refine ⟨_, c_onS hC, ?_⟩
  rintro _ _ ⟨rfl, rfl⟩
  have ho := onm_lt (evC σ)
  have ha := and_j k (by omega) (onm (evC σ)) (by omega)
  rw [hE, ha.1]
  refine ⟨_, c_minorOf hC (by rw [hE]; omega), ?_⟩
  rintro _ υ ⟨rfl, hf2⟩
  exact ⟨(sq_T h5 hq _ (by omega)).2, hI108 hf hf2⟩
theorem c_still (h : icC σ) : CtI Γ mX5_still 6 [rf Γ 0] σ (fun r τ => r = (sStl (vC σ)).1 ∧ eq5 (τ.1 12) (sStl (vC σ)).2 ∧ frC σ τ) := by
  apply ct_X5_still
  refine ⟨_, c_settle h.1, ?_⟩
  rintro _ τ ⟨rfl, h1, hf⟩
  exact ⟨rfl, h1, toC hf (by simp) (by simp)⟩
theorem c_met (h : icC σ) : CtI Γ mX5_met 3 [rf Γ 0] σ (fun r τ => r = sMet (vC σ) ∧ σ = τ) := by
  apply ct_X5_met
  refine ⟨_, c_contentSet h.1, ?_⟩
  rintro _ _ ⟨rfl, rfl⟩
  exact ⟨rfl, rfl⟩
end PUBC
