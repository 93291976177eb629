/-! PowerShares: least, share, count, digest -/
def dCnt (v : V) : Nat → Int64
  | 0 => 17
  | k + 1 => 31 * dCnt v k + (sCount v (nI k)).toInt64
def dMid (v : V) : Int64 := 31 * (31 * (31 * (31 * (31 * (31 * (31 * (31 * dCnt v 8 + (sFault v).toInt64) + (sFeas v).toInt64) + (sWit v).toInt64) + (nI (sOut v)).toInt64) + (nI (sAdm v)).toInt64) + (sSoft v).toInt64) + (sMarg v).toInt64) + (sMet v).toInt64
def dInf (v : V) (i : Nat) (h : Int64) : Nat → Int64
  | 0 => h
  | k + 1 => 31 * dInf v i h k + (sInfo v i (nI k)).toInt64
def dSnM (v : V) (i : Nat) (h : Int64) : Int64 := 31 * (31 * (31 * (31 * (31 * dInf v i h 8 + sLeast v i 0) + sLeast v i 1) + sShare v i 0) + sShare v i 1) + ((sStl v).2 i).toInt64
def dGn (v : V) (i : Nat) (h : Int64) : Nat → Int64
  | 0 => dSnM v i h
  | j + 1 => 31 * dGn v i h j + (eg v.1 (5 * i + j)).toInt64
def dSn (v : V) : Nat → Int64
  | 0 => dMid v
  | i + 1 => dGn v i (dSn v i) v.1.1
def dMn (v : V) : Nat → Int64
  | 0 => dSn v v.1.1
  | k + 1 => 31 * dMn v k + sMinor v k
def sDig (v : V) : Int64 := dMn v (2 ^ v.1.1)
theorem lmin_ok (x : Int32) : lmin x = (-9223372036854775808 : Int64) - x.toInt64 := rfl
theorem lT {a : Nat} (h : a < 2 ^ 63) : (lN a).toInt.toNat = a := by rw [pk_lT h]; rfl
section DIGC
variable {Γ : GT} {σ : St}
theorem c_least_bad (h : icC σ) {x y : Int32} (hx : noS (evC σ) x ∨ y < 0 ∨ 1 < y) : CtJ Γ mX5_least 3 [rf Γ 0, .int x, .int y] σ (fun r τ => r = lmin (-2) ∧ σ = τ) := by
  apply ct_X5_least
  refine ⟨_, c_isThere h.1 x, ?_⟩
  rintro _ _ ⟨rfl, rfl⟩
  have al : ∃ Q1, CtJ Γ mX5_asLong 0 [.int (-2 : Int32)] σ Q1 ∧ ∀ (r : Int64) (τ : St), Q1 r τ → r = lmin (-2) ∧ σ = τ := ⟨_, c_asLong _, by rintro _ _ ⟨rfl, rfl⟩; exact ⟨rfl, rfl⟩⟩
  by_cases hn : noS (evC σ) x
  · rw [if_pos hn]
    exact ⟨fun _ => al, fun q => absurd rfl q⟩
  · rw [if_neg hn]
    refine ⟨fun q => absurd q (by decide), fun _ => ⟨fun _ => al, fun q => ⟨fun z => ?_, fun _ => al⟩⟩⟩
    rcases hx with y1 | y1 | y1
    · exact absurd y1 hn
    · exact absurd y1 q
    · exact absurd y1 (Int32.not_lt.mpr z)
theorem c_least {i : Nat} (h : icC σ) (hi : i < (evC σ).1) {y : Int32} (h0 : ¬ y < 0) (h1 : y ≤ 1) : CtJ Γ mX5_least 3 [rf Γ 0, .int (nI i), .int y] σ (fun r τ => r = sLeast (vC σ) i y ∧ frL σ τ) := by
  have h5 := h.1.1.2.1
  apply ct_X5_least
  refine ⟨_, c_isThere h.1 _, ?_⟩
  rintro _ _ ⟨rfl, rfl⟩
  rw [if_neg (noS_not h5 hi)]
  refine ⟨fun q => absurd q (by decide), fun _ => ⟨fun q => absurd q h0, fun _ => ⟨fun _ => ⟨_, c_isOn (by omega), ?_⟩, fun q => absurd h1 q⟩⟩⟩
  rintro _ _ ⟨rfl, rfl⟩
  unfold sLeast
  refine ⟨fun ho => ⟨_, c_onS h.1, ?_⟩, fun ho => ⟨_, c_asLong _, ?_⟩⟩
  · rintro _ _ ⟨rfl, rfl⟩
    refine ⟨_, c_buildAsTold h.1, ?_⟩
    rintro τ ⟨hq, hf⟩
    have hC := inC_fr hf hI0 h.1
    have hE := evC_fr hf hI0
    refine ⟨_, c_holdFor hC (by rw [hE]; exact onm_lt _), ?_⟩
    rintro _ υ ⟨rfl, hf2⟩
    have hfu : frL σ υ := hI108 hf hf2
    have hCu := inC_fr hf2 hI10 hC
    have hEu : evC υ = evC σ := (evC_fr hf2 hI10).trans hE
    rw [(sq_T h5 hq _ (onm_lt _)).1]
    have ho1 : eon (evC σ) i = 1 := by
      rcases h.1.1.2.2.1 i with z | z
      · exact absurd z ho
      · exact z
    have ho0 : ¬ eon (vC σ).1 i = 0 := ho
    rw [if_neg ho0]
    by_cases c : feas (enT (evC σ)) (onm (evC σ)) = true
    · have c' : feas (enT (vC σ).1) (onm (vC σ).1) = true := c
      rw [c, if_pos c']
      refine ⟨fun _ => ⟨_, c_minorOf hCu (by rw [hEu]; exact onm_lt _), ?_⟩, fun q => absurd q (by decide)⟩
      rintro _ υ2 ⟨rfl, hf3⟩
      have hC2 := inC_fr hf3 hI10 hCu
      have hE2 : evC υ2 = evC σ := (evC_fr hf3 hI10).trans hEu
      refine ⟨_, c_replaceColumnByNoise hC2 (by omega), ?_⟩
      rintro υ3 ⟨hq3, hf4⟩
      have hC3 := inC_fr hf4 hI0 hC2
      have hE3 : evC υ3 = evC σ := (evC_fr hf4 hI0).trans hE2
      refine ⟨_, c_minorOf hC3 (by rw [hE3]; exact onm_lt _), ?_⟩
      rintro _ υ4 ⟨rfl, hf5⟩
      obtain ⟨a, b, ha, hb0, hb, eA, eB⟩ := ls_ok h.1.1 c hi ho1
      have e1 : mnr (sqC υ) (onm (evC σ)) = lN b := by
        rw [sqC_fr hf2 (by decide), (sq_T h5 hq _ (onm_lt _)).2]; exact eB
      have e2 : mnr (sqC υ3) (onm (evC σ)) = lN a := by
        rw [← eA]
        unfold lsA
        refine mnr_c h5 (onm_lt _) (fun r c hr hc => ?_)
        rw [hq3 r c (by rw [hE2]; exact hr) (by omega), hE2]
        unfold repl
        by_cases z : c = i
        · rw [if_pos z, if_pos z]
        · rw [if_neg z, if_neg z, sqC_fr hf3 (by decide), sqC_fr hf2 (by decide), hq r c hr hc]
          exact bEn_T r c (by omega) (by omega)
      rw [e1, e2]
      refine ⟨_, c_lowestTerm ha hb hb0 y, ?_⟩
      rintro _ _ ⟨rfl, rfl⟩
      refine ⟨?_, ((hfu.tr (hf3.mono (by simp) (by simp))).tr (hf4.mono (by simp) (by simp))).tr (hf5.mono (by simp) (by simp))⟩
      have eA' : lsA (vC σ).1 i = lN a := eA
      have eB' : lsB (vC σ).1 = lN b := eB
      rw [eA', eB', lT ha, lT (by omega)]
    · have c2 : feas (enT (evC σ)) (onm (evC σ)) = false := by simpa using c
      have c' : ¬ feas (enT (vC σ).1) (onm (vC σ).1) = true := c
      rw [c2, if_neg c']
      refine ⟨fun q => absurd rfl q, fun _ => ⟨_, c_asLong _, ?_⟩⟩
      rintro _ _ ⟨rfl, rfl⟩
      exact ⟨rfl, hfu⟩
  · rintro _ _ ⟨rfl, rfl⟩
    have ho' : eon (vC σ).1 i = 0 := ho
    rw [if_pos ho']
    exact ⟨rfl, fr.rf⟩
theorem i2l {k : Nat} (h : k < 2 ^ 31) : (nI k).toInt64 = lN k := nI_l h
theorem c_share_bad (h : icC σ) {x y : Int32} (hx : noS (evC σ) x ∨ y < 0 ∨ 1 < y) : CtJ Γ mX5_share 3 [rf Γ 0, .int x, .int y] σ (fun r τ => r = lmin (-2) ∧ σ = τ) := by
  apply ct_X5_share
  refine ⟨_, c_isThere h.1 x, ?_⟩
  rintro _ _ ⟨rfl, rfl⟩
  have al : ∃ Q1, CtJ Γ mX5_asLong 0 [.int (-2 : Int32)] σ Q1 ∧ ∀ (r : Int64) (τ : St), Q1 r τ → r = lmin (-2) ∧ σ = τ := ⟨_, c_asLong _, by rintro _ _ ⟨rfl, rfl⟩; exact ⟨rfl, rfl⟩⟩
  by_cases hn : noS (evC σ) x
  · rw [if_pos hn]
    exact ⟨fun _ => al, fun q => absurd rfl q⟩
  · rw [if_neg hn]
    refine ⟨fun q => absurd q (by decide), fun _ => ⟨fun _ => al, fun q => ⟨fun z => ?_, fun _ => al⟩⟩⟩
    rcases hx with y1 | y1 | y1
    · exact absurd y1 hn
    · exact absurd y1 q
    · exact absurd y1 (Int32.not_lt.mpr z)
/-- the numbers of a share -/
theorem sh_ok {e : Ev} {p : Nat → Int32} (h : okE e) (hp : okP p) {i : Nat} (hi : i < 5) (h0 : ¬ hb e p i = 0) : ∃ a b : Nat, a < 2 ^ 63 ∧ 0 < b ∧ b < 2 ^ 49 ∧ (eg e (6 * i)).toInt64 * (p i).toInt64 = lN a ∧ (hb e p i).toInt64 = lN b := by
  obtain ⟨k, k1, k2⟩ := hb_n h hp hi
  obtain ⟨g, g0, g1, g2⟩ := h.2.2.2.1 i hi
  obtain ⟨q, q1, q2⟩ := hp i hi
  have := Nat.mul_le_mul g1 q1
  refine ⟨g * q, k, by omega, ?_, by omega, by rw [g2, q2, i2l (by omega), i2l (by omega), lN_mul], by rw [k2, i2l (by omega)]⟩
  rcases Nat.eq_zero_or_pos k with z | z
  · subst z; exact absurd k2 h0
  · exact z
theorem c_share {i : Nat} (h : icC σ) (hi : i < (evC σ).1) {y : Int32} (h0 : ¬ y < 0) (h1 : y ≤ 1) : CtJ Γ mX5_share 3 [rf Γ 0, .int (nI i), .int y] σ (fun r τ => r = sShare (vC σ) i y ∧ σ = τ) := by
  have h5 := h.1.1.2.1
  apply ct_X5_share
  refine ⟨_, c_isThere h.1 _, ?_⟩
  rintro _ _ ⟨rfl, rfl⟩
  rw [if_neg (noS_not h5 hi)]
  have al : ∃ Q1, CtJ Γ mX5_asLong 0 [.int (-3 : Int32)] σ Q1 ∧ ∀ (r : Int64) (τ : St), Q1 r τ → r = lmin (-3) ∧ σ = τ := ⟨_, c_asLong _, by rintro _ _ ⟨rfl, rfl⟩; exact ⟨rfl, rfl⟩⟩
  refine ⟨fun q => absurd q (by decide), fun _ => ⟨fun q => absurd q h0, fun _ => ⟨fun _ => ⟨_, c_othersAndNoise h.1 (by omega) ar_6, ?_⟩, fun q => absurd h1 q⟩⟩⟩
  rintro _ _ ⟨rfl, rfl⟩
  refine ⟨_, c_isOn (by omega), ?_⟩
  rintro _ _ ⟨rfl, rfl⟩
  have esh : sShare (vC σ) i y = if eon (evC σ) i = 0 then lmin (-3) else if hb (evC σ) (σ.1 6) i = 0 then lmin (-3) else part ((eg (evC σ) (6 * i)).toInt64 * (σ.1 6 i).toInt64).toInt.toNat (hb (evC σ) (σ.1 6) i).toInt64.toInt.toNat y := rfl
  rw [esh]
  refine ⟨fun q => ?_, fun q => ⟨fun z => ⟨_, c_gainOf (by omega) (by omega), ?_⟩, fun z => ?_⟩⟩
  · rw [if_pos q]; exact al
  · rintro _ _ ⟨rfl, rfl⟩
    obtain ⟨a, b, ha, hb0, hbl, eA, eB⟩ := sh_ok h.1.1 h.2.1.2.1 (by omega : i < 5) z
    have eA : (eg (evC σ) (6 * i)).toInt64 * (σ.1 6 i).toInt64 = lN a := eA
    have eB : (hb (evC σ) (σ.1 6) i).toInt64 = lN b := eB
    rw [cl (by omega), show 5 * i + i = 6 * i by omega, if_neg q, if_neg z, eA, eB, lT ha, lT (by omega)]
    refine ⟨vin (by omega) (by omega), _, c_lowestTerm ha hbl hb0 y, ?_⟩
    rintro _ _ ⟨rfl, rfl⟩
    exact ⟨rfl, rfl⟩
  · rw [if_neg q, if_pos z]; exact al
theorem sOut_32 {v : V} (h : v.1.1 ≤ 5) : sOut v < 32 := by
  have := lv_le (feas (enT v.1)) (onm v.1) (onm v.1)
  have := onm_32 h
  unfold sOut; omega
theorem sAdm_32 {v : V} (h : v.1.1 ≤ 5) : sAdm v < 32 := Nat.lt_of_lt_of_le (ci_lt _ _ _) (pow_32 _ h)
theorem metN_32 {v : V} (h : v.1.1 ≤ 5) : metN v < 32 := Nat.lt_of_lt_of_le (onmL_lt _ _) (pow_32 _ h)
theorem c_count (h : icC σ) (x : Int32) : CtI Γ mX5_count 6 [rf Γ 0, .int x] σ (fun r τ => r = sCount (vC σ) x ∧ frC σ τ) := by
  have h5 := h.1.1.2.1
  apply ct_X5_count
  refine ⟨fun q => ?_, fun q => ?_, fun q => ?_, fun q => ?_, fun q => ?_, fun q => ?_, fun q => ?_, fun q => ?_, fun q => ?_, fun q0 q1 q2 q3 q4 q5 q6 q7 q8 => ?_⟩
  · subst q; exact ⟨h.1.2, fr.rf⟩
  · subst q
    refine ⟨_, c_onS h.1, ?_⟩
    rintro _ _ ⟨rfl, rfl⟩
    refine ⟨_, c_bitCount (onm_32 h5), ?_⟩
    rintro _ _ ⟨rfl, rfl⟩
    exact ⟨rfl, fr.rf⟩
  · subst q
    refine ⟨_, c_contentSet h.1, ?_⟩
    rintro _ _ ⟨rfl, rfl⟩
    have e : bitsL (hasW (evC σ) (σ.1 6)) (evC σ).1 = nI (metN (vC σ)) := sMet_n (v := vC σ) h5
    rw [e]
    refine ⟨_, c_bitCount (metN_32 (v := vC σ) h5), ?_⟩
    rintro _ _ ⟨rfl, rfl⟩
    exact ⟨rfl, fr.rf⟩
  · subst q
    refine ⟨_, c_sumOfPowers h.1, ?_⟩
    rintro _ _ ⟨rfl, rfl⟩
    exact ⟨rfl, fr.rf⟩
  · subst q
    refine ⟨_, c_out h, ?_⟩
    rintro _ τ ⟨rfl, hf⟩
    refine ⟨_, c_bitCount (sOut_32 (v := vC σ) h5), ?_⟩
    rintro _ _ ⟨rfl, rfl⟩
    exact ⟨rfl, hf.C⟩
  · subst q
    refine ⟨_, c_admitted h, ?_⟩
    rintro _ τ ⟨rfl, hf⟩
    refine ⟨_, c_bitCount (sAdm_32 (v := vC σ) h5), ?_⟩
    rintro _ _ ⟨rfl, rfl⟩
    exact ⟨rfl, hf.C⟩
  · subst q; exact ⟨h.2.2, fr.rf⟩
  · subst q
    refine ⟨_, c_settle h.1, ?_⟩
    rintro _ τ ⟨rfl, -, hf⟩
    exact ⟨rfl, toC hf (by simp) (by simp)⟩
  · subst q; exact ⟨rfl, fr.rf⟩
  · refine ⟨?_, fr.rf⟩
    unfold sCount
    rw [if_neg q0, if_neg q1, if_neg q2, if_neg q3, if_neg q4, if_neg q5, if_neg q6, if_neg q7, if_neg q8]
theorem sInfo_k (v : V) (i k : Nat) (hk : k ≤ 7) : (if nI k < 0 ∨ 7 < nI k then -2 else sInfo v i (nI k)) = sInfo v i (nI k) := by
  rw [if_neg]
  rintro (q | q)
  · exact nI_pos (by omega) q
  · exact nI_nlt hk (by omega) q
/-- the trial row holds REST -/
theorem c_digestSender {i : Nat} (h : icC σ) (hi : i < (evC σ).1) (hr : eq5 (σ.1 12) (sStl (vC σ)).2) (x : Int64) : CtJ Γ mX5_digestSender 4 [rf Γ 0, .long x, .int (nI i)] σ (fun r τ => r = dGn (vC σ) i x (evC σ).1 ∧ frL σ τ) := by
  have h5 := h.1.1.2.1
  apply ct_X5_digestSender
  refine lp_up (P := fun k => G Γ mX5_digestSender _ 6 [(0, rf Γ 0), (3, .int (nI i)), (4, .long (dInf (vC σ) i x k)), (6, .int (nI k))] [] σ) 8 ?_ (fun k hk ih => ?_) 0 (Nat.zero_le _)
  · apply t_X5_digestSender_6
    refine pk_lt 7 8 (fun _ => ⟨_, c_least h hi (by decide) (by decide), ?_⟩) (fun q => absurd q (by omega))
    rintro _ τ1 ⟨rfl, f1⟩
    have i1 := icC_fr f1.C h
    have e1 : vC τ1 = vC σ := vC_fr f1.C
    have n1 : (evC τ1).1 = (evC σ).1 := congrArg (fun v : V => v.1.1) e1
    refine ⟨_, c_least i1 (by rw [n1]; exact hi) (by decide) (by decide), ?_⟩
    rintro _ τ2 ⟨rfl, f2⟩
    have i2 := icC_fr f2.C i1
    have e2 : vC τ2 = vC σ := (vC_fr f2.C).trans e1
    have n2 : (evC τ2).1 = (evC σ).1 := congrArg (fun v : V => v.1.1) e2
    refine ⟨_, c_share i2 (by rw [n2]; exact hi) (by decide) (by decide), ?_⟩
    rintro _ _ ⟨rfl, rfl⟩
    rintro _ rfl
    refine ⟨_, c_share i2 (by rw [n2]; exact hi) (by decide) (by decide), ?_⟩
    rintro _ _ ⟨rfl, rfl⟩
    refine ⟨vin (by omega) (by omega), ?_⟩
    rintro _ rfl
    have f12 : frL σ τ2 := f1.tr f2
    rw [e1, e2, cl (by omega : i < 1000), f12.1 12 (by decide), hr i (by omega)]
    refine lp_up (P := fun j => G Γ mX5_digestSender _ 118 [(0, rf Γ 0), (3, .int (nI i)), (4, .long (dGn (vC σ) i x j)), (6, .int (nI j))] [] τ2) (evC σ).1 ?_ (fun j hj ih => ?_) 0 (Nat.zero_le _)
    · apply t_X5_digestSender_118
      rw [i2.1.2, n2]
      exact pk_le (evC σ).1 (evC σ).1 (fun _ => ⟨rfl, f12⟩) (fun q => absurd q (by omega))
    · apply t_X5_digestSender_118
      rw [i2.1.2, n2]
      refine pk_le (evC σ).1 j (fun q => absurd q (by omega)) (fun _ => ⟨_, c_gainOf (by omega) (by omega), ?_⟩)
      rintro _ _ ⟨rfl, rfl⟩
      have e3 : evC τ2 = evC σ := congrArg (fun v : V => v.1) e2
      rw [nI_1, e3]
      exact ih
  · apply t_X5_digestSender_6
    refine pk_lt 7 k (fun q => absurd q (by omega)) (fun _ => ⟨_, c_info h hi _, ?_⟩)
    rintro _ _ ⟨rfl, rfl⟩
    rw [nI_1, sInfo_k _ _ _ (by omega)]
    exact ih
theorem c_digest (h : icC σ) : CtJ Γ mX5_digest 7 [rf Γ 0] σ (fun r τ => r = sDig (vC σ) ∧ frC σ τ) := by
  have h5 := h.1.1.2.1
  have nn : ∀ {τ : St}, vC τ = vC σ → evC τ = evC σ := fun e => congrArg (fun v : V => v.1) e
  apply ct_X5_digest
  refine lp_up (P := fun k => ∀ τ : St, frC σ τ → G Γ mX5_digest _ 6 [(0, rf Γ 0), (1, .long (dCnt (vC σ) k)), (3, .int (nI k))] [] τ) 7 ?_ (fun k hk ih => ?_) 0 (Nat.zero_le _) σ fr.rf
  · intro τ hf
    have i0 := icC_fr hf h
    have e0 := vC_fr hf
    apply t_X5_digest_6
    refine pk_lt 6 7 (fun _ => ⟨_, c_settle i0.1, ?_⟩) (fun q => absurd q (by omega))
    rintro _ τ1 ⟨rfl, hr, f1⟩
    have f1 : frC τ τ1 := toC f1 (by simp) (by simp)
    have i1 := icC_fr f1 i0
    have e1 : vC τ1 = vC σ := (vC_fr f1).trans e0
    have s0 : (stl (evC τ) 200 0 (τ.1 6)).1 = (sStl (vC σ)).1 := by
      have : sStl (vC τ) = sStl (vC σ) := by rw [e0]
      exact congrArg Prod.fst this
    have hr : eq5 (τ1.1 12) (sStl (vC σ)).2 := by
      have : sStl (vC τ) = sStl (vC σ) := by rw [e0]
      rw [← this]; exact hr
    rw [s0]
    refine ⟨_, c_fault i1, ?_⟩
    rintro _ _ ⟨rfl, rfl⟩
    refine ⟨_, c_feasible i1, ?_⟩
    rintro _ τ2 ⟨rfl, f2⟩
    have i2 := icC_fr f2.C i1
    have e2 : vC τ2 = vC σ := (vC_fr f2.C).trans e1
    rintro _ rfl
    refine ⟨_, c_witness i2, ?_⟩
    rintro _ τ3 ⟨rfl, f3⟩
    have i3 := icC_fr f3.C i2
    have e3 : vC τ3 = vC σ := (vC_fr f3.C).trans e2
    refine ⟨_, c_out i3, ?_⟩
    rintro _ τ4 ⟨rfl, f4⟩
    have i4 := icC_fr f4.C i3
    have e4 : vC τ4 = vC σ := (vC_fr f4.C).trans e3
    refine ⟨_, c_admitted i4, ?_⟩
    rintro _ τ5 ⟨rfl, f5⟩
    have i5 := icC_fr f5.C i4
    have e5 : vC τ5 = vC σ := (vC_fr f5.C).trans e4
    rintro _ rfl
    refine ⟨_, c_softer i5, ?_⟩
    rintro _ τ6 ⟨rfl, f6⟩
    have i6 := icC_fr f6.C i5
    have e6 : vC τ6 = vC σ := (vC_fr f6.C).trans e5
    refine ⟨_, c_margin i6, ?_⟩
    rintro _ τ7 ⟨rfl, f7⟩
    have i7 := icC_fr f7.C i6
    have e7 : vC τ7 = vC σ := (vC_fr f7.C).trans e6
    refine ⟨_, c_met i7, ?_⟩
    rintro _ _ ⟨rfl, rfl⟩
    rintro _ rfl
    rw [e1, e2, e3, e4, e5, e6, e7]
    have f17 : frL τ1 τ7 := ((((f2.tr f3).tr f4).tr f5).tr f6).tr f7
    have fs7 : frC σ τ7 := (hf.tr f1).tr f17.C
    have hr7 : eq5 (τ7.1 12) (sStl (vC σ)).2 := by rw [f17.1 12 (by decide)]; exact hr
    -- the senders
    refine lp_up (P := fun i => ∀ υ : St, frC σ υ → eq5 (υ.1 12) (sStl (vC σ)).2 → G Γ mX5_digest _ 144 [(0, rf Γ 0), (1, .long (dSn (vC σ) i)), (3, .int (nI i))] [] υ) (evC σ).1 ?_ (fun i hi ih => ?_) 0 (Nat.zero_le _) τ7 fs7 hr7
    · intro υ hfu hru
      have iu := icC_fr hfu h
      have eu := vC_fr hfu
      apply t_X5_digest_144
      rw [iu.1.2, nn eu]
      refine pk_le (evC σ).1 (evC σ).1 (fun _ => ?_) (fun q => absurd q (by omega))
      -- the minors
      have p32 := pow_32 _ h5
      refine lp_up (P := fun k => ∀ υ : St, frC σ υ → G Γ mX5_digest _ 170 [(0, rf Γ 0), (1, .long (dMn (vC σ) k)), (3, .int (nI k))] [] υ) (2 ^ (evC σ).1) ?_ (fun k hk ih2 => ?_) 0 (Nat.zero_le _) υ hfu
      · intro υ hfu
        have iu := icC_fr hfu h
        have eu := vC_fr hfu
        apply t_X5_digest_170
        refine ⟨_, c_allBits, ?_⟩
        rintro _ _ ⟨rfl, rfl⟩
        rw [iu.1.2, nn eu, shl_j _ (by omega), pm1 h5]
        have := Nat.two_pow_pos (evC σ).1
        exact pk_lt (2 ^ (evC σ).1 - 1) (2 ^ (evC σ).1) (fun _ => ⟨rfl, hfu⟩) (fun q => absurd q (by omega))
      · intro υ hfu
        have iu := icC_fr hfu h
        have eu := vC_fr hfu
        apply t_X5_digest_170
        refine ⟨_, c_allBits, ?_⟩
        rintro _ _ ⟨rfl, rfl⟩
        rw [iu.1.2, nn eu, shl_j _ (by omega), pm1 h5]
        refine pk_lt (2 ^ (evC σ).1 - 1) k (fun q => absurd q (by omega)) (fun _ => ⟨_, c_minor iu (by rw [nn eu]; exact hk), ?_⟩)
        rintro _ υ2 ⟨rfl, f9⟩
        rw [nI_1, eu]
        exact ih2 υ2 (hfu.tr f9.C)
    · intro υ hfu hru
      have iu := icC_fr hfu h
      have eu := vC_fr hfu
      apply t_X5_digest_144
      rw [iu.1.2, nn eu]
      refine pk_le (evC σ).1 i (fun q => absurd q (by omega)) (fun _ => ⟨_, c_digestSender iu (by rw [nn eu]; exact hi) (by rw [eu]; exact hru) _, ?_⟩)
      rintro _ υ2 ⟨rfl, f9⟩
      rw [nI_1, eu, nn eu]
      exact ih υ2 (hfu.tr f9.C) (by rw [f9.1 12 (by decide)]; exact hru)
  · intro τ hf
    have i0 := icC_fr hf h
    have e0 := vC_fr hf
    apply t_X5_digest_6
    refine pk_lt 6 k (fun q => absurd q (by omega)) (fun _ => ⟨_, c_count i0 _, ?_⟩)
    rintro _ υ ⟨rfl, f9⟩
    rw [nI_1, e0]
    exact ih υ (hf.tr f9)
end DIGC
