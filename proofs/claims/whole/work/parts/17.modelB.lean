/-! the reference: squares, walks -/
section MODELB
variable {Γ : GT} {σ : St}
def laE (σ : St) : Nat → Nat → Int64 := en (evM σ) ((σ.1 25 13).toInt64) (fun i => (σ.1 35 i).toInt64)
def layM (σ : St) (s : Nat) (at_ : Int32) (r c : Nat) : Int64 := if nI c = at_ then (σ.1 35 (mem s r)).toInt64 * (eno (evM σ) (mem s r)).toInt64 else laE σ (mem s r) (mem s c)
theorem m_lays {s : Nat} (hs : s < 32) (at_ : Int32) : CtV Γ mX6_lays 2 [rf Γ 25, .int (nI s), .int at_] σ (fun τ => τ.1 25 14 = nI (pop s) ∧ (∀ k, k < 2 ^ pop s → τ.2 34 k = pd (layM σ s at_) k) ∧ fm [] [33, 34] [14] σ τ) := by
  have hz := pop_le s hs
  apply ct_X6_lays
  refine lp_up (P := fun i => ∀ τ : St, fm [] [33, 34] [14] σ τ → τ.1 25 14 = nI (ln s i) → (∀ r c, r < ln s i → c < pop s → τ.2 33 (5 * r + c) = layM σ s at_ r c) → G Γ mX6_lays _ 7 [(0, rf Γ 25), (1, .int (nI s)), (2, .int at_), (3, .int (nI i))] [] τ) 5 ?_ (fun i hi ih => ?_) 0 (Nat.zero_le _) _ (fm.rf.s25 (by simp)) (by rw [sI_eq, up_eq]; rfl) (fun r c hr => absurd hr (by simp [ln, lstI]))
  · intro τ hf hw hq
    apply t_X6_lays_7
    rw [ln_5 s hs] at hw hq
    refine pk_le 5 5 (fun _ => ⟨_, m_determines hz hw, ?_⟩) (fun q => absurd q (by omega))
    rintro υ ⟨hT, hf2⟩
    refine ⟨(hf2.2 14 (by decide)).trans hw, fun k hk => ?_, hf.tr (hf2.mono (by simp) (by simp) (by simp))⟩
    rw [hT k hk]
    exact pd_c hz (fun r c hr hc => hq r c hr hc) k hk
  · intro τ hf hw hq
    apply t_X6_lays_7
    rw [bit_j s hs i hi, nI_1]
    have hls := ln_s s hs i hi
    refine pk_le 5 i (fun q => absurd q (by omega)) (fun _ => ?_)
    by_cases b : s.testBit i = true
    · rw [if_pos b] at hls
      obtain ⟨hmi, hli⟩ := mem_ln s hs i hi b
      refine ⟨fun q => absurd (by simp [b]) q, fun _ => ?_⟩
      refine lp_up (P := fun j => ∀ υ : St, fm [] [33, 34] [14] σ υ → υ.1 25 14 = nI (ln s i) → (∀ r c, r < ln s i → c < pop s → υ.2 33 (5 * r + c) = layM σ s at_ r c) → (∀ c, c < ln s j → υ.2 33 (5 * ln s i + c) = layM σ s at_ (ln s i) c) → G Γ mX6_lays _ 27 [(0, rf Γ 25), (1, .int (nI s)), (2, .int at_), (3, .int (nI i)), (4, .int (nI (ln s j))), (5, .int (nI j))] [] υ) 5 ?_ (fun j hj ih2 => ?_) 0 (Nat.zero_le _) τ hf hw hq (fun c hc => absurd hc (by simp [ln, lstI]))
      · intro υ hf2 hw2 hq2 hr2
        apply t_X6_lays_27
        rw [hw2, nI_1, nI_1]
        refine pk_le 5 5 (fun _ => ih _ (hf2.s25 (by simp)) (by rw [sI_eq, up_eq, hls]) (fun r c hr hc => ?_)) (fun q => absurd q (by omega))
        rw [hls] at hr
        rcases (show r < ln s i ∨ r = ln s i by omega) with q | rfl
        · exact hq2 r c q hc
        · exact hr2 c (by rw [ln_5 s hs]; exact hc)
      · intro υ hf2 hw2 hq2 hr2
        apply t_X6_lays_27
        rw [bit_j s hs j hj]
        simp only [nI_1]
        have hlj := ln_s s hs j hj
        have hE := evM_fm hf2 (by decide) (by decide)
        refine pk_le 5 j (fun q => absurd q (by omega)) (fun _ => ?_)
        by_cases d : s.testBit j = true
        · rw [if_pos d] at hlj
          obtain ⟨hmj, hlj2⟩ := mem_ln s hs j hj d
          refine ⟨fun q => absurd (by simp [d]) q, fun _ => ?_⟩
          have hst : ∀ y : Int64, y = laE σ i j → G Γ mX6_lays (NV Γ 2 (fun τ => τ.1 25 14 = nI (pop s) ∧ (∀ k, k < 2 ^ pop s → τ.2 34 k = pd (layM σ s at_) k) ∧ fm [] [33, 34] [14] σ τ)) 93 [(0, rf Γ 25), (1, .int (nI s)), (2, .int at_), (3, .int (nI i)), (4, .int (nI (ln s j))), (5, .int (nI j))] [.long y] υ := by
            intro y hy
            apply t_X6_lays_93
            rw [hw2, ix5', cl (by omega : 5 * ln s i + ln s j < 1000), cl (by omega : i < 1000), nI_1, nI_1, hf2.at 35 (by decide), hf2.at 28 (by decide)]
            have fin2 : ∀ w : Int64, w = layM σ s at_ (ln s i) (ln s j) → G Γ mX6_lays (NV Γ 2 (fun τ => τ.1 25 14 = nI (pop s) ∧ (∀ k, k < 2 ^ pop s → τ.2 34 k = pd (layM σ s at_) k) ∧ fm [] [33, 34] [14] σ τ)) 27 [(0, rf Γ 25), (1, .int (nI s)), (2, .int at_), (3, .int (nI i)), (4, .int (nI (ln s j + 1))), (5, .int (nI (j + 1)))] [] (sJ υ 33 (5 * ln s i + ln s j) w) := by
              intro w hw3
              rw [← hlj]
              refine ih2 _ (hf2.sj (by simp)) hw2 (fun r c hr hc => ?_) (fun c hc => ?_)
              · rw [sJ_eq, pk_uLn (by omega)]; exact hq2 r c hr hc
              · rw [sJ_eq]
                rw [hlj] at hc
                by_cases z : c = ln s j
                · subst z; rw [pk_uLs]; exact hw3
                · rw [pk_uLn (by omega)]; exact hr2 c (by omega)
            refine ⟨fun z => ⟨vin (by omega) (by omega), fin2 _ ?_⟩, fun z => ⟨vin hi (by omega), vin hi (by omega), vin (by omega) (by omega), fin2 _ ?_⟩⟩
            · unfold layM; rw [if_neg z, hmi, hmj]; exact hy
            · unfold layM; rw [if_pos z, hmi]; rfl
          rw [ix5', ix6, cl (by omega : 5 * i + j < 1000), cl (by omega : 6 * i < 1000), cl (by omega : i < 1000), hf2.at 35 (by decide), hf2.at 26 (by decide), hf2.2 13 (by decide)]
          refine ⟨fun z => ⟨vin hi (by omega), vin (by omega) (by omega), hst _ ?_⟩, fun z => ⟨vin (by omega) (by omega), hst _ ?_⟩⟩
          · unfold laE en; rw [if_neg (fun q => z (by rw [q]))]; rfl
          · have hij : i = j := (nI_eq (by omega) (by omega)).mp z
            unfold laE en; rw [if_pos hij]; rfl
        · have hlj : ln s (j + 1) = ln s j := by rw [hlj, if_neg d]; rfl
          refine ⟨fun _ => ?_, fun q => absurd q (by simp [d])⟩
          have := ih2 υ hf2 hw2 hq2 (by rw [hlj]; exact hr2)
          rw [hlj] at this; exact this
    · rw [if_neg b, Nat.add_zero] at hls
      refine ⟨fun _ => ?_, fun q => absurd q (by simp [b])⟩
      exact ih τ hf (by rw [hls]; exact hw) (by rw [hls]; exact hq)
theorem layM_m1 {s : Nat} (hs : s < 32) : ∀ r c, r < pop s → c < pop s → layM σ s (-1) r c = subm (laE σ) s r c := by
  intro r c _ hc
  have := pop_le s hs
  unfold layM subm
  rw [if_neg]
  intro q
  have : (nI c) < 0 := by rw [q]; decide
  exact nI_pos (by omega) this
theorem m_isFeasible {s : Nat} (hs : s < 32) : CtI Γ mX6_isFeasible 3 [rf Γ 25, .int (nI s)] σ (fun r τ => r = (if feas (laE σ) s then 1 else 0) ∧ fm [] [33, 34] [14] σ τ) := by
  have hz := pop_le s hs
  apply ct_X6_isFeasible
  refine ⟨_, m_lays hs (-1), ?_⟩
  rintro τ ⟨hw, hT, hf⟩
  have hT : ∀ k, k < 2 ^ pop s → τ.2 34 k = pd (subm (laE σ) s) k := fun k hk => (hT k hk).trans (pd_c hz (layM_m1 hs) k hk)
  refine lp_up (P := fun j => G Γ mX6_isFeasible _ 10 [(0, rf Γ 25), (2, .int (if fsb (pd (subm (laE σ) s)) j then 1 else 0)), (3, .int (nI (j + 1)))] [] τ) (pop s) ?_ (fun j hj ih => ?_) 0 (Nat.zero_le _)
  · apply t_X6_isFeasible_10
    rw [hw]
    refine pk_lt (pop s) (pop s + 1) (fun _ => ⟨?_, rfl, hf⟩) (fun q => absurd q (by omega))
    split
    · exact Or.inr rfl
    · exact Or.inl rfl
  · apply t_X6_isFeasible_10
    rw [hw]
    refine pk_lt (pop s) (j + 1) (fun q => absurd q (by omega)) (fun _ => ?_)
    have p32 := pow_32 (j + 1) (by omega)
    have pp := Nat.two_pow_pos (j + 1)
    have pl : 2 ^ (j + 1) ≤ 2 ^ pop s := Nat.pow_le_pow_right (by omega) (by omega)
    rw [shl_j _ (by omega), show nI (2 ^ (j + 1)) - 1 = nI (2 ^ (j + 1) - 1) from by rw [show 2 ^ (j + 1) = 2 ^ (j + 1) - 1 + 1 by omega, nI_pred, Nat.add_sub_cancel], cl (by omega : 2 ^ (j + 1) - 1 < 1000), hT _ (by omega), nI_1]
    unfold fsb at ih
    by_cases c : fsb (pd (subm (laE σ) s)) j = true
    · rw [c] at ih ⊢
      refine ⟨fun q => absurd q (by decide), fun _ => ⟨vin (by omega) (by omega), fun q => ?_, fun q => ?_⟩⟩
      · have : ¬ 0 < pd (subm (laE σ) s) (2 ^ (j + 1) - 1) := Int64.not_lt.mpr q
        simp only [this, decide_false, Bool.and_false] at ih
        exact ih
      · have : 0 < pd (subm (laE σ) s) (2 ^ (j + 1) - 1) := Int64.not_le.mp q
        simp only [this, decide_true, Bool.and_true] at ih
        exact ih
    · have c3 : fsb (pd (subm (laE σ) s)) j = false := by simpa using c
      rw [c3] at ih ⊢
      exact ⟨fun _ => ih, fun q => absurd rfl q⟩
/-- asked as told -/
def asT (τ : St) : Prop := τ.1 25 13 = 1 ∧ ∀ i, i < 5 → τ.1 35 i = ew (evM τ) i
def enT (e : Ev) : Nat → Nat → Int64 := en e 1 (fun i => (ew e i).toInt64)
theorem laE_T {τ : St} (h : asT τ) : ∀ i j, i < 5 → j < 5 → laE τ i j = enT (evM τ) i j := by
  intro i j hi _
  unfold laE enT en
  dsimp only
  rw [h.1, h.2 i hi]
  rfl
theorem feas_T {τ : St} {s : Nat} (h : asT τ) (hs : s < 32) : feas (laE τ) s = feas (enT (evM τ)) s := feas_c (n := 5) (Nat.le_refl _) hs (laE_T h)
theorem asT_fm {I J K : List Nat} {τ υ : St} (h : asT τ) (hf : fm I J K τ υ) (hI : 26 ∉ I ∧ 27 ∉ I ∧ 28 ∉ I ∧ 29 ∉ I ∧ 30 ∉ I) (hK : 0 ∉ K ∧ 1 ∉ K) (h35 : 35 ∉ I) (h13 : 13 ∉ K) : asT υ := by
  refine ⟨(hf.2 13 h13).trans h.1, fun i hi => ?_⟩
  rw [evM_fm hf hI hK, hf.at 35 ⟨by decide, h35⟩]
  exact h.2 i hi
theorem m_asks : CtV Γ mX6_asksAsTold 0 [rf Γ 25] σ (fun τ => asT τ ∧ fm [35] [] [13] σ τ) := by
  refine Ct.mono m_asksAsTold ?_
  rintro v τ ⟨hv, h1, h2, hf⟩
  refine ⟨hv, ⟨h1, fun i hi => ?_⟩, hf⟩
  rw [evM_fm hf (by decide) (by decide)]
  exact h2 i hi
theorem m_isFeasibleNow (h : inM σ) : CtI Γ mX6_isFeasibleNow 4 [rf Γ 25] σ (fun r τ => r = (if feas (enT (evM σ)) (onm (evM σ)) then 1 else 0) ∧ asT τ ∧ fm [35] [33, 34] [13, 14] σ τ) := by
  apply ct_X6_isFeasibleNow
  refine ⟨_, m_asks, ?_⟩
  rintro τ ⟨ha, hf⟩
  have hM := inM_fm hf (by decide) (by decide) h
  have hE := evM_fm hf (by decide) (by decide)
  refine ⟨_, m_onNow hM, ?_⟩
  rintro _ _ ⟨rfl, rfl⟩
  have h32 : onm (evM τ) < 32 := onm_32 hM.1.2.1
  refine ⟨_, m_isFeasible h32, ?_⟩
  rintro _ υ ⟨rfl, hf2⟩
  rw [feas_T ha h32, hE]
  refine ⟨?_, rfl, asT_fm ha hf2 (by decide) (by decide) (by decide) (by decide), (hf.mono (by simp) (by simp) (by simp)).tr (hf2.mono (by simp) (by simp) (by simp))⟩
  split
  · exact Or.inr rfl
  · exact Or.inl rfl
-- ---- parts of fractions
theorem l_ne0 {b : Nat} (h0 : 0 < b) (hb : b < 2 ^ 63) : ¬ lN b = 0 := fun q => by
  have := (pk_lEQ hb (by decide : 0 < 2 ^ 63)).mp q
  omega
def part (a b : Nat) (what : Int32) : Int64 := if what = 0 then lN a / lN (Nat.gcd a b) else lN b / lN (Nat.gcd a b)
theorem m_partOf {a b : Nat} (ha : a < 2 ^ 63) (hb : b < 2 ^ 63) (h0 : 0 < b) (what : Int32) : CtJ Γ mX6_partOf 0 [.long (lN a), .long (lN b), .int what] σ (fun r τ => r = part a b what ∧ σ = τ) := by
  apply ct_X6_partOf
  have key : ∀ y x, x < 2 ^ 63 → y < 2 ^ 63 → Nat.gcd x y = Nat.gcd a b → G Γ mX6_partOf (NJ Γ 0 (fun r τ => r = part a b what ∧ σ = τ)) 6 [(0, .long (lN a)), (2, .long (lN b)), (4, .int what), (5, .long (lN x)), (7, .long (lN y))] [] σ := by
    intro y
    induction y using Nat.strongRecOn with
    | ind y ih =>
      intro x hx hy hg
      apply t_X6_partOf_6
      rcases Nat.eq_zero_or_pos y with rfl | hy0
      · have hgp : 0 < x := by
          rw [Nat.gcd_zero_right] at hg
          rw [hg]; exact Nat.gcd_pos_of_pos_right _ h0
        rw [Nat.gcd_zero_right] at hg
        refine br_t rfl ⟨fun q => ⟨l_ne0 hgp hx, ?_, rfl⟩, fun q => ⟨l_ne0 hgp hx, ?_, rfl⟩⟩
        · unfold part; rw [if_neg q, hg]
        · unfold part; rw [if_pos q, hg]
      · refine br_f (l_ne0 hy0 hy) ⟨l_ne0 hy0 hy, ?_⟩
        rw [pk_lRem hx hy0 hy]
        have hlt := Nat.mod_lt x hy0
        refine ih _ hlt y hy (by omega) ?_
        rw [← hg, Nat.gcd_comm x y, Nat.gcd_rec y x, Nat.gcd_comm]
  exact key b a ha hb rfl
-- ---- the walk
theorem m_stepped {i : Nat} (h : inM σ) (hi : i < 5) : CtI Γ mX6_stepped 2 [rf Γ 25, .int (nI i)] σ (fun r τ => r = stp (evM σ) (σ.1 36) i ∧ σ = τ) := by
  apply ct_X6_stepped
  refine ⟨_, m_needOf h hi, ?_⟩
  rintro _ _ ⟨rfl, rfl⟩
  rw [cl (by omega)]
  have hv := vin hi (by omega : 5 < 1000)
  unfold stp
  refine ⟨hv, fun q => ⟨hv, ?_, rfl⟩, fun q => ⟨?_, rfl⟩⟩
  · by_cases c : ecap (evM σ) i < nd (evM σ) (σ.1 36) i
    · exact (if_pos c).symm
    · rw [if_neg c]; exact Int32.le_antisymm q (Int32.not_lt.mp c)
  · exact (if_neg (fun c => q (Int32.le_of_lt c))).symm
theorem m_turns (h : inM σ) : CtI Γ mX6_turns 3 [rf Γ 25] σ (fun r τ => r = nI (cnt (evM σ) (σ.1 36) (evM σ).1) ∧ τ.1 36 = fin (evM σ) (σ.1 36) ∧ fm [36, 37] [] [] σ τ) := by
  have h5 := h.1.2.1
  generalize hp : σ.1 36 = p
  generalize he : evM σ = e at h5
  apply ct_X6_turns
  -- the second loop
  have k2 : ∀ j, j ≤ e.1 → ∀ τ : St, fm [36, 37] [] [] σ τ → (∀ k, k < e.1 → τ.1 37 k = nxt e p k) → τ.1 36 = (fun k => if k < j then nxt e p k else rowA e p e.1 k) → ∀ c0 : Nat, c0 + (if erule e = 1 then 0 else cnt e p e.1) = cnt e p e.1 + (if erule e = 1 then 0 else cnt e p j) → G Γ mX6_turns (NI Γ 3 (fun r τ => r = nI (cnt e p e.1) ∧ τ.1 36 = fin e p ∧ fm [36, 37] [] [] σ τ)) 141 [(0, rf Γ 25), (1, .int (nI c0)), (2, .int (nI j))] [] τ := by
    refine lp_up e.1 ?_ ?_
    · intro τ hf hn hr c0 hc
      have hE := evM_fm hf (by decide) (by decide)
      have hM := inM_fm hf (by decide) (by decide) h
      apply t_X6_turns_141
      rw [hM.2, hE, he]
      refine pk_le e.1 e.1 (fun _ => ⟨by rw [show c0 = cnt e p e.1 by omega], ?_, hf⟩) (fun q => absurd q (by omega))
      rw [hr]
      funext k
      unfold fin
      by_cases z : k < e.1
      · rw [if_pos z, if_pos z]
      · rw [if_neg z, if_neg z]; exact rowA_ge (by omega)
    · intro j hj ih τ hf hn hr c0 hc
      have hE := evM_fm hf (by decide) (by decide)
      have hM := inM_fm hf (by decide) (by decide) h
      apply t_X6_turns_141
      rw [hM.2, hE, he]
      have hv : vp_in (nI j) 5 := vin (by omega) (by omega)
      refine pk_le e.1 j (fun q => absurd q (by omega)) (fun _ => ⟨hv, hv, ?_⟩)
      rw [cl (by omega : j < 1000), nI_1, nI_1, Int32.add_zero, hn j hj]
      have h36 : τ.1 36 j = rowA e p e.1 j := by rw [hr]; exact if_neg (by omega)
      have hnew : (sI τ 36 j (nxt e p j)).1 36 = (fun k => if k < j + 1 then nxt e p k else rowA e p e.1 k) := by
        rw [sI_eq, hr]
        funext k
        by_cases z : k = j
        · subst z; rw [up_eq, if_pos (by omega)]
        · rw [up_ne z]
          by_cases y : k < j
          · rw [if_pos y, if_pos (by omega)]
          · rw [if_neg y, if_neg (by omega)]
      have go := ih (sI τ 36 j (nxt e p j)) (hf.si (by simp) (by decide)) (by intro k hk; rw [sI_ne (by decide)]; exact hn k hk) hnew
      rw [h36]
      by_cases hru : erule e = 1
      · have hx : rowA e p e.1 j = nxt e p j := rowA_row hru hj
        rw [if_pos hru, if_pos hru] at hc
        rw [if_pos hru, if_pos hru] at go
        refine ⟨fun q => absurd hx.symm q, fun _ => ⟨hv, hv, go c0 hc⟩⟩
      · have hx : rowA e p e.1 j = p j := by
          clear go hnew h36 hr ih hc
          have : ∀ i, rowA e p i = p := by
            intro i; induction i with
            | zero => rfl
            | succ i ih => rw [rowA, if_neg hru, ih]
          rw [this]
        rw [hx]
        rw [if_neg hru, if_neg hru] at hc
        rw [if_neg hru, if_neg hru, cnt] at go
        refine ⟨fun q => ⟨hv, hv, go (c0 + 1) (by rw [if_neg q]; omega)⟩, fun q => ⟨hv, hv, go c0 (by rw [if_pos q]; omega)⟩⟩
  -- the first loop
  refine lp_up (P := fun j => ∀ τ : St, fm [36, 37] [] [] σ τ → (∀ k, k < j → τ.1 37 k = nxt e p k) → τ.1 36 = rowA e p j → G Γ mX6_turns (NI Γ 3 (fun r τ => r = nI (cnt e p e.1) ∧ τ.1 36 = fin e p ∧ fm [36, 37] [] [] σ τ)) 4 [(0, rf Γ 25), (1, .int (nI (if erule e = 1 then cnt e p j else 0))), (2, .int (nI j))] [] τ) e.1 ?_ (fun j hj ih => ?_) 0 (Nat.zero_le _) σ fm.rf (fun k hk => absurd hk (by omega)) hp |> fun q => by simpa [cnt, nI_0] using q
  · intro τ hf hn hr
    have hE := evM_fm hf (by decide) (by decide)
    have hM := inM_fm hf (by decide) (by decide) h
    apply t_X6_turns_4
    rw [hM.2, hE, he]
    refine pk_le e.1 e.1 (fun _ => k2 0 (Nat.zero_le _) τ hf hn (by rw [hr]; funext k; exact (if_neg (by omega)).symm) _ ?_) (fun q => absurd q (by omega))
    by_cases hru : erule e = 1
    · simp [hru]
    · simp [hru, cnt]
  · intro τ hf hn hr
    have hE := evM_fm hf (by decide) (by decide)
    have hM := inM_fm hf (by decide) (by decide) h
    have hv : vp_in (nI j) 5 := vin (by omega) (by omega)
    have ho : τ.1 30 j = eon e j := by
      rw [← he, ← hE]; show _ = onM τ j; unfold onM; rw [if_pos (by omega)]
    have hru : τ.1 25 1 = erule e := by rw [← he, ← hE]; rfl
    -- behind the value of behind[j]
    have k89 : ∀ υ : St, fm [36, 37] [] [] σ υ → (∀ k, k < j → υ.1 37 k = nxt e p k) → υ.1 36 = rowA e p j → υ.1 25 1 = erule e → G Γ mX6_turns (NI Γ 3 (fun r τ => r = nI (cnt e p e.1) ∧ τ.1 36 = fin e p ∧ fm [36, 37] [] [] σ τ)) 89 [(0, rf Γ 25), (1, .int (nI (if erule e = 1 then cnt e p j else 0))), (2, .int (nI j))] [.int (nxt e p j), .int (nI j), rf Γ 37] υ := by
      intro υ hf2 hn2 hr2 hu
      apply t_X6_turns_89
      rw [cl (by omega : j < 1000), sI_eq, up_eq, sI_ne (by decide : (25 : Nat) ≠ 37), sI_ne (by decide : (36 : Nat) ≠ 37), hu, hr2, nI_1, nI_1, Int32.add_zero, rowA_ge (Nat.le_refl j)]
      have hn3 : ∀ k, k < j + 1 → (upd (υ.1 37) j (nxt e p j)) k = nxt e p k := by
        intro k hk
        by_cases z : k = j
        · subst z; rw [up_eq]
        · rw [up_ne z]; exact hn2 k (by omega)
      have hf3 : fm [36, 37] [] [] σ (sI υ 37 j (nxt e p j)) := hf2.si (by simp) (by decide)
      refine ⟨hv, fun q => ?_, fun q => ⟨hv, hv, fun z => ⟨hv, hv, ?_⟩, fun z => ⟨hv, hv, ?_⟩⟩⟩
      · have := ih (sI υ 37 j (nxt e p j)) hf3 (by rw [sI_eq]; exact hn3) (by rw [sI_ne (by decide), hr2, rowA, if_neg q])
        rw [if_neg q] at this ⊢
        exact this
      · have := ih (sI (sI υ 37 j (nxt e p j)) 36 j (nxt e p j)) (hf3.si (by simp) (by decide)) (by rw [sI_ne (by decide), sI_eq]; exact hn3) (by rw [sI_eq, sI_ne (by decide), hr2, rowA, if_pos q]; rfl)
        rw [if_pos q, cnt, if_neg z] at this
        rw [if_pos q]
        exact this
      · have := ih (sI (sI υ 37 j (nxt e p j)) 36 j (nxt e p j)) (hf3.si (by simp) (by decide)) (by rw [sI_ne (by decide), sI_eq]; exact hn3) (by rw [sI_eq, sI_ne (by decide), hr2, rowA, if_pos q]; rfl)
        rw [if_pos q, cnt, if_pos z, Nat.add_zero] at this
        rw [if_pos q]
        exact this
    have hup : ∀ y : Int32, (∀ k, k < j → (sI τ 37 j y).1 37 k = nxt e p k) := by
      intro y k hk; rw [sI_eq, up_ne (by omega)]; exact hn k hk
    apply t_X6_turns_4
    rw [hM.2, hE, he, cl (by omega : j < 1000), ho]
    refine pk_le e.1 j (fun q => absurd q (by omega)) (fun _ => ⟨hv, fun q => ⟨hv, ?_⟩, fun q => ⟨_, m_stepped hM (by omega), ?_⟩⟩)
    · apply t_X6_turns_40
      rw [cl (by omega : j < 1000), sI_ne (by decide : (30 : Nat) ≠ 37), ho]
      refine ⟨hv, hv, fun _ => ⟨hv, ?_⟩, fun z => absurd q z⟩
      have hx : nxt e p j = τ.1 36 j := by unfold nxt gol; rw [if_pos q, hr]
      rw [sI_eq, up_eq, ← hx]
      exact k89 _ (hf.si (by simp) (by decide)) (hup _) (by rw [sI_ne (by decide)]; exact hr) (by rw [sI_ne (by decide)]; exact hru)
    · rintro _ _ ⟨rfl, rfl⟩
      apply t_X6_turns_40
      rw [cl (by omega : j < 1000), sI_ne (by decide : (30 : Nat) ≠ 37), ho, sI_ne (by decide : (25 : Nat) ≠ 37), hru, sI_eq, up_eq, sI_ne (by decide : (36 : Nat) ≠ 37), hE, he, hr]
      refine ⟨hv, hv, fun z => absurd z q, fun _ => ⟨fun z => ⟨hv, ?_⟩, fun z => ⟨hv, hv, by decide, ?_⟩⟩⟩
      · have hx : nxt e p j = stp e (rowA e p j) j := by unfold nxt gol; rw [if_neg q, if_neg z]
        rw [← hx]
        exact k89 _ (hf.si (by simp) (by decide)) (hup _) (by rw [sI_ne (by decide)]; exact hr) (by rw [sI_ne (by decide)]; exact hru)
      · have hx : nxt e p j = (rowA e p j j + stp e (rowA e p j) j + 1) / 2 := by unfold nxt gol; rw [if_neg q, if_pos z]
        rw [← hx]
        exact k89 _ (hf.si (by simp) (by decide)) (hup _) (by rw [sI_ne (by decide)]; exact hr) (by rw [sI_ne (by decide)]; exact hru)
end MODELB
