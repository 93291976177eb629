/-! the reference: softer, margin, least, share, count, digest -/
theorem ln_pop : ∀ s, s < 32 → ∀ i, i < 5 → nI s &&& (nI (2 ^ i) - 1) = nI (s % 2 ^ i) ∧ pop (s % 2 ^ i) = ln s i := by decide +kernel
theorem mem_inj : ∀ s, s < 32 → ∀ i, i < 5 → s.testBit i = true → ∀ c, c < pop s → (c = ln s i ↔ mem s c = i) := by decide +kernel
section MODELD
variable {Γ : GT} {σ : St}
theorem nI_dec (m : Nat) : nI m + (-1 : Int32) = nI m - 1 := (Int32.sub_eq_add_neg _ _).symm
theorem m_softer (h : icM σ) : CtI Γ mX6_softer 5 [rf Γ 25] σ (fun r τ => r = sSoft (vM σ) ∧ fmC σ τ) := by
  have h5 := h.1.1.2.1
  have h32 := onm_32 h5
  have h1 := h.1.1.1
  apply ct_X6_softer
  refine ⟨_, m_isFeasibleNow h.1, ?_⟩
  rintro _ τ0 ⟨rfl, ha0, hf0⟩
  have hf0C : fmC σ τ0 := toM hf0 (by simp) (by simp) (by simp)
  have hdef : sSoft (vM σ) = if feas (enT (evM σ)) (onm (evM σ)) then -1 else fnd (fun i => (onm (evM σ)).testBit i && feas (enS (evM σ) i) (onm (evM σ))) (evM σ).1 0 := rfl
  rw [hdef]
  by_cases c : feas (enT (evM σ)) (onm (evM σ)) = true
  · rw [c]
    exact ⟨fun q => absurd q (by decide), fun _ => ⟨rfl, hf0C⟩⟩
  · have c2 : feas (enT (evM σ)) (onm (evM σ)) = false := by simpa using c
    rw [c2]
    refine ⟨fun _ => ?_, fun q => absurd rfl q⟩
    generalize hP : (fun i => (onm (evM σ)).testBit i && feas (enS (evM σ) i) (onm (evM σ))) = P
    have im : ∀ {τ : St}, fmC σ τ → inM τ ∧ evM τ = evM σ := fun hf => ⟨inM_fm hf hIM (by decide) h.1, evM_fm hf hIM (by decide)⟩
    rw [(im hf0C).1.2, (im hf0C).2]
    have key : ∀ m, m ≤ (evM σ).1 → ∀ τ : St, fmC σ τ → G Γ mX6_softer (NI Γ 5 (fun r τ => r = (if false = true then -1 else fnd P (evM σ).1 0) ∧ fmC σ τ)) 18 [(0, rf Γ 25), (1, .int (fnd P ((evM σ).1 - m) m)), (2, .int (nI m - 1))] [] τ := by
      intro m
      induction m with
      | zero =>
        intro _ τ hf
        apply t_X6_softer_18
        exact br_t (by decide) ⟨rfl, hf⟩
      | succ m ih =>
        intro hm τ hf
        have ih := ih (by omega)
        rw [show (evM σ).1 - m = (evM σ).1 - (m + 1) + 1 by omega, fnd] at ih
        apply t_X6_softer_18
        rw [nI_pred]
        refine br_f (nI_pos (by omega)) ⟨_, m_asks, ?_⟩
        rintro τ1 ⟨ha1, hf1⟩
        have hf1C : fmC σ τ1 := hf.tr (toM hf1 (by simp) (by simp) (by simp))
        have hv : vp_in (nI m) 5 := vin (by omega) (by omega)
        rw [cl (by omega : m < 1000)]
        obtain ⟨w, w0, w1, w2⟩ := h.1.1.2.2.2.2.2.1 m (by omega)
        have w2 : τ1.1 27 m = nI w := by rw [hf1C.at 27 (by decide)]; exact w2
        have w3 : τ1.1 35 m = nI w := by rw [ha1.2 m (by omega), (im hf1C).2]; exact (by rw [hf1C.at 27 (by decide)] at w2; exact w2)
        -- behind the subtraction
        have body : ∀ d : Nat, (d = 0 ∧ w = 1) ∨ (d = 1 ∧ 1 < w) → G Γ mX6_softer (NI Γ 5 (fun r τ => r = (if false = true then -1 else fnd P (evM σ).1 0) ∧ fmC σ τ)) 48 [(0, rf Γ 25), (1, .int (fnd P ((evM σ).1 - (m + 1)) (m + 1))), (2, .int (nI m))] [.int (nI d), .int (nI w), .int (nI m), rf Γ 35] τ1 := by
          intro d hd
          apply t_X6_softer_48
          rw [cl (by omega : m < 1000), pk_sub (by omega : d ≤ w), sI_ne (by decide : (30 : Nat) ≠ 35), onM_at (by omega), (im hf1C).2, nI_dec]
          have hf2C : fmC σ (sI τ1 35 m (nI (w - d))) := hf1C.si (by simp) (by decide)
          refine ⟨hv, hv, fun q => ?_, fun q => ⟨_, m_onNow (im hf2C).1, ?_⟩⟩
          · have : P m = false := by
              rw [← hP]
              show ((onm (evM σ)).testBit m && _) = false
              have : (onm (evM σ)).testBit m = decide (eon (evM σ) m = 1) := onmL_tb (by omega)
              rw [this, q]; rfl
            rw [this] at ih
            exact ih _ hf2C
          · rintro _ _ ⟨rfl, rfl⟩
            rw [(im hf2C).2]
            refine ⟨_, m_isFeasible h32, ?_⟩
            rintro _ υ ⟨rfl, hf3⟩
            have hf3C : fmC σ υ := hf2C.tr (toM hf3 (by simp) (by simp) (by simp))
            have e1 : feas (laE (sI τ1 35 m (nI (w - d)))) (onm (evM σ)) = feas (enS (evM σ) m) (onm (evM σ)) := by
              refine feas_c (n := 5) (Nat.le_refl _) h32 (fun i j hi hj => ?_)
              unfold laE enS en
              dsimp only
              rw [(im hf2C).2, sI_ne (by decide : (25 : Nat) ≠ 35), ha1.1, sI_eq]
              have : (upd (τ1.1 35) m (nI (w - d)) i) = wz (evM σ) (nI m) i := by
                unfold wz
                by_cases z : i = m
                · subst z
                  rw [up_eq, if_pos rfl]
                  have w4 : ew (evM σ) i = nI w := by rw [hf1C.at 27 (by decide)] at w2; exact w2
                  rw [w4, show nI w - 1 = nI (w - 1) by rw [show w = w - 1 + 1 by omega, nI_pred, Nat.add_sub_cancel]]
                  rcases hd with hd | hd
                  · rw [hd.1, hd.2]; rfl
                  · rw [hd.1]; exact (if_neg (nI_nlt (a := w - 1) (b := 1) (by omega) (by omega))).symm
                · rw [up_ne z, if_neg (fun y => z ((nI_eq (by omega) (by omega)).mp y)), ha1.2 i hi, (im hf1C).2]
              rw [this]; rfl
            rw [e1]
            have hPm : P m = feas (enS (evM σ) m) (onm (evM σ)) := by
              rw [← hP]
              show ((onm (evM σ)).testBit m && _) = _
              have : (onm (evM σ)).testBit m = decide (eon (evM σ) m = 1) := onmL_tb (by omega)
              have q1 : eon (evM σ) m = 1 := by rcases h.1.1.2.2.1 m with y | y; exact absurd y q; exact y
              rw [this, q1]; rfl
            rw [← hPm]
            by_cases g : P m = true
            · rw [g] at ih ⊢
              exact ⟨fun y => absurd y (by decide), fun _ => ih υ hf3C⟩
            · have g2 : P m = false := by simpa using g
              rw [g2] at ih ⊢
              exact ⟨fun _ => ih υ hf3C, fun y => absurd rfl y⟩
        rw [w2, w3]
        refine ⟨hv, hv, pk_le w 1 (fun q => ?_) (fun q => ?_)⟩
        · exact body 0 (Or.inl ⟨rfl, by omega⟩)
        · exact body 1 (Or.inr ⟨rfl, q⟩)
    have := key (evM σ).1 (Nat.le_refl _) τ0 hf0C
    rw [Nat.sub_self] at this
    exact this
theorem m_margin (h : icM σ) : CtI Γ mX6_margin 4 [rf Γ 25] σ (fun r τ => r = sMarg (vM σ) ∧ fmC σ τ) := by
  have h5 := h.1.1.2.1
  have h32 := onm_32 h5
  have im : ∀ {τ : St}, fmC σ τ → inM τ ∧ evM τ = evM σ := fun hf => ⟨inM_fm hf hIM (by decide) h.1, evM_fm hf hIM (by decide)⟩
  apply ct_X6_margin
  have hdef : sMarg (vM σ) = mg (fun t => feas (enQ (evM σ) t) (onm (evM σ))) 8 := rfl
  rw [hdef]
  generalize hP : (fun t => feas (enQ (evM σ) t) (onm (evM σ))) = P
  obtain ⟨W, hW⟩ : ∃ W, W = mg P 8 := ⟨_, rfl⟩
  rw [← hW]
  refine lp_up (P := fun t => ∀ τ : St, fmC σ τ → G Γ mX6_margin _ 4 [(0, rf Γ 25), (1, .int (mg P t)), (2, .int (nI (t + 1)))] [] τ) 8 ?_ (fun t ht ih => ?_) 0 (Nat.zero_le _) σ fm.rf
  · intro τ hf
    apply t_X6_margin_4
    exact pk_lt 8 9 (fun _ => ⟨hW.symm, hf⟩) (fun q => absurd q (by omega))
  · intro τ hf
    apply t_X6_margin_4
    refine pk_lt 8 (t + 1) (fun q => absurd q (by omega)) (fun _ => ?_)
    refine lp_up (P := fun j => ∀ υ : St, fmC σ υ → υ.1 25 13 = 4 → (∀ k, k < j → υ.1 35 k = ew (evM σ) k * nI (t + 1)) → G Γ mX6_margin _ 17 [(0, rf Γ 25), (1, .int (mg P t)), (2, .int (nI (t + 1))), (3, .int (nI j))] [] υ) 5 ?_ (fun j hj ih2 => ?_) 0 (Nat.zero_le _) _ (hf.s25 (by simp)) (by rw [sI_eq, up_eq]) (fun k hk => absurd hk (by omega))
    · intro υ hfu h13 h35
      apply t_X6_margin_17
      refine pk_le 5 5 (fun _ => ⟨_, m_onNow (im hfu).1, ?_⟩) (fun q => absurd q (by omega))
      rintro _ _ ⟨rfl, rfl⟩
      rw [(im hfu).2]
      refine ⟨_, m_isFeasible h32, ?_⟩
      rintro _ ω ⟨rfl, hf3⟩
      have hf3C : fmC σ ω := hfu.tr (toM hf3 (by simp) (by simp) (by simp))
      have e1 : feas (laE υ) (onm (evM σ)) = P (t + 1) := by
        rw [← hP]
        refine feas_c (n := 5) (Nat.le_refl _) h32 (fun i j hi hj => ?_)
        unfold laE enQ en
        dsimp only
        rw [(im hfu).2, h13, h35 i hi]
        rfl
      rw [e1, nI_1]
      rw [mg] at ih
      by_cases g : P (t + 1) = true
      · rw [g] at ih ⊢
        exact ⟨fun y => absurd y (by decide), fun _ => ih ω hf3C⟩
      · have g2 : P (t + 1) = false := by simpa using g
        rw [g2] at ih ⊢
        exact ⟨fun _ => ih ω hf3C, fun y => absurd rfl y⟩
    · intro υ hfu h13 h35
      apply t_X6_margin_17
      refine pk_le 5 j (fun q => absurd q (by omega)) (fun _ => ⟨vin hj (by omega), vin hj (by omega), ?_⟩)
      rw [cl (by omega : j < 1000), nI_1]
      refine ih2 _ (hfu.si (by simp) (by decide)) (by rw [sI_ne (by decide)]; exact h13) (fun k hk => ?_)
      rw [sI_eq]
      by_cases c : k = j
      · subst c; rw [up_eq, hfu.at 27 (by decide)]; rfl
      · rw [up_ne c]; exact h35 k (by omega)
theorem m_leastOf {i : Nat} (h : icM σ) (ha : asT σ) (hi : i < (evM σ).1) (ho : eon (evM σ) i = 1) (hfe : feas (enT (evM σ)) (onm (evM σ)) = true) (y : Int32) : CtJ Γ mX6_leastOf 3 [rf Γ 25, .int (nI i), .int y] σ (fun r τ => r = part (lsA (evM σ) i).toInt.toNat (lsB (evM σ)).toInt.toNat y ∧ fmC σ τ) := by
  have h5 := h.1.1.2.1
  have h32 := onm_32 h5
  obtain ⟨a, b, hal, hb0, hbl, eA, eB⟩ := ls_ok h.1.1 hfe hi ho
  have htb : (onm (evM σ)).testBit i = true := by
    have : (onm (evM σ)).testBit i = decide (eon (evM σ) i = 1) := onmL_tb hi
    rw [this, ho]; rfl
  rw [eA, eB, lT hal, lT (by omega)]
  apply ct_X6_leastOf
  refine ⟨_, m_onNow h.1, ?_⟩
  rintro _ _ ⟨rfl, rfl⟩
  unfold lsA at eA
  unfold lsB at eB
  generalize hs : onm (evM σ) = s at *
  have hz := pop_le s h32
  have p32 := pow_32 _ hz
  have pp := Nat.two_pow_pos (pop s)
  have hlp := ln_pop s h32 i (by omega)
  rw [shl_j i (by omega), hlp.1]
  refine ⟨_, m_bitsOf (Nat.lt_of_le_of_lt (Nat.mod_le _ _) h32), ?_⟩
  rintro _ _ ⟨rfl, rfl⟩
  rw [hlp.2]
  refine ⟨_, m_lays h32 (-1), ?_⟩
  rintro τ1 ⟨hw1, hT1, hf1⟩
  have ha1 := asT_fm ha hf1 (by decide) (by decide) (by decide) (by decide)
  have hE1 := evM_fm hf1 (by decide) (by decide)
  rw [hw1, shl_j _ (by omega), pm1 hz, cl (by omega), hT1 _ (by omega)]
  refine ⟨vin (by omega) (by omega), ?_⟩
  rintro _ rfl
  refine ⟨_, m_lays h32 (nI (ln s i)), ?_⟩
  rintro τ2 ⟨hw2, hT2, hf2⟩
  rw [hw2, shl_j _ (by omega), pm1 hz, cl (by omega), hT2 _ (by omega)]
  refine ⟨vin (by omega) (by omega), ?_⟩
  have e1 : pd (layM σ s (-1)) (2 ^ pop s - 1) = lN b := by
    rw [pd_c hz (layM_m1 h32) _ (by omega), ← eB]
    exact mnr_c (n := 5) (Nat.le_refl _) h32 (laE_T ha)
  have e2 : pd (layM τ1 s (nI (ln s i))) (2 ^ pop s - 1) = lN a := by
    rw [← eA]
    refine pd_c hz (fun r c hr hc => ?_) _ (by omega)
    have hmr : mem s r < 5 := mem_lt 5 (Nat.le_refl _) s h32 r hr
    have hmc : mem s c < 5 := mem_lt 5 (Nat.le_refl _) s h32 c hc
    have hli : ln s i < pop s := (mem_ln s h32 i (by omega) htb).2
    have hin := mem_inj s h32 i (by omega) htb c hc
    unfold layM subm repl
    by_cases z : c = ln s i
    · rw [if_pos (by rw [z]), if_pos (hin.mp z), ha1.2 _ hmr, hE1]
    · rw [if_neg (fun q => z ((nI_eq (by omega) (by omega)).mp q)), if_neg (fun q => z (hin.mpr q)), laE_T ha1 _ _ hmr hmc, hE1]
  rw [e1, e2]
  refine ⟨_, m_partOf hal (by omega) hb0 y, ?_⟩
  rintro _ _ ⟨rfl, rfl⟩
  exact ⟨rfl, (toM hf1 (by simp) (by simp) (by simp)).tr (toM hf2 (by simp) (by simp) (by simp))⟩
theorem okI01 {y : Int32} (h0 : ¬ y < 0) (h1 : y ≤ 1) : okI y 0 1 = 1 := by
  unfold okI; rw [if_neg]; rintro (q | q)
  · exact h0 q
  · exact absurd q (Int32.not_lt.mpr h1)
theorem m_least_bad (h : icM σ) {x y : Int32} (hx : noS (evM σ) x ∨ y < 0 ∨ 1 < y) : CtJ Γ mX6_least 5 [rf Γ 25, .int x, .int y] σ (fun r τ => r = lmin (-2) ∧ σ = τ) := by
  apply ct_X6_least
  refine ⟨_, m_isSender h.1 x, ?_⟩
  rintro _ _ ⟨rfl, rfl⟩
  have al : ∃ Q1, CtJ Γ mX6_no 0 [.int (-2 : Int32)] σ Q1 ∧ ∀ (r : Int64) (τ : St), Q1 r τ → r = lmin (-2) ∧ σ = τ := ⟨_, m_no _, by rintro _ _ ⟨rfl, rfl⟩; exact ⟨rfl, rfl⟩⟩
  by_cases hn : noS (evM σ) x
  · rw [if_pos hn]
    exact ⟨fun _ => al, fun q => absurd rfl q⟩
  · rw [if_neg hn]
    refine ⟨fun q => absurd q (by decide), fun _ => ⟨_, m_in _ _ _, ?_⟩⟩
    rintro _ _ ⟨rfl, rfl⟩
    unfold okI
    rw [if_pos (by rcases hx with z | z | z; exact absurd z hn; exact Or.inl z; exact Or.inr z)]
    exact ⟨fun q => absurd rfl q, fun _ => al⟩
theorem m_least {i : Nat} (h : icM σ) (hi : i < (evM σ).1) {y : Int32} (h0 : ¬ y < 0) (h1 : y ≤ 1) : CtJ Γ mX6_least 5 [rf Γ 25, .int (nI i), .int y] σ (fun r τ => r = sLeast (vM σ) i y ∧ fmC σ τ) := by
  have h5 := h.1.1.2.1
  apply ct_X6_least
  refine ⟨_, m_isSender h.1 _, ?_⟩
  rintro _ _ ⟨rfl, rfl⟩
  rw [if_neg (noS_not h5 hi)]
  refine ⟨fun q => absurd q (by decide), fun _ => ⟨_, m_in _ _ _, ?_⟩⟩
  rintro _ _ ⟨rfl, rfl⟩
  rw [okI01 h0 h1, cl (by omega), onM_at (by omega)]
  have hdef : sLeast (vM σ) i y = if eon (evM σ) i = 0 then lmin (-3) else if feas (enT (evM σ)) (onm (evM σ)) then part (lsA (evM σ) i).toInt.toNat (lsB (evM σ)).toInt.toNat y else lmin (-3) := rfl
  rw [hdef]
  refine ⟨fun _ => ⟨vin (by omega) (by omega), fun q => ⟨_, m_no _, ?_⟩, fun q => ⟨_, m_isFeasibleNow h.1, ?_⟩⟩, fun q => absurd q (by decide)⟩
  · rintro _ _ ⟨rfl, rfl⟩
    rw [if_pos q]; exact ⟨rfl, fm.rf⟩
  · rintro _ τ ⟨rfl, ha, hf⟩
    have hfC : fmC σ τ := toM hf (by simp) (by simp) (by simp)
    have hE := evM_fm hf (by decide) (by decide)
    rw [if_neg q]
    by_cases c : feas (enT (evM σ)) (onm (evM σ)) = true
    · have q1 : eon (evM σ) i = 1 := by rcases h.1.1.2.2.1 i with z | z; exact absurd z q; exact z
      rw [c]
      refine ⟨fun z => absurd z (by decide), fun _ => ⟨_, m_leastOf (icM_fm hfC h) ha (by rw [hE]; exact hi) (by rw [hE]; exact q1) (by rw [hE]; exact c) y, ?_⟩⟩
      rintro _ υ ⟨rfl, hf2⟩
      rw [hE]
      exact ⟨rfl, hfC.tr hf2⟩
    · have c2 : feas (enT (evM σ)) (onm (evM σ)) = false := by simpa using c
      rw [c2]
      refine ⟨fun _ => ⟨_, m_no _, ?_⟩, fun z => absurd rfl z⟩
      rintro _ _ ⟨rfl, rfl⟩
      exact ⟨rfl, hfC⟩
theorem m_share_bad (h : icM σ) {x y : Int32} (hx : noS (evM σ) x ∨ y < 0 ∨ 1 < y) : CtJ Γ mX6_share 2 [rf Γ 25, .int x, .int y] σ (fun r τ => r = lmin (-2) ∧ σ = τ) := by
  apply ct_X6_share
  refine ⟨_, m_isSender h.1 x, ?_⟩
  rintro _ _ ⟨rfl, rfl⟩
  have al : ∃ Q1, CtJ Γ mX6_no 0 [.int (-2 : Int32)] σ Q1 ∧ ∀ (r : Int64) (τ : St), Q1 r τ → r = lmin (-2) ∧ σ = τ := ⟨_, m_no _, by rintro _ _ ⟨rfl, rfl⟩; exact ⟨rfl, rfl⟩⟩
  by_cases hn : noS (evM σ) x
  · rw [if_pos hn]
    exact ⟨fun _ => al, fun q => absurd rfl q⟩
  · rw [if_neg hn]
    refine ⟨fun q => absurd q (by decide), fun _ => ⟨_, m_in _ _ _, ?_⟩⟩
    rintro _ _ ⟨rfl, rfl⟩
    unfold okI
    rw [if_pos (by rcases hx with z | z | z; exact absurd z hn; exact Or.inl z; exact Or.inr z)]
    exact ⟨fun q => absurd rfl q, fun _ => al⟩
theorem m_share {i : Nat} (h : icM σ) (hi : i < (evM σ).1) {y : Int32} (h0 : ¬ y < 0) (h1 : y ≤ 1) : CtJ Γ mX6_share 2 [rf Γ 25, .int (nI i), .int y] σ (fun r τ => r = sShare (vM σ) i y ∧ fmC σ τ) := by
  have h5 := h.1.1.2.1
  apply ct_X6_share
  refine ⟨_, m_isSender h.1 _, ?_⟩
  rintro _ _ ⟨rfl, rfl⟩
  rw [if_neg (noS_not h5 hi)]
  refine ⟨fun q => absurd q (by decide), fun _ => ⟨_, m_in _ _ _, ?_⟩⟩
  rintro _ _ ⟨rfl, rfl⟩
  rw [okI01 h0 h1, cl (by omega), onM_at (by omega)]
  have hdef : sShare (vM σ) i y = if eon (evM σ) i = 0 then lmin (-3) else if hb (evM σ) (σ.1 31) i = 0 then lmin (-3) else part ((eg (evM σ) (6 * i)).toInt64 * (σ.1 31 i).toInt64).toInt.toNat (hb (evM σ) (σ.1 31) i).toInt64.toInt.toNat y := rfl
  rw [hdef]
  refine ⟨fun _ => ⟨vin (by omega) (by omega), fun q => ⟨_, m_no _, ?_⟩, fun q => ?_⟩, fun q => absurd q (by decide)⟩
  · rintro _ _ ⟨rfl, rfl⟩
    rw [if_pos q]; exact ⟨rfl, fm.rf⟩
  · rw [if_neg q]
    have inner : CtJ Γ mX6_shareOf 1 [rf Γ 25, .int (nI i), .int y] σ (fun r τ => r = (if hb (evM σ) (σ.1 31) i = 0 then lmin (-3) else part ((eg (evM σ) (6 * i)).toInt64 * (σ.1 31 i).toInt64).toInt.toNat (hb (evM σ) (σ.1 31) i).toInt64.toInt.toNat y) ∧ fmC σ τ) := by
      apply ct_X6_shareOf
      refine ⟨_, m_triesNow, ?_⟩
      rintro τ ⟨he, hf⟩
      have hM := inM_fm hf (by decide) (by decide) h.1
      have hE := evM_fm hf (by decide) (by decide)
      have hfC : fmC σ τ := toM hf (by simp) (by simp) (by simp)
      refine ⟨_, m_heardBy hM (by omega), ?_⟩
      rintro _ _ ⟨rfl, rfl⟩
      have hh : hb (evM τ) (τ.1 36) i = hb (evM σ) (σ.1 31) i := by rw [hE]; exact hbL_c he i _ h5
      rw [hh, cl (by omega), ix6, cl (by omega), hf.at 26 (by decide), hf.at 31 (by decide)]
      refine ⟨fun z => ⟨vin (by omega) (by omega), vin (by omega) (by omega), ?_⟩, fun z => ⟨_, m_no _, ?_⟩⟩
      · obtain ⟨a, b, hal, hb0, hbl, eA, eB⟩ := sh_ok h.1.1 h.2.1.2.1 (by omega : i < 5) z
        have eA : (σ.1 26 (6 * i)).toInt64 * (σ.1 31 i).toInt64 = lN a := eA
        have eB : (hb (evM σ) (σ.1 31) i).toInt64 = lN b := eB
        have eA' : (eg (evM σ) (6 * i)).toInt64 * (σ.1 31 i).toInt64 = lN a := eA
        rw [if_neg z, eA', eA, eB, lT hal, lT (by omega)]
        refine ⟨_, m_partOf hal (by omega) hb0 y, ?_⟩
        rintro _ _ ⟨rfl, rfl⟩
        exact ⟨rfl, hfC⟩
      · rintro _ _ ⟨rfl, rfl⟩
        rw [if_pos z]
        exact ⟨rfl, hfC⟩
    exact ⟨_, inner, fun r τ hq => hq⟩
theorem m_count (h : icM σ) (x : Int32) : CtI Γ mX6_count 5 [rf Γ 25, .int x] σ (fun r τ => r = sCount (vM σ) x ∧ fmC σ τ) := by
  have h5 := h.1.1.2.1
  apply ct_X6_count
  refine ⟨fun q => ?_, fun q => ?_, fun q => ?_, fun q => ?_, fun q => ?_, fun q => ?_, fun q => ?_, fun q => ?_, fun q => ?_, fun q0 q1 q2 q3 q4 q5 q6 q7 q8 => ?_⟩
  · subst q; exact ⟨h.1.2, fm.rf⟩
  · subst q
    refine ⟨_, m_onNow h.1, ?_⟩
    rintro _ _ ⟨rfl, rfl⟩
    refine ⟨_, m_bitsOf (onm_32 h5), ?_⟩
    rintro _ _ ⟨rfl, rfl⟩
    exact ⟨rfl, fm.rf⟩
  · subst q
    refine ⟨_, m_metNow h, ?_⟩
    rintro _ τ ⟨rfl, hf⟩
    rw [sMet_n (v := vM σ) h5]
    refine ⟨_, m_bitsOf (metN_32 (v := vM σ) h5), ?_⟩
    rintro _ _ ⟨rfl, rfl⟩
    exact ⟨rfl, hf⟩
  · subst q
    refine ⟨_, m_sumOn h, ?_⟩
    rintro _ _ ⟨rfl, rfl⟩
    exact ⟨rfl, fm.rf⟩
  · subst q
    refine ⟨_, m_outNow h, ?_⟩
    rintro _ τ ⟨rfl, hf⟩
    refine ⟨_, m_bitsOf (sOut_32 (v := vM σ) h5), ?_⟩
    rintro _ _ ⟨rfl, rfl⟩
    exact ⟨rfl, hf⟩
  · subst q
    refine ⟨_, m_admittedNow h, ?_⟩
    rintro _ τ ⟨rfl, hf⟩
    refine ⟨_, m_bitsOf (sAdm_32 (v := vM σ) h5), ?_⟩
    rintro _ _ ⟨rfl, rfl⟩
    exact ⟨rfl, hf⟩
  · subst q; exact ⟨h.2.2, fm.rf⟩
  · subst q
    refine ⟨_, m_stillNow h, ?_⟩
    rintro _ τ ⟨rfl, -, hf⟩
    exact ⟨rfl, toM hf (by simp) (by simp) (by simp)⟩
  · subst q; exact ⟨rfl, fm.rf⟩
  · refine ⟨?_, fm.rf⟩
    unfold sCount
    rw [if_neg q0, if_neg q1, if_neg q2, if_neg q3, if_neg q4, if_neg q5, if_neg q6, if_neg q7, if_neg q8]
theorem k_ok {k : Nat} (hk : k ≤ 7) : ¬ (nI k < 0 ∨ 7 < nI k) := by
  rintro (q | q)
  · exact nI_pos (by omega) q
  · exact nI_nlt hk (by omega) q
theorem m_senderDigest {i : Nat} (h : icM σ) (hi : i < (evM σ).1) (x : Int64) : CtJ Γ mX6_senderDigest 6 [rf Γ 25, .long x, .int (nI i)] σ (fun r τ => r = dGn (vM σ) i x (evM σ).1 ∧ fmC σ τ) := by
  have h5 := h.1.1.2.1
  have nn : ∀ {τ : St}, vM τ = vM σ → evM τ = evM σ := fun e => congrArg (fun v : V => v.1) e
  apply ct_X6_senderDigest
  refine lp_up (P := fun k => ∀ τ : St, fmC σ τ → G Γ mX6_senderDigest _ 6 [(0, rf Γ 25), (3, .int (nI i)), (4, .long (dInf (vM σ) i x k)), (6, .int (nI k))] [] τ) 8 ?_ (fun k hk ih => ?_) 0 (Nat.zero_le _) σ fm.rf
  · intro τ hf
    have i0 := icM_fm hf h
    have e0 := vM_fm hf
    apply t_X6_senderDigest_6
    refine pk_le 8 8 (fun _ => ⟨_, m_least i0 (by rw [nn e0]; exact hi) (by decide) (by decide), ?_⟩) (fun q => absurd q (by omega))
    rintro _ τ1 ⟨rfl, f1⟩
    have i1 := icM_fm f1 i0
    have e1 : vM τ1 = vM σ := (vM_fm f1).trans e0
    refine ⟨_, m_least i1 (by rw [nn e1]; exact hi) (by decide) (by decide), ?_⟩
    rintro _ τ2 ⟨rfl, f2⟩
    have i2 := icM_fm f2 i1
    have e2 : vM τ2 = vM σ := (vM_fm f2).trans e1
    refine ⟨_, m_share i2 (by rw [nn e2]; exact hi) (by decide) (by decide), ?_⟩
    rintro _ τ3 ⟨rfl, f3⟩
    have i3 := icM_fm f3 i2
    have e3 : vM τ3 = vM σ := (vM_fm f3).trans e2
    rintro _ rfl
    refine ⟨_, m_share i3 (by rw [nn e3]; exact hi) (by decide) (by decide), ?_⟩
    rintro _ τ4 ⟨rfl, f4⟩
    have i4 := icM_fm f4 i3
    have e4 : vM τ4 = vM σ := (vM_fm f4).trans e3
    refine ⟨_, m_restOf i4 (by omega), ?_⟩
    rintro _ τ5 ⟨rfl, f5⟩
    have i5 := icM_fm f5 i4
    have e5 : vM τ5 = vM σ := (vM_fm f5).trans e4
    rw [e0, e1, e2, e3, e4]
    have ff : fmC σ τ5 := ((((hf.tr f1).tr f2).tr f3).tr f4).tr f5
    refine lp_up (P := fun j => G Γ mX6_senderDigest _ 114 [(0, rf Γ 25), (3, .int (nI i)), (4, .long (dGn (vM σ) i x j)), (6, .int (nI j))] [] τ5) (evM σ).1 ?_ (fun j hj ih => ?_) 0 (Nat.zero_le _)
    · apply t_X6_senderDigest_114
      rw [i5.1.2, nn e5]
      exact pk_le (evM σ).1 (evM σ).1 (fun _ => ⟨rfl, ff⟩) (fun q => absurd q (by omega))
    · apply t_X6_senderDigest_114
      rw [i5.1.2, nn e5]
      refine pk_le (evM σ).1 j (fun q => absurd q (by omega)) (fun _ => ?_)
      rw [ix5', cl (by omega : 5 * i + j < 1000), nI_1, ff.at 26 (by decide)]
      refine ⟨vin (by omega) (by omega), ?_⟩
      rintro _ rfl
      exact ih
  · intro τ hf
    have i0 := icM_fm hf h
    have e0 := vM_fm hf
    apply t_X6_senderDigest_6
    refine pk_le 8 k (fun q => absurd q (by omega)) (fun _ => ⟨_, m_infoOf i0 (by omega) (k_ok (by omega)), ?_⟩)
    rintro _ υ ⟨rfl, f1⟩
    rw [nI_1, e0]
    exact ih υ (hf.tr f1)
theorem m_digest (h : icM σ) : CtJ Γ mX6_digest 7 [rf Γ 25] σ (fun r τ => r = sDig (vM σ) ∧ fmC σ τ) := by
  have h5 := h.1.1.2.1
  have nn : ∀ {τ : St}, vM τ = vM σ → evM τ = evM σ := fun e => congrArg (fun v : V => v.1) e
  apply ct_X6_digest
  refine lp_up (P := fun k => ∀ τ : St, fmC σ τ → G Γ mX6_digest _ 6 [(0, rf Γ 25), (1, .long (dCnt (vM σ) k)), (3, .int (nI k))] [] τ) 8 ?_ (fun k hk ih => ?_) 0 (Nat.zero_le _) σ fm.rf
  · intro τ hf
    have i1 := icM_fm hf h
    have e1 := vM_fm hf
    apply t_X6_digest_6
    refine pk_le 8 8 (fun _ => ⟨_, m_fault i1, ?_⟩) (fun q => absurd q (by omega))
    rintro _ _ ⟨rfl, rfl⟩
    refine ⟨_, m_feasible i1, ?_⟩
    rintro _ τ2 ⟨rfl, f2⟩
    have i2 := icM_fm f2 i1
    have e2 : vM τ2 = vM σ := (vM_fm f2).trans e1
    refine ⟨_, m_witnessNow i2, ?_⟩
    rintro _ τ3 ⟨rfl, f3⟩
    have i3 := icM_fm f3 i2
    have e3 : vM τ3 = vM σ := (vM_fm f3).trans e2
    rintro _ rfl
    refine ⟨_, m_outNow i3, ?_⟩
    rintro _ τ4 ⟨rfl, f4⟩
    have i4 := icM_fm f4 i3
    have e4 : vM τ4 = vM σ := (vM_fm f4).trans e3
    refine ⟨_, m_admittedNow i4, ?_⟩
    rintro _ τ5 ⟨rfl, f5⟩
    have i5 := icM_fm f5 i4
    have e5 : vM τ5 = vM σ := (vM_fm f5).trans e4
    refine ⟨_, m_softer i5, ?_⟩
    rintro _ τ6 ⟨rfl, f6⟩
    have i6 := icM_fm f6 i5
    have e6 : vM τ6 = vM σ := (vM_fm f6).trans e5
    rintro _ rfl
    refine ⟨_, m_margin i6, ?_⟩
    rintro _ τ7 ⟨rfl, f7⟩
    have i7 := icM_fm f7 i6
    have e7 : vM τ7 = vM σ := (vM_fm f7).trans e6
    refine ⟨_, m_metNow i7, ?_⟩
    rintro _ τ8 ⟨rfl, f8⟩
    rw [e1, e2, e3, e4, e5, e6, e7]
    have fs8 : fmC σ τ8 := ((((((hf.tr f2).tr f3).tr f4).tr f5).tr f6).tr f7).tr f8
    refine lp_up (P := fun i => ∀ υ : St, fmC σ υ → G Γ mX6_digest _ 129 [(0, rf Γ 25), (1, .long (dSn (vM σ) i)), (3, .int (nI i))] [] υ) (evM σ).1 ?_ (fun i hi ih => ?_) 0 (Nat.zero_le _) τ8 fs8
    · intro υ hfu
      have iu := icM_fm hfu h
      have eu := vM_fm hfu
      apply t_X6_digest_129
      rw [iu.1.2, nn eu]
      refine pk_le (evM σ).1 (evM σ).1 (fun _ => ?_) (fun q => absurd q (by omega))
      have p32 := pow_32 _ h5
      refine lp_up (P := fun k => ∀ υ : St, fmC σ υ → G Γ mX6_digest _ 152 [(0, rf Γ 25), (1, .long (dMn (vM σ) k)), (3, .int (nI k))] [] υ) (2 ^ (evM σ).1) ?_ (fun k hk ih2 => ?_) 0 (Nat.zero_le _) υ hfu
      · intro υ hfu
        have iu := icM_fm hfu h
        have eu := vM_fm hfu
        apply t_X6_digest_152
        rw [iu.1.2, nn eu, shl_j _ (by omega)]
        exact pk_le (2 ^ (evM σ).1) (2 ^ (evM σ).1) (fun _ => ⟨rfl, hfu⟩) (fun q => absurd q (by omega))
      · intro υ hfu
        have iu := icM_fm hfu h
        have eu := vM_fm hfu
        apply t_X6_digest_152
        rw [iu.1.2, nn eu, shl_j _ (by omega)]
        refine pk_le (2 ^ (evM σ).1) k (fun q => absurd q (by omega)) (fun _ => ⟨_, m_minor iu (by rw [nn eu]; exact hk), ?_⟩)
        rintro _ υ2 ⟨rfl, f9⟩
        rw [nI_1, eu]
        exact ih2 υ2 (hfu.tr f9)
    · intro υ hfu
      have iu := icM_fm hfu h
      have eu := vM_fm hfu
      apply t_X6_digest_129
      rw [iu.1.2, nn eu]
      refine pk_le (evM σ).1 i (fun q => absurd q (by omega)) (fun _ => ⟨_, m_senderDigest iu (by rw [nn eu]; exact hi) _, ?_⟩)
      rintro _ υ2 ⟨rfl, f9⟩
      rw [nI_1, eu, nn eu]
      exact ih υ2 (hfu.tr f9)
  · intro τ hf
    have i0 := icM_fm hf h
    have e0 := vM_fm hf
    apply t_X6_digest_6
    refine pk_le 8 k (fun q => absurd q (by omega)) (fun _ => ⟨_, m_count i0 _, ?_⟩)
    rintro _ υ ⟨rfl, f9⟩
    rw [nI_1, e0]
    exact ih υ (hf.tr f9)
end MODELD
