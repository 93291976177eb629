/-! both at once: gains read from a sheet -/
theorem fstN (P : Nat → Prop) (m : Nat) : ∃ K, K ≤ m ∧ (∀ k, k < K → P k) ∧ (K = m ∨ ¬ P K) := by
  induction m with
  | zero => exact ⟨0, Nat.le_refl _, fun k hk => absurd hk (by omega), Or.inl rfl⟩
  | succ m ih =>
    obtain ⟨K, h1, h2, h3⟩ := ih
    rcases h3 with h3 | h3
    · by_cases c : P K
      · refine ⟨m + 1, Nat.le_refl _, fun k hk => ?_, Or.inl rfl⟩
        by_cases d : k = K
        · rw [d]; exact c
        · exact h2 k (by omega)
      · exact ⟨K, by omega, h2, Or.inr c⟩
    · exact ⟨K, by omega, h2, Or.inr h3⟩
/-- the gains after k items read -/
def gsr (n : Nat) (it g : Nat → Int32) : Nat → Nat → Int32
  | 0 => g
  | k + 1 => upd (gsr n it g k) (5 * (k / n) + k % n) (it k)
def okR (n : Nat) (it : Nat → Int32) (k : Nat) : Prop := (if nI (k / n) = nI (k % n) then okI (it k) 1 30 else okI (it k) 0 9) = 1
theorem sF_sI (σ : St) (a k : Nat) (f : Nat → Int32) (v : Int32) : sI (sF σ a f) a k v = sF σ a (upd f k v) := by
  unfold sI
  rw [sF_eq]
  unfold sF
  refine Prod.ext (funext fun b => ?_) rfl
  show (if b = a then _ else (if b = a then _ else _)) = _
  by_cases c : b = a
  · rw [if_pos c]; show _ = (if b = a then _ else _); rw [if_pos c]
  · rw [if_neg c, if_neg c]; show _ = (if b = a then _ else _); rw [if_neg c]
theorem dm {n i j : Nat} (hj : j < n) : (i * n + j) / n = i ∧ (i * n + j) % n = j := by
  have hn : 0 < n := by omega
  rw [Nat.add_comm, Nat.add_mul_div_right _ _ hn, Nat.add_mul_mod_self_right, Nat.div_eq_of_lt hj, Nat.mod_eq_of_lt hj]
  omega
theorem dm_lt {n k : Nat} (hn : 0 < n) (h : k < n * n) : k / n < n ∧ k % n < n := ⟨Nat.div_lt_of_lt_mul h, Nat.mod_lt _ hn⟩
section SHEETS4
variable {Γ : GT} {σ : St}
theorem c_readGains {s z K : Nat} (h : inC σ) (hs : s < 4) (hz : z ≤ 60) (h1 : σ.1 (17 + s) 1 = nI z)
    (hK1 : K ≤ z) (hK2 : K ≤ (evC σ).1 * (evC σ).1) (hK3 : ∀ k, k < K → okR (evC σ).1 (σ.1 (17 + s + 4)) k) (hK4 : K = z ∨ K = (evC σ).1 * (evC σ).1 ∨ ¬ okR (evC σ).1 (σ.1 (17 + s + 4)) K) :
    CtI Γ mX5_readGains 1 [rf Γ 0, rf Γ (17 + s)] σ (fun r τ => r = nI K ∧ τ = sF σ 2 (gsr (evC σ).1 (σ.1 (17 + s + 4)) (σ.1 2) K)) := by
  have hm : σ.1 1 0 = nI (evC σ).1 := h.2
  have hn1 : 1 ≤ (evC σ).1 := h.1.1
  have hn5 : (evC σ).1 ≤ 5 := h.1.2.1
  obtain ⟨n, hn⟩ : ∃ n, n = (evC σ).1 := ⟨_, rfl⟩
  obtain ⟨it, hit⟩ : ∃ it, it = σ.1 (17 + s + 4) := ⟨_, rfl⟩
  rw [← hn] at hm hn1 hn5 hK2 hK3 hK4 ⊢
  rw [← hit] at hK3 hK4 ⊢
  have e0 : σ = sF σ 2 (gsr n it (σ.1 2) 0) := by
    refine Prod.ext (funext fun b => ?_) rfl
    show _ = (if b = 2 then _ else _)
    by_cases c : b = 2
    · rw [if_pos c, c]; rfl
    · rw [if_neg c]
  have hk5 : ∀ i j, i < n → j < n → i * n + j < n * n := fun i j hi hj => by
    have : (i + 1) * n ≤ n * n := Nat.mul_le_mul_right n hi
    rw [Nat.succ_mul] at this
    omega
  apply ct_X5_readGains _ _ (sh_at hs)
  have key := lp_up (P := fun k => ∀ τ : St, τ = sF σ 2 (gsr n it (σ.1 2) k) → (∀ i j, i < n → j < n → i * n + j = k → G Γ mX5_readGains (NI Γ 1 (fun r τ => r = nI K ∧ τ = sF σ 2 (gsr n it (σ.1 2) K))) 18 [(0, rf Γ 0), (1, rf Γ (17 + s)), (2, .int (nI k)), (3, .int (nI i)), (4, .int (nI j))] [] τ) ∧ (k = n * n → G Γ mX5_readGains (NI Γ 1 (fun r τ => r = nI K ∧ τ = sF σ 2 (gsr n it (σ.1 2) K))) 4 [(0, rf Γ 0), (1, rf Γ (17 + s)), (2, .int (nI k)), (3, .int (nI n))] [] τ)) K ?_ (fun k hk ih => ?_) 0 (Nat.zero_le _)
  · apply t_X5_readGains_4 _ _ _ _ (sh_at hs)
    rw [hm]
    exact pk_le n 0 (fun q => absurd q (by omega)) (fun _ => (key σ e0).1 0 0 (by omega) (by omega) (by omega))
  · intro τ hτ
    have e : ∀ a, a ≠ 2 → τ.1 a = σ.1 a := fun a ha => by rw [hτ, sF_ne ha]
    refine ⟨fun i j hi hj hij => ?_, fun hkn => ?_⟩
    · have := hk5 i j hi hj
      apply t_X5_readGains_18 _ _ _ _ _ (sh_at hs)
      rw [e 1 (by omega), hm, e (17 + s) (by omega), h1, e (17 + s + 4) (by omega), ← hit]
      refine pk_le n j (fun q => absurd q (by omega)) (fun _ => pk_le z K (fun _ => ⟨rfl, hτ⟩) (fun q => ⟨vin (by omega) (by omega), _, c_mayBeGain _ _ _, ?_⟩))
      rintro _ _ ⟨rfl, rfl⟩
      rw [cl (by omega)]
      have hno : ¬ okR n it K := by
        rcases hK4 with y | y | y
        · omega
        · omega
        · exact y
      unfold okR at hno
      have hd := dm (i := i) hj
      rw [hij] at hd
      rw [hd.1, hd.2] at hno
      rcases gk_zo (nI i) (nI j) (it K) with y | y
      · rw [y]; exact ⟨fun w => absurd rfl w, fun _ => ⟨rfl, hτ⟩⟩
      · exact absurd y hno
    · apply t_X5_readGains_4 _ _ _ _ (sh_at hs)
      rw [e 1 (by omega), hm]
      exact pk_le n n (fun _ => ⟨rfl, hτ⟩) (fun q => absurd q (by omega))
  · intro τ hτ
    have e : ∀ a, a ≠ 2 → τ.1 a = σ.1 a := fun a ha => by rw [hτ, sF_ne ha]
    refine ⟨fun i j hi hj hij => ?_, fun hkn => absurd hk (by omega)⟩
    have := hk5 i j hi hj
    apply t_X5_readGains_18 _ _ _ _ _ (sh_at hs)
    rw [e 1 (by omega), hm, e (17 + s) (by omega), h1, e (17 + s + 4) (by omega), ← hit]
    refine pk_le n j (fun q => absurd q (by omega)) (fun _ => pk_le z k (fun q => absurd q (by omega)) (fun q => ⟨vin (by omega) (by omega), _, c_mayBeGain _ _ _, ?_⟩))
    rintro _ _ ⟨rfl, rfl⟩
    rw [cl (by omega), e (17 + s + 4) (by omega), ← hit]
    have hok : okR n it k := hK3 k hk
    have hd := dm (i := i) hj
    rw [hij] at hd
    unfold okR at hok
    rw [hd.1, hd.2] at hok
    rw [hok]
    refine ⟨fun _ => ⟨vin (by omega) (by omega), _, c_tellGain (by omega) (by omega) _, ?_⟩, fun y => absurd y (by decide)⟩
    rintro _ rfl
    have hτ2 : sI τ 2 (5 * i + j) (it k) = sF σ 2 (gsr n it (σ.1 2) (k + 1)) := by
      rw [hτ, sF_sI, show gsr n it (σ.1 2) (k + 1) = upd (gsr n it (σ.1 2) k) (5 * (k / n) + k % n) (it k) from rfl, hd.1, hd.2]
    obtain ⟨ω, hω⟩ : ∃ ω, ω = sI τ 2 (5 * i + j) (it k) := ⟨_, rfl⟩
    rw [← hω] at hτ2 ⊢
    have ew : ∀ a, a ≠ 2 → ω.1 a = σ.1 a := fun a ha => by rw [hτ2, sF_ne ha]
    obtain ⟨ih1, ih2⟩ := ih ω hτ2
    simp only [nI_1]
    by_cases c : j + 1 < n
    · exact ih1 i (j + 1) hi c (by omega)
    · have ej : j + 1 = n := by omega
      have e2 : (i + 1) * n = k + 1 := by rw [Nat.succ_mul]; omega
      apply t_X5_readGains_18 _ _ _ _ _ (sh_at hs)
      rw [ew 1 (by omega), hm]
      refine pk_le n (j + 1) (fun _ => ?_) (fun q => absurd q (by omega))
      rw [nI_1]
      by_cases d : i + 1 < n
      · apply t_X5_readGains_4 _ _ _ _ (sh_at hs)
        rw [ew 1 (by omega), hm]
        exact pk_le n (i + 1) (fun q => absurd q (by omega)) (fun _ => ih1 (i + 1) 0 d (by omega) (by omega))
      · have ei : i + 1 = n := by omega
        rw [ei] at e2 ⊢
        exact ih2 e2.symm
theorem m_read {s z n K : Nat} {τ : St} {it : Nat → Int32} (hs : s < 4) (hz : z ≤ 60) (hn1 : 1 ≤ n) (hn5 : n ≤ 5) (hm : τ.1 25 0 = nI n) (h39 : τ.1 39 s = 1) (h41 : τ.1 41 s = nI z) (h42 : ∀ i, i < 60 → τ.1 42 (60 * s + i) = it i)
    (hK1 : K ≤ z) (hK2 : K ≤ n * n) (hK3 : ∀ k, k < K → okR n it k) (hK4 : K = z ∨ K = n * n ∨ ¬ okR n it K) :
    CtI Γ mX6_read 2 [rf Γ 25, .int (nI s)] τ (fun r υ => r = nI K ∧ υ = sF τ 26 (gsr n it (τ.1 26) K)) := by
  have e0 : τ = sF τ 26 (gsr n it (τ.1 26) 0) := by
    refine Prod.ext (funext fun b => ?_) rfl
    show _ = (if b = 26 then _ else _)
    by_cases c : b = 26
    · rw [if_pos c, c]; rfl
    · rw [if_neg c]
  have hnn : n * n ≤ 25 := Nat.mul_le_mul hn5 hn5
  apply ct_X6_read
  refine ⟨_, m_isSheet _, ?_⟩
  rintro _ _ ⟨rfl, rfl⟩
  rw [okI_sh1 hs, cl (by omega), h39]
  refine ⟨fun _ => ⟨v4 hs, fun _ => ?_, fun z => absurd z (by decide)⟩, fun z => absurd z (by decide)⟩
  refine lp_up (P := fun k => ∀ υ : St, υ = sF τ 26 (gsr n it (τ.1 26) k) → G Γ mX6_read _ 27 [(0, rf Γ 25), (1, .int (nI s)), (2, .int (nI k))] [] υ) K ?_ (fun k hk ih => ?_) 0 (Nat.zero_le _) τ e0
  · intro υ hυ
    have e : ∀ a, a ≠ 26 → υ.1 a = τ.1 a := fun a ha => by rw [hυ, sF_ne ha]
    apply t_X6_read_27
    rw [cl (by omega), e 41 (by decide), e 25 (by decide), h41, hm, pk_mul]
    refine ⟨v4 hs, pk_le z K (fun _ => ⟨rfl, hυ⟩) (fun q => pk_le (n * n) K (fun _ => ⟨rfl, hυ⟩) (fun q2 => ?_))⟩
    have hn0 : ¬ nI n = 0 := fun y => absurd ((nI_eq (b := 0) (by omega) (by omega)).mp y) (by omega)
    have hv : vp_in (nI (60 * s + K)) 240 := vin (by omega) (by omega)
    rw [ix60, cl (by omega), e 42 (by decide), h42 K (by omega), pk_div (by omega) (by omega) (by omega), ← pk_div (a := K) (by omega) (by omega) (by omega), pk_rem (by omega) (by omega) (by omega), pk_div (by omega) (by omega) (by omega)]
    refine ⟨hn0, hn0, hv, _, m_isGain _ _ _, ?_⟩
    rintro _ _ ⟨rfl, rfl⟩
    have hno : ¬ okR n it K := by
      rcases hK4 with y | y | y
      · omega
      · omega
      · exact y
    unfold okR at hno
    rcases gk_zo (nI (K / n)) (nI (K % n)) (it K) with y | y
    · rw [y]; exact ⟨fun _ => ⟨rfl, hυ⟩, fun w => absurd rfl w⟩
    · exact absurd y hno
  · intro υ hυ
    have e : ∀ a, a ≠ 26 → υ.1 a = τ.1 a := fun a ha => by rw [hυ, sF_ne ha]
    apply t_X6_read_27
    rw [cl (by omega), e 41 (by decide), e 25 (by decide), h41, hm, pk_mul]
    refine ⟨v4 hs, pk_le z k (fun q => absurd q (by omega)) (fun q => pk_le (n * n) k (fun q => absurd q (by omega)) (fun q2 => ?_))⟩
    have hn0 : ¬ nI n = 0 := fun y => absurd ((nI_eq (b := 0) (by omega) (by omega)).mp y) (by omega)
    have hv : vp_in (nI (60 * s + k)) 240 := vin (by omega) (by omega)
    rw [ix60, cl (by omega), e 42 (by decide), h42 k (by omega), pk_rem (by omega) (by omega) (by omega), pk_div (by omega) (by omega) (by omega)]
    refine ⟨hn0, hn0, hv, _, m_isGain _ _ _, ?_⟩
    rintro _ _ ⟨rfl, rfl⟩
    have hok : okR n it k := hK3 k hk
    unfold okR at hok
    rw [hok]
    have hd := dm_lt (by omega) q2
    rw [e 25 (by decide), hm, e 42 (by decide), h42 k (by omega), pk_rem (by omega) (by omega) (by omega), pk_div (by omega) (by omega) (by omega), ix5', cl (by omega), nI_1]
    refine ⟨fun y => absurd y (by decide), fun _ => ⟨hn0, hn0, hv, vin (by omega) (by omega), ih _ ?_⟩⟩
    rw [hυ, sF_sI]; rfl
theorem Rel_gsr (hR : Rel σ) {it : Nat → Int32} {K : Nat} (hK2 : K ≤ (evC σ).1 * (evC σ).1) (hK3 : ∀ k, k < K → okR (evC σ).1 it k) : Rel (sF (sF σ 2 (gsr (evC σ).1 it (σ.1 2) K)) 26 (gsr (evC σ).1 it (σ.1 2) K)) := by
  have h5 : (evC σ).1 ≤ 5 := hR.1.1.1.2.1
  have h1 : 1 ≤ (evC σ).1 := hR.1.1.1.1
  have hg : σ.1 26 = σ.1 2 := congrArg (fun v : Ev => v.2.2.1) hR.ev
  induction K with
  | zero =>
    have : sF (sF σ 2 (gsr (evC σ).1 it (σ.1 2) 0)) 26 (gsr (evC σ).1 it (σ.1 2) 0) = σ := by
      refine Prod.ext (funext fun b => ?_) rfl
      show (if b = 26 then σ.1 2 else (if b = 2 then σ.1 2 else σ.1 b)) = σ.1 b
      by_cases c : b = 26
      · rw [if_pos c, c, hg]
      · rw [if_neg c]
        by_cases d : b = 2
        · rw [if_pos d, d]
        · rw [if_neg d]
    rw [this]; exact hR
  | succ K ih =>
    have hd := dm_lt (n := (evC σ).1) (k := K) (by omega) (by omega)
    have r := Rel_gain (ih (by omega) (fun k hk => hK3 k (by omega))) (i := K / (evC σ).1) (j := K % (evC σ).1) (by omega) (by omega) (hK3 K (by omega))
    obtain ⟨g, hg2⟩ : ∃ g, g = gsr (evC σ).1 it (σ.1 2) K := ⟨_, rfl⟩
    have e : gsr (evC σ).1 it (σ.1 2) (K + 1) = upd g (5 * (K / (evC σ).1) + K % (evC σ).1) (it K) := by rw [hg2]; rfl
    rw [← hg2] at r
    rw [e]
    have e2 : sI (sI (sF (sF σ 2 g) 26 g) 2 (5 * (K / (evC σ).1) + K % (evC σ).1) (it K)) 26 (5 * (K / (evC σ).1) + K % (evC σ).1) (it K) = sF (sF σ 2 (upd g (5 * (K / (evC σ).1) + K % (evC σ).1) (it K))) 26 (upd g (5 * (K / (evC σ).1) + K % (evC σ).1) (it K)) := by
      refine Prod.ext (funext fun b => ?_) rfl
      by_cases c : b = 26
      · subst c; rfl
      by_cases d : b = 2
      · subst d; rfl
      rw [sI_ne c, sI_ne d, sF_ne c, sF_ne d, sF_ne c, sF_ne d]
    rw [← e2]; exact r
theorem o_read (hR : Rel σ) (x : Int32) : PairI Γ mX5_read 2 [rf Γ 0, .int x] mX6_read 2 [rf Γ 25, .int x] σ := by
  rcases noSh_or x with q | ⟨s, hs, rfl⟩
  · refine pairB (c := -2) hR ?_ ?_
    · apply ct_X5_read
      refine ⟨_, c_refSh_bad q, ?_⟩
      rintro _ _ ⟨rfl, rfl⟩
      exact ⟨fun z => absurd z (by decide), fun _ => ⟨rfl, rfl⟩⟩
    · apply ct_X6_read
      refine ⟨_, m_isSheet x, ?_⟩
      rintro _ _ ⟨rfl, rfl⟩
      rw [okI_sh q]; exact ⟨fun z => absurd rfl z, fun _ => ⟨rfl, rfl⟩⟩
  · rcases hR.2.2.2.1 s hs with ⟨h1, h2⟩ | ⟨z, hz, h1, h2, h3, h4⟩
    · refine pairF (c := -11) (f := 1) hR ?_ ?_
      · apply ct_X5_read
        refine ⟨_, c_refSh hs, ?_⟩
        rintro r τ (⟨-, rfl, rfl⟩ | ⟨c, -⟩)
        · exact ⟨fun z => absurd z (by decide), fun _ => ⟨rfl, rfl⟩⟩
        · exact absurd h1 c
      · apply ct_X6_read
        refine ⟨_, m_isSheet _, ?_⟩
        rintro _ _ ⟨rfl, rfl⟩
        rw [okI_sh1 hs, cl (by omega)]
        have e39 : (sI σ 0 5 1).1 39 s = 0 := h2
        rw [e39]
        refine ⟨fun _ => ⟨v4 hs, fun z => absurd rfl z, fun _ => ⟨_, m_meets _, ?_⟩⟩, fun z => absurd z (by decide)⟩
        rintro _ _ ⟨rfl, rfl⟩
        exact ⟨rfl, rfl⟩
    · have h5 : (evC σ).1 ≤ 5 := hR.1.1.1.2.1
      obtain ⟨K, k1, k2, k3⟩ := fstN (okR (evC σ).1 (σ.1 (17 + s + 4))) (min z ((evC σ).1 * (evC σ).1))
      have k4 : K = z ∨ K = (evC σ).1 * (evC σ).1 ∨ ¬ okR (evC σ).1 (σ.1 (17 + s + 4)) K := by
        rcases k3 with y | y
        · rw [Nat.min_def] at y; split at y
          · exact Or.inl y
          · exact Or.inr (Or.inl y)
        · exact Or.inr (Or.inr y)
      have kz : K ≤ z := Nat.le_trans k1 (Nat.min_le_left _ _)
      have kn : K ≤ (evC σ).1 * (evC σ).1 := Nat.le_trans k1 (Nat.min_le_right _ _)
      refine ⟨fun r τ => r = nI K ∧ τ = sF σ 2 (gsr (evC σ).1 (σ.1 (17 + s + 4)) (σ.1 2) K), ?_, ?_⟩
      · apply ct_X5_read
        refine ⟨_, c_refSh hs, ?_⟩
        rintro r τ (⟨c, -⟩ | ⟨-, rfl, rfl⟩)
        · exact absurd (h1.symm.trans c) (nz hz)
        rw [cl (by omega)]
        exact ⟨fun _ => ⟨v4 hs, _, c_readGains hR.1.1 hs hz h1 kz kn k2 k4, fun r υ hq => hq⟩, fun z => absurd rfl z⟩
      · rintro _ _ ⟨rfl, rfl⟩
        obtain ⟨g, hg⟩ : ∃ g, g = gsr (evC σ).1 (σ.1 (17 + s + 4)) (σ.1 2) K := ⟨_, rfl⟩
        have hg26 : σ.1 26 = σ.1 2 := congrArg (fun v : Ev => v.2.2.1) hR.ev
        have hR2 := Rel_gsr hR kn k2
        rw [← hg] at hR2 ⊢
        have e : ∀ a, a ≠ 2 → (sF σ 2 g).1 a = σ.1 a := fun a ha => sF_ne ha
        refine ⟨_, m_read (it := σ.1 (17 + s + 4)) hs hz hR.1.1.1.1 h5 (by rw [e 25 (by decide), hR.2.1.1.2, hR.ev]) (by rw [e 39 (by decide)]; exact h2) (by rw [e 41 (by decide)]; exact h3) (fun i hi => by rw [e 42 (by decide), hR.2.2.2.2 s i hs hi, show 21 + s = 17 + s + 4 by omega]) kz kn k2 k4, ?_⟩
        rintro _ _ ⟨rfl, rfl⟩
        rw [e 26 (by decide), hg26, ← hg]
        exact ⟨rfl, hR2⟩
end SHEETS4
