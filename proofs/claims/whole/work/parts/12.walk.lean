/-! settle, Text, Sheet -/
def stl (e : Ev) : Nat → Nat → (Nat → Int32) → Int32 × (Nat → Int32)
  | 0, _, p => (if cnt e p e.1 = 0 then 200 else -1, p)
  | k + 1, t, p => if cnt e p e.1 = 0 then (nI t, p) else stl e k (t + 1) (fin e p)
def eq5 (p q : Nat → Int32) : Prop := ∀ k, k < 5 → p k = q k
theorem hbL_c {e : Ev} {p q : Nat → Int32} (h : eq5 p q) (i : Nat) : ∀ j, j ≤ 5 → hbL e p i j = hbL e q i j
  | 0, _ => rfl
  | j + 1, hj => by unfold hbL; rw [hbL_c h i j (by omega), h j (by omega)]
theorem stp_c {e : Ev} {p q : Nat → Int32} (h5 : e.1 ≤ 5) (h : eq5 p q) (i : Nat) : stp e p i = stp e q i := by
  have a : hb e p i = hb e q i := hbL_c h i e.1 h5
  unfold stp nd; rw [a]
theorem gol_c {e : Ev} {p q : Nat → Int32} (h5 : e.1 ≤ 5) (h : eq5 p q) {i : Nat} (hi : i < 5) : gol e p i = gol e q i := by
  unfold gol; rw [stp_c h5 h i, h i hi]
theorem rowA_c {e : Ev} {p q : Nat → Int32} (h5 : e.1 ≤ 5) (h : eq5 p q) : ∀ {i : Nat}, i ≤ 5 → eq5 (rowA e p i) (rowA e q i)
  | 0, _ => h
  | i + 1, hi => by
    have ih := rowA_c h5 h (i := i) (by omega)
    intro k hk
    unfold rowA
    split
    · by_cases c : k = i
      · subst c; rw [up_eq, up_eq]; exact gol_c h5 ih hk
      · rw [up_ne c, up_ne c]; exact ih k hk
    · exact ih k hk
theorem nxt_c {e : Ev} {p q : Nat → Int32} (h5 : e.1 ≤ 5) (h : eq5 p q) {i : Nat} (hi : i < 5) : nxt e p i = nxt e q i := gol_c h5 (rowA_c h5 h (by omega)) hi
theorem cnt_c {e : Ev} {p q : Nat → Int32} (h5 : e.1 ≤ 5) (h : eq5 p q) : ∀ i, i ≤ 5 → cnt e p i = cnt e q i
  | 0, _ => rfl
  | i + 1, hi => by unfold cnt; rw [cnt_c h5 h i (by omega), nxt_c h5 h (by omega), h i (by omega)]
theorem fin_c {e : Ev} {p q : Nat → Int32} (h5 : e.1 ≤ 5) (h : eq5 p q) : eq5 (fin e p) (fin e q) := by
  intro k hk
  unfold fin; rw [nxt_c h5 h hk, h k hk]
theorem stl_c {e : Ev} (h5 : e.1 ≤ 5) : ∀ (k t : Nat) {p q : Nat → Int32}, eq5 p q → (stl e k t p).1 = (stl e k t q).1 ∧ eq5 (stl e k t p).2 (stl e k t q).2
  | 0, t, p, q, h => by unfold stl; rw [cnt_c h5 h e.1 h5]; exact ⟨rfl, h⟩
  | k + 1, t, p, q, h => by
    unfold stl; rw [cnt_c h5 h e.1 h5]
    split
    · exact ⟨rfl, h⟩
    · exact stl_c h5 k (t + 1) (fin_c h5 h)
theorem up_id (p : Nat → Int32) (i : Nat) : upd p i (p i) = p := by
  funext k; by_cases c : k = i
  · subst c; exact up_eq _ _ _
  · exact up_ne c
theorem rowA_id {e : Ev} {p : Nat → Int32} : ∀ {i : Nat}, (∀ k, k < i → gol e p k = p k) → rowA e p i = p
  | 0, _ => rfl
  | i + 1, h => by
    unfold rowA
    rw [rowA_id (fun k hk => h k (by omega)), h i (by omega), up_id]
    split <;> rfl
theorem cnt_of {e : Ev} {p : Nat → Int32} : ∀ {i : Nat}, (∀ k, k < i → gol e p k = p k) → cnt e p i = 0
  | 0, _ => rfl
  | i + 1, h => by
    unfold cnt nxt
    rw [cnt_of (fun k hk => h k (by omega)), rowA_id (fun k hk => h k (by omega)), h i (by omega), if_pos rfl]
theorem cnt_ne {e : Ev} {p : Nat → Int32} {n i : Nat} (hi : i < n) (h : ∀ k, k < i → gol e p k = p k) (hg : ¬ gol e p i = p i) : ¬ cnt e p n = 0 := by
  intro c
  have := cnt_0 c i hi
  unfold nxt at this
  rw [rowA_id h] at this
  exact hg this
section WALK
variable {Γ : GT} {σ : St}
theorem c_wouldMove (h : inC σ) : CtI Γ mX4_wouldMove 4 [rf Γ 11, rf Γ 12] σ (fun r τ => r = (if cnt (evC σ) (σ.1 12) (evC σ).1 = 0 then 0 else 1) ∧ σ = τ) := by
  have h5 := h.1.2.1
  apply ct_X4_wouldMove _ _ ar_12
  refine lp_up (P := fun j => (∀ k, k < j → gol (evC σ) (σ.1 12) k = σ.1 12 k) → G Γ mX4_wouldMove _ 2 [(0, rf Γ 11), (1, rf Γ 12), (2, .int (nI j))] [] σ) (evC σ).1 ?_ (fun j hj ih => ?_) 0 (Nat.zero_le _) (fun k hk => absurd hk (by omega))
  · intro hg
    apply t_X4_wouldMove_2 _ _ _ ar_12
    rw [h.2]
    exact pk_le (evC σ).1 (evC σ).1 (fun _ => ⟨(if_pos (cnt_of hg)).symm, rfl⟩) (fun q => absurd q (by omega))
  · intro hg
    apply t_X4_wouldMove_2 _ _ _ ar_12
    rw [h.2]
    refine pk_le (evC σ).1 j (fun q => absurd q (by omega)) (fun _ => ⟨_, c_goalOf h (by omega) ar_12, ?_⟩)
    rintro _ _ ⟨rfl, rfl⟩
    rw [cl (by omega : j < 1000), nI_1]
    refine ⟨vin (by omega) (by omega), fun c => ih (fun k hk => ?_), fun c => ⟨(if_neg (cnt_ne hj hg c)).symm, rfl⟩⟩
    rcases (show k < j ∨ k = j by omega) with q | rfl
    · exact hg k q
    · exact c
theorem c_settle (h : inC σ) : CtI Γ mX4_settle 5 [rf Γ 11] σ (fun r τ => r = (stl (evC σ) 200 0 (σ.1 6)).1 ∧ eq5 (τ.1 12) (stl (evC σ) 200 0 (σ.1 6)).2 ∧ fr [12, 13] [] σ τ) := by
  have h5 := h.1.2.1
  have hI : 1 ∉ [12, 13] ∧ 2 ∉ [12, 13] ∧ 3 ∉ [12, 13] ∧ 4 ∉ [12, 13] ∧ 5 ∉ [12, 13] ∧ 11 ∉ [12, 13] := by decide
  have e5 : eq5 (va_cpy (σ.1 6) (σ.1 12) (0 : Int32).toNatClampNeg (0 : Int32).toNatClampNeg (5 : Int32).toNatClampNeg) (σ.1 6) := by
    intro k hk
    show va_cpy (σ.1 6) (σ.1 12) 0 0 5 k = _
    unfold va_cpy
    rw [if_pos ⟨Nat.zero_le _, by omega⟩, Nat.zero_add, Nat.sub_zero]
  have hs := stl_c h5 200 0 e5
  generalize stl (evC σ) 200 0 (σ.1 6) = F at hs ⊢
  apply ct_X4_settle
  refine ⟨by decide, ?_⟩
  have key : ∀ k, ∀ t, t + k = 200 → ∀ τ : St, fr [12, 13] [] σ τ → (stl (evC σ) k t (τ.1 12)).1 = F.1 → eq5 (stl (evC σ) k t (τ.1 12)).2 F.2 → G Γ mX4_settle (NI Γ 5 (fun r τ => r = F.1 ∧ eq5 (τ.1 12) F.2 ∧ fr [12, 13] [] σ τ)) 19 [(0, rf Γ 11), (1, .int (nI t))] [] τ := by
    intro k
    induction k with
    | zero =>
      intro t ht τ hf h1 h2
      apply t_X4_settle_19
      refine pk_le 200 t (fun _ => ⟨_, c_wouldMove (inC_fr hf hI h), ?_⟩) (fun q => absurd q (by omega))
      rintro _ _ ⟨rfl, rfl⟩
      rw [evC_fr hf hI]
      unfold stl at h1 h2
      refine ⟨fun q => ⟨?_, h2, hf⟩, fun q => ⟨?_, h2, hf⟩⟩
      · rw [← h1]; by_cases c : cnt (evC σ) (τ.1 12) (evC σ).1 = 0
        · exact (if_pos c).symm
        · rw [if_neg c] at q; exact absurd q (by decide)
      · rw [← h1]; by_cases c : cnt (evC σ) (τ.1 12) (evC σ).1 = 0
        · rw [if_pos c] at q; exact absurd rfl q
        · exact (if_neg c).symm
    | succ k ih =>
      intro t ht τ hf h1 h2
      apply t_X4_settle_19
      refine pk_le 200 t (fun q => absurd q (by omega)) (fun _ => ⟨_, c_takeTurn (inC_fr hf hI h) (Or.inr rfl), ?_⟩)
      rintro _ υ ⟨rfl, hu, hf2⟩
      rw [evC_fr hf hI] at hu ⊢
      rw [nI_1]
      unfold stl at h1 h2
      have hlt : cnt (evC σ) (τ.1 12) (evC σ).1 < 2 ^ 31 := Nat.lt_of_le_of_lt (cnt_le _ _ _) (by omega)
      refine ⟨fun q => ?_, fun q => ?_⟩
      · have c : ¬ cnt (evC σ) (τ.1 12) (evC σ).1 = 0 := fun z => q (by rw [z]; rfl)
        rw [if_neg c] at h1 h2
        refine ih (t + 1) (by omega) υ (hf.tr hf2) ?_ ?_ <;> rw [hu]
        · exact h1
        · exact h2
      · have c : cnt (evC σ) (τ.1 12) (evC σ).1 = 0 := (nI_eq hlt (by decide : 0 < 2 ^ 31)).mp q
        rw [if_pos c] at h1 h2
        rw [fin_0 c] at hu
        exact ⟨h1, by rw [hu]; exact h2, hf.tr hf2⟩
  exact key 200 0 rfl _ (fr.rf.sF (by simp)) (by rw [sF_eq]; exact hs.1) (by rw [sF_eq]; exact hs.2)
-- ---- Text
theorem c_append {L : Nat} (hL : σ.1 14 0 = nI L) (h12 : L ≤ 12) (b : Int32) : CtI Γ mX3_append 0 [rf Γ 14, .int b] σ (fun r τ => (L < 12 ∧ r = 1 ∧ τ = sI (sI σ 15 L b) 14 0 (nI (L + 1))) ∨ (L = 12 ∧ r = 0 ∧ τ = σ)) := by
  apply ct_X3_append
  rw [sI_ne (by decide : (14 : Nat) ≠ 15), hL, cl (by omega), nI_1]
  exact pk_lt L 12 (fun q => ⟨vin q (by omega), Or.inl ⟨q, rfl, rfl⟩⟩) (fun q => Or.inr ⟨by omega, rfl, rfl⟩)
/-- FAULT among k .. -/
def flt (n : Nat) (b : Nat → Int32) : Nat → Nat → Int32
  | 0, _ => -1
  | m + 1, k => if b k - 97 < 0 ∨ nI n ≤ b k - 97 then nI k else flt n b m (k + 1)
theorem c_firstWrong {L n : Nat} (hL : σ.1 14 0 = nI L) (h12 : L ≤ 12) : CtI Γ mX3_firstWrong 0 [rf Γ 14, .int (nI n)] σ (fun r τ => r = flt n (σ.1 15) L 0 ∧ σ = τ) := by
  apply ct_X3_firstWrong
  generalize hF : flt n (σ.1 15) L 0 = F
  have key : ∀ m k, k + m = L → flt n (σ.1 15) m k = F → G Γ mX3_firstWrong (NI Γ 0 (fun r τ => r = F ∧ σ = τ)) 2 [(0, rf Γ 14), (1, .int (nI n)), (2, .int (nI k))] [] σ := by
    intro m
    induction m with
    | zero =>
      intro k hk he
      apply t_X3_firstWrong_2
      rw [hL]
      exact pk_le L k (fun _ => ⟨he, rfl⟩) (fun q => absurd q (by omega))
    | succ m ih =>
      intro k hk he
      apply t_X3_firstWrong_2
      rw [hL]
      refine pk_le L k (fun q => absurd q (by omega)) (fun _ => ⟨vin (by omega) (by omega), ?_⟩)
      rw [cl (by omega : k < 1000), nI_1]
      unfold flt at he
      refine ⟨fun c => ⟨?_, rfl⟩, fun c => ⟨fun c2 => ?_, fun c2 => ⟨?_, rfl⟩⟩⟩
      · rw [if_pos (Or.inl c)] at he; exact he
      · rw [if_neg (by rintro (z | z); exact c z; exact absurd c2 (Int32.not_lt.mpr z))] at he
        exact ih (k + 1) (by omega) he
      · rw [if_pos (Or.inr (Int32.not_lt.mp c2))] at he; exact he
  exact key L 0 (by omega) hF
-- ---- Sheet
theorem c_isLost {a : Nat} (ha : isSh a) : CtI Γ mX2_isLost 0 [rf Γ a] σ (fun r τ => r = (if σ.1 a 1 = -1 then 1 else 0) ∧ σ = τ) := by
  apply ct_X2_isLost _ _ ha
  exact ⟨fun q => ⟨(if_neg q).symm, rfl⟩, fun q => ⟨(if_pos q).symm, rfl⟩⟩
theorem c_renew {a : Nat} (ha : isSh a) (f z : Int32) : CtV Γ mX2_renew 0 [rf Γ a, .int f, .int z] σ (fun τ => fr [a, a + 4] [] σ τ ∧ τ.1 a 0 = f ∧ τ.1 a 1 = z ∧ (∀ k, k < 60 → τ.1 (a + 4) k = 0)) := by
  apply ct_X2_renew _ _ _ _ ha
  refine lp_up (P := fun j => ∀ τ : St, fr [a, a + 4] [] σ τ → τ.1 a 0 = f → τ.1 a 1 = z → (∀ k, k < j → τ.1 (a + 4) k = 0) → G Γ mX2_renew _ 12 [(0, rf Γ a), (3, .int (nI j))] [] τ) 60 ?_ (fun j hj ih => ?_) 0 (Nat.zero_le _) _ ((fr.rf.sI (by simp)).sI (by simp)) (by rw [sI_eq, up_ne (by decide), sI_eq, up_eq]) (by rw [sI_eq, up_eq]) (fun k hk => absurd hk (by omega))
  · intro τ hf h1 h2 h3
    apply t_X2_renew_12 _ _ _ ha
    exact pk_le 60 60 (fun _ => ⟨hf, h1, h2, h3⟩) (fun q => absurd q (by omega))
  · intro τ hf h1 h2 h3
    apply t_X2_renew_12 _ _ _ ha
    refine pk_le 60 j (fun q => absurd q (by omega)) (fun _ => ⟨vin hj (by omega), ?_⟩)
    rw [cl (by omega : j < 1000), nI_1]
    have hne : a ≠ a + 4 := by omega
    refine ih _ (hf.sI (by simp)) (by rw [sI_ne hne]; exact h1) (by rw [sI_ne hne]; exact h2) (fun k hk => ?_)
    rw [sI_eq]
    by_cases c : k = j
    · subst c; rw [up_eq]
    · rw [up_ne c]; exact h3 k (by omega)
theorem c_hasRange {a : Nat} (ha : isSh a) (x y : Int32) : CtI Γ mX2_hasRange 0 [rf Γ a, .int x, .int y] σ (fun r τ => r = (if x < 0 ∨ y < 0 ∨ σ.1 a 1 < y ∨ σ.1 a 1 - y < x then 0 else 1) ∧ σ = τ) := by
  apply ct_X2_hasRange _ _ _ _ ha
  refine ⟨fun q => ⟨(if_pos (Or.inl q)).symm, rfl⟩, fun q1 => ⟨fun q => ⟨(if_pos (Or.inr (Or.inl q))).symm, rfl⟩, fun q2 => ⟨fun q => ⟨(if_pos (Or.inr (Or.inr (Or.inl q)))).symm, rfl⟩, fun q3 => ⟨fun q => ⟨(if_pos (Or.inr (Or.inr (Or.inr q)))).symm, rfl⟩, fun q4 => ⟨(if_neg ?_).symm, rfl⟩⟩⟩⟩⟩
  rintro (z | z | z | z)
  · exact q1 z
  · exact q2 z
  · exact q3 z
  · exact q4 z
/-- an item cut to its form -/
def cutF (f v : Int32) : Int32 := if f = 0 then v.toInt8.toInt32 else if f = 1 then v.toInt16.toInt32 else v
theorem c_store {a k : Nat} (ha : isSh a) (hk : k < 60) (v : Int32) : CtV Γ mX2_store 0 [rf Γ a, .int (nI k), .int v] σ (fun τ => τ = sI σ (a + 4) k (cutF (σ.1 a 0) v)) := by
  apply ct_X2_store _ _ _ _ ha
  rw [cl (by omega)]
  have hv := vin hk (by omega : 60 < 1000)
  refine ⟨fun q => ⟨hv, by rw [cutF, if_pos q]⟩, fun q => ⟨hv, ?_⟩, fun q q2 => ⟨hv, by rw [cutF, if_neg q, if_neg q2]⟩⟩
  rw [cutF, if_neg (by rw [q]; decide), if_pos q]
/-- how many bits -/
def pop (s : Nat) : Nat := s % 2 + s / 2 % 2 + s / 4 % 2 + s / 8 % 2 + s / 16 % 2
def bcF (x : Int32) : Int32 :=
  let v1 := x - (((x.toUInt32 >>> ((1 : Int32).toUInt32 &&& Int32.toUInt32 31)).toInt32) &&& 1431655765)
  let v2 := (v1 &&& 858993459) + (((v1.toUInt32 >>> ((2 : Int32).toUInt32 &&& Int32.toUInt32 31)).toInt32) &&& 858993459)
  let v3 := (v2 + ((v2.toUInt32 >>> ((4 : Int32).toUInt32 &&& Int32.toUInt32 31)).toInt32)) &&& 252645135
  let v4 := v3 + ((v3.toUInt32 >>> ((8 : Int32).toUInt32 &&& Int32.toUInt32 31)).toInt32)
  let v5 := v4 + ((v4.toUInt32 >>> ((16 : Int32).toUInt32 &&& Int32.toUInt32 31)).toInt32)
  v5 &&& 63
theorem bcF_32 : ∀ s, s < 32 → bcF (nI s) = nI (pop s) := by decide +kernel
theorem c_bitCount {s : Nat} (hs : s < 32) : CtI Γ mJ6_bitCount_0f7a4 0 [.int (nI s)] σ (fun r τ => r = nI (pop s) ∧ σ = τ) := by
  apply ct_J6_bitCount_0f7a4
  rintro _ rfl _ rfl _ rfl _ rfl _ rfl
  exact ⟨bcF_32 s hs, rfl⟩
end WALK
