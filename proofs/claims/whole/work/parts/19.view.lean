/-! what the answers are, of what is told (V): one specification for both -/
abbrev V : Type := Ev × (Nat → Int32) × Nat × (Nat → Int32) × Int32
def vC (σ : St) : V := (evC σ, σ.1 6, (σ.1 14 0).toNatClampNeg, σ.1 15, σ.1 0 5)
def vM (σ : St) : V := (evM σ, σ.1 31, (σ.1 25 9).toNatClampNeg, σ.1 32, σ.1 25 23)
def okP (p : Nat → Int32) : Prop := ∀ i, i < 5 → ∃ k, k ≤ 999 ∧ p i = nI k
def okV (v : V) : Prop := okE v.1 ∧ okP v.2.1 ∧ v.2.2.1 ≤ 12
def icC (σ : St) : Prop := inC σ ∧ okV (vC σ) ∧ σ.1 14 0 = nI (vC σ).2.2.1
def icM (σ : St) : Prop := inM σ ∧ okV (vM σ) ∧ σ.1 25 9 = nI (vM σ).2.2.1
abbrev frC (σ τ : St) : Prop := fr [10, 12, 13] [8, 9] σ τ
abbrev frL (σ τ : St) : Prop := fr [10] [8, 9] σ τ
abbrev fmC (σ τ : St) : Prop := fm [35, 36, 37, 38, 43] [33, 34] [13, 14] σ τ
theorem hIC : 1 ∉ [10, 12, 13] ∧ 2 ∉ [10, 12, 13] ∧ 3 ∉ [10, 12, 13] ∧ 4 ∉ [10, 12, 13] ∧ 5 ∉ [10, 12, 13] ∧ 11 ∉ [10, 12, 13] := by decide
theorem hIM : 26 ∉ [35, 36, 37, 38, 43] ∧ 27 ∉ [35, 36, 37, 38, 43] ∧ 28 ∉ [35, 36, 37, 38, 43] ∧ 29 ∉ [35, 36, 37, 38, 43] ∧ 30 ∉ [35, 36, 37, 38, 43] := by decide
theorem frL.C {σ τ : St} (h : frL σ τ) : frC σ τ := h.mono (by simp) (by simp)
theorem vC_fr {σ τ : St} (h : frC σ τ) : vC τ = vC σ := by
  unfold vC
  rw [evC_fr h hIC, h.1 6 (by decide), h.1 14 (by decide), h.1 15 (by decide), h.1 0 (by decide)]
theorem vM_fm {σ τ : St} (h : fmC σ τ) : vM τ = vM σ := by
  unfold vM
  rw [evM_fm h hIM (by decide), h.at 31 (by decide), h.2 9 (by decide), h.at 32 (by decide), h.2 23 (by decide)]
theorem icC_fr {σ τ : St} (h : frC σ τ) (k : icC σ) : icC τ := by
  unfold icC
  rw [vC_fr h, h.1 14 (by decide)]
  exact ⟨inC_fr h hIC k.1, k.2⟩
theorem icM_fm {σ τ : St} (h : fmC σ τ) (k : icM σ) : icM τ := by
  unfold icM
  rw [vM_fm h, h.2 9 (by decide)]
  exact ⟨inM_fm h hIM (by decide) k.1, k.2⟩
theorem toC {I J : List Nat} {σ τ : St} (h : fr I J σ τ) (hI : ∀ a ∈ I, a ∈ [10, 12, 13]) (hJ : ∀ a ∈ J, a ∈ [8, 9]) : frC σ τ := h.mono hI hJ
theorem toM {I J K : List Nat} {σ τ : St} (h : fm I J K σ τ) (hI : ∀ a ∈ I, a ∈ [35, 36, 37, 38, 43]) (hJ : ∀ a ∈ J, a ∈ [33, 34]) (hK : ∀ a ∈ K, a ∈ [13, 14]) : fmC σ τ := h.mono hI hJ hK
/-- there is no such sender -/
abbrev noS (e : Ev) (x : Int32) : Prop := x < 0 ∨ nI e.1 ≤ x
theorem noS_or (e : Ev) (h : e.1 ≤ 5) (x : Int32) : noS e x ∨ ∃ i, i < e.1 ∧ x = nI i := by
  rcases th_ix x h with q | q | q
  · exact Or.inl (Or.inl q)
  · exact Or.inl (Or.inr q)
  · exact Or.inr q
theorem noS_not {e : Ev} (h : e.1 ≤ 5) {i : Nat} (hi : i < e.1) : ¬ noS e (nI i) := by
  rintro (q | q)
  · exact nI_pos (by omega) q
  · exact nI_ge hi (by omega) q
def lmin (x : Int32) : Int64 := (-9223372036854775808 : Int64) - x.toInt64
def sFault (v : V) : Int32 := flt v.1.1 v.2.2.2.1 v.2.2.1 0
def sFeas (v : V) : Int32 := if feas (enT v.1) (onm v.1) then 1 else 0
def sInfo (v : V) (i : Nat) (y : Int32) : Int32 :=
  if y = 0 then ew v.1 i else if y = 1 then eno v.1 i else if y = 2 then ecap v.1 i else if y = 3 then eon v.1 i else if y = 4 then v.2.1 i else if y = 5 then nd v.1 v.2.1 i else if y = 6 then hasW v.1 v.2.1 i else eg v.1 (6 * i)
def sMinor (v : V) (k : Nat) : Int64 := mnr (enT v.1) (k &&& onm v.1)
def repl (e : Ev) (i : Nat) (r c : Nat) : Int64 := if c = i then (ew e r).toInt64 * (eno e r).toInt64 else enT e r c
/-- above and below of LEAST POWER -/
def lsA (e : Ev) (i : Nat) : Int64 := mnr (repl e i) (onm e)
def lsB (e : Ev) : Int64 := mnr (enT e) (onm e)
def sLeast (v : V) (i : Nat) (what : Int32) : Int64 := if eon v.1 i = 0 then lmin (-3) else if feas (enT v.1) (onm v.1) then part (lsA v.1 i).toInt.toNat (lsB v.1).toInt.toNat what else lmin (-3)
def sWit (v : V) : Int32 := nI (wf (feas (enT v.1)) (onm v.1) (onm v.1))
def sOut (v : V) : Nat := lvF (feas (enT v.1)) (onm v.1) (onm v.1)
def sAdm (v : V) : Nat := ciF (feas (enT v.1)) (onm v.1).testBit v.1.1
def sSoft (v : V) : Int32 := if feas (enT v.1) (onm v.1) then -1 else fnd (fun i => (onm v.1).testBit i && feas (enS v.1 i) (onm v.1)) v.1.1 0
def sMarg (v : V) : Int32 := mg (fun t => feas (enQ v.1 t) (onm v.1)) 8
def sShare (v : V) (i : Nat) (what : Int32) : Int64 := if eon v.1 i = 0 then lmin (-3) else if hb v.1 v.2.1 i = 0 then lmin (-3) else part ((eg v.1 (6 * i)).toInt64 * (v.2.1 i).toInt64).toInt.toNat (hb v.1 v.2.1 i).toInt64.toInt.toNat what
def sStl (v : V) : Int32 × (Nat → Int32) := stl v.1 200 0 v.2.1
def sMet (v : V) : Int32 := bitsL (hasW v.1 v.2.1) v.1.1
def sSum (v : V) : Int32 := sumL (eon v.1) v.2.1 v.1.1
/-- what is met, as a set -/
def metN (v : V) : Nat := onmL (hasW v.1 v.2.1) v.1.1
def sCount (v : V) (x : Int32) : Int32 :=
  if x = 0 then nI v.1.1 else if x = 1 then nI (pop (onm v.1)) else if x = 2 then nI (pop (metN v)) else if x = 3 then sSum v else if x = 4 then nI (pop (sOut v)) else if x = 5 then nI (pop (sAdm v)) else if x = 6 then nI v.2.2.1 else if x = 7 then (sStl v).1 else if x = 8 then v.2.2.2.2 else -2
theorem hasW_zo (e : Ev) (p : Nat → Int32) (i : Nat) : hasW e p i = 0 ∨ hasW e p i = 1 := by
  unfold hasW; split
  · exact Or.inl rfl
  · split
    · exact Or.inl rfl
    · exact Or.inr rfl
theorem bitsL_n {f : Nat → Int32} (hf : ∀ i, f i = 0 ∨ f i = 1) : ∀ {n : Nat}, n ≤ 5 → bitsL f n = nI (onmL f n)
  | 0, _ => rfl
  | n + 1, h => by
    have ih := bitsL_n hf (n := n) (by omega)
    have hl := onmL_lt f n
    have hp := pow_32 n (by omega)
    rw [bitsL, onmL, ih, shl_j n (by omega), or_j _ (by omega) n (by omega) (Nat.testBit_lt_two_pow hl)]
    rcases hf n with q | q
    · rw [if_pos q, if_neg (by rw [q]; decide), Nat.add_zero]
    · rw [if_neg (by rw [q]; decide), if_pos q]
theorem sMet_n {v : V} (h : v.1.1 ≤ 5) : sMet v = nI (metN v) := bitsL_n (hasW_zo _ _) h
-- ---- numbers of what is heard
theorem hbL_n {e : Ev} {p : Nat → Int32} (h : okE e) (hp : okP p) {i : Nat} (hi : i < 5) : ∀ j, j ≤ 5 → ∃ k, k ≤ 9 + 8991 * j ∧ hbL e p i j = nI k
  | 0, _ => by
    obtain ⟨k, h1, h2⟩ := h.2.2.2.2.2.2.1 i hi
    exact ⟨k, by omega, h2⟩
  | j + 1, hj => by
    obtain ⟨k, h1, h2⟩ := hbL_n h hp hi j (by omega)
    rw [hbL, h2]
    by_cases c : j ≠ i ∧ eon e j = 1
    · rw [if_pos c]
      obtain ⟨g, g1, g2⟩ := h.2.2.2.2.1 i j hi (by omega) (Ne.symm c.1)
      obtain ⟨q, q1, q2⟩ := hp j (by omega)
      rw [g2, q2, pk_mul, nI_add]
      have := Nat.mul_le_mul g1 q1
      exact ⟨k + g * q, by omega, rfl⟩
    · rw [if_neg c, Int32.add_zero]
      exact ⟨k, by omega, rfl⟩
theorem hb_n {e : Ev} {p : Nat → Int32} (h : okE e) (hp : okP p) {i : Nat} (hi : i < 5) : ∃ k, k ≤ 45000 ∧ hb e p i = nI k := by
  obtain ⟨k, h1, h2⟩ := hbL_n h hp hi e.1 h.2.1
  have := h.2.1
  exact ⟨k, by omega, h2⟩
theorem nd_n {e : Ev} {p : Nat → Int32} (h : okE e) (hp : okP p) {i : Nat} (hi : i < 5) : ∃ k, k < 2 ^ 31 ∧ nd e p i = nI k := by
  obtain ⟨k, h1, h2⟩ := hb_n h hp hi
  obtain ⟨g, g0, g1, g2⟩ := h.2.2.2.1 i hi
  obtain ⟨w, w0, w1, w2⟩ := h.2.2.2.2.2.1 i hi
  unfold nd
  rw [h2, g2, w2, show (10 : Int32) = nI 10 from rfl, pk_mul, pk_mul, nI_add]
  have := Nat.mul_le_mul w1 h1
  rw [show nI (w * k + 10 * g) - 1 = nI (w * k + 10 * g - 1) by rw [show w * k + 10 * g = w * k + 10 * g - 1 + 1 by omega, nI_pred, Nat.add_sub_cancel], pk_div (by omega) (by omega) (by omega)]
  exact ⟨_, Nat.lt_of_le_of_lt (Nat.div_le_self _ _) (by omega), rfl⟩
theorem stp_n {e : Ev} {p : Nat → Int32} (h : okE e) (hp : okP p) {i : Nat} (hi : i < 5) : ∃ k, k ≤ 999 ∧ stp e p i = nI k := by
  obtain ⟨k, h1, h2⟩ := nd_n h hp hi
  obtain ⟨c, c1, c2⟩ := h.2.2.2.2.2.2.2 i hi
  unfold stp
  rw [h2, c2]
  by_cases q : nI c < nI k
  · rw [if_pos q]; exact ⟨c, c1, rfl⟩
  · rw [if_neg q]
    rw [nI_ltI (by omega) h1] at q
    exact ⟨k, by omega, rfl⟩
theorem gol_n {e : Ev} {p : Nat → Int32} (h : okE e) (hp : okP p) {i : Nat} (hi : i < 5) : ∃ k, k ≤ 999 ∧ gol e p i = nI k := by
  obtain ⟨k, h1, h2⟩ := stp_n h hp hi
  obtain ⟨q, q1, q2⟩ := hp i hi
  unfold gol
  split
  · exact ⟨q, q1, q2⟩
  · split
    · rw [h2, q2, nI_add, nI_1, show (2 : Int32) = nI 2 from rfl, pk_div (by omega) (by omega) (by omega)]
      exact ⟨_, by omega, rfl⟩
    · exact ⟨k, h1, h2⟩
theorem rowA_n {e : Ev} {p : Nat → Int32} (h : okE e) (hp : okP p) : ∀ {i : Nat}, i ≤ 5 → okP (rowA e p i)
  | 0, _ => hp
  | i + 1, hi => by
    have ih := rowA_n h hp (i := i) (by omega)
    rw [rowA]
    split
    · intro k hk
      by_cases c : k = i
      · subst c; rw [up_eq]; exact gol_n h ih hk
      · rw [up_ne c]; exact ih k hk
    · exact ih
theorem fin_n {e : Ev} {p : Nat → Int32} (h : okE e) (hp : okP p) : okP (fin e p) := by
  intro i hi
  unfold fin
  split
  · exact gol_n h (rowA_n h hp (by omega)) hi
  · exact hp i hi
