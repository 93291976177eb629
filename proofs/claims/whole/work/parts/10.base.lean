/-! numbers, loops, frames -/
theorem lp_up {P : Nat → Prop} (n : Nat) (hx : P n) (hs : ∀ j, j < n → P (j + 1) → P j) : ∀ j, j ≤ n → P j := by
  intro j hj
  obtain ⟨k, rfl⟩ := Nat.exists_eq_add_of_le hj
  clear hj
  induction k generalizing j with
  | zero => exact hx
  | succ k ih => exact hs j (by omega) (ih (j + 1) (by rw [show j + 1 + k = j + (k + 1) by omega]; exact hx) (fun i hi => hs i (by omega)))
theorem nI_5 : (5 : Int32) = nI 5 := rfl
theorem ix5 (i j : Nat) : nI i * 5 + nI j = nI (5 * i + j) := by rw [nI_5, pk_mul, nI_add, Nat.mul_comm]
theorem ix5' (i j : Nat) : 5 * nI i + nI j = nI (5 * i + j) := by rw [nI_5, pk_mul, nI_add]
theorem ix6 (i : Nat) : 6 * nI i = nI (6 * i) := by rw [show (6 : Int32) = nI 6 from rfl, pk_mul]
theorem ix60 (s i : Nat) : 60 * nI s + nI i = nI (60 * s + i) := by rw [show (60 : Int32) = nI 60 from rfl, pk_mul, nI_add]
theorem cl {k : Nat} (h : k < 1000) : (nI k).toNatClampNeg = k := nI_clamp (by omega)
theorem vin {k N : Nat} (h : k < N) (hN : N < 1000) : vp_in (nI k) N := vp_in_nI h (by omega)
theorem c0 : (0 : Int32).toNatClampNeg = 0 := rfl
theorem i_zo (x : Int32) : x &&& 1 = 0 ∨ x &&& 1 = 1 := by
  obtain ⟨j, hj, e⟩ := pk_andE x (m := 1) 1 rfl
  rw [e]
  rcases (show j = 0 ∨ j = 1 by omega) with rfl | rfl
  · exact Or.inl rfl
  · exact Or.inr rfl
/-- only these cells differ -/
def fr (I J : List Nat) (σ τ : St) : Prop := (∀ a, a ∉ I → τ.1 a = σ.1 a) ∧ (∀ a, a ∉ J → τ.2 a = σ.2 a)
theorem fr.rf {I J : List Nat} {σ : St} : fr I J σ σ := ⟨fun _ _ => rfl, fun _ _ => rfl⟩
theorem fr.tr {I J : List Nat} {σ τ υ : St} (h : fr I J σ τ) (g : fr I J τ υ) : fr I J σ υ := ⟨fun a ha => (g.1 a ha).trans (h.1 a ha), fun a ha => (g.2 a ha).trans (h.2 a ha)⟩
theorem fr.mono {I J I' J' : List Nat} {σ τ : St} (h : fr I J σ τ) (hI : ∀ a ∈ I, a ∈ I') (hJ : ∀ a ∈ J, a ∈ J') : fr I' J' σ τ := ⟨fun a ha => h.1 a (fun q => ha (hI a q)), fun a ha => h.2 a (fun q => ha (hJ a q))⟩
theorem fr.sI {I J : List Nat} {σ τ : St} {a k : Nat} {v : Int32} (h : fr I J σ τ) (ha : a ∈ I) : fr I J σ (sI τ a k v) := by
  refine ⟨fun b hb => ?_, h.2⟩
  have : b ≠ a := fun q => hb (q ▸ ha)
  show (if b = a then _ else τ.1 b) = _
  rw [if_neg this]; exact h.1 b hb
theorem fr.sF {I J : List Nat} {σ τ : St} {a : Nat} {f : Nat → Int32} (h : fr I J σ τ) (ha : a ∈ I) : fr I J σ (sF τ a f) := by
  refine ⟨fun b hb => ?_, h.2⟩
  have : b ≠ a := fun q => hb (q ▸ ha)
  show (if b = a then _ else τ.1 b) = _
  rw [if_neg this]; exact h.1 b hb
theorem fr.sJ {I J : List Nat} {σ τ : St} {a k : Nat} {v : Int64} (h : fr I J σ τ) (ha : a ∈ J) : fr I J σ (sJ τ a k v) := by
  refine ⟨h.1, fun b hb => ?_⟩
  have : b ≠ a := fun q => hb (q ▸ ha)
  show (if b = a then _ else τ.2 b) = _
  rw [if_neg this]; exact h.2 b hb
theorem sI_eq (σ : St) (a k : Nat) (v : Int32) : (sI σ a k v).1 a = upd (σ.1 a) k v := by simp [sI, sF]
theorem sI_ne {σ : St} {a b k : Nat} {v : Int32} (h : b ≠ a) : (sI σ a k v).1 b = σ.1 b := by simp [sI, sF, h]
theorem sI_2 (σ : St) (a k : Nat) (v : Int32) : (sI σ a k v).2 = σ.2 := rfl
theorem sJ_eq (σ : St) (a k : Nat) (v : Int64) : (sJ σ a k v).2 a = vp_updL (σ.2 a) k v := by simp [sJ, sG]
theorem sJ_ne {σ : St} {a b k : Nat} {v : Int64} (h : b ≠ a) : (sJ σ a k v).2 b = σ.2 b := by simp [sJ, sG, h]
theorem sJ_1 (σ : St) (a k : Nat) (v : Int64) : (sJ σ a k v).1 = σ.1 := rfl
theorem sF_eq (σ : St) (a : Nat) (f : Nat → Int32) : (sF σ a f).1 a = f := by simp [sF]
theorem sF_ne {σ : St} {a b : Nat} {f : Nat → Int32} (h : b ≠ a) : (sF σ a f).1 b = σ.1 b := by simp [sF, h]
theorem sF_2 (σ : St) (a : Nat) (f : Nat → Int32) : (sF σ a f).2 = σ.2 := rfl
theorem up_eq (f : Nat → Int32) (k : Nat) (x : Int32) : upd f k x k = x := by simp [upd]
theorem up_ne {f : Nat → Int32} {k j : Nat} {x : Int32} (h : j ≠ k) : upd f k x j = f j := by simp [upd, h]
/-- the bit of a sender -/
def ob (σ : St) (i : Nat) : Int32 := (σ.1 1 1 >>> (nI i &&& 31)) &&& 1
theorem ob_zo (σ : St) (i : Nat) : ob σ i = 0 ∨ ob σ i = 1 := i_zo _
theorem th_ix (x : Int32) {n : Nat} (h : n ≤ 5) : x < 0 ∨ nI n ≤ x ∨ ∃ j, j < n ∧ x = nI j := pk_ix x (by omega)
/-- what is told: N, who is ON, GAINS, WISHES, NOISES, CAPS, RULE -/
abbrev Ev : Type := Nat × (Nat → Int32) × (Nat → Int32) × (Nat → Int32) × (Nat → Int32) × (Nat → Int32) × Int32
abbrev eon (e : Ev) : Nat → Int32 := e.2.1
abbrev eg (e : Ev) : Nat → Int32 := e.2.2.1
abbrev ew (e : Ev) : Nat → Int32 := e.2.2.2.1
abbrev eno (e : Ev) : Nat → Int32 := e.2.2.2.2.1
abbrev ecap (e : Ev) : Nat → Int32 := e.2.2.2.2.2.1
abbrev erule (e : Ev) : Int32 := e.2.2.2.2.2.2
def onC (σ : St) : Nat → Int32 := fun i => if i < 5 then ob σ i else 0
def onM (σ : St) : Nat → Int32 := fun i => if i < 5 then σ.1 30 i else 0
def evC (σ : St) : Ev := ((σ.1 1 0).toNatClampNeg, onC σ, σ.1 2, σ.1 3, σ.1 4, σ.1 5, σ.1 11 0)
def evM (σ : St) : Ev := ((σ.1 25 0).toNatClampNeg, onM σ, σ.1 26, σ.1 27, σ.1 28, σ.1 29, σ.1 25 1)
/-- the numbers are as told -/
def okE (e : Ev) : Prop := 1 ≤ e.1 ∧ e.1 ≤ 5 ∧ (∀ i, eon e i = 0 ∨ eon e i = 1) ∧ (∀ i, i < 5 → ∃ k, 1 ≤ k ∧ k ≤ 30 ∧ eg e (6 * i) = nI k) ∧ (∀ i j, i < 5 → j < 5 → i ≠ j → ∃ k, k ≤ 9 ∧ eg e (5 * i + j) = nI k) ∧ (∀ i, i < 5 → ∃ k, 1 ≤ k ∧ k ≤ 20 ∧ ew e i = nI k) ∧ (∀ i, i < 5 → ∃ k, k ≤ 9 ∧ eno e i = nI k) ∧ (∀ i, i < 5 → ∃ k, k ≤ 999 ∧ ecap e i = nI k)
def inC (σ : St) : Prop := okE (evC σ) ∧ σ.1 1 0 = nI (evC σ).1
def inM (σ : St) : Prop := okE (evM σ) ∧ σ.1 25 0 = nI (evM σ).1
/-- what a receiver hears of the first j -/
def hbL (e : Ev) (p : Nat → Int32) (i : Nat) : Nat → Int32
  | 0 => eno e i
  | j + 1 => hbL e p i j + (if j ≠ i ∧ eon e j = 1 then eg e (5 * i + j) * p j else 0)
def hb (e : Ev) (p : Nat → Int32) (i : Nat) : Int32 := hbL e p i e.1
/-- NEED -/
def nd (e : Ev) (p : Nat → Int32) (i : Nat) : Int32 := (ew e i * hb e p i + 10 * eg e (6 * i) - 1) / (10 * eg e (6 * i))
def stp (e : Ev) (p : Nat → Int32) (i : Nat) : Int32 := if ecap e i < nd e p i then ecap e i else nd e p i
def gol (e : Ev) (p : Nat → Int32) (i : Nat) : Int32 := if eon e i = 0 then p i else if erule e = 2 then (p i + stp e p i + 1) / 2 else stp e p i
def rowA (e : Ev) (p : Nat → Int32) : Nat → (Nat → Int32)
  | 0 => p
  | i + 1 => if erule e = 1 then upd (rowA e p i) i (gol e (rowA e p i) i) else rowA e p i
def nxt (e : Ev) (p : Nat → Int32) (i : Nat) : Int32 := gol e (rowA e p i) i
def cnt (e : Ev) (p : Nat → Int32) : Nat → Nat
  | 0 => 0
  | i + 1 => cnt e p i + (if nxt e p i = p i then 0 else 1)
def fin (e : Ev) (p : Nat → Int32) : Nat → Int32 := fun i => if i < e.1 then nxt e p i else p i
theorem rowA_ge {e : Ev} {p : Nat → Int32} : ∀ {i k : Nat}, i ≤ k → rowA e p i k = p k
  | 0, _, _ => rfl
  | i + 1, k, h => by
    unfold rowA
    split
    · rw [up_ne (by omega)]; exact rowA_ge (by omega)
    · exact rowA_ge (by omega)
theorem cnt_le (e : Ev) (p : Nat → Int32) : ∀ i, cnt e p i ≤ i
  | 0 => Nat.le_refl _
  | i + 1 => by unfold cnt; have := cnt_le e p i; split <;> omega
theorem cnt_0 {e : Ev} {p : Nat → Int32} : ∀ {n : Nat}, cnt e p n = 0 → ∀ i, i < n → nxt e p i = p i
  | n + 1, h, i, hi => by
    unfold cnt at h
    by_cases c : nxt e p n = p n
    · rcases (show i < n ∨ i = n by omega) with q | q
      · exact cnt_0 (n := n) (by omega) i q
      · rw [q]; exact c
    · rw [if_neg c] at h; omega
theorem fin_0 {e : Ev} {p : Nat → Int32} (h : cnt e p e.1 = 0) : fin e p = p := by
  funext i
  unfold fin
  split
  · exact cnt_0 h i (by assumption)
  · rfl
theorem rowA_row {e : Ev} {p : Nat → Int32} (hr : erule e = 1) : ∀ {i k : Nat}, k < i → rowA e p i k = nxt e p k
  | i + 1, k, h => by
    unfold rowA
    rw [if_pos hr]
    by_cases c : k = i
    · subst c; rw [up_eq]; rfl
    · rw [up_ne c]; exact rowA_row hr (by omega)
theorem evC_fr {I J : List Nat} {σ τ : St} (h : fr I J σ τ) (hI : 1 ∉ I ∧ 2 ∉ I ∧ 3 ∉ I ∧ 4 ∉ I ∧ 5 ∉ I ∧ 11 ∉ I) : evC τ = evC σ := by
  obtain ⟨h1, h2, h3, h4, h5, h6⟩ := hI
  have o : onC τ = onC σ := by funext i; unfold onC ob; rw [h.1 1 h1]
  unfold evC
  rw [o, h.1 1 h1, h.1 2 h2, h.1 3 h3, h.1 4 h4, h.1 5 h5, h.1 11 h6]
theorem inC_fr {I J : List Nat} {σ τ : St} (h : fr I J σ τ) (hI : 1 ∉ I ∧ 2 ∉ I ∧ 3 ∉ I ∧ 4 ∉ I ∧ 5 ∉ I ∧ 11 ∉ I) (k : inC σ) : inC τ := by
  unfold inC
  rw [evC_fr h hI, h.1 1 hI.1]
  exact k
theorem onC_ob {σ : St} {i : Nat} (h : i < 5) : onC σ i = ob σ i := by simp [onC, h]
theorem own_pos {e : Ev} (h : okE e) {i : Nat} (hi : i < 5) : 0 < 10 * eg e (6 * i) := by
  obtain ⟨k, h1, h2, h3⟩ := h.2.2.2.1 i hi
  rw [h3, show (10 : Int32) = nI 10 from rfl, pk_mul]
  exact nI_lt (a := 0) (by omega) (by omega)
/-- 0 where a number is outside, else 1 -/
def okI (v lo hi : Int32) : Int32 := if v < lo ∨ hi < v then 0 else 1
