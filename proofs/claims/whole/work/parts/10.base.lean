/-! numbers, loops, frames -/
theorem lp_up {P : Nat → Prop} (n : Nat) (hx : P n) (hs : ∀ j, j < n → P (j + 1) → P j) : ∀ j, j ≤ n → P j := by
  intro j hj
  obtain ⟨k, rfl⟩ := Nat.exists_eq_add_of_le hj
  clear hj
  induction k generalizing j with
  | zero => exact hx
  | succ k ih => exact hs j (by omega) (ih (j + 1) (by rw [show j + 1 + k = j + (k + 1) by omega]; exact hx) (fun i hi => hs i (by omega)))
theorem nI_5 : (5 : Int32) = nI 5 := rfl
theorem ix5 (i j : Nat) : nI i * 5 + nI j = nI (5 * i + j) := by rw [nI_5, pk_mul, nI_add, Nat.mul_comm]
theorem ix5' (i j : Nat) : 5 * nI i + nI j = nI (5 * i + j) := by rw [nI_5, pk_mul, nI_add]
theorem ix6 (i : Nat) : 6 * nI i = nI (6 * i) := by rw [show (6 : Int32) = nI 6 from rfl, pk_mul]
theorem ix60 (s i : Nat) : 60 * nI s + nI i = nI (60 * s + i) := by rw [show (60 : Int32) = nI 60 from rfl, pk_mul, nI_add]
theorem cl {k : Nat} (h : k < 1000) : (nI k).toNatClampNeg = k := nI_clamp (by omega)
theorem vin {k N : Nat} (h : k < N) (hN : N < 1000) : vp_in (nI k) N := vp_in_nI h (by omega)
theorem c0 : (0 : Int32).toNatClampNeg = 0 := rfl
theorem i_zo (x : Int32) : x &&& 1 = 0 ∨ x &&& 1 = 1 := by
  obtain ⟨j, hj, e⟩ := pk_andE x (m := 1) 1 rfl
  rw [e]
  rcases (show j = 0 ∨ j = 1 by omega) with rfl | rfl
  · exact Or.inl rfl
  · exact Or.inr rfl
/-- only these cells differ -/
def fr (I J : List Nat) (σ τ : St) : Prop := (∀ a, a ∉ I → τ.1 a = σ.1 a) ∧ (∀ a, a ∉ J → τ.2 a = σ.2 a)
theorem fr.rf {I J : List Nat} {σ : St} : fr I J σ σ := ⟨fun _ _ => rfl, fun _ _ => rfl⟩
theorem fr.tr {I J : List Nat} {σ τ υ : St} (h : fr I J σ τ) (g : fr I J τ υ) : fr I J σ υ := ⟨fun a ha => (g.1 a ha).trans (h.1 a ha), fun a ha => (g.2 a ha).trans (h.2 a ha)⟩
theorem fr.mono {I J I' J' : List Nat} {σ τ : St} (h : fr I J σ τ) (hI : ∀ a ∈ I, a ∈ I') (hJ : ∀ a ∈ J, a ∈ J') : fr I' J' σ τ := ⟨fun a ha => h.1 a (fun q => ha (hI a q)), fun a ha => h.2 a (fun q => ha (hJ a q))⟩
theorem fr.sI {I J : List Nat} {σ τ : St} {a k : Nat} {v : Int32} (h : fr I J σ τ) (ha : a ∈ I) : fr I J σ (sI τ a k v) := by
  refine ⟨fun b hb => ?_, h.2⟩
  have : b ≠ a := fun q => hb (q ▸ ha)
  show (if b = a then _ else τ.1 b) = _
  rw [if_neg this]; exact h.1 b hb
theorem fr.sF {I J : List Nat} {σ τ : St} {a : Nat} {f : Nat → Int32} (h : fr I J σ τ) (ha : a ∈ I) : fr I J σ (sF τ a f) := by
  refine ⟨fun b hb => ?_, h.2⟩
  have : b ≠ a := fun q => hb (q ▸ ha)
  show (if b = a then _ else τ.1 b) = _
  rw [if_neg this]; exact h.1 b hb
theorem fr.sJ {I J : List Nat} {σ τ : St} {a k : Nat} {v : Int64} (h : fr I J σ τ) (ha : a ∈ J) : fr I J σ (sJ τ a k v) := by
  refine ⟨h.1, fun b hb => ?_⟩
  have : b ≠ a := fun q => hb (q ▸ ha)
  show (if b = a then _ else τ.2 b) = _
  rw [if_neg this]; exact h.2 b hb
theorem sI_eq (σ : St) (a k : Nat) (v : Int32) : (sI σ a k v).1 a = upd (σ.1 a) k v := by simp [sI, sF]
theorem sI_ne {σ : St} {a b k : Nat} {v : Int32} (h : b ≠ a) : (sI σ a k v).1 b = σ.1 b := by simp [sI, sF, h]
theorem sI_2 (σ : St) (a k : Nat) (v : Int32) : (sI σ a k v).2 = σ.2 := rfl
theorem sJ_eq (σ : St) (a k : Nat) (v : Int64) : (sJ σ a k v).2 a = vp_updL (σ.2 a) k v := by simp [sJ, sG]
theorem sJ_ne {σ : St} {a b k : Nat} {v : Int64} (h : b ≠ a) : (sJ σ a k v).2 b = σ.2 b := by simp [sJ, sG, h]
theorem sJ_1 (σ : St) (a k : Nat) (v : Int64) : (sJ σ a k v).1 = σ.1 := rfl
theorem sF_eq (σ : St) (a : Nat) (f : Nat → Int32) : (sF σ a f).1 a = f := by simp [sF]
theorem sF_ne {σ : St} {a b : Nat} {f : Nat → Int32} (h : b ≠ a) : (sF σ a f).1 b = σ.1 b := by simp [sF, h]
theorem sF_2 (σ : St) (a : Nat) (f : Nat → Int32) : (sF σ a f).2 = σ.2 := rfl
theorem up_eq (f : Nat → Int32) (k : Nat) (x : Int32) : upd f k x k = x := by simp [upd]
theorem up_ne {f : Nat → Int32} {k j : Nat} {x : Int32} (h : j ≠ k) : upd f k x j = f j := by simp [upd, h]
/-- the bit of a sender -/
def ob (σ : St) (i : Nat) : Int32 := (σ.1 1 1 >>> (nI i &&& 31)) &&& 1
theorem ob_zo (σ : St) (i : Nat) : ob σ i = 0 ∨ ob σ i = 1 := i_zo _
theorem th_ix (x : Int32) {n : Nat} (h : n ≤ 5) : x < 0 ∨ nI n ≤ x ∨ ∃ j, j < n ∧ x = nI j := pk_ix x (by omega)
/-- what a receiver hears of the first j -/
def hbL (on g p : Nat → Int32) (no : Int32) (i : Nat) : Nat → Int32
  | 0 => no
  | j + 1 => hbL on g p no i j + (if j ≠ i ∧ on j = 1 then g (5 * i + j) * p j else 0)
def hb (n : Nat) (on g no p : Nat → Int32) (i : Nat) : Int32 := hbL on g p (no i) i n
/-- NEED -/
def nd (n : Nat) (on g w no p : Nat → Int32) (i : Nat) : Int32 := (w i * hb n on g no p i + 10 * g (6 * i) - 1) / (10 * g (6 * i))
