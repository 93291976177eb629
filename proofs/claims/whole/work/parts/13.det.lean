/-! sets of senders as numbers below 32; determinants by sets of columns -/
def lstI (s i : Nat) : List Nat := (List.range i).filter (fun k => s.testBit k)
def mem (s k : Nat) : Nat := (lstI s 5).getD k 0
theorem lstI_n : ∀ n, n ≤ 5 → ∀ s, s < 2 ^ n → lstI s n = lstI s 5 := by decide +kernel
theorem lst_pop : ∀ s, s < 32 → (lstI s 5).length = pop s := by decide +kernel
theorem mem_lt : ∀ n, n ≤ 5 → ∀ s, s < 2 ^ n → ∀ k, k < pop s → mem s k < n := by decide +kernel
theorem pop_le : ∀ s, s < 32 → pop s ≤ 5 := by decide +kernel
theorem pow_32 : ∀ n, n ≤ 5 → 2 ^ n ≤ 32 := by decide +kernel
theorem bit_j : ∀ s, s < 32 → ∀ i, i < 5 → ((nI s >>> (nI i &&& 31)) &&& 1) = (if s.testBit i then 1 else 0) := by decide +kernel
theorem shl_j : ∀ i, i < 6 → (1 : Int32) <<< (nI i &&& 31) = nI (2 ^ i) := by decide +kernel
theorem xor_j : ∀ s, s < 32 → ∀ i, i < 5 → s.testBit i = true → nI s ^^^ nI (2 ^ i) = nI (s - 2 ^ i) := by decide +kernel
theorem or_j : ∀ s, s < 32 → ∀ i, i < 5 → s.testBit i = false → nI s ||| nI (2 ^ i) = nI (s + 2 ^ i) := by decide +kernel
theorem tb_lt : ∀ n, n ≤ 5 → ∀ s, s < 2 ^ n → ∀ i, i < 5 → n ≤ i → s.testBit i = false := by decide +kernel
theorem tb_sub : ∀ s, s < 32 → ∀ i, i < 5 → s.testBit i = true → s - 2 ^ i < 32 ∧ s - 2 ^ i < s ∧ pop (s - 2 ^ i) + 1 = pop s := by decide +kernel
theorem pop_pos : ∀ s, s < 32 → 0 < s → 0 < pop s := by decide +kernel
theorem pop_lt : ∀ n, n ≤ 5 → ∀ s, s < 2 ^ n → pop s ≤ n := by decide +kernel
def evn (k m : Nat) : Bool := pop (k / 2 ^ m) % 2 == 0
theorem evn_s : ∀ k, k < 32 → ∀ m, m < 5 → evn k m = (if k.testBit m then !evn k (m + 1) else evn k (m + 1)) := by decide +kernel
theorem evn_t : ∀ n, n ≤ 5 → ∀ k, k < 2 ^ n → evn k n = true := by decide +kernel
def sm (f : Nat → Int64) : Nat → Int64
  | 0 => 0
  | n + 1 => sm f n + f n
theorem sm_c {f g : Nat → Int64} : ∀ {n : Nat}, (∀ c, c < n → f c = g c) → sm f n = sm g n
  | 0, _ => rfl
  | n + 1, h => by unfold sm; rw [sm_c (fun c hc => h c (by omega)), h n (by omega)]
theorem sm_z {f : Nat → Int64} {m : Nat} : ∀ {n : Nat}, m ≤ n → (∀ c, m ≤ c → c < n → f c = 0) → sm f n = sm f m
  | 0, h, _ => by rw [Nat.le_zero.mp h]
  | n + 1, h, hz => by
    rcases (show m = n + 1 ∨ m ≤ n by omega) with rfl | h2
    · rfl
    · show sm f n + f n = sm f m
      rw [sm_z h2 (fun c h1 h3 => hz c h1 (by omega)), hz n h2 (by omega), Int64.add_zero]
/-- the part of column c, of the row that the set k ends with -/
def tm (A T : Nat → Int64) (k c : Nat) : Int64 := if k.testBit c then (if evn k (c + 1) then A c * T (k - 2 ^ c) else -(A c * T (k - 2 ^ c))) else 0
def pdF (a : Nat → Nat → Int64) : Nat → Nat → Int64
  | 0, _ => 1
  | f + 1, k => if k = 0 then 1 else sm (tm (a (pop k - 1)) (pdF a f) k) 5
def pd (a : Nat → Nat → Int64) (k : Nat) : Int64 := pdF a 5 k
theorem tm_c {A B T U : Nat → Int64} {k c : Nat} (h : k.testBit c = true → A c = B c ∧ T (k - 2 ^ c) = U (k - 2 ^ c)) : tm A T k c = tm B U k c := by
  unfold tm
  split
  · next q => rw [(h q).1, (h q).2]
  · rfl
theorem pdF_s (a : Nat → Nat → Int64) : ∀ (f k : Nat), k < 32 → pop k ≤ f → pdF a f k = pdF a (f + 1) k
  | 0, k, hk, hp => by
    have : k = 0 := by
      rcases Nat.eq_zero_or_pos k with h | h
      · exact h
      · have := pop_pos k hk h; omega
    subst this; rfl
  | f + 1, k, hk, hp => by
    rw [pdF, pdF]
    split
    · rfl
    · refine sm_c (fun c hc => tm_c (fun h => ⟨rfl, ?_⟩))
      have := tb_sub k hk c hc h
      exact pdF_s a f _ this.1 (by omega)
theorem pd_0 (a : Nat → Nat → Int64) : pd a 0 = 1 := rfl
theorem pd_eq (a : Nat → Nat → Int64) {k m : Nat} (hm : m ≤ 5) (hk : k < 2 ^ m) (h0 : 0 < k) : pd a k = sm (tm (a (pop k - 1)) (pd a) k) m := by
  have h32 : k < 32 := Nat.lt_of_lt_of_le hk (pow_32 m hm)
  have e : pd a k = sm (tm (a (pop k - 1)) (pd a) k) 5 := by
    unfold pd
    rw [pdF, if_neg (by omega)]
    refine sm_c (fun c hc => tm_c (fun h => ⟨rfl, ?_⟩))
    have := tb_sub k h32 c hc h
    have := pop_le k h32
    exact pdF_s a 4 _ (by omega) (by omega)
  rw [e]
  exact sm_z hm (fun c h1 h2 => by unfold tm; rw [tb_lt m hm k hk c h2 h1]; rfl)
theorem pd_c {a b : Nat → Nat → Int64} {m : Nat} (hm : m ≤ 5) (h : ∀ r c, r < m → c < m → a r c = b r c) : ∀ k, k < 2 ^ m → pd a k = pd b k := by
  intro k
  induction k using Nat.strongRecOn with
  | ind k ih =>
    intro hk
    rcases Nat.eq_zero_or_pos k with h0 | h0
    · subst h0; rw [pd_0, pd_0]
    · rw [pd_eq a hm hk h0, pd_eq b hm hk h0]
      have h32 : k < 32 := Nat.lt_of_lt_of_le hk (pow_32 m hm)
      have := pop_lt m hm k hk
      have := pop_pos k h32 h0
      refine sm_c (fun c hc => tm_c (fun q => ⟨h _ _ (by omega) hc, ?_⟩))
      have t := tb_sub k h32 c (by omega) q
      exact ih _ t.2.1 (by omega)
/-- the first m leading ones are above 0 -/
def fsb (D : Nat → Int64) : Nat → Bool
  | 0 => true
  | m + 1 => fsb D m && decide (0 < D (2 ^ (m + 1) - 1))
theorem fsb_c {D E : Nat → Int64} : ∀ {m : Nat}, (∀ k, k < 2 ^ m → D k = E k) → fsb D m = fsb E m
  | 0, _ => rfl
  | m + 1, h => by
    have : 2 ^ (m + 1) = 2 * 2 ^ m := by rw [Nat.pow_succ, Nat.mul_comm]
    have p : 0 < 2 ^ m := Nat.two_pow_pos m
    unfold fsb; rw [fsb_c (fun k hk => h k (by omega)), h _ (by omega)]
theorem fsb_f {D : Nat → Int64} : ∀ {m j : Nat}, j < m → ¬ 0 < D (2 ^ (j + 1) - 1) → fsb D m = false
  | m + 1, j, h, hd => by
    unfold fsb
    rcases (show j = m ∨ j < m by omega) with rfl | q
    · simp [hd]
    · rw [fsb_f q hd]; rfl
def subm (a : Nat → Nat → Int64) (s : Nat) : Nat → Nat → Int64 := fun r c => a (mem s r) (mem s c)
def feas (a : Nat → Nat → Int64) (s : Nat) : Bool := fsb (pd (subm a s)) (pop s)
def mnr (a : Nat → Nat → Int64) (s : Nat) : Int64 := pd (subm a s) (2 ^ pop s - 1)
theorem feas_c {a b : Nat → Nat → Int64} {n s : Nat} (hn : n ≤ 5) (hs : s < 2 ^ n) (h : ∀ i j, i < n → j < n → a i j = b i j) : feas a s = feas b s := by
  have h32 : s < 32 := Nat.lt_of_lt_of_le hs (pow_32 n hn)
  exact fsb_c (pd_c (pop_le s h32) (fun r c hr hc => h _ _ (mem_lt n hn s hs r hr) (mem_lt n hn s hs c hc)))
theorem mnr_c {a b : Nat → Nat → Int64} {n s : Nat} (hn : n ≤ 5) (hs : s < 2 ^ n) (h : ∀ i j, i < n → j < n → a i j = b i j) : mnr a s = mnr b s := by
  have h32 : s < 32 := Nat.lt_of_lt_of_le hs (pow_32 n hn)
  exact pd_c (pop_le s h32) (fun r c hr hc => h _ _ (mem_lt n hn s hs r hr) (mem_lt n hn s hs c hc)) _ (by have := Nat.two_pow_pos (pop s); omega)
/-- the square of LAWS: own times ow, wishes W -/
def en (e : Ev) (ow : Int64) (W : Nat → Int64) (i j : Nat) : Int64 := if i = j then 10 * ow * (eg e (6 * i)).toInt64 else -(W i) * (eg e (5 * i + j)).toInt64
