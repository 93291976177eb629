/-! to be proved: the matrices -/
theorem ls_ok {e : Ev} (h : okE e) (hf : feas (enT e) (onm e) = true) {i : Nat} (hi : i < e.1) (ho : eon e i = 1) : ∃ a b : Nat, a < 2 ^ 63 ∧ 0 < b ∧ b < 2 ^ 49 ∧ lsA e i = lN a ∧ lsB e = lN b := sorry
theorem wit_ok {e : Ev} (h : okE e) (hf : feas (enT e) (onm e) = true) : ∀ s, s &&& onm e = s → feas (enT e) s = true := sorry
