set_option maxHeartbeats 4000000 in
set_option maxRecDepth 100000 in
theorem t_L_law_18 {Γ : GT} {N : NT} {b L : Nat} {xs : Nat → Int32} (hR : rmOk 10 N) (hE : ∀ s A, N.2.2.2.2 s A → va_X b L xs s s.heap ∧ b < s.heap.size ∧ ¬ A b) (σ : St) (x3 : Int32)
    (h : ((((nI L) - (6 : Int32)) < x3) → (G Γ mL_law N 1073 [(0, .ref b), (1, rf Γ 0), (2, rf Γ 25), (3, .int x3)] [] σ)) ∧ ((¬ ((nI L) - (6 : Int32)) < x3) → (vp_in x3 L ∧ ((((xs x3.toNatClampNeg) &&& (63 : Int32)) = 0 → (G Γ mL_law N 188 [(0, .ref b), (1, rf Γ 0), (2, rf Γ 25), (3, .int x3)] [] σ)) ∧ (((xs x3.toNatClampNeg) &&& (63 : Int32)) = 1 → (G Γ mL_law N 211 [(0, .ref b), (1, rf Γ 0), (2, rf Γ 25), (3, .int x3)] [] σ)) ∧ (((xs x3.toNatClampNeg) &&& (63 : Int32)) = 2 → (G Γ mL_law N 254 [(0, .ref b), (1, rf Γ 0), (2, rf Γ 25), (3, .int x3)] [] σ)) ∧ (((xs x3.toNatClampNeg) &&& (63 : Int32)) = 3 → (G Γ mL_law N 297 [(0, .ref b), (1, rf Γ 0), (2, rf Γ 25), (3, .int x3)] [] σ)) ∧ (((xs x3.toNatClampNeg) &&& (63 : Int32)) = 4 → (G Γ mL_law N 320 [(0, .ref b), (1, rf Γ 0), (2, rf Γ 25), (3, .int x3)] [] σ)) ∧ (((xs x3.toNatClampNeg) &&& (63 : Int32)) = 5 → (G Γ mL_law N 353 [(0, .ref b), (1, rf Γ 0), (2, rf Γ 25), (3, .int x3)] [] σ)) ∧ (((xs x3.toNatClampNeg) &&& (63 : Int32)) = 6 → (G Γ mL_law N 376 [(0, .ref b), (1, rf Γ 0), (2, rf Γ 25), (3, .int x3)] [] σ)) ∧ (((xs x3.toNatClampNeg) &&& (63 : Int32)) = 7 → (G Γ mL_law N 399 [(0, .ref b), (1, rf Γ 0), (2, rf Γ 25), (3, .int x3)] [] σ)) ∧ (((xs x3.toNatClampNeg) &&& (63 : Int32)) = 8 → (G Γ mL_law N 412 [(0, .ref b), (1, rf Γ 0), (2, rf Γ 25), (3, .int x3)] [] σ)) ∧ (((xs x3.toNatClampNeg) &&& (63 : Int32)) = 9 → (G Γ mL_law N 425 [(0, .ref b), (1, rf Γ 0), (2, rf Γ 25), (3, .int x3)] [] σ)) ∧ (((xs x3.toNatClampNeg) &&& (63 : Int32)) = 10 → (G Γ mL_law N 448 [(0, .ref b), (1, rf Γ 0), (2, rf Γ 25), (3, .int x3)] [] σ)) ∧ (((xs x3.toNatClampNeg) &&& (63 : Int32)) = 11 → (G Γ mL_law N 481 [(0, .ref b), (1, rf Γ 0), (2, rf Γ 25), (3, .int x3)] [] σ)) ∧ (((xs x3.toNatClampNeg) &&& (63 : Int32)) = 12 → (G Γ mL_law N 514 [(0, .ref b), (1, rf Γ 0), (2, rf Γ 25), (3, .int x3)] [] σ)) ∧ (((xs x3.toNatClampNeg) &&& (63 : Int32)) = 13 → (G Γ mL_law N 538 [(0, .ref b), (1, rf Γ 0), (2, rf Γ 25), (3, .int x3)] [] σ)) ∧ (((xs x3.toNatClampNeg) &&& (63 : Int32)) = 14 → (G Γ mL_law N 551 [(0, .ref b), (1, rf Γ 0), (2, rf Γ 25), (3, .int x3)] [] σ)) ∧ (((xs x3.toNatClampNeg) &&& (63 : Int32)) = 15 → (G Γ mL_law N 585 [(0, .ref b), (1, rf Γ 0), (2, rf Γ 25), (3, .int x3)] [] σ)) ∧ (((xs x3.toNatClampNeg) &&& (63 : Int32)) = 16 → (G Γ mL_law N 598 [(0, .ref b), (1, rf Γ 0), (2, rf Γ 25), (3, .int x3)] [] σ)) ∧ (((xs x3.toNatClampNeg) &&& (63 : Int32)) = 17 → (G Γ mL_law N 611 [(0, .ref b), (1, rf Γ 0), (2, rf Γ 25), (3, .int x3)] [] σ)) ∧ (((xs x3.toNatClampNeg) &&& (63 : Int32)) = 18 → (G Γ mL_law N 624 [(0, .ref b), (1, rf Γ 0), (2, rf Γ 25), (3, .int x3)] [] σ)) ∧ (((xs x3.toNatClampNeg) &&& (63 : Int32)) = 19 → (G Γ mL_law N 637 [(0, .ref b), (1, rf Γ 0), (2, rf Γ 25), (3, .int x3)] [] σ)) ∧ (((xs x3.toNatClampNeg) &&& (63 : Int32)) = 20 → (G Γ mL_law N 650 [(0, .ref b), (1, rf Γ 0), (2, rf Γ 25), (3, .int x3)] [] σ)) ∧ (((xs x3.toNatClampNeg) &&& (63 : Int32)) = 21 → (G Γ mL_law N 684 [(0, .ref b), (1, rf Γ 0), (2, rf Γ 25), (3, .int x3)] [] σ)) ∧ (((xs x3.toNatClampNeg) &&& (63 : Int32)) = 22 → (G Γ mL_law N 707 [(0, .ref b), (1, rf Γ 0), (2, rf Γ 25), (3, .int x3)] [] σ)) ∧ (((xs x3.toNatClampNeg) &&& (63 : Int32)) = 23 → (G Γ mL_law N 720 [(0, .ref b), (1, rf Γ 0), (2, rf Γ 25), (3, .int x3)] [] σ)) ∧ (((xs x3.toNatClampNeg) &&& (63 : Int32)) = 24 → (G Γ mL_law N 733 [(0, .ref b), (1, rf Γ 0), (2, rf Γ 25), (3, .int x3)] [] σ)) ∧ (((xs x3.toNatClampNeg) &&& (63 : Int32)) = 25 → (G Γ mL_law N 746 [(0, .ref b), (1, rf Γ 0), (2, rf Γ 25), (3, .int x3)] [] σ)) ∧ (((xs x3.toNatClampNeg) &&& (63 : Int32)) = 26 → (G Γ mL_law N 769 [(0, .ref b), (1, rf Γ 0), (2, rf Γ 25), (3, .int x3)] [] σ)) ∧ (((xs x3.toNatClampNeg) &&& (63 : Int32)) = 27 → (G Γ mL_law N 782 [(0, .ref b), (1, rf Γ 0), (2, rf Γ 25), (3, .int x3)] [] σ)) ∧ (((xs x3.toNatClampNeg) &&& (63 : Int32)) = 28 → (G Γ mL_law N 825 [(0, .ref b), (1, rf Γ 0), (2, rf Γ 25), (3, .int x3)] [] σ)) ∧ (((xs x3.toNatClampNeg) &&& (63 : Int32)) = 29 → (G Γ mL_law N 848 [(0, .ref b), (1, rf Γ 0), (2, rf Γ 25), (3, .int x3)] [] σ)) ∧ (((xs x3.toNatClampNeg) &&& (63 : Int32)) = 30 → (G Γ mL_law N 901 [(0, .ref b), (1, rf Γ 0), (2, rf Γ 25), (3, .int x3)] [] σ)) ∧ (((xs x3.toNatClampNeg) &&& (63 : Int32)) = 31 → (G Γ mL_law N 944 [(0, .ref b), (1, rf Γ 0), (2, rf Γ 25), (3, .int x3)] [] σ)) ∧ (((xs x3.toNatClampNeg) &&& (63 : Int32)) = 32 → (G Γ mL_law N 1007 [(0, .ref b), (1, rf Γ 0), (2, rf Γ 25), (3, .int x3)] [] σ)) ∧ (((xs x3.toNatClampNeg) &&& (63 : Int32)) = 33 → (G Γ mL_law N 1030 [(0, .ref b), (1, rf Γ 0), (2, rf Γ 25), (3, .int x3)] [] σ)) ∧ (((xs x3.toNatClampNeg) &&& (63 : Int32)) = 34 → (G Γ mL_law N 1053 [(0, .ref b), (1, rf Γ 0), (2, rf Γ 25), (3, .int x3)] [] σ)) ∧ (¬ ((xs x3.toNatClampNeg) &&& (63 : Int32)) = 0 → ¬ ((xs x3.toNatClampNeg) &&& (63 : Int32)) = 1 → ¬ ((xs x3.toNatClampNeg) &&& (63 : Int32)) = 2 → ¬ ((xs x3.toNatClampNeg) &&& (63 : Int32)) = 3 → ¬ ((xs x3.toNatClampNeg) &&& (63 : Int32)) = 4 → ¬ ((xs x3.toNatClampNeg) &&& (63 : Int32)) = 5 → ¬ ((xs x3.toNatClampNeg) &&& (63 : Int32)) = 6 → ¬ ((xs x3.toNatClampNeg) &&& (63 : Int32)) = 7 → ¬ ((xs x3.toNatClampNeg) &&& (63 : Int32)) = 8 → ¬ ((xs x3.toNatClampNeg) &&& (63 : Int32)) = 9 → ¬ ((xs x3.toNatClampNeg) &&& (63 : Int32)) = 10 → ¬ ((xs x3.toNatClampNeg) &&& (63 : Int32)) = 11 → ¬ ((xs x3.toNatClampNeg) &&& (63 : Int32)) = 12 → ¬ ((xs x3.toNatClampNeg) &&& (63 : Int32)) = 13 → ¬ ((xs x3.toNatClampNeg) &&& (63 : Int32)) = 14 → ¬ ((xs x3.toNatClampNeg) &&& (63 : Int32)) = 15 → ¬ ((xs x3.toNatClampNeg) &&& (63 : Int32)) = 16 → ¬ ((xs x3.toNatClampNeg) &&& (63 : Int32)) = 17 → ¬ ((xs x3.toNatClampNeg) &&& (63 : Int32)) = 18 → ¬ ((xs x3.toNatClampNeg) &&& (63 : Int32)) = 19 → ¬ ((xs x3.toNatClampNeg) &&& (63 : Int32)) = 20 → ¬ ((xs x3.toNatClampNeg) &&& (63 : Int32)) = 21 → ¬ ((xs x3.toNatClampNeg) &&& (63 : Int32)) = 22 → ¬ ((xs x3.toNatClampNeg) &&& (63 : Int32)) = 23 → ¬ ((xs x3.toNatClampNeg) &&& (63 : Int32)) = 24 → ¬ ((xs x3.toNatClampNeg) &&& (63 : Int32)) = 25 → ¬ ((xs x3.toNatClampNeg) &&& (63 : Int32)) = 26 → ¬ ((xs x3.toNatClampNeg) &&& (63 : Int32)) = 27 → ¬ ((xs x3.toNatClampNeg) &&& (63 : Int32)) = 28 → ¬ ((xs x3.toNatClampNeg) &&& (63 : Int32)) = 29 → ¬ ((xs x3.toNatClampNeg) &&& (63 : Int32)) = 30 → ¬ ((xs x3.toNatClampNeg) &&& (63 : Int32)) = 31 → ¬ ((xs x3.toNatClampNeg) &&& (63 : Int32)) = 32 → ¬ ((xs x3.toNatClampNeg) &&& (63 : Int32)) = 33 → ¬ ((xs x3.toNatClampNeg) &&& (63 : Int32)) = 34 → (G Γ mL_law N 18 [(0, .ref b), (1, rf Γ 0), (2, rf Γ 25), (3, .int (x3 + (6 : Int32)))] [] σ)))))) :
    G Γ mL_law N 18 [(0, .ref b), (1, rf Γ 0), (2, rf Γ 25), (3, .int x3)] [] σ := by
  refine g_iload_n (pc := 18) dL_law_18 rfl 3 rfl ?_
  refine g_aload_n (pc := 19) dL_law_19 rfl 0 rfl ?_
  refine g_slen (pc := 20) hE dL_law_20 ?_
  refine g_bipush (pc := 21) (6 : Int32) dL_law_21 rfl ?_
  refine g_isub (pc := 23) dL_law_23 ?_
  refine g_icmp_gt (pc := 24) 1073 dL_law_24 (by decide) (fun q => ?_) (fun q => ?_)
  · have h := h.1 q
    exact h
  · have h := h.2 q
    refine g_aload_n (pc := 27) dL_law_27 rfl 0 rfl ?_
    refine g_iload_n (pc := 28) dL_law_28 rfl 3 rfl ?_
    refine g_sld (pc := 29) hE h.1 dL_law_29 ?_
    have h := h.2
    refine g_bipush (pc := 30) (63 : Int32) dL_law_30 rfl ?_
    refine g_iand (pc := 32) dL_law_32 ?_
    by_cases q0 : ((xs x3.toNatClampNeg) &&& (63 : Int32)) = 0
    · have h := h.1 q0
      refine g_tswK (pc := 33) 0 188 dL_law_33 q0 (by decide) (by decide) rfl (by decide) ?_
      exact h
    by_cases q1 : ((xs x3.toNatClampNeg) &&& (63 : Int32)) = 1
    · have h := h.2.1 q1
      refine g_tswK (pc := 33) 1 211 dL_law_33 q1 (by decide) (by decide) rfl (by decide) ?_
      exact h
    by_cases q2 : ((xs x3.toNatClampNeg) &&& (63 : Int32)) = 2
    · have h := h.2.2.1 q2
      refine g_tswK (pc := 33) 2 254 dL_law_33 q2 (by decide) (by decide) rfl (by decide) ?_
      exact h
    by_cases q3 : ((xs x3.toNatClampNeg) &&& (63 : Int32)) = 3
    · have h := h.2.2.2.1 q3
      refine g_tswK (pc := 33) 3 297 dL_law_33 q3 (by decide) (by decide) rfl (by decide) ?_
      exact h
    by_cases q4 : ((xs x3.toNatClampNeg) &&& (63 : Int32)) = 4
    · have h := h.2.2.2.2.1 q4
      refine g_tswK (pc := 33) 4 320 dL_law_33 q4 (by decide) (by decide) rfl (by decide) ?_
      exact h
    by_cases q5 : ((xs x3.toNatClampNeg) &&& (63 : Int32)) = 5
    · have h := h.2.2.2.2.2.1 q5
      refine g_tswK (pc := 33) 5 353 dL_law_33 q5 (by decide) (by decide) rfl (by decide) ?_
      exact h
    by_cases q6 : ((xs x3.toNatClampNeg) &&& (63 : Int32)) = 6
    · have h := h.2.2.2.2.2.2.1 q6
      refine g_tswK (pc := 33) 6 376 dL_law_33 q6 (by decide) (by decide) rfl (by decide) ?_
      exact h
    by_cases q7 : ((xs x3.toNatClampNeg) &&& (63 : Int32)) = 7
    · have h := h.2.2.2.2.2.2.2.1 q7
      refine g_tswK (pc := 33) 7 399 dL_law_33 q7 (by decide) (by decide) rfl (by decide) ?_
      exact h
    by_cases q8 : ((xs x3.toNatClampNeg) &&& (63 : Int32)) = 8
    · have h := h.2.2.2.2.2.2.2.2.1 q8
      refine g_tswK (pc := 33) 8 412 dL_law_33 q8 (by decide) (by decide) rfl (by decide) ?_
      exact h
    by_cases q9 : ((xs x3.toNatClampNeg) &&& (63 : Int32)) = 9
    · have h := h.2.2.2.2.2.2.2.2.2.1 q9
      refine g_tswK (pc := 33) 9 425 dL_law_33 q9 (by decide) (by decide) rfl (by decide) ?_
      exact h
    by_cases q10 : ((xs x3.toNatClampNeg) &&& (63 : Int32)) = 10
    · have h := h.2.2.2.2.2.2.2.2.2.2.1 q10
      refine g_tswK (pc := 33) 10 448 dL_law_33 q10 (by decide) (by decide) rfl (by decide) ?_
      exact h
    by_cases q11 : ((xs x3.toNatClampNeg) &&& (63 : Int32)) = 11
    · have h := h.2.2.2.2.2.2.2.2.2.2.2.1 q11
      refine g_tswK (pc := 33) 11 481 dL_law_33 q11 (by decide) (by decide) rfl (by decide) ?_
      exact h
    by_cases q12 : ((xs x3.toNatClampNeg) &&& (63 : Int32)) = 12
    · have h := h.2.2.2.2.2.2.2.2.2.2.2.2.1 q12
      refine g_tswK (pc := 33) 12 514 dL_law_33 q12 (by decide) (by decide) rfl (by decide) ?_
      exact h
    by_cases q13 : ((xs x3.toNatClampNeg) &&& (63 : Int32)) = 13
    · have h := h.2.2.2.2.2.2.2.2.2.2.2.2.2.1 q13
      refine g_tswK (pc := 33) 13 538 dL_law_33 q13 (by decide) (by decide) rfl (by decide) ?_
      exact h
    by_cases q14 : ((xs x3.toNatClampNeg) &&& (63 : Int32)) = 14
    · have h := h.2.2.2.2.2.2.2.2.2.2.2.2.2.2.1 q14
      refine g_tswK (pc := 33) 14 551 dL_law_33 q14 (by decide) (by decide) rfl (by decide) ?_
      exact h
    by_cases q15 : ((xs x3.toNatClampNeg) &&& (63 : Int32)) = 15
    · have h := h.2.2.2.2.2.2.2.2.2.2.2.2.2.2.2.1 q15
      refine g_tswK (pc := 33) 15 585 dL_law_33 q15 (by decide) (by decide) rfl (by decide) ?_
      exact h
    by_cases q16 : ((xs x3.toNatClampNeg) &&& (63 : Int32)) = 16
    · have h := h.2.2.2.2.2.2.2.2.2.2.2.2.2.2.2.2.1 q16
      refine g_tswK (pc := 33) 16 598 dL_law_33 q16 (by decide) (by decide) rfl (by decide) ?_
      exact h
    by_cases q17 : ((xs x3.toNatClampNeg) &&& (63 : Int32)) = 17
    · have h := h.2.2.2.2.2.2.2.2.2.2.2.2.2.2.2.2.2.1 q17
      refine g_tswK (pc := 33) 17 611 dL_law_33 q17 (by decide) (by decide) rfl (by decide) ?_
      exact h
    by_cases q18 : ((xs x3.toNatClampNeg) &&& (63 : Int32)) = 18
    · have h := h.2.2.2.2.2.2.2.2.2.2.2.2.2.2.2.2.2.2.1 q18
      refine g_tswK (pc := 33) 18 624 dL_law_33 q18 (by decide) (by decide) rfl (by decide) ?_
      exact h
    by_cases q19 : ((xs x3.toNatClampNeg) &&& (63 : Int32)) = 19
    · have h := h.2.2.2.2.2.2.2.2.2.2.2.2.2.2.2.2.2.2.2.1 q19
      refine g_tswK (pc := 33) 19 637 dL_law_33 q19 (by decide) (by decide) rfl (by decide) ?_
      exact h
    by_cases q20 : ((xs x3.toNatClampNeg) &&& (63 : Int32)) = 20
    · have h := h.2.2.2.2.2.2.2.2.2.2.2.2.2.2.2.2.2.2.2.2.1 q20
      refine g_tswK (pc := 33) 20 650 dL_law_33 q20 (by decide) (by decide) rfl (by decide) ?_
      exact h
    by_cases q21 : ((xs x3.toNatClampNeg) &&& (63 : Int32)) = 21
    · have h := h.2.2.2.2.2.2.2.2.2.2.2.2.2.2.2.2.2.2.2.2.2.1 q21
      refine g_tswK (pc := 33) 21 684 dL_law_33 q21 (by decide) (by decide) rfl (by decide) ?_
      exact h
    by_cases q22 : ((xs x3.toNatClampNeg) &&& (63 : Int32)) = 22
    · have h := h.2.2.2.2.2.2.2.2.2.2.2.2.2.2.2.2.2.2.2.2.2.2.1 q22
      refine g_tswK (pc := 33) 22 707 dL_law_33 q22 (by decide) (by decide) rfl (by decide) ?_
      exact h
    by_cases q23 : ((xs x3.toNatClampNeg) &&& (63 : Int32)) = 23
    · have h := h.2.2.2.2.2.2.2.2.2.2.2.2.2.2.2.2.2.2.2.2.2.2.2.1 q23
      refine g_tswK (pc := 33) 23 720 dL_law_33 q23 (by decide) (by decide) rfl (by decide) ?_
      exact h
    by_cases q24 : ((xs x3.toNatClampNeg) &&& (63 : Int32)) = 24
    · have h := h.2.2.2.2.2.2.2.2.2.2.2.2.2.2.2.2.2.2.2.2.2.2.2.2.1 q24
      refine g_tswK (pc := 33) 24 733 dL_law_33 q24 (by decide) (by decide) rfl (by decide) ?_
      exact h
    by_cases q25 : ((xs x3.toNatClampNeg) &&& (63 : Int32)) = 25
    · have h := h.2.2.2.2.2.2.2.2.2.2.2.2.2.2.2.2.2.2.2.2.2.2.2.2.2.1 q25
      refine g_tswK (pc := 33) 25 746 dL_law_33 q25 (by decide) (by decide) rfl (by decide) ?_
      exact h
    by_cases q26 : ((xs x3.toNatClampNeg) &&& (63 : Int32)) = 26
    · have h := h.2.2.2.2.2.2.2.2.2.2.2.2.2.2.2.2.2.2.2.2.2.2.2.2.2.2.1 q26
      refine g_tswK (pc := 33) 26 769 dL_law_33 q26 (by decide) (by decide) rfl (by decide) ?_
      exact h
    by_cases q27 : ((xs x3.toNatClampNeg) &&& (63 : Int32)) = 27
    · have h := h.2.2.2.2.2.2.2.2.2.2.2.2.2.2.2.2.2.2.2.2.2.2.2.2.2.2.2.1 q27
      refine g_tswK (pc := 33) 27 782 dL_law_33 q27 (by decide) (by decide) rfl (by decide) ?_
      exact h
    by_cases q28 : ((xs x3.toNatClampNeg) &&& (63 : Int32)) = 28
    · have h := h.2.2.2.2.2.2.2.2.2.2.2.2.2.2.2.2.2.2.2.2.2.2.2.2.2.2.2.2.1 q28
      refine g_tswK (pc := 33) 28 825 dL_law_33 q28 (by decide) (by decide) rfl (by decide) ?_
      exact h
    by_cases q29 : ((xs x3.toNatClampNeg) &&& (63 : Int32)) = 29
    · have h := h.2.2.2.2.2.2.2.2.2.2.2.2.2.2.2.2.2.2.2.2.2.2.2.2.2.2.2.2.2.1 q29
      refine g_tswK (pc := 33) 29 848 dL_law_33 q29 (by decide) (by decide) rfl (by decide) ?_
      exact h
    by_cases q30 : ((xs x3.toNatClampNeg) &&& (63 : Int32)) = 30
    · have h := h.2.2.2.2.2.2.2.2.2.2.2.2.2.2.2.2.2.2.2.2.2.2.2.2.2.2.2.2.2.2.1 q30
      refine g_tswK (pc := 33) 30 901 dL_law_33 q30 (by decide) (by decide) rfl (by decide) ?_
      exact h
    by_cases q31 : ((xs x3.toNatClampNeg) &&& (63 : Int32)) = 31
    · have h := h.2.2.2.2.2.2.2.2.2.2.2.2.2.2.2.2.2.2.2.2.2.2.2.2.2.2.2.2.2.2.2.1 q31
      refine g_tswK (pc := 33) 31 944 dL_law_33 q31 (by decide) (by decide) rfl (by decide) ?_
      exact h
    by_cases q32 : ((xs x3.toNatClampNeg) &&& (63 : Int32)) = 32
    · have h := h.2.2.2.2.2.2.2.2.2.2.2.2.2.2.2.2.2.2.2.2.2.2.2.2.2.2.2.2.2.2.2.2.1 q32
      refine g_tswK (pc := 33) 32 1007 dL_law_33 q32 (by decide) (by decide) rfl (by decide) ?_
      exact h
    by_cases q33 : ((xs x3.toNatClampNeg) &&& (63 : Int32)) = 33
    · have h := h.2.2.2.2.2.2.2.2.2.2.2.2.2.2.2.2.2.2.2.2.2.2.2.2.2.2.2.2.2.2.2.2.2.1 q33
      refine g_tswK (pc := 33) 33 1030 dL_law_33 q33 (by decide) (by decide) rfl (by decide) ?_
      exact h
    by_cases q34 : ((xs x3.toNatClampNeg) &&& (63 : Int32)) = 34
    · have h := h.2.2.2.2.2.2.2.2.2.2.2.2.2.2.2.2.2.2.2.2.2.2.2.2.2.2.2.2.2.2.2.2.2.2.1 q34
      refine g_tswK (pc := 33) 34 1053 dL_law_33 q34 (by decide) (by decide) rfl (by decide) ?_
      exact h
    have h := h.2.2.2.2.2.2.2.2.2.2.2.2.2.2.2.2.2.2.2.2.2.2.2.2.2.2.2.2.2.2.2.2.2.2.2 q0 q1 q2 q3 q4 q5 q6 q7 q8 q9 q10 q11 q12 q13 q14 q15 q16 q17 q18 q19 q20 q21 q22 q23 q24 q25 q26 q27 q28 q29 q30 q31 q32 q33 q34
    refine g_tswD (pc := 33) 1067 dL_law_33 (sw_out 34 (fun k hk => by rcases (show k = 0 ∨ k = 1 ∨ k = 2 ∨ k = 3 ∨ k = 4 ∨ k = 5 ∨ k = 6 ∨ k = 7 ∨ k = 8 ∨ k = 9 ∨ k = 10 ∨ k = 11 ∨ k = 12 ∨ k = 13 ∨ k = 14 ∨ k = 15 ∨ k = 16 ∨ k = 17 ∨ k = 18 ∨ k = 19 ∨ k = 20 ∨ k = 21 ∨ k = 22 ∨ k = 23 ∨ k = 24 ∨ k = 25 ∨ k = 26 ∨ k = 27 ∨ k = 28 ∨ k = 29 ∨ k = 30 ∨ k = 31 ∨ k = 32 ∨ k = 33 ∨ k = 34 by omega) with rfl | rfl | rfl | rfl | rfl | rfl | rfl | rfl | rfl | rfl | rfl | rfl | rfl | rfl | rfl | rfl | rfl | rfl | rfl | rfl | rfl | rfl | rfl | rfl | rfl | rfl | rfl | rfl | rfl | rfl | rfl | rfl | rfl | rfl | rfl <;> assumption)) (by decide) ?_
    refine g_iinc (pc := 1067) (6 : Int32) [(3, _), (0, _), (1, _), (2, _)] dL_law_1067 3 rfl rfl (Nat.le_of_ble_eq_true rfl) rfl ?_
    refine g_goto (pc := 1070) 18 dL_law_1070 (by decide) ?_
    refine g_pm [1, 2, 3, 0] rfl ?_
    exact h
set_option maxHeartbeats 4000000 in
set_option maxRecDepth 100000 in
theorem t_L_law_188 {Γ : GT} {N : NT} {b L : Nat} {xs : Nat → Int32} (hR : rmOk 10 N) (hE : ∀ s A, N.2.2.2.2 s A → va_X b L xs s s.heap ∧ b < s.heap.size ∧ ¬ A b) (σ : St) (x3 : Int32)
    (h : vp_in (x3 + (1 : Int32)) L ∧ (∃ Q1 : Int32 → St → Prop, CtI Γ mX5_senders 0 [rf Γ 0, .int (xs (x3 + (1 : Int32)).toNatClampNeg)] σ Q1 ∧ ∀ (r2 : Int32) (τ3 : St), Q1 r2 τ3 → (vp_in (x3 + (1 : Int32)) L ∧ (∃ Q4 : Int32 → St → Prop, CtI Γ mX6_senders 1 [rf Γ 25, .int (xs (x3 + (1 : Int32)).toNatClampNeg)] τ3 Q4 ∧ ∀ (r5 : Int32) (τ6 : St), Q4 r5 τ6 → (((r2 = r5) → (G Γ mL_law N 18 [(0, .ref b), (1, rf Γ 0), (2, rf Γ 25), (3, .int (x3 + (6 : Int32)))] [] τ6)) ∧ ((¬ r2 = r5) → (False))))))) :
    G Γ mL_law N 188 [(0, .ref b), (1, rf Γ 0), (2, rf Γ 25), (3, .int x3)] [] σ := by
  refine g_aload_n (pc := 188) dL_law_188 rfl 1 rfl ?_
  refine g_aload_n (pc := 189) dL_law_189 rfl 0 rfl ?_
  refine g_iload_n (pc := 190) dL_law_190 rfl 3 rfl ?_
  refine g_iconst (pc := 191) (1 : Int32) dL_law_191 rfl ?_
  refine g_iadd (pc := 192) dL_law_192 ?_
  refine g_sld (pc := 193) hE h.1 dL_law_193 ?_
  have h := h.2
  obtain ⟨Q1, hc, h⟩ := h
  refine g_callVI (pc := 194) (M' := mX5_senders) (n := 10) (As := [.int (xs (x3 + (1 : Int32)).toNatClampNeg)]) (st := []) dL_law_194 ml_L_13 ok_X5_senders rfl hR (by decide) rc_0 (Nat.le_of_ble_eq_true rfl) rfl hc (fun r2 τ3 hq => ?_)
  have h := h r2 τ3 hq
  refine g_aload_n (pc := 197) dL_law_197 rfl 2 rfl ?_
  refine g_aload_n (pc := 198) dL_law_198 rfl 0 rfl ?_
  refine g_iload_n (pc := 199) dL_law_199 rfl 3 rfl ?_
  refine g_iconst (pc := 200) (1 : Int32) dL_law_200 rfl ?_
  refine g_iadd (pc := 201) dL_law_201 ?_
  refine g_sld (pc := 202) hE h.1 dL_law_202 ?_
  have h := h.2
  obtain ⟨Q4, hc, h⟩ := h
  refine g_callVI (pc := 203) (M' := mX6_senders) (n := 10) (As := [.int (xs (x3 + (1 : Int32)).toNatClampNeg)]) (st := [.int r2]) dL_law_203 ml_L_17 ok_X6_senders rfl hR (by decide) rc_25 (Nat.le_of_ble_eq_true rfl) rfl hc (fun r5 τ6 hq => ?_)
  have h := h r5 τ6 hq
  refine g_icmp_eq (pc := 206) 1067 dL_law_206 (by decide) (fun q => ?_) (fun q => ?_)
  · have h := h.1 q
    refine g_iinc (pc := 1067) (6 : Int32) [(3, _), (0, _), (1, _), (2, _)] dL_law_1067 3 rfl rfl (Nat.le_of_ble_eq_true rfl) rfl ?_
    refine g_goto (pc := 1070) 18 dL_law_1070 (by decide) ?_
    refine g_pm [1, 2, 3, 0] rfl ?_
    exact h
  · have h := h.2 q
    refine g_iconst (pc := 209) (0 : Int32) dL_law_209 rfl ?_
    exact h.elim
set_option maxHeartbeats 4000000 in
set_option maxRecDepth 100000 in
theorem t_L_law_211 {Γ : GT} {N : NT} {b L : Nat} {xs : Nat → Int32} (hR : rmOk 10 N) (hE : ∀ s A, N.2.2.2.2 s A → va_X b L xs s s.heap ∧ b < s.heap.size ∧ ¬ A b) (σ : St) (x3 : Int32)
    (h : vp_in (x3 + (1 : Int32)) L ∧ (vp_in (x3 + (2 : Int32)) L ∧ (vp_in (x3 + (3 : Int32)) L ∧ (∃ Q7 : Int32 → St → Prop, CtI Γ mX5_gain 1 [rf Γ 0, .int (xs (x3 + (1 : Int32)).toNatClampNeg), .int (xs (x3 + (2 : Int32)).toNatClampNeg), .int (xs (x3 + (3 : Int32)).toNatClampNeg)] σ Q7 ∧ ∀ (r8 : Int32) (τ9 : St), Q7 r8 τ9 → (vp_in (x3 + (1 : Int32)) L ∧ (vp_in (x3 + (2 : Int32)) L ∧ (vp_in (x3 + (3 : Int32)) L ∧ (∃ Q10 : Int32 → St → Prop, CtI Γ mX6_gain 2 [rf Γ 25, .int (xs (x3 + (1 : Int32)).toNatClampNeg), .int (xs (x3 + (2 : Int32)).toNatClampNeg), .int (xs (x3 + (3 : Int32)).toNatClampNeg)] τ9 Q10 ∧ ∀ (r11 : Int32) (τ12 : St), Q10 r11 τ12 → (((r8 = r11) → (G Γ mL_law N 18 [(0, .ref b), (1, rf Γ 0), (2, rf Γ 25), (3, .int (x3 + (6 : Int32)))] [] τ12)) ∧ ((¬ r8 = r11) → (False))))))))))) :
    G Γ mL_law N 211 [(0, .ref b), (1, rf Γ 0), (2, rf Γ 25), (3, .int x3)] [] σ := by
  refine g_aload_n (pc := 211) dL_law_211 rfl 1 rfl ?_
  refine g_aload_n (pc := 212) dL_law_212 rfl 0 rfl ?_
  refine g_iload_n (pc := 213) dL_law_213 rfl 3 rfl ?_
  refine g_iconst (pc := 214) (1 : Int32) dL_law_214 rfl ?_
  refine g_iadd (pc := 215) dL_law_215 ?_
  refine g_sld (pc := 216) hE h.1 dL_law_216 ?_
  have h := h.2
  refine g_aload_n (pc := 217) dL_law_217 rfl 0 rfl ?_
  refine g_iload_n (pc := 218) dL_law_218 rfl 3 rfl ?_
  refine g_iconst (pc := 219) (2 : Int32) dL_law_219 rfl ?_
  refine g_iadd (pc := 220) dL_law_220 ?_
  refine g_sld (pc := 221) hE h.1 dL_law_221 ?_
  have h := h.2
  refine g_aload_n (pc := 222) dL_law_222 rfl 0 rfl ?_
  refine g_iload_n (pc := 223) dL_law_223 rfl 3 rfl ?_
  refine g_iconst (pc := 224) (3 : Int32) dL_law_224 rfl ?_
  refine g_iadd (pc := 225) dL_law_225 ?_
  refine g_sld (pc := 226) hE h.1 dL_law_226 ?_
  have h := h.2
  obtain ⟨Q7, hc, h⟩ := h
  refine g_callVI (pc := 227) (M' := mX5_gain) (n := 10) (As := [.int (xs (x3 + (1 : Int32)).toNatClampNeg), .int (xs (x3 + (2 : Int32)).toNatClampNeg), .int (xs (x3 + (3 : Int32)).toNatClampNeg)]) (st := []) dL_law_227 ml_L_18 ok_X5_gain rfl hR (by decide) rc_0 (Nat.le_of_ble_eq_true rfl) rfl hc (fun r8 τ9 hq => ?_)
  have h := h r8 τ9 hq
  refine g_aload_n (pc := 230) dL_law_230 rfl 2 rfl ?_
  refine g_aload_n (pc := 231) dL_law_231 rfl 0 rfl ?_
  refine g_iload_n (pc := 232) dL_law_232 rfl 3 rfl ?_
  refine g_iconst (pc := 233) (1 : Int32) dL_law_233 rfl ?_
  refine g_iadd (pc := 234) dL_law_234 ?_
  refine g_sld (pc := 235) hE h.1 dL_law_235 ?_
  have h := h.2
  refine g_aload_n (pc := 236) dL_law_236 rfl 0 rfl ?_
  refine g_iload_n (pc := 237) dL_law_237 rfl 3 rfl ?_
  refine g_iconst (pc := 238) (2 : Int32) dL_law_238 rfl ?_
  refine g_iadd (pc := 239) dL_law_239 ?_
  refine g_sld (pc := 240) hE h.1 dL_law_240 ?_
  have h := h.2
  refine g_aload_n (pc := 241) dL_law_241 rfl 0 rfl ?_
  refine g_iload_n (pc := 242) dL_law_242 rfl 3 rfl ?_
  refine g_iconst (pc := 243) (3 : Int32) dL_law_243 rfl ?_
  refine g_iadd (pc := 244) dL_law_244 ?_
  refine g_sld (pc := 245) hE h.1 dL_law_245 ?_
  have h := h.2
  obtain ⟨Q10, hc, h⟩ := h
  refine g_callVI (pc := 246) (M' := mX6_gain) (n := 10) (As := [.int (xs (x3 + (1 : Int32)).toNatClampNeg), .int (xs (x3 + (2 : Int32)).toNatClampNeg), .int (xs (x3 + (3 : Int32)).toNatClampNeg)]) (st := [.int r8]) dL_law_246 ml_L_22 ok_X6_gain rfl hR (by decide) rc_25 (Nat.le_of_ble_eq_true rfl) rfl hc (fun r11 τ12 hq => ?_)
  have h := h r11 τ12 hq
  refine g_icmp_eq (pc := 249) 1067 dL_law_249 (by decide) (fun q => ?_) (fun q => ?_)
  · have h := h.1 q
    refine g_iinc (pc := 1067) (6 : Int32) [(3, _), (0, _), (1, _), (2, _)] dL_law_1067 3 rfl rfl (Nat.le_of_ble_eq_true rfl) rfl ?_
    refine g_goto (pc := 1070) 18 dL_law_1070 (by decide) ?_
    refine g_pm [1, 2, 3, 0] rfl ?_
    exact h
  · have h := h.2 q
    refine g_iconst (pc := 252) (0 : Int32) dL_law_252 rfl ?_
    exact h.elim
set_option maxHeartbeats 4000000 in
set_option maxRecDepth 100000 in
theorem t_L_law_254 {Γ : GT} {N : NT} {b L : Nat} {xs : Nat → Int32} (hR : rmOk 10 N) (hE : ∀ s A, N.2.2.2.2 s A → va_X b L xs s s.heap ∧ b < s.heap.size ∧ ¬ A b) (σ : St) (x3 : Int32)
    (h : vp_in (x3 + (1 : Int32)) L ∧ (vp_in (x3 + (2 : Int32)) L ∧ (vp_in (x3 + (3 : Int32)) L ∧ (∃ Q13 : Int32 → St → Prop, CtI Γ mX5_set 1 [rf Γ 0, .int (xs (x3 + (1 : Int32)).toNatClampNeg), .int (xs (x3 + (2 : Int32)).toNatClampNeg), .int (xs (x3 + (3 : Int32)).toNatClampNeg)] σ Q13 ∧ ∀ (r14 : Int32) (τ15 : St), Q13 r14 τ15 → (vp_in (x3 + (1 : Int32)) L ∧ (vp_in (x3 + (2 : Int32)) L ∧ (vp_in (x3 + (3 : Int32)) L ∧ (∃ Q16 : Int32 → St → Prop, CtI Γ mX6_set 2 [rf Γ 25, .int (xs (x3 + (1 : Int32)).toNatClampNeg), .int (xs (x3 + (2 : Int32)).toNatClampNeg), .int (xs (x3 + (3 : Int32)).toNatClampNeg)] τ15 Q16 ∧ ∀ (r17 : Int32) (τ18 : St), Q16 r17 τ18 → (((r14 = r17) → (G Γ mL_law N 18 [(0, .ref b), (1, rf Γ 0), (2, rf Γ 25), (3, .int (x3 + (6 : Int32)))] [] τ18)) ∧ ((¬ r14 = r17) → (False))))))))))) :
    G Γ mL_law N 254 [(0, .ref b), (1, rf Γ 0), (2, rf Γ 25), (3, .int x3)] [] σ := by
  refine g_aload_n (pc := 254) dL_law_254 rfl 1 rfl ?_
  refine g_aload_n (pc := 255) dL_law_255 rfl 0 rfl ?_
  refine g_iload_n (pc := 256) dL_law_256 rfl 3 rfl ?_
  refine g_iconst (pc := 257) (1 : Int32) dL_law_257 rfl ?_
  refine g_iadd (pc := 258) dL_law_258 ?_
  refine g_sld (pc := 259) hE h.1 dL_law_259 ?_
  have h := h.2
  refine g_aload_n (pc := 260) dL_law_260 rfl 0 rfl ?_
  refine g_iload_n (pc := 261) dL_law_261 rfl 3 rfl ?_
  refine g_iconst (pc := 262) (2 : Int32) dL_law_262 rfl ?_
  refine g_iadd (pc := 263) dL_law_263 ?_
  refine g_sld (pc := 264) hE h.1 dL_law_264 ?_
  have h := h.2
  refine g_aload_n (pc := 265) dL_law_265 rfl 0 rfl ?_
  refine g_iload_n (pc := 266) dL_law_266 rfl 3 rfl ?_
  refine g_iconst (pc := 267) (3 : Int32) dL_law_267 rfl ?_
  refine g_iadd (pc := 268) dL_law_268 ?_
  refine g_sld (pc := 269) hE h.1 dL_law_269 ?_
  have h := h.2
  obtain ⟨Q13, hc, h⟩ := h
  refine g_callVI (pc := 270) (M' := mX5_set) (n := 10) (As := [.int (xs (x3 + (1 : Int32)).toNatClampNeg), .int (xs (x3 + (2 : Int32)).toNatClampNeg), .int (xs (x3 + (3 : Int32)).toNatClampNeg)]) (st := []) dL_law_270 ml_L_23 ok_X5_set rfl hR (by decide) rc_0 (Nat.le_of_ble_eq_true rfl) rfl hc (fun r14 τ15 hq => ?_)
  have h := h r14 τ15 hq
  refine g_aload_n (pc := 273) dL_law_273 rfl 2 rfl ?_
  refine g_aload_n (pc := 274) dL_law_274 rfl 0 rfl ?_
  refine g_iload_n (pc := 275) dL_law_275 rfl 3 rfl ?_
  refine g_iconst (pc := 276) (1 : Int32) dL_law_276 rfl ?_
  refine g_iadd (pc := 277) dL_law_277 ?_
  refine g_sld (pc := 278) hE h.1 dL_law_278 ?_
  have h := h.2
  refine g_aload_n (pc := 279) dL_law_279 rfl 0 rfl ?_
  refine g_iload_n (pc := 280) dL_law_280 rfl 3 rfl ?_
  refine g_iconst (pc := 281) (2 : Int32) dL_law_281 rfl ?_
  refine g_iadd (pc := 282) dL_law_282 ?_
  refine g_sld (pc := 283) hE h.1 dL_law_283 ?_
  have h := h.2
  refine g_aload_n (pc := 284) dL_law_284 rfl 0 rfl ?_
  refine g_iload_n (pc := 285) dL_law_285 rfl 3 rfl ?_
  refine g_iconst (pc := 286) (3 : Int32) dL_law_286 rfl ?_
  refine g_iadd (pc := 287) dL_law_287 ?_
  refine g_sld (pc := 288) hE h.1 dL_law_288 ?_
  have h := h.2
  obtain ⟨Q16, hc, h⟩ := h
  refine g_callVI (pc := 289) (M' := mX6_set) (n := 10) (As := [.int (xs (x3 + (1 : Int32)).toNatClampNeg), .int (xs (x3 + (2 : Int32)).toNatClampNeg), .int (xs (x3 + (3 : Int32)).toNatClampNeg)]) (st := [.int r14]) dL_law_289 ml_L_26 ok_X6_set rfl hR (by decide) rc_25 (Nat.le_of_ble_eq_true rfl) rfl hc (fun r17 τ18 hq => ?_)
  have h := h r17 τ18 hq
  refine g_icmp_eq (pc := 292) 1067 dL_law_292 (by decide) (fun q => ?_) (fun q => ?_)
  · have h := h.1 q
    refine g_iinc (pc := 1067) (6 : Int32) [(3, _), (0, _), (1, _), (2, _)] dL_law_1067 3 rfl rfl (Nat.le_of_ble_eq_true rfl) rfl ?_
    refine g_goto (pc := 1070) 18 dL_law_1070 (by decide) ?_
    refine g_pm [1, 2, 3, 0] rfl ?_
    exact h
  · have h := h.2 q
    refine g_iconst (pc := 295) (0 : Int32) dL_law_295 rfl ?_
    exact h.elim
set_option maxHeartbeats 4000000 in
set_option maxRecDepth 100000 in
theorem t_L_law_297 {Γ : GT} {N : NT} {b L : Nat} {xs : Nat → Int32} (hR : rmOk 10 N) (hE : ∀ s A, N.2.2.2.2 s A → va_X b L xs s s.heap ∧ b < s.heap.size ∧ ¬ A b) (σ : St) (x3 : Int32)
    (h : vp_in (x3 + (1 : Int32)) L ∧ (∃ Q19 : Int32 → St → Prop, CtI Γ mX5_on 2 [rf Γ 0, .int (xs (x3 + (1 : Int32)).toNatClampNeg)] σ Q19 ∧ ∀ (r20 : Int32) (τ21 : St), Q19 r20 τ21 → (vp_in (x3 + (1 : Int32)) L ∧ (∃ Q22 : Int32 → St → Prop, CtI Γ mX6_on 2 [rf Γ 25, .int (xs (x3 + (1 : Int32)).toNatClampNeg)] τ21 Q22 ∧ ∀ (r23 : Int32) (τ24 : St), Q22 r23 τ24 → (((r20 = r23) → (G Γ mL_law N 18 [(0, .ref b), (1, rf Γ 0), (2, rf Γ 25), (3, .int (x3 + (6 : Int32)))] [] τ24)) ∧ ((¬ r20 = r23) → (False))))))) :
    G Γ mL_law N 297 [(0, .ref b), (1, rf Γ 0), (2, rf Γ 25), (3, .int x3)] [] σ := by
  refine g_aload_n (pc := 297) dL_law_297 rfl 1 rfl ?_
  refine g_aload_n (pc := 298) dL_law_298 rfl 0 rfl ?_
  refine g_iload_n (pc := 299) dL_law_299 rfl 3 rfl ?_
  refine g_iconst (pc := 300) (1 : Int32) dL_law_300 rfl ?_
  refine g_iadd (pc := 301) dL_law_301 ?_
  refine g_sld (pc := 302) hE h.1 dL_law_302 ?_
  have h := h.2
  obtain ⟨Q19, hc, h⟩ := h
  refine g_callVI (pc := 303) (M' := mX5_on) (n := 10) (As := [.int (xs (x3 + (1 : Int32)).toNatClampNeg)]) (st := []) dL_law_303 ml_L_27 ok_X5_on rfl hR (by decide) rc_0 (Nat.le_of_ble_eq_true rfl) rfl hc (fun r20 τ21 hq => ?_)
  have h := h r20 τ21 hq
  refine g_aload_n (pc := 306) dL_law_306 rfl 2 rfl ?_
  refine g_aload_n (pc := 307) dL_law_307 rfl 0 rfl ?_
  refine g_iload_n (pc := 308) dL_law_308 rfl 3 rfl ?_
  refine g_iconst (pc := 309) (1 : Int32) dL_law_309 rfl ?_
  refine g_iadd (pc := 310) dL_law_310 ?_
  refine g_sld (pc := 311) hE h.1 dL_law_311 ?_
  have h := h.2
  obtain ⟨Q22, hc, h⟩ := h
  refine g_callVI (pc := 312) (M' := mX6_on) (n := 10) (As := [.int (xs (x3 + (1 : Int32)).toNatClampNeg)]) (st := [.int r20]) dL_law_312 ml_L_30 ok_X6_on rfl hR (by decide) rc_25 (Nat.le_of_ble_eq_true rfl) rfl hc (fun r23 τ24 hq => ?_)
  have h := h r23 τ24 hq
  refine g_icmp_eq (pc := 315) 1067 dL_law_315 (by decide) (fun q => ?_) (fun q => ?_)
  · have h := h.1 q
    refine g_iinc (pc := 1067) (6 : Int32) [(3, _), (0, _), (1, _), (2, _)] dL_law_1067 3 rfl rfl (Nat.le_of_ble_eq_true rfl) rfl ?_
    refine g_goto (pc := 1070) 18 dL_law_1070 (by decide) ?_
    refine g_pm [1, 2, 3, 0] rfl ?_
    exact h
  · have h := h.2 q
    refine g_iconst (pc := 318) (0 : Int32) dL_law_318 rfl ?_
    exact h.elim
set_option maxHeartbeats 4000000 in
set_option maxRecDepth 100000 in
theorem t_L_law_320 {Γ : GT} {N : NT} {b L : Nat} {xs : Nat → Int32} (hR : rmOk 10 N) (hE : ∀ s A, N.2.2.2.2 s A → va_X b L xs s s.heap ∧ b < s.heap.size ∧ ¬ A b) (σ : St) (x3 : Int32)
    (h : vp_in (x3 + (1 : Int32)) L ∧ (vp_in (x3 + (2 : Int32)) L ∧ (∃ Q25 : Int32 → St → Prop, CtI Γ mX5_power 1 [rf Γ 0, .int (xs (x3 + (1 : Int32)).toNatClampNeg), .int (xs (x3 + (2 : Int32)).toNatClampNeg)] σ Q25 ∧ ∀ (r26 : Int32) (τ27 : St), Q25 r26 τ27 → (vp_in (x3 + (1 : Int32)) L ∧ (vp_in (x3 + (2 : Int32)) L ∧ (∃ Q28 : Int32 → St → Prop, CtI Γ mX6_power 2 [rf Γ 25, .int (xs (x3 + (1 : Int32)).toNatClampNeg), .int (xs (x3 + (2 : Int32)).toNatClampNeg)] τ27 Q28 ∧ ∀ (r29 : Int32) (τ30 : St), Q28 r29 τ30 → (((r26 = r29) → (G Γ mL_law N 18 [(0, .ref b), (1, rf Γ 0), (2, rf Γ 25), (3, .int (x3 + (6 : Int32)))] [] τ30)) ∧ ((¬ r26 = r29) → (False))))))))) :
    G Γ mL_law N 320 [(0, .ref b), (1, rf Γ 0), (2, rf Γ 25), (3, .int x3)] [] σ := by
  refine g_aload_n (pc := 320) dL_law_320 rfl 1 rfl ?_
  refine g_aload_n (pc := 321) dL_law_321 rfl 0 rfl ?_
  refine g_iload_n (pc := 322) dL_law_322 rfl 3 rfl ?_
  refine g_iconst (pc := 323) (1 : Int32) dL_law_323 rfl ?_
  refine g_iadd (pc := 324) dL_law_324 ?_
  refine g_sld (pc := 325) hE h.1 dL_law_325 ?_
  have h := h.2
  refine g_aload_n (pc := 326) dL_law_326 rfl 0 rfl ?_
  refine g_iload_n (pc := 327) dL_law_327 rfl 3 rfl ?_
  refine g_iconst (pc := 328) (2 : Int32) dL_law_328 rfl ?_
  refine g_iadd (pc := 329) dL_law_329 ?_
  refine g_sld (pc := 330) hE h.1 dL_law_330 ?_
  have h := h.2
  obtain ⟨Q25, hc, h⟩ := h
  refine g_callVI (pc := 331) (M' := mX5_power) (n := 10) (As := [.int (xs (x3 + (1 : Int32)).toNatClampNeg), .int (xs (x3 + (2 : Int32)).toNatClampNeg)]) (st := []) dL_law_331 ml_L_31 ok_X5_power rfl hR (by decide) rc_0 (Nat.le_of_ble_eq_true rfl) rfl hc (fun r26 τ27 hq => ?_)
  have h := h r26 τ27 hq
  refine g_aload_n (pc := 334) dL_law_334 rfl 2 rfl ?_
  refine g_aload_n (pc := 335) dL_law_335 rfl 0 rfl ?_
  refine g_iload_n (pc := 336) dL_law_336 rfl 3 rfl ?_
  refine g_iconst (pc := 337) (1 : Int32) dL_law_337 rfl ?_
  refine g_iadd (pc := 338) dL_law_338 ?_
  refine g_sld (pc := 339) hE h.1 dL_law_339 ?_
  have h := h.2
  refine g_aload_n (pc := 340) dL_law_340 rfl 0 rfl ?_
  refine g_iload_n (pc := 341) dL_law_341 rfl 3 rfl ?_
  refine g_iconst (pc := 342) (2 : Int32) dL_law_342 rfl ?_
  refine g_iadd (pc := 343) dL_law_343 ?_
  refine g_sld (pc := 344) hE h.1 dL_law_344 ?_
  have h := h.2
  obtain ⟨Q28, hc, h⟩ := h
  refine g_callVI (pc := 345) (M' := mX6_power) (n := 10) (As := [.int (xs (x3 + (1 : Int32)).toNatClampNeg), .int (xs (x3 + (2 : Int32)).toNatClampNeg)]) (st := [.int r26]) dL_law_345 ml_L_35 ok_X6_power rfl hR (by decide) rc_25 (Nat.le_of_ble_eq_true rfl) rfl hc (fun r29 τ30 hq => ?_)
  have h := h r29 τ30 hq
  refine g_icmp_eq (pc := 348) 1067 dL_law_348 (by decide) (fun q => ?_) (fun q => ?_)
  · have h := h.1 q
    refine g_iinc (pc := 1067) (6 : Int32) [(3, _), (0, _), (1, _), (2, _)] dL_law_1067 3 rfl rfl (Nat.le_of_ble_eq_true rfl) rfl ?_
    refine g_goto (pc := 1070) 18 dL_law_1070 (by decide) ?_
    refine g_pm [1, 2, 3, 0] rfl ?_
    exact h
  · have h := h.2 q
    refine g_iconst (pc := 351) (0 : Int32) dL_law_351 rfl ?_
    exact h.elim
set_option maxHeartbeats 4000000 in
set_option maxRecDepth 100000 in
theorem t_L_law_353 {Γ : GT} {N : NT} {b L : Nat} {xs : Nat → Int32} (hR : rmOk 10 N) (hE : ∀ s A, N.2.2.2.2 s A → va_X b L xs s s.heap ∧ b < s.heap.size ∧ ¬ A b) (σ : St) (x3 : Int32)
    (h : vp_in (x3 + (1 : Int32)) L ∧ (∃ Q31 : Int32 → St → Prop, CtI Γ mX5_rule 0 [rf Γ 0, .int (xs (x3 + (1 : Int32)).toNatClampNeg)] σ Q31 ∧ ∀ (r32 : Int32) (τ33 : St), Q31 r32 τ33 → (vp_in (x3 + (1 : Int32)) L ∧ (∃ Q34 : Int32 → St → Prop, CtI Γ mX6_rule 1 [rf Γ 25, .int (xs (x3 + (1 : Int32)).toNatClampNeg)] τ33 Q34 ∧ ∀ (r35 : Int32) (τ36 : St), Q34 r35 τ36 → (((r32 = r35) → (G Γ mL_law N 18 [(0, .ref b), (1, rf Γ 0), (2, rf Γ 25), (3, .int (x3 + (6 : Int32)))] [] τ36)) ∧ ((¬ r32 = r35) → (False))))))) :
    G Γ mL_law N 353 [(0, .ref b), (1, rf Γ 0), (2, rf Γ 25), (3, .int x3)] [] σ := by
  refine g_aload_n (pc := 353) dL_law_353 rfl 1 rfl ?_
  refine g_aload_n (pc := 354) dL_law_354 rfl 0 rfl ?_
  refine g_iload_n (pc := 355) dL_law_355 rfl 3 rfl ?_
  refine g_iconst (pc := 356) (1 : Int32) dL_law_356 rfl ?_
  refine g_iadd (pc := 357) dL_law_357 ?_
  refine g_sld (pc := 358) hE h.1 dL_law_358 ?_
  have h := h.2
  obtain ⟨Q31, hc, h⟩ := h
  refine g_callVI (pc := 359) (M' := mX5_rule) (n := 10) (As := [.int (xs (x3 + (1 : Int32)).toNatClampNeg)]) (st := []) dL_law_359 ml_L_36 ok_X5_rule rfl hR (by decide) rc_0 (Nat.le_of_ble_eq_true rfl) rfl hc (fun r32 τ33 hq => ?_)
  have h := h r32 τ33 hq
  refine g_aload_n (pc := 362) dL_law_362 rfl 2 rfl ?_
  refine g_aload_n (pc := 363) dL_law_363 rfl 0 rfl ?_
  refine g_iload_n (pc := 364) dL_law_364 rfl 3 rfl ?_
  refine g_iconst (pc := 365) (1 : Int32) dL_law_365 rfl ?_
  refine g_iadd (pc := 366) dL_law_366 ?_
  refine g_sld (pc := 367) hE h.1 dL_law_367 ?_
  have h := h.2
  obtain ⟨Q34, hc, h⟩ := h
  refine g_callVI (pc := 368) (M' := mX6_rule) (n := 10) (As := [.int (xs (x3 + (1 : Int32)).toNatClampNeg)]) (st := [.int r32]) dL_law_368 ml_L_39 ok_X6_rule rfl hR (by decide) rc_25 (Nat.le_of_ble_eq_true rfl) rfl hc (fun r35 τ36 hq => ?_)
  have h := h r35 τ36 hq
  refine g_icmp_eq (pc := 371) 1067 dL_law_371 (by decide) (fun q => ?_) (fun q => ?_)
  · have h := h.1 q
    refine g_iinc (pc := 1067) (6 : Int32) [(3, _), (0, _), (1, _), (2, _)] dL_law_1067 3 rfl rfl (Nat.le_of_ble_eq_true rfl) rfl ?_
    refine g_goto (pc := 1070) 18 dL_law_1070 (by decide) ?_
    refine g_pm [1, 2, 3, 0] rfl ?_
    exact h
  · have h := h.2 q
    refine g_iconst (pc := 374) (0 : Int32) dL_law_374 rfl ?_
    exact h.elim
set_option maxHeartbeats 4000000 in
set_option maxRecDepth 100000 in
theorem t_L_law_376 {Γ : GT} {N : NT} {b L : Nat} {xs : Nat → Int32} (hR : rmOk 10 N) (hE : ∀ s A, N.2.2.2.2 s A → va_X b L xs s s.heap ∧ b < s.heap.size ∧ ¬ A b) (σ : St) (x3 : Int32)
    (h : vp_in (x3 + (1 : Int32)) L ∧ (∃ Q37 : Int32 → St → Prop, CtI Γ mX5_type 1 [rf Γ 0, .int (xs (x3 + (1 : Int32)).toNatClampNeg)] σ Q37 ∧ ∀ (r38 : Int32) (τ39 : St), Q37 r38 τ39 → (vp_in (x3 + (1 : Int32)) L ∧ (∃ Q40 : Int32 → St → Prop, CtI Γ mX6_type 1 [rf Γ 25, .int (xs (x3 + (1 : Int32)).toNatClampNeg)] τ39 Q40 ∧ ∀ (r41 : Int32) (τ42 : St), Q40 r41 τ42 → (((r38 = r41) → (G Γ mL_law N 18 [(0, .ref b), (1, rf Γ 0), (2, rf Γ 25), (3, .int (x3 + (6 : Int32)))] [] τ42)) ∧ ((¬ r38 = r41) → (False))))))) :
    G Γ mL_law N 376 [(0, .ref b), (1, rf Γ 0), (2, rf Γ 25), (3, .int x3)] [] σ := by
  refine g_aload_n (pc := 376) dL_law_376 rfl 1 rfl ?_
  refine g_aload_n (pc := 377) dL_law_377 rfl 0 rfl ?_
  refine g_iload_n (pc := 378) dL_law_378 rfl 3 rfl ?_
  refine g_iconst (pc := 379) (1 : Int32) dL_law_379 rfl ?_
  refine g_iadd (pc := 380) dL_law_380 ?_
  refine g_sld (pc := 381) hE h.1 dL_law_381 ?_
  have h := h.2
  obtain ⟨Q37, hc, h⟩ := h
  refine g_callVI (pc := 382) (M' := mX5_type) (n := 10) (As := [.int (xs (x3 + (1 : Int32)).toNatClampNeg)]) (st := []) dL_law_382 ml_L_40 ok_X5_type rfl hR (by decide) rc_0 (Nat.le_of_ble_eq_true rfl) rfl hc (fun r38 τ39 hq => ?_)
  have h := h r38 τ39 hq
  refine g_aload_n (pc := 385) dL_law_385 rfl 2 rfl ?_
  refine g_aload_n (pc := 386) dL_law_386 rfl 0 rfl ?_
  refine g_iload_n (pc := 387) dL_law_387 rfl 3 rfl ?_
  refine g_iconst (pc := 388) (1 : Int32) dL_law_388 rfl ?_
  refine g_iadd (pc := 389) dL_law_389 ?_
  refine g_sld (pc := 390) hE h.1 dL_law_390 ?_
  have h := h.2
  obtain ⟨Q40, hc, h⟩ := h
  refine g_callVI (pc := 391) (M' := mX6_type) (n := 10) (As := [.int (xs (x3 + (1 : Int32)).toNatClampNeg)]) (st := [.int r38]) dL_law_391 ml_L_43 ok_X6_type rfl hR (by decide) rc_25 (Nat.le_of_ble_eq_true rfl) rfl hc (fun r41 τ42 hq => ?_)
  have h := h r41 τ42 hq
  refine g_icmp_eq (pc := 394) 1067 dL_law_394 (by decide) (fun q => ?_) (fun q => ?_)
  · have h := h.1 q
    refine g_iinc (pc := 1067) (6 : Int32) [(3, _), (0, _), (1, _), (2, _)] dL_law_1067 3 rfl rfl (Nat.le_of_ble_eq_true rfl) rfl ?_
    refine g_goto (pc := 1070) 18 dL_law_1070 (by decide) ?_
    refine g_pm [1, 2, 3, 0] rfl ?_
    exact h
  · have h := h.2 q
    refine g_iconst (pc := 397) (0 : Int32) dL_law_397 rfl ?_
    exact h.elim
set_option maxHeartbeats 4000000 in
set_option maxRecDepth 100000 in
theorem t_L_law_399 {Γ : GT} {N : NT} {b L : Nat} {xs : Nat → Int32} (hR : rmOk 10 N) (hE : ∀ s A, N.2.2.2.2 s A → va_X b L xs s s.heap ∧ b < s.heap.size ∧ ¬ A b) (σ : St) (x3 : Int32)
    (h : ∃ Q43 : Int32 → St → Prop, CtI Γ mX5_wipe 0 [rf Γ 0] σ Q43 ∧ ∀ (r44 : Int32) (τ45 : St), Q43 r44 τ45 → (∃ Q46 : Int32 → St → Prop, CtI Γ mX6_wipe 0 [rf Γ 25] τ45 Q46 ∧ ∀ (r47 : Int32) (τ48 : St), Q46 r47 τ48 → (((r44 = r47) → (G Γ mL_law N 18 [(0, .ref b), (1, rf Γ 0), (2, rf Γ 25), (3, .int (x3 + (6 : Int32)))] [] τ48)) ∧ ((¬ r44 = r47) → (False))))) :
    G Γ mL_law N 399 [(0, .ref b), (1, rf Γ 0), (2, rf Γ 25), (3, .int x3)] [] σ := by
  refine g_aload_n (pc := 399) dL_law_399 rfl 1 rfl ?_
  obtain ⟨Q43, hc, h⟩ := h
  refine g_callVI (pc := 400) (M' := mX5_wipe) (n := 10) (As := []) (st := []) dL_law_400 ml_L_44 ok_X5_wipe rfl hR (by decide) rc_0 (Nat.le_of_ble_eq_true rfl) rfl hc (fun r44 τ45 hq => ?_)
  have h := h r44 τ45 hq
  refine g_aload_n (pc := 403) dL_law_403 rfl 2 rfl ?_
  obtain ⟨Q46, hc, h⟩ := h
  refine g_callVI (pc := 404) (M' := mX6_wipe) (n := 10) (As := []) (st := [.int r44]) dL_law_404 ml_L_48 ok_X6_wipe rfl hR (by decide) rc_25 (Nat.le_of_ble_eq_true rfl) rfl hc (fun r47 τ48 hq => ?_)
  have h := h r47 τ48 hq
  refine g_icmp_eq (pc := 407) 1067 dL_law_407 (by decide) (fun q => ?_) (fun q => ?_)
  · have h := h.1 q
    refine g_iinc (pc := 1067) (6 : Int32) [(3, _), (0, _), (1, _), (2, _)] dL_law_1067 3 rfl rfl (Nat.le_of_ble_eq_true rfl) rfl ?_
    refine g_goto (pc := 1070) 18 dL_law_1070 (by decide) ?_
    refine g_pm [1, 2, 3, 0] rfl ?_
    exact h
  · have h := h.2 q
    refine g_iconst (pc := 410) (0 : Int32) dL_law_410 rfl ?_
    exact h.elim
set_option maxHeartbeats 4000000 in
set_option maxRecDepth 100000 in
theorem t_L_law_412 {Γ : GT} {N : NT} {b L : Nat} {xs : Nat → Int32} (hR : rmOk 10 N) (hE : ∀ s A, N.2.2.2.2 s A → va_X b L xs s s.heap ∧ b < s.heap.size ∧ ¬ A b) (σ : St) (x3 : Int32)
    (h : ∃ Q49 : Int32 → St → Prop, CtI Γ mX5_fault 1 [rf Γ 0] σ Q49 ∧ ∀ (r50 : Int32) (τ51 : St), Q49 r50 τ51 → (∃ Q52 : Int32 → St → Prop, CtI Γ mX6_fault 2 [rf Γ 25] τ51 Q52 ∧ ∀ (r53 : Int32) (τ54 : St), Q52 r53 τ54 → (((r50 = r53) → (G Γ mL_law N 18 [(0, .ref b), (1, rf Γ 0), (2, rf Γ 25), (3, .int (x3 + (6 : Int32)))] [] τ54)) ∧ ((¬ r50 = r53) → (False))))) :
    G Γ mL_law N 412 [(0, .ref b), (1, rf Γ 0), (2, rf Γ 25), (3, .int x3)] [] σ := by
  refine g_aload_n (pc := 412) dL_law_412 rfl 1 rfl ?_
  obtain ⟨Q49, hc, h⟩ := h
  refine g_callVI (pc := 413) (M' := mX5_fault) (n := 10) (As := []) (st := []) dL_law_413 ml_L_49 ok_X5_fault rfl hR (by decide) rc_0 (Nat.le_of_ble_eq_true rfl) rfl hc (fun r50 τ51 hq => ?_)
  have h := h r50 τ51 hq
  refine g_aload_n (pc := 416) dL_law_416 rfl 2 rfl ?_
  obtain ⟨Q52, hc, h⟩ := h
  refine g_callVI (pc := 417) (M' := mX6_fault) (n := 10) (As := []) (st := [.int r50]) dL_law_417 ml_L_52 ok_X6_fault rfl hR (by decide) rc_25 (Nat.le_of_ble_eq_true rfl) rfl hc (fun r53 τ54 hq => ?_)
  have h := h r53 τ54 hq
  refine g_icmp_eq (pc := 420) 1067 dL_law_420 (by decide) (fun q => ?_) (fun q => ?_)
  · have h := h.1 q
    refine g_iinc (pc := 1067) (6 : Int32) [(3, _), (0, _), (1, _), (2, _)] dL_law_1067 3 rfl rfl (Nat.le_of_ble_eq_true rfl) rfl ?_
    refine g_goto (pc := 1070) 18 dL_law_1070 (by decide) ?_
    refine g_pm [1, 2, 3, 0] rfl ?_
    exact h
  · have h := h.2 q
    refine g_iconst (pc := 423) (0 : Int32) dL_law_423 rfl ?_
    exact h.elim
set_option maxHeartbeats 4000000 in
set_option maxRecDepth 100000 in
theorem t_L_law_425 {Γ : GT} {N : NT} {b L : Nat} {xs : Nat → Int32} (hR : rmOk 10 N) (hE : ∀ s A, N.2.2.2.2 s A → va_X b L xs s s.heap ∧ b < s.heap.size ∧ ¬ A b) (σ : St) (x3 : Int32)
    (h : vp_in (x3 + (1 : Int32)) L ∧ (∃ Q55 : Int32 → St → Prop, CtI Γ mX5_read 2 [rf Γ 0, .int (xs (x3 + (1 : Int32)).toNatClampNeg)] σ Q55 ∧ ∀ (r56 : Int32) (τ57 : St), Q55 r56 τ57 → (vp_in (x3 + (1 : Int32)) L ∧ (∃ Q58 : Int32 → St → Prop, CtI Γ mX6_read 2 [rf Γ 25, .int (xs (x3 + (1 : Int32)).toNatClampNeg)] τ57 Q58 ∧ ∀ (r59 : Int32) (τ60 : St), Q58 r59 τ60 → (((r56 = r59) → (G Γ mL_law N 18 [(0, .ref b), (1, rf Γ 0), (2, rf Γ 25), (3, .int (x3 + (6 : Int32)))] [] τ60)) ∧ ((¬ r56 = r59) → (False))))))) :
    G Γ mL_law N 425 [(0, .ref b), (1, rf Γ 0), (2, rf Γ 25), (3, .int x3)] [] σ := by
  refine g_aload_n (pc := 425) dL_law_425 rfl 1 rfl ?_
  refine g_aload_n (pc := 426) dL_law_426 rfl 0 rfl ?_
  refine g_iload_n (pc := 427) dL_law_427 rfl 3 rfl ?_
  refine g_iconst (pc := 428) (1 : Int32) dL_law_428 rfl ?_
  refine g_iadd (pc := 429) dL_law_429 ?_
  refine g_sld (pc := 430) hE h.1 dL_law_430 ?_
  have h := h.2
  obtain ⟨Q55, hc, h⟩ := h
  refine g_callVI (pc := 431) (M' := mX5_read) (n := 10) (As := [.int (xs (x3 + (1 : Int32)).toNatClampNeg)]) (st := []) dL_law_431 ml_L_53 ok_X5_read rfl hR (by decide) rc_0 (Nat.le_of_ble_eq_true rfl) rfl hc (fun r56 τ57 hq => ?_)
  have h := h r56 τ57 hq
  refine g_aload_n (pc := 434) dL_law_434 rfl 2 rfl ?_
  refine g_aload_n (pc := 435) dL_law_435 rfl 0 rfl ?_
  refine g_iload_n (pc := 436) dL_law_436 rfl 3 rfl ?_
  refine g_iconst (pc := 437) (1 : Int32) dL_law_437 rfl ?_
  refine g_iadd (pc := 438) dL_law_438 ?_
  refine g_sld (pc := 439) hE h.1 dL_law_439 ?_
  have h := h.2
  obtain ⟨Q58, hc, h⟩ := h
  refine g_callVI (pc := 440) (M' := mX6_read) (n := 10) (As := [.int (xs (x3 + (1 : Int32)).toNatClampNeg)]) (st := [.int r56]) dL_law_440 ml_L_56 ok_X6_read rfl hR (by decide) rc_25 (Nat.le_of_ble_eq_true rfl) rfl hc (fun r59 τ60 hq => ?_)
  have h := h r59 τ60 hq
  refine g_icmp_eq (pc := 443) 1067 dL_law_443 (by decide) (fun q => ?_) (fun q => ?_)
  · have h := h.1 q
    refine g_iinc (pc := 1067) (6 : Int32) [(3, _), (0, _), (1, _), (2, _)] dL_law_1067 3 rfl rfl (Nat.le_of_ble_eq_true rfl) rfl ?_
    refine g_goto (pc := 1070) 18 dL_law_1070 (by decide) ?_
    refine g_pm [1, 2, 3, 0] rfl ?_
    exact h
  · have h := h.2 q
    refine g_iconst (pc := 446) (0 : Int32) dL_law_446 rfl ?_
    exact h.elim
set_option maxHeartbeats 4000000 in
set_option maxRecDepth 100000 in
theorem t_L_law_448 {Γ : GT} {N : NT} {b L : Nat} {xs : Nat → Int32} (hR : rmOk 10 N) (hE : ∀ s A, N.2.2.2.2 s A → va_X b L xs s s.heap ∧ b < s.heap.size ∧ ¬ A b) (σ : St) (x3 : Int32)
    (h : vp_in (x3 + (1 : Int32)) L ∧ (vp_in (x3 + (2 : Int32)) L ∧ (∃ Q61 : Int32 → St → Prop, CtI Γ mX5_info 2 [rf Γ 0, .int (xs (x3 + (1 : Int32)).toNatClampNeg), .int (xs (x3 + (2 : Int32)).toNatClampNeg)] σ Q61 ∧ ∀ (r62 : Int32) (τ63 : St), Q61 r62 τ63 → (vp_in (x3 + (1 : Int32)) L ∧ (vp_in (x3 + (2 : Int32)) L ∧ (∃ Q64 : Int32 → St → Prop, CtI Γ mX6_info 3 [rf Γ 25, .int (xs (x3 + (1 : Int32)).toNatClampNeg), .int (xs (x3 + (2 : Int32)).toNatClampNeg)] τ63 Q64 ∧ ∀ (r65 : Int32) (τ66 : St), Q64 r65 τ66 → (((r62 = r65) → (G Γ mL_law N 18 [(0, .ref b), (1, rf Γ 0), (2, rf Γ 25), (3, .int (x3 + (6 : Int32)))] [] τ66)) ∧ ((¬ r62 = r65) → (False))))))))) :
    G Γ mL_law N 448 [(0, .ref b), (1, rf Γ 0), (2, rf Γ 25), (3, .int x3)] [] σ := by
  refine g_aload_n (pc := 448) dL_law_448 rfl 1 rfl ?_
  refine g_aload_n (pc := 449) dL_law_449 rfl 0 rfl ?_
  refine g_iload_n (pc := 450) dL_law_450 rfl 3 rfl ?_
  refine g_iconst (pc := 451) (1 : Int32) dL_law_451 rfl ?_
  refine g_iadd (pc := 452) dL_law_452 ?_
  refine g_sld (pc := 453) hE h.1 dL_law_453 ?_
  have h := h.2
  refine g_aload_n (pc := 454) dL_law_454 rfl 0 rfl ?_
  refine g_iload_n (pc := 455) dL_law_455 rfl 3 rfl ?_
  refine g_iconst (pc := 456) (2 : Int32) dL_law_456 rfl ?_
  refine g_iadd (pc := 457) dL_law_457 ?_
  refine g_sld (pc := 458) hE h.1 dL_law_458 ?_
  have h := h.2
  obtain ⟨Q61, hc, h⟩ := h
  refine g_callVI (pc := 459) (M' := mX5_info) (n := 10) (As := [.int (xs (x3 + (1 : Int32)).toNatClampNeg), .int (xs (x3 + (2 : Int32)).toNatClampNeg)]) (st := []) dL_law_459 ml_L_57 ok_X5_info rfl hR (by decide) rc_0 (Nat.le_of_ble_eq_true rfl) rfl hc (fun r62 τ63 hq => ?_)
  have h := h r62 τ63 hq
  refine g_aload_n (pc := 462) dL_law_462 rfl 2 rfl ?_
  refine g_aload_n (pc := 463) dL_law_463 rfl 0 rfl ?_
  refine g_iload_n (pc := 464) dL_law_464 rfl 3 rfl ?_
  refine g_iconst (pc := 465) (1 : Int32) dL_law_465 rfl ?_
  refine g_iadd (pc := 466) dL_law_466 ?_
  refine g_sld (pc := 467) hE h.1 dL_law_467 ?_
  have h := h.2
  refine g_aload_n (pc := 468) dL_law_468 rfl 0 rfl ?_
  refine g_iload_n (pc := 469) dL_law_469 rfl 3 rfl ?_
  refine g_iconst (pc := 470) (2 : Int32) dL_law_470 rfl ?_
  refine g_iadd (pc := 471) dL_law_471 ?_
  refine g_sld (pc := 472) hE h.1 dL_law_472 ?_
  have h := h.2
  obtain ⟨Q64, hc, h⟩ := h
  refine g_callVI (pc := 473) (M' := mX6_info) (n := 10) (As := [.int (xs (x3 + (1 : Int32)).toNatClampNeg), .int (xs (x3 + (2 : Int32)).toNatClampNeg)]) (st := [.int r62]) dL_law_473 ml_L_60 ok_X6_info rfl hR (by decide) rc_25 (Nat.le_of_ble_eq_true rfl) rfl hc (fun r65 τ66 hq => ?_)
  have h := h r65 τ66 hq
  refine g_icmp_eq (pc := 476) 1067 dL_law_476 (by decide) (fun q => ?_) (fun q => ?_)
  · have h := h.1 q
    refine g_iinc (pc := 1067) (6 : Int32) [(3, _), (0, _), (1, _), (2, _)] dL_law_1067 3 rfl rfl (Nat.le_of_ble_eq_true rfl) rfl ?_
    refine g_goto (pc := 1070) 18 dL_law_1070 (by decide) ?_
    refine g_pm [1, 2, 3, 0] rfl ?_
    exact h
  · have h := h.2 q
    refine g_iconst (pc := 479) (0 : Int32) dL_law_479 rfl ?_
    exact h.elim
set_option maxHeartbeats 4000000 in
set_option maxRecDepth 100000 in
theorem t_L_law_481 {Γ : GT} {N : NT} {b L : Nat} {xs : Nat → Int32} (hR : rmOk 10 N) (hE : ∀ s A, N.2.2.2.2 s A → va_X b L xs s s.heap ∧ b < s.heap.size ∧ ¬ A b) (σ : St) (x3 : Int32)
    (h : vp_in (x3 + (1 : Int32)) L ∧ (vp_in (x3 + (2 : Int32)) L ∧ (∃ Q67 : Int32 → St → Prop, CtI Γ mX5_heard 1 [rf Γ 0, .int (xs (x3 + (1 : Int32)).toNatClampNeg), .int (xs (x3 + (2 : Int32)).toNatClampNeg)] σ Q67 ∧ ∀ (r68 : Int32) (τ69 : St), Q67 r68 τ69 → (vp_in (x3 + (1 : Int32)) L ∧ (vp_in (x3 + (2 : Int32)) L ∧ (∃ Q70 : Int32 → St → Prop, CtI Γ mX6_heard 2 [rf Γ 25, .int (xs (x3 + (1 : Int32)).toNatClampNeg), .int (xs (x3 + (2 : Int32)).toNatClampNeg)] τ69 Q70 ∧ ∀ (r71 : Int32) (τ72 : St), Q70 r71 τ72 → (((r68 = r71) → (G Γ mL_law N 18 [(0, .ref b), (1, rf Γ 0), (2, rf Γ 25), (3, .int (x3 + (6 : Int32)))] [] τ72)) ∧ ((¬ r68 = r71) → (False))))))))) :
    G Γ mL_law N 481 [(0, .ref b), (1, rf Γ 0), (2, rf Γ 25), (3, .int x3)] [] σ := by
  refine g_aload_n (pc := 481) dL_law_481 rfl 1 rfl ?_
  refine g_aload_n (pc := 482) dL_law_482 rfl 0 rfl ?_
  refine g_iload_n (pc := 483) dL_law_483 rfl 3 rfl ?_
  refine g_iconst (pc := 484) (1 : Int32) dL_law_484 rfl ?_
  refine g_iadd (pc := 485) dL_law_485 ?_
  refine g_sld (pc := 486) hE h.1 dL_law_486 ?_
  have h := h.2
  refine g_aload_n (pc := 487) dL_law_487 rfl 0 rfl ?_
  refine g_iload_n (pc := 488) dL_law_488 rfl 3 rfl ?_
  refine g_iconst (pc := 489) (2 : Int32) dL_law_489 rfl ?_
  refine g_iadd (pc := 490) dL_law_490 ?_
  refine g_sld (pc := 491) hE h.1 dL_law_491 ?_
  have h := h.2
  obtain ⟨Q67, hc, h⟩ := h
  refine g_callVI (pc := 492) (M' := mX5_heard) (n := 10) (As := [.int (xs (x3 + (1 : Int32)).toNatClampNeg), .int (xs (x3 + (2 : Int32)).toNatClampNeg)]) (st := []) dL_law_492 ml_L_61 ok_X5_heard rfl hR (by decide) rc_0 (Nat.le_of_ble_eq_true rfl) rfl hc (fun r68 τ69 hq => ?_)
  have h := h r68 τ69 hq
  refine g_aload_n (pc := 495) dL_law_495 rfl 2 rfl ?_
  refine g_aload_n (pc := 496) dL_law_496 rfl 0 rfl ?_
  refine g_iload_n (pc := 497) dL_law_497 rfl 3 rfl ?_
  refine g_iconst (pc := 498) (1 : Int32) dL_law_498 rfl ?_
  refine g_iadd (pc := 499) dL_law_499 ?_
  refine g_sld (pc := 500) hE h.1 dL_law_500 ?_
  have h := h.2
  refine g_aload_n (pc := 501) dL_law_501 rfl 0 rfl ?_
  refine g_iload_n (pc := 502) dL_law_502 rfl 3 rfl ?_
  refine g_iconst (pc := 503) (2 : Int32) dL_law_503 rfl ?_
  refine g_iadd (pc := 504) dL_law_504 ?_
  refine g_sld (pc := 505) hE h.1 dL_law_505 ?_
  have h := h.2
  obtain ⟨Q70, hc, h⟩ := h
  refine g_callVI (pc := 506) (M' := mX6_heard) (n := 10) (As := [.int (xs (x3 + (1 : Int32)).toNatClampNeg), .int (xs (x3 + (2 : Int32)).toNatClampNeg)]) (st := [.int r68]) dL_law_506 ml_L_64 ok_X6_heard rfl hR (by decide) rc_25 (Nat.le_of_ble_eq_true rfl) rfl hc (fun r71 τ72 hq => ?_)
  have h := h r71 τ72 hq
  refine g_icmp_eq (pc := 509) 1067 dL_law_509 (by decide) (fun q => ?_) (fun q => ?_)
  · have h := h.1 q
    refine g_iinc (pc := 1067) (6 : Int32) [(3, _), (0, _), (1, _), (2, _)] dL_law_1067 3 rfl rfl (Nat.le_of_ble_eq_true rfl) rfl ?_
    refine g_goto (pc := 1070) 18 dL_law_1070 (by decide) ?_
    refine g_pm [1, 2, 3, 0] rfl ?_
    exact h
  · have h := h.2 q
    refine g_iconst (pc := 512) (0 : Int32) dL_law_512 rfl ?_
    exact h.elim
set_option maxHeartbeats 4000000 in
set_option maxRecDepth 100000 in
theorem t_L_law_514 {Γ : GT} {N : NT} {b L : Nat} {xs : Nat → Int32} (hR : rmOk 10 N) (hE : ∀ s A, N.2.2.2.2 s A → va_X b L xs s s.heap ∧ b < s.heap.size ∧ ¬ A b) (σ : St) (x3 : Int32)
    (h : vp_in (x3 + (1 : Int32)) L ∧ (∃ Q73 : Int64 → St → Prop, CtJ Γ mX5_minor 3 [rf Γ 0, .int (xs (x3 + (1 : Int32)).toNatClampNeg)] σ Q73 ∧ ∀ (r74 : Int64) (τ75 : St), Q73 r74 τ75 → (vp_in (x3 + (1 : Int32)) L ∧ (∃ Q76 : Int64 → St → Prop, CtJ Γ mX6_minor 3 [rf Γ 25, .int (xs (x3 + (1 : Int32)).toNatClampNeg)] τ75 Q76 ∧ ∀ (r77 : Int64) (τ78 : St), Q76 r77 τ78 → (((r74 = r77) → (G Γ mL_law N 18 [(0, .ref b), (1, rf Γ 0), (2, rf Γ 25), (3, .int (x3 + (6 : Int32)))] [] τ78)) ∧ ((¬ r74 = r77) → (False))))))) :
    G Γ mL_law N 514 [(0, .ref b), (1, rf Γ 0), (2, rf Γ 25), (3, .int x3)] [] σ := by
  refine g_aload_n (pc := 514) dL_law_514 rfl 1 rfl ?_
  refine g_aload_n (pc := 515) dL_law_515 rfl 0 rfl ?_
  refine g_iload_n (pc := 516) dL_law_516 rfl 3 rfl ?_
  refine g_iconst (pc := 517) (1 : Int32) dL_law_517 rfl ?_
  refine g_iadd (pc := 518) dL_law_518 ?_
  refine g_sld (pc := 519) hE h.1 dL_law_519 ?_
  have h := h.2
  obtain ⟨Q73, hc, h⟩ := h
  refine g_callVJ (pc := 520) (M' := mX5_minor) (n := 10) (As := [.int (xs (x3 + (1 : Int32)).toNatClampNeg)]) (st := []) dL_law_520 ml_L_65 ok_X5_minor rfl hR (by decide) rc_0 (Nat.le_of_ble_eq_true rfl) rfl hc (fun r74 τ75 hq => ?_)
  have h := h r74 τ75 hq
  refine g_aload_n (pc := 523) dL_law_523 rfl 2 rfl ?_
  refine g_aload_n (pc := 524) dL_law_524 rfl 0 rfl ?_
  refine g_iload_n (pc := 525) dL_law_525 rfl 3 rfl ?_
  refine g_iconst (pc := 526) (1 : Int32) dL_law_526 rfl ?_
  refine g_iadd (pc := 527) dL_law_527 ?_
  refine g_sld (pc := 528) hE h.1 dL_law_528 ?_
  have h := h.2
  obtain ⟨Q76, hc, h⟩ := h
  refine g_callVJ (pc := 529) (M' := mX6_minor) (n := 10) (As := [.int (xs (x3 + (1 : Int32)).toNatClampNeg)]) (st := [.long r74]) dL_law_529 ml_L_69 ok_X6_minor rfl hR (by decide) rc_25 (Nat.le_of_ble_eq_true rfl) rfl hc (fun r77 τ78 hq => ?_)
  have h := h r77 τ78 hq
  refine g_lcmp_eq (pc := 532) 1067 dL_law_532 dL_law_533 (by decide) (fun q => ?_) (fun q => ?_)
  · have h := h.1 q
    refine g_iinc (pc := 1067) (6 : Int32) [(3, _), (0, _), (1, _), (2, _)] dL_law_1067 3 rfl rfl (Nat.le_of_ble_eq_true rfl) rfl ?_
    refine g_goto (pc := 1070) 18 dL_law_1070 (by decide) ?_
    refine g_pm [1, 2, 3, 0] rfl ?_
    exact h
  · have h := h.2 q
    refine g_iconst (pc := 536) (0 : Int32) dL_law_536 rfl ?_
    exact h.elim
set_option maxHeartbeats 4000000 in
set_option maxRecDepth 100000 in
theorem t_L_law_538 {Γ : GT} {N : NT} {b L : Nat} {xs : Nat → Int32} (hR : rmOk 10 N) (hE : ∀ s A, N.2.2.2.2 s A → va_X b L xs s s.heap ∧ b < s.heap.size ∧ ¬ A b) (σ : St) (x3 : Int32)
    (h : ∃ Q79 : Int32 → St → Prop, CtI Γ mX5_feasible 3 [rf Γ 0] σ Q79 ∧ ∀ (r80 : Int32) (τ81 : St), Q79 r80 τ81 → (∃ Q82 : Int32 → St → Prop, CtI Γ mX6_feasible 5 [rf Γ 25] τ81 Q82 ∧ ∀ (r83 : Int32) (τ84 : St), Q82 r83 τ84 → (((r80 = r83) → (G Γ mL_law N 18 [(0, .ref b), (1, rf Γ 0), (2, rf Γ 25), (3, .int (x3 + (6 : Int32)))] [] τ84)) ∧ ((¬ r80 = r83) → (False))))) :
    G Γ mL_law N 538 [(0, .ref b), (1, rf Γ 0), (2, rf Γ 25), (3, .int x3)] [] σ := by
  refine g_aload_n (pc := 538) dL_law_538 rfl 1 rfl ?_
  obtain ⟨Q79, hc, h⟩ := h
  refine g_callVI (pc := 539) (M' := mX5_feasible) (n := 10) (As := []) (st := []) dL_law_539 ml_L_70 ok_X5_feasible rfl hR (by decide) rc_0 (Nat.le_of_ble_eq_true rfl) rfl hc (fun r80 τ81 hq => ?_)
  have h := h r80 τ81 hq
  refine g_aload_n (pc := 542) dL_law_542 rfl 2 rfl ?_
  obtain ⟨Q82, hc, h⟩ := h
  refine g_callVI (pc := 543) (M' := mX6_feasible) (n := 10) (As := []) (st := [.int r80]) dL_law_543 ml_L_73 ok_X6_feasible rfl hR (by decide) rc_25 (Nat.le_of_ble_eq_true rfl) rfl hc (fun r83 τ84 hq => ?_)
  have h := h r83 τ84 hq
  refine g_icmp_eq (pc := 546) 1067 dL_law_546 (by decide) (fun q => ?_) (fun q => ?_)
  · have h := h.1 q
    refine g_iinc (pc := 1067) (6 : Int32) [(3, _), (0, _), (1, _), (2, _)] dL_law_1067 3 rfl rfl (Nat.le_of_ble_eq_true rfl) rfl ?_
    refine g_goto (pc := 1070) 18 dL_law_1070 (by decide) ?_
    refine g_pm [1, 2, 3, 0] rfl ?_
    exact h
  · have h := h.2 q
    refine g_iconst (pc := 549) (0 : Int32) dL_law_549 rfl ?_
    exact h.elim
set_option maxHeartbeats 4000000 in
set_option maxRecDepth 100000 in
theorem t_L_law_551 {Γ : GT} {N : NT} {b L : Nat} {xs : Nat → Int32} (hR : rmOk 10 N) (hE : ∀ s A, N.2.2.2.2 s A → va_X b L xs s s.heap ∧ b < s.heap.size ∧ ¬ A b) (σ : St) (x3 : Int32)
    (h : vp_in (x3 + (1 : Int32)) L ∧ (vp_in (x3 + (2 : Int32)) L ∧ (∃ Q85 : Int64 → St → Prop, CtJ Γ mX5_least 3 [rf Γ 0, .int (xs (x3 + (1 : Int32)).toNatClampNeg), .int (xs (x3 + (2 : Int32)).toNatClampNeg)] σ Q85 ∧ ∀ (r86 : Int64) (τ87 : St), Q85 r86 τ87 → (vp_in (x3 + (1 : Int32)) L ∧ (vp_in (x3 + (2 : Int32)) L ∧ (∃ Q88 : Int64 → St → Prop, CtJ Γ mX6_least 5 [rf Γ 25, .int (xs (x3 + (1 : Int32)).toNatClampNeg), .int (xs (x3 + (2 : Int32)).toNatClampNeg)] τ87 Q88 ∧ ∀ (r89 : Int64) (τ90 : St), Q88 r89 τ90 → (((r86 = r89) → (G Γ mL_law N 18 [(0, .ref b), (1, rf Γ 0), (2, rf Γ 25), (3, .int (x3 + (6 : Int32)))] [] τ90)) ∧ ((¬ r86 = r89) → (False))))))))) :
    G Γ mL_law N 551 [(0, .ref b), (1, rf Γ 0), (2, rf Γ 25), (3, .int x3)] [] σ := by
  refine g_aload_n (pc := 551) dL_law_551 rfl 1 rfl ?_
  refine g_aload_n (pc := 552) dL_law_552 rfl 0 rfl ?_
  refine g_iload_n (pc := 553) dL_law_553 rfl 3 rfl ?_
  refine g_iconst (pc := 554) (1 : Int32) dL_law_554 rfl ?_
  refine g_iadd (pc := 555) dL_law_555 ?_
  refine g_sld (pc := 556) hE h.1 dL_law_556 ?_
  have h := h.2
  refine g_aload_n (pc := 557) dL_law_557 rfl 0 rfl ?_
  refine g_iload_n (pc := 558) dL_law_558 rfl 3 rfl ?_
  refine g_iconst (pc := 559) (2 : Int32) dL_law_559 rfl ?_
  refine g_iadd (pc := 560) dL_law_560 ?_
  refine g_sld (pc := 561) hE h.1 dL_law_561 ?_
  have h := h.2
  obtain ⟨Q85, hc, h⟩ := h
  refine g_callVJ (pc := 562) (M' := mX5_least) (n := 10) (As := [.int (xs (x3 + (1 : Int32)).toNatClampNeg), .int (xs (x3 + (2 : Int32)).toNatClampNeg)]) (st := []) dL_law_562 ml_L_74 ok_X5_least rfl hR (by decide) rc_0 (Nat.le_of_ble_eq_true rfl) rfl hc (fun r86 τ87 hq => ?_)
  have h := h r86 τ87 hq
  refine g_aload_n (pc := 565) dL_law_565 rfl 2 rfl ?_
  refine g_aload_n (pc := 566) dL_law_566 rfl 0 rfl ?_
  refine g_iload_n (pc := 567) dL_law_567 rfl 3 rfl ?_
  refine g_iconst (pc := 568) (1 : Int32) dL_law_568 rfl ?_
  refine g_iadd (pc := 569) dL_law_569 ?_
  refine g_sld (pc := 570) hE h.1 dL_law_570 ?_
  have h := h.2
  refine g_aload_n (pc := 571) dL_law_571 rfl 0 rfl ?_
  refine g_iload_n (pc := 572) dL_law_572 rfl 3 rfl ?_
  refine g_iconst (pc := 573) (2 : Int32) dL_law_573 rfl ?_
  refine g_iadd (pc := 574) dL_law_574 ?_
  refine g_sld (pc := 575) hE h.1 dL_law_575 ?_
  have h := h.2
  obtain ⟨Q88, hc, h⟩ := h
  refine g_callVJ (pc := 576) (M' := mX6_least) (n := 10) (As := [.int (xs (x3 + (1 : Int32)).toNatClampNeg), .int (xs (x3 + (2 : Int32)).toNatClampNeg)]) (st := [.long r86]) dL_law_576 ml_L_78 ok_X6_least rfl hR (by decide) rc_25 (Nat.le_of_ble_eq_true rfl) rfl hc (fun r89 τ90 hq => ?_)
  have h := h r89 τ90 hq
  refine g_lcmp_eq (pc := 579) 1067 dL_law_579 dL_law_580 (by decide) (fun q => ?_) (fun q => ?_)
  · have h := h.1 q
    refine g_iinc (pc := 1067) (6 : Int32) [(3, _), (0, _), (1, _), (2, _)] dL_law_1067 3 rfl rfl (Nat.le_of_ble_eq_true rfl) rfl ?_
    refine g_goto (pc := 1070) 18 dL_law_1070 (by decide) ?_
    refine g_pm [1, 2, 3, 0] rfl ?_
    exact h
  · have h := h.2 q
    refine g_iconst (pc := 583) (0 : Int32) dL_law_583 rfl ?_
    exact h.elim
set_option maxHeartbeats 4000000 in
set_option maxRecDepth 100000 in
theorem t_L_law_585 {Γ : GT} {N : NT} {b L : Nat} {xs : Nat → Int32} (hR : rmOk 10 N) (hE : ∀ s A, N.2.2.2.2 s A → va_X b L xs s s.heap ∧ b < s.heap.size ∧ ¬ A b) (σ : St) (x3 : Int32)
    (h : ∃ Q91 : Int32 → St → Prop, CtI Γ mX5_witness 4 [rf Γ 0] σ Q91 ∧ ∀ (r92 : Int32) (τ93 : St), Q91 r92 τ93 → (∃ Q94 : Int32 → St → Prop, CtI Γ mX6_witness 6 [rf Γ 25] τ93 Q94 ∧ ∀ (r95 : Int32) (τ96 : St), Q94 r95 τ96 → (((r92 = r95) → (G Γ mL_law N 18 [(0, .ref b), (1, rf Γ 0), (2, rf Γ 25), (3, .int (x3 + (6 : Int32)))] [] τ96)) ∧ ((¬ r92 = r95) → (False))))) :
    G Γ mL_law N 585 [(0, .ref b), (1, rf Γ 0), (2, rf Γ 25), (3, .int x3)] [] σ := by
  refine g_aload_n (pc := 585) dL_law_585 rfl 1 rfl ?_
  obtain ⟨Q91, hc, h⟩ := h
  refine g_callVI (pc := 586) (M' := mX5_witness) (n := 10) (As := []) (st := []) dL_law_586 ml_L_79 ok_X5_witness rfl hR (by decide) rc_0 (Nat.le_of_ble_eq_true rfl) rfl hc (fun r92 τ93 hq => ?_)
  have h := h r92 τ93 hq
  refine g_aload_n (pc := 589) dL_law_589 rfl 2 rfl ?_
  obtain ⟨Q94, hc, h⟩ := h
  refine g_callVI (pc := 590) (M' := mX6_witness) (n := 10) (As := []) (st := [.int r92]) dL_law_590 ml_L_82 ok_X6_witness rfl hR (by decide) rc_25 (Nat.le_of_ble_eq_true rfl) rfl hc (fun r95 τ96 hq => ?_)
  have h := h r95 τ96 hq
  refine g_icmp_eq (pc := 593) 1067 dL_law_593 (by decide) (fun q => ?_) (fun q => ?_)
  · have h := h.1 q
    refine g_iinc (pc := 1067) (6 : Int32) [(3, _), (0, _), (1, _), (2, _)] dL_law_1067 3 rfl rfl (Nat.le_of_ble_eq_true rfl) rfl ?_
    refine g_goto (pc := 1070) 18 dL_law_1070 (by decide) ?_
    refine g_pm [1, 2, 3, 0] rfl ?_
    exact h
  · have h := h.2 q
    refine g_iconst (pc := 596) (0 : Int32) dL_law_596 rfl ?_
    exact h.elim
set_option maxHeartbeats 4000000 in
set_option maxRecDepth 100000 in
theorem t_L_law_598 {Γ : GT} {N : NT} {b L : Nat} {xs : Nat → Int32} (hR : rmOk 10 N) (hE : ∀ s A, N.2.2.2.2 s A → va_X b L xs s s.heap ∧ b < s.heap.size ∧ ¬ A b) (σ : St) (x3 : Int32)
    (h : ∃ Q97 : Int32 → St → Prop, CtI Γ mX5_out 4 [rf Γ 0] σ Q97 ∧ ∀ (r98 : Int32) (τ99 : St), Q97 r98 τ99 → (∃ Q100 : Int32 → St → Prop, CtI Γ mX6_out 5 [rf Γ 25] τ99 Q100 ∧ ∀ (r101 : Int32) (τ102 : St), Q100 r101 τ102 → (((r98 = r101) → (G Γ mL_law N 18 [(0, .ref b), (1, rf Γ 0), (2, rf Γ 25), (3, .int (x3 + (6 : Int32)))] [] τ102)) ∧ ((¬ r98 = r101) → (False))))) :
    G Γ mL_law N 598 [(0, .ref b), (1, rf Γ 0), (2, rf Γ 25), (3, .int x3)] [] σ := by
  refine g_aload_n (pc := 598) dL_law_598 rfl 1 rfl ?_
  obtain ⟨Q97, hc, h⟩ := h
  refine g_callVI (pc := 599) (M' := mX5_out) (n := 10) (As := []) (st := []) dL_law_599 ml_L_83 ok_X5_out rfl hR (by decide) rc_0 (Nat.le_of_ble_eq_true rfl) rfl hc (fun r98 τ99 hq => ?_)
  have h := h r98 τ99 hq
  refine g_aload_n (pc := 602) dL_law_602 rfl 2 rfl ?_
  obtain ⟨Q100, hc, h⟩ := h
  refine g_callVI (pc := 603) (M' := mX6_out) (n := 10) (As := []) (st := [.int r98]) dL_law_603 ml_L_86 ok_X6_out rfl hR (by decide) rc_25 (Nat.le_of_ble_eq_true rfl) rfl hc (fun r101 τ102 hq => ?_)
  have h := h r101 τ102 hq
  refine g_icmp_eq (pc := 606) 1067 dL_law_606 (by decide) (fun q => ?_) (fun q => ?_)
  · have h := h.1 q
    refine g_iinc (pc := 1067) (6 : Int32) [(3, _), (0, _), (1, _), (2, _)] dL_law_1067 3 rfl rfl (Nat.le_of_ble_eq_true rfl) rfl ?_
    refine g_goto (pc := 1070) 18 dL_law_1070 (by decide) ?_
    refine g_pm [1, 2, 3, 0] rfl ?_
    exact h
  · have h := h.2 q
    refine g_iconst (pc := 609) (0 : Int32) dL_law_609 rfl ?_
    exact h.elim
set_option maxHeartbeats 4000000 in
set_option maxRecDepth 100000 in
theorem t_L_law_611 {Γ : GT} {N : NT} {b L : Nat} {xs : Nat → Int32} (hR : rmOk 10 N) (hE : ∀ s A, N.2.2.2.2 s A → va_X b L xs s s.heap ∧ b < s.heap.size ∧ ¬ A b) (σ : St) (x3 : Int32)
    (h : ∃ Q103 : Int32 → St → Prop, CtI Γ mX5_admitted 4 [rf Γ 0] σ Q103 ∧ ∀ (r104 : Int32) (τ105 : St), Q103 r104 τ105 → (∃ Q106 : Int32 → St → Prop, CtI Γ mX6_admitted 5 [rf Γ 25] τ105 Q106 ∧ ∀ (r107 : Int32) (τ108 : St), Q106 r107 τ108 → (((r104 = r107) → (G Γ mL_law N 18 [(0, .ref b), (1, rf Γ 0), (2, rf Γ 25), (3, .int (x3 + (6 : Int32)))] [] τ108)) ∧ ((¬ r104 = r107) → (False))))) :
    G Γ mL_law N 611 [(0, .ref b), (1, rf Γ 0), (2, rf Γ 25), (3, .int x3)] [] σ := by
  refine g_aload_n (pc := 611) dL_law_611 rfl 1 rfl ?_
  obtain ⟨Q103, hc, h⟩ := h
  refine g_callVI (pc := 612) (M' := mX5_admitted) (n := 10) (As := []) (st := []) dL_law_612 ml_L_87 ok_X5_admitted rfl hR (by decide) rc_0 (Nat.le_of_ble_eq_true rfl) rfl hc (fun r104 τ105 hq => ?_)
  have h := h r104 τ105 hq
  refine g_aload_n (pc := 615) dL_law_615 rfl 2 rfl ?_
  obtain ⟨Q106, hc, h⟩ := h
  refine g_callVI (pc := 616) (M' := mX6_admitted) (n := 10) (As := []) (st := [.int r104]) dL_law_616 ml_L_90 ok_X6_admitted rfl hR (by decide) rc_25 (Nat.le_of_ble_eq_true rfl) rfl hc (fun r107 τ108 hq => ?_)
  have h := h r107 τ108 hq
  refine g_icmp_eq (pc := 619) 1067 dL_law_619 (by decide) (fun q => ?_) (fun q => ?_)
  · have h := h.1 q
    refine g_iinc (pc := 1067) (6 : Int32) [(3, _), (0, _), (1, _), (2, _)] dL_law_1067 3 rfl rfl (Nat.le_of_ble_eq_true rfl) rfl ?_
    refine g_goto (pc := 1070) 18 dL_law_1070 (by decide) ?_
    refine g_pm [1, 2, 3, 0] rfl ?_
    exact h
  · have h := h.2 q
    refine g_iconst (pc := 622) (0 : Int32) dL_law_622 rfl ?_
    exact h.elim
set_option maxHeartbeats 4000000 in
set_option maxRecDepth 100000 in
theorem t_L_law_624 {Γ : GT} {N : NT} {b L : Nat} {xs : Nat → Int32} (hR : rmOk 10 N) (hE : ∀ s A, N.2.2.2.2 s A → va_X b L xs s s.heap ∧ b < s.heap.size ∧ ¬ A b) (σ : St) (x3 : Int32)
    (h : ∃ Q109 : Int32 → St → Prop, CtI Γ mX5_softer 4 [rf Γ 0] σ Q109 ∧ ∀ (r110 : Int32) (τ111 : St), Q109 r110 τ111 → (∃ Q112 : Int32 → St → Prop, CtI Γ mX6_softer 5 [rf Γ 25] τ111 Q112 ∧ ∀ (r113 : Int32) (τ114 : St), Q112 r113 τ114 → (((r110 = r113) → (G Γ mL_law N 18 [(0, .ref b), (1, rf Γ 0), (2, rf Γ 25), (3, .int (x3 + (6 : Int32)))] [] τ114)) ∧ ((¬ r110 = r113) → (False))))) :
    G Γ mL_law N 624 [(0, .ref b), (1, rf Γ 0), (2, rf Γ 25), (3, .int x3)] [] σ := by
  refine g_aload_n (pc := 624) dL_law_624 rfl 1 rfl ?_
  obtain ⟨Q109, hc, h⟩ := h
  refine g_callVI (pc := 625) (M' := mX5_softer) (n := 10) (As := []) (st := []) dL_law_625 ml_L_91 ok_X5_softer rfl hR (by decide) rc_0 (Nat.le_of_ble_eq_true rfl) rfl hc (fun r110 τ111 hq => ?_)
  have h := h r110 τ111 hq
  refine g_aload_n (pc := 628) dL_law_628 rfl 2 rfl ?_
  obtain ⟨Q112, hc, h⟩ := h
  refine g_callVI (pc := 629) (M' := mX6_softer) (n := 10) (As := []) (st := [.int r110]) dL_law_629 ml_L_94 ok_X6_softer rfl hR (by decide) rc_25 (Nat.le_of_ble_eq_true rfl) rfl hc (fun r113 τ114 hq => ?_)
  have h := h r113 τ114 hq
  refine g_icmp_eq (pc := 632) 1067 dL_law_632 (by decide) (fun q => ?_) (fun q => ?_)
  · have h := h.1 q
    refine g_iinc (pc := 1067) (6 : Int32) [(3, _), (0, _), (1, _), (2, _)] dL_law_1067 3 rfl rfl (Nat.le_of_ble_eq_true rfl) rfl ?_
    refine g_goto (pc := 1070) 18 dL_law_1070 (by decide) ?_
    refine g_pm [1, 2, 3, 0] rfl ?_
    exact h
  · have h := h.2 q
    refine g_iconst (pc := 635) (0 : Int32) dL_law_635 rfl ?_
    exact h.elim
set_option maxHeartbeats 4000000 in
set_option maxRecDepth 100000 in
theorem t_L_law_637 {Γ : GT} {N : NT} {b L : Nat} {xs : Nat → Int32} (hR : rmOk 10 N) (hE : ∀ s A, N.2.2.2.2 s A → va_X b L xs s s.heap ∧ b < s.heap.size ∧ ¬ A b) (σ : St) (x3 : Int32)
    (h : ∃ Q115 : Int32 → St → Prop, CtI Γ mX5_margin 4 [rf Γ 0] σ Q115 ∧ ∀ (r116 : Int32) (τ117 : St), Q115 r116 τ117 → (∃ Q118 : Int32 → St → Prop, CtI Γ mX6_margin 4 [rf Γ 25] τ117 Q118 ∧ ∀ (r119 : Int32) (τ120 : St), Q118 r119 τ120 → (((r116 = r119) → (G Γ mL_law N 18 [(0, .ref b), (1, rf Γ 0), (2, rf Γ 25), (3, .int (x3 + (6 : Int32)))] [] τ120)) ∧ ((¬ r116 = r119) → (False))))) :
    G Γ mL_law N 637 [(0, .ref b), (1, rf Γ 0), (2, rf Γ 25), (3, .int x3)] [] σ := by
  refine g_aload_n (pc := 637) dL_law_637 rfl 1 rfl ?_
  obtain ⟨Q115, hc, h⟩ := h
  refine g_callVI (pc := 638) (M' := mX5_margin) (n := 10) (As := []) (st := []) dL_law_638 ml_L_95 ok_X5_margin rfl hR (by decide) rc_0 (Nat.le_of_ble_eq_true rfl) rfl hc (fun r116 τ117 hq => ?_)
  have h := h r116 τ117 hq
  refine g_aload_n (pc := 641) dL_law_641 rfl 2 rfl ?_
  obtain ⟨Q118, hc, h⟩ := h
  refine g_callVI (pc := 642) (M' := mX6_margin) (n := 10) (As := []) (st := [.int r116]) dL_law_642 ml_L_98 ok_X6_margin rfl hR (by decide) rc_25 (Nat.le_of_ble_eq_true rfl) rfl hc (fun r119 τ120 hq => ?_)
  have h := h r119 τ120 hq
  refine g_icmp_eq (pc := 645) 1067 dL_law_645 (by decide) (fun q => ?_) (fun q => ?_)
  · have h := h.1 q
    refine g_iinc (pc := 1067) (6 : Int32) [(3, _), (0, _), (1, _), (2, _)] dL_law_1067 3 rfl rfl (Nat.le_of_ble_eq_true rfl) rfl ?_
    refine g_goto (pc := 1070) 18 dL_law_1070 (by decide) ?_
    refine g_pm [1, 2, 3, 0] rfl ?_
    exact h
  · have h := h.2 q
    refine g_iconst (pc := 648) (0 : Int32) dL_law_648 rfl ?_
    exact h.elim
set_option maxHeartbeats 4000000 in
set_option maxRecDepth 100000 in
theorem t_L_law_650 {Γ : GT} {N : NT} {b L : Nat} {xs : Nat → Int32} (hR : rmOk 10 N) (hE : ∀ s A, N.2.2.2.2 s A → va_X b L xs s s.heap ∧ b < s.heap.size ∧ ¬ A b) (σ : St) (x3 : Int32)
    (h : vp_in (x3 + (1 : Int32)) L ∧ (vp_in (x3 + (2 : Int32)) L ∧ (∃ Q121 : Int64 → St → Prop, CtJ Γ mX5_share 3 [rf Γ 0, .int (xs (x3 + (1 : Int32)).toNatClampNeg), .int (xs (x3 + (2 : Int32)).toNatClampNeg)] σ Q121 ∧ ∀ (r122 : Int64) (τ123 : St), Q121 r122 τ123 → (vp_in (x3 + (1 : Int32)) L ∧ (vp_in (x3 + (2 : Int32)) L ∧ (∃ Q124 : Int64 → St → Prop, CtJ Γ mX6_share 2 [rf Γ 25, .int (xs (x3 + (1 : Int32)).toNatClampNeg), .int (xs (x3 + (2 : Int32)).toNatClampNeg)] τ123 Q124 ∧ ∀ (r125 : Int64) (τ126 : St), Q124 r125 τ126 → (((r122 = r125) → (G Γ mL_law N 18 [(0, .ref b), (1, rf Γ 0), (2, rf Γ 25), (3, .int (x3 + (6 : Int32)))] [] τ126)) ∧ ((¬ r122 = r125) → (False))))))))) :
    G Γ mL_law N 650 [(0, .ref b), (1, rf Γ 0), (2, rf Γ 25), (3, .int x3)] [] σ := by
  refine g_aload_n (pc := 650) dL_law_650 rfl 1 rfl ?_
  refine g_aload_n (pc := 651) dL_law_651 rfl 0 rfl ?_
  refine g_iload_n (pc := 652) dL_law_652 rfl 3 rfl ?_
  refine g_iconst (pc := 653) (1 : Int32) dL_law_653 rfl ?_
  refine g_iadd (pc := 654) dL_law_654 ?_
  refine g_sld (pc := 655) hE h.1 dL_law_655 ?_
  have h := h.2
  refine g_aload_n (pc := 656) dL_law_656 rfl 0 rfl ?_
  refine g_iload_n (pc := 657) dL_law_657 rfl 3 rfl ?_
  refine g_iconst (pc := 658) (2 : Int32) dL_law_658 rfl ?_
  refine g_iadd (pc := 659) dL_law_659 ?_
  refine g_sld (pc := 660) hE h.1 dL_law_660 ?_
  have h := h.2
  obtain ⟨Q121, hc, h⟩ := h
  refine g_callVJ (pc := 661) (M' := mX5_share) (n := 10) (As := [.int (xs (x3 + (1 : Int32)).toNatClampNeg), .int (xs (x3 + (2 : Int32)).toNatClampNeg)]) (st := []) dL_law_661 ml_L_99 ok_X5_share rfl hR (by decide) rc_0 (Nat.le_of_ble_eq_true rfl) rfl hc (fun r122 τ123 hq => ?_)
  have h := h r122 τ123 hq
  refine g_aload_n (pc := 664) dL_law_664 rfl 2 rfl ?_
  refine g_aload_n (pc := 665) dL_law_665 rfl 0 rfl ?_
  refine g_iload_n (pc := 666) dL_law_666 rfl 3 rfl ?_
  refine g_iconst (pc := 667) (1 : Int32) dL_law_667 rfl ?_
  refine g_iadd (pc := 668) dL_law_668 ?_
  refine g_sld (pc := 669) hE h.1 dL_law_669 ?_
  have h := h.2
  refine g_aload_n (pc := 670) dL_law_670 rfl 0 rfl ?_
  refine g_iload_n (pc := 671) dL_law_671 rfl 3 rfl ?_
  refine g_iconst (pc := 672) (2 : Int32) dL_law_672 rfl ?_
  refine g_iadd (pc := 673) dL_law_673 ?_
  refine g_sld (pc := 674) hE h.1 dL_law_674 ?_
  have h := h.2
  obtain ⟨Q124, hc, h⟩ := h
  refine g_callVJ (pc := 675) (M' := mX6_share) (n := 10) (As := [.int (xs (x3 + (1 : Int32)).toNatClampNeg), .int (xs (x3 + (2 : Int32)).toNatClampNeg)]) (st := [.long r122]) dL_law_675 ml_L_102 ok_X6_share rfl hR (by decide) rc_25 (Nat.le_of_ble_eq_true rfl) rfl hc (fun r125 τ126 hq => ?_)
  have h := h r125 τ126 hq
  refine g_lcmp_eq (pc := 678) 1067 dL_law_678 dL_law_679 (by decide) (fun q => ?_) (fun q => ?_)
  · have h := h.1 q
    refine g_iinc (pc := 1067) (6 : Int32) [(3, _), (0, _), (1, _), (2, _)] dL_law_1067 3 rfl rfl (Nat.le_of_ble_eq_true rfl) rfl ?_
    refine g_goto (pc := 1070) 18 dL_law_1070 (by decide) ?_
    refine g_pm [1, 2, 3, 0] rfl ?_
    exact h
  · have h := h.2 q
    refine g_iconst (pc := 682) (0 : Int32) dL_law_682 rfl ?_
    exact h.elim
set_option maxHeartbeats 4000000 in
set_option maxRecDepth 100000 in
theorem t_L_law_684 {Γ : GT} {N : NT} {b L : Nat} {xs : Nat → Int32} (hR : rmOk 10 N) (hE : ∀ s A, N.2.2.2.2 s A → va_X b L xs s s.heap ∧ b < s.heap.size ∧ ¬ A b) (σ : St) (x3 : Int32)
    (h : vp_in (x3 + (1 : Int32)) L ∧ (∃ Q127 : Int32 → St → Prop, CtI Γ mX5_step 3 [rf Γ 0, .int (xs (x3 + (1 : Int32)).toNatClampNeg)] σ Q127 ∧ ∀ (r128 : Int32) (τ129 : St), Q127 r128 τ129 → (vp_in (x3 + (1 : Int32)) L ∧ (∃ Q130 : Int32 → St → Prop, CtI Γ mX6_step 3 [rf Γ 25, .int (xs (x3 + (1 : Int32)).toNatClampNeg)] τ129 Q130 ∧ ∀ (r131 : Int32) (τ132 : St), Q130 r131 τ132 → (((r128 = r131) → (G Γ mL_law N 18 [(0, .ref b), (1, rf Γ 0), (2, rf Γ 25), (3, .int (x3 + (6 : Int32)))] [] τ132)) ∧ ((¬ r128 = r131) → (False))))))) :
    G Γ mL_law N 684 [(0, .ref b), (1, rf Γ 0), (2, rf Γ 25), (3, .int x3)] [] σ := by
  refine g_aload_n (pc := 684) dL_law_684 rfl 1 rfl ?_
  refine g_aload_n (pc := 685) dL_law_685 rfl 0 rfl ?_
  refine g_iload_n (pc := 686) dL_law_686 rfl 3 rfl ?_
  refine g_iconst (pc := 687) (1 : Int32) dL_law_687 rfl ?_
  refine g_iadd (pc := 688) dL_law_688 ?_
  refine g_sld (pc := 689) hE h.1 dL_law_689 ?_
  have h := h.2
  obtain ⟨Q127, hc, h⟩ := h
  refine g_callVI (pc := 690) (M' := mX5_step) (n := 10) (As := [.int (xs (x3 + (1 : Int32)).toNatClampNeg)]) (st := []) dL_law_690 ml_L_103 ok_X5_step rfl hR (by decide) rc_0 (Nat.le_of_ble_eq_true rfl) rfl hc (fun r128 τ129 hq => ?_)
  have h := h r128 τ129 hq
  refine g_aload_n (pc := 693) dL_law_693 rfl 2 rfl ?_
  refine g_aload_n (pc := 694) dL_law_694 rfl 0 rfl ?_
  refine g_iload_n (pc := 695) dL_law_695 rfl 3 rfl ?_
  refine g_iconst (pc := 696) (1 : Int32) dL_law_696 rfl ?_
  refine g_iadd (pc := 697) dL_law_697 ?_
  refine g_sld (pc := 698) hE h.1 dL_law_698 ?_
  have h := h.2
  obtain ⟨Q130, hc, h⟩ := h
  refine g_callVI (pc := 699) (M' := mX6_step) (n := 10) (As := [.int (xs (x3 + (1 : Int32)).toNatClampNeg)]) (st := [.int r128]) dL_law_699 ml_L_106 ok_X6_step rfl hR (by decide) rc_25 (Nat.le_of_ble_eq_true rfl) rfl hc (fun r131 τ132 hq => ?_)
  have h := h r131 τ132 hq
  refine g_icmp_eq (pc := 702) 1067 dL_law_702 (by decide) (fun q => ?_) (fun q => ?_)
  · have h := h.1 q
    refine g_iinc (pc := 1067) (6 : Int32) [(3, _), (0, _), (1, _), (2, _)] dL_law_1067 3 rfl rfl (Nat.le_of_ble_eq_true rfl) rfl ?_
    refine g_goto (pc := 1070) 18 dL_law_1070 (by decide) ?_
    refine g_pm [1, 2, 3, 0] rfl ?_
    exact h
  · have h := h.2 q
    refine g_iconst (pc := 705) (0 : Int32) dL_law_705 rfl ?_
    exact h.elim
set_option maxHeartbeats 4000000 in
set_option maxRecDepth 100000 in
theorem t_L_law_707 {Γ : GT} {N : NT} {b L : Nat} {xs : Nat → Int32} (hR : rmOk 10 N) (hE : ∀ s A, N.2.2.2.2 s A → va_X b L xs s s.heap ∧ b < s.heap.size ∧ ¬ A b) (σ : St) (x3 : Int32)
    (h : ∃ Q133 : Int32 → St → Prop, CtI Γ mX5_turn 5 [rf Γ 0] σ Q133 ∧ ∀ (r134 : Int32) (τ135 : St), Q133 r134 τ135 → (∃ Q136 : Int32 → St → Prop, CtI Γ mX6_turn 4 [rf Γ 25] τ135 Q136 ∧ ∀ (r137 : Int32) (τ138 : St), Q136 r137 τ138 → (((r134 = r137) → (G Γ mL_law N 18 [(0, .ref b), (1, rf Γ 0), (2, rf Γ 25), (3, .int (x3 + (6 : Int32)))] [] τ138)) ∧ ((¬ r134 = r137) → (False))))) :
    G Γ mL_law N 707 [(0, .ref b), (1, rf Γ 0), (2, rf Γ 25), (3, .int x3)] [] σ := by
  refine g_aload_n (pc := 707) dL_law_707 rfl 1 rfl ?_
  obtain ⟨Q133, hc, h⟩ := h
  refine g_callVI (pc := 708) (M' := mX5_turn) (n := 10) (As := []) (st := []) dL_law_708 ml_L_107 ok_X5_turn rfl hR (by decide) rc_0 (Nat.le_of_ble_eq_true rfl) rfl hc (fun r134 τ135 hq => ?_)
  have h := h r134 τ135 hq
  refine g_aload_n (pc := 711) dL_law_711 rfl 2 rfl ?_
  obtain ⟨Q136, hc, h⟩ := h
  refine g_callVI (pc := 712) (M' := mX6_turn) (n := 10) (As := []) (st := [.int r134]) dL_law_712 ml_L_110 ok_X6_turn rfl hR (by decide) rc_25 (Nat.le_of_ble_eq_true rfl) rfl hc (fun r137 τ138 hq => ?_)
  have h := h r137 τ138 hq
  refine g_icmp_eq (pc := 715) 1067 dL_law_715 (by decide) (fun q => ?_) (fun q => ?_)
  · have h := h.1 q
    refine g_iinc (pc := 1067) (6 : Int32) [(3, _), (0, _), (1, _), (2, _)] dL_law_1067 3 rfl rfl (Nat.le_of_ble_eq_true rfl) rfl ?_
    refine g_goto (pc := 1070) 18 dL_law_1070 (by decide) ?_
    refine g_pm [1, 2, 3, 0] rfl ?_
    exact h
  · have h := h.2 q
    refine g_iconst (pc := 718) (0 : Int32) dL_law_718 rfl ?_
    exact h.elim
set_option maxHeartbeats 4000000 in
set_option maxRecDepth 100000 in
theorem t_L_law_720 {Γ : GT} {N : NT} {b L : Nat} {xs : Nat → Int32} (hR : rmOk 10 N) (hE : ∀ s A, N.2.2.2.2 s A → va_X b L xs s s.heap ∧ b < s.heap.size ∧ ¬ A b) (σ : St) (x3 : Int32)
    (h : ∃ Q139 : Int32 → St → Prop, CtI Γ mX5_order 5 [rf Γ 0] σ Q139 ∧ ∀ (r140 : Int32) (τ141 : St), Q139 r140 τ141 → (∃ Q142 : Int32 → St → Prop, CtI Γ mX6_order 3 [rf Γ 25] τ141 Q142 ∧ ∀ (r143 : Int32) (τ144 : St), Q142 r143 τ144 → (((r140 = r143) → (G Γ mL_law N 18 [(0, .ref b), (1, rf Γ 0), (2, rf Γ 25), (3, .int (x3 + (6 : Int32)))] [] τ144)) ∧ ((¬ r140 = r143) → (False))))) :
    G Γ mL_law N 720 [(0, .ref b), (1, rf Γ 0), (2, rf Γ 25), (3, .int x3)] [] σ := by
  refine g_aload_n (pc := 720) dL_law_720 rfl 1 rfl ?_
  obtain ⟨Q139, hc, h⟩ := h
  refine g_callVI (pc := 721) (M' := mX5_order) (n := 10) (As := []) (st := []) dL_law_721 ml_L_111 ok_X5_order rfl hR (by decide) rc_0 (Nat.le_of_ble_eq_true rfl) rfl hc (fun r140 τ141 hq => ?_)
  have h := h r140 τ141 hq
  refine g_aload_n (pc := 724) dL_law_724 rfl 2 rfl ?_
  obtain ⟨Q142, hc, h⟩ := h
  refine g_callVI (pc := 725) (M' := mX6_order) (n := 10) (As := []) (st := [.int r140]) dL_law_725 ml_L_114 ok_X6_order rfl hR (by decide) rc_25 (Nat.le_of_ble_eq_true rfl) rfl hc (fun r143 τ144 hq => ?_)
  have h := h r143 τ144 hq
  refine g_icmp_eq (pc := 728) 1067 dL_law_728 (by decide) (fun q => ?_) (fun q => ?_)
  · have h := h.1 q
    refine g_iinc (pc := 1067) (6 : Int32) [(3, _), (0, _), (1, _), (2, _)] dL_law_1067 3 rfl rfl (Nat.le_of_ble_eq_true rfl) rfl ?_
    refine g_goto (pc := 1070) 18 dL_law_1070 (by decide) ?_
    refine g_pm [1, 2, 3, 0] rfl ?_
    exact h
  · have h := h.2 q
    refine g_iconst (pc := 731) (0 : Int32) dL_law_731 rfl ?_
    exact h.elim
set_option maxHeartbeats 4000000 in
set_option maxRecDepth 100000 in
theorem t_L_law_733 {Γ : GT} {N : NT} {b L : Nat} {xs : Nat → Int32} (hR : rmOk 10 N) (hE : ∀ s A, N.2.2.2.2 s A → va_X b L xs s s.heap ∧ b < s.heap.size ∧ ¬ A b) (σ : St) (x3 : Int32)
    (h : ∃ Q145 : Int32 → St → Prop, CtI Γ mX5_still 6 [rf Γ 0] σ Q145 ∧ ∀ (r146 : Int32) (τ147 : St), Q145 r146 τ147 → (∃ Q148 : Int32 → St → Prop, CtI Γ mX6_still 5 [rf Γ 25] τ147 Q148 ∧ ∀ (r149 : Int32) (τ150 : St), Q148 r149 τ150 → (((r146 = r149) → (G Γ mL_law N 18 [(0, .ref b), (1, rf Γ 0), (2, rf Γ 25), (3, .int (x3 + (6 : Int32)))] [] τ150)) ∧ ((¬ r146 = r149) → (False))))) :
    G Γ mL_law N 733 [(0, .ref b), (1, rf Γ 0), (2, rf Γ 25), (3, .int x3)] [] σ := by
  refine g_aload_n (pc := 733) dL_law_733 rfl 1 rfl ?_
  obtain ⟨Q145, hc, h⟩ := h
  refine g_callVI (pc := 734) (M' := mX5_still) (n := 10) (As := []) (st := []) dL_law_734 ml_L_115 ok_X5_still rfl hR (by decide) rc_0 (Nat.le_of_ble_eq_true rfl) rfl hc (fun r146 τ147 hq => ?_)
  have h := h r146 τ147 hq
  refine g_aload_n (pc := 737) dL_law_737 rfl 2 rfl ?_
  obtain ⟨Q148, hc, h⟩ := h
  refine g_callVI (pc := 738) (M' := mX6_still) (n := 10) (As := []) (st := [.int r146]) dL_law_738 ml_L_118 ok_X6_still rfl hR (by decide) rc_25 (Nat.le_of_ble_eq_true rfl) rfl hc (fun r149 τ150 hq => ?_)
  have h := h r149 τ150 hq
  refine g_icmp_eq (pc := 741) 1067 dL_law_741 (by decide) (fun q => ?_) (fun q => ?_)
  · have h := h.1 q
    refine g_iinc (pc := 1067) (6 : Int32) [(3, _), (0, _), (1, _), (2, _)] dL_law_1067 3 rfl rfl (Nat.le_of_ble_eq_true rfl) rfl ?_
    refine g_goto (pc := 1070) 18 dL_law_1070 (by decide) ?_
    refine g_pm [1, 2, 3, 0] rfl ?_
    exact h
  · have h := h.2 q
    refine g_iconst (pc := 744) (0 : Int32) dL_law_744 rfl ?_
    exact h.elim
set_option maxHeartbeats 4000000 in
set_option maxRecDepth 100000 in
theorem t_L_law_746 {Γ : GT} {N : NT} {b L : Nat} {xs : Nat → Int32} (hR : rmOk 10 N) (hE : ∀ s A, N.2.2.2.2 s A → va_X b L xs s s.heap ∧ b < s.heap.size ∧ ¬ A b) (σ : St) (x3 : Int32)
    (h : vp_in (x3 + (1 : Int32)) L ∧ (∃ Q151 : Int32 → St → Prop, CtI Γ mX5_rest 6 [rf Γ 0, .int (xs (x3 + (1 : Int32)).toNatClampNeg)] σ Q151 ∧ ∀ (r152 : Int32) (τ153 : St), Q151 r152 τ153 → (vp_in (x3 + (1 : Int32)) L ∧ (∃ Q154 : Int32 → St → Prop, CtI Γ mX6_rest 6 [rf Γ 25, .int (xs (x3 + (1 : Int32)).toNatClampNeg)] τ153 Q154 ∧ ∀ (r155 : Int32) (τ156 : St), Q154 r155 τ156 → (((r152 = r155) → (G Γ mL_law N 18 [(0, .ref b), (1, rf Γ 0), (2, rf Γ 25), (3, .int (x3 + (6 : Int32)))] [] τ156)) ∧ ((¬ r152 = r155) → (False))))))) :
    G Γ mL_law N 746 [(0, .ref b), (1, rf Γ 0), (2, rf Γ 25), (3, .int x3)] [] σ := by
  refine g_aload_n (pc := 746) dL_law_746 rfl 1 rfl ?_
  refine g_aload_n (pc := 747) dL_law_747 rfl 0 rfl ?_
  refine g_iload_n (pc := 748) dL_law_748 rfl 3 rfl ?_
  refine g_iconst (pc := 749) (1 : Int32) dL_law_749 rfl ?_
  refine g_iadd (pc := 750) dL_law_750 ?_
  refine g_sld (pc := 751) hE h.1 dL_law_751 ?_
  have h := h.2
  obtain ⟨Q151, hc, h⟩ := h
  refine g_callVI (pc := 752) (M' := mX5_rest) (n := 10) (As := [.int (xs (x3 + (1 : Int32)).toNatClampNeg)]) (st := []) dL_law_752 ml_L_119 ok_X5_rest rfl hR (by decide) rc_0 (Nat.le_of_ble_eq_true rfl) rfl hc (fun r152 τ153 hq => ?_)
  have h := h r152 τ153 hq
  refine g_aload_n (pc := 755) dL_law_755 rfl 2 rfl ?_
  refine g_aload_n (pc := 756) dL_law_756 rfl 0 rfl ?_
  refine g_iload_n (pc := 757) dL_law_757 rfl 3 rfl ?_
  refine g_iconst (pc := 758) (1 : Int32) dL_law_758 rfl ?_
  refine g_iadd (pc := 759) dL_law_759 ?_
  refine g_sld (pc := 760) hE h.1 dL_law_760 ?_
  have h := h.2
  obtain ⟨Q154, hc, h⟩ := h
  refine g_callVI (pc := 761) (M' := mX6_rest) (n := 10) (As := [.int (xs (x3 + (1 : Int32)).toNatClampNeg)]) (st := [.int r152]) dL_law_761 ml_L_122 ok_X6_rest rfl hR (by decide) rc_25 (Nat.le_of_ble_eq_true rfl) rfl hc (fun r155 τ156 hq => ?_)
  have h := h r155 τ156 hq
  refine g_icmp_eq (pc := 764) 1067 dL_law_764 (by decide) (fun q => ?_) (fun q => ?_)
  · have h := h.1 q
    refine g_iinc (pc := 1067) (6 : Int32) [(3, _), (0, _), (1, _), (2, _)] dL_law_1067 3 rfl rfl (Nat.le_of_ble_eq_true rfl) rfl ?_
    refine g_goto (pc := 1070) 18 dL_law_1070 (by decide) ?_
    refine g_pm [1, 2, 3, 0] rfl ?_
    exact h
  · have h := h.2 q
    refine g_iconst (pc := 767) (0 : Int32) dL_law_767 rfl ?_
    exact h.elim
set_option maxHeartbeats 4000000 in
set_option maxRecDepth 100000 in
theorem t_L_law_769 {Γ : GT} {N : NT} {b L : Nat} {xs : Nat → Int32} (hR : rmOk 10 N) (hE : ∀ s A, N.2.2.2.2 s A → va_X b L xs s s.heap ∧ b < s.heap.size ∧ ¬ A b) (σ : St) (x3 : Int32)
    (h : ∃ Q157 : Int32 → St → Prop, CtI Γ mX5_met 3 [rf Γ 0] σ Q157 ∧ ∀ (r158 : Int32) (τ159 : St), Q157 r158 τ159 → (∃ Q160 : Int32 → St → Prop, CtI Γ mX6_met 3 [rf Γ 25] τ159 Q160 ∧ ∀ (r161 : Int32) (τ162 : St), Q160 r161 τ162 → (((r158 = r161) → (G Γ mL_law N 18 [(0, .ref b), (1, rf Γ 0), (2, rf Γ 25), (3, .int (x3 + (6 : Int32)))] [] τ162)) ∧ ((¬ r158 = r161) → (False))))) :
    G Γ mL_law N 769 [(0, .ref b), (1, rf Γ 0), (2, rf Γ 25), (3, .int x3)] [] σ := by
  refine g_aload_n (pc := 769) dL_law_769 rfl 1 rfl ?_
  obtain ⟨Q157, hc, h⟩ := h
  refine g_callVI (pc := 770) (M' := mX5_met) (n := 10) (As := []) (st := []) dL_law_770 ml_L_123 ok_X5_met rfl hR (by decide) rc_0 (Nat.le_of_ble_eq_true rfl) rfl hc (fun r158 τ159 hq => ?_)
  have h := h r158 τ159 hq
  refine g_aload_n (pc := 773) dL_law_773 rfl 2 rfl ?_
  obtain ⟨Q160, hc, h⟩ := h
  refine g_callVI (pc := 774) (M' := mX6_met) (n := 10) (As := []) (st := [.int r158]) dL_law_774 ml_L_126 ok_X6_met rfl hR (by decide) rc_25 (Nat.le_of_ble_eq_true rfl) rfl hc (fun r161 τ162 hq => ?_)
  have h := h r161 τ162 hq
  refine g_icmp_eq (pc := 777) 1067 dL_law_777 (by decide) (fun q => ?_) (fun q => ?_)
  · have h := h.1 q
    refine g_iinc (pc := 1067) (6 : Int32) [(3, _), (0, _), (1, _), (2, _)] dL_law_1067 3 rfl rfl (Nat.le_of_ble_eq_true rfl) rfl ?_
    refine g_goto (pc := 1070) 18 dL_law_1070 (by decide) ?_
    refine g_pm [1, 2, 3, 0] rfl ?_
    exact h
  · have h := h.2 q
    refine g_iconst (pc := 780) (0 : Int32) dL_law_780 rfl ?_
    exact h.elim
set_option maxHeartbeats 4000000 in
set_option maxRecDepth 100000 in
theorem t_L_law_782 {Γ : GT} {N : NT} {b L : Nat} {xs : Nat → Int32} (hR : rmOk 10 N) (hE : ∀ s A, N.2.2.2.2 s A → va_X b L xs s s.heap ∧ b < s.heap.size ∧ ¬ A b) (σ : St) (x3 : Int32)
    (h : vp_in (x3 + (1 : Int32)) L ∧ (vp_in (x3 + (2 : Int32)) L ∧ (vp_in (x3 + (3 : Int32)) L ∧ (∃ Q163 : Int32 → St → Prop, CtI Γ mX5_sheet 1 [rf Γ 0, .int (xs (x3 + (1 : Int32)).toNatClampNeg), .int (xs (x3 + (2 : Int32)).toNatClampNeg), .int (xs (x3 + (3 : Int32)).toNatClampNeg)] σ Q163 ∧ ∀ (r164 : Int32) (τ165 : St), Q163 r164 τ165 → (vp_in (x3 + (1 : Int32)) L ∧ (vp_in (x3 + (2 : Int32)) L ∧ (vp_in (x3 + (3 : Int32)) L ∧ (∃ Q166 : Int32 → St → Prop, CtI Γ mX6_sheet 2 [rf Γ 25, .int (xs (x3 + (1 : Int32)).toNatClampNeg), .int (xs (x3 + (2 : Int32)).toNatClampNeg), .int (xs (x3 + (3 : Int32)).toNatClampNeg)] τ165 Q166 ∧ ∀ (r167 : Int32) (τ168 : St), Q166 r167 τ168 → (((r164 = r167) → (G Γ mL_law N 18 [(0, .ref b), (1, rf Γ 0), (2, rf Γ 25), (3, .int (x3 + (6 : Int32)))] [] τ168)) ∧ ((¬ r164 = r167) → (False))))))))))) :
    G Γ mL_law N 782 [(0, .ref b), (1, rf Γ 0), (2, rf Γ 25), (3, .int x3)] [] σ := by
  refine g_aload_n (pc := 782) dL_law_782 rfl 1 rfl ?_
  refine g_aload_n (pc := 783) dL_law_783 rfl 0 rfl ?_
  refine g_iload_n (pc := 784) dL_law_784 rfl 3 rfl ?_
  refine g_iconst (pc := 785) (1 : Int32) dL_law_785 rfl ?_
  refine g_iadd (pc := 786) dL_law_786 ?_
  refine g_sld (pc := 787) hE h.1 dL_law_787 ?_
  have h := h.2
  refine g_aload_n (pc := 788) dL_law_788 rfl 0 rfl ?_
  refine g_iload_n (pc := 789) dL_law_789 rfl 3 rfl ?_
  refine g_iconst (pc := 790) (2 : Int32) dL_law_790 rfl ?_
  refine g_iadd (pc := 791) dL_law_791 ?_
  refine g_sld (pc := 792) hE h.1 dL_law_792 ?_
  have h := h.2
  refine g_aload_n (pc := 793) dL_law_793 rfl 0 rfl ?_
  refine g_iload_n (pc := 794) dL_law_794 rfl 3 rfl ?_
  refine g_iconst (pc := 795) (3 : Int32) dL_law_795 rfl ?_
  refine g_iadd (pc := 796) dL_law_796 ?_
  refine g_sld (pc := 797) hE h.1 dL_law_797 ?_
  have h := h.2
  obtain ⟨Q163, hc, h⟩ := h
  refine g_callVI (pc := 798) (M' := mX5_sheet) (n := 10) (As := [.int (xs (x3 + (1 : Int32)).toNatClampNeg), .int (xs (x3 + (2 : Int32)).toNatClampNeg), .int (xs (x3 + (3 : Int32)).toNatClampNeg)]) (st := []) dL_law_798 ml_L_127 ok_X5_sheet rfl hR (by decide) rc_0 (Nat.le_of_ble_eq_true rfl) rfl hc (fun r164 τ165 hq => ?_)
  have h := h r164 τ165 hq
  refine g_aload_n (pc := 801) dL_law_801 rfl 2 rfl ?_
  refine g_aload_n (pc := 802) dL_law_802 rfl 0 rfl ?_
  refine g_iload_n (pc := 803) dL_law_803 rfl 3 rfl ?_
  refine g_iconst (pc := 804) (1 : Int32) dL_law_804 rfl ?_
  refine g_iadd (pc := 805) dL_law_805 ?_
  refine g_sld (pc := 806) hE h.1 dL_law_806 ?_
  have h := h.2
  refine g_aload_n (pc := 807) dL_law_807 rfl 0 rfl ?_
  refine g_iload_n (pc := 808) dL_law_808 rfl 3 rfl ?_
  refine g_iconst (pc := 809) (2 : Int32) dL_law_809 rfl ?_
  refine g_iadd (pc := 810) dL_law_810 ?_
  refine g_sld (pc := 811) hE h.1 dL_law_811 ?_
  have h := h.2
  refine g_aload_n (pc := 812) dL_law_812 rfl 0 rfl ?_
  refine g_iload_n (pc := 813) dL_law_813 rfl 3 rfl ?_
  refine g_iconst (pc := 814) (3 : Int32) dL_law_814 rfl ?_
  refine g_iadd (pc := 815) dL_law_815 ?_
  refine g_sld (pc := 816) hE h.1 dL_law_816 ?_
  have h := h.2
  obtain ⟨Q166, hc, h⟩ := h
  refine g_callVI (pc := 817) (M' := mX6_sheet) (n := 10) (As := [.int (xs (x3 + (1 : Int32)).toNatClampNeg), .int (xs (x3 + (2 : Int32)).toNatClampNeg), .int (xs (x3 + (3 : Int32)).toNatClampNeg)]) (st := [.int r164]) dL_law_817 ml_L_130 ok_X6_sheet rfl hR (by decide) rc_25 (Nat.le_of_ble_eq_true rfl) rfl hc (fun r167 τ168 hq => ?_)
  have h := h r167 τ168 hq
  refine g_icmp_eq (pc := 820) 1067 dL_law_820 (by decide) (fun q => ?_) (fun q => ?_)
  · have h := h.1 q
    refine g_iinc (pc := 1067) (6 : Int32) [(3, _), (0, _), (1, _), (2, _)] dL_law_1067 3 rfl rfl (Nat.le_of_ble_eq_true rfl) rfl ?_
    refine g_goto (pc := 1070) 18 dL_law_1070 (by decide) ?_
    refine g_pm [1, 2, 3, 0] rfl ?_
    exact h
  · have h := h.2 q
    refine g_iconst (pc := 823) (0 : Int32) dL_law_823 rfl ?_
    exact h.elim
set_option maxHeartbeats 4000000 in
set_option maxRecDepth 100000 in
theorem t_L_law_825 {Γ : GT} {N : NT} {b L : Nat} {xs : Nat → Int32} (hR : rmOk 10 N) (hE : ∀ s A, N.2.2.2.2 s A → va_X b L xs s s.heap ∧ b < s.heap.size ∧ ¬ A b) (σ : St) (x3 : Int32)
    (h : vp_in (x3 + (1 : Int32)) L ∧ (∃ Q169 : Int32 → St → Prop, CtI Γ mX5_lose 2 [rf Γ 0, .int (xs (x3 + (1 : Int32)).toNatClampNeg)] σ Q169 ∧ ∀ (r170 : Int32) (τ171 : St), Q169 r170 τ171 → (vp_in (x3 + (1 : Int32)) L ∧ (∃ Q172 : Int32 → St → Prop, CtI Γ mX6_lose 2 [rf Γ 25, .int (xs (x3 + (1 : Int32)).toNatClampNeg)] τ171 Q172 ∧ ∀ (r173 : Int32) (τ174 : St), Q172 r173 τ174 → (((r170 = r173) → (G Γ mL_law N 18 [(0, .ref b), (1, rf Γ 0), (2, rf Γ 25), (3, .int (x3 + (6 : Int32)))] [] τ174)) ∧ ((¬ r170 = r173) → (False))))))) :
    G Γ mL_law N 825 [(0, .ref b), (1, rf Γ 0), (2, rf Γ 25), (3, .int x3)] [] σ := by
  refine g_aload_n (pc := 825) dL_law_825 rfl 1 rfl ?_
  refine g_aload_n (pc := 826) dL_law_826 rfl 0 rfl ?_
  refine g_iload_n (pc := 827) dL_law_827 rfl 3 rfl ?_
  refine g_iconst (pc := 828) (1 : Int32) dL_law_828 rfl ?_
  refine g_iadd (pc := 829) dL_law_829 ?_
  refine g_sld (pc := 830) hE h.1 dL_law_830 ?_
  have h := h.2
  obtain ⟨Q169, hc, h⟩ := h
  refine g_callVI (pc := 831) (M' := mX5_lose) (n := 10) (As := [.int (xs (x3 + (1 : Int32)).toNatClampNeg)]) (st := []) dL_law_831 ml_L_131 ok_X5_lose rfl hR (by decide) rc_0 (Nat.le_of_ble_eq_true rfl) rfl hc (fun r170 τ171 hq => ?_)
  have h := h r170 τ171 hq
  refine g_aload_n (pc := 834) dL_law_834 rfl 2 rfl ?_
  refine g_aload_n (pc := 835) dL_law_835 rfl 0 rfl ?_
  refine g_iload_n (pc := 836) dL_law_836 rfl 3 rfl ?_
  refine g_iconst (pc := 837) (1 : Int32) dL_law_837 rfl ?_
  refine g_iadd (pc := 838) dL_law_838 ?_
  refine g_sld (pc := 839) hE h.1 dL_law_839 ?_
  have h := h.2
  obtain ⟨Q172, hc, h⟩ := h
  refine g_callVI (pc := 840) (M' := mX6_lose) (n := 10) (As := [.int (xs (x3 + (1 : Int32)).toNatClampNeg)]) (st := [.int r170]) dL_law_840 ml_L_134 ok_X6_lose rfl hR (by decide) rc_25 (Nat.le_of_ble_eq_true rfl) rfl hc (fun r173 τ174 hq => ?_)
  have h := h r173 τ174 hq
  refine g_icmp_eq (pc := 843) 1067 dL_law_843 (by decide) (fun q => ?_) (fun q => ?_)
  · have h := h.1 q
    refine g_iinc (pc := 1067) (6 : Int32) [(3, _), (0, _), (1, _), (2, _)] dL_law_1067 3 rfl rfl (Nat.le_of_ble_eq_true rfl) rfl ?_
    refine g_goto (pc := 1070) 18 dL_law_1070 (by decide) ?_
    refine g_pm [1, 2, 3, 0] rfl ?_
    exact h
  · have h := h.2 q
    refine g_iconst (pc := 846) (0 : Int32) dL_law_846 rfl ?_
    exact h.elim
set_option maxHeartbeats 4000000 in
set_option maxRecDepth 100000 in
theorem t_L_law_848 {Γ : GT} {N : NT} {b L : Nat} {xs : Nat → Int32} (hR : rmOk 10 N) (hE : ∀ s A, N.2.2.2.2 s A → va_X b L xs s s.heap ∧ b < s.heap.size ∧ ¬ A b) (σ : St) (x3 : Int32)
    (h : vp_in (x3 + (1 : Int32)) L ∧ (vp_in (x3 + (2 : Int32)) L ∧ (vp_in (x3 + (3 : Int32)) L ∧ (vp_in (x3 + (4 : Int32)) L ∧ (∃ Q175 : Int32 → St → Prop, CtI Γ mX5_put 2 [rf Γ 0, .int (xs (x3 + (1 : Int32)).toNatClampNeg), .int (xs (x3 + (2 : Int32)).toNatClampNeg), .int (xs (x3 + (3 : Int32)).toNatClampNeg), .int (xs (x3 + (4 : Int32)).toNatClampNeg)] σ Q175 ∧ ∀ (r176 : Int32) (τ177 : St), Q175 r176 τ177 → (vp_in (x3 + (1 : Int32)) L ∧ (vp_in (x3 + (2 : Int32)) L ∧ (vp_in (x3 + (3 : Int32)) L ∧ (vp_in (x3 + (4 : Int32)) L ∧ (∃ Q178 : Int32 → St → Prop, CtI Γ mX6_put 2 [rf Γ 25, .int (xs (x3 + (1 : Int32)).toNatClampNeg), .int (xs (x3 + (2 : Int32)).toNatClampNeg), .int (xs (x3 + (3 : Int32)).toNatClampNeg), .int (xs (x3 + (4 : Int32)).toNatClampNeg)] τ177 Q178 ∧ ∀ (r179 : Int32) (τ180 : St), Q178 r179 τ180 → (((r176 = r179) → (G Γ mL_law N 18 [(0, .ref b), (1, rf Γ 0), (2, rf Γ 25), (3, .int (x3 + (6 : Int32)))] [] τ180)) ∧ ((¬ r176 = r179) → (False))))))))))))) :
    G Γ mL_law N 848 [(0, .ref b), (1, rf Γ 0), (2, rf Γ 25), (3, .int x3)] [] σ := by
  refine g_aload_n (pc := 848) dL_law_848 rfl 1 rfl ?_
  refine g_aload_n (pc := 849) dL_law_849 rfl 0 rfl ?_
  refine g_iload_n (pc := 850) dL_law_850 rfl 3 rfl ?_
  refine g_iconst (pc := 851) (1 : Int32) dL_law_851 rfl ?_
  refine g_iadd (pc := 852) dL_law_852 ?_
  refine g_sld (pc := 853) hE h.1 dL_law_853 ?_
  have h := h.2
  refine g_aload_n (pc := 854) dL_law_854 rfl 0 rfl ?_
  refine g_iload_n (pc := 855) dL_law_855 rfl 3 rfl ?_
  refine g_iconst (pc := 856) (2 : Int32) dL_law_856 rfl ?_
  refine g_iadd (pc := 857) dL_law_857 ?_
  refine g_sld (pc := 858) hE h.1 dL_law_858 ?_
  have h := h.2
  refine g_aload_n (pc := 859) dL_law_859 rfl 0 rfl ?_
  refine g_iload_n (pc := 860) dL_law_860 rfl 3 rfl ?_
  refine g_iconst (pc := 861) (3 : Int32) dL_law_861 rfl ?_
  refine g_iadd (pc := 862) dL_law_862 ?_
  refine g_sld (pc := 863) hE h.1 dL_law_863 ?_
  have h := h.2
  refine g_aload_n (pc := 864) dL_law_864 rfl 0 rfl ?_
  refine g_iload_n (pc := 865) dL_law_865 rfl 3 rfl ?_
  refine g_iconst (pc := 866) (4 : Int32) dL_law_866 rfl ?_
  refine g_iadd (pc := 867) dL_law_867 ?_
  refine g_sld (pc := 868) hE h.1 dL_law_868 ?_
  have h := h.2
  obtain ⟨Q175, hc, h⟩ := h
  refine g_callVI (pc := 869) (M' := mX5_put) (n := 10) (As := [.int (xs (x3 + (1 : Int32)).toNatClampNeg), .int (xs (x3 + (2 : Int32)).toNatClampNeg), .int (xs (x3 + (3 : Int32)).toNatClampNeg), .int (xs (x3 + (4 : Int32)).toNatClampNeg)]) (st := []) dL_law_869 ml_L_135 ok_X5_put rfl hR (by decide) rc_0 (Nat.le_of_ble_eq_true rfl) rfl hc (fun r176 τ177 hq => ?_)
  have h := h r176 τ177 hq
  refine g_aload_n (pc := 872) dL_law_872 rfl 2 rfl ?_
  refine g_aload_n (pc := 873) dL_law_873 rfl 0 rfl ?_
  refine g_iload_n (pc := 874) dL_law_874 rfl 3 rfl ?_
  refine g_iconst (pc := 875) (1 : Int32) dL_law_875 rfl ?_
  refine g_iadd (pc := 876) dL_law_876 ?_
  refine g_sld (pc := 877) hE h.1 dL_law_877 ?_
  have h := h.2
  refine g_aload_n (pc := 878) dL_law_878 rfl 0 rfl ?_
  refine g_iload_n (pc := 879) dL_law_879 rfl 3 rfl ?_
  refine g_iconst (pc := 880) (2 : Int32) dL_law_880 rfl ?_
  refine g_iadd (pc := 881) dL_law_881 ?_
  refine g_sld (pc := 882) hE h.1 dL_law_882 ?_
  have h := h.2
  refine g_aload_n (pc := 883) dL_law_883 rfl 0 rfl ?_
  refine g_iload_n (pc := 884) dL_law_884 rfl 3 rfl ?_
  refine g_iconst (pc := 885) (3 : Int32) dL_law_885 rfl ?_
  refine g_iadd (pc := 886) dL_law_886 ?_
  refine g_sld (pc := 887) hE h.1 dL_law_887 ?_
  have h := h.2
  refine g_aload_n (pc := 888) dL_law_888 rfl 0 rfl ?_
  refine g_iload_n (pc := 889) dL_law_889 rfl 3 rfl ?_
  refine g_iconst (pc := 890) (4 : Int32) dL_law_890 rfl ?_
  refine g_iadd (pc := 891) dL_law_891 ?_
  refine g_sld (pc := 892) hE h.1 dL_law_892 ?_
  have h := h.2
  obtain ⟨Q178, hc, h⟩ := h
  refine g_callVI (pc := 893) (M' := mX6_put) (n := 10) (As := [.int (xs (x3 + (1 : Int32)).toNatClampNeg), .int (xs (x3 + (2 : Int32)).toNatClampNeg), .int (xs (x3 + (3 : Int32)).toNatClampNeg), .int (xs (x3 + (4 : Int32)).toNatClampNeg)]) (st := [.int r176]) dL_law_893 ml_L_139 ok_X6_put rfl hR (by decide) rc_25 (Nat.le_of_ble_eq_true rfl) rfl hc (fun r179 τ180 hq => ?_)
  have h := h r179 τ180 hq
  refine g_icmp_eq (pc := 896) 1067 dL_law_896 (by decide) (fun q => ?_) (fun q => ?_)
  · have h := h.1 q
    refine g_iinc (pc := 1067) (6 : Int32) [(3, _), (0, _), (1, _), (2, _)] dL_law_1067 3 rfl rfl (Nat.le_of_ble_eq_true rfl) rfl ?_
    refine g_goto (pc := 1070) 18 dL_law_1070 (by decide) ?_
    refine g_pm [1, 2, 3, 0] rfl ?_
    exact h
  · have h := h.2 q
    refine g_iconst (pc := 899) (0 : Int32) dL_law_899 rfl ?_
    exact h.elim
set_option maxHeartbeats 4000000 in
set_option maxRecDepth 100000 in
theorem t_L_law_901 {Γ : GT} {N : NT} {b L : Nat} {xs : Nat → Int32} (hR : rmOk 10 N) (hE : ∀ s A, N.2.2.2.2 s A → va_X b L xs s s.heap ∧ b < s.heap.size ∧ ¬ A b) (σ : St) (x3 : Int32)
    (h : vp_in (x3 + (1 : Int32)) L ∧ (vp_in (x3 + (2 : Int32)) L ∧ (vp_in (x3 + (3 : Int32)) L ∧ (∃ Q181 : Int32 → St → Prop, CtI Γ mX5_get 2 [rf Γ 0, .int (xs (x3 + (1 : Int32)).toNatClampNeg), .int (xs (x3 + (2 : Int32)).toNatClampNeg), .int (xs (x3 + (3 : Int32)).toNatClampNeg)] σ Q181 ∧ ∀ (r182 : Int32) (τ183 : St), Q181 r182 τ183 → (vp_in (x3 + (1 : Int32)) L ∧ (vp_in (x3 + (2 : Int32)) L ∧ (vp_in (x3 + (3 : Int32)) L ∧ (∃ Q184 : Int32 → St → Prop, CtI Γ mX6_get 2 [rf Γ 25, .int (xs (x3 + (1 : Int32)).toNatClampNeg), .int (xs (x3 + (2 : Int32)).toNatClampNeg), .int (xs (x3 + (3 : Int32)).toNatClampNeg)] τ183 Q184 ∧ ∀ (r185 : Int32) (τ186 : St), Q184 r185 τ186 → (((r182 = r185) → (G Γ mL_law N 18 [(0, .ref b), (1, rf Γ 0), (2, rf Γ 25), (3, .int (x3 + (6 : Int32)))] [] τ186)) ∧ ((¬ r182 = r185) → (False))))))))))) :
    G Γ mL_law N 901 [(0, .ref b), (1, rf Γ 0), (2, rf Γ 25), (3, .int x3)] [] σ := by
  refine g_aload_n (pc := 901) dL_law_901 rfl 1 rfl ?_
  refine g_aload_n (pc := 902) dL_law_902 rfl 0 rfl ?_
  refine g_iload_n (pc := 903) dL_law_903 rfl 3 rfl ?_
  refine g_iconst (pc := 904) (1 : Int32) dL_law_904 rfl ?_
  refine g_iadd (pc := 905) dL_law_905 ?_
  refine g_sld (pc := 906) hE h.1 dL_law_906 ?_
  have h := h.2
  refine g_aload_n (pc := 907) dL_law_907 rfl 0 rfl ?_
  refine g_iload_n (pc := 908) dL_law_908 rfl 3 rfl ?_
  refine g_iconst (pc := 909) (2 : Int32) dL_law_909 rfl ?_
  refine g_iadd (pc := 910) dL_law_910 ?_
  refine g_sld (pc := 911) hE h.1 dL_law_911 ?_
  have h := h.2
  refine g_aload_n (pc := 912) dL_law_912 rfl 0 rfl ?_
  refine g_iload_n (pc := 913) dL_law_913 rfl 3 rfl ?_
  refine g_iconst (pc := 914) (3 : Int32) dL_law_914 rfl ?_
  refine g_iadd (pc := 915) dL_law_915 ?_
  refine g_sld (pc := 916) hE h.1 dL_law_916 ?_
  have h := h.2
  obtain ⟨Q181, hc, h⟩ := h
  refine g_callVI (pc := 917) (M' := mX5_get) (n := 10) (As := [.int (xs (x3 + (1 : Int32)).toNatClampNeg), .int (xs (x3 + (2 : Int32)).toNatClampNeg), .int (xs (x3 + (3 : Int32)).toNatClampNeg)]) (st := []) dL_law_917 ml_L_140 ok_X5_get rfl hR (by decide) rc_0 (Nat.le_of_ble_eq_true rfl) rfl hc (fun r182 τ183 hq => ?_)
  have h := h r182 τ183 hq
  refine g_aload_n (pc := 920) dL_law_920 rfl 2 rfl ?_
  refine g_aload_n (pc := 921) dL_law_921 rfl 0 rfl ?_
  refine g_iload_n (pc := 922) dL_law_922 rfl 3 rfl ?_
  refine g_iconst (pc := 923) (1 : Int32) dL_law_923 rfl ?_
  refine g_iadd (pc := 924) dL_law_924 ?_
  refine g_sld (pc := 925) hE h.1 dL_law_925 ?_
  have h := h.2
  refine g_aload_n (pc := 926) dL_law_926 rfl 0 rfl ?_
  refine g_iload_n (pc := 927) dL_law_927 rfl 3 rfl ?_
  refine g_iconst (pc := 928) (2 : Int32) dL_law_928 rfl ?_
  refine g_iadd (pc := 929) dL_law_929 ?_
  refine g_sld (pc := 930) hE h.1 dL_law_930 ?_
  have h := h.2
  refine g_aload_n (pc := 931) dL_law_931 rfl 0 rfl ?_
  refine g_iload_n (pc := 932) dL_law_932 rfl 3 rfl ?_
  refine g_iconst (pc := 933) (3 : Int32) dL_law_933 rfl ?_
  refine g_iadd (pc := 934) dL_law_934 ?_
  refine g_sld (pc := 935) hE h.1 dL_law_935 ?_
  have h := h.2
  obtain ⟨Q184, hc, h⟩ := h
  refine g_callVI (pc := 936) (M' := mX6_get) (n := 10) (As := [.int (xs (x3 + (1 : Int32)).toNatClampNeg), .int (xs (x3 + (2 : Int32)).toNatClampNeg), .int (xs (x3 + (3 : Int32)).toNatClampNeg)]) (st := [.int r182]) dL_law_936 ml_L_143 ok_X6_get rfl hR (by decide) rc_25 (Nat.le_of_ble_eq_true rfl) rfl hc (fun r185 τ186 hq => ?_)
  have h := h r185 τ186 hq
  refine g_icmp_eq (pc := 939) 1067 dL_law_939 (by decide) (fun q => ?_) (fun q => ?_)
  · have h := h.1 q
    refine g_iinc (pc := 1067) (6 : Int32) [(3, _), (0, _), (1, _), (2, _)] dL_law_1067 3 rfl rfl (Nat.le_of_ble_eq_true rfl) rfl ?_
    refine g_goto (pc := 1070) 18 dL_law_1070 (by decide) ?_
    refine g_pm [1, 2, 3, 0] rfl ?_
    exact h
  · have h := h.2 q
    refine g_iconst (pc := 942) (0 : Int32) dL_law_942 rfl ?_
    exact h.elim
set_option maxHeartbeats 4000000 in
set_option maxRecDepth 100000 in
theorem t_L_law_944 {Γ : GT} {N : NT} {b L : Nat} {xs : Nat → Int32} (hR : rmOk 10 N) (hE : ∀ s A, N.2.2.2.2 s A → va_X b L xs s s.heap ∧ b < s.heap.size ∧ ¬ A b) (σ : St) (x3 : Int32)
    (h : vp_in (x3 + (1 : Int32)) L ∧ (vp_in (x3 + (2 : Int32)) L ∧ (vp_in (x3 + (3 : Int32)) L ∧ (vp_in (x3 + (4 : Int32)) L ∧ (vp_in (x3 + (5 : Int32)) L ∧ (∃ Q187 : Int32 → St → Prop, CtI Γ mX5_copy 1 [rf Γ 0, .int (xs (x3 + (1 : Int32)).toNatClampNeg), .int (xs (x3 + (2 : Int32)).toNatClampNeg), .int (xs (x3 + (3 : Int32)).toNatClampNeg), .int (xs (x3 + (4 : Int32)).toNatClampNeg), .int (xs (x3 + (5 : Int32)).toNatClampNeg)] σ Q187 ∧ ∀ (r188 : Int32) (τ189 : St), Q187 r188 τ189 → (vp_in (x3 + (1 : Int32)) L ∧ (vp_in (x3 + (2 : Int32)) L ∧ (vp_in (x3 + (3 : Int32)) L ∧ (vp_in (x3 + (4 : Int32)) L ∧ (vp_in (x3 + (5 : Int32)) L ∧ (∃ Q190 : Int32 → St → Prop, CtI Γ mX6_copy 2 [rf Γ 25, .int (xs (x3 + (1 : Int32)).toNatClampNeg), .int (xs (x3 + (2 : Int32)).toNatClampNeg), .int (xs (x3 + (3 : Int32)).toNatClampNeg), .int (xs (x3 + (4 : Int32)).toNatClampNeg), .int (xs (x3 + (5 : Int32)).toNatClampNeg)] τ189 Q190 ∧ ∀ (r191 : Int32) (τ192 : St), Q190 r191 τ192 → (((r188 = r191) → (G Γ mL_law N 18 [(0, .ref b), (1, rf Γ 0), (2, rf Γ 25), (3, .int (x3 + (6 : Int32)))] [] τ192)) ∧ ((¬ r188 = r191) → (False))))))))))))))) :
    G Γ mL_law N 944 [(0, .ref b), (1, rf Γ 0), (2, rf Γ 25), (3, .int x3)] [] σ := by
  refine g_aload_n (pc := 944) dL_law_944 rfl 1 rfl ?_
  refine g_aload_n (pc := 945) dL_law_945 rfl 0 rfl ?_
  refine g_iload_n (pc := 946) dL_law_946 rfl 3 rfl ?_
  refine g_iconst (pc := 947) (1 : Int32) dL_law_947 rfl ?_
  refine g_iadd (pc := 948) dL_law_948 ?_
  refine g_sld (pc := 949) hE h.1 dL_law_949 ?_
  have h := h.2
  refine g_aload_n (pc := 950) dL_law_950 rfl 0 rfl ?_
  refine g_iload_n (pc := 951) dL_law_951 rfl 3 rfl ?_
  refine g_iconst (pc := 952) (2 : Int32) dL_law_952 rfl ?_
  refine g_iadd (pc := 953) dL_law_953 ?_
  refine g_sld (pc := 954) hE h.1 dL_law_954 ?_
  have h := h.2
  refine g_aload_n (pc := 955) dL_law_955 rfl 0 rfl ?_
  refine g_iload_n (pc := 956) dL_law_956 rfl 3 rfl ?_
  refine g_iconst (pc := 957) (3 : Int32) dL_law_957 rfl ?_
  refine g_iadd (pc := 958) dL_law_958 ?_
  refine g_sld (pc := 959) hE h.1 dL_law_959 ?_
  have h := h.2
  refine g_aload_n (pc := 960) dL_law_960 rfl 0 rfl ?_
  refine g_iload_n (pc := 961) dL_law_961 rfl 3 rfl ?_
  refine g_iconst (pc := 962) (4 : Int32) dL_law_962 rfl ?_
  refine g_iadd (pc := 963) dL_law_963 ?_
  refine g_sld (pc := 964) hE h.1 dL_law_964 ?_
  have h := h.2
  refine g_aload_n (pc := 965) dL_law_965 rfl 0 rfl ?_
  refine g_iload_n (pc := 966) dL_law_966 rfl 3 rfl ?_
  refine g_iconst (pc := 967) (5 : Int32) dL_law_967 rfl ?_
  refine g_iadd (pc := 968) dL_law_968 ?_
  refine g_sld (pc := 969) hE h.1 dL_law_969 ?_
  have h := h.2
  obtain ⟨Q187, hc, h⟩ := h
  refine g_callVI (pc := 970) (M' := mX5_copy) (n := 10) (As := [.int (xs (x3 + (1 : Int32)).toNatClampNeg), .int (xs (x3 + (2 : Int32)).toNatClampNeg), .int (xs (x3 + (3 : Int32)).toNatClampNeg), .int (xs (x3 + (4 : Int32)).toNatClampNeg), .int (xs (x3 + (5 : Int32)).toNatClampNeg)]) (st := []) dL_law_970 ml_L_144 ok_X5_copy rfl hR (by decide) rc_0 (Nat.le_of_ble_eq_true rfl) rfl hc (fun r188 τ189 hq => ?_)
  have h := h r188 τ189 hq
  refine g_aload_n (pc := 973) dL_law_973 rfl 2 rfl ?_
  refine g_aload_n (pc := 974) dL_law_974 rfl 0 rfl ?_
  refine g_iload_n (pc := 975) dL_law_975 rfl 3 rfl ?_
  refine g_iconst (pc := 976) (1 : Int32) dL_law_976 rfl ?_
  refine g_iadd (pc := 977) dL_law_977 ?_
  refine g_sld (pc := 978) hE h.1 dL_law_978 ?_
  have h := h.2
  refine g_aload_n (pc := 979) dL_law_979 rfl 0 rfl ?_
  refine g_iload_n (pc := 980) dL_law_980 rfl 3 rfl ?_
  refine g_iconst (pc := 981) (2 : Int32) dL_law_981 rfl ?_
  refine g_iadd (pc := 982) dL_law_982 ?_
  refine g_sld (pc := 983) hE h.1 dL_law_983 ?_
  have h := h.2
  refine g_aload_n (pc := 984) dL_law_984 rfl 0 rfl ?_
  refine g_iload_n (pc := 985) dL_law_985 rfl 3 rfl ?_
  refine g_iconst (pc := 986) (3 : Int32) dL_law_986 rfl ?_
  refine g_iadd (pc := 987) dL_law_987 ?_
  refine g_sld (pc := 988) hE h.1 dL_law_988 ?_
  have h := h.2
  refine g_aload_n (pc := 989) dL_law_989 rfl 0 rfl ?_
  refine g_iload_n (pc := 990) dL_law_990 rfl 3 rfl ?_
  refine g_iconst (pc := 991) (4 : Int32) dL_law_991 rfl ?_
  refine g_iadd (pc := 992) dL_law_992 ?_
  refine g_sld (pc := 993) hE h.1 dL_law_993 ?_
  have h := h.2
  refine g_aload_n (pc := 994) dL_law_994 rfl 0 rfl ?_
  refine g_iload_n (pc := 995) dL_law_995 rfl 3 rfl ?_
  refine g_iconst (pc := 996) (5 : Int32) dL_law_996 rfl ?_
  refine g_iadd (pc := 997) dL_law_997 ?_
  refine g_sld (pc := 998) hE h.1 dL_law_998 ?_
  have h := h.2
  obtain ⟨Q190, hc, h⟩ := h
  refine g_callVI (pc := 999) (M' := mX6_copy) (n := 10) (As := [.int (xs (x3 + (1 : Int32)).toNatClampNeg), .int (xs (x3 + (2 : Int32)).toNatClampNeg), .int (xs (x3 + (3 : Int32)).toNatClampNeg), .int (xs (x3 + (4 : Int32)).toNatClampNeg), .int (xs (x3 + (5 : Int32)).toNatClampNeg)]) (st := [.int r188]) dL_law_999 ml_L_148 ok_X6_copy rfl hR (by decide) rc_25 (Nat.le_of_ble_eq_true rfl) rfl hc (fun r191 τ192 hq => ?_)
  have h := h r191 τ192 hq
  refine g_icmp_eq (pc := 1002) 1067 dL_law_1002 (by decide) (fun q => ?_) (fun q => ?_)
  · have h := h.1 q
    refine g_iinc (pc := 1067) (6 : Int32) [(3, _), (0, _), (1, _), (2, _)] dL_law_1067 3 rfl rfl (Nat.le_of_ble_eq_true rfl) rfl ?_
    refine g_goto (pc := 1070) 18 dL_law_1070 (by decide) ?_
    refine g_pm [1, 2, 3, 0] rfl ?_
    exact h
  · have h := h.2 q
    refine g_iconst (pc := 1005) (0 : Int32) dL_law_1005 rfl ?_
    exact h.elim
set_option maxHeartbeats 4000000 in
set_option maxRecDepth 100000 in
theorem t_L_law_1007 {Γ : GT} {N : NT} {b L : Nat} {xs : Nat → Int32} (hR : rmOk 10 N) (hE : ∀ s A, N.2.2.2.2 s A → va_X b L xs s s.heap ∧ b < s.heap.size ∧ ¬ A b) (σ : St) (x3 : Int32)
    (h : vp_in (x3 + (1 : Int32)) L ∧ (∃ Q193 : Int32 → St → Prop, CtI Γ mX5_write 6 [rf Γ 0, .int (xs (x3 + (1 : Int32)).toNatClampNeg)] σ Q193 ∧ ∀ (r194 : Int32) (τ195 : St), Q193 r194 τ195 → (vp_in (x3 + (1 : Int32)) L ∧ (∃ Q196 : Int32 → St → Prop, CtI Γ mX6_write 6 [rf Γ 25, .int (xs (x3 + (1 : Int32)).toNatClampNeg)] τ195 Q196 ∧ ∀ (r197 : Int32) (τ198 : St), Q196 r197 τ198 → (((r194 = r197) → (G Γ mL_law N 18 [(0, .ref b), (1, rf Γ 0), (2, rf Γ 25), (3, .int (x3 + (6 : Int32)))] [] τ198)) ∧ ((¬ r194 = r197) → (False))))))) :
    G Γ mL_law N 1007 [(0, .ref b), (1, rf Γ 0), (2, rf Γ 25), (3, .int x3)] [] σ := by
  refine g_aload_n (pc := 1007) dL_law_1007 rfl 1 rfl ?_
  refine g_aload_n (pc := 1008) dL_law_1008 rfl 0 rfl ?_
  refine g_iload_n (pc := 1009) dL_law_1009 rfl 3 rfl ?_
  refine g_iconst (pc := 1010) (1 : Int32) dL_law_1010 rfl ?_
  refine g_iadd (pc := 1011) dL_law_1011 ?_
  refine g_sld (pc := 1012) hE h.1 dL_law_1012 ?_
  have h := h.2
  obtain ⟨Q193, hc, h⟩ := h
  refine g_callVI (pc := 1013) (M' := mX5_write) (n := 10) (As := [.int (xs (x3 + (1 : Int32)).toNatClampNeg)]) (st := []) dL_law_1013 ml_L_149 ok_X5_write rfl hR (by decide) rc_0 (Nat.le_of_ble_eq_true rfl) rfl hc (fun r194 τ195 hq => ?_)
  have h := h r194 τ195 hq
  refine g_aload_n (pc := 1016) dL_law_1016 rfl 2 rfl ?_
  refine g_aload_n (pc := 1017) dL_law_1017 rfl 0 rfl ?_
  refine g_iload_n (pc := 1018) dL_law_1018 rfl 3 rfl ?_
  refine g_iconst (pc := 1019) (1 : Int32) dL_law_1019 rfl ?_
  refine g_iadd (pc := 1020) dL_law_1020 ?_
  refine g_sld (pc := 1021) hE h.1 dL_law_1021 ?_
  have h := h.2
  obtain ⟨Q196, hc, h⟩ := h
  refine g_callVI (pc := 1022) (M' := mX6_write) (n := 10) (As := [.int (xs (x3 + (1 : Int32)).toNatClampNeg)]) (st := [.int r194]) dL_law_1022 ml_L_152 ok_X6_write rfl hR (by decide) rc_25 (Nat.le_of_ble_eq_true rfl) rfl hc (fun r197 τ198 hq => ?_)
  have h := h r197 τ198 hq
  refine g_icmp_eq (pc := 1025) 1067 dL_law_1025 (by decide) (fun q => ?_) (fun q => ?_)
  · have h := h.1 q
    refine g_iinc (pc := 1067) (6 : Int32) [(3, _), (0, _), (1, _), (2, _)] dL_law_1067 3 rfl rfl (Nat.le_of_ble_eq_true rfl) rfl ?_
    refine g_goto (pc := 1070) 18 dL_law_1070 (by decide) ?_
    refine g_pm [1, 2, 3, 0] rfl ?_
    exact h
  · have h := h.2 q
    refine g_iconst (pc := 1028) (0 : Int32) dL_law_1028 rfl ?_
    exact h.elim
set_option maxHeartbeats 4000000 in
set_option maxRecDepth 100000 in
theorem t_L_law_1030 {Γ : GT} {N : NT} {b L : Nat} {xs : Nat → Int32} (hR : rmOk 10 N) (hE : ∀ s A, N.2.2.2.2 s A → va_X b L xs s s.heap ∧ b < s.heap.size ∧ ¬ A b) (σ : St) (x3 : Int32)
    (h : vp_in (x3 + (1 : Int32)) L ∧ (∃ Q199 : Int32 → St → Prop, CtI Γ mX5_count 6 [rf Γ 0, .int (xs (x3 + (1 : Int32)).toNatClampNeg)] σ Q199 ∧ ∀ (r200 : Int32) (τ201 : St), Q199 r200 τ201 → (vp_in (x3 + (1 : Int32)) L ∧ (∃ Q202 : Int32 → St → Prop, CtI Γ mX6_count 5 [rf Γ 25, .int (xs (x3 + (1 : Int32)).toNatClampNeg)] τ201 Q202 ∧ ∀ (r203 : Int32) (τ204 : St), Q202 r203 τ204 → (((r200 = r203) → (G Γ mL_law N 18 [(0, .ref b), (1, rf Γ 0), (2, rf Γ 25), (3, .int (x3 + (6 : Int32)))] [] τ204)) ∧ ((¬ r200 = r203) → (False))))))) :
    G Γ mL_law N 1030 [(0, .ref b), (1, rf Γ 0), (2, rf Γ 25), (3, .int x3)] [] σ := by
  refine g_aload_n (pc := 1030) dL_law_1030 rfl 1 rfl ?_
  refine g_aload_n (pc := 1031) dL_law_1031 rfl 0 rfl ?_
  refine g_iload_n (pc := 1032) dL_law_1032 rfl 3 rfl ?_
  refine g_iconst (pc := 1033) (1 : Int32) dL_law_1033 rfl ?_
  refine g_iadd (pc := 1034) dL_law_1034 ?_
  refine g_sld (pc := 1035) hE h.1 dL_law_1035 ?_
  have h := h.2
  obtain ⟨Q199, hc, h⟩ := h
  refine g_callVI (pc := 1036) (M' := mX5_count) (n := 10) (As := [.int (xs (x3 + (1 : Int32)).toNatClampNeg)]) (st := []) dL_law_1036 ml_L_153 ok_X5_count rfl hR (by decide) rc_0 (Nat.le_of_ble_eq_true rfl) rfl hc (fun r200 τ201 hq => ?_)
  have h := h r200 τ201 hq
  refine g_aload_n (pc := 1039) dL_law_1039 rfl 2 rfl ?_
  refine g_aload_n (pc := 1040) dL_law_1040 rfl 0 rfl ?_
  refine g_iload_n (pc := 1041) dL_law_1041 rfl 3 rfl ?_
  refine g_iconst (pc := 1042) (1 : Int32) dL_law_1042 rfl ?_
  refine g_iadd (pc := 1043) dL_law_1043 ?_
  refine g_sld (pc := 1044) hE h.1 dL_law_1044 ?_
  have h := h.2
  obtain ⟨Q202, hc, h⟩ := h
  refine g_callVI (pc := 1045) (M' := mX6_count) (n := 10) (As := [.int (xs (x3 + (1 : Int32)).toNatClampNeg)]) (st := [.int r200]) dL_law_1045 ml_L_156 ok_X6_count rfl hR (by decide) rc_25 (Nat.le_of_ble_eq_true rfl) rfl hc (fun r203 τ204 hq => ?_)
  have h := h r203 τ204 hq
  refine g_icmp_eq (pc := 1048) 1067 dL_law_1048 (by decide) (fun q => ?_) (fun q => ?_)
  · have h := h.1 q
    refine g_iinc (pc := 1067) (6 : Int32) [(3, _), (0, _), (1, _), (2, _)] dL_law_1067 3 rfl rfl (Nat.le_of_ble_eq_true rfl) rfl ?_
    refine g_goto (pc := 1070) 18 dL_law_1070 (by decide) ?_
    refine g_pm [1, 2, 3, 0] rfl ?_
    exact h
  · have h := h.2 q
    refine g_iconst (pc := 1051) (0 : Int32) dL_law_1051 rfl ?_
    exact h.elim
set_option maxHeartbeats 4000000 in
set_option maxRecDepth 100000 in
theorem t_L_law_1053 {Γ : GT} {N : NT} {b L : Nat} {xs : Nat → Int32} (hR : rmOk 10 N) (hE : ∀ s A, N.2.2.2.2 s A → va_X b L xs s s.heap ∧ b < s.heap.size ∧ ¬ A b) (σ : St) (x3 : Int32)
    (h : ∃ Q205 : Int64 → St → Prop, CtJ Γ mX5_digest 7 [rf Γ 0] σ Q205 ∧ ∀ (r206 : Int64) (τ207 : St), Q205 r206 τ207 → (∃ Q208 : Int64 → St → Prop, CtJ Γ mX6_digest 7 [rf Γ 25] τ207 Q208 ∧ ∀ (r209 : Int64) (τ210 : St), Q208 r209 τ210 → (((r206 = r209) → (G Γ mL_law N 18 [(0, .ref b), (1, rf Γ 0), (2, rf Γ 25), (3, .int (x3 + (6 : Int32)))] [] τ210)) ∧ ((¬ r206 = r209) → (False))))) :
    G Γ mL_law N 1053 [(0, .ref b), (1, rf Γ 0), (2, rf Γ 25), (3, .int x3)] [] σ := by
  refine g_aload_n (pc := 1053) dL_law_1053 rfl 1 rfl ?_
  obtain ⟨Q205, hc, h⟩ := h
  refine g_callVJ (pc := 1054) (M' := mX5_digest) (n := 10) (As := []) (st := []) dL_law_1054 ml_L_157 ok_X5_digest rfl hR (by decide) rc_0 (Nat.le_of_ble_eq_true rfl) rfl hc (fun r206 τ207 hq => ?_)
  have h := h r206 τ207 hq
  refine g_aload_n (pc := 1057) dL_law_1057 rfl 2 rfl ?_
  obtain ⟨Q208, hc, h⟩ := h
  refine g_callVJ (pc := 1058) (M' := mX6_digest) (n := 10) (As := []) (st := [.long r206]) dL_law_1058 ml_L_161 ok_X6_digest rfl hR (by decide) rc_25 (Nat.le_of_ble_eq_true rfl) rfl hc (fun r209 τ210 hq => ?_)
  have h := h r209 τ210 hq
  refine g_lcmp_eq (pc := 1061) 1067 dL_law_1061 dL_law_1062 (by decide) (fun q => ?_) (fun q => ?_)
  · have h := h.1 q
    refine g_iinc (pc := 1067) (6 : Int32) [(3, _), (0, _), (1, _), (2, _)] dL_law_1067 3 rfl rfl (Nat.le_of_ble_eq_true rfl) rfl ?_
    refine g_goto (pc := 1070) 18 dL_law_1070 (by decide) ?_
    refine g_pm [1, 2, 3, 0] rfl ?_
    exact h
  · have h := h.2 q
    refine g_iconst (pc := 1065) (0 : Int32) dL_law_1065 rfl ?_
    exact h.elim
