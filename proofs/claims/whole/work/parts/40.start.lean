/-! the law from its entry -/
theorem lw_retA {p : Program} {l : Launch} {e : Env} {s : State} {m : MethodId} {args : Array Value} {below : List Frame} {meth : Method} {c : Code} (hx : p.tables.exec = Jvm.exec) (hb : c.code = code) (hr : meth.sig.returnType = ret) (hlocks : meth.locks = false) {pc : Nat} {H : Heap} {ls : Array Slot} (hdg : decode code pc = .ok (.ireturn, 1)) : W p l e room_1 s m args below meth c H [] 600000 7302250 (lw_Z below args s) (F0 m pc ls [.int 1]) := by
  intro T hT X
  obtain ⟨fs, hret, hrun, hended, hW, hframe⟩ := X.leave (v := some (.int 1)) (hlocks := hlocks) (fun h => by rw [hr] at h; cases h)
  have hmeth' : T.vm.method? m = some meth := X.method'
  refine ⟨T.setFrames fs, ?_, .returned (some (.int 1)), hrun, hended, rfl, ⟨_, rfl⟩, hW, hframe⟩
  jvm_step X.here [X.here.top, hx, hb, hdg, hmeth', hr, ret, narrow_b1]
  (try refine ⟨rfl, ?_⟩); (try refine ⟨rfl, ?_⟩)
  first | (intro acts; rw [hret _ acts rfl rfl rfl]) | rw [hret _ _ rfl rfl rfl]
  exact Steps.refl _
abbrev NL (b L : Nat) (xs : Nat → Int32) : NT := (room_1, 600000, 7302250, fun below args s _ => lw_Z below args s, fun s A => (va_X b L xs s s.heap ∧ b < s.heap.size ∧ ¬ A b) ∧ va_AO RX2 s ∧ ∀ q, A q → s.heap.size ≤ q)
theorem law_end {Γ : GT} {b L : Nat} {xs : Nat → Int32} {ls : List (Nat × Value)} (σ : St) : G Γ mL_law (NL b L xs) 1073 ls [] σ := by
  intro p e s m args below meth c A H locs la C hP hD hS hl
  refine lv_iconst (v := 1) C.1 C.2.1 dL_law_1073 (by decide) ?_
  refine va_forget (fun q hq => C.2.2.2.2.2.2.2.2.2.2.2 _ (hS.2.2 q hq)) ?_
  exact lw_retA C.1 C.2.1 C.2.2.1 C.2.2.2.2.2.2.1 dL_law_1074
theorem ar_wd {s : State} {args : Array Value} {ty : FieldType} (h : (Cond.arrayClass ty).before args s = true) : ∃ cA, ArrOfT s cA ty ∧ s.vm.findClass ("[" ++ ty.toString) = some cA := by
  obtain ⟨cA, kA, comp, h1, h2, h3⟩ := Cond.arrayClass_spec h
  exact ⟨cA, fun N z => ⟨(fun k h => by cases h), kA, h2, comp, h3⟩, h1⟩
theorem ao_wd {s : State} (h : va_AO RX2 s) : ∃ cA, ArrOfT s cA (.object RX2) ∧ va_RA s cA (.object RX2) := by
  obtain ⟨comp, cA, kA, h1, h2, h3, h4, h5⟩ := Cond.arrayOver_spec h
  exact ⟨cA, fun N z => ⟨(fun k h => by cases h), kA, h3, comp, h4⟩, kA, comp, h3, h4, h1, h5⟩
theorem gd_cs {Γ : GT} {M : MD} {N : NT} {kc ks pc : Nat} {ls : List (Nat × Value)} {st : List Value} {ws : va_W} {q0 a : Nat} {F : Nat → Option Nat} (F' : Nat → Option Nat) (ha : ws[q0]? = some (a, csN Γ F)) (hF : ∀ j, j < 4 → F j = F' j) (k : GD Γ M N kc ks pc ls st (ws.set q0 (a, csN Γ F'))) : GD Γ M N kc ks pc ls st ws := by
  intro p e s m args below meth c A H locs la C hP hD hS hl
  refine k p e s m args below meth c A H locs la C ?_ (hD.set ha) hS hl
  intro i q hi
  by_cases c : i = q0
  · subst c
    have hlt : i < ws.length := (List.getElem?_eq_some_iff.mp ha).1
    rw [List.getElem?_set_self hlt] at hi
    cases hi
    have h0 := hP i _ ha
    show H[a]? = some (arrV Γ.2.2.1.2.2.2 4 (fun j => va_rf (F' j)))
    have h1 : H[a]? = some (arrV Γ.2.2.1.2.2.2 4 (fun j => va_rf (F j))) := h0
    rw [h1]
    unfold arrV
    have e : (fun j : Fin 4 => va_rf (F j.val)) = (fun j : Fin 4 => va_rf (F' j.val)) := by funext j; rw [hF j.val j.isLt]
    rw [e]
  · rw [List.getElem?_set_ne (Ne.symm c)] at hi
    exact hP i q hi
theorem gd_G {l : Launch} {D : va_G} {cs : ClassId × ClassId × ClassId × ClassId} {ρ0 : Nat → Nat} (ρ1 : Nat → Nat) {M : MD} {N : NT} {kc ks pc : Nat} {ls : List (Nat × Value)} {st : List Value} {ws : va_W} (σ : St) (h1 : kc ≤ N.2.1) (h2 : ks ≤ N.2.2.1) (hw : ws = wO (l, D, cs, ρ1) σ) (k : G (l, D, cs, ρ1) M N pc ls st σ) : GD (l, D, cs, ρ0) M N kc ks pc ls st ws := by
  subst hw
  exact fun p e s m args below meth c A H locs la C hP hD hS hl => W.widen h1 h2 (k p e s m args below meth c A H locs la C.1 hP hD hS hl)
/-- the numbers at the start -/
def st0 : St := (fun a => match a with
  | 1 => fun k => match k with | 0 => 3 | 1 => 31 | _ => 0
  | 2 => gnF 5 0
  | 3 => cF 5 5
  | 4 => cF 5 1
  | 5 => cF 5 100
  | 17 => fun k => match k with | 1 => -1 | _ => 0
  | 18 => fun k => match k with | 1 => -1 | _ => 0
  | 19 => fun k => match k with | 1 => -1 | _ => 0
  | 20 => fun k => match k with | 1 => -1 | _ => 0
  | 25 => fun k => match k with | 0 => 3 | 13 => 1 | _ => 0
  | 26 => gnF 5 0
  | 27 => cF 5 5
  | 28 => cF 5 1
  | 29 => cF 5 100
  | 30 => cF 5 1
  | _ => fun _ => 0, fun _ _ => 0)
theorem st0_on : onC st0 = onM st0 := by
  funext i
  unfold onC onM
  by_cases h : i < 5
  · rw [if_pos h, if_pos h]
    rcases (show i = 0 ∨ i = 1 ∨ i = 2 ∨ i = 3 ∨ i = 4 by omega) with rfl | rfl | rfl | rfl | rfl <;> decide
  · rw [if_neg h, if_neg h]
theorem Rel0 : Rel st0 := by
  have on1 : ∀ i, onM st0 i = 0 ∨ onM st0 i = 1 := by
    intro i
    unfold onM
    by_cases h : i < 5
    · rw [if_pos h]; exact Or.inr (show cF 5 1 i = 1 from if_pos h)
    · rw [if_neg h]; exact Or.inl rfl
  have okm : okE (evM st0) := by
    refine ⟨by decide, by decide, on1, fun i hi => ⟨10, by omega, by omega, ?_⟩, fun i j hi hj hij => ⟨1, by omega, ?_⟩, fun i hi => ⟨5, by omega, by omega, ?_⟩, fun i hi => ⟨1, by omega, ?_⟩, fun i hi => ⟨100, by omega, ?_⟩⟩
    · show gnF 5 0 (6 * i) = nI 10
      unfold gnF; rw [if_pos (by omega), if_pos (by omega)]; rfl
    · show gnF 5 0 (5 * i + j) = nI 1
      unfold gnF; rw [if_pos (by omega), if_neg (by omega)]; rfl
    · show cF 5 5 i = nI 5
      exact if_pos hi
    · show cF 5 1 i = nI 1
      exact if_pos hi
    · show cF 5 100 i = nI 100
      exact if_pos hi
  have ev : evC st0 = evM st0 := by unfold evC evM; rw [st0_on]; rfl
  have vv : vC st0 = vM st0 := by unfold vC vM; rw [ev]; rfl
  refine Rel.mk' (vM st0) ⟨okm, fun i hi => ⟨0, by omega, rfl⟩, by decide⟩ vv rfl (by decide) (by decide) (by decide) (by decide) ⟨fun s hs => ?_, fun s i hs hi => ?_⟩
  · rcases (show s = 0 ∨ s = 1 ∨ s = 2 ∨ s = 3 by omega) with rfl | rfl | rfl | rfl <;> exact Or.inl ⟨rfl, rfl⟩
  · rcases (show s = 0 ∨ s = 1 ∨ s = 2 ∨ s = 3 by omega) with rfl | rfl | rfl | rfl <;> rfl
set_option maxHeartbeats 4000000 in
set_option maxRecDepth 100000 in
theorem law_gd {l : Launch} {D : va_G} {cs : ClassId × ClassId × ClassId × ClassId} {ρ : Nat → Nat} {b L : Nat} {xs : Nat → Int32} (hL : L ≤ 3072) : GD (l, D, cs, ρ) mL_law (NL b L xs) 0 0 0 [(0, .ref b)] [] [] := by
  obtain ⟨Γ, hΓ⟩ : ∃ Γ : GT, Γ = (l, D, cs, ρ) := ⟨_, rfl⟩
  rw [← hΓ]
  refine gd_new (pc := 0) (ci := 5) (fs := [.null, .null, .null, .null, .null, .int 0]) tyX5 rfl inX5 tyX5_ok kcl_L_7 kit_X5 kin_X5 (fun j hj => by rcases (show j = 0 ∨ j = 1 ∨ j = 2 ∨ j = 3 ∨ j = 4 ∨ j = 5 by omega) with rfl | rfl | rfl | rfl | rfl | rfl <;> rfl) (Nat.le_of_ble_eq_true rfl) (Nat.le_of_ble_eq_true rfl) dL_law_0 (fun q1 => ?_)
  show GD Γ mL_law (NL b L xs) 1 6 3 [(0, .ref b)] [.ref q1] [(q1, .inr (5, [.null, .null, .null, .null, .null, .int 0]))]
  refine gd_dup (pc := 3) dL_law_3 rfl ?_
  refine gd_call (pc := 4) (M' := mX5_init) (n' := 2) (As := []) (st := [.ref q1]) (wr := []) (fun _ _ h => h.2.1) [0] [] dL_law_4 ml_L_9 ok_X5_init rfl ⟨⟨Nat.le_of_ble_eq_true rfl, Nat.le_of_ble_eq_true rfl⟩, Nat.le_of_ble_eq_true rfl, Nat.le_of_ble_eq_true rfl⟩ (Nat.le_of_ble_eq_true rfl) rfl (iX5_init q1) rfl rfl rfl rfl (by decide) ?_
  rintro _ ⟨q2, q3, q4, q5, q6, q7, q8, q9, q10, q11, q12, q13, q14, q15, q16, q17, q18, q19, q20, q21, q22, q23, q24, q25, rfl⟩
  show GD Γ mL_law (NL b L xs) 25 408 7 [(0, .ref b)] [.ref q1] [(q1, .inr (5, [.ref q2, .ref q8, .ref q12, .ref q15, .ref q17, .int (0 : Int32)])), (q2, .inr (1, [.int (3 : Int32), .int (31 : Int32), .ref q3, .ref q4, .ref q5, .ref q6, .ref q7])), (q3, ciN Γ 25 (gnF 5 0)), (q4, ciN Γ 5 (cF 5 5)), (q5, ciN Γ 5 (cF 5 1)), (q6, ciN Γ 5 (cF 5 100)), (q7, ciN Γ 5 (fun _ => 0)), (q8, .inr (0, [.ref q2, .ref q9, .ref q10, .ref q11])), (q9, cjN Γ 25 (fun _ => 0)), (q10, cjN Γ 32 (fun _ => 0)), (q11, ciN Γ 5 (fun _ => 0)), (q12, .inr (4, [.int (0 : Int32), .ref q13, .ref q2, .ref q14])), (q13, ciN Γ 5 (fun _ => 0)), (q14, ciN Γ 5 (fun _ => 0)), (q15, .inr (3, [.int (0 : Int32), .ref q16])), (q16, ciN Γ 12 (fun _ => 0)), (q17, csN Γ (va_up (va_up (va_up (va_up (fun _ => none) 0 (some q18)) 1 (some q20)) 2 (some q22)) 3 (some q24))), (q18, .inr (2, [.int (0 : Int32), .int (-1 : Int32), .ref q19])), (q19, ciN Γ 60 (fun _ => 0)), (q20, .inr (2, [.int (0 : Int32), .int (-1 : Int32), .ref q21])), (q21, ciN Γ 60 (fun _ => 0)), (q22, .inr (2, [.int (0 : Int32), .int (-1 : Int32), .ref q23])), (q23, ciN Γ 60 (fun _ => 0)), (q24, .inr (2, [.int (0 : Int32), .int (-1 : Int32), .ref q25])), (q25, ciN Γ 60 (fun _ => 0))]
  refine gd_astore_n (pc := 7) [(1, _), (0, _)] dL_law_7 rfl (Nat.le_of_ble_eq_true rfl) rfl ?_
  refine gd_new (pc := 8) (ci := 6) (fs := [.int 0, .int 0, .null, .null, .null, .null, .null, .null, .null, .int 0, .null, .null, .null, .int 0, .int 0, .null, .null, .null, .null, .null, .null, .null, .null, .int 0]) tyX6 rfl inX6 tyX6_ok kcl_L_10 kit_X6 kin_X6 (fun j hj => by rcases (show j = 0 ∨ j = 1 ∨ j = 2 ∨ j = 3 ∨ j = 4 ∨ j = 5 ∨ j = 6 ∨ j = 7 ∨ j = 8 ∨ j = 9 ∨ j = 10 ∨ j = 11 ∨ j = 12 ∨ j = 13 ∨ j = 14 ∨ j = 15 ∨ j = 16 ∨ j = 17 ∨ j = 18 ∨ j = 19 ∨ j = 20 ∨ j = 21 ∨ j = 22 ∨ j = 23 by omega) with rfl | rfl | rfl | rfl | rfl | rfl | rfl | rfl | rfl | rfl | rfl | rfl | rfl | rfl | rfl | rfl | rfl | rfl | rfl | rfl | rfl | rfl | rfl | rfl <;> rfl) (Nat.le_of_ble_eq_true rfl) (Nat.le_of_ble_eq_true rfl) dL_law_8 (fun q26 => ?_)
  show GD Γ mL_law (NL b L xs) 26 432 11 [(1, .ref q1), (0, .ref b)] [.ref q26] [(q1, .inr (5, [.ref q2, .ref q8, .ref q12, .ref q15, .ref q17, .int (0 : Int32)])), (q2, .inr (1, [.int (3 : Int32), .int (31 : Int32), .ref q3, .ref q4, .ref q5, .ref q6, .ref q7])), (q3, ciN Γ 25 (gnF 5 0)), (q4, ciN Γ 5 (cF 5 5)), (q5, ciN Γ 5 (cF 5 1)), (q6, ciN Γ 5 (cF 5 100)), (q7, ciN Γ 5 (fun _ => 0)), (q8, .inr (0, [.ref q2, .ref q9, .ref q10, .ref q11])), (q9, cjN Γ 25 (fun _ => 0)), (q10, cjN Γ 32 (fun _ => 0)), (q11, ciN Γ 5 (fun _ => 0)), (q12, .inr (4, [.int (0 : Int32), .ref q13, .ref q2, .ref q14])), (q13, ciN Γ 5 (fun _ => 0)), (q14, ciN Γ 5 (fun _ => 0)), (q15, .inr (3, [.int (0 : Int32), .ref q16])), (q16, ciN Γ 12 (fun _ => 0)), (q17, csN Γ (va_up (va_up (va_up (va_up (fun _ => none) 0 (some q18)) 1 (some q20)) 2 (some q22)) 3 (some q24))), (q18, .inr (2, [.int (0 : Int32), .int (-1 : Int32), .ref q19])), (q19, ciN Γ 60 (fun _ => 0)), (q20, .inr (2, [.int (0 : Int32), .int (-1 : Int32), .ref q21])), (q21, ciN Γ 60 (fun _ => 0)), (q22, .inr (2, [.int (0 : Int32), .int (-1 : Int32), .ref q23])), (q23, ciN Γ 60 (fun _ => 0)), (q24, .inr (2, [.int (0 : Int32), .int (-1 : Int32), .ref q25])), (q25, ciN Γ 60 (fun _ => 0)), (q26, .inr (6, [.int 0, .int 0, .null, .null, .null, .null, .null, .null, .null, .int 0, .null, .null, .null, .int 0, .int 0, .null, .null, .null, .null, .null, .null, .null, .null, .int 0]))]
  refine gd_dup (pc := 11) dL_law_11 rfl ?_
  refine gd_call (pc := 12) (M' := mX6_init) (n' := 1) (As := []) (st := [.ref q26]) (wr := [(q1, .inr (5, [.ref q2, .ref q8, .ref q12, .ref q15, .ref q17, .int (0 : Int32)])), (q2, .inr (1, [.int (3 : Int32), .int (31 : Int32), .ref q3, .ref q4, .ref q5, .ref q6, .ref q7])), (q3, ciN Γ 25 (gnF 5 0)), (q4, ciN Γ 5 (cF 5 5)), (q5, ciN Γ 5 (cF 5 1)), (q6, ciN Γ 5 (cF 5 100)), (q7, ciN Γ 5 (fun _ => 0)), (q8, .inr (0, [.ref q2, .ref q9, .ref q10, .ref q11])), (q9, cjN Γ 25 (fun _ => 0)), (q10, cjN Γ 32 (fun _ => 0)), (q11, ciN Γ 5 (fun _ => 0)), (q12, .inr (4, [.int (0 : Int32), .ref q13, .ref q2, .ref q14])), (q13, ciN Γ 5 (fun _ => 0)), (q14, ciN Γ 5 (fun _ => 0)), (q15, .inr (3, [.int (0 : Int32), .ref q16])), (q16, ciN Γ 12 (fun _ => 0)), (q17, csN Γ (va_up (va_up (va_up (va_up (fun _ => none) 0 (some q18)) 1 (some q20)) 2 (some q22)) 3 (some q24))), (q18, .inr (2, [.int (0 : Int32), .int (-1 : Int32), .ref q19])), (q19, ciN Γ 60 (fun _ => 0)), (q20, .inr (2, [.int (0 : Int32), .int (-1 : Int32), .ref q21])), (q21, ciN Γ 60 (fun _ => 0)), (q22, .inr (2, [.int (0 : Int32), .int (-1 : Int32), .ref q23])), (q23, ciN Γ 60 (fun _ => 0)), (q24, .inr (2, [.int (0 : Int32), .int (-1 : Int32), .ref q25])), (q25, ciN Γ 60 (fun _ => 0))]) (fun _ _ h => h.2.1) [25] [0, 1, 2, 3, 4, 5, 6, 7, 8, 9, 10, 11, 12, 13, 14, 15, 16, 17, 18, 19, 20, 21, 22, 23, 24] dL_law_12 ml_L_12 ok_X6_init rfl ⟨⟨Nat.le_of_ble_eq_true rfl, Nat.le_of_ble_eq_true rfl⟩, Nat.le_of_ble_eq_true rfl, Nat.le_of_ble_eq_true rfl⟩ (Nat.le_of_ble_eq_true rfl) rfl (iX6_init q26) rfl rfl rfl rfl (by decide) ?_
  rintro _ ⟨q27, q28, q29, q30, q31, q32, q33, q34, q35, q36, q37, q38, q39, q40, q41, q42, q43, q44, rfl⟩
  show GD Γ mL_law (NL b L xs) 44 883 15 [(1, .ref q1), (0, .ref b)] [.ref q26] [(q1, .inr (5, [.ref q2, .ref q8, .ref q12, .ref q15, .ref q17, .int (0 : Int32)])), (q2, .inr (1, [.int (3 : Int32), .int (31 : Int32), .ref q3, .ref q4, .ref q5, .ref q6, .ref q7])), (q3, ciN Γ 25 (gnF 5 0)), (q4, ciN Γ 5 (cF 5 5)), (q5, ciN Γ 5 (cF 5 1)), (q6, ciN Γ 5 (cF 5 100)), (q7, ciN Γ 5 (fun _ => 0)), (q8, .inr (0, [.ref q2, .ref q9, .ref q10, .ref q11])), (q9, cjN Γ 25 (fun _ => 0)), (q10, cjN Γ 32 (fun _ => 0)), (q11, ciN Γ 5 (fun _ => 0)), (q12, .inr (4, [.int (0 : Int32), .ref q13, .ref q2, .ref q14])), (q13, ciN Γ 5 (fun _ => 0)), (q14, ciN Γ 5 (fun _ => 0)), (q15, .inr (3, [.int (0 : Int32), .ref q16])), (q16, ciN Γ 12 (fun _ => 0)), (q17, csN Γ (va_up (va_up (va_up (va_up (fun _ => none) 0 (some q18)) 1 (some q20)) 2 (some q22)) 3 (some q24))), (q18, .inr (2, [.int (0 : Int32), .int (-1 : Int32), .ref q19])), (q19, ciN Γ 60 (fun _ => 0)), (q20, .inr (2, [.int (0 : Int32), .int (-1 : Int32), .ref q21])), (q21, ciN Γ 60 (fun _ => 0)), (q22, .inr (2, [.int (0 : Int32), .int (-1 : Int32), .ref q23])), (q23, ciN Γ 60 (fun _ => 0)), (q24, .inr (2, [.int (0 : Int32), .int (-1 : Int32), .ref q25])), (q25, ciN Γ 60 (fun _ => 0)), (q26, .inr (6, [.int (3 : Int32), .int 0, .ref q27, .ref q28, .ref q29, .ref q30, .ref q31, .ref q32, .ref q33, .int 0, .ref q34, .ref q35, .ref q36, .int (1 : Int32), .int 0, .ref q37, .ref q38, .ref q39, .ref q40, .ref q41, .ref q42, .ref q43, .ref q44, .int 0])), (q27, ciN Γ 25 (gnF 5 0)), (q28, ciN Γ 5 (cF 5 5)), (q29, ciN Γ 5 (cF 5 1)), (q30, ciN Γ 5 (cF 5 100)), (q31, czN Γ 5 (cF 5 1)), (q32, ciN Γ 5 (fun _ => 0)), (q33, ciN Γ 12 (fun _ => 0)), (q34, cjN Γ 25 (fun _ => 0)), (q35, cjN Γ 32 (fun _ => 0)), (q36, ciN Γ 5 (fun _ => 0)), (q37, ciN Γ 5 (fun _ => 0)), (q38, ciN Γ 5 (fun _ => 0)), (q39, ciN Γ 5 (fun _ => 0)), (q40, czN Γ 4 (fun _ => 0)), (q41, ciN Γ 4 (fun _ => 0)), (q42, ciN Γ 4 (fun _ => 0)), (q43, ciN Γ 240 (fun _ => 0)), (q44, ciN Γ 60 (fun _ => 0))]
  refine gd_astore_n (pc := 15) [(2, _), (1, _), (0, _)] dL_law_15 rfl (Nat.le_of_ble_eq_true rfl) rfl ?_
  refine gd_iconst (pc := 16) (0 : Int32) dL_law_16 rfl ?_
  refine gd_istore_n (pc := 17) [(3, _), (2, _), (1, _), (0, _)] dL_law_17 rfl (Nat.le_of_ble_eq_true rfl) rfl ?_
  refine gd_perm (ws' := [(q1, .inr (5, [.ref q2, .ref q8, .ref q12, .ref q15, .ref q17, .int (0 : Int32)])), (q2, .inr (1, [.int (3 : Int32), .int (31 : Int32), .ref q3, .ref q4, .ref q5, .ref q6, .ref q7])), (q3, ciN Γ 25 (gnF 5 0)), (q4, ciN Γ 5 (cF 5 5)), (q5, ciN Γ 5 (cF 5 1)), (q6, ciN Γ 5 (cF 5 100)), (q7, ciN Γ 5 (fun _ => 0)), (q8, .inr (0, [.ref q2, .ref q9, .ref q10, .ref q11])), (q9, cjN Γ 25 (fun _ => 0)), (q10, cjN Γ 32 (fun _ => 0)), (q11, ciN Γ 5 (fun _ => 0)), (q12, .inr (4, [.int (0 : Int32), .ref q13, .ref q2, .ref q14])), (q13, ciN Γ 5 (fun _ => 0)), (q14, ciN Γ 5 (fun _ => 0)), (q15, .inr (3, [.int (0 : Int32), .ref q16])), (q16, ciN Γ 12 (fun _ => 0)), (q17, csN Γ (va_up (va_up (va_up (va_up (fun _ => none) 0 (some q18)) 1 (some q20)) 2 (some q22)) 3 (some q24))), (q18, .inr (2, [.int (0 : Int32), .int (-1 : Int32), .ref q19])), (q20, .inr (2, [.int (0 : Int32), .int (-1 : Int32), .ref q21])), (q22, .inr (2, [.int (0 : Int32), .int (-1 : Int32), .ref q23])), (q24, .inr (2, [.int (0 : Int32), .int (-1 : Int32), .ref q25])), (q19, ciN Γ 60 (fun _ => 0)), (q21, ciN Γ 60 (fun _ => 0)), (q23, ciN Γ 60 (fun _ => 0)), (q25, ciN Γ 60 (fun _ => 0)), (q26, .inr (6, [.int (3 : Int32), .int 0, .ref q27, .ref q28, .ref q29, .ref q30, .ref q31, .ref q32, .ref q33, .int 0, .ref q34, .ref q35, .ref q36, .int (1 : Int32), .int 0, .ref q37, .ref q38, .ref q39, .ref q40, .ref q41, .ref q42, .ref q43, .ref q44, .int 0])), (q27, ciN Γ 25 (gnF 5 0)), (q28, ciN Γ 5 (cF 5 5)), (q29, ciN Γ 5 (cF 5 1)), (q30, ciN Γ 5 (cF 5 100)), (q31, czN Γ 5 (cF 5 1)), (q32, ciN Γ 5 (fun _ => 0)), (q33, ciN Γ 12 (fun _ => 0)), (q34, cjN Γ 25 (fun _ => 0)), (q35, cjN Γ 32 (fun _ => 0)), (q36, ciN Γ 5 (fun _ => 0)), (q37, ciN Γ 5 (fun _ => 0)), (q38, ciN Γ 5 (fun _ => 0)), (q39, ciN Γ 5 (fun _ => 0)), (q40, czN Γ 4 (fun _ => 0)), (q41, ciN Γ 4 (fun _ => 0)), (q42, ciN Γ 4 (fun _ => 0)), (q43, ciN Γ 240 (fun _ => 0)), (q44, ciN Γ 60 (fun _ => 0))]) [0, 1, 2, 3, 4, 5, 6, 7, 8, 9, 10, 11, 12, 13, 14, 15, 16, 17, 19, 21, 23, 18, 20, 22, 24, 25, 26, 27, 28, 29, 30, 31, 32, 33, 34, 35, 36, 37, 38, 39, 40, 41, 42, 43] (by decide) rfl ?_
  subst hΓ
  refine gd_pm [3, 2, 1, 0] rfl ?_
  refine gd_cs (q0 := 16) (F := va_up (va_up (va_up (va_up (fun _ => none) 0 (some q18)) 1 (some q20)) 2 (some q22)) 3 (some q24)) (fun i => some (([q1, q2, q3, q4, q5, q6, q7, q8, q9, q10, q11, q12, q13, q14, q15, q16, q17, q18, q20, q22, q24, q19, q21, q23, q25, q26, q27, q28, q29, q30, q31, q32, q33, q34, q35, q36, q37, q38, q39, q40, q41, q42, q43, q44] : List Nat).getD (17 + i) 0)) rfl (fun j hj => by rcases (show j = 0 ∨ j = 1 ∨ j = 2 ∨ j = 3 by omega) with rfl | rfl | rfl | rfl <;> rfl) ?_
  refine gd_G (fun k => ([q1, q2, q3, q4, q5, q6, q7, q8, q9, q10, q11, q12, q13, q14, q15, q16, q17, q18, q20, q22, q24, q19, q21, q23, q25, q26, q27, q28, q29, q30, q31, q32, q33, q34, q35, q36, q37, q38, q39, q40, q41, q42, q43, q44] : List Nat).getD k 0) st0 (Nat.le_of_ble_eq_true rfl) (Nat.le_of_ble_eq_true rfl) rfl ?_
  exact law_loop (Γ := (l, D, cs, _)) (N := NL b L xs) ⟨Nat.le_of_ble_eq_true rfl, Nat.le_of_ble_eq_true rfl, Nat.le_refl _, Nat.le_refl _⟩ (fun _ _ h => h.1) hL (fun _ σ => law_end σ) L 0 st0 (by omega) (by omega) Rel0
set_option maxHeartbeats 4000000 in
set_option maxRecDepth 100000 in
theorem whole_start {p : Program} {e : Env} {s : State} {m : MethodId} {below : List Frame} {meth : Method} {c : Code} (l : Launch) (hflags : l.flags = flags0) {b L : Nat} {xs : Nat → Int32} (hL : L ≤ 3072) (C0 : lw_At p s m meth c b L xs) : W p l e room_1 s m #[Value.ref b] below meth c s.heap [] 0 0 (lw_Z below #[Value.ref b] s) (entryFrame m ([Value.ref b] : List Value).toArray 4) := by
  obtain ⟨hx, hb, hr, hml, hown, hts, hX, hbl, hlocks, hgv⟩ := C0
  have hg : ∀ w ∈ gt, w.before #[Value.ref b] s = true := fun w hw => hts w (List.mem_filter.mp hw).1
  have hao : va_AO RX2 s := va_AO.of (hts (Cond.arrayOver (.object RX2)) (List.mem_append_right _ (List.mem_append_left _ (List.mem_of_getElem? (i := 117) (by decide +kernel)))))
  obtain ⟨c0, s0, hk0⟩ := u_known (C := RX0) (T := TX0) (N := 4) (n := 4) hg inX0 (hg _ kit_X0)
  obtain ⟨c1, s1, hk1⟩ := u_known (C := RX1) (T := TX1) (N := 7) (n := 7) hg inX1 (hg _ kit_X1)
  obtain ⟨c2, s2, hk2⟩ := u_known (C := RX2) (T := TX2) (N := 3) (n := 3) hg inX2 (hg _ kit_X2)
  obtain ⟨c3, s3, hk3⟩ := u_known (C := RX3) (T := TX3) (N := 2) (n := 2) hg inX3 (hg _ kit_X3)
  obtain ⟨c4, s4, hk4⟩ := u_known (C := RX4) (T := TX4) (N := 4) (n := 4) hg inX4 (hg _ kit_X4)
  obtain ⟨c5, s5, hk5⟩ := u_known (C := RX5) (T := TX5) (N := 6) (n := 6) hg inX5 (hg _ kit_X5)
  obtain ⟨c6, s6, hk6⟩ := u_known (C := RX6) (T := TX6) (N := 24) (n := 24) hg inX6 (hg _ kit_X6)
  obtain ⟨cI, hI1, hI2⟩ := ar_wd (hg _ kac_I)
  obtain ⟨cJ, hJ1, hJ2⟩ := ar_wd (hg _ kac_J)
  obtain ⟨cZ, hZ1, hZ2⟩ := ar_wd (hg _ kac_Z)
  obtain ⟨cS, hS1, hS2⟩ := ao_wd hao
  obtain ⟨D, hD⟩ : ∃ D : va_G, ∀ (k : Nat) (q : vw_C), vwCl[k]? = some q → u_Kn s q.1 q.2.1 q.2.2 (D.1 k) (D.2 k) := by
    refine ⟨(fun k => match k with | 0 => c0 | 1 => c1 | 2 => c2 | 3 => c3 | 4 => c4 | 5 => c5 | _ => c6, fun k => match k with | 0 => s0 | 1 => s1 | 2 => s2 | 3 => s3 | 4 => s4 | 5 => s5 | _ => s6), ?_⟩
    intro k q hq
    match k, hq with
    | 0, hq => cases hq; exact hk0
    | 1, hq => cases hq; exact hk1
    | 2, hq => cases hq; exact hk2
    | 3, hq => cases hq; exact hk3
    | 4, hq => cases hq; exact hk4
    | 5, hq => cases hq; exact hk5
    | 6, hq => cases hq; exact hk6
    | k + 7, hq => simp [vwCl] at hq
  have hK : va_K D vwCl (tyO (l, D, (cI, cJ, cZ, cS), fun _ => 0)) s := by
    refine ⟨hD, fun k q hq => ?_⟩
    match k, hq with
    | 0, hq => cases hq; exact ⟨hI1, hI2⟩
    | 1, hq => cases hq; exact ⟨hJ1, hJ2⟩
    | 2, hq => cases hq; exact ⟨hZ1, hZ2⟩
    | 3, hq => cases hq; exact ⟨hS1, hS2⟩
    | k + 4, hq => simp [tyO] at hq
  have hl := lv_entry ([.ref b]) (n := 4) (Nat.le_of_ble_eq_true rfl)
  rw [lg_entry_eq]
  exact law_gd (l := l) (D := D) (cs := (cI, cJ, cZ, cS)) (ρ := fun _ => 0) (b := b) (L := L) (xs := xs) hL p e s m #[Value.ref b] below meth c (fun q => s.heap.size ≤ q) s.heap [] _ ⟨⟨hx, hb, hr, hml, hown, hg, hlocks, hK, fun _ h => h, ⟨hX, hbl, Nat.not_le.mpr hbl⟩, hao, fun _ h => h⟩, fun h => absurd h (by decide)⟩ (fun k q h => by simp at h) ⟨fun i j p q h => by simp at h, fun k q h => by simp at h⟩ va_S.rf hl
