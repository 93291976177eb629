/-! both at once: sheets written and read -/
section SHEETS2
variable {Γ : GT} {σ : St} {M M' : MD} {n n' : Nat} {a a' : List Value}
theorem Rel_its {τ : St} (hR : Rel σ) {s : Nat} (hs : s < 4) (hq : ∀ a, a ∉ [10, 12, 13, 17 + s + 4, 25, 35, 36, 37, 38, 42, 43] → τ.1 a = σ.1 a) (hk : ∀ k, k ≠ 13 → k ≠ 14 → τ.1 25 k = σ.1 25 k) (hi : ∀ i, i < 60 → τ.1 42 (60 * s + i) = τ.1 (17 + s + 4) i) (ho : ∀ b i, b < 4 → b ≠ s → i < 60 → τ.1 42 (60 * b + i) = σ.1 42 (60 * b + i)) : Rel τ := by
  have hq' : ∀ a, a ≠ 10 → a ≠ 12 → a ≠ 13 → a ≠ 17 + s + 4 → a ≠ 25 → (a < 35 ∨ (38 < a ∧ a < 42)) → τ.1 a = σ.1 a := fun a h1 h2 h3 h4 h5 h6 => hq a (by simp; omega)
  refine Rel.mk' (vC σ) hR.1.2.1 ?_ ?_ (by rw [hq' 1 (by omega) (by omega) (by omega) (by omega) (by omega) (by omega)]; exact hR.1.1.2) (by rw [hk 0 (by decide) (by decide), ← hR.2.2.1.symm]; exact hR.2.1.1.2) (by rw [hq' 14 (by omega) (by omega) (by omega) (by omega) (by omega) (by omega)]; exact hR.L.1) (by rw [hk 9 (by decide) (by decide)]; exact hR.L.2.1) ⟨fun b hb => ?_, fun b i hb hi2 => ?_⟩
  · have z : ∀ a, a < 17 → a ≠ 10 → a ≠ 12 → a ≠ 13 → τ.1 a = σ.1 a := fun a h0 h1 h2 h3 => hq' a h1 h2 h3 (by omega) (by omega) (by omega)
    unfold vC evC onC ob
    rw [z 0 (by omega) (by omega) (by omega) (by omega), z 1 (by omega) (by omega) (by omega) (by omega), z 2 (by omega) (by omega) (by omega) (by omega), z 3 (by omega) (by omega) (by omega) (by omega), z 4 (by omega) (by omega) (by omega) (by omega), z 5 (by omega) (by omega) (by omega) (by omega), z 6 (by omega) (by omega) (by omega) (by omega), z 11 (by omega) (by omega) (by omega) (by omega), z 14 (by omega) (by omega) (by omega) (by omega), z 15 (by omega) (by omega) (by omega) (by omega)]
  · have z : ∀ a, 26 ≤ a → a ≤ 34 → τ.1 a = σ.1 a := fun a h0 h1 => hq' a (by omega) (by omega) (by omega) (by omega) (by omega) (by omega)
    rw [hR.2.2.1]
    unfold vM evM onM
    rw [hk 0 (by decide) (by decide), hk 1 (by decide) (by decide), hk 9 (by decide) (by decide), hk 23 (by decide) (by decide), z 26 (by omega) (by omega), z 27 (by omega) (by omega), z 28 (by omega) (by omega), z 29 (by omega) (by omega), z 30 (by omega) (by omega), z 31 (by omega) (by omega), z 32 (by omega) (by omega)]
  · unfold shS
    rw [hq' (17 + b) (by omega) (by omega) (by omega) (by omega) (by omega) (by omega), hq' 39 (by omega) (by omega) (by omega) (by omega) (by omega) (by omega), hq' 40 (by omega) (by omega) (by omega) (by omega) (by omega) (by omega), hq' 41 (by omega) (by omega) (by omega) (by omega) (by omega) (by omega)]
    exact hR.2.2.2.1 b hb
  · by_cases c : b = s
    · subst c
      rw [hi i hi2, show 21 + b = 17 + b + 4 by omega]
    · rw [ho b i hb c hi2, hq' (21 + b) (by omega) (by omega) (by omega) (by omega) (by omega) (by omega)]
      exact hR.2.2.2.2 b i hb hi2
theorem o_write (hR : Rel σ) (x : Int32) : PairI Γ mX5_write 6 [rf Γ 0, .int x] mX6_write 6 [rf Γ 25, .int x] σ := by
  rcases noSh_or x with q | ⟨s, hs, rfl⟩
  · refine pairB (c := -2) hR ?_ ?_
    · apply ct_X5_write
      refine ⟨_, c_refSh_bad q, ?_⟩
      rintro _ _ ⟨rfl, rfl⟩
      exact ⟨fun z => absurd z (by decide), fun _ => ⟨rfl, rfl⟩⟩
    · apply ct_X6_write
      refine ⟨_, m_isSheet x, ?_⟩
      rintro _ _ ⟨rfl, rfl⟩
      rw [okI_sh q]; exact ⟨fun z => absurd rfl z, fun _ => ⟨rfl, rfl⟩⟩
  · rcases hR.2.2.2.1 s hs with ⟨h1, h2⟩ | ⟨z, hz, h1, h2, h3, h4⟩
    · refine pairF (c := -11) (f := 1) hR ?_ ?_
      · apply ct_X5_write
        refine ⟨_, c_refSh hs, ?_⟩
        rintro r τ (⟨-, rfl, rfl⟩ | ⟨c, -⟩)
        · exact ⟨fun z => absurd z (by decide), fun _ => ⟨rfl, rfl⟩⟩
        · exact absurd h1 c
      · apply ct_X6_write
        refine ⟨_, m_isSheet _, ?_⟩
        rintro _ _ ⟨rfl, rfl⟩
        rw [okI_sh1 hs, cl (by omega)]
        have e39 : (sI σ 0 5 1).1 39 s = 0 := h2
        rw [e39]
        refine ⟨fun _ => ⟨v4 hs, fun z => absurd rfl z, fun _ => ⟨_, m_meets _, ?_⟩⟩, fun z => absurd z (by decide)⟩
        rintro _ _ ⟨rfl, rfl⟩
        exact ⟨rfl, rfl⟩
    · have h5 : (evC σ).1 ≤ 5 := hR.1.1.1.2.1
      obtain ⟨m, hm⟩ : ∃ m, m = min (evC σ).1 z := ⟨_, rfl⟩
      obtain ⟨W, hW⟩ : ∃ W, W = (sStl (vC σ)).2 := ⟨_, rfl⟩
      have hWM : (sStl (vM σ)).2 = W := by rw [← hR.2.2.1, hW]
      refine ⟨fun r τ => r = nI m ∧ fr [12, 13, 17 + s + 4] [] σ τ ∧ ∀ k, k < 60 → τ.1 (17 + s + 4) k = if k < m then cutF (σ.1 (17 + s) 0) (W k) else σ.1 (17 + s + 4) k, ?_, ?_⟩
      · apply ct_X5_write
        refine ⟨_, c_refSh hs, ?_⟩
        rintro r τ (⟨c, -⟩ | ⟨-, rfl, rfl⟩)
        · exact absurd (h1.symm.trans c) (nz hz)
        refine ⟨fun _ => ⟨_, c_settle hR.1.1, ?_⟩, fun z => absurd rfl z⟩
        rintro _ υ ⟨-, hu, hf⟩
        have hu' : eq5 (υ.1 12) W := by rw [hW]; exact hu
        clear hu
        refine ⟨v4 hs, fun v8 hv8 => ?_⟩
        rw [cl (by omega), hf.1 1 (by simp), hf.1 (17 + s) (by simp; omega), h1, hR.1.1.2] at hv8
        have e8 : v8 = nI m := by
          rw [hv8, hm]
          by_cases c : (evC τ).1 < z
          · rw [if_pos (nI_lt c (by omega)), Nat.min_eq_left (by omega)]
          · rw [if_neg (nI_nlt (by omega) (by omega)), Nat.min_eq_right (by omega)]
        subst e8
        refine lp_up (P := fun j => ∀ ω : St, fr [12, 13, 17 + s + 4] [] τ ω → eq5 (ω.1 12) W → (∀ k, k < 60 → ω.1 (17 + s + 4) k = if k < j then cutF (τ.1 (17 + s) 0) (W k) else τ.1 (17 + s + 4) k) → G Γ mX5_write _ 43 [(0, rf Γ 0), (1, .int (nI s)), (3, .int (nI m)), (4, .int (nI j))] [] ω) m ?_ (fun j hj ih => ?_) 0 (Nat.zero_le _) υ (hf.mono (by simp) (by simp)) hu' (fun k hk => by rw [if_neg (by omega), hf.1 (17 + s + 4) (by simp; omega)])
        · intro ω g1 g2 g3
          apply t_X5_write_43
          exact pk_le m m (fun _ => ⟨rfl, g1, g3⟩) (fun q => absurd q (by omega))
        · intro ω g1 g2 g3
          apply t_X5_write_43
          have hj5 : j < 5 := by omega
          refine pk_le m j (fun q => absurd q (by omega)) (fun _ => ⟨v4 hs, vin hj5 (by omega), ?_⟩)
          rw [cl (by omega), cl (by omega)]
          refine ⟨_, c_store (sh_at hs) (by omega : j < 60) _, ?_⟩
          rintro _ rfl
          rw [nI_1]
          refine ih _ (g1.sI (by simp)) (by rw [sI_ne (by omega)]; exact g2) (fun k hk => ?_)
          rw [sI_eq]
          by_cases c : k = j
          · subst c
            rw [up_eq, if_pos (by omega), g1.1 (17 + s) (by simp; omega), g2 k hj5]
          · rw [up_ne c, g3 k hk]
            by_cases d : k < j
            · rw [if_pos d, if_pos (by omega)]
            · rw [if_neg d, if_neg (by omega)]
      · rintro _ τ ⟨rfl, hf, hit⟩
        have eT : ∀ a, a ≠ 12 → a ≠ 13 → a ≠ 17 + s + 4 → τ.1 a = σ.1 a := fun a ha hb hc => hf.1 a (by simp; omega)
        have hvM : vM τ = vM σ := by
          unfold vM evM onM
          rw [eT 25 (by omega) (by omega) (by omega), eT 26 (by omega) (by omega) (by omega), eT 27 (by omega) (by omega) (by omega), eT 28 (by omega) (by omega) (by omega), eT 29 (by omega) (by omega) (by omega), eT 30 (by omega) (by omega) (by omega), eT 31 (by omega) (by omega) (by omega), eT 32 (by omega) (by omega) (by omega)]
        have hiM : icM τ := by
          have heM : evM τ = evM σ := congrArg (fun v : V => v.1) hvM
          refine ⟨⟨by rw [heM]; exact hR.2.1.1.1, by rw [heM, eT 25 (by omega) (by omega) (by omega)]; exact hR.2.1.1.2⟩, by rw [hvM]; exact hR.2.1.2.1, by rw [hvM, eT 25 (by omega) (by omega) (by omega)]; exact hR.2.1.2.2⟩
        have hn0 : τ.1 25 0 = nI (evC σ).1 := by rw [eT 25 (by omega) (by omega) (by omega), hR.2.1.1.2, hR.ev]
        have h39 : τ.1 39 s = 1 := by rw [eT 39 (by omega) (by omega) (by omega)]; exact h2
        have h40 : τ.1 40 s = σ.1 (17 + s) 0 := by rw [eT 40 (by omega) (by omega) (by omega)]; exact h4
        have h41 : τ.1 41 s = nI z := by rw [eT 41 (by omega) (by omega) (by omega)]; exact h3
        refine ⟨fun r υ => r = nI m ∧ fm [35, 36, 37, 38, 43, 42] [33, 34] [13, 14] τ υ ∧ ∀ b i, b < 4 → i < 60 → υ.1 42 (60 * b + i) = if b = s ∧ i < m then cutF (σ.1 (17 + s) 0) (W i) else τ.1 42 (60 * b + i), ?_, ?_⟩
        · apply ct_X6_write
          refine ⟨_, m_isSheet _, ?_⟩
          rintro _ _ ⟨rfl, rfl⟩
          rw [okI_sh1 hs, cl (by omega), h39]
          refine ⟨fun _ => ⟨v4 hs, fun _ => ?_, fun z => absurd z (by decide)⟩, fun z => absurd z (by decide)⟩
          refine lp_up (P := fun j => ∀ ω : St, fm [35, 36, 37, 38, 43, 42] [33, 34] [13, 14] τ ω → icM ω → vM ω = vM σ → (∀ b i, b < 4 → i < 60 → ω.1 42 (60 * b + i) = if b = s ∧ i < j then cutF (σ.1 (17 + s) 0) (W i) else τ.1 42 (60 * b + i)) → G Γ mX6_write _ 27 [(0, rf Γ 25), (1, .int (nI s)), (2, .int (nI j))] [] ω) m ?_ (fun j hj ih => ?_) 0 (Nat.zero_le _) τ fm.rf hiM hvM (fun b i hb hi => by rw [if_neg (by omega)])
          · intro ω g1 g2 g3 g4
            apply t_X6_write_27
            rw [cl (by omega), g1.at 41 (by simp), h41, g1.2 0 (by simp), hn0]
            refine ⟨v4 hs, pk_le z m (fun _ => ⟨rfl, g1, g4⟩) (fun q => pk_le (evC σ).1 m (fun _ => ⟨rfl, g1, g4⟩) (fun q2 => absurd hm (by omega)))⟩
          · intro ω g1 g2 g3 g4
            apply t_X6_write_27
            rw [cl (by omega), g1.at 41 (by simp), h41, g1.2 0 (by simp), hn0]
            refine ⟨v4 hs, pk_le z j (fun q => absurd hj (by omega)) (fun _ => pk_le (evC σ).1 j (fun q => absurd hj (by omega)) (fun _ => ⟨_, m_restOf g2 (by omega), ?_⟩))⟩
            rintro _ κ ⟨rfl, hκ⟩
            rw [g3, hWM]
            refine ⟨_, m_keep hs (by omega) _, ?_⟩
            rintro _ rfl
            rw [nI_1, hκ.at 40 (by simp), g1.at 40 (by simp), h40]
            have hκ' : fm [35, 36, 37, 38, 43, 42] [33, 34] [13, 14] τ κ := g1.tr (hκ.mono (by simp) (by simp) (by simp))
            have hi2 : icM κ := icM_fm hκ g2
            refine ih _ (hκ'.si (by simp) (by decide)) hi2 (by rw [← g3, ← vM_fm hκ]; rfl) (fun b i hb hi => ?_)
            rw [sI_eq]
            by_cases c : 60 * b + i = 60 * s + j
            · rw [c, up_eq, if_pos (by omega), show i = j by omega]
            · rw [up_ne c, hκ.at 42 (by simp), g4 b i hb hi]
              by_cases d : b = s ∧ i < j
              · rw [if_pos d, if_pos (by omega)]
              · rw [if_neg d, if_neg (by omega)]
        · rintro _ υ ⟨rfl, g1, g2⟩
          refine ⟨rfl, Rel_its hR hs (fun a ha => ?_) (fun k hk hk2 => by rw [g1.2 k (by simp; omega), eT 25 (by omega) (by omega) (by omega)]) (fun i hi => ?_) (fun b i hb hbs hi => ?_)⟩
          · simp at ha
            rw [g1.at a (by simp; omega), eT a (by omega) (by omega) (by omega)]
          · rw [g2 s i hs hi, g1.at (17 + s + 4) (by simp; omega), hit i hi, eT 42 (by omega) (by omega) (by omega)]
            by_cases c : i < m
            · rw [if_pos ⟨rfl, c⟩, if_pos c]
            · rw [if_neg (fun y => c y.2), if_neg c]
              have := hR.2.2.2.2 s i hs hi
              rw [show 21 + s = 17 + s + 4 by omega] at this
              exact this
          · rw [g2 b i hb hi, if_neg (fun y => hbs y.1), eT 42 (by omega) (by omega) (by omega)]
end SHEETS2
