/-! the world: 44 cells; the judgement G, the contract Ct, a row an instruction -/
abbrev GT : Type := Launch × va_G × (ClassId × ClassId × ClassId × ClassId) × (Nat → Nat)
abbrev MD : Type := MethodName × ByteArray × Nat × Option FieldType
abbrev St : Type := (Nat → Nat → Int32) × (Nat → Nat → Int64)
abbrev NT : Type := Room × Nat × Nat × (List Frame → Array Value → State → (Nat → Prop) → State → Prop) × (State → (Nat → Prop) → Prop)
abbrev rf (Γ : GT) (k : Nat) : Value := .ref (Γ.2.2.2 k)
def tyO (Γ : GT) : List (ClassId × FieldType) := [(Γ.2.2.1.1, .int), (Γ.2.2.1.2.1, .long), (Γ.2.2.1.2.2.1, .boolean), (Γ.2.2.1.2.2.2, .object RX2)]
def ciN (Γ : GT) (n : Nat) (f : Nat → Int32) : va_E := .inl (Γ.2.2.1.1, n, .inl f)
def cjN (Γ : GT) (n : Nat) (f : Nat → Int64) : va_E := .inl (Γ.2.2.1.2.1, n, .inr (.inl f))
def czN (Γ : GT) (n : Nat) (f : Nat → Int32) : va_E := .inl (Γ.2.2.1.2.2.1, n, .inl f)
def cel (Γ : GT) (k : Nat) (f : Nat → Int32) (g : Nat → Int64) : va_E := match k with
  | 0 => .inr (5, [rf Γ 1, rf Γ 7, rf Γ 11, rf Γ 14, rf Γ 16, .int (f 5)])
  | 1 => .inr (1, [.int (f 0), .int (f 1), rf Γ 2, rf Γ 3, rf Γ 4, rf Γ 5, rf Γ 6])
  | 2 => ciN Γ 25 f
  | 3 => ciN Γ 5 f
  | 4 => ciN Γ 5 f
  | 5 => ciN Γ 5 f
  | 6 => ciN Γ 5 f
  | 7 => .inr (0, [rf Γ 1, rf Γ 8, rf Γ 9, rf Γ 10])
  | 8 => cjN Γ 25 g
  | 9 => cjN Γ 32 g
  | 10 => ciN Γ 5 f
  | 11 => .inr (4, [.int (f 0), rf Γ 12, rf Γ 1, rf Γ 13])
  | 12 => ciN Γ 5 f
  | 13 => ciN Γ 5 f
  | 14 => .inr (3, [.int (f 0), rf Γ 15])
  | 15 => ciN Γ 12 f
  | 16 => .inl (Γ.2.2.1.2.2.2, 4, .inr (.inr (.inr (.inr (fun i => some (Γ.2.2.2 (17 + i)))))))
  | 17 => .inr (2, [.int (f 0), .int (f 1), rf Γ 21])
  | 18 => .inr (2, [.int (f 0), .int (f 1), rf Γ 22])
  | 19 => .inr (2, [.int (f 0), .int (f 1), rf Γ 23])
  | 20 => .inr (2, [.int (f 0), .int (f 1), rf Γ 24])
  | 21 => ciN Γ 60 f
  | 22 => ciN Γ 60 f
  | 23 => ciN Γ 60 f
  | 24 => ciN Γ 60 f
  | 25 => .inr (6, [.int (f 0), .int (f 1), rf Γ 26, rf Γ 27, rf Γ 28, rf Γ 29, rf Γ 30, rf Γ 31, rf Γ 32, .int (f 9), rf Γ 33, rf Γ 34, rf Γ 35, .int (f 13), .int (f 14), rf Γ 36, rf Γ 37, rf Γ 38, rf Γ 39, rf Γ 40, rf Γ 41, rf Γ 42, rf Γ 43, .int (f 23)])
  | 26 => ciN Γ 25 f
  | 27 => ciN Γ 5 f
  | 28 => ciN Γ 5 f
  | 29 => ciN Γ 5 f
  | 30 => czN Γ 5 f
  | 31 => ciN Γ 5 f
  | 32 => ciN Γ 12 f
  | 33 => cjN Γ 25 g
  | 34 => cjN Γ 32 g
  | 35 => ciN Γ 5 f
  | 36 => ciN Γ 5 f
  | 37 => ciN Γ 5 f
  | 38 => ciN Γ 5 f
  | 39 => czN Γ 4 f
  | 40 => ciN Γ 4 f
  | 41 => ciN Γ 4 f
  | 42 => ciN Γ 240 f
  | _ => ciN Γ 60 f
def wO (Γ : GT) (σ : St) : va_W := (List.range 44).map (fun k => (Γ.2.2.2 k, cel Γ k (σ.1 k) (σ.2 k)))
theorem wO_at {Γ : GT} {σ : St} {k : Nat} (h : k < 44) : (wO Γ σ)[k]? = some (Γ.2.2.2 k, cel Γ k (σ.1 k) (σ.2 k)) := by simp [wO, h]
theorem wO_none {Γ : GT} {σ : St} {k : Nat} (h : ¬ k < 44) : (wO Γ σ)[k]? = none := by
  rw [List.getElem?_eq_none_iff]; simp [wO]; omega
theorem wO_len {Γ : GT} {σ : St} : (wO Γ σ).length = 44 := by simp [wO]
theorem wO_ad {Γ : GT} {σ : St} {k : Nat} {q : Nat × va_E} (h : (wO Γ σ)[k]? = some q) : k < 44 ∧ q.1 = Γ.2.2.2 k := by
  by_cases h4 : k < 44
  · rw [wO_at h4] at h; cases h; exact ⟨h4, rfl⟩
  · rw [wO_none h4] at h; cases h
theorem wO_set {Γ : GT} {σ τ : St} {a : Nat} (h : ∀ b, b ≠ a → τ.1 b = σ.1 b ∧ τ.2 b = σ.2 b) : (wO Γ σ).set a (Γ.2.2.2 a, cel Γ a (τ.1 a) (τ.2 a)) = wO Γ τ := by
  apply List.ext_getElem?
  intro k
  by_cases hk : k = a
  · subst hk
    by_cases h4 : k < 44
    · rw [wO_at h4, List.getElem?_set_self (by rw [wO_len]; exact h4)]
    · rw [wO_none h4, List.getElem?_eq_none_iff]; rw [List.length_set, wO_len]; omega
  · rw [List.getElem?_set_ne (Ne.symm hk)]
    by_cases h4 : k < 44
    · rw [wO_at h4, wO_at h4, (h k hk).1, (h k hk).2]
    · rw [wO_none h4, wO_none h4]
theorem wO_D {Γ : GT} {σ τ : St} {A : Nat → Prop} (h : va_D A (wO Γ σ)) : va_D A (wO Γ τ) := by
  have key : ∀ (k : Nat) (q : Nat × va_E), (wO Γ τ)[k]? = some q → (wO Γ σ)[k]? = some (q.1, cel Γ k (σ.1 k) (σ.2 k)) := by
    intro k q hk
    obtain ⟨h4, e⟩ := wO_ad hk
    rw [wO_at h4, e]
  exact ⟨fun i j p q hi hj hpq => h.1 i j _ _ (key i p hi) (key j q hj) hpq, fun k q hk => h.2 k (q.1, cel Γ k (σ.1 k) (σ.2 k)) (key k q hk)⟩
/-- the whole row of a cell is changed -/
def sF (σ : St) (a : Nat) (f : Nat → Int32) : St := (fun b => if b = a then f else σ.1 b, σ.2)
def sI (σ : St) (a k : Nat) (v : Int32) : St := sF σ a (upd (σ.1 a) k v)
def sG (σ : St) (a : Nat) (f : Nat → Int64) : St := (σ.1, fun b => if b = a then f else σ.2 b)
def sJ (σ : St) (a k : Nat) (v : Int64) : St := sG σ a (vp_updL (σ.2 a) k v)
theorem wO_sF {Γ : GT} {σ : St} {a : Nat} {f : Nat → Int32} : (wO Γ σ).set a (Γ.2.2.2 a, cel Γ a f (σ.2 a)) = wO Γ (sF σ a f) := by
  have h := wO_set (Γ := Γ) (σ := σ) (τ := sF σ a f) (a := a) (fun b hb => ⟨by simp [sF, hb], rfl⟩)
  simpa [sF] using h
theorem wO_sG {Γ : GT} {σ : St} {a : Nat} {f : Nat → Int64} : (wO Γ σ).set a (Γ.2.2.2 a, cel Γ a (σ.1 a) f) = wO Γ (sG σ a f) := by
  have h := wO_set (Γ := Γ) (σ := σ) (τ := sG σ a f) (a := a) (fun b hb => ⟨rfl, by simp [sG, hb]⟩)
  simpa [sG] using h
/-- every word that a method may use: of the tables, and kept by every call -/
def gt : List Cond := lw_tbl.filter goodWord
theorem gt_in {w : Cond} {i : Nat} (h : lw_tbl[i]? = some w) (g : goodWord w = true) : w ∈ gt := List.mem_filter.mpr ⟨List.mem_of_getElem? h, g⟩
theorem gt_good : GoodIn gt gt := fun w h => ⟨h, good_of_word (List.mem_filter.mp h).2⟩
def Cx (Γ : GT) (M : MD) (N : NT) (p : Program) (s : State) (m : MethodId) (args : Array Value) (meth : Method) (c : Code) (A : Nat → Prop) : Prop :=
  p.tables.exec = Jvm.exec ∧ c.code = M.2.1 ∧ meth.sig.returnType = M.2.2.2 ∧ c.maxLocals = M.2.2.1 ∧ s.vm.findClass M.1.cls = some m.cls ∧ (∀ w ∈ gt, w.before args s = true) ∧ meth.locks = false ∧ va_K Γ.2.1 vwCl (tyO Γ) s ∧ (∀ q, s.heap.size ≤ q → A q) ∧ N.2.2.2.2 s A
def G (Γ : GT) (M : MD) (N : NT) (pc : Nat) (ls : List (Nat × Value)) (st : List Value) (σ : St) : Prop :=
  ∀ (p : Program) (e : Env) (s : State) (m : MethodId) (args : Array Value) (below : List Frame) (meth : Method) (c : Code) (A : Nat → Prop) (H : Heap) (locs : List Loc) (la : Array Slot),
    Cx Γ M N p s m args meth c A → va_P Γ.2.1 vwCl (wO Γ σ) H → va_D A (wO Γ σ) → va_S A s.heap H locs → lv_has la M.2.2.1 ls →
    W p Γ.1 e N.1 s m args below meth c H locs N.2.1 N.2.2.1 (N.2.2.2.1 below args s A) (F0 m pc la st)
def Qcc (Γ : GT) (Q : Option Value → St → Prop) (A : Nat → Prop) : Array Value → State → Outcome → State → Prop := fun _ st oc t =>
  (∃ (v : Option Value) (τ : St), oc = .returned v ∧ Q v τ ∧ va_P Γ.2.1 vwCl (wO Γ τ) t.heap) ∧ va_F A st t
abbrev rmN (n : Nat) : Room := { frames := n, cells := 0, slots := 0, locals := 30 * n }
abbrev NM (Γ : GT) (n : Nat) (Q : Option Value → St → Prop) : NT := (rmN n, 0, 0, fun below args s A => MQ below (Qcc Γ Q A) args s 0 0 A, fun _ _ => True)
def wsM (M : MD) : List Cond := Cond.code M.1 M.2.1 M.2.2.1 M.2.2.2 :: gt
def PcC (Γ : GT) (args : List Value) (σ : St) (sz : Nat) : Array Value → State → Prop := va_Pc args (fun U => U.heap.size = sz ∧ va_P Γ.2.1 vwCl (wO Γ σ) U.heap ∧ va_K Γ.2.1 vwCl (tyO Γ) U ∧ va_D (fun _ => True) (wO Γ σ))
/-- the contract: from the world σ the method M with these arguments ends, in a world τ, with an answer v, of which Q v τ holds -/
def Ct (Γ : GT) (M : MD) (n : Nat) (args : List Value) (σ : St) (Q : Option Value → St → Prop) : Prop :=
  ∀ sz : Nat, Met Γ.1 M.1 (wsM M) (rmN n) (PcC Γ args σ sz) (Qcc Γ Q (va_A (wO Γ σ) sz)) 0 0 (va_A (wO Γ σ) sz)
abbrev CtI (Γ : GT) (M : MD) (n : Nat) (args : List Value) (σ : St) (Q : Int32 → St → Prop) : Prop := Ct Γ M n args σ (fun v τ => ∃ r : Int32, v = some (.int r) ∧ Q r τ)
abbrev CtJ (Γ : GT) (M : MD) (n : Nat) (args : List Value) (σ : St) (Q : Int64 → St → Prop) : Prop := Ct Γ M n args σ (fun v τ => ∃ r : Int64, v = some (.long r) ∧ Q r τ)
abbrev CtV (Γ : GT) (M : MD) (n : Nat) (args : List Value) (σ : St) (Q : St → Prop) : Prop := Ct Γ M n args σ (fun v τ => v = none ∧ Q τ)
theorem ct_of {Γ : GT} {M : MD} {n : Nat} {args : List Value} {σ : St} {Q : Option Value → St → Prop} (hy : plainName M.1.cls = true) (hn : (lg_sl args).length ≤ M.2.2.1) (h : G Γ M (NM Γ n Q) 0 (lv_args 0 args) [] σ) : Ct Γ M n args σ Q := by
  intro sz
  refine Met.ofW (cc := M.2.1) (maxL := M.2.2.1) (ret := M.2.2.2) hy rfl ?_
  intro p e s m args' below meth c s₁ B hml hv
  obtain ⟨rfl, hsz, hP, hK, hD0⟩ := hv
  have hts := atoms_spec (ws := wsM M) B.pre
  have hown : s.vm.findClass M.1.cls = some m.cls := findClass_of_methodNamed B.named
  subst hsz
  have hl := lv_entry args (n := M.2.2.1) hn
  rw [lg_entry_eq]
  exact h p e s m _ below meth c (va_A (wO Γ σ) s.heap.size) s.heap [] _ ⟨B.exec, B.bytes, B.returns, hml, hown, fun w hw => hts w (List.mem_cons_of_mem _ hw), B.notSynchronized, hK, fun q hq => Or.inr hq, trivial⟩ hP hD0.self va_S.rf hl
/-- a contract says less -/
theorem Ct.mono {Γ : GT} {M : MD} {n : Nat} {args : List Value} {σ : St} {Q Q' : Option Value → St → Prop} (h : Ct Γ M n args σ Q) (hq : ∀ v τ, Q v τ → Q' v τ) : Ct Γ M n args σ Q' := by
  intro sz
  have h0 := h sz
  intro p e ha hc hk s m a below hf happ hP hK
  obtain ⟨k, o, h1, h2, h3, ⟨⟨⟨v, τ, e1, e2, e3⟩, e4⟩, e5⟩⟩ := h0 p e ha hc hk s m a below hf happ hP hK
  exact ⟨k, o, h1, h2, h3, ⟨⟨⟨v, τ, e1, hq v τ e2, e3⟩, e4⟩, e5⟩⟩
def rmOk (n : Nat) (N : NT) : Prop := n ≤ N.1.frames ∧ 30 * n ≤ N.1.locals ∧ N.2.1 ≤ N.1.cells ∧ N.2.2.1 ≤ N.1.slots
theorem rmOk_M (Γ : GT) (n : Nat) (Q : Option Value → St → Prop) : rmOk n (NM Γ n Q) := ⟨Nat.le_refl _, Nat.le_refl _, Nat.le_refl _, Nat.le_refl _⟩
section ROWS
variable {Γ : GT} {M : MD} {N : NT} {pc : Nat} {ls : List (Nat × Value)} {st : List Value} {σ : St}
theorem g_pm {ls' : List (Nat × Value)} (ks : List Nat) (h : lv_pick ls ks = ls') (k : G Γ M N pc ls' st σ) : G Γ M N pc ls st σ :=
  fun p e s m args below meth c A H locs la C hP hD hS hl => k p e s m args below meth c A H locs la C hP hD hS (lv_sub hl ks h)
theorem g_iconst {n : Int} (v : Int32) (hd : decode M.2.1 pc = .ok (.iconst n, 1)) (hv : Int32.ofInt n = v) (k : G Γ M N (pc + 1) ls (.int v :: st) σ) : G Γ M N pc ls st σ :=
  fun p e s m args below meth c A H locs la C hP hD hS hl => lv_iconst C.1 C.2.1 hd hv (k p e s m args below meth c A H locs la C hP hD hS hl)
theorem g_bipush {n : Int} (v : Int32) (hd : decode M.2.1 pc = .ok (.bipush n, 2)) (hv : (Int8.ofInt n).toInt32 = v) (k : G Γ M N (pc + 2) ls (.int v :: st) σ) : G Γ M N pc ls st σ :=
  fun p e s m args below meth c A H locs la C hP hD hS hl => lv_bipush C.1 C.2.1 hd hv (k p e s m args below meth c A H locs la C hP hD hS hl)
theorem g_sipush {n : Int} (v : Int32) (hd : decode M.2.1 pc = .ok (.sipush n, 3)) (hv : (Int16.ofInt n).toInt32 = v) (k : G Γ M N (pc + 3) ls (.int v :: st) σ) : G Γ M N pc ls st σ :=
  fun p e s m args below meth c A H locs la C hP hD hS hl => lv_sipush C.1 C.2.1 hd hv (k p e s m args below meth c A H locs la C hP hD hS hl)
theorem g_lconst {n : Fin 2} (v : Int64) (hd : decode M.2.1 pc = .ok (.lconst n, 1)) (hv : Int64.ofNat (n : Nat) = v) (k : G Γ M N (pc + 1) ls (.long v :: st) σ) : G Γ M N pc ls st σ :=
  fun p e s m args below meth c A H locs la C hP hD hS hl => lv_lconst C.1 C.2.1 hd hv (k p e s m args below meth c A H locs la C hP hD hS hl)
theorem g_ldc {idx : Nat} (v : Int32) (hw : Cond.constant M.1.cls idx v ∈ gt) (hd : decode M.2.1 pc = .ok (.ldc idx, 2)) (k : G Γ M N (pc + 2) ls (.int v :: st) σ) : G Γ M N pc ls st σ :=
  fun p e s m args below meth c A H locs la C hP hD hS hl => lv_ldc C.1 C.2.1 C.2.2.2.2.1 (C.2.2.2.2.2.1 _ hw) hd (k p e s m args below meth c A H locs la C hP hD hS hl)
theorem g_ldcw {idx : Nat} (v : Int32) (hw : Cond.constant M.1.cls idx v ∈ gt) (hd : decode M.2.1 pc = .ok (.ldc_w idx, 3)) (k : G Γ M N (pc + 3) ls (.int v :: st) σ) : G Γ M N pc ls st σ :=
  fun p e s m args below meth c A H locs la C hP hD hS hl => lv_ldcw C.1 C.2.1 C.2.2.2.2.1 (C.2.2.2.2.2.1 _ hw) hd (k p e s m args below meth c A H locs la C hP hD hS hl)
theorem g_ldc2 {idx : Nat} (v : Int64) (hw : Cond.constantLong M.1.cls idx v ∈ gt) (hd : decode M.2.1 pc = .ok (.ldc2_w idx, 3)) (k : G Γ M N (pc + 3) ls (.long v :: st) σ) : G Γ M N pc ls st σ :=
  fun p e s m args below meth c A H locs la C hP hD hS hl => lv_ldc2 C.1 C.2.1 C.2.2.2.2.1 (C.2.2.2.2.2.1 _ hw) hd (k p e s m args below meth c A H locs la C hP hD hS hl)
theorem g_iload_n {k : Fin 4} {i : Nat} {x : Int32} (hd : decode M.2.1 pc = .ok (.iload_n k, 1)) (hi : (k : Nat) = i) (j : Nat) (hj : ls[j]? = some (i, .int x)) (kk : G Γ M N (pc + 1) ls (.int x :: st) σ) : G Γ M N pc ls st σ :=
  fun p e s m args below meth c A H locs la C hP hD hS hl => lv_iload_n C.1 C.2.1 hd hi (lv_at hl j hj) (kk p e s m args below meth c A H locs la C hP hD hS hl)
theorem g_iload {i : Nat} {x : Int32} (hd : decode M.2.1 pc = .ok (.iload i, 2)) (j : Nat) (hj : ls[j]? = some (i, .int x)) (kk : G Γ M N (pc + 2) ls (.int x :: st) σ) : G Γ M N pc ls st σ :=
  fun p e s m args below meth c A H locs la C hP hD hS hl => lv_iload C.1 C.2.1 hd (lv_at hl j hj) (kk p e s m args below meth c A H locs la C hP hD hS hl)
theorem g_lload_n {k : Fin 4} {i : Nat} {x : Int64} (hd : decode M.2.1 pc = .ok (.lload_n k, 1)) (hi : (k : Nat) = i) (j : Nat) (hj : ls[j]? = some (i, .long x)) (kk : G Γ M N (pc + 1) ls (.long x :: st) σ) : G Γ M N pc ls st σ :=
  fun p e s m args below meth c A H locs la C hP hD hS hl => lv_lload_n C.1 C.2.1 hd hi (lv_at hl j hj) (kk p e s m args below meth c A H locs la C hP hD hS hl)
theorem g_lload {i : Nat} {x : Int64} (hd : decode M.2.1 pc = .ok (.lload i, 2)) (j : Nat) (hj : ls[j]? = some (i, .long x)) (kk : G Γ M N (pc + 2) ls (.long x :: st) σ) : G Γ M N pc ls st σ :=
  fun p e s m args below meth c A H locs la C hP hD hS hl => lv_lload C.1 C.2.1 hd (lv_at hl j hj) (kk p e s m args below meth c A H locs la C hP hD hS hl)
theorem g_aload_n {k : Fin 4} {i : Nat} {x : Nat} (hd : decode M.2.1 pc = .ok (.aload_n k, 1)) (hi : (k : Nat) = i) (j : Nat) (hj : ls[j]? = some (i, .ref x)) (kk : G Γ M N (pc + 1) ls (.ref x :: st) σ) : G Γ M N pc ls st σ :=
  fun p e s m args below meth c A H locs la C hP hD hS hl => lv_aload_n C.1 C.2.1 hd hi (lv_at hl j hj) (kk p e s m args below meth c A H locs la C hP hD hS hl)
theorem g_aload {i : Nat} {x : Nat} (hd : decode M.2.1 pc = .ok (.aload i, 2)) (j : Nat) (hj : ls[j]? = some (i, .ref x)) (kk : G Γ M N (pc + 2) ls (.ref x :: st) σ) : G Γ M N pc ls st σ :=
  fun p e s m args below meth c A H locs la C hP hD hS hl => lv_aload C.1 C.2.1 hd (lv_at hl j hj) (kk p e s m args below meth c A H locs la C hP hD hS hl)
theorem g_istore_n {k : Fin 4} {i : Nat} {x : Int32} (lv' : List (Nat × Value)) (hd : decode M.2.1 pc = .ok (.istore_n k, 1)) (hi : (k : Nat) = i) (hn : i < M.2.2.1) (hl' : (i, Value.int x) :: ls.filter (fun q => !(q.1 == i) && !(q.1 + 1 == i && q.2.category == 2)) = lv') (kk : G Γ M N (pc + 1) lv' st σ) : G Γ M N pc ls (.int x :: st) σ :=
  fun p e s m args below meth c A H locs la C hP hD hS hl => lv_istore_n C.1 C.2.1 hd hi hl hn hl' (fun la hl => kk p e s m args below meth c A H locs la C hP hD hS hl)
theorem g_istore {i : Nat} {x : Int32} (lv' : List (Nat × Value)) (hd : decode M.2.1 pc = .ok (.istore i, 2)) (hn : i < M.2.2.1) (hl' : (i, Value.int x) :: ls.filter (fun q => !(q.1 == i) && !(q.1 + 1 == i && q.2.category == 2)) = lv') (kk : G Γ M N (pc + 2) lv' st σ) : G Γ M N pc ls (.int x :: st) σ :=
  fun p e s m args below meth c A H locs la C hP hD hS hl => lv_istore C.1 C.2.1 hd hl hn hl' (fun la hl => kk p e s m args below meth c A H locs la C hP hD hS hl)
theorem g_astore_n {k : Fin 4} {i : Nat} {x : Nat} (lv' : List (Nat × Value)) (hd : decode M.2.1 pc = .ok (.astore_n k, 1)) (hi : (k : Nat) = i) (hn : i < M.2.2.1) (hl' : (i, Value.ref x) :: ls.filter (fun q => !(q.1 == i) && !(q.1 + 1 == i && q.2.category == 2)) = lv') (kk : G Γ M N (pc + 1) lv' st σ) : G Γ M N pc ls (.ref x :: st) σ :=
  fun p e s m args below meth c A H locs la C hP hD hS hl => lv_astore_n C.1 C.2.1 hd hi hl hn hl' (fun la hl => kk p e s m args below meth c A H locs la C hP hD hS hl)
theorem g_astore {i : Nat} {x : Nat} (lv' : List (Nat × Value)) (hd : decode M.2.1 pc = .ok (.astore i, 2)) (hn : i < M.2.2.1) (hl' : (i, Value.ref x) :: ls.filter (fun q => !(q.1 == i) && !(q.1 + 1 == i && q.2.category == 2)) = lv') (kk : G Γ M N (pc + 2) lv' st σ) : G Γ M N pc ls (.ref x :: st) σ :=
  fun p e s m args below meth c A H locs la C hP hD hS hl => lv_astore C.1 C.2.1 hd hl hn hl' (fun la hl => kk p e s m args below meth c A H locs la C hP hD hS hl)
theorem g_lstore_n {k : Fin 4} {i : Nat} {x : Int64} (lv' : List (Nat × Value)) (hd : decode M.2.1 pc = .ok (.lstore_n k, 1)) (hi : (k : Nat) = i) (hn : i + 1 < M.2.2.1) (hl' : (i, Value.long x) :: ls.filter (fun q => !(q.1 == i) && (!(q.1 == i + 1) && !(q.1 + 1 == i && q.2.category == 2))) = lv') (kk : G Γ M N (pc + 1) lv' st σ) : G Γ M N pc ls (.long x :: st) σ :=
  fun p e s m args below meth c A H locs la C hP hD hS hl => lv_lstore_n C.1 C.2.1 hd hi hl hn hl' (fun la hl => kk p e s m args below meth c A H locs la C hP hD hS hl)
theorem g_lstore {i : Nat} {x : Int64} (lv' : List (Nat × Value)) (hd : decode M.2.1 pc = .ok (.lstore i, 2)) (hn : i + 1 < M.2.2.1) (hl' : (i, Value.long x) :: ls.filter (fun q => !(q.1 == i) && (!(q.1 == i + 1) && !(q.1 + 1 == i && q.2.category == 2))) = lv') (kk : G Γ M N (pc + 2) lv' st σ) : G Γ M N pc ls (.long x :: st) σ :=
  fun p e s m args below meth c A H locs la C hP hD hS hl => lv_lstore C.1 C.2.1 hd hl hn hl' (fun la hl => kk p e s m args below meth c A H locs la C hP hD hS hl)
theorem g_iinc {i : Nat} {n : Int} {x : Int32} (v : Int32) (lv' : List (Nat × Value)) (hd : decode M.2.1 pc = .ok (.iinc i n, 3)) (j : Nat) (hj : ls[j]? = some (i, .int x)) (hv : Int32.ofInt n = v) (hn : i < M.2.2.1) (hl' : (i, Value.int (x + v)) :: ls.filter (fun q => !(q.1 == i) && !(q.1 + 1 == i && q.2.category == 2)) = lv') (kk : G Γ M N (pc + 3) lv' st σ) : G Γ M N pc ls st σ :=
  fun p e s m args below meth c A H locs la C hP hD hS hl => lv_iinc C.1 C.2.1 hd hl hj (by rw [hv]) hn hl' (fun la hl => kk p e s m args below meth c A H locs la C hP hD hS hl)
theorem g_iadd {x y : Int32} (hd : decode M.2.1 pc = .ok (.iadd, 1)) (k : G Γ M N (pc + 1) ls (.int (x + y) :: st) σ) : G Γ M N pc ls (.int y :: .int x :: st) σ :=
  fun p e s m args below meth c A H locs la C hP hD hS hl => lv_iadd C.1 C.2.1 hd (k p e s m args below meth c A H locs la C hP hD hS hl)
theorem g_isub {x y : Int32} (hd : decode M.2.1 pc = .ok (.isub, 1)) (k : G Γ M N (pc + 1) ls (.int (x - y) :: st) σ) : G Γ M N pc ls (.int y :: .int x :: st) σ :=
  fun p e s m args below meth c A H locs la C hP hD hS hl => lv_isub C.1 C.2.1 hd (k p e s m args below meth c A H locs la C hP hD hS hl)
theorem g_imul {x y : Int32} (hd : decode M.2.1 pc = .ok (.imul, 1)) (k : G Γ M N (pc + 1) ls (.int (x * y) :: st) σ) : G Γ M N pc ls (.int y :: .int x :: st) σ :=
  fun p e s m args below meth c A H locs la C hP hD hS hl => lv_imul C.1 C.2.1 hd (k p e s m args below meth c A H locs la C hP hD hS hl)
theorem g_iand {x y : Int32} (hd : decode M.2.1 pc = .ok (.iand, 1)) (k : G Γ M N (pc + 1) ls (.int (x &&& y) :: st) σ) : G Γ M N pc ls (.int y :: .int x :: st) σ :=
  fun p e s m args below meth c A H locs la C hP hD hS hl => lv_iand C.1 C.2.1 hd (k p e s m args below meth c A H locs la C hP hD hS hl)
theorem g_ior {x y : Int32} (hd : decode M.2.1 pc = .ok (.ior, 1)) (k : G Γ M N (pc + 1) ls (.int (x ||| y) :: st) σ) : G Γ M N pc ls (.int y :: .int x :: st) σ :=
  fun p e s m args below meth c A H locs la C hP hD hS hl => lv_ior C.1 C.2.1 hd (k p e s m args below meth c A H locs la C hP hD hS hl)
theorem g_ixor {x y : Int32} (hd : decode M.2.1 pc = .ok (.ixor, 1)) (k : G Γ M N (pc + 1) ls (.int (x ^^^ y) :: st) σ) : G Γ M N pc ls (.int y :: .int x :: st) σ :=
  fun p e s m args below meth c A H locs la C hP hD hS hl => lv_ixor C.1 C.2.1 hd (k p e s m args below meth c A H locs la C hP hD hS hl)
theorem g_ishl {x y : Int32} (hd : decode M.2.1 pc = .ok (.ishl, 1)) (k : G Γ M N (pc + 1) ls (.int (x <<< (y &&& 31)) :: st) σ) : G Γ M N pc ls (.int y :: .int x :: st) σ :=
  fun p e s m args below meth c A H locs la C hP hD hS hl => lv_ishl C.1 C.2.1 hd (k p e s m args below meth c A H locs la C hP hD hS hl)
theorem g_ishr {x y : Int32} (hd : decode M.2.1 pc = .ok (.ishr, 1)) (k : G Γ M N (pc + 1) ls (.int (x >>> (y &&& 31)) :: st) σ) : G Γ M N pc ls (.int y :: .int x :: st) σ :=
  fun p e s m args below meth c A H locs la C hP hD hS hl => lv_ishr C.1 C.2.1 hd (k p e s m args below meth c A H locs la C hP hD hS hl)
theorem g_ladd {x y : Int64} (hd : decode M.2.1 pc = .ok (.ladd, 1)) (k : G Γ M N (pc + 1) ls (.long (x + y) :: st) σ) : G Γ M N pc ls (.long y :: .long x :: st) σ :=
  fun p e s m args below meth c A H locs la C hP hD hS hl => lv_ladd C.1 C.2.1 hd (k p e s m args below meth c A H locs la C hP hD hS hl)
theorem g_lsub {x y : Int64} (hd : decode M.2.1 pc = .ok (.lsub, 1)) (k : G Γ M N (pc + 1) ls (.long (x - y) :: st) σ) : G Γ M N pc ls (.long y :: .long x :: st) σ :=
  fun p e s m args below meth c A H locs la C hP hD hS hl => lv_lsub C.1 C.2.1 hd (k p e s m args below meth c A H locs la C hP hD hS hl)
theorem g_lmul {x y : Int64} (hd : decode M.2.1 pc = .ok (.lmul, 1)) (k : G Γ M N (pc + 1) ls (.long (x * y) :: st) σ) : G Γ M N pc ls (.long y :: .long x :: st) σ :=
  fun p e s m args below meth c A H locs la C hP hD hS hl => lv_lmul C.1 C.2.1 hd (k p e s m args below meth c A H locs la C hP hD hS hl)
theorem g_iushr {x y : Int32} (hd : decode M.2.1 pc = .ok (.iushr, 1)) (k : G Γ M N (pc + 1) ls (.int ((x.toUInt32 >>> (y.toUInt32 &&& Int32.toUInt32 31)).toInt32) :: st) σ) : G Γ M N pc ls (.int y :: .int x :: st) σ :=
  fun p e s m args below meth c A H locs la C hP hD hS hl => lv_iushr C.1 C.2.1 hd rfl (k p e s m args below meth c A H locs la C hP hD hS hl)
theorem g_idiv {x y : Int32} (hd : decode M.2.1 pc = .ok (.idiv, 1)) (hne : ¬ y = 0) (k : G Γ M N (pc + 1) ls (.int (x / y) :: st) σ) : G Γ M N pc ls (.int y :: .int x :: st) σ :=
  fun p e s m args below meth c A H locs la C hP hD hS hl => lv_idiv C.1 C.2.1 hd hne (k p e s m args below meth c A H locs la C hP hD hS hl)
theorem g_irem {x y : Int32} (hd : decode M.2.1 pc = .ok (.irem, 1)) (hne : ¬ y = 0) (k : G Γ M N (pc + 1) ls (.int (x - x / y * y) :: st) σ) : G Γ M N pc ls (.int y :: .int x :: st) σ :=
  fun p e s m args below meth c A H locs la C hP hD hS hl => lv_irem C.1 C.2.1 hd hne (k p e s m args below meth c A H locs la C hP hD hS hl)
theorem g_ldiv {x y : Int64} (hd : decode M.2.1 pc = .ok (.ldiv, 1)) (hne : ¬ y = 0) (k : G Γ M N (pc + 1) ls (.long (x / y) :: st) σ) : G Γ M N pc ls (.long y :: .long x :: st) σ :=
  fun p e s m args below meth c A H locs la C hP hD hS hl => lv_ldiv C.1 C.2.1 hd hne (k p e s m args below meth c A H locs la C hP hD hS hl)
theorem g_lrem {x y : Int64} (hd : decode M.2.1 pc = .ok (.lrem, 1)) (hne : ¬ y = 0) (k : G Γ M N (pc + 1) ls (.long (x - x / y * y) :: st) σ) : G Γ M N pc ls (.long y :: .long x :: st) σ :=
  fun p e s m args below meth c A H locs la C hP hD hS hl => lv_lrem C.1 C.2.1 hd hne (k p e s m args below meth c A H locs la C hP hD hS hl)
theorem g_lneg {x : Int64} (hd : decode M.2.1 pc = .ok (.lneg, 1)) (k : G Γ M N (pc + 1) ls (.long (-x) :: st) σ) : G Γ M N pc ls (.long x :: st) σ :=
  fun p e s m args below meth c A H locs la C hP hD hS hl => lv_lneg C.1 C.2.1 hd (k p e s m args below meth c A H locs la C hP hD hS hl)
theorem g_i2l {x : Int32} (hd : decode M.2.1 pc = .ok (.i2l, 1)) (k : G Γ M N (pc + 1) ls (.long (x.toInt64) :: st) σ) : G Γ M N pc ls (.int x :: st) σ :=
  fun p e s m args below meth c A H locs la C hP hD hS hl => lv_i2l C.1 C.2.1 hd rfl (k p e s m args below meth c A H locs la C hP hD hS hl)
theorem g_i2b {x : Int32} (hd : decode M.2.1 pc = .ok (.i2b, 1)) (k : G Γ M N (pc + 1) ls (.int (x.toInt8.toInt32) :: st) σ) : G Γ M N pc ls (.int x :: st) σ :=
  fun p e s m args below meth c A H locs la C hP hD hS hl => lv_i2b C.1 C.2.1 hd rfl (k p e s m args below meth c A H locs la C hP hD hS hl)
theorem g_i2s {x : Int32} (hd : decode M.2.1 pc = .ok (.i2s, 1)) (k : G Γ M N (pc + 1) ls (.int (x.toInt16.toInt32) :: st) σ) : G Γ M N pc ls (.int x :: st) σ :=
  fun p e s m args below meth c A H locs la C hP hD hS hl => lv_i2s C.1 C.2.1 hd rfl (k p e s m args below meth c A H locs la C hP hD hS hl)
theorem g_dup {v : Value} (hd : decode M.2.1 pc = .ok (.dup, 1)) (hv : v.category = 1) (k : G Γ M N (pc + 1) ls (v :: v :: st) σ) : G Γ M N pc ls (v :: st) σ :=
  fun p e s m args below meth c A H locs la C hP hD hS hl => lv_dup C.1 C.2.1 hd hv (k p e s m args below meth c A H locs la C hP hD hS hl)
theorem g_dup2 {v u : Value} (hd : decode M.2.1 pc = .ok (.dup2, 1)) (hv : v.category = 1) (hu : u.category = 1) (k : G Γ M N (pc + 1) ls (v :: u :: v :: u :: st) σ) : G Γ M N pc ls (v :: u :: st) σ :=
  fun p e s m args below meth c A H locs la C hP hD hS hl => lv_dup2_11 C.1 C.2.1 hd hv hu (k p e s m args below meth c A H locs la C hP hD hS hl)
theorem g_pop {v : Value} (hd : decode M.2.1 pc = .ok (.pop, 1)) (hv : v.category = 1) (k : G Γ M N (pc + 1) ls st σ) : G Γ M N pc ls (v :: st) σ :=
  fun p e s m args below meth c A H locs la C hP hD hS hl => lv_pop C.1 C.2.1 hd hv (k p e s m args below meth c A H locs la C hP hD hS hl)
theorem g_goto {off : Int} (tgt : Nat) (hd : decode M.2.1 pc = .ok (.goto off, 3)) (ht : (pc : Int) + off = (tgt : Int)) (k : G Γ M N tgt ls st σ) : G Γ M N pc ls st σ :=
  fun p e s m args below meth c A H locs la C hP hD hS hl => lv_goto C.1 C.2.1 hd ht (k p e s m args below meth c A H locs la C hP hD hS hl)
theorem g_if_eq {x : Int32} {off : Int} (tgt : Nat) (hd : decode M.2.1 pc = .ok (.ifCond .eq off, 3)) (ht : (pc : Int) + off = (tgt : Int)) (kt : x = 0 → G Γ M N tgt ls st σ) (kf : ¬ x = 0 → G Γ M N (pc + 3) ls st σ) : G Γ M N pc ls (.int x :: st) σ :=
  fun p e s m args below meth c A H locs la C hP hD hS hl => lv_if_eq C.1 C.2.1 hd ht (fun q => kt q p e s m args below meth c A H locs la C hP hD hS hl) (fun q => kf q p e s m args below meth c A H locs la C hP hD hS hl)
theorem g_icmp_eq {x y : Int32} {off : Int} (tgt : Nat) (hd : decode M.2.1 pc = .ok (.if_icmp .eq off, 3)) (ht : (pc : Int) + off = (tgt : Int)) (kt : x = y → G Γ M N tgt ls st σ) (kf : ¬ x = y → G Γ M N (pc + 3) ls st σ) : G Γ M N pc ls (.int y :: .int x :: st) σ :=
  fun p e s m args below meth c A H locs la C hP hD hS hl => lv_icmp_eq C.1 C.2.1 hd ht (fun q => kt q p e s m args below meth c A H locs la C hP hD hS hl) (fun q => kf q p e s m args below meth c A H locs la C hP hD hS hl)
theorem g_if_ne {x : Int32} {off : Int} (tgt : Nat) (hd : decode M.2.1 pc = .ok (.ifCond .ne off, 3)) (ht : (pc : Int) + off = (tgt : Int)) (kt : ¬ x = 0 → G Γ M N tgt ls st σ) (kf : x = 0 → G Γ M N (pc + 3) ls st σ) : G Γ M N pc ls (.int x :: st) σ :=
  fun p e s m args below meth c A H locs la C hP hD hS hl => lv_if_ne C.1 C.2.1 hd ht (fun q => kt q p e s m args below meth c A H locs la C hP hD hS hl) (fun q => kf q p e s m args below meth c A H locs la C hP hD hS hl)
theorem g_icmp_ne {x y : Int32} {off : Int} (tgt : Nat) (hd : decode M.2.1 pc = .ok (.if_icmp .ne off, 3)) (ht : (pc : Int) + off = (tgt : Int)) (kt : ¬ x = y → G Γ M N tgt ls st σ) (kf : x = y → G Γ M N (pc + 3) ls st σ) : G Γ M N pc ls (.int y :: .int x :: st) σ :=
  fun p e s m args below meth c A H locs la C hP hD hS hl => lv_icmp_ne C.1 C.2.1 hd ht (fun q => kt q p e s m args below meth c A H locs la C hP hD hS hl) (fun q => kf q p e s m args below meth c A H locs la C hP hD hS hl)
theorem g_if_lt {x : Int32} {off : Int} (tgt : Nat) (hd : decode M.2.1 pc = .ok (.ifCond .lt off, 3)) (ht : (pc : Int) + off = (tgt : Int)) (kt : x < 0 → G Γ M N tgt ls st σ) (kf : ¬ x < 0 → G Γ M N (pc + 3) ls st σ) : G Γ M N pc ls (.int x :: st) σ :=
  fun p e s m args below meth c A H locs la C hP hD hS hl => lv_if_lt C.1 C.2.1 hd ht (fun q => kt q p e s m args below meth c A H locs la C hP hD hS hl) (fun q => kf q p e s m args below meth c A H locs la C hP hD hS hl)
theorem g_icmp_lt {x y : Int32} {off : Int} (tgt : Nat) (hd : decode M.2.1 pc = .ok (.if_icmp .lt off, 3)) (ht : (pc : Int) + off = (tgt : Int)) (kt : x < y → G Γ M N tgt ls st σ) (kf : ¬ x < y → G Γ M N (pc + 3) ls st σ) : G Γ M N pc ls (.int y :: .int x :: st) σ :=
  fun p e s m args below meth c A H locs la C hP hD hS hl => lv_icmp_lt C.1 C.2.1 hd ht (fun q => kt q p e s m args below meth c A H locs la C hP hD hS hl) (fun q => kf q p e s m args below meth c A H locs la C hP hD hS hl)
theorem g_if_ge {x : Int32} {off : Int} (tgt : Nat) (hd : decode M.2.1 pc = .ok (.ifCond .ge off, 3)) (ht : (pc : Int) + off = (tgt : Int)) (kt : 0 ≤ x → G Γ M N tgt ls st σ) (kf : ¬ 0 ≤ x → G Γ M N (pc + 3) ls st σ) : G Γ M N pc ls (.int x :: st) σ :=
  fun p e s m args below meth c A H locs la C hP hD hS hl => lv_if_ge C.1 C.2.1 hd ht (fun q => kt q p e s m args below meth c A H locs la C hP hD hS hl) (fun q => kf q p e s m args below meth c A H locs la C hP hD hS hl)
theorem g_icmp_ge {x y : Int32} {off : Int} (tgt : Nat) (hd : decode M.2.1 pc = .ok (.if_icmp .ge off, 3)) (ht : (pc : Int) + off = (tgt : Int)) (kt : y ≤ x → G Γ M N tgt ls st σ) (kf : ¬ y ≤ x → G Γ M N (pc + 3) ls st σ) : G Γ M N pc ls (.int y :: .int x :: st) σ :=
  fun p e s m args below meth c A H locs la C hP hD hS hl => lv_icmp_ge C.1 C.2.1 hd ht (fun q => kt q p e s m args below meth c A H locs la C hP hD hS hl) (fun q => kf q p e s m args below meth c A H locs la C hP hD hS hl)
theorem g_if_gt {x : Int32} {off : Int} (tgt : Nat) (hd : decode M.2.1 pc = .ok (.ifCond .gt off, 3)) (ht : (pc : Int) + off = (tgt : Int)) (kt : 0 < x → G Γ M N tgt ls st σ) (kf : ¬ 0 < x → G Γ M N (pc + 3) ls st σ) : G Γ M N pc ls (.int x :: st) σ :=
  fun p e s m args below meth c A H locs la C hP hD hS hl => lv_if_gt C.1 C.2.1 hd ht (fun q => kt q p e s m args below meth c A H locs la C hP hD hS hl) (fun q => kf q p e s m args below meth c A H locs la C hP hD hS hl)
theorem g_icmp_gt {x y : Int32} {off : Int} (tgt : Nat) (hd : decode M.2.1 pc = .ok (.if_icmp .gt off, 3)) (ht : (pc : Int) + off = (tgt : Int)) (kt : y < x → G Γ M N tgt ls st σ) (kf : ¬ y < x → G Γ M N (pc + 3) ls st σ) : G Γ M N pc ls (.int y :: .int x :: st) σ :=
  fun p e s m args below meth c A H locs la C hP hD hS hl => lv_icmp_gt C.1 C.2.1 hd ht (fun q => kt q p e s m args below meth c A H locs la C hP hD hS hl) (fun q => kf q p e s m args below meth c A H locs la C hP hD hS hl)
theorem g_if_le {x : Int32} {off : Int} (tgt : Nat) (hd : decode M.2.1 pc = .ok (.ifCond .le off, 3)) (ht : (pc : Int) + off = (tgt : Int)) (kt : x ≤ 0 → G Γ M N tgt ls st σ) (kf : ¬ x ≤ 0 → G Γ M N (pc + 3) ls st σ) : G Γ M N pc ls (.int x :: st) σ :=
  fun p e s m args below meth c A H locs la C hP hD hS hl => lv_if_le C.1 C.2.1 hd ht (fun q => kt q p e s m args below meth c A H locs la C hP hD hS hl) (fun q => kf q p e s m args below meth c A H locs la C hP hD hS hl)
theorem g_icmp_le {x y : Int32} {off : Int} (tgt : Nat) (hd : decode M.2.1 pc = .ok (.if_icmp .le off, 3)) (ht : (pc : Int) + off = (tgt : Int)) (kt : x ≤ y → G Γ M N tgt ls st σ) (kf : ¬ x ≤ y → G Γ M N (pc + 3) ls st σ) : G Γ M N pc ls (.int y :: .int x :: st) σ :=
  fun p e s m args below meth c A H locs la C hP hD hS hl => lv_icmp_le C.1 C.2.1 hd ht (fun q => kt q p e s m args below meth c A H locs la C hP hD hS hl) (fun q => kf q p e s m args below meth c A H locs la C hP hD hS hl)
theorem g_lcmp_eq {x y : Int64} {off : Int} (tgt : Nat) (hd0 : decode M.2.1 pc = .ok (.lcmp, 1)) (hd : decode M.2.1 (pc + 1) = .ok (.ifCond .eq off, 3)) (ht : ((pc + 1 : Nat) : Int) + off = (tgt : Int)) (kt : x = y → G Γ M N tgt ls st σ) (kf : ¬ x = y → G Γ M N (pc + 1 + 3) ls st σ) : G Γ M N pc ls (.long y :: .long x :: st) σ :=
  fun p e s m args below meth c A H locs la C hP hD hS hl => W.lcmp C.1 C.2.1 hd0 (lv_if_eq C.1 C.2.1 hd ht (fun q => kt ((lg_cmp_eq x y).mp q) p e s m args below meth c A H locs la C hP hD hS hl) (fun q => kf (fun z => q ((lg_cmp_eq x y).mpr z)) p e s m args below meth c A H locs la C hP hD hS hl))
theorem g_lcmp_lt {x y : Int64} {off : Int} (tgt : Nat) (hd0 : decode M.2.1 pc = .ok (.lcmp, 1)) (hd : decode M.2.1 (pc + 1) = .ok (.ifCond .lt off, 3)) (ht : ((pc + 1 : Nat) : Int) + off = (tgt : Int)) (kt : x < y → G Γ M N tgt ls st σ) (kf : ¬ x < y → G Γ M N (pc + 1 + 3) ls st σ) : G Γ M N pc ls (.long y :: .long x :: st) σ :=
  fun p e s m args below meth c A H locs la C hP hD hS hl => W.lcmp C.1 C.2.1 hd0 (lv_if_lt C.1 C.2.1 hd ht (fun q => kt ((lg_cmp_lt x y).mp q) p e s m args below meth c A H locs la C hP hD hS hl) (fun q => kf (fun z => q ((lg_cmp_lt x y).mpr z)) p e s m args below meth c A H locs la C hP hD hS hl))
theorem g_lcmp_ge {x y : Int64} {off : Int} (tgt : Nat) (hd0 : decode M.2.1 pc = .ok (.lcmp, 1)) (hd : decode M.2.1 (pc + 1) = .ok (.ifCond .ge off, 3)) (ht : ((pc + 1 : Nat) : Int) + off = (tgt : Int)) (kt : y ≤ x → G Γ M N tgt ls st σ) (kf : ¬ y ≤ x → G Γ M N (pc + 1 + 3) ls st σ) : G Γ M N pc ls (.long y :: .long x :: st) σ :=
  fun p e s m args below meth c A H locs la C hP hD hS hl => W.lcmp C.1 C.2.1 hd0 (lv_if_ge C.1 C.2.1 hd ht (fun q => kt ((lg_cmp_ge x y).mp q) p e s m args below meth c A H locs la C hP hD hS hl) (fun q => kf (fun z => q ((lg_cmp_ge x y).mpr z)) p e s m args below meth c A H locs la C hP hD hS hl))
theorem g_lcmp_gt {x y : Int64} {off : Int} (tgt : Nat) (hd0 : decode M.2.1 pc = .ok (.lcmp, 1)) (hd : decode M.2.1 (pc + 1) = .ok (.ifCond .gt off, 3)) (ht : ((pc + 1 : Nat) : Int) + off = (tgt : Int)) (kt : y < x → G Γ M N tgt ls st σ) (kf : ¬ y < x → G Γ M N (pc + 1 + 3) ls st σ) : G Γ M N pc ls (.long y :: .long x :: st) σ :=
  fun p e s m args below meth c A H locs la C hP hD hS hl => W.lcmp C.1 C.2.1 hd0 (lv_if_gt C.1 C.2.1 hd ht (fun q => kt ((lg_cmp_gt x y).mp q) p e s m args below meth c A H locs la C hP hD hS hl) (fun q => kf (fun z => q ((lg_cmp_gt x y).mpr z)) p e s m args below meth c A H locs la C hP hD hS hl))
theorem g_lcmp_le {x y : Int64} {off : Int} (tgt : Nat) (hd0 : decode M.2.1 pc = .ok (.lcmp, 1)) (hd : decode M.2.1 (pc + 1) = .ok (.ifCond .le off, 3)) (ht : ((pc + 1 : Nat) : Int) + off = (tgt : Int)) (kt : x ≤ y → G Γ M N tgt ls st σ) (kf : ¬ x ≤ y → G Γ M N (pc + 1 + 3) ls st σ) : G Γ M N pc ls (.long y :: .long x :: st) σ :=
  fun p e s m args below meth c A H locs la C hP hD hS hl => W.lcmp C.1 C.2.1 hd0 (lv_if_le C.1 C.2.1 hd ht (fun q => kt ((lg_cmp_le x y).mp q) p e s m args below meth c A H locs la C hP hD hS hl) (fun q => kf (fun z => q ((lg_cmp_le x y).mpr z)) p e s m args below meth c A H locs la C hP hD hS hl))
theorem g_lcmp_ne {x y : Int64} {off : Int} (tgt : Nat) (hd0 : decode M.2.1 pc = .ok (.lcmp, 1)) (hd : decode M.2.1 (pc + 1) = .ok (.ifCond .ne off, 3)) (ht : ((pc + 1 : Nat) : Int) + off = (tgt : Int)) (kt : ¬ x = y → G Γ M N tgt ls st σ) (kf : x = y → G Γ M N (pc + 1 + 3) ls st σ) : G Γ M N pc ls (.long y :: .long x :: st) σ :=
  fun p e s m args below meth c A H locs la C hP hD hS hl => W.lcmp C.1 C.2.1 hd0 (lv_if_ne C.1 C.2.1 hd ht (fun q => kt (fun z => q ((lg_cmp_eq x y).mpr z)) p e s m args below meth c A H locs la C hP hD hS hl) (fun q => kf ((lg_cmp_eq x y).mp q) p e s m args below meth c A H locs la C hP hD hS hl))
theorem sw_out {x : Int32} (n : Nat) (h : ∀ k, k ≤ n → ¬ x = nI k) : x.toInt < 0 ∨ (n : Int) < x.toInt := by
  rcases Int.lt_or_le x.toInt 0 with h0 | h0
  · exact Or.inl h0
  · rcases Int.lt_or_le (n : Int) x.toInt with h1 | h1
    · exact Or.inr h1
    · exfalso
      have hlt : x.toInt < 2 ^ 31 := by have := Int32.toInt_lt x; simpa using this
      obtain ⟨k, hk⟩ := Int.eq_ofNat_of_zero_le h0
      refine h k (by omega) (Int32.toInt_inj.mp ?_)
      rw [nI_toInt (by omega), hk]
theorem g_tswK {dflt lo hi : Int} {offs : Array Int} {len : Nat} {x : Int32} {off : Int} (kk : Int32) (tgt : Nat) (hd : decode M.2.1 pc = .ok (.tableswitch dflt lo hi offs, len)) (hx : x = kk) (h1 : ¬ kk.toInt < lo) (h2 : ¬ hi < kk.toInt) (ho : offs[(kk.toInt - lo).toNat]? = some off) (ht : (pc : Int) + off = (tgt : Int)) (k : G Γ M N tgt ls st σ) : G Γ M N pc ls (.int x :: st) σ := by
  subst hx
  exact fun p e s m args below meth c A H locs la C hP hD hS hl => lv_tableIn C.1 C.2.1 hd h1 h2 ho ht (k p e s m args below meth c A H locs la C hP hD hS hl)
theorem g_tswD {dflt lo hi : Int} {offs : Array Int} {len : Nat} {x : Int32} (tgt : Nat) (hd : decode M.2.1 pc = .ok (.tableswitch dflt lo hi offs, len)) (hx : x.toInt < lo ∨ hi < x.toInt) (ht : (pc : Int) + dflt = (tgt : Int)) (k : G Γ M N tgt ls st σ) : G Γ M N pc ls (.int x :: st) σ :=
  fun p e s m args below meth c A H locs la C hP hD hS hl => lv_tableOut C.1 C.2.1 hd hx ht (k p e s m args below meth c A H locs la C hP hD hS hl)
theorem g_lsw {dflt : Int} {ps : Array (Int × Int)} {len : Nat} {x : Int32} {off : Int} (tgt : Nat) (hd : decode M.2.1 pc = .ok (.lookupswitch dflt ps, len)) (hp : (ps.toList.zip (ps.toList.drop 1)).all (fun (a, next) => a.1 < next.1) = true) (ho : Op.lookupswitch.offset ps.toList dflt x.toInt = off) (ht : (pc : Int) + off = (tgt : Int)) (k : G Γ M N tgt ls st σ) : G Γ M N pc ls (.int x :: st) σ :=
  fun p e s m args below meth c A H locs la C hP hD hS hl => lv_lookup C.1 C.2.1 hd hp ho ht (k p e s m args below meth c A H locs la C hP hD hS hl)
/-- kinds of cells -/
def fI (a ci k : Nat) : Prop := a < 44 ∧ ∀ (Γ : GT) (f : Nat → Int32) (g : Nat → Int64), ∃ fs : List Value, cel Γ a f g = .inr (ci, fs) ∧ fs[k]? = some (.int (f k))
def fR (a ci k b : Nat) : Prop := a < 44 ∧ ∀ (Γ : GT) (f : Nat → Int32) (g : Nat → Int64), ∃ fs : List Value, cel Γ a f g = .inr (ci, fs) ∧ fs[k]? = some (rf Γ b)
def fP (a ci k : Nat) : Prop := a < 44 ∧ ∀ (Γ : GT) (f : Nat → Int32) (g : Nat → Int64) (v : Int32), ∃ fs : List Value, cel Γ a f g = .inr (ci, fs) ∧ k < fs.length ∧ cel Γ a (upd f k v) g = .inr (ci, fs.set k (.int v))
def aI (a n : Nat) : Prop := a < 44 ∧ ∀ (Γ : GT) (f : Nat → Int32) (g : Nat → Int64), cel Γ a f g = ciN Γ n f
def aJ (a n : Nat) : Prop := a < 44 ∧ ∀ (Γ : GT) (f : Nat → Int32) (g : Nat → Int64), cel Γ a f g = cjN Γ n g
def aZ (a n : Nat) : Prop := a < 44 ∧ ∀ (Γ : GT) (f : Nat → Int32) (g : Nat → Int64), cel Γ a f g = czN Γ n f
def rc (a : Nat) (C : String) : Prop := a < 44 ∧ ∃ (ci : Nat) (r : vw_C), vwCl[ci]? = some r ∧ r.1 = C ∧ ∀ (Γ : GT) (f : Nat → Int32) (g : Nat → Int64), ∃ fs : List Value, cel Γ a f g = .inr (ci, fs)
def FL (own : String) (idx ci k : Nat) : Prop := ∃ (C : String) (T : u_T) (Nn : Nat), vwCl[ci]? = some (C, T, Nn) ∧ k < Nn ∧ Cond.fieldLink own idx (T k).1 (T k).2.1 (T k).2.2.1 ∈ gt ∧ ∀ w ∈ u_ws C T Nn, w ∈ gt
def FP (own : String) (idx ci k : Nat) : Prop := ∃ (C : String) (T : u_T) (Nn : Nat) (ty0 : Nat → FieldType), vwCl[ci]? = some (C, T, Nn) ∧ k < Nn ∧ Cond.fieldLink own idx (T k).1 (T k).2.1 (T k).2.2.1 ∈ gt ∧ (∀ w ∈ u_ws C T Nn, w ∈ gt) ∧ (∀ k, k < Nn → parseFieldDescriptor (T k).2.2.1 = some (ty0 k)) ∧ (∀ a, a < Nn → ∀ b, b < Nn → a ≠ b → (T a).2.1 ≠ (T b).2.1) ∧ (T k).2.2.2 = false ∧ parseFieldDescriptor (T k).2.2.1 = some .int
theorem g_getI {idx : Nat} (a ci k : Nat) (hc : fI a ci k) (hf : FL M.1.cls idx ci k) (hd : decode M.2.1 pc = .ok (.getfield idx, 3)) (kk : G Γ M N (pc + 3) ls (.int (σ.1 a k) :: st) σ) : G Γ M N pc ls (rf Γ a :: st) σ := by
  intro p e s m args below meth c A H locs la C hP hD hS hl
  obtain ⟨ha, hc⟩ := hc
  obtain ⟨fs, e1, e2⟩ := hc Γ (σ.1 a) (σ.2 a)
  obtain ⟨Cn, T, Nn, h1, h2, h3, h4⟩ := hf
  exact va_get C.1 C.2.1 (Ts := gt) C.2.2.2.2.2.1 h4 C.2.2.2.2.1 C.2.2.2.2.2.2.2.1 hP a (by rw [wO_at ha, e1]) h1 k h2 (C.2.2.2.2.2.1 _ h3) (fun _ h => h) e2 hd (kk p e s m args below meth c A H locs la C hP hD hS hl)
theorem g_getR {idx : Nat} (a ci k b : Nat) (hc : fR a ci k b) (hf : FL M.1.cls idx ci k) (hd : decode M.2.1 pc = .ok (.getfield idx, 3)) (kk : G Γ M N (pc + 3) ls (rf Γ b :: st) σ) : G Γ M N pc ls (rf Γ a :: st) σ := by
  intro p e s m args below meth c A H locs la C hP hD hS hl
  obtain ⟨ha, hc⟩ := hc
  obtain ⟨fs, e1, e2⟩ := hc Γ (σ.1 a) (σ.2 a)
  obtain ⟨Cn, T, Nn, h1, h2, h3, h4⟩ := hf
  exact va_get C.1 C.2.1 (Ts := gt) C.2.2.2.2.2.1 h4 C.2.2.2.2.1 C.2.2.2.2.2.2.2.1 hP a (by rw [wO_at ha, e1]) h1 k h2 (C.2.2.2.2.2.1 _ h3) (fun _ h => h) e2 hd (kk p e s m args below meth c A H locs la C hP hD hS hl)
theorem g_put {idx : Nat} {v : Int32} (a ci k : Nat) (hc : fP a ci k) (hf : FP M.1.cls idx ci k) (hd : decode M.2.1 pc = .ok (.putfield idx, 3)) (kk : G Γ M N (pc + 3) ls st (sI σ a k v)) : G Γ M N pc ls (.int v :: rf Γ a :: st) σ := by
  intro p e s m args below meth c A H locs la C hP hD hS hl
  obtain ⟨ha, hc⟩ := hc
  obtain ⟨fs, e1, e2, e3⟩ := hc Γ (σ.1 a) (σ.2 a) v
  obtain ⟨Cn, T, Nn, ty0, h1, h2, h3, h4, h5, h6, h7, h8⟩ := hf
  refine va_put (v := .int v) (ty := .int) C.1 C.2.1 (Ts := gt) C.2.2.2.2.2.1 h4 ty0 h5 h6 C.2.2.2.2.1 C.2.2.2.2.2.2.2.1 hP hD hS a (by rw [wO_at ha, e1]) h1 k h2 (C.2.2.2.2.2.1 _ h3) (fun _ h => h) h7 h8 rfl rfl e2 hd (fun H1 locs1 hP1 hD1 hS1 => ?_)
  have ee : (wO Γ σ).set a (Γ.2.2.2 a, .inr (ci, fs.set k (.int v))) = wO Γ (sI σ a k v) := by rw [← e3]; exact wO_sF
  rw [ee] at hP1
  exact kk p e s m args below meth c A H1 locs1 la C hP1 (wO_D hD) hS1 hl
theorem g_iald {i : Int32} (a n : Nat) (hc : aI a n) (hin : vp_in i n) (hd : decode M.2.1 pc = .ok (.iaload, 1)) (kk : G Γ M N (pc + 1) ls (.int (σ.1 a i.toNatClampNeg) :: st) σ) : G Γ M N pc ls (.int i :: rf Γ a :: st) σ :=
  fun p e s m args below meth c A H locs la C hP hD hS hl => va_iald C.1 C.2.1 C.2.2.2.2.2.2.2.1 hP a 0 (by rw [wO_at hc.1, hc.2]; rfl) rfl hin hd (kk p e s m args below meth c A H locs la C hP hD hS hl)
theorem g_zald {i : Int32} (a n : Nat) (hc : aZ a n) (hin : vp_in i n) (hd : decode M.2.1 pc = .ok (.baload, 1)) (kk : G Γ M N (pc + 1) ls (.int (σ.1 a i.toNatClampNeg) :: st) σ) : G Γ M N pc ls (.int i :: rf Γ a :: st) σ :=
  fun p e s m args below meth c A H locs la C hP hD hS hl => va_zald C.1 C.2.1 C.2.2.2.2.2.2.2.1 hP a 2 (by rw [wO_at hc.1, hc.2]; rfl) rfl hin hd (kk p e s m args below meth c A H locs la C hP hD hS hl)
theorem g_lald {i : Int32} (a n : Nat) (hc : aJ a n) (hin : vp_in i n) (hd : decode M.2.1 pc = .ok (.laload, 1)) (kk : G Γ M N (pc + 1) ls (.long (σ.2 a i.toNatClampNeg) :: st) σ) : G Γ M N pc ls (.int i :: rf Γ a :: st) σ :=
  fun p e s m args below meth c A H locs la C hP hD hS hl => va_lald C.1 C.2.1 C.2.2.2.2.2.2.2.1 hP a 1 (by rw [wO_at hc.1, hc.2]; rfl) rfl hin hd (kk p e s m args below meth c A H locs la C hP hD hS hl)
theorem g_aald {i : Int32} (hin : vp_in i 4) (hd : decode M.2.1 pc = .ok (.aaload, 1)) (kk : G Γ M N (pc + 1) ls (rf Γ (17 + i.toNatClampNeg) :: st) σ) : G Γ M N pc ls (.int i :: rf Γ 16 :: st) σ :=
  fun p e s m args below meth c A H locs la C hP hD hS hl => va_aldq (f := fun i => some (Γ.2.2.2 (17 + i))) C.1 C.2.1 C.2.2.2.2.2.2.2.1 hP 16 3 (by rw [wO_at (by decide)]; rfl) rfl hin hd (kk p e s m args below meth c A H locs la C hP hD hS hl)
theorem g_iast {i x : Int32} (a n : Nat) (hc : aI a n) (hin : vp_in i n) (hd : decode M.2.1 pc = .ok (.iastore, 1)) (kk : G Γ M N (pc + 1) ls st (sI σ a i.toNatClampNeg x)) : G Γ M N pc ls (.int x :: .int i :: rf Γ a :: st) σ := by
  intro p e s m args below meth c A H locs la C hP hD hS hl
  refine va_iast C.1 C.2.1 C.2.2.2.2.2.2.2.1 hP hD hS a 0 (f := σ.1 a) (by rw [wO_at hc.1, hc.2]; rfl) rfl hin hd (fun H1 locs1 hP1 hD1 hS1 => ?_)
  have ee : (wO Γ σ).set a (Γ.2.2.2 a, ciN Γ n (upd (σ.1 a) i.toNatClampNeg x)) = wO Γ (sI σ a i.toNatClampNeg x) := by rw [← hc.2 Γ _ (σ.2 a)]; exact wO_sF
  have hP2 : va_P Γ.2.1 vwCl ((wO Γ σ).set a (Γ.2.2.2 a, ciN Γ n (upd (σ.1 a) i.toNatClampNeg x))) H1 := hP1
  rw [ee] at hP2
  exact kk p e s m args below meth c A H1 locs1 la C hP2 (wO_D hD) hS1 hl
theorem g_zast {i x : Int32} (a n : Nat) (hc : aZ a n) (hin : vp_in i n) (hd : decode M.2.1 pc = .ok (.bastore, 1)) (kk : G Γ M N (pc + 1) ls st (sI σ a i.toNatClampNeg (vp_nar .boolean x))) : G Γ M N pc ls (.int x :: .int i :: rf Γ a :: st) σ := by
  intro p e s m args below meth c A H locs la C hP hD hS hl
  refine va_zast C.1 C.2.1 C.2.2.2.2.2.2.2.1 hP hD hS a 2 (f := σ.1 a) (by rw [wO_at hc.1, hc.2]; rfl) rfl hin hd (fun H1 locs1 hP1 hD1 hS1 => ?_)
  have ee : (wO Γ σ).set a (Γ.2.2.2 a, czN Γ n (upd (σ.1 a) i.toNatClampNeg (vp_nar .boolean x))) = wO Γ (sI σ a i.toNatClampNeg (vp_nar .boolean x)) := by rw [← hc.2 Γ _ (σ.2 a)]; exact wO_sF
  have hP2 : va_P Γ.2.1 vwCl ((wO Γ σ).set a (Γ.2.2.2 a, czN Γ n (upd (σ.1 a) i.toNatClampNeg (vp_nar .boolean x)))) H1 := hP1
  rw [ee] at hP2
  exact kk p e s m args below meth c A H1 locs1 la C hP2 (wO_D hD) hS1 hl
theorem g_last {i : Int32} {x : Int64} (a n : Nat) (hc : aJ a n) (hin : vp_in i n) (hd : decode M.2.1 pc = .ok (.lastore, 1)) (kk : G Γ M N (pc + 1) ls st (sJ σ a i.toNatClampNeg x)) : G Γ M N pc ls (.long x :: .int i :: rf Γ a :: st) σ := by
  intro p e s m args below meth c A H locs la C hP hD hS hl
  refine va_last C.1 C.2.1 C.2.2.2.2.2.2.2.1 hP hD hS a 1 (f := σ.2 a) (by rw [wO_at hc.1, hc.2]; rfl) rfl hin hd (fun H1 locs1 hP1 hD1 hS1 => ?_)
  have ee : (wO Γ σ).set a (Γ.2.2.2 a, cjN Γ n (vp_updL (σ.2 a) i.toNatClampNeg x)) = wO Γ (sJ σ a i.toNatClampNeg x) := by rw [← hc.2 Γ (σ.1 a) _]; exact wO_sG
  have hP2 : va_P Γ.2.1 vwCl ((wO Γ σ).set a (Γ.2.2.2 a, cjN Γ n (vp_updL (σ.2 a) i.toNatClampNeg x))) H1 := hP1
  rw [ee] at hP2
  exact kk p e s m args below meth c A H1 locs1 la C hP2 (wO_D hD) hS1 hl
theorem nfw : nativeFrameWords "java/lang/System" "arraycopy" 5 = 7 := by decide +kernel
theorem g_copy {idx n : Nat} {k sp dp : Int32} (a0 a1 n0 n1 : Nat) (h0 : aI a0 n0) (h1 : aI a1 n1) (hl : Cond.methodLink M.1.cls idx arraycopyName ∈ gt) (hw : Cond.native arraycopyName ∈ gt ∧ Cond.static arraycopyName ∈ gt ∧ Cond.initialized "java/lang/System" ∈ gt) (hR : rmOk n N) (hn : 1 ≤ n) (hst : (st.map fun v => v.category).sum ≤ 8) (hd : decode M.2.1 pc = .ok (.invokestatic idx, 3))
    (q : ¬ sp < 0 ∧ ¬ dp < 0 ∧ ¬ k < 0 ∧ sp.toNatClampNeg + k.toNatClampNeg ≤ n0 ∧ dp.toNatClampNeg + k.toNatClampNeg ≤ n1) (kk : G Γ M N (pc + 3) ls st (sF σ a1 (va_cpy (σ.1 a0) (σ.1 a1) sp.toNatClampNeg dp.toNatClampNeg k.toNatClampNeg))) : G Γ M N pc ls (.int k :: .int dp :: rf Γ a1 :: .int sp :: rf Γ a0 :: st) σ := by
  intro p e s m args below meth c A H locs la C hP hD hS hl9
  obtain ⟨q1, q2, q3, q4, q5⟩ := q
  obtain ⟨r1, r2, r3, r4⟩ := hR
  refine va_copyi (ty := .int) (f := σ.1 a0) (g := σ.1 a1) C.1 C.2.1 (C.2.2.2.1.trans hl9.1.symm) C.2.2.2.2.1 (C.2.2.2.2.2.1 _ hl) (C.2.2.2.2.2.1 _ hw.1) (C.2.2.2.2.2.1 _ hw.2.1) (C.2.2.2.2.2.1 _ hw.2.2) C.2.2.2.2.2.2.2.1 hP hD hS a0 a1 0 0 (by rw [wO_at h0.1, h0.2]; rfl) (by rw [wO_at h1.1, h1.2]; rfl) rfl rfl rfl q1 q2 q3 q4 q5 (fun _ _ => rfl) (by omega) (by rw [nfw]; omega) hd (fun H1 locs1 hP1 hD1 hS1 => ?_)
  have ee : (wO Γ σ).set a1 (Γ.2.2.2 a1, ciN Γ n1 (va_cpy (σ.1 a0) (σ.1 a1) sp.toNatClampNeg dp.toNatClampNeg k.toNatClampNeg)) = wO Γ (sF σ a1 (va_cpy (σ.1 a0) (σ.1 a1) sp.toNatClampNeg dp.toNatClampNeg k.toNatClampNeg)) := by rw [← h1.2 Γ _ (σ.2 a1)]; exact wO_sF
  have hP2 : va_P Γ.2.1 vwCl ((wO Γ σ).set a1 (Γ.2.2.2 a1, ciN Γ n1 (va_cpy (σ.1 a0) (σ.1 a1) sp.toNatClampNeg dp.toNatClampNeg k.toNatClampNeg))) H1 := hP1
  rw [ee] at hP2
  exact kk p e s m args below meth c A H1 locs1 la C hP2 (wO_D hD) hS1 hl9

theorem g_mmin {idx n : Nat} {x y : Int32} (hl : Cond.methodLink M.1.cls idx Lib.Math.min.name ∈ gt) (hw : Cond.static Lib.Math.min.name ∈ gt ∧ Cond.initialized "java/lang/Math" ∈ gt ∧ Cond.code Lib.Math.min.name Lib.Math.min.code 2 (some .int) ∈ gt) (hR : rmOk n N) (hn : 1 ≤ n) (hst : (st.map fun v => v.category).sum ≤ 8) (hd : decode M.2.1 pc = .ok (.invokestatic idx, 3)) (kk : G Γ M N (pc + 3) ls (.int (if y < x then y else x) :: st) σ) : G Γ M N pc ls (.int y :: .int x :: st) σ := by
  intro p e s m args below meth c A H locs la C hP hD hS hl9
  obtain ⟨r1, r2, r3, r4⟩ := hR
  exact va_mmin C.1 C.2.1 (C.2.2.2.1.trans hl9.1.symm) C.2.2.2.2.1 (C.2.2.2.2.2.1 _ hl) (C.2.2.2.2.2.1 _ hw.1) (C.2.2.2.2.2.1 _ hw.2.1) (C.2.2.2.2.2.1 _ hw.2.2) (by omega) (by omega) r3 r4 hd (kk p e s m args below meth c A H locs la C hP hD hS hl9)
theorem g_mmax {idx n : Nat} {x y : Int32} (hl : Cond.methodLink M.1.cls idx Lib.Math.max.name ∈ gt) (hw : Cond.static Lib.Math.max.name ∈ gt ∧ Cond.initialized "java/lang/Math" ∈ gt ∧ Cond.code Lib.Math.max.name Lib.Math.max.code 2 (some .int) ∈ gt) (hR : rmOk n N) (hn : 1 ≤ n) (hst : (st.map fun v => v.category).sum ≤ 8) (hd : decode M.2.1 pc = .ok (.invokestatic idx, 3)) (kk : G Γ M N (pc + 3) ls (.int (if x < y then y else x) :: st) σ) : G Γ M N pc ls (.int y :: .int x :: st) σ := by
  intro p e s m args below meth c A H locs la C hP hD hS hl9
  obtain ⟨r1, r2, r3, r4⟩ := hR
  exact va_mmax C.1 C.2.1 (C.2.2.2.1.trans hl9.1.symm) C.2.2.2.2.1 (C.2.2.2.2.2.1 _ hl) (C.2.2.2.2.2.1 _ hw.1) (C.2.2.2.2.2.1 _ hw.2.1) (C.2.2.2.2.2.1 _ hw.2.2) (by omega) (by omega) r3 r4 hd (kk p e s m args below meth c A H locs la C hP hD hS hl9)
theorem g_mmaxl {idx n : Nat} {x y : Int64} (hl : Cond.methodLink M.1.cls idx Lib.MathLoose.max_long.x ∈ gt) (hw : Cond.static Lib.MathLoose.max_long.x ∈ gt ∧ Cond.initialized "java/lang/Math" ∈ gt ∧ Cond.code Lib.MathLoose.max_long.x Lib.MathLoose.max_long.code 4 (some .long) ∈ gt) (hR : rmOk n N) (hn : 1 ≤ n) (hst : (st.map fun v => v.category).sum ≤ 8) (hd : decode M.2.1 pc = .ok (.invokestatic idx, 3)) (kk : G Γ M N (pc + 3) ls (.long (if y < x then x else y) :: st) σ) : G Γ M N pc ls (.long y :: .long x :: st) σ := by
  intro p e s m args below meth c A H locs la C hP hD hS hl9
  obtain ⟨r1, r2, r3, r4⟩ := hR
  exact va_mmax_long C.1 C.2.1 (C.2.2.2.1.trans hl9.1.symm) C.2.2.2.2.1 (C.2.2.2.2.2.1 _ hl) (C.2.2.2.2.2.1 _ hw.1) (C.2.2.2.2.2.1 _ hw.2.1) (C.2.2.2.2.2.1 _ hw.2.2) (by omega) (by omega) r3 r4 hd (kk p e s m args below meth c A H locs la C hP hD hS hl9)
theorem x_call {p : Program} {l : Launch} {e : Env} {R : Room} {s : State} {m : MethodId} {args : Array Value} {below : List Frame} {meth : Method} {c : Code} {H : Heap} {locs : List Loc} {cells slots : Nat} {Q : State → Prop} {Q0 : Option Value → St → Prop} {A0 A1 : Nat → Prop} {H0 : Heap} {la : Array Slot} {rest st0 : List Value} {a : Array Value}
    (hr : va_Run p l e R s m args below meth c H locs cells slots 0 0 (F0 m pc la st0) rest (Qcc Γ Q0 A1 a) A1) (hS : va_S A0 H0 H locs) (hA : ∀ q, A1 q → A0 q)
    (kk : ∀ (v : Option Value) (τ : St) (H1 : Heap) (locs1 : List Loc), Q0 v τ → va_P Γ.2.1 vwCl (wO Γ τ) H1 → va_S A0 H0 H1 locs1 → W p l e R s m args below meth c H1 locs1 cells slots Q (F0 m (pc + 3) la (v.toList ++ rest))) : W p l e R s m args below meth c H locs cells slots Q (F0 m pc la st0) := by
  intro T hT X
  obtain ⟨v, st₀, t, T', L, h0, X', hL, e1, e2, ⟨⟨v', τ, hv, hq, hb⟩, hz, hk⟩, st⟩ := hr T hT X
  cases hv
  rw [h0] at hz hk
  obtain ⟨t2, a1, b1⟩ := kk v τ T'.heap (locs ++ L) hq (by rw [e1]; exact hb)
    ⟨Nat.le_trans hS.1 (by rw [e1]; exact hz), fun q h1 h2 => by rw [e1, hk q (Nat.lt_of_lt_of_le h1 hS.1) (fun z => h2 (hA q z))]; exact hS.2.1 q h1 h2, fun q hq => by
      rcases List.mem_append.mp hq with h | h
      · exact hS.2.2 q h
      · exact hA _ (hL q h)⟩ T' rfl X'
  exact ⟨t2, st t2 a1, b1⟩
def OkV (M' : MD) (np : Nat) : Prop := Cond.code M'.1 M'.2.1 M'.2.2.1 M'.2.2.2 ∈ gt ∧ Cond.instanceMethod M'.1 ∈ gt ∧ Cond.selects M'.1.cls M'.1 M'.1 ∈ gt ∧ Cond.initialized M'.1.cls ∈ gt ∧ (M'.1.cls ≠ "java/lang/invoke/MethodHandle" ∧ M'.1.cls ≠ "java/lang/invoke/VarHandle" ∧ (parseMethodDescriptor M'.1.desc).map (fun d => d.parameters.length) = some np) ∧ M'.2.2.1 ≤ 11
def OkS (M' : MD) (np : Nat) : Prop := Cond.code M'.1 M'.2.1 M'.2.2.1 M'.2.2.2 ∈ gt ∧ Cond.static M'.1 ∈ gt ∧ Cond.initialized M'.1.cls ∈ gt ∧ (M'.1.cls ≠ "java/lang/invoke/MethodHandle" ∧ M'.1.cls ≠ "java/lang/invoke/VarHandle" ∧ (parseMethodDescriptor M'.1.desc).map (fun d => d.parameters.length) = some np) ∧ M'.2.2.1 ≤ 11
theorem wsM_good {M' : MD} (h : Cond.code M'.1 M'.2.1 M'.2.2.1 M'.2.2.2 ∈ gt) : GoodIn gt (wsM M') := fun w hw => (List.mem_cons.mp hw).elim (fun e => gt_good w (by rw [e]; exact h)) (fun h => gt_good w h)
theorem A_sub {s : State} {A : Nat → Prop} {H : Heap} {locs : List Loc} (hD : va_D A (wO Γ σ)) (hS : va_S A s.heap H locs) (hA : ∀ q, s.heap.size ≤ q → A q) : ∀ q, va_A (wO Γ σ) H.size q → A q := by
  intro q h
  rcases h with ⟨k, e, h⟩ | h
  · exact hD.2 k _ h
  · exact hA q (Nat.le_trans hS.1 h)
theorem g_callV {M' : MD} {np n n' idx a : Nat} {stk As : List Value} {Q0 : Option Value → St → Prop} (hd : decode M.2.1 pc = .ok (.invokevirtual idx, 3)) (hl : Cond.methodLink M.1.cls idx M'.1 ∈ gt) (ok : OkV M' np) (hlen : As.length = np) (hR : rmOk n N) (hn : n' + 1 ≤ n) (hrc : rc a M'.1.cls) (hrest : (st.map fun v => v.category).sum ≤ 8) (hst : stk = As.reverse ++ rf Γ a :: st) (hc : Ct Γ M' n' (rf Γ a :: As) σ Q0) (kk : ∀ v τ, Q0 v τ → G Γ M N (pc + 3) ls (v.toList ++ st) τ) : G Γ M N pc ls stk σ := by
  subst hst
  intro p e s m args below meth c A H locs la C hP hD hS hl9
  obtain ⟨r1, r2, r3, r4⟩ := hR
  obtain ⟨o1, o2, o3, o4, o5, o6⟩ := ok
  obtain ⟨ha, ci, r, q1, q2, q3⟩ := hrc
  obtain ⟨fs, q4⟩ := q3 Γ (σ.1 a) (σ.2 a)
  have hts := C.2.2.2.2.2.1
  have cb : CallB N.1 s args M.1.cls idx M'.1 M'.2.1 M'.2.2.1 M'.2.2.2 (wsM M') (rmN n') 0 0 np := callB_of (Ts := gt) np hts (wsM_good o1) rfl rfl rfl (hts _ o4) (hts _ hl) o5 ⟨by show n' + 1 ≤ _; omega, by show 8 + (M'.2.2.1 + 11) + 30 * n' ≤ _; omega⟩
  have hsub := A_sub hD hS C.2.2.2.2.2.2.2.2.1
  refine x_call (va_runV (C := M'.1.cls) (As := As) (rest := st) (b := Γ.2.2.2 a) ⟨C.1, C.2.1, C.2.2.2.1, C.2.2.2.2.1, hts⟩ (hc H.size) ⟨cb, hts _ o2, hts _ o3⟩ ⟨fun a U g mk q => ?_, ?_, fun U hU hW => ⟨rfl, by rw [hU], by rw [hU]; exact hP, va_K.moved hW.alike C.2.2.2.2.2.2.2.1, hD.weaken (fun _ _ _ _ => trivial)⟩⟩ rfl hlen hl9.1 rfl (lv_room hrest) hd ⟨r3, r4⟩) hS hsub (fun v τ H1 locs1 hq hP1 hS1 => kk v τ hq p e s m args below meth c A H1 locs1 la C hP1 (wO_D hD) hS1 hl9)
  · obtain ⟨z0, z1, zP, zK, zD⟩ := q
    exact ⟨z0, z1, zP, va_K.moved (u := U) (U := U.calling g mk a) (Vm.Alike.refl U.vm) zK, zD⟩
  · obtain ⟨cell, w1, w2, w3⟩ := va_recv (a := Γ.2.2.2 a) C.2.2.2.2.2.2.2.1 hP q1 (q0 := a) (fs := fs) (by rw [wO_at ha, q4])
    exact ⟨cell, w1, w2, by rw [← q2]; exact w3⟩
theorem g_callS {M' : MD} {np n n' idx : Nat} {stk As : List Value} {Q0 : Option Value → St → Prop} (hd : decode M.2.1 pc = .ok (.invokestatic idx, 3)) (hl : Cond.methodLink M.1.cls idx M'.1 ∈ gt) (ok : OkS M' np) (hlen : As.length = np) (hR : rmOk n N) (hn : n' + 1 ≤ n) (hrest : (st.map fun v => v.category).sum ≤ 8) (hst : stk = As.reverse ++ st) (hc : Ct Γ M' n' As σ Q0) (kk : ∀ v τ, Q0 v τ → G Γ M N (pc + 3) ls (v.toList ++ st) τ) : G Γ M N pc ls stk σ := by
  subst hst
  intro p e s m args below meth c A H locs la C hP hD hS hl9
  obtain ⟨r1, r2, r3, r4⟩ := hR
  obtain ⟨o1, o2, o4, o5, o6⟩ := ok
  have hts := C.2.2.2.2.2.1
  have cb : CallB N.1 s args M.1.cls idx M'.1 M'.2.1 M'.2.2.1 M'.2.2.2 (wsM M') (rmN n') 0 0 np := callB_of (Ts := gt) np hts (wsM_good o1) rfl rfl rfl (hts _ o4) (hts _ hl) o5 ⟨by show n' + 1 ≤ _; omega, by show 8 + (M'.2.2.1 + 11) + 30 * n' ≤ _; omega⟩
  have hsub := A_sub hD hS C.2.2.2.2.2.2.2.2.1
  refine x_call (va_runS (As := As) (rest := st) ⟨C.1, C.2.1, C.2.2.2.1, C.2.2.2.2.1, hts⟩ (hc H.size) ⟨cb, hts _ o2⟩ ⟨fun a U g mk q => ?_, fun U hU hW => ⟨rfl, by rw [hU], by rw [hU]; exact hP, va_K.moved hW.alike C.2.2.2.2.2.2.2.1, hD.weaken (fun _ _ _ _ => trivial)⟩⟩ rfl hlen hl9.1 rfl (lv_room hrest) hd ⟨r3, r4⟩) hS hsub (fun v τ H1 locs1 hq hP1 hS1 => kk v τ hq p e s m args below meth c A H1 locs1 la C hP1 (wO_D hD) hS1 hl9)
  obtain ⟨z0, z1, zP, zK, zD⟩ := q
  exact ⟨z0, z1, zP, va_K.moved (u := U) (U := U.calling g mk a) (Vm.Alike.refl U.vm) zK, zD⟩
abbrev NI (Γ : GT) (n : Nat) (Q : Int32 → St → Prop) : NT := NM Γ n (fun v τ => ∃ r : Int32, v = some (.int r) ∧ Q r τ)
abbrev NJ (Γ : GT) (n : Nat) (Q : Int64 → St → Prop) : NT := NM Γ n (fun v τ => ∃ r : Int64, v = some (.long r) ∧ Q r τ)
abbrev NV (Γ : GT) (n : Nat) (Q : St → Prop) : NT := NM Γ n (fun v τ => v = none ∧ Q τ)
theorem g_iret {n : Nat} {Q : Int32 → St → Prop} {v : Int32} (hr : M.2.2.2 = some .int) (hd : decode M.2.1 pc = .ok (.ireturn, 1)) (hq : Q v σ) : G Γ M (NI Γ n Q) pc ls [.int v] σ :=
  fun p e s m args below meth c A H locs la C hP hD hS hl => W.iret C.1 C.2.1 (C.2.2.1.trans hr) (fun t ht hW => ⟨⟨_, σ, rfl, ⟨v, rfl, hq⟩, by rw [ht]; exact hP⟩, hS.F ht⟩) hS.2.2 hd C.2.2.2.2.2.2.1
theorem z_nar {v : Int32} (h : v = 0 ∨ v = 1) : narrow .boolean (.int v) = .int v := by rcases h with rfl | rfl <;> rfl
theorem g_zret {n : Nat} {Q : Int32 → St → Prop} {v : Int32} (hr : M.2.2.2 = some .boolean) (hd : decode M.2.1 pc = .ok (.ireturn, 1)) (hv : v = 0 ∨ v = 1) (hq : Q v σ) : G Γ M (NI Γ n Q) pc ls [.int v] σ :=
  fun p e s m args below meth c A H locs la C hP hD hS hl => W.zret C.1 C.2.1 (C.2.2.1.trans hr) (z_nar hv) (fun t ht hW => ⟨⟨_, σ, rfl, ⟨v, rfl, hq⟩, by rw [ht]; exact hP⟩, hS.F ht⟩) hS.2.2 hd C.2.2.2.2.2.2.1
theorem g_lret {n : Nat} {Q : Int64 → St → Prop} {v : Int64} (hr : M.2.2.2 = some .long) (hd : decode M.2.1 pc = .ok (.lreturn, 1)) (hq : Q v σ) : G Γ M (NJ Γ n Q) pc ls [.long v] σ :=
  fun p e s m args below meth c A H locs la C hP hD hS hl => W.lret C.1 C.2.1 (C.2.2.1.trans hr) (fun t ht hW => ⟨⟨_, σ, rfl, ⟨v, rfl, hq⟩, by rw [ht]; exact hP⟩, hS.F ht⟩) hS.2.2 hd C.2.2.2.2.2.2.1
theorem g_vret {n : Nat} {Q : St → Prop} (hr : M.2.2.2 = none) (hd : decode M.2.1 pc = .ok (.return_, 1)) (hq : Q σ) : G Γ M (NV Γ n Q) pc ls [] σ :=
  fun p e s m args below meth c A H locs la C hP hD hS hl => W.vret C.1 C.2.1 (C.2.2.1.trans hr) (fun t ht hW => ⟨⟨_, σ, rfl, ⟨rfl, hq⟩, by rw [ht]; exact hP⟩, hS.F ht⟩) hS.2.2 hd C.2.2.2.2.2.2.1
theorem g_slen {b L : Nat} {xs : Nat → Int32} (hE : ∀ s A, N.2.2.2.2 s A → va_X b L xs s s.heap ∧ b < s.heap.size ∧ ¬ A b) (hd : decode M.2.1 pc = .ok (.arraylength, 1)) (kk : G Γ M N (pc + 1) ls (.int (nI L) :: st) σ) : G Γ M N pc ls (.ref b :: st) σ := by
  intro p e s m args below meth c A H locs la C hP hD hS hl
  obtain ⟨h1, h2, h3⟩ := hE s A C.2.2.2.2.2.2.2.2.2
  exact va_slen C.1 C.2.1 h1 h2 h3 hS hd (kk p e s m args below meth c A H locs la C hP hD hS hl)
theorem g_sld {b L : Nat} {xs : Nat → Int32} {i : Int32} (hE : ∀ s A, N.2.2.2.2 s A → va_X b L xs s s.heap ∧ b < s.heap.size ∧ ¬ A b) (hin : vp_in i L) (hd : decode M.2.1 pc = .ok (.iaload, 1)) (kk : G Γ M N (pc + 1) ls (.int (xs i.toNatClampNeg) :: st) σ) : G Γ M N pc ls (.int i :: .ref b :: st) σ := by
  intro p e s m args below meth c A H locs la C hP hD hS hl
  obtain ⟨h1, h2, h3⟩ := hE s A C.2.2.2.2.2.2.2.2.2
  exact va_sld C.1 C.2.1 h1 h2 h3 hS hin hd (kk p e s m args below meth c A H locs la C hP hD hS hl)
end ROWS
