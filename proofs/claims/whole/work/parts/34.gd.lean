/-! a world that grows: the judgement GD, the contract of a constructor CtD -/
def CxD (Γ : GT) (M : MD) (N : NT) (p : Program) (s : State) (m : MethodId) (args : Array Value) (meth : Method) (c : Code) (A : Nat → Prop) : Prop := Cx Γ M N p s m args meth c A ∧ (M.1.name = "<init>" → meth.name = "<init>")
def GD (Γ : GT) (M : MD) (N : NT) (kc ks pc : Nat) (ls : List (Nat × Value)) (st : List Value) (ws : va_W) : Prop :=
  ∀ (p : Program) (e : Env) (s : State) (m : MethodId) (args : Array Value) (below : List Frame) (meth : Method) (c : Code) (A : Nat → Prop) (H : Heap) (locs : List Loc) (la : Array Slot),
    CxD Γ M N p s m args meth c A → va_P Γ.2.1 vwCl ws H → va_D A ws → va_S A s.heap H locs → lv_has la M.2.2.1 ls →
    W p Γ.1 e N.1 s m args below meth c H locs kc ks (N.2.2.2.1 below args s A) (F0 m pc la st)
abbrev rmC (n mc ms : Nat) : Room := { frames := n, cells := mc, slots := ms, locals := 30 * n }
def BcD (Γ : GT) (A : Nat → Prop) : va_W → State → Prop := fun w1 t => va_P Γ.2.1 vwCl w1 t.heap ∧ va_D A w1
abbrev ND (Γ : GT) (n mc ms : Nat) (Q : va_W → Prop) : NT := (rmC n mc ms, mc, ms, fun below args s A => MQ below (va_Qv Q (BcD Γ A) A) args s mc ms A, fun s _ => va_AO RX2 s)
def PcD (Γ : GT) (args : List Value) (wc : va_W) (sz : Nat) : Array Value → State → Prop := va_Pc args (fun U => U.heap.size = sz ∧ va_P Γ.2.1 vwCl wc U.heap ∧ va_K Γ.2.1 vwCl (tyO Γ) U ∧ va_D (fun _ => True) wc ∧ va_AO RX2 U)
/-- a constructor: from the cells wc it comes to the cells w1, of which Q holds; mc cells and ms slots more -/
def CtD (Γ : GT) (M : MD) (n mc ms : Nat) (args : List Value) (wc : va_W) (Q : va_W → Prop) : Prop :=
  ∀ sz : Nat, Met Γ.1 M.1 (wsM M) (rmC n mc ms) (PcD Γ args wc sz) (va_Qv Q (BcD Γ (va_A wc sz)) (va_A wc sz)) mc ms (va_A wc sz)
theorem ctD_of {Γ : GT} {M : MD} {n mc ms : Nat} {args : List Value} {wc : va_W} {Q : va_W → Prop} (hy : plainName M.1.cls = true) (hn : (lg_sl args).length ≤ M.2.2.1) (h : GD Γ M (ND Γ n mc ms Q) 0 0 0 (lv_args 0 args) [] wc) : CtD Γ M n mc ms args wc Q := by
  intro sz
  refine Met.ofW (cc := M.2.1) (maxL := M.2.2.1) (ret := M.2.2.2) hy rfl ?_
  intro p e s m args' below meth c s₁ B hml hv
  obtain ⟨rfl, hsz, hP, hK, hD0, hao⟩ := hv
  have hts := atoms_spec (ws := wsM M) B.pre
  have hown : s.vm.findClass M.1.cls = some m.cls := findClass_of_methodNamed B.named
  have hin : M.1.name = "<init>" → meth.name = "<init>" := fun h => by rw [(name_of_methodNamed B.named B.method).1]; exact h
  subst hsz
  have hl := lv_entry args (n := M.2.2.1) hn
  rw [lg_entry_eq]
  exact h p e s m _ below meth c (va_A wc s.heap.size) s.heap [] _ ⟨⟨B.exec, B.bytes, B.returns, hml, hown, fun w hw => hts w (List.mem_cons_of_mem _ hw), B.notSynchronized, hK, fun q hq => Or.inr hq, hao⟩, hin⟩ hP hD0.self va_S.rf hl
theorem fm_map {α : Type} {f : Nat → Option α} {l : List α} : ∀ {is : List Nat}, is.map f = l.map some → is.filterMap f = l := by
  induction l with
  | nil => intro is h; cases is with | nil => rfl | cons a is => cases h
  | cons x l ih =>
    intro is h
    cases is with
    | nil => cases h
    | cons a is =>
      injection h with h1 h2
      rw [List.filterMap_cons, h1, ih h2]
section GDROWS
variable {Γ : GT} {M : MD} {N : NT} {kc ks pc : Nat} {ls : List (Nat × Value)} {st : List Value} {ws : va_W}
theorem gd_pm {ls' : List (Nat × Value)} (ii : List Nat) (h : lv_pick ls ii = ls') (k : GD Γ M N kc ks pc ls' st ws) : GD Γ M N kc ks pc ls st ws :=
  fun p e s m args below meth c A H locs la C hP hD hS hl => k p e s m args below meth c A H locs la C hP hD hS (lv_sub hl ii h)
theorem gd_iconst {n : Int} (v : Int32) (hd : decode M.2.1 pc = .ok (.iconst n, 1)) (hv : Int32.ofInt n = v) (k : GD Γ M N kc ks (pc + 1) ls (.int v :: st) ws) : GD Γ M N kc ks pc ls st ws :=
  fun p e s m args below meth c A H locs la C hP hD hS hl => lv_iconst C.1.1 C.1.2.1 hd hv (k p e s m args below meth c A H locs la C hP hD hS hl)
theorem gd_bipush {n : Int} (v : Int32) (hd : decode M.2.1 pc = .ok (.bipush n, 2)) (hv : (Int8.ofInt n).toInt32 = v) (k : GD Γ M N kc ks (pc + 2) ls (.int v :: st) ws) : GD Γ M N kc ks pc ls st ws :=
  fun p e s m args below meth c A H locs la C hP hD hS hl => lv_bipush C.1.1 C.1.2.1 hd hv (k p e s m args below meth c A H locs la C hP hD hS hl)
theorem gd_sipush {n : Int} (v : Int32) (hd : decode M.2.1 pc = .ok (.sipush n, 3)) (hv : (Int16.ofInt n).toInt32 = v) (k : GD Γ M N kc ks (pc + 3) ls (.int v :: st) ws) : GD Γ M N kc ks pc ls st ws :=
  fun p e s m args below meth c A H locs la C hP hD hS hl => lv_sipush C.1.1 C.1.2.1 hd hv (k p e s m args below meth c A H locs la C hP hD hS hl)
theorem gd_iload_n {k : Fin 4} {i : Nat} {x : Int32} (hd : decode M.2.1 pc = .ok (.iload_n k, 1)) (hi : (k : Nat) = i) (j : Nat) (hj : ls[j]? = some (i, .int x)) (kk : GD Γ M N kc ks (pc + 1) ls (.int x :: st) ws) : GD Γ M N kc ks pc ls st ws :=
  fun p e s m args below meth c A H locs la C hP hD hS hl => lv_iload_n C.1.1 C.1.2.1 hd hi (lv_at hl j hj) (kk p e s m args below meth c A H locs la C hP hD hS hl)
theorem gd_aload_n {k : Fin 4} {i : Nat} {x : Nat} (hd : decode M.2.1 pc = .ok (.aload_n k, 1)) (hi : (k : Nat) = i) (j : Nat) (hj : ls[j]? = some (i, .ref x)) (kk : GD Γ M N kc ks (pc + 1) ls (.ref x :: st) ws) : GD Γ M N kc ks pc ls st ws :=
  fun p e s m args below meth c A H locs la C hP hD hS hl => lv_aload_n C.1.1 C.1.2.1 hd hi (lv_at hl j hj) (kk p e s m args below meth c A H locs la C hP hD hS hl)
theorem gd_istore_n {k : Fin 4} {i : Nat} {x : Int32} (lv' : List (Nat × Value)) (hd : decode M.2.1 pc = .ok (.istore_n k, 1)) (hi : (k : Nat) = i) (hn : i < M.2.2.1) (hl' : (i, Value.int x) :: ls.filter (fun q => !(q.1 == i) && !(q.1 + 1 == i && q.2.category == 2)) = lv') (kk : GD Γ M N kc ks (pc + 1) lv' st ws) : GD Γ M N kc ks pc ls (.int x :: st) ws :=
  fun p e s m args below meth c A H locs la C hP hD hS hl => lv_istore_n C.1.1 C.1.2.1 hd hi hl hn hl' (fun la hl => kk p e s m args below meth c A H locs la C hP hD hS hl)
theorem gd_astore_n {k : Fin 4} {i : Nat} {x : Nat} (lv' : List (Nat × Value)) (hd : decode M.2.1 pc = .ok (.astore_n k, 1)) (hi : (k : Nat) = i) (hn : i < M.2.2.1) (hl' : (i, Value.ref x) :: ls.filter (fun q => !(q.1 == i) && !(q.1 + 1 == i && q.2.category == 2)) = lv') (kk : GD Γ M N kc ks (pc + 1) lv' st ws) : GD Γ M N kc ks pc ls (.ref x :: st) ws :=
  fun p e s m args below meth c A H locs la C hP hD hS hl => lv_astore_n C.1.1 C.1.2.1 hd hi hl hn hl' (fun la hl => kk p e s m args below meth c A H locs la C hP hD hS hl)
theorem gd_iinc {i : Nat} {n : Int} {x : Int32} (v : Int32) (lv' : List (Nat × Value)) (hd : decode M.2.1 pc = .ok (.iinc i n, 3)) (j : Nat) (hj : ls[j]? = some (i, .int x)) (hv : Int32.ofInt n = v) (hn : i < M.2.2.1) (hl' : (i, Value.int (x + v)) :: ls.filter (fun q => !(q.1 == i) && !(q.1 + 1 == i && q.2.category == 2)) = lv') (kk : GD Γ M N kc ks (pc + 3) lv' st ws) : GD Γ M N kc ks pc ls st ws :=
  fun p e s m args below meth c A H locs la C hP hD hS hl => lv_iinc C.1.1 C.1.2.1 hd hl hj (by rw [hv]) hn hl' (fun la hl => kk p e s m args below meth c A H locs la C hP hD hS hl)
theorem gd_iadd {x y : Int32} (hd : decode M.2.1 pc = .ok (.iadd, 1)) (k : GD Γ M N kc ks (pc + 1) ls (.int (x + y) :: st) ws) : GD Γ M N kc ks pc ls (.int y :: .int x :: st) ws :=
  fun p e s m args below meth c A H locs la C hP hD hS hl => lv_iadd C.1.1 C.1.2.1 hd (k p e s m args below meth c A H locs la C hP hD hS hl)
theorem gd_imul {x y : Int32} (hd : decode M.2.1 pc = .ok (.imul, 1)) (k : GD Γ M N kc ks (pc + 1) ls (.int (x * y) :: st) ws) : GD Γ M N kc ks pc ls (.int y :: .int x :: st) ws :=
  fun p e s m args below meth c A H locs la C hP hD hS hl => lv_imul C.1.1 C.1.2.1 hd (k p e s m args below meth c A H locs la C hP hD hS hl)
theorem gd_dup {v : Value} (hd : decode M.2.1 pc = .ok (.dup, 1)) (hv : v.category = 1) (k : GD Γ M N kc ks (pc + 1) ls (v :: v :: st) ws) : GD Γ M N kc ks pc ls (v :: st) ws :=
  fun p e s m args below meth c A H locs la C hP hD hS hl => lv_dup C.1.1 C.1.2.1 hd hv (k p e s m args below meth c A H locs la C hP hD hS hl)
theorem gd_goto {off : Int} (tgt : Nat) (hd : decode M.2.1 pc = .ok (.goto off, 3)) (ht : (pc : Int) + off = (tgt : Int)) (k : GD Γ M N kc ks tgt ls st ws) : GD Γ M N kc ks pc ls st ws :=
  fun p e s m args below meth c A H locs la C hP hD hS hl => lv_goto C.1.1 C.1.2.1 hd ht (k p e s m args below meth c A H locs la C hP hD hS hl)
theorem gd_icmp_ge {x y : Int32} {off : Int} (tgt : Nat) (hd : decode M.2.1 pc = .ok (.if_icmp .ge off, 3)) (ht : (pc : Int) + off = (tgt : Int)) (kt : y ≤ x → GD Γ M N kc ks tgt ls st ws) (kf : ¬ y ≤ x → GD Γ M N kc ks (pc + 3) ls st ws) : GD Γ M N kc ks pc ls (.int y :: .int x :: st) ws :=
  fun p e s m args below meth c A H locs la C hP hD hS hl => lv_icmp_ge C.1.1 C.1.2.1 hd ht (fun q => kt q p e s m args below meth c A H locs la C hP hD hS hl) (fun q => kf q p e s m args below meth c A H locs la C hP hD hS hl)
theorem gd_icmp_ne {x y : Int32} {off : Int} (tgt : Nat) (hd : decode M.2.1 pc = .ok (.if_icmp .ne off, 3)) (ht : (pc : Int) + off = (tgt : Int)) (kt : ¬ x = y → GD Γ M N kc ks tgt ls st ws) (kf : x = y → GD Γ M N kc ks (pc + 3) ls st ws) : GD Γ M N kc ks pc ls (.int y :: .int x :: st) ws :=
  fun p e s m args below meth c A H locs la C hP hD hS hl => lv_icmp_ne C.1.1 C.1.2.1 hd ht (fun q => kt q p e s m args below meth c A H locs la C hP hD hS hl) (fun q => kf q p e s m args below meth c A H locs la C hP hD hS hl)
theorem gd_perm {ws' : va_W} (is : List Nat) (hn : va_nd is = true) (hs : is.map (fun i => ws[i]?) = ws'.map some) (k : GD Γ M N kc ks pc ls st ws') : GD Γ M N kc ks pc ls st ws :=
  fun p e s m args below meth c A H locs la C hP hD hS hl => k p e s m args below meth c A H locs la C (hP.sub is (fm_map hs)) (hD.sub is hn hs) hS hl
theorem gd_wid {k n : Nat} (h1 : kc ≤ k) (h2 : ks ≤ n) (kk : GD Γ M N k n pc ls st ws) : GD Γ M N kc ks pc ls st ws :=
  fun p e s m args below meth c A H locs la C hP hD hS hl => W.widen h1 h2 (kk p e s m args below meth c A H locs la C hP hD hS hl)
theorem gd_vret {n mc ms : Nat} {Q : va_W → Prop} (hr : M.2.2.2 = none) (hd : decode M.2.1 pc = .ok (.return_, 1)) (h1 : kc ≤ mc) (h2 : ks ≤ ms) (hq : Q ws) : GD Γ M (ND Γ n mc ms Q) kc ks pc ls [] ws :=
  fun p e s m args below meth c A H locs la C hP hD hS hl => W.widen (k := mc) (n := ms) h1 h2 (W.vret C.1.1 C.1.2.1 (C.1.2.2.1.trans hr) (fun t ht hW => ⟨⟨ws, rfl, hq, by rw [ht]; exact hP, hD⟩, hS.F ht⟩) hS.2.2 hd C.1.2.2.2.2.2.2.1)
theorem gd_get {idx a q0 ci k : Nat} {fs : List Value} {v : Value} (he : ws[q0]? = some (a, .inr (ci, fs))) (hv : fs[k]? = some v) (hf : FL M.1.cls idx ci k) (hd : decode M.2.1 pc = .ok (.getfield idx, 3)) (kk : GD Γ M N kc ks (pc + 3) ls (v :: st) ws) : GD Γ M N kc ks pc ls (.ref a :: st) ws := by
  intro p e s m args below meth c A H locs la C hP hD hS hl
  obtain ⟨Cn, T, Nn, h1, h2, h3, h4⟩ := hf
  exact va_get C.1.1 C.1.2.1 (Ts := gt) C.1.2.2.2.2.2.1 h4 C.1.2.2.2.2.1 C.1.2.2.2.2.2.2.2.1 hP q0 he h1 k h2 (C.1.2.2.2.2.2.1 _ h3) (fun _ h => h) hv hd (kk p e s m args below meth c A H locs la C hP hD hS hl)
/-- a field that a method may write -/
def FW (own : String) (idx ci k : Nat) (fin : Bool) (ty : FieldType) : Prop := ∃ (C : String) (T : u_T) (Nn : Nat) (ty0 : Nat → FieldType), vwCl[ci]? = some (C, T, Nn) ∧ k < Nn ∧ Cond.fieldLink own idx (T k).1 (T k).2.1 (T k).2.2.1 ∈ gt ∧ (∀ w ∈ u_ws C T Nn, w ∈ gt) ∧ (∀ k, k < Nn → parseFieldDescriptor (T k).2.2.1 = some (ty0 k)) ∧ (∀ a, a < Nn → ∀ b, b < Nn → a ≠ b → (T a).2.1 ≠ (T b).2.1) ∧ (T k).2.2.2 = fin ∧ parseFieldDescriptor (T k).2.2.1 = some ty ∧ (T k).1 = own
theorem gd_put {idx a q0 ci k : Nat} {fs : List Value} {v : Value} {ty : FieldType} (he : ws[q0]? = some (a, .inr (ci, fs))) (hl0 : k < fs.length) (hf : FW M.1.cls idx ci k false ty) (hn : narrow ty v = v) (hfit : fits ty v = true) (hd : decode M.2.1 pc = .ok (.putfield idx, 3)) (kk : GD Γ M N kc ks (pc + 3) ls st (ws.set q0 (a, .inr (ci, fs.set k v)))) : GD Γ M N kc ks pc ls (v :: .ref a :: st) ws := by
  intro p e s m args below meth c A H locs la C hP hD hS hl
  obtain ⟨Cn, T, Nn, ty0, h1, h2, h3, h4, h5, h6, h7, h8, h9⟩ := hf
  exact va_put (v := v) (ty := ty) C.1.1 C.1.2.1 (Ts := gt) C.1.2.2.2.2.2.1 h4 ty0 h5 h6 C.1.2.2.2.2.1 C.1.2.2.2.2.2.2.2.1 hP hD hS q0 he h1 k h2 (C.1.2.2.2.2.2.1 _ h3) (fun _ h => h) h7 h8 hn hfit hl0 hd (fun H1 locs1 hP1 hD1 hS1 => kk p e s m args below meth c A H1 locs1 la C hP1 hD1 hS1 hl)
theorem gd_putF {idx a q0 ci k : Nat} {fs : List Value} {v : Value} {ty : FieldType} (hM : M.1.name = "<init>") (he : ws[q0]? = some (a, .inr (ci, fs))) (hl0 : k < fs.length) (hf : FW M.1.cls idx ci k true ty) (hn : narrow ty v = v) (hfit : fits ty v = true) (hd : decode M.2.1 pc = .ok (.putfield idx, 3)) (kk : GD Γ M N kc ks (pc + 3) ls st (ws.set q0 (a, .inr (ci, fs.set k v)))) : GD Γ M N kc ks pc ls (v :: .ref a :: st) ws := by
  intro p e s m args below meth c A H locs la C hP hD hS hl
  obtain ⟨Cn, T, Nn, ty0, h1, h2, h3, h4, h5, h6, h7, h8, h9⟩ := hf
  exact va_putF (v := v) (ty := ty) C.1.1 C.1.2.1 (Ts := gt) C.1.2.2.2.2.2.1 h4 ty0 h5 h6 C.1.2.2.2.2.1 C.1.2.2.2.2.2.2.2.1 hP hD hS q0 he h1 k h2 (C.1.2.2.2.2.2.1 _ h3) (fun _ h => h) h7 (C.2 hM) h9 h8 hn hfit hl0 hd (fun H1 locs1 hP1 hD1 hS1 => kk p e s m args below meth c A H1 locs1 la C hP1 hD1 hS1 hl)
theorem gd_iast {a q0 n : Nat} {i x : Int32} {f : Nat → Int32} (ha : ws[q0]? = some (a, ciN Γ n f)) (hin : vp_in i n) (hd : decode M.2.1 pc = .ok (.iastore, 1)) (kk : GD Γ M N kc ks (pc + 1) ls st (ws.set q0 (a, ciN Γ n (upd f i.toNatClampNeg x)))) : GD Γ M N kc ks pc ls (.int x :: .int i :: .ref a :: st) ws :=
  fun p e s m args below meth c A H locs la C hP hD hS hl => va_iast C.1.1 C.1.2.1 C.1.2.2.2.2.2.2.2.1 hP hD hS q0 0 (f := f) ha rfl hin hd (fun H1 locs1 hP1 hD1 hS1 => kk p e s m args below meth c A H1 locs1 la C hP1 hD1 hS1 hl)
theorem gd_zast {a q0 n : Nat} {i x : Int32} {f : Nat → Int32} (ha : ws[q0]? = some (a, czN Γ n f)) (hin : vp_in i n) (hd : decode M.2.1 pc = .ok (.bastore, 1)) (kk : GD Γ M N kc ks (pc + 1) ls st (ws.set q0 (a, czN Γ n (upd f i.toNatClampNeg (vp_nar .boolean x))))) : GD Γ M N kc ks pc ls (.int x :: .int i :: .ref a :: st) ws :=
  fun p e s m args below meth c A H locs la C hP hD hS hl => va_zast C.1.1 C.1.2.1 C.1.2.2.2.2.2.2.2.1 hP hD hS q0 2 (f := f) ha rfl hin hd (fun H1 locs1 hP1 hD1 hS1 => kk p e s m args below meth c A H1 locs1 la C hP1 hD1 hS1 hl)
def csN (Γ : GT) (f : Nat → Option Nat) : va_E := .inl (Γ.2.2.1.2.2.2, 4, .inr (.inr (.inr (.inr f))))
theorem gd_astq {a q0 qk v : Nat} {i : Int32} {f : Nat → Option Nat} {vs : List Value} (ha : ws[q0]? = some (a, csN Γ f)) (hv : ws[qk]? = some (v, .inr (2, vs))) (hin : vp_in i 4) (hd : decode M.2.1 pc = .ok (.aastore, 1)) (kk : GD Γ M N kc ks (pc + 1) ls st (ws.set q0 (a, csN Γ (va_up f i.toNatClampNeg (some v))))) : GD Γ M N kc ks pc ls (.ref v :: .int i :: .ref a :: st) ws :=
  fun p e s m args below meth c A H locs la C hP hD hS hl => va_astq (r := (RX2, TX2, 3)) C.1.1 C.1.2.1 C.1.2.2.2.2.2.2.2.1 hP hD hS q0 3 qk 2 (f := f) ha rfl hv rfl hin hd (fun H1 locs1 hP1 hD1 hS1 => kk p e s m args below meth c A H1 locs1 la C hP1 hD1 hS1 hl)
theorem gd_new {idx ci Nn : Nat} {Cn : String} {T : u_T} {fs : List Value} (ty : Nat → FieldType) (hc : vwCl[ci]? = some (Cn, T, Nn)) (hws : ∀ w ∈ u_ws Cn T Nn, w ∈ gt) (hty : ∀ k, k < Nn → parseFieldDescriptor (T k).2.2.1 = some (ty k)) (h1 : Cond.classLink M.1.cls idx Cn ∈ gt) (h2 : Cond.instantiable Cn Nn ∈ gt) (h3 : Cond.initialized Cn ∈ gt) (hfs : ∀ j, j < Nn → defaultValue (ty j) = vp_V fs j) (r1 : kc + 1 ≤ N.1.cells) (r2 : ks + Nn ≤ N.1.slots) (hd : decode M.2.1 pc = .ok (.new idx, 3)) (kk : ∀ q, GD Γ M N (kc + 1) (ks + Nn) (pc + 3) ls (.ref q :: st) (ws ++ [(q, .inr (ci, fs))])) : GD Γ M N kc ks pc ls st ws :=
  fun p e s m args below meth c A H locs la C hP hD hS hl => va_new C.1.1 C.1.2.1 (Ts := gt) C.1.2.2.2.2.2.1 hws ty hty C.1.2.2.2.2.1 (C.1.2.2.2.2.2.1 _ h1) (C.1.2.2.2.2.2.1 _ h2) (C.1.2.2.2.2.2.1 _ h3) C.1.2.2.2.2.2.2.2.1 hP hD hS C.1.2.2.2.2.2.2.2.2.1 hc hfs r1 r2 hd (fun q H1 hP1 hD1 hS1 => kk q p e s m args below meth c A H1 locs la C hP1 hD1 hS1 hl)
theorem gd_newI {n : Int32} {n' : Nat} (h1 : Cond.arrayClass .int ∈ gt) (hn : ¬ n < 0) (hN : n.toNatClampNeg = n') (hb : n' ≤ 1000) (r1 : kc + 1 ≤ N.1.cells) (r2 : ks + n' ≤ N.1.slots) (hd : decode M.2.1 pc = .ok (.newarray .int, 2)) (kk : ∀ q, GD Γ M N (kc + 1) (ks + n') (pc + 2) ls (.ref q :: st) (ws ++ [(q, ciN Γ n' (fun _ => 0))])) : GD Γ M N kc ks pc ls (.int n :: st) ws := by
  intro p e s m args below meth c A H locs la C hP hD hS hl
  have hK := C.1.2.2.2.2.2.2.2.1
  refine va_newa (atype := .int) (ty := .int) (a0 := (n', .inl (fun _ => 0))) C.1.1 C.1.2.1 (C.1.2.2.2.2.2.1 _ h1) rfl hK hP hD hS C.1.2.2.2.2.2.2.2.2.1 (fun cA => rfl) hn hN (by show n' * 4 ≤ _; omega) r1 r2 hd (fun q cA H1 hK1 hP1 hD1 hS1 => ?_)
  have e1 : s.vm.findClass ("[" ++ FieldType.int.toString) = some cA := (hK1.2 4 (cA, .int) rfl).2
  have e2 : s.vm.findClass ("[" ++ FieldType.int.toString) = some Γ.2.2.1.1 := (hK.2 0 (Γ.2.2.1.1, .int) rfl).2
  have e3 : cA = Γ.2.2.1.1 := Option.some.inj (e1.symm.trans e2)
  subst e3
  exact kk q p e s m args below meth c A H1 locs la C hP1 hD1 hS1 hl
theorem gd_newJ {n : Int32} {n' : Nat} (h1 : Cond.arrayClass .long ∈ gt) (hn : ¬ n < 0) (hN : n.toNatClampNeg = n') (hb : n' ≤ 1000) (r1 : kc + 1 ≤ N.1.cells) (r2 : ks + n' ≤ N.1.slots) (hd : decode M.2.1 pc = .ok (.newarray .long, 2)) (kk : ∀ q, GD Γ M N (kc + 1) (ks + n') (pc + 2) ls (.ref q :: st) (ws ++ [(q, cjN Γ n' (fun _ => 0))])) : GD Γ M N kc ks pc ls (.int n :: st) ws := by
  intro p e s m args below meth c A H locs la C hP hD hS hl
  have hK := C.1.2.2.2.2.2.2.2.1
  refine va_newa (atype := .long) (ty := .long) (a0 := (n', .inr (.inl (fun _ => 0)))) C.1.1 C.1.2.1 (C.1.2.2.2.2.2.1 _ h1) rfl hK hP hD hS C.1.2.2.2.2.2.2.2.2.1 (fun cA => rfl) hn hN (by show n' * 8 ≤ _; omega) r1 r2 hd (fun q cA H1 hK1 hP1 hD1 hS1 => ?_)
  have e1 : s.vm.findClass ("[" ++ FieldType.long.toString) = some cA := (hK1.2 4 (cA, .long) rfl).2
  have e2 : s.vm.findClass ("[" ++ FieldType.long.toString) = some Γ.2.2.1.2.1 := (hK.2 1 (Γ.2.2.1.2.1, .long) rfl).2
  have e3 : cA = Γ.2.2.1.2.1 := Option.some.inj (e1.symm.trans e2)
  subst e3
  exact kk q p e s m args below meth c A H1 locs la C hP1 hD1 hS1 hl
theorem gd_newZ {n : Int32} {n' : Nat} (h1 : Cond.arrayClass .boolean ∈ gt) (hn : ¬ n < 0) (hN : n.toNatClampNeg = n') (hb : n' ≤ 1000) (r1 : kc + 1 ≤ N.1.cells) (r2 : ks + n' ≤ N.1.slots) (hd : decode M.2.1 pc = .ok (.newarray .boolean, 2)) (kk : ∀ q, GD Γ M N (kc + 1) (ks + n') (pc + 2) ls (.ref q :: st) (ws ++ [(q, czN Γ n' (fun _ => 0))])) : GD Γ M N kc ks pc ls (.int n :: st) ws := by
  intro p e s m args below meth c A H locs la C hP hD hS hl
  have hK := C.1.2.2.2.2.2.2.2.1
  refine va_newa (atype := .boolean) (ty := .boolean) (a0 := (n', .inl (fun _ => 0))) C.1.1 C.1.2.1 (C.1.2.2.2.2.2.1 _ h1) rfl hK hP hD hS C.1.2.2.2.2.2.2.2.2.1 (fun cA => rfl) hn hN (by show n' * 1 ≤ _; omega) r1 r2 hd (fun q cA H1 hK1 hP1 hD1 hS1 => ?_)
  have e1 : s.vm.findClass ("[" ++ FieldType.boolean.toString) = some cA := (hK1.2 4 (cA, .boolean) rfl).2
  have e2 : s.vm.findClass ("[" ++ FieldType.boolean.toString) = some Γ.2.2.1.2.2.1 := (hK.2 2 (Γ.2.2.1.2.2.1, .boolean) rfl).2
  have e3 : cA = Γ.2.2.1.2.2.1 := Option.some.inj (e1.symm.trans e2)
  subst e3
  exact kk q p e s m args below meth c A H1 locs la C hP1 hD1 hS1 hl
theorem gd_newq {idx : Nat} (h1 : Cond.classLink M.1.cls idx RX2 ∈ gt) (hE : ∀ s A, N.2.2.2.2 s A → va_AO RX2 s) (r1 : kc + 1 ≤ N.1.cells) (r2 : ks + 4 ≤ N.1.slots) (hd : decode M.2.1 pc = .ok (.anewarray idx, 3)) (kk : ∀ q, GD Γ M N (kc + 1) (ks + 4) (pc + 3) ls (.ref q :: st) (ws ++ [(q, csN Γ (fun _ => none))])) : GD Γ M N kc ks pc ls (.int 4 :: st) ws := by
  intro p e s m args below meth c A H locs la C hP hD hS hl
  have hK := C.1.2.2.2.2.2.2.2.1
  refine va_newq (C := RX2) C.1.1 C.1.2.1 C.1.2.2.2.2.1 (C.1.2.2.2.2.2.1 _ h1) (hE s A C.1.2.2.2.2.2.2.2.2.2) hK hP hD hS C.1.2.2.2.2.2.2.2.2.1 (n := 4) (N' := 4) (by decide) (by decide) (by decide) r1 r2 hd (fun q cA H1 hK1 hP1 hD1 hS1 => ?_)
  obtain ⟨-, -, -, -, -, e1⟩ := (hK1.2 4 (cA, .object RX2) rfl).2
  obtain ⟨-, -, -, -, -, e2⟩ := (hK.2 3 (Γ.2.2.1.2.2.2, .object RX2) rfl).2
  have e3 : cA = Γ.2.2.1.2.2.2 := Option.some.inj (e1.symm.trans e2)
  subst e3
  exact kk q p e s m args below meth c A H1 locs la C hP1 hD1 hS1 hl
end GDROWS
