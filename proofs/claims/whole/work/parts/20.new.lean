/-- constructors: worlds that grow, as lists; the object that is made stands first -/
def ntys (cA : FieldType → ClassId) : List (ClassId × FieldType) := [(cA .int, .int), (cA .byte, .byte), (cA .boolean, .boolean), (cA .long, .long), (cA (.object RX10), .object RX10)]
def nEnv (D : va_G) (cA : FieldType → ClassId) (U : State) : Prop := va_K D gCl (ntys cA) U ∧ va_AO RX10 U
theorem nEnv.moved {D : va_G} {cA : FieldType → ClassId} {u U : State} (hvm : u.vm.Alike U.vm) (h : nEnv D cA u) : nEnv D cA U := ⟨va_K.moved hvm h.1, va_AO.moved hvm h.2⟩
def nAt (l : Launch) (D : va_G) (cA : FieldType → ClassId) (A : Nat → Prop) (M : gM) (Qc : Array Value → State → Outcome → State → Prop) (pc : Nat) (ls : List (Nat × Value)) (st : List Value) (ws : va_W) (cells slots : Nat) : Prop :=
  ∀ (p : Program) (e : Env) (s : State) (m : MethodId) (args : Array Value) (below : List Frame) (meth : Method) (c : Code) (s₁ : State),
    BodyLoose p l M.1 (headSpec (gwsM M) M.2.2.2.2) M.2.1 M.2.2.1 M.2.2.2.1 e s m args below meth c s₁ → c.maxLocals = M.2.2.1 → meth.name = "<init>" → nEnv D cA s → (∀ q, s.heap.size ≤ q → A q) →
    ∀ (H : Heap) (locs : List Loc) (la : Array Slot), lv_has la M.2.2.1 ls → va_P D gCl ws H → va_D A ws → va_S A s.heap H locs →
    W p l e M.2.2.2.2 s m args below meth c H locs cells slots (MQ below Qc args s M.2.2.2.2.cells M.2.2.2.2.slots A) (F0 m pc la st)
def nPc (D : va_G) (cA : FieldType → ClassId) (h0 : Nat) (o : va_E) (sz : Nat) : Array Value → State → Prop := va_Pc [.ref h0] (fun U => U.heap.size = sz ∧ nEnv D cA U ∧ va_P D gCl [(h0, o)] U.heap ∧ va_D (fun _ => True) [(h0, o)])
def nQc (D : va_G) (h0 : Nat) (tm : (Nat → Nat) → va_W) (A : Nat → Prop) : Array Value → State → Outcome → State → Prop := va_Qv (fun q : Nat → Nat => q 0 = h0) (fun q t => va_P D gCl (tm q) t.heap ∧ va_D A (tm q)) A
/-- a constructor's contract -/
def nCt (l : Launch) (D : va_G) (cA : FieldType → ClassId) (M : gM) (o : va_E) (tm : (Nat → Nat) → va_W) : Prop :=
  ∀ h0 sz : Nat, Met l M.1 (gwsM M) M.2.2.2.2 (nPc D cA h0 o sz) (nQc D h0 tm (va_A [(h0, o)] sz)) M.2.2.2.2.cells M.2.2.2.2.slots (va_A [(h0, o)] sz)
/-- a field of an own object, its type, final or not -/
def nFld (own : String) (idx ci k : Nat) (ty : FieldType) (fin : Bool) : Prop :=
  ∃ (T : u_T) (N : Nat) (ty0 : Nat → FieldType), gCl[ci]? = some (own, T, N) ∧ k < N ∧ (∀ w ∈ u_ws own T N, w ∈ gTbl) ∧ Cond.fieldLink own idx own (T k).2.1 (T k).2.2.1 ∈ gTbl ∧ (T k).1 = own ∧ parseFieldDescriptor (T k).2.2.1 = some ty ∧
    (∀ k, k < N → parseFieldDescriptor (T k).2.2.1 = some (ty0 k)) ∧ (∀ a, a < N → ∀ b, b < N → a ≠ b → (T a).2.1 ≠ (T b).2.1) ∧ (T k).2.2.2 = fin
theorem n_join {A0 : Nat → Prop} {D : va_G} {cl : List vw_C} {wr wc w1 : va_W} {H H1 : Heap} (hP : va_P D cl (wr ++ wc) H) (hD : va_D A0 (wr ++ wc))
    (hk : ∀ q : Nat, q < H.size → ¬ va_A wc H.size q → H1[q]? = H[q]?) (hF : ∀ q, va_A wc H.size q → A0 q) (hP1 : va_P D cl w1 H1) (hD1 : va_D (va_A wc H.size) w1) : va_P D cl (wr ++ w1) H1 ∧ va_D A0 (wr ++ w1) := by
  have up : ∀ (k : Nat) (q : Nat × va_E), wr[k]? = some q → (wr ++ wc)[k]? = some q := fun k q hq => by
    rw [List.getElem?_append_left (List.getElem?_eq_some_iff.mp hq).1]; exact hq
  have apart : ∀ (k : Nat) (q : Nat × va_E), wr[k]? = some q → q.1 < H.size ∧ ¬ va_A wc H.size q.1 := by
    intro k q hq
    have hl := (hP k q (up k q hq)).lt
    refine ⟨hl, fun h => ?_⟩
    rcases h with ⟨k2, e, h⟩ | h
    · have h4 : (wr ++ wc)[wr.length + k2]? = some (q.1, e) := by
        rw [List.getElem?_append_right (Nat.le_add_right _ _), Nat.add_sub_cancel_left]; exact h
      have hij := hD.1 k (wr.length + k2) q (q.1, e) (up k q hq) h4 rfl
      have hlt := (List.getElem?_eq_some_iff.mp hq).1
      omega
    · omega
  refine ⟨va_P.app (fun k q hq => ?_) hP1, va_D.app ⟨fun i j x y hx hy hxy => hD.1 i j x y (up i x hx) (up j y hy) hxy, fun k q hq => hD.2 k q (up k q hq)⟩ (hD1.weaken (fun k q _ h => hF q.1 h)) (fun i j x y hx hy hxy => ?_)⟩
  · obtain ⟨g1, g2⟩ := apart k q hq
    exact (hP k q (up k q hq)).kept (hk q.1 g1 g2)
  · exact (apart i x hx).2 (by rw [hxy]; exact hD1.2 j y hy)
theorem n_last {A0 : Nat → Prop} {D : va_G} {cl : List vw_C} {wr : va_W} {x : Nat × va_E} {H : Heap} (hP : va_P D cl (wr ++ [x]) H) (hD : va_D A0 (wr ++ [x])) : va_P D cl [x] H ∧ va_D (fun _ => True) [x] := by
  have h1 : ∀ (k : Nat) (q : Nat × va_E), ([x] : va_W)[k]? = some q → (wr ++ [x])[wr.length + k]? = some q := fun k q hq => by
    rw [List.getElem?_append_right (Nat.le_add_right _ _), Nat.add_sub_cancel_left]; exact hq
  exact ⟨fun k q hq => hP _ q (h1 k q hq), fun i j p q hi hj e => by have := hD.1 _ _ p q (h1 i p hi) (h1 j q hj) e; omega, fun _ _ _ => trivial⟩
section NN
variable {l : Launch} {D : va_G} {cA : FieldType → ClassId} {A : Nat → Prop} {M : gM} {Qc : Array Value → State → Outcome → State → Prop} {pc : Nat} {ls : List (Nat × Value)} {st : List Value} {ws : va_W} {cells slots : Nat}
theorem n_entry {h0 ci : Nat} {fs : List Value} {tm : (Nat → Nat) → va_W} {sz : Nat} (hy : plainName M.1.cls = true) (hnm : M.1.name = "<init>") (hlen : 1 ≤ M.2.2.1)
    (k : ∀ A, nAt l D cA A M (nQc D h0 tm A) 0 [(0, .ref h0)] [] [(h0, .inr (ci, fs))] 0 0) :
    Met l M.1 (gwsM M) M.2.2.2.2 (nPc D cA h0 (.inr (ci, fs)) sz) (nQc D h0 tm (va_A [(h0, .inr (ci, fs))] sz)) M.2.2.2.2.cells M.2.2.2.2.slots (va_A [(h0, .inr (ci, fs))] sz) := by
  refine Met.ofW (cc := M.2.1) (maxL := M.2.2.1) (ret := M.2.2.2.1) hy rfl ?_
  intro p e s m args below meth c s₁ B hml hv
  obtain ⟨rfl, hsz, hE, hP, hD⟩ := hv
  subst hsz
  rw [lg_entry_eq]
  exact k _ p e s m _ below meth c s₁ B hml ((name_of_methodNamed B.named B.method).1.trans hnm) hE (fun q h => Or.inr h) s.heap [] _ (lv_entry [.ref h0] hlen) hP hD.self va_S.rf
theorem n_aload {kk : Fin 4} {i x : Nat} (j : Nat) (hd : decode M.2.1 pc = .ok (.aload_n kk, 1)) (hi : (kk : Nat) = i) (hj : ls[j]? = some (i, .ref x)) (k : nAt l D cA A M Qc (pc + 1) ls (.ref x :: st) ws cells slots) : nAt l D cA A M Qc pc ls st ws cells slots := by
  intro p e s m args below meth c s₁ B hml hin hE hA H locs la hl hP hD hS
  exact lv_aload_n B.exec B.bytes hd hi (lv_at hl j hj) (k p e s m args below meth c s₁ B hml hin hE hA H locs la hl hP hD hS)
theorem n_iload {kk : Fin 4} {i : Nat} {x : Int} (j : Nat) (hd : decode M.2.1 pc = .ok (.iload_n kk, 1)) (hi : (kk : Nat) = i) (hj : ls[j]? = some (i, vI x)) (k : nAt l D cA A M Qc (pc + 1) ls (vI x :: st) ws cells slots) : nAt l D cA A M Qc pc ls st ws cells slots := by
  intro p e s m args below meth c s₁ B hml hin hE hA H locs la hl hP hD hS
  exact lv_iload_n B.exec B.bytes hd hi (lv_at hl j hj) (k p e s m args below meth c s₁ B hml hin hE hA H locs la hl hP hD hS)
theorem n_iconst {n : Int} (hd : decode M.2.1 pc = .ok (.iconst n, 1)) (k : nAt l D cA A M Qc (pc + 1) ls (vI n :: st) ws cells slots) : nAt l D cA A M Qc pc ls st ws cells slots := by
  intro p e s m args below meth c s₁ B hml hin hE hA H locs la hl hP hD hS
  exact lv_iconst B.exec B.bytes hd rfl (k p e s m args below meth c s₁ B hml hin hE hA H locs la hl hP hD hS)
theorem n_bipush {n : Int} (hd : decode M.2.1 pc = .ok (.bipush n, 2)) (hv : (Int8.ofInt n).toInt32 = i32 n) (k : nAt l D cA A M Qc (pc + 2) ls (vI n :: st) ws cells slots) : nAt l D cA A M Qc pc ls st ws cells slots := by
  intro p e s m args below meth c s₁ B hml hin hE hA H locs la hl hP hD hS
  exact lv_bipush B.exec B.bytes hd hv (k p e s m args below meth c s₁ B hml hin hE hA H locs la hl hP hD hS)
theorem n_sipush {n : Int} (hd : decode M.2.1 pc = .ok (.sipush n, 3)) (hv : (Int16.ofInt n).toInt32 = i32 n) (k : nAt l D cA A M Qc (pc + 3) ls (vI n :: st) ws cells slots) : nAt l D cA A M Qc pc ls st ws cells slots := by
  intro p e s m args below meth c s₁ B hml hin hE hA H locs la hl hP hD hS
  exact lv_sipush B.exec B.bytes hd hv (k p e s m args below meth c s₁ B hml hin hE hA H locs la hl hP hD hS)
theorem n_ldc {idx : Nat} {v : Int32} {n : Int} (hd : decode M.2.1 pc = .ok (.ldc idx, 2)) (hw : Cond.constant M.1.cls idx v ∈ gTbl) (hv : v = i32 n) (k : nAt l D cA A M Qc (pc + 2) ls (vI n :: st) ws cells slots) : nAt l D cA A M Qc pc ls st ws cells slots := by
  intro p e s m args below meth c s₁ B hml hin hE hA H locs la hl hP hD hS
  subst hv; exact lv_ldc B.exec B.bytes (findClass_of_methodNamed B.named) (atoms_spec (ws := gwsM M) B.pre _ (List.mem_cons_of_mem _ hw)) hd (k p e s m args below meth c s₁ B hml hin hE hA H locs la hl hP hD hS)
theorem n_dup {va : Value} (hd : decode M.2.1 pc = .ok (.dup, 1)) (hc : va.category = 1) (k : nAt l D cA A M Qc (pc + 1) ls (va :: va :: st) ws cells slots) : nAt l D cA A M Qc pc ls (va :: st) ws cells slots := by
  intro p e s m args below meth c s₁ B hml hin hE hA H locs la hl hP hD hS
  exact lv_dup B.exec B.bytes hd hc (k p e s m args below meth c s₁ B hml hin hE hA H locs la hl hP hD hS)
theorem n_goto {off : Int} {tgt : Nat} (hd : decode M.2.1 pc = .ok (.goto off, 3)) (ht : (pc : Int) + off = (tgt : Int)) (k : nAt l D cA A M Qc tgt ls st ws cells slots) : nAt l D cA A M Qc pc ls st ws cells slots := by
  intro p e s m args below meth c s₁ B hml hin hE hA H locs la hl hP hD hS
  exact lv_goto B.exec B.bytes hd ht (k p e s m args below meth c s₁ B hml hin hE hA H locs la hl hP hD hS)
theorem n_istore {kk : Fin 4} {i : Nat} {x : Int} {ls' : List (Nat × Value)} (hd : decode M.2.1 pc = .ok (.istore_n kk, 1)) (hi : (kk : Nat) = i) (hn : i < M.2.2.1) (hl' : (i, vI x) :: ls.filter (fun q => !(q.1 == i) && !(q.1 + 1 == i && q.2.category == 2)) = ls') (k : nAt l D cA A M Qc (pc + 1) ls' st ws cells slots) : nAt l D cA A M Qc pc ls (vI x :: st) ws cells slots := by
  intro p e s m args below meth c s₁ B hml hin hE hA H locs la hl hP hD hS
  exact lv_istore_n B.exec B.bytes hd hi hl hn hl' (fun la' hla => k p e s m args below meth c s₁ B hml hin hE hA H locs la' hla hP hD hS)
theorem n_iinc {i : Nat} {n x y : Int} {ls' : List (Nat × Value)} (j : Nat) (hd : decode M.2.1 pc = .ok (.iinc i n, 3)) (hj : ls[j]? = some (i, vI x)) (hy : i32 x + Int32.ofInt n = i32 y) (hn : i < M.2.2.1) (hl' : (i, vI y) :: ls.filter (fun q => !(q.1 == i) && !(q.1 + 1 == i && q.2.category == 2)) = ls') (k : nAt l D cA A M Qc (pc + 3) ls' st ws cells slots) : nAt l D cA A M Qc pc ls st ws cells slots := by
  intro p e s m args below meth c s₁ B hml hin hE hA H locs la hl hP hD hS
  exact lv_iinc B.exec B.bytes hd hl hj hy hn hl' (fun la' hla => k p e s m args below meth c s₁ B hml hin hE hA H locs la' hla hP hD hS)
theorem n_icmp_ge {x y : Int} {off : Int} {tgt : Nat} (hd : decode M.2.1 pc = .ok (.if_icmp .ge off, 3)) (ht : (pc : Int) + off = (tgt : Int)) (hx : gR x) (hy : gR y) (kt : y ≤ x → nAt l D cA A M Qc tgt ls st ws cells slots) (kf : ¬ (y ≤ x) → nAt l D cA A M Qc (pc + 3) ls st ws cells slots) : nAt l D cA A M Qc pc ls (vI y :: vI x :: st) ws cells slots := by
  intro p e s m args below meth c s₁ B hml hin hE hA H locs la hl hP hD hS
  exact lv_icmp_ge B.exec B.bytes hd ht (fun q => kt ((i32_le hy hx).mp q) p e s m args below meth c s₁ B hml hin hE hA H locs la hl hP hD hS) (fun q => kf (fun e9 => q ((i32_le hy hx).mpr e9)) p e s m args below meth c s₁ B hml hin hE hA H locs la hl hP hD hS)
theorem n_obj {idx x : Nat} (hd : decode M.2.1 pc = .ok (.invokespecial idx, 3)) (hw : Cond.methodLink M.1.cls idx Lib.objectInit ∈ gTbl ∧ Cond.instanceMethod Lib.objectInit ∈ gTbl ∧ Cond.code Lib.objectInit ⟨#[0xb1]⟩ 1 none ∈ gTbl) (hf : 1 ≤ M.2.2.2.2.frames) (hlo : 12 ≤ M.2.2.2.2.locals) (k : nAt l D cA A M Qc (pc + 3) ls [] ws cells slots) : nAt l D cA A M Qc pc ls [.ref x] ws cells slots := by
  intro p e s m args below meth c s₁ B hml hin hE hA H locs la hl hP hD hS
  have hts := (fun w hw => atoms_spec (ws := gwsM M) B.pre w (List.mem_cons_of_mem _ hw))
  refine W.objInit B.exec B.bytes (findClass_of_methodNamed B.named) (hts _ hw.1) (hts _ hw.2.1) (hts _ hw.2.2) rfl (by rw [hml]; exact hl.1) rfl hd hf hlo ?_
  exact k p e s m args below meth c s₁ B hml hin hE hA H locs la hl hP hD hS
theorem n_put {x : Nat} {idx ci k : Nat} {fs fs' : List Value} {w : va_W} {ty : FieldType} {v : Value} (hd : decode M.2.1 pc = .ok (.putfield idx, 3)) (hf : nFld M.1.cls idx ci k ty false) (hn : narrow ty v = v) (hfit : fits ty v = true) (hl : k < fs.length) (hs : fs.set k v = fs')
    (kk : nAt l D cA A M Qc (pc + 3) ls st ((x, .inr (ci, fs')) :: w) cells slots) : nAt l D cA A M Qc pc ls (v :: .ref x :: st) ((x, .inr (ci, fs)) :: w) cells slots := by
  intro p e s m args below meth c s₁ B hml hin hE hA H locs la hla hP hD hS
  obtain ⟨T, N, ty0, h1, h2, h3, h4, h5, h6, h7, h8, h9⟩ := hf
  subst hs
  refine va_put (D := D) (A := A) (T := T) (N := N) (C := M.1.cls) (ref := M.1.cls) (ty := ty) (v := v) B.exec B.bytes (fun w hw => atoms_spec (ws := gwsM M) B.pre w (List.mem_cons_of_mem _ hw)) h3 ty0 h7 h8 (findClass_of_methodNamed B.named) hE.1 hP hD hS 0 rfl h1 k h2 (atoms_spec (ws := gwsM M) B.pre _ (List.mem_cons_of_mem _ h4)) (fun y hy => by rw [h5] at hy; exact hy) h9 h6 hn hfit hl hd (fun H1 locs1 hP1 hD1 hS1 => ?_)
  exact kk p e s m args below meth c s₁ B hml hin hE hA H1 locs1 la hla hP1 hD1 hS1
theorem n_putF {x : Nat} {idx ci k : Nat} {fs fs' : List Value} {w : va_W} {ty : FieldType} {v : Value} (hd : decode M.2.1 pc = .ok (.putfield idx, 3)) (hf : nFld M.1.cls idx ci k ty true) (hn : narrow ty v = v) (hfit : fits ty v = true) (hl : k < fs.length) (hs : fs.set k v = fs')
    (kk : nAt l D cA A M Qc (pc + 3) ls st ((x, .inr (ci, fs')) :: w) cells slots) : nAt l D cA A M Qc pc ls (v :: .ref x :: st) ((x, .inr (ci, fs)) :: w) cells slots := by
  intro p e s m args below meth c s₁ B hml hin hE hA H locs la hla hP hD hS
  obtain ⟨T, N, ty0, h1, h2, h3, h4, h5, h6, h7, h8, h9⟩ := hf
  subst hs
  refine va_putF (D := D) (A := A) (T := T) (N := N) (C := M.1.cls) (ref := M.1.cls) (ty := ty) (v := v) B.exec B.bytes (fun w hw => atoms_spec (ws := gwsM M) B.pre w (List.mem_cons_of_mem _ hw)) h3 ty0 h7 h8 (findClass_of_methodNamed B.named) hE.1 hP hD hS 0 rfl h1 k h2 (atoms_spec (ws := gwsM M) B.pre _ (List.mem_cons_of_mem _ h4)) (fun y hy => by rw [h5] at hy; exact hy) h9 hin h5 h6 hn hfit hl hd (fun H1 locs1 hP1 hD1 hS1 => ?_)
  exact kk p e s m args below meth c s₁ B hml hin hE hA H1 locs1 la hla hP1 hD1 hS1
theorem n_get {x : Nat} {idx ci k : Nat} {fs : List Value} {w : va_W} {ty : FieldType} {fin : Bool} {v : Value} (hd : decode M.2.1 pc = .ok (.getfield idx, 3)) (hf : nFld M.1.cls idx ci k ty fin) (hv : fs[k]? = some v)
    (kk : nAt l D cA A M Qc (pc + 3) ls (v :: st) ((x, .inr (ci, fs)) :: w) cells slots) : nAt l D cA A M Qc pc ls (.ref x :: st) ((x, .inr (ci, fs)) :: w) cells slots := by
  intro p e s m args below meth c s₁ B hml hin hE hA H locs la hla hP hD hS
  obtain ⟨T, N, ty0, h1, h2, h3, h4, h5, h6, h7, h8, h9⟩ := hf
  exact va_get (D := D) (T := T) (N := N) (C := M.1.cls) (ref := M.1.cls) (v := v) B.exec B.bytes (fun w hw => atoms_spec (ws := gwsM M) B.pre w (List.mem_cons_of_mem _ hw)) h3 (findClass_of_methodNamed B.named) hE.1 hP 0 rfl h1 k h2 (atoms_spec (ws := gwsM M) B.pre _ (List.mem_cons_of_mem _ h4)) (fun y hy => by rw [h5] at hy; exact hy) hv hd (kk p e s m args below meth c s₁ B hml hin hE hA H locs la hla hP hD hS)
theorem n_newa {x : Nat × va_E} {w : va_W} {atype : ArrayType} {ty : FieldType} {n : Int} {N t0 : Nat} {z : (Nat → Int32) ⊕ (Nat → Int64) ⊕ (Nat → UInt32) ⊕ (Nat → UInt64) ⊕ (Nat → Option Nat)} (hd : decode M.2.1 pc = .ok (.newarray atype, 2)) (hw : Cond.arrayClass ty ∈ gTbl) (hty : newarray.typeOf atype = ty) (ht : (ntys cA)[t0]? = some (cA ty, ty)) (hra : ∀ (U : State) (c : ClassId), va_RA U c ty → U.vm.findClass ("[" ++ ty.toString) = some c)
    (ha : ∀ c : ClassId, vp_cell c (N, z) = arrV c N (fun _ => defaultValue ty)) (hn : ¬ i32 n < 0) (hN : (i32 n).toNatClampNeg = N) (hb : N * componentBytes ty ≤ 536870912) (hc : cells + 1 ≤ M.2.2.2.2.cells) (hs : slots + N ≤ M.2.2.2.2.slots)
    (kk : ∀ q : Nat, nAt l D cA A M Qc (pc + 2) ls (.ref q :: st) (x :: (w ++ [(q, .inl (cA ty, N, z))])) (cells + 1) (slots + N)) : nAt l D cA A M Qc pc ls (vI n :: st) (x :: w) cells slots := by
  intro p e s m args below meth c s₁ B hml hin hE hA H locs la hla hP hD hS
  refine va_newa (atype := atype) (ty := ty) (N' := N) (a0 := (N, z)) B.exec B.bytes (by rw [hty]; exact atoms_spec (ws := gwsM M) B.pre _ (List.mem_cons_of_mem _ hw)) hty hE.1 hP hD hS hA ha hn hN hb hc hs hd (fun q c' H1 hK1 hP1 hD1 hS1 => ?_)
  have e1 := hra s _ (hE.1.2 t0 _ ht).2
  have e2 := hra s c' (hK1.2 (ntys cA).length (c', ty) (by rw [List.getElem?_append_right (Nat.le_refl _), Nat.sub_self]; rfl)).2
  have e3 : cA ty = c' := Option.some.inj (e1.symm.trans e2)
  rw [← e3] at hP1 hD1
  exact kk q p e s m args below meth c s₁ B hml hin hE hA H1 locs la hla hP1 hD1 hS1
theorem n_newq {x : Nat × va_E} {w : va_W} {idx : Nat} {n : Int} {N t0 : Nat} (hd : decode M.2.1 pc = .ok (.anewarray idx, 3)) (hw : Cond.classLink M.1.cls idx RX10 ∈ gTbl) (ht : (ntys cA)[t0]? = some (cA (.object RX10), .object RX10))
    (hn : ¬ i32 n < 0) (hN : (i32 n).toNatClampNeg = N) (hb : N * 4 ≤ 536870912) (hc : cells + 1 ≤ M.2.2.2.2.cells) (hs : slots + N ≤ M.2.2.2.2.slots)
    (kk : ∀ q : Nat, nAt l D cA A M Qc (pc + 3) ls (.ref q :: st) (x :: (w ++ [(q, .inl (cA (.object RX10), N, .inr (.inr (.inr (.inr (fun _ => none))))))])) (cells + 1) (slots + N)) : nAt l D cA A M Qc pc ls (vI n :: st) (x :: w) cells slots := by
  intro p e s m args below meth c s₁ B hml hin hE hA H locs la hla hP hD hS
  refine va_newq (C := RX10) (N' := N) B.exec B.bytes (findClass_of_methodNamed B.named) (atoms_spec (ws := gwsM M) B.pre _ (List.mem_cons_of_mem _ hw)) hE.2 hE.1 hP hD hS hA hn hN hb hc hs hd (fun q c' H1 hK1 hP1 hD1 hS1 => ?_)
  obtain ⟨_, _, _, _, _, e1⟩ := (hE.1.2 t0 _ ht).2
  obtain ⟨_, _, _, _, _, e2⟩ := (hK1.2 (ntys cA).length (c', .object RX10) (by rw [List.getElem?_append_right (Nat.le_refl _), Nat.sub_self]; rfl)).2
  have e3 : cA (.object RX10) = c' := Option.some.inj (e1.symm.trans e2)
  rw [← e3] at hP1 hD1
  exact kk q p e s m args below meth c s₁ B hml hin hE hA H1 locs la hla hP1 hD1 hS1
/-- a new object of a class -/
def nNew (own : String) (idx ci : Nat) (fs : List Value) (n : Nat) : Prop := ∃ (C : String) (T : u_T) (ty : Nat → FieldType), gCl[ci]? = some (C, T, n) ∧ (∀ w ∈ u_ws C T n, w ∈ gTbl) ∧ (∀ k, k < n → parseFieldDescriptor (T k).2.2.1 = some (ty k)) ∧ (∀ j, j < n → defaultValue (ty j) = vp_V fs j) ∧ Cond.classLink own idx C ∈ gTbl ∧ Cond.instantiable C n ∈ gTbl ∧ Cond.initialized C ∈ gTbl
theorem n_new {x : Nat × va_E} {w : va_W} {idx ci N : Nat} {fs : List Value} (hd : decode M.2.1 pc = .ok (.new idx, 3)) (hw : nNew M.1.cls idx ci fs N) (hc : cells + 1 ≤ M.2.2.2.2.cells) (hs : slots + N ≤ M.2.2.2.2.slots)
    (kk : ∀ q : Nat, nAt l D cA A M Qc (pc + 3) ls (.ref q :: st) (x :: (w ++ [(q, .inr (ci, fs))])) (cells + 1) (slots + N)) : nAt l D cA A M Qc pc ls st (x :: w) cells slots := by
  intro p e s m args below meth c s₁ B hml hin hE hA H locs la hla hP hD hS
  obtain ⟨C, T, ty, h1, h2, h3, h4, h5, h6, h7⟩ := hw
  have hts := (fun w hw => atoms_spec (ws := gwsM M) B.pre w (List.mem_cons_of_mem _ hw))
  exact va_new (C := C) (T := T) (N := N) B.exec B.bytes hts h2 ty h3 (findClass_of_methodNamed B.named) (hts _ h5) (hts _ h6) (hts _ h7) hE.1 hP hD hS hA h1 h4 hc hs hd (fun q H1 hP1 hD1 hS1 => kk q p e s m args below meth c s₁ B hml hin hE hA H1 locs la hla hP1 hD1 hS1)
/-- the words of a constructor's call -/
def nCw (own : String) (idx : Nat) (z : gM) : Prop := (Cond.methodLink own idx z.1 ∈ gTbl ∧ Cond.instanceMethod z.1 ∈ gTbl ∧ Cond.initialized z.1.cls ∈ gTbl ∧ Cond.code z.1 z.2.1 z.2.2.1 none ∈ gTbl) ∧ z.2.2.2.1 = none ∧ z.1.name = "<init>" ∧ (z.1.cls ≠ "java/lang/invoke/MethodHandle" ∧ z.1.cls ≠ "java/lang/invoke/VarHandle" ∧ (parseMethodDescriptor z.1.desc).map (fun d => d.parameters.length) = some 0)
theorem n_blind {h0 : Nat} {o : va_E} {sz : Nat} : FrameBlind (nPc D cA h0 o sz) := fun a U g mk q => ⟨q.1, q.2.1, q.2.2.1.moved (u := U) (U := U.calling g mk a) (Vm.Alike.refl U.vm), q.2.2.2.1, q.2.2.2.2⟩
theorem n_call {z : gM} {x : Nat × va_E} {w : va_W} {idx hb : Nat} {o : va_E} {tm : (Nat → Nat) → va_W} {rest : List Value} (hd : decode M.2.1 pc = .ok (.invokespecial idx, 3)) (hw : nCw M.1.cls idx z) (hz : nCt l D cA z o tm) (hR : z.2.2.2.2.frames + 1 ≤ M.2.2.2.2.frames ∧ 8 + (z.2.2.1 + 11) + z.2.2.2.2.locals ≤ M.2.2.2.2.locals) (hrm : (rest.map fun v => v.category).sum ≤ 8)
    (hc : cells + z.2.2.2.2.cells ≤ M.2.2.2.2.cells) (hs : slots + z.2.2.2.2.slots ≤ M.2.2.2.2.slots)
    (kk : ∀ q : Nat → Nat, q 0 = hb → nAt l D cA A M Qc (pc + 3) ls rest (x :: (w ++ tm q)) (cells + z.2.2.2.2.cells) (slots + z.2.2.2.2.slots)) : nAt l D cA A M Qc pc ls (.ref hb :: rest) (x :: (w ++ [(hb, o)])) cells slots := by
  intro p e s m args below meth c s₁ B hml hin hE hA H locs la hla hP hD hS
  obtain ⟨hwl, hret, hname, hnm⟩ := hw
  have hts := (fun w hw => atoms_spec (ws := gwsM M) B.pre w (List.mem_cons_of_mem _ hw))
  have hF : CallFix p m c M.2.1 M.2.2.1 s args (gwsM M) M.1.cls := ⟨B.exec, B.bytes, hml, (findClass_of_methodNamed B.named), atoms_spec (ws := gwsM M) B.pre⟩
  have hcode : Cond.code z.1 z.2.1 z.2.2.1 z.2.2.2.1 ∈ gTbl := by rw [hret]; exact hwl.2.2.2
  have hwz : gwsM z = Cond.code z.1 z.2.1 z.2.2.1 none :: gTbl := by unfold gwsM; rw [hret]
  obtain ⟨hPc, hDc⟩ := n_last (wr := x :: w) hP hD
  have hFc : ∀ q, va_A [(hb, o)] H.size q → A q := by
    intro q h
    rcases h with ⟨k, e1, h⟩ | h
    · have hk : k < 1 := (List.getElem?_eq_some_iff.mp h).1
      have h4 : ((x :: w) ++ [(hb, o)])[(x :: w).length + k]? = some (q, e1) := by
        rw [List.getElem?_append_right (Nat.le_add_right _ _), Nat.add_sub_cancel_left]; exact h
      exact hD.2 _ (q, e1) h4
    · exact hA q (Nat.le_trans hS.1 h)
  have hrun := va_runI (H := H) (locs := locs) (cells := cells) (slots := slots) (below := below) (e := e) (meth := meth) (As := []) (n := 0) (b := hb) (g := F0 m pc la (.ref hb :: rest)) (rest := rest) hF (hz hb H.size) ⟨callB_of 0 (atoms_spec (ws := gwsM M) B.pre) (lw_goodIn (gwsz hcode)) hwz rfl rfl (hts _ hwl.2.2.1) (hts _ hwl.1) hnm hR, hname, hts _ hwl.2.1⟩ ⟨n_blind, fun U hU hW => ⟨rfl, by rw [hU], hE.moved hW.alike, by rw [hU]; exact hPc, hDc⟩⟩ rfl rfl hla.1 rfl (lv_room hrm) hd ⟨hc, hs⟩
  refine va_callv (A0 := A) hrun hS (fun q _ h => hFc q h) hFc (fun u t H1 locs1 ht hvm hq hB hz1 hk1 hS1 => ?_)
  rw [ht] at hB
  obtain ⟨hP', hD'⟩ := n_join (wr := x :: w) (wc := [(hb, o)]) hP hD hk1 hFc hB.1 hB.2
  exact kk u hq p e s m args below meth c s₁ B hml hin hE hA H1 locs1 la hla hP' hD' hS1
theorem n_iast {q0 t0 a N : Nat} {f g : Nat → Int32} {i v : Int} {ws' : va_W} (hd : decode M.2.1 pc = .ok (.iastore, 1)) (ha : ws[q0]? = some (a, .inl (cA .int, N, .inl f))) (ht : (ntys cA)[t0]? = some (cA .int, .int)) (hin : vp_in (i32 i) N) (hg : upd f (i32 i).toNatClampNeg (i32 v) = g) (hw : ws.set q0 (a, .inl (cA .int, N, .inl g)) = ws')
    (kk : nAt l D cA A M Qc (pc + 1) ls st ws' cells slots) : nAt l D cA A M Qc pc ls (vI v :: vI i :: .ref a :: st) ws cells slots := by
  intro p e s m args below meth c s₁ B hml hin' hE hA H locs la hla hP hD hS
  subst hg; subst hw
  exact va_iast B.exec B.bytes hE.1 hP hD hS q0 t0 ha ht hin hd (fun H1 locs1 hP1 hD1 hS1 => kk p e s m args below meth c s₁ B hml hin' hE hA H1 locs1 la hla hP1 hD1 hS1)
theorem n_aast {q0 t0 qk a v N : Nat} {f g : Nat → Option Nat} {i : Int} {vs : List Value} {ws' : va_W} (hd : decode M.2.1 pc = .ok (.aastore, 1)) (ha : ws[q0]? = some (a, .inl (cA (.object RX10), N, .inr (.inr (.inr (.inr f)))))) (ht : (ntys cA)[t0]? = some (cA (.object RX10), .object RX10)) (hv : ws[qk]? = some (v, .inr (10, vs))) (hin : vp_in (i32 i) N) (hg : va_up f (i32 i).toNatClampNeg (some v) = g) (hw : ws.set q0 (a, .inl (cA (.object RX10), N, .inr (.inr (.inr (.inr g))))) = ws')
    (kk : nAt l D cA A M Qc (pc + 1) ls st ws' cells slots) : nAt l D cA A M Qc pc ls (.ref v :: vI i :: .ref a :: st) ws cells slots := by
  intro p e s m args below meth c s₁ B hml hin' hE hA H locs la hla hP hD hS
  subst hg; subst hw
  exact va_astq (r := (RX10, TX10, 8)) B.exec B.bytes hE.1 hP hD hS q0 t0 qk 10 ha ht hv rfl hin hd (fun H1 locs1 hP1 hD1 hS1 => kk p e s m args below meth c s₁ B hml hin' hE hA H1 locs1 la hla hP1 hD1 hS1)
theorem n_ret {h0 : Nat} {tm : (Nat → Nat) → va_W} (hd : decode M.2.1 pc = .ok (.return_, 1)) (hr : M.2.2.2.1 = none) (q : Nat → Nat) (hq : q 0 = h0) (hw : tm q = ws) (hc : cells ≤ M.2.2.2.2.cells) (hs : slots ≤ M.2.2.2.2.slots) : nAt l D cA A M (nQc D h0 tm A) pc ls [] ws cells slots := by
  intro p e s m args below meth c s₁ B hml hin hE hA H locs la hla hP hD hS
  have hlocks := B.notSynchronized
  refine W.widen hc hs ?_
  subst hw
  exact W.vret B.exec B.bytes (B.returns.trans hr) (fun t ht hW => ⟨⟨q, rfl, hq, by show va_P D gCl (tm q) t.heap; rw [ht]; exact hP, hD⟩, hS.F ht⟩) hS.2.2 hd
end NN
