
abbrev gS : Type := (Nat → Int → Int) × (Int → Int) × Nat
abbrev gG : Type := va_G × (Nat → Nat) × (FieldType → ClassId) × (Nat → Prop) × (Nat → Nat) × (Nat → Nat) × (Nat → Nat)
abbrev gM : Type := MethodName × ByteArray × Nat × Option FieldType × Room
def i32 (a : Int) : Int32 := Int32.ofInt a
def i64 (a : Int) : Int64 := Int64.ofInt a
abbrev vI (a : Int) : Value := .int (i32 a)
abbrev vL (a : Int) : Value := .long (i64 a)
abbrev gR (a : Int) : Prop := -2147483648 ≤ a ∧ a < 2147483648
abbrev gRl (a : Int) : Prop := -9223372036854775808 ≤ a ∧ a < 9223372036854775808
abbrev gI (σ : gS) (c : Nat) (i : Int) : Int := σ.1 c i
def sI (σ : gS) (c : Nat) (i : Int) (v : Int) : gS := (fun c' i' => if c' = c ∧ i' = i then v else σ.1 c' i', σ.2)
def sL (σ : gS) (i : Int) (v : Int) : gS := (σ.1, fun i' => if i' = i then v else σ.2.1 i', σ.2.2)
def sT (σ : gS) (t : Nat) : gS := (σ.1, σ.2.1, t)
def gOK (σ : gS) : Prop := (∀ c i, gR (σ.1 c i)) ∧ ∀ i, gRl (σ.2.1 i)
theorem i32_toInt {a : Int} (h : gR a) : (i32 a).toInt = a := Int32.toInt_ofInt_of_le h.1 (by have := h.2; omega)
theorem i64_toInt {a : Int} (h : gRl a) : (i64 a).toInt = a := Int64.toInt_ofInt_of_le h.1 (by have := h.2; omega)
theorem i32_eq {a b : Int} (ha : gR a) (hb : gR b) : i32 a = i32 b ↔ a = b := ⟨fun h => by rw [← i32_toInt ha, ← i32_toInt hb, h], fun h => by rw [h]⟩
theorem i32_lt {a b : Int} (ha : gR a) (hb : gR b) : i32 a < i32 b ↔ a < b := by rw [Int32.lt_iff_toInt_lt, i32_toInt ha, i32_toInt hb]
theorem i32_le {a b : Int} (ha : gR a) (hb : gR b) : i32 a ≤ i32 b ↔ a ≤ b := by rw [Int32.le_iff_toInt_le, i32_toInt ha, i32_toInt hb]
theorem i32_add (a b : Int) : i32 (a + b) = i32 a + i32 b := Int32.ofInt_add a b
theorem i32_sub (a b : Int) : i32 (a - b) = i32 a - i32 b := Int32.ofInt_sub a b
theorem i32_mul (a b : Int) : i32 (a * b) = i32 a * i32 b := Int32.ofInt_mul a b
theorem i64_add (a b : Int) : i64 (a + b) = i64 a + i64 b := Int64.ofInt_add a b
theorem i64_sub (a b : Int) : i64 (a - b) = i64 a - i64 b := Int64.ofInt_sub a b
theorem i64_mul (a b : Int) : i64 (a * b) = i64 a * i64 b := Int64.ofInt_mul a b
theorem gR_toInt (x : Int32) : gR x.toInt := ⟨by have := Int32.le_toInt x; omega, by have := Int32.toInt_lt x; omega⟩
theorem gRl_toInt (x : Int64) : gRl x.toInt := ⟨by have := Int64.le_toInt x; omega, by have := Int64.toInt_lt x; omega⟩
theorem i32_of (x : Int32) : i32 x.toInt = x := Int32.ofInt_toInt x
theorem i64_of (x : Int64) : i64 x.toInt = x := Int64.ofInt_toInt x
/-- bits, as the machine has them -/
def gand (a b : Int) : Int := (i32 a &&& i32 b).toInt
def gor (a b : Int) : Int := (i32 a ||| i32 b).toInt
def gxor (a b : Int) : Int := (i32 a ^^^ i32 b).toInt
def gshl (a b : Int) : Int := (i32 a <<< (i32 b &&& 31)).toInt
def gshr (a b : Int) : Int := (i32 a >>> (i32 b &&& 31)).toInt
def gushr (a b : Int) : Int := ((i32 a).toUInt32 >>> ((i32 b).toUInt32 &&& Int32.toUInt32 31)).toInt32.toInt
def gi2b (a : Int) : Int := (i32 a).toInt8.toInt32.toInt
def glor (a b : Int) : Int := (i64 a ||| i64 b).toInt
def glshl (a b : Int) : Int := (i64 a <<< ((i32 b).toInt64 &&& 63)).toInt
def gdiv (a b : Int) : Int := (i32 a / i32 b).toInt
def grem (a b : Int) : Int := (i32 a - i32 a / i32 b * i32 b).toInt
def gnz (a : Int) : Int := (vp_nar .boolean (i32 a)).toInt
def gnb (a : Int) : Int := (vp_nar .byte (i32 a)).toInt
def glcmp (a b : Int) : Int := (lg_cmp (i64 a) (i64 b)).toInt
theorem gR_in {i : Int} {n : Nat} (h : 0 ≤ i ∧ i < n) (hn : n < 2147483648) : vp_in (i32 i) n ∧ ((i32 i).toNatClampNeg : Int) = i := by
  have hr : gR i := ⟨by omega, by omega⟩
  have h1 : ((i32 i).toNatClampNeg : Int) = i := by
    have h2 : (i32 i).toNatClampNeg = (i32 i).toInt.toNat := rfl
    rw [h2, i32_toInt hr]; omega
  refine ⟨?_, h1⟩
  rintro (h3 | h3)
  · have h4 : i32 i < i32 0 := h3
    rw [i32_lt hr (by decide)] at h4
    omega
  · omega


/-- the fields of an object: kinds by 'none' (a number), 'some r' (the cell r; 9999: the reader's tape) -/
def gfld (ad : Nat → Nat) (σ : gS) (c : Nat) : Nat → List (Option Nat) → List Value
  | _, [] => []
  | k, none :: r => vI (σ.1 c k) :: gfld ad σ c (k + 1) r
  | k, some q :: r => .ref (ad (if q = 9999 then σ.2.2 else q)) :: gfld ad σ c (k + 1) r
def gcellOf (ad : Nat → Nat) (cA : FieldType → ClassId) (σ : gS) (c : Nat) : Option ((Nat × FieldType) ⊕ (Nat × List (Option Nat))) → va_E
  | some (.inl (n, .long)) => .inl (cA .long, n, .inr (.inl (fun k => i64 (σ.2.1 k))))
  | some (.inl (n, .object C)) => .inl (cA (.object C), n, .inr (.inr (.inr (.inr (fun k => (gimg[k]?).map ad)))))
  | some (.inl (n, ty)) => .inl (cA ty, n, .inl (fun k => i32 (σ.1 c k)))
  | some (.inr (ci, ks)) => .inr (ci, gfld ad σ c 0 ks)
  | none => .inr (0, [])
def gws (G : gG) (σ : gS) : va_W := (List.range gN).map (fun c => (G.2.1 c, gcellOf G.2.1 G.2.2.1 σ c gshL[c]?))
def gtys (G : gG) : List (ClassId × FieldType) := [(G.2.2.1 .int, .int), (G.2.2.1 .byte, .byte), (G.2.2.1 .boolean, .boolean), (G.2.2.1 .long, .long), (G.2.2.1 (.object RX10), .object RX10)]
abbrev gA (G : gG) : Nat → Prop := G.2.2.2.1
/-- static arrays of the reader (their places), texts -/
def gStat (G : gG) (U : State) (H : Heap) : Prop :=
  (∀ k q, gsta[k]? = some q → va_Z RX7 q.1 "[I" (.ref (G.2.2.2.2.1 k)) (gA G) U H ∧ va_T .int (G.2.2.2.2.1 k) q.2.length (fun j => vI (q.2.getD j 0)) (gA G) U H) ∧
  (∀ k q, gstr[k]? = some q → vk_R RX7 q.1 q.2 (G.2.2.2.2.2.1 k) U) ∧ vk_S gstr.length gstrLen gstrByt G.2.2.2.2.2.1 G.2.2.2.2.2.2 (gA G) U H ∧ (∀ q ∈ gnest, va_Nw (.methodLinkNest q.1 q.2.1 q.2.2 "CrossbarHouse") U) ∧
  va_Z "java/lang/String" "COMPACT_STRINGS" "Z" (.int 1) (gA G) U H ∧ va_Zq "jdk/internal/util/Preconditions" "SIOOBE_FORMATTER" "Ljava/util/function/BiFunction;" (gA G) U H
def gEnv (G : gG) (U : State) (H : Heap) : Prop := va_K G.1 gCl (gtys G) U ∧ gStat G U H
def gDyn (G : gG) (σ : gS) (H : Heap) : Prop := va_P G.1 gCl (gws G σ) H ∧ va_D (gA G) (gws G σ) ∧ gOK σ
theorem gEnv.go {G : gG} {s U : State} {H H1 : Heap} (h : gEnv G s H) (hW : s.WarmedH U.vm) (hq : ∀ a : Nat, a < H.size → ¬ gA G a → H1[a]? = H[a]?) : gEnv G U H1 :=
  ⟨va_K.moved hW.alike h.1, fun k q hk => ⟨((h.2.1 k q hk).1.moved hW.alike).kept hq, ((h.2.1 k q hk).2.moved hW.alike).kept hq⟩, fun k q hk => vk_R.warm hW (h.2.2.1 k q hk), (h.2.2.2.1.moved hW.alike).kept hq, fun q hq => va_Nw.warmM hW (h.2.2.2.2.1 q hq), (h.2.2.2.2.2.1.moved hW.alike).kept hq, (h.2.2.2.2.2.2.moved hW.alike).kept hq⟩
theorem gEnv.calling {G : gG} {U : State} {g : JFrame} {mk : MethodId} {a : Array Value} (h : gEnv G U U.heap) : gEnv G (U.calling g mk a) (U.calling g mk a).heap :=
  ⟨va_K.moved (Vm.Alike.refl U.vm) h.1, fun k q hk => ⟨(h.2.1 k q hk).1.moved (Vm.Alike.refl U.vm), (h.2.1 k q hk).2.moved (Vm.Alike.refl U.vm)⟩, fun k q hk => vk_R.same rfl (h.2.2.1 k q hk), h.2.2.2.1.moved (Vm.Alike.refl U.vm), fun q hq => va_Nw.same rfl rfl (h.2.2.2.2.1 q hq), h.2.2.2.2.2.1.moved (Vm.Alike.refl U.vm), h.2.2.2.2.2.2.moved (Vm.Alike.refl U.vm)⟩
theorem gws_at {G : gG} {σ : gS} {c : Nat} {x} (h : gshL[c]? = some x) : (gws G σ)[c]? = some (G.2.1 c, gcellOf G.2.1 G.2.2.1 σ c (some x)) := by
  have hc : c < gN := by
    have := (List.getElem?_eq_some_iff.mp h).1
    rwa [gN_len] at this
  unfold gws
  rw [List.getElem?_map, List.getElem?_range hc]
  simp only [Option.map_some, h]
/-- a store that differs at one cell alone -/
theorem gws_set {G : gG} {σ σ' : gS} {c : Nat} {x} (h : gshL[c]? = some x) (ho : ∀ c', c' ≠ c → gcellOf G.2.1 G.2.2.1 σ' c' gshL[c']? = gcellOf G.2.1 G.2.2.1 σ c' gshL[c']?) :
    (gws G σ).set c (G.2.1 c, gcellOf G.2.1 G.2.2.1 σ' c (some x)) = gws G σ' := by
  refine List.ext_getElem? (fun i => ?_)
  rw [List.getElem?_set]
  have hc : c < gN := by
    have := (List.getElem?_eq_some_iff.mp h).1
    rwa [gN_len] at this
  by_cases hi : c = i
  · subst hi
    rw [if_pos rfl, gws_at h]
    unfold gws
    rw [List.length_map, List.length_range, if_pos hc]
  · rw [if_neg hi]
    unfold gws
    rw [List.getElem?_map, List.getElem?_map]
    by_cases h2 : i < gN
    · rw [List.getElem?_range h2]
      simp only [Option.map_some]
      rw [ho i (fun e => hi e.symm)]
    · rw [List.getElem?_eq_none (by rw [List.length_range]; omega)]
      rfl
theorem gfld_congr {ad : Nat → Nat} {σ σ' : gS} {c c' : Nat} (h : ∀ k : Nat, σ.1 c (k : Int) = σ'.1 c' (k : Int)) (ht : σ.2.2 = σ'.2.2) : ∀ (ks : List (Option Nat)) (k : Nat), gfld ad σ c k ks = gfld ad σ' c' k ks
  | [], _ => rfl
  | none :: r, k => by simp only [gfld]; rw [h k, gfld_congr h ht r (k + 1)]
  | some q :: r, k => by simp only [gfld]; rw [ht, gfld_congr h ht r (k + 1)]
theorem gcell_congr {ad : Nat → Nat} {cA : FieldType → ClassId} {σ σ' : gS} {c : Nat} (h : ∀ k : Nat, σ.1 c (k : Int) = σ'.1 c (k : Int)) (hl : σ.2.1 = σ'.2.1) (ht : σ.2.2 = σ'.2.2) (x) : gcellOf ad cA σ c x = gcellOf ad cA σ' c x := by
  unfold gcellOf
  split <;> first | rfl | (rw [hl]) | (congr 4; funext k; rw [h k]) | (rw [gfld_congr h ht])
theorem sI_o {G : gG} {σ : gS} {c : Nat} {i v : Int} : ∀ c', c' ≠ c → gcellOf G.2.1 G.2.2.1 (sI σ c i v) c' gshL[c']? = gcellOf G.2.1 G.2.2.1 σ c' gshL[c']? :=
  fun c' h => gcell_congr (σ := sI σ c i v) (σ' := σ) (fun k => if_neg (fun e : c' = c ∧ (k : Int) = i => h e.1)) rfl rfl _
theorem gOK_sI {σ : gS} {c : Nat} {i v : Int} (h : gOK σ) (hv : gR v) : gOK (sI σ c i v) := ⟨fun c' i' => by
  show gR (if _ then _ else _)
  split
  · exact hv
  · exact h.1 c' i', h.2⟩
theorem gfld_get {ad : Nat → Nat} {σ : gS} {c : Nat} : ∀ (ks : List (Option Nat)) (k0 k : Nat), (gfld ad σ c k0 ks)[k]? = (ks[k]?).map (fun q => match q with | none => vI (σ.1 c ((k0 + k : Nat) : Int)) | some r => .ref (ad (if r = 9999 then σ.2.2 else r)))
  | [], _, _ => by simp [gfld]
  | none :: r, k0, 0 => by simp [gfld]
  | some q :: r, k0, 0 => by simp [gfld]
  | none :: r, k0, k + 1 => by simp only [gfld, List.getElem?_cons_succ]; rw [gfld_get r (k0 + 1) k, show k0 + 1 + k = k0 + (k + 1) by omega]
  | some q :: r, k0, k + 1 => by simp only [gfld, List.getElem?_cons_succ]; rw [gfld_get r (k0 + 1) k, show k0 + 1 + k = k0 + (k + 1) by omega]
theorem gfld_len {ad : Nat → Nat} {σ : gS} {c : Nat} : ∀ (ks : List (Option Nat)) (k0 : Nat), (gfld ad σ c k0 ks).length = ks.length
  | [], _ => rfl
  | none :: r, k0 => by simp only [gfld, List.length_cons, gfld_len r (k0 + 1)]
  | some q :: r, k0 => by simp only [gfld, List.length_cons, gfld_len r (k0 + 1)]
theorem gfld_set {ad : Nat → Nat} {σ : gS} {c : Nat} {v : Int} {ks : List (Option Nat)} {k : Nat} (hk : ks[k]? = some none) : (gfld ad σ c 0 ks).set k (vI v) = gfld ad (sI σ c k v) c 0 ks := by
  refine List.ext_getElem? (fun j => ?_)
  rw [List.getElem?_set, gfld_len, gfld_get, gfld_get]
  have hlt : k < ks.length := (List.getElem?_eq_some_iff.mp hk).1
  by_cases hj : k = j
  · subst hj
    rw [if_pos rfl, if_pos hlt, hk]
    simp [sI]
  · rw [if_neg hj]
    cases hq : ks[j]? with
    | none => rfl
    | some q =>
      cases q with
      | none =>
        have : ¬ ((j : Int) = (k : Int)) := by omega
        simp [sI, this]
      | some r => rfl


def gwsM (M : gM) : List Cond := Cond.code M.1 M.2.1 M.2.2.1 M.2.2.2.1 :: gTbl
/-- a point of a method's body over the abstract store -/
def gAt (l : Launch) (G : gG) (M : gM) (Qc : Array Value → State → Outcome → State → Prop) (pc : Nat) (ls : List (Nat × Value)) (st : List Value) (σ : gS) : Prop :=
  ∀ (p : Program) (e : Env) (s : State) (m : MethodId) (args : Array Value) (below : List Frame) (meth : Method) (c : Code) (s₁ : State),
    BodyLoose p l M.1 (headSpec (gwsM M) M.2.2.2.2) M.2.1 M.2.2.1 M.2.2.2.1 e s m args below meth c s₁ → c.maxLocals = M.2.2.1 → gEnv G s s.heap →
    ∀ (H : Heap) (locs : List Loc) (la : Array Slot), lv_has la M.2.2.1 ls → gDyn G σ H → va_S (gA G) s.heap H locs →
    W p l e M.2.2.2.2 s m args below meth c H locs 0 0 (MQ below Qc args s 0 0 (gA G)) (F0 m pc la st)
def gPc (G : gG) (av : List Value) (σ : gS) : Array Value → State → Prop := va_Pc av (fun U => gEnv G U U.heap ∧ gDyn G σ U.heap)
def gQi (G : gG) (Q : Int → gS → Prop) : Array Value → State → Outcome → State → Prop := va_Qi (fun r σ' => ∃ x, gR x ∧ r = i32 x ∧ Q x σ') (fun σ' t => gDyn G σ' t.heap) (gA G)
def gQl (G : gG) (Q : Int → gS → Prop) : Array Value → State → Outcome → State → Prop := va_Ql (fun r σ' => ∃ x, gRl x ∧ r = i64 x ∧ Q x σ') (fun σ' t => gDyn G σ' t.heap) (gA G)
def gQv (G : gG) (Q : gS → Prop) : Array Value → State → Outcome → State → Prop := va_Qv Q (fun σ' t => gDyn G σ' t.heap) (gA G)
/-- a call of a method over the abstract store: it comes back with Q -/
def gE (l : Launch) (G : gG) (M : gM) (av : List Value) (σ : gS) (Qc : Array Value → State → Outcome → State → Prop) : Prop := Met l M.1 (gwsM M) M.2.2.2.2 (gPc G av σ) Qc 0 0 (gA G)
abbrev gEi (l : Launch) (G : gG) (M : gM) (av : List Value) (σ : gS) (Q : Int → gS → Prop) : Prop := gE l G M av σ (gQi G Q)
abbrev gEl (l : Launch) (G : gG) (M : gM) (av : List Value) (σ : gS) (Q : Int → gS → Prop) : Prop := gE l G M av σ (gQl G Q)
abbrev gEv (l : Launch) (G : gG) (M : gM) (av : List Value) (σ : gS) (Q : gS → Prop) : Prop := gE l G M av σ (gQv G Q)
/-- a field of a class by a pool's number -/
def gFld (own : String) (idx ci k : Nat) : Prop := ∃ C T N, gCl[ci]? = some (C, T, N) ∧ k < N ∧ (∀ w ∈ u_ws C T N, w ∈ gTbl) ∧ Cond.fieldLink own idx C (T k).2.1 (T k).2.2.1 ∈ gTbl ∧ (T k).1 = C
/-- such a field that may be put, of a type -/
def gPut (ci k : Nat) (ty : FieldType) : Prop := ∀ C T N, gCl[ci]? = some (C, T, N) → (T k).2.2.2 = false ∧ parseFieldDescriptor (T k).2.2.1 = some ty ∧ (∃ ty0 : Nat → FieldType, ∀ k, k < N → parseFieldDescriptor (T k).2.2.1 = some (ty0 k)) ∧ ∀ a, a < N → ∀ b, b < N → a ≠ b → (T a).2.1 ≠ (T b).2.1

section GA
variable {l : Launch} {G : gG} {M : gM} {Qc : Array Value → State → Outcome → State → Prop} {pc : Nat} {ls : List (Nat × Value)} {st : List Value} {σ : gS}
theorem ga_sub {ls' : List (Nat × Value)} (ks : List Nat) (h : lv_pick ls ks = ls') (k : gAt l G M Qc pc ls' st σ) : gAt l G M Qc pc ls st σ := by
  intro p e s m args below meth c s₁ B hml hE H locs la hl hD hS
  exact k p e s m args below meth c s₁ B hml hE H locs la (lv_sub hl ks h) hD hS
/-- what the store is known for at any point -/
theorem ga_ok (k : gOK σ → gAt l G M Qc pc ls st σ) : gAt l G M Qc pc ls st σ := by
  intro p e s m args below meth c s₁ B hml hE H locs la hl hD hS
  exact k hD.2.2 p e s m args below meth c s₁ B hml hE H locs la hl hD hS
theorem ga_eq {st' : List Value} (h : st = st') (k : gAt l G M Qc pc ls st' σ) : gAt l G M Qc pc ls st σ := h ▸ k

theorem ga_iload_n {kk : Fin 4} {i : Nat} {x : Int} (j : Nat) (hd : decode M.2.1 pc = .ok (.iload_n kk, 1)) (hi : (kk : Nat) = i) (hj : ls[j]? = some (i, vI x)) (k : gAt l G M Qc (pc + 1) ls (vI x :: st) σ) : gAt l G M Qc pc ls (st) σ := by
  intro p e s m args below meth c s₁ B hml hE H locs la hl hD hS
  exact lv_iload_n B.exec B.bytes hd hi (lv_at hl j hj) (k p e s m args below meth c s₁ B hml hE H locs la hl hD hS)
theorem ga_iload {i : Nat} {x : Int} (j : Nat) (hd : decode M.2.1 pc = .ok (.iload i, 2)) (hj : ls[j]? = some (i, vI x)) (k : gAt l G M Qc (pc + 2) ls (vI x :: st) σ) : gAt l G M Qc pc ls (st) σ := by
  intro p e s m args below meth c s₁ B hml hE H locs la hl hD hS
  exact lv_iload B.exec B.bytes hd (lv_at hl j hj) (k p e s m args below meth c s₁ B hml hE H locs la hl hD hS)
theorem ga_aload_n {kk : Fin 4} {i x : Nat} (j : Nat) (hd : decode M.2.1 pc = .ok (.aload_n kk, 1)) (hi : (kk : Nat) = i) (hj : ls[j]? = some (i, .ref x)) (k : gAt l G M Qc (pc + 1) ls (.ref x :: st) σ) : gAt l G M Qc pc ls (st) σ := by
  intro p e s m args below meth c s₁ B hml hE H locs la hl hD hS
  exact lv_aload_n B.exec B.bytes hd hi (lv_at hl j hj) (k p e s m args below meth c s₁ B hml hE H locs la hl hD hS)
theorem ga_aload {i x : Nat} (j : Nat) (hd : decode M.2.1 pc = .ok (.aload i, 2)) (hj : ls[j]? = some (i, .ref x)) (k : gAt l G M Qc (pc + 2) ls (.ref x :: st) σ) : gAt l G M Qc pc ls (st) σ := by
  intro p e s m args below meth c s₁ B hml hE H locs la hl hD hS
  exact lv_aload B.exec B.bytes hd (lv_at hl j hj) (k p e s m args below meth c s₁ B hml hE H locs la hl hD hS)
theorem ga_lload_n {kk : Fin 4} {i : Nat} {x : Int} (j : Nat) (hd : decode M.2.1 pc = .ok (.lload_n kk, 1)) (hi : (kk : Nat) = i) (hj : ls[j]? = some (i, vL x)) (k : gAt l G M Qc (pc + 1) ls (vL x :: st) σ) : gAt l G M Qc pc ls (st) σ := by
  intro p e s m args below meth c s₁ B hml hE H locs la hl hD hS
  exact lv_lload_n B.exec B.bytes hd hi (lv_at hl j hj) (k p e s m args below meth c s₁ B hml hE H locs la hl hD hS)
theorem ga_iconst {n : Int} (hd : decode M.2.1 pc = .ok (.iconst n, 1)) (k : gAt l G M Qc (pc + 1) ls (vI n :: st) σ) : gAt l G M Qc pc ls (st) σ := by
  intro p e s m args below meth c s₁ B hml hE H locs la hl hD hS
  exact lv_iconst B.exec B.bytes hd rfl (k p e s m args below meth c s₁ B hml hE H locs la hl hD hS)
theorem ga_bipush {n : Int} (hd : decode M.2.1 pc = .ok (.bipush n, 2)) (hv : (Int8.ofInt n).toInt32 = i32 n) (k : gAt l G M Qc (pc + 2) ls (vI n :: st) σ) : gAt l G M Qc pc ls (st) σ := by
  intro p e s m args below meth c s₁ B hml hE H locs la hl hD hS
  exact lv_bipush B.exec B.bytes hd hv (k p e s m args below meth c s₁ B hml hE H locs la hl hD hS)
theorem ga_sipush {n : Int} (hd : decode M.2.1 pc = .ok (.sipush n, 3)) (hv : (Int16.ofInt n).toInt32 = i32 n) (k : gAt l G M Qc (pc + 3) ls (vI n :: st) σ) : gAt l G M Qc pc ls (st) σ := by
  intro p e s m args below meth c s₁ B hml hE H locs la hl hD hS
  exact lv_sipush B.exec B.bytes hd hv (k p e s m args below meth c s₁ B hml hE H locs la hl hD hS)
theorem ga_lconst {n : Fin 2} {v : Int} (hd : decode M.2.1 pc = .ok (.lconst n, 1)) (hv : Int64.ofNat (n : Nat) = i64 v) (k : gAt l G M Qc (pc + 1) ls (vL v :: st) σ) : gAt l G M Qc pc ls (st) σ := by
  intro p e s m args below meth c s₁ B hml hE H locs la hl hD hS
  exact lv_lconst B.exec B.bytes hd hv (k p e s m args below meth c s₁ B hml hE H locs la hl hD hS)
theorem ga_ldc {idx : Nat} {v : Int32} {n : Int} (hd : decode M.2.1 pc = .ok (.ldc idx, 2)) (hw : Cond.constant M.1.cls idx v ∈ gTbl) (hv : v = i32 n) (k : gAt l G M Qc (pc + 2) ls (vI n :: st) σ) : gAt l G M Qc pc ls (st) σ := by
  intro p e s m args below meth c s₁ B hml hE H locs la hl hD hS
  subst hv; exact lv_ldc B.exec B.bytes (findClass_of_methodNamed B.named) (atoms_spec (ws := gwsM M) B.pre _ (List.mem_cons_of_mem _ hw)) hd (k p e s m args below meth c s₁ B hml hE H locs la hl hD hS)
theorem ga_ldc2 {idx : Nat} {v : Int64} {n : Int} (hd : decode M.2.1 pc = .ok (.ldc2_w idx, 3)) (hw : Cond.constantLong M.1.cls idx v ∈ gTbl) (hv : v = i64 n) (k : gAt l G M Qc (pc + 3) ls (vL n :: st) σ) : gAt l G M Qc pc ls (st) σ := by
  intro p e s m args below meth c s₁ B hml hE H locs la hl hD hS
  subst hv; exact lv_ldc2 B.exec B.bytes (findClass_of_methodNamed B.named) (atoms_spec (ws := gwsM M) B.pre _ (List.mem_cons_of_mem _ hw)) hd (k p e s m args below meth c s₁ B hml hE H locs la hl hD hS)
theorem ga_istore_n {kk : Fin 4} {i : Nat} {x : Int} {ls' : List (Nat × Value)} (hd : decode M.2.1 pc = .ok (.istore_n kk, 1)) (hi : (kk : Nat) = i) (hn : i < M.2.2.1) (hl' : (i, vI x) :: ls.filter (fun q => !(q.1 == i) && !(q.1 + 1 == i && q.2.category == 2)) = ls') (k : gAt l G M Qc (pc + 1) ls' (st) σ) : gAt l G M Qc pc ls (vI x :: st) σ := by
  intro p e s m args below meth c s₁ B hml hE H locs la hl hD hS
  exact lv_istore_n B.exec B.bytes hd hi hl hn hl' (fun la hl => k p e s m args below meth c s₁ B hml hE H locs la hl hD hS)
theorem ga_istore {i : Nat} {x : Int} {ls' : List (Nat × Value)} (hd : decode M.2.1 pc = .ok (.istore i, 2)) (hn : i < M.2.2.1) (hl' : (i, vI x) :: ls.filter (fun q => !(q.1 == i) && !(q.1 + 1 == i && q.2.category == 2)) = ls') (k : gAt l G M Qc (pc + 2) ls' (st) σ) : gAt l G M Qc pc ls (vI x :: st) σ := by
  intro p e s m args below meth c s₁ B hml hE H locs la hl hD hS
  exact lv_istore B.exec B.bytes hd hl hn hl' (fun la hl => k p e s m args below meth c s₁ B hml hE H locs la hl hD hS)
theorem ga_lstore_n {kk : Fin 4} {i : Nat} {x : Int} {ls' : List (Nat × Value)} (hd : decode M.2.1 pc = .ok (.lstore_n kk, 1)) (hi : (kk : Nat) = i) (hn : i + 1 < M.2.2.1) (hl' : (i, vL x) :: ls.filter (fun q => !(q.1 == i) && (!(q.1 == i + 1) && !(q.1 + 1 == i && q.2.category == 2))) = ls') (k : gAt l G M Qc (pc + 1) ls' (st) σ) : gAt l G M Qc pc ls (vL x :: st) σ := by
  intro p e s m args below meth c s₁ B hml hE H locs la hl hD hS
  exact lv_lstore_n B.exec B.bytes hd hi hl hn hl' (fun la hl => k p e s m args below meth c s₁ B hml hE H locs la hl hD hS)
theorem ga_iinc {i : Nat} {n x : Int} {ls' : List (Nat × Value)} (j : Nat) (hd : decode M.2.1 pc = .ok (.iinc i n, 3)) (hj : ls[j]? = some (i, vI x)) (hn : i < M.2.2.1) (hl' : (i, vI (x + n)) :: ls.filter (fun q => !(q.1 == i) && !(q.1 + 1 == i && q.2.category == 2)) = ls') (k : gAt l G M Qc (pc + 3) ls' (st) σ) : gAt l G M Qc pc ls (st) σ := by
  intro p e s m args below meth c s₁ B hml hE H locs la hl hD hS
  exact lv_iinc B.exec B.bytes hd hl hj (i32_add x n).symm hn hl' (fun la hl => k p e s m args below meth c s₁ B hml hE H locs la hl hD hS)
theorem ga_iadd {x y : Int} (hd : decode M.2.1 pc = .ok (.iadd, 1)) (k : gAt l G M Qc (pc + 1) ls (vI (x + y) :: st) σ) : gAt l G M Qc pc ls (vI y :: vI x :: st) σ := by
  intro p e s m args below meth c s₁ B hml hE H locs la hl hD hS
  have k := k p e s m args below meth c s₁ B hml hE H locs la hl hD hS
  rw [show vI (x + y) = .int (i32 x + i32 y) from congrArg _ (i32_add x y)] at k
  exact lv_iadd B.exec B.bytes hd k
theorem ga_isub {x y : Int} (hd : decode M.2.1 pc = .ok (.isub, 1)) (k : gAt l G M Qc (pc + 1) ls (vI (x - y) :: st) σ) : gAt l G M Qc pc ls (vI y :: vI x :: st) σ := by
  intro p e s m args below meth c s₁ B hml hE H locs la hl hD hS
  have k := k p e s m args below meth c s₁ B hml hE H locs la hl hD hS
  rw [show vI (x - y) = .int (i32 x - i32 y) from congrArg _ (i32_sub x y)] at k
  exact lv_isub B.exec B.bytes hd k
theorem ga_imul {x y : Int} (hd : decode M.2.1 pc = .ok (.imul, 1)) (k : gAt l G M Qc (pc + 1) ls (vI (x * y) :: st) σ) : gAt l G M Qc pc ls (vI y :: vI x :: st) σ := by
  intro p e s m args below meth c s₁ B hml hE H locs la hl hD hS
  have k := k p e s m args below meth c s₁ B hml hE H locs la hl hD hS
  rw [show vI (x * y) = .int (i32 x * i32 y) from congrArg _ (i32_mul x y)] at k
  exact lv_imul B.exec B.bytes hd k
theorem ga_ladd {x y : Int} (hd : decode M.2.1 pc = .ok (.ladd, 1)) (k : gAt l G M Qc (pc + 1) ls (vL (x + y) :: st) σ) : gAt l G M Qc pc ls (vL y :: vL x :: st) σ := by
  intro p e s m args below meth c s₁ B hml hE H locs la hl hD hS
  have k := k p e s m args below meth c s₁ B hml hE H locs la hl hD hS
  rw [show vL (x + y) = .long (i64 x + i64 y) from congrArg _ (i64_add x y)] at k
  exact lv_ladd B.exec B.bytes hd k
theorem ga_lsub {x y : Int} (hd : decode M.2.1 pc = .ok (.lsub, 1)) (k : gAt l G M Qc (pc + 1) ls (vL (x - y) :: st) σ) : gAt l G M Qc pc ls (vL y :: vL x :: st) σ := by
  intro p e s m args below meth c s₁ B hml hE H locs la hl hD hS
  have k := k p e s m args below meth c s₁ B hml hE H locs la hl hD hS
  rw [show vL (x - y) = .long (i64 x - i64 y) from congrArg _ (i64_sub x y)] at k
  exact lv_lsub B.exec B.bytes hd k
theorem ga_lmul {x y : Int} (hd : decode M.2.1 pc = .ok (.lmul, 1)) (k : gAt l G M Qc (pc + 1) ls (vL (x * y) :: st) σ) : gAt l G M Qc pc ls (vL y :: vL x :: st) σ := by
  intro p e s m args below meth c s₁ B hml hE H locs la hl hD hS
  have k := k p e s m args below meth c s₁ B hml hE H locs la hl hD hS
  rw [show vL (x * y) = .long (i64 x * i64 y) from congrArg _ (i64_mul x y)] at k
  exact lv_lmul B.exec B.bytes hd k
theorem ga_iand {x y : Int} (hd : decode M.2.1 pc = .ok (.iand, 1)) (k : gR (gand x y) → gAt l G M Qc (pc + 1) ls (vI (gand x y) :: st) σ) : gAt l G M Qc pc ls (vI y :: vI x :: st) σ := by
  intro p e s m args below meth c s₁ B hml hE H locs la hl hD hS
  have k := k (gR_toInt _) p e s m args below meth c s₁ B hml hE H locs la hl hD hS
  rw [show vI (gand x y) = .int (i32 x &&& i32 y) from congrArg Value.int (i32_of (i32 x &&& i32 y))] at k
  exact lv_iand B.exec B.bytes hd k
theorem ga_ior {x y : Int} (hd : decode M.2.1 pc = .ok (.ior, 1)) (k : gR (gor x y) → gAt l G M Qc (pc + 1) ls (vI (gor x y) :: st) σ) : gAt l G M Qc pc ls (vI y :: vI x :: st) σ := by
  intro p e s m args below meth c s₁ B hml hE H locs la hl hD hS
  have k := k (gR_toInt _) p e s m args below meth c s₁ B hml hE H locs la hl hD hS
  rw [show vI (gor x y) = .int (i32 x ||| i32 y) from congrArg Value.int (i32_of (i32 x ||| i32 y))] at k
  exact lv_ior B.exec B.bytes hd k
theorem ga_ixor {x y : Int} (hd : decode M.2.1 pc = .ok (.ixor, 1)) (k : gR (gxor x y) → gAt l G M Qc (pc + 1) ls (vI (gxor x y) :: st) σ) : gAt l G M Qc pc ls (vI y :: vI x :: st) σ := by
  intro p e s m args below meth c s₁ B hml hE H locs la hl hD hS
  have k := k (gR_toInt _) p e s m args below meth c s₁ B hml hE H locs la hl hD hS
  rw [show vI (gxor x y) = .int (i32 x ^^^ i32 y) from congrArg Value.int (i32_of (i32 x ^^^ i32 y))] at k
  exact lv_ixor B.exec B.bytes hd k
theorem ga_ishl {x y : Int} (hd : decode M.2.1 pc = .ok (.ishl, 1)) (k : gR (gshl x y) → gAt l G M Qc (pc + 1) ls (vI (gshl x y) :: st) σ) : gAt l G M Qc pc ls (vI y :: vI x :: st) σ := by
  intro p e s m args below meth c s₁ B hml hE H locs la hl hD hS
  have k := k (gR_toInt _) p e s m args below meth c s₁ B hml hE H locs la hl hD hS
  rw [show vI (gshl x y) = .int (i32 x <<< (i32 y &&& 31)) from congrArg Value.int (i32_of (i32 x <<< (i32 y &&& 31)))] at k
  exact lv_ishl B.exec B.bytes hd k
theorem ga_ishr {x y : Int} (hd : decode M.2.1 pc = .ok (.ishr, 1)) (k : gR (gshr x y) → gAt l G M Qc (pc + 1) ls (vI (gshr x y) :: st) σ) : gAt l G M Qc pc ls (vI y :: vI x :: st) σ := by
  intro p e s m args below meth c s₁ B hml hE H locs la hl hD hS
  have k := k (gR_toInt _) p e s m args below meth c s₁ B hml hE H locs la hl hD hS
  rw [show vI (gshr x y) = .int (i32 x >>> (i32 y &&& 31)) from congrArg Value.int (i32_of (i32 x >>> (i32 y &&& 31)))] at k
  exact lv_ishr B.exec B.bytes hd k
theorem ga_iushr {x y : Int} (hd : decode M.2.1 pc = .ok (.iushr, 1)) (k : gR (gushr x y) → gAt l G M Qc (pc + 1) ls (vI (gushr x y) :: st) σ) : gAt l G M Qc pc ls (vI y :: vI x :: st) σ := by
  intro p e s m args below meth c s₁ B hml hE H locs la hl hD hS
  exact lv_iushr B.exec B.bytes hd (i32_of _).symm (k (gR_toInt _) p e s m args below meth c s₁ B hml hE H locs la hl hD hS)
theorem ga_i2b {x : Int} (hd : decode M.2.1 pc = .ok (.i2b, 1)) (k : gR (gi2b x) → gAt l G M Qc (pc + 1) ls (vI (gi2b x) :: st) σ) : gAt l G M Qc pc ls (vI x :: st) σ := by
  intro p e s m args below meth c s₁ B hml hE H locs la hl hD hS
  exact lv_i2b B.exec B.bytes hd (i32_of _).symm (k (gR_toInt _) p e s m args below meth c s₁ B hml hE H locs la hl hD hS)
theorem ga_i2l {x : Int} (hd : decode M.2.1 pc = .ok (.i2l, 1)) (hx : gR x) (k : gAt l G M Qc (pc + 1) ls (vL x :: st) σ) : gAt l G M Qc pc ls (vI x :: st) σ := by
  intro p e s m args below meth c s₁ B hml hE H locs la hl hD hS
  refine lv_i2l B.exec B.bytes hd ?_ (k p e s m args below meth c s₁ B hml hE H locs la hl hD hS)
  rw [← i64_of (i32 x).toInt64, Int32.toInt_toInt64, i32_toInt hx]
theorem ga_lor {x y : Int} (hd : decode M.2.1 pc = .ok (.lor, 1)) (k : gRl (glor x y) → gAt l G M Qc (pc + 1) ls (vL (glor x y) :: st) σ) : gAt l G M Qc pc ls (vL y :: vL x :: st) σ := by
  intro p e s m args below meth c s₁ B hml hE H locs la hl hD hS
  have k := k (gRl_toInt _) p e s m args below meth c s₁ B hml hE H locs la hl hD hS
  rw [show vL (glor x y) = .long (i64 x ||| i64 y) from congrArg _ (i64_of _)] at k
  exact lv_lor B.exec B.bytes hd k
theorem ga_lshl {x y : Int} (hd : decode M.2.1 pc = .ok (.lshl, 1)) (k : gRl (glshl x y) → gAt l G M Qc (pc + 1) ls (vL (glshl x y) :: st) σ) : gAt l G M Qc pc ls (vI y :: vL x :: st) σ := by
  intro p e s m args below meth c s₁ B hml hE H locs la hl hD hS
  exact lv_lshl B.exec B.bytes hd (i64_of _).symm (k (gRl_toInt _) p e s m args below meth c s₁ B hml hE H locs la hl hD hS)
theorem ga_lcmp {x y : Int} (hd : decode M.2.1 pc = .ok (.lcmp, 1)) (k : gR (glcmp x y) → gAt l G M Qc (pc + 1) ls (vI (glcmp x y) :: st) σ) : gAt l G M Qc pc ls (vL y :: vL x :: st) σ := by
  intro p e s m args below meth c s₁ B hml hE H locs la hl hD hS
  have k := k (gR_toInt _) p e s m args below meth c s₁ B hml hE H locs la hl hD hS
  rw [show vI (glcmp x y) = .int (lg_cmp (i64 x) (i64 y)) from congrArg _ (i32_of _)] at k
  exact W.lcmp B.exec B.bytes hd k
theorem ga_idiv {x y : Int} (hd : decode M.2.1 pc = .ok (.idiv, 1)) (hy : gR y) (h0 : y ≠ 0) (k : gR (gdiv x y) → gAt l G M Qc (pc + 1) ls (vI (gdiv x y) :: st) σ) : gAt l G M Qc pc ls (vI y :: vI x :: st) σ := by
  intro p e s m args below meth c s₁ B hml hE H locs la hl hD hS
  have k := k (gR_toInt _) p e s m args below meth c s₁ B hml hE H locs la hl hD hS
  rw [show vI (gdiv x y) = .int (i32 x / i32 y) from congrArg Value.int (i32_of (i32 x / i32 y))] at k
  exact lv_idiv B.exec B.bytes hd (fun h => h0 ((i32_eq hy (by decide)).mp h)) k
theorem ga_irem {x y : Int} (hd : decode M.2.1 pc = .ok (.irem, 1)) (hy : gR y) (h0 : y ≠ 0) (k : gR (grem x y) → gAt l G M Qc (pc + 1) ls (vI (grem x y) :: st) σ) : gAt l G M Qc pc ls (vI y :: vI x :: st) σ := by
  intro p e s m args below meth c s₁ B hml hE H locs la hl hD hS
  have k := k (gR_toInt _) p e s m args below meth c s₁ B hml hE H locs la hl hD hS
  rw [show vI (grem x y) = .int (i32 x - i32 x / i32 y * i32 y) from congrArg Value.int (i32_of (i32 x - i32 x / i32 y * i32 y))] at k
  exact lv_irem B.exec B.bytes hd (fun h => h0 ((i32_eq hy (by decide)).mp h)) k
theorem ga_dup {va : Value} (hd : decode M.2.1 pc = .ok (.dup, 1)) (hc : va.category = 1) (k : gAt l G M Qc (pc + 1) ls (va :: va :: st) σ) : gAt l G M Qc pc ls (va :: st) σ := by
  intro p e s m args below meth c s₁ B hml hE H locs la hl hD hS
  exact lv_dup B.exec B.bytes hd hc (k p e s m args below meth c s₁ B hml hE H locs la hl hD hS)
theorem ga_dup2 {va vb : Value} (hd : decode M.2.1 pc = .ok (.dup2, 1)) (hc : va.category = 1) (hc2 : vb.category = 1) (k : gAt l G M Qc (pc + 1) ls (va :: vb :: va :: vb :: st) σ) : gAt l G M Qc pc ls (va :: vb :: st) σ := by
  intro p e s m args below meth c s₁ B hml hE H locs la hl hD hS
  exact lv_dup2_11 B.exec B.bytes hd hc hc2 (k p e s m args below meth c s₁ B hml hE H locs la hl hD hS)
theorem ga_pop {va : Value} (hd : decode M.2.1 pc = .ok (.pop, 1)) (hc : va.category = 1) (k : gAt l G M Qc (pc + 1) ls (st) σ) : gAt l G M Qc pc ls (va :: st) σ := by
  intro p e s m args below meth c s₁ B hml hE H locs la hl hD hS
  exact lv_pop B.exec B.bytes hd hc (k p e s m args below meth c s₁ B hml hE H locs la hl hD hS)
theorem ga_goto {off : Int} {tgt : Nat} (hd : decode M.2.1 pc = .ok (.goto off, 3)) (ht : (pc : Int) + off = (tgt : Int)) (k : gAt l G M Qc tgt ls (st) σ) : gAt l G M Qc pc ls (st) σ := by
  intro p e s m args below meth c s₁ B hml hE H locs la hl hD hS
  exact lv_goto B.exec B.bytes hd ht (k p e s m args below meth c s₁ B hml hE H locs la hl hD hS)
theorem ga_icmp_eq {x y : Int} {off : Int} {tgt : Nat} (hd : decode M.2.1 pc = .ok (.if_icmp .eq off, 3)) (ht : (pc : Int) + off = (tgt : Int)) (hx : gR x) (hy : gR y) (kt : x = y → gAt l G M Qc tgt ls (st) σ) (kf : ¬ (x = y) → gAt l G M Qc (pc + 3) ls (st) σ) : gAt l G M Qc pc ls (vI y :: vI x :: st) σ := by
  intro p e s m args below meth c s₁ B hml hE H locs la hl hD hS
  exact lv_icmp_eq B.exec B.bytes hd ht (fun q => kt ((i32_eq hx hy).mp q) p e s m args below meth c s₁ B hml hE H locs la hl hD hS) (fun q => kf (fun e9 => q ((i32_eq hx hy).mpr e9)) p e s m args below meth c s₁ B hml hE H locs la hl hD hS)
theorem ga_if_eq {x : Int} {off : Int} {tgt : Nat} (hd : decode M.2.1 pc = .ok (.ifCond .eq off, 3)) (ht : (pc : Int) + off = (tgt : Int)) (hx : gR x) (kt : x = 0 → gAt l G M Qc tgt ls (st) σ) (kf : ¬ (x = 0) → gAt l G M Qc (pc + 3) ls (st) σ) : gAt l G M Qc pc ls (vI x :: st) σ := by
  intro p e s m args below meth c s₁ B hml hE H locs la hl hD hS
  exact lv_if_eq B.exec B.bytes hd ht (fun q => kt ((i32_eq hx (show gR 0 by decide)).mp q) p e s m args below meth c s₁ B hml hE H locs la hl hD hS) (fun q => kf (fun e9 => q ((i32_eq hx (show gR 0 by decide)).mpr e9)) p e s m args below meth c s₁ B hml hE H locs la hl hD hS)
theorem ga_icmp_ne {x y : Int} {off : Int} {tgt : Nat} (hd : decode M.2.1 pc = .ok (.if_icmp .ne off, 3)) (ht : (pc : Int) + off = (tgt : Int)) (hx : gR x) (hy : gR y) (kt : ¬ x = y → gAt l G M Qc tgt ls (st) σ) (kf : ¬ (¬ x = y) → gAt l G M Qc (pc + 3) ls (st) σ) : gAt l G M Qc pc ls (vI y :: vI x :: st) σ := by
  intro p e s m args below meth c s₁ B hml hE H locs la hl hD hS
  exact lv_icmp_ne B.exec B.bytes hd ht (fun q => kt (fun e9 => q ((i32_eq hx hy).mpr e9)) p e s m args below meth c s₁ B hml hE H locs la hl hD hS) (fun q => kf (fun e9 => e9 ((i32_eq hx hy).mp q)) p e s m args below meth c s₁ B hml hE H locs la hl hD hS)
theorem ga_if_ne {x : Int} {off : Int} {tgt : Nat} (hd : decode M.2.1 pc = .ok (.ifCond .ne off, 3)) (ht : (pc : Int) + off = (tgt : Int)) (hx : gR x) (kt : ¬ x = 0 → gAt l G M Qc tgt ls (st) σ) (kf : ¬ (¬ x = 0) → gAt l G M Qc (pc + 3) ls (st) σ) : gAt l G M Qc pc ls (vI x :: st) σ := by
  intro p e s m args below meth c s₁ B hml hE H locs la hl hD hS
  exact lv_if_ne B.exec B.bytes hd ht (fun q => kt (fun e9 => q ((i32_eq hx (show gR 0 by decide)).mpr e9)) p e s m args below meth c s₁ B hml hE H locs la hl hD hS) (fun q => kf (fun e9 => e9 ((i32_eq hx (show gR 0 by decide)).mp q)) p e s m args below meth c s₁ B hml hE H locs la hl hD hS)
theorem ga_icmp_lt {x y : Int} {off : Int} {tgt : Nat} (hd : decode M.2.1 pc = .ok (.if_icmp .lt off, 3)) (ht : (pc : Int) + off = (tgt : Int)) (hx : gR x) (hy : gR y) (kt : x < y → gAt l G M Qc tgt ls (st) σ) (kf : ¬ (x < y) → gAt l G M Qc (pc + 3) ls (st) σ) : gAt l G M Qc pc ls (vI y :: vI x :: st) σ := by
  intro p e s m args below meth c s₁ B hml hE H locs la hl hD hS
  exact lv_icmp_lt B.exec B.bytes hd ht (fun q => kt ((i32_lt hx hy).mp q) p e s m args below meth c s₁ B hml hE H locs la hl hD hS) (fun q => kf (fun e9 => q ((i32_lt hx hy).mpr e9)) p e s m args below meth c s₁ B hml hE H locs la hl hD hS)
theorem ga_if_lt {x : Int} {off : Int} {tgt : Nat} (hd : decode M.2.1 pc = .ok (.ifCond .lt off, 3)) (ht : (pc : Int) + off = (tgt : Int)) (hx : gR x) (kt : x < 0 → gAt l G M Qc tgt ls (st) σ) (kf : ¬ (x < 0) → gAt l G M Qc (pc + 3) ls (st) σ) : gAt l G M Qc pc ls (vI x :: st) σ := by
  intro p e s m args below meth c s₁ B hml hE H locs la hl hD hS
  exact lv_if_lt B.exec B.bytes hd ht (fun q => kt ((i32_lt hx (show gR 0 by decide)).mp q) p e s m args below meth c s₁ B hml hE H locs la hl hD hS) (fun q => kf (fun e9 => q ((i32_lt hx (show gR 0 by decide)).mpr e9)) p e s m args below meth c s₁ B hml hE H locs la hl hD hS)
theorem ga_icmp_ge {x y : Int} {off : Int} {tgt : Nat} (hd : decode M.2.1 pc = .ok (.if_icmp .ge off, 3)) (ht : (pc : Int) + off = (tgt : Int)) (hx : gR x) (hy : gR y) (kt : y ≤ x → gAt l G M Qc tgt ls (st) σ) (kf : ¬ (y ≤ x) → gAt l G M Qc (pc + 3) ls (st) σ) : gAt l G M Qc pc ls (vI y :: vI x :: st) σ := by
  intro p e s m args below meth c s₁ B hml hE H locs la hl hD hS
  exact lv_icmp_ge B.exec B.bytes hd ht (fun q => kt ((i32_le hy hx).mp q) p e s m args below meth c s₁ B hml hE H locs la hl hD hS) (fun q => kf (fun e9 => q ((i32_le hy hx).mpr e9)) p e s m args below meth c s₁ B hml hE H locs la hl hD hS)
theorem ga_if_ge {x : Int} {off : Int} {tgt : Nat} (hd : decode M.2.1 pc = .ok (.ifCond .ge off, 3)) (ht : (pc : Int) + off = (tgt : Int)) (hx : gR x) (kt : 0 ≤ x → gAt l G M Qc tgt ls (st) σ) (kf : ¬ (0 ≤ x) → gAt l G M Qc (pc + 3) ls (st) σ) : gAt l G M Qc pc ls (vI x :: st) σ := by
  intro p e s m args below meth c s₁ B hml hE H locs la hl hD hS
  exact lv_if_ge B.exec B.bytes hd ht (fun q => kt ((i32_le (show gR 0 by decide) hx).mp q) p e s m args below meth c s₁ B hml hE H locs la hl hD hS) (fun q => kf (fun e9 => q ((i32_le (show gR 0 by decide) hx).mpr e9)) p e s m args below meth c s₁ B hml hE H locs la hl hD hS)
theorem ga_icmp_gt {x y : Int} {off : Int} {tgt : Nat} (hd : decode M.2.1 pc = .ok (.if_icmp .gt off, 3)) (ht : (pc : Int) + off = (tgt : Int)) (hx : gR x) (hy : gR y) (kt : y < x → gAt l G M Qc tgt ls (st) σ) (kf : ¬ (y < x) → gAt l G M Qc (pc + 3) ls (st) σ) : gAt l G M Qc pc ls (vI y :: vI x :: st) σ := by
  intro p e s m args below meth c s₁ B hml hE H locs la hl hD hS
  exact lv_icmp_gt B.exec B.bytes hd ht (fun q => kt ((i32_lt hy hx).mp q) p e s m args below meth c s₁ B hml hE H locs la hl hD hS) (fun q => kf (fun e9 => q ((i32_lt hy hx).mpr e9)) p e s m args below meth c s₁ B hml hE H locs la hl hD hS)
theorem ga_if_gt {x : Int} {off : Int} {tgt : Nat} (hd : decode M.2.1 pc = .ok (.ifCond .gt off, 3)) (ht : (pc : Int) + off = (tgt : Int)) (hx : gR x) (kt : 0 < x → gAt l G M Qc tgt ls (st) σ) (kf : ¬ (0 < x) → gAt l G M Qc (pc + 3) ls (st) σ) : gAt l G M Qc pc ls (vI x :: st) σ := by
  intro p e s m args below meth c s₁ B hml hE H locs la hl hD hS
  exact lv_if_gt B.exec B.bytes hd ht (fun q => kt ((i32_lt (show gR 0 by decide) hx).mp q) p e s m args below meth c s₁ B hml hE H locs la hl hD hS) (fun q => kf (fun e9 => q ((i32_lt (show gR 0 by decide) hx).mpr e9)) p e s m args below meth c s₁ B hml hE H locs la hl hD hS)
theorem ga_icmp_le {x y : Int} {off : Int} {tgt : Nat} (hd : decode M.2.1 pc = .ok (.if_icmp .le off, 3)) (ht : (pc : Int) + off = (tgt : Int)) (hx : gR x) (hy : gR y) (kt : x ≤ y → gAt l G M Qc tgt ls (st) σ) (kf : ¬ (x ≤ y) → gAt l G M Qc (pc + 3) ls (st) σ) : gAt l G M Qc pc ls (vI y :: vI x :: st) σ := by
  intro p e s m args below meth c s₁ B hml hE H locs la hl hD hS
  exact lv_icmp_le B.exec B.bytes hd ht (fun q => kt ((i32_le hx hy).mp q) p e s m args below meth c s₁ B hml hE H locs la hl hD hS) (fun q => kf (fun e9 => q ((i32_le hx hy).mpr e9)) p e s m args below meth c s₁ B hml hE H locs la hl hD hS)
theorem ga_if_le {x : Int} {off : Int} {tgt : Nat} (hd : decode M.2.1 pc = .ok (.ifCond .le off, 3)) (ht : (pc : Int) + off = (tgt : Int)) (hx : gR x) (kt : x ≤ 0 → gAt l G M Qc tgt ls (st) σ) (kf : ¬ (x ≤ 0) → gAt l G M Qc (pc + 3) ls (st) σ) : gAt l G M Qc pc ls (vI x :: st) σ := by
  intro p e s m args below meth c s₁ B hml hE H locs la hl hD hS
  exact lv_if_le B.exec B.bytes hd ht (fun q => kt ((i32_le hx (show gR 0 by decide)).mp q) p e s m args below meth c s₁ B hml hE H locs la hl hD hS) (fun q => kf (fun e9 => q ((i32_le hx (show gR 0 by decide)).mpr e9)) p e s m args below meth c s₁ B hml hE H locs la hl hD hS)
end GA
