/-- what the Statement gives of the start, word by word -/
def eFl : List Cond := flatC (Jvm.Cond.and given_1 narrow_1)
def tmS (k : Nat) : Term := .string RX7 (gstr.getD k (0, "")).1
theorem st_sz : ∀ k, k < 4 → (gsta.getD k ("", [])).2.length < 2 ^ 31 := by decide +kernel
theorem st_arr : ∀ k, k < 4 → Cond.arrayOf (.static RX7 (gsta.getD k ("", [])).1 "[I") .int ∈ eFl ∧ Cond.eq (.length (.static RX7 (gsta.getD k ("", [])).1 "[I")) (.int (Int32.ofNat (gsta.getD k ("", [])).2.length)) ∈ eFl := by decide +kernel
theorem st_el : ∀ k, k < 4 → ∀ j, j < (gsta.getD k ("", [])).2.length → Cond.eq (.elem (.static RX7 (gsta.getD k ("", [])).1 "[I") (.int (Int32.ofNat j))) (.int (i32 ((gsta.getD k ("", [])).2.getD j 0))) ∈ eFl := by decide +kernel
theorem sr_n : ∀ i, i < 11 → gstrLen.getD i 0 < 2 ^ 31 := by decide +kernel
theorem sr_ex : ∀ i, i < 11 → Cond.exactly (tmS i) "java/lang/String" ∈ eFl := by decide +kernel
theorem sr_co : ∀ i, i < 11 → Cond.eq (.field (tmS i) "java/lang/String" "coder" "B") (.int 0) ∈ eFl := by decide +kernel
theorem sr_ar : ∀ i, i < 11 → Cond.arrayOf (.field (tmS i) "java/lang/String" "value" "[B") .byte ∈ eFl := by decide +kernel
theorem sr_le : ∀ i, i < 11 → Cond.eq (.length (.field (tmS i) "java/lang/String" "value" "[B")) (.int (Int32.ofNat (gstrLen.getD i 0))) ∈ eFl := by decide +kernel
theorem sr_el : ∀ i, i < 11 → ∀ j, j < gstrLen.getD i 0 → Cond.eq (.elem (.field (tmS i) "java/lang/String" "value" "[B") (.int (Int32.ofNat j))) (.int ((gstrByt.getD i []).getD j 0)) ∈ eFl := by decide +kernel
theorem sr_ne : ∀ i, i < 11 → ∀ j, j < 11 → i ≠ j → Cond.not (Cond.eq (tmS i) (tmS j)) ∈ eFl ∨ Cond.not (Cond.eq (tmS j) (tmS i)) ∈ eFl := by decide +kernel
theorem st_cs : Cond.eq (.static "java/lang/String" "COMPACT_STRINGS" "Z") (.int 1) ∈ eFl ∧ Cond.isRef (.static "jdk/internal/util/Preconditions" "SIOOBE_FORMATTER" "Ljava/util/function/BiFunction;") ∈ eFl := by decide +kernel
set_option maxRecDepth 100000 in
theorem we_cs : Cond.laysStatic "java/lang/String" "COMPACT_STRINGS" "Z" ∈ lw_tbl := List.mem_of_getElem? (i := 674) rfl
set_option maxRecDepth 100000 in
theorem we_sf : Cond.laysStatic "jdk/internal/util/Preconditions" "SIOOBE_FORMATTER" "Ljava/util/function/BiFunction;" ∈ lw_tbl := List.mem_of_getElem? (i := 690) rfl
set_option maxRecDepth 100000 in
theorem we_is : Cond.initialized "java/lang/String" ∈ lw_tbl := List.mem_of_getElem? (i := 140) rfl
set_option maxRecDepth 100000 in
theorem we_ip : Cond.initialized "jdk/internal/util/Preconditions" ∈ lw_tbl := List.mem_of_getElem? (i := 142) rfl
set_option maxRecDepth 100000 in
theorem we_ir : Cond.initialized RX7 ∈ lw_tbl := List.mem_of_getElem? (i := 128) rfl
set_option maxRecDepth 100000 in
theorem we_ov : Cond.arrayOver (.object RX10) ∈ lw_tbl := List.mem_of_getElem? (i := 192) rfl
set_option maxRecDepth 100000 in
theorem we_aint : Cond.arrayClass .int ∈ lw_tbl := List.mem_of_getElem? (i := 191) rfl
set_option maxRecDepth 100000 in
theorem we_abyte : Cond.arrayClass .byte ∈ lw_tbl := List.mem_of_getElem? (i := 190) rfl
set_option maxRecDepth 100000 in
theorem we_aboolean : Cond.arrayClass .boolean ∈ lw_tbl := List.mem_of_getElem? (i := 241) rfl
set_option maxRecDepth 100000 in
theorem we_along : Cond.arrayClass .long ∈ lw_tbl := List.mem_of_getElem? (i := 457) rfl
set_option maxRecDepth 100000 in
theorem st_lay : ∀ k, k < 4 → Cond.laysStatic RX7 (gsta.getD k ("", [])).1 "[I" ∈ lw_tbl := by
  intro k hk
  match k, hk with
  | 0, _ => exact List.mem_of_getElem? (i := 646) rfl
  | 1, _ => exact List.mem_of_getElem? (i := 725) rfl
  | 2, _ => exact List.mem_of_getElem? (i := 731) rfl
  | 3, _ => exact List.mem_of_getElem? (i := 733) rfl
  | k + 4, h => exact absurd h (by omega)
set_option maxRecDepth 100000 in
theorem sr_rf : ∀ k, k < 11 → Cond.stringRef RX7 (gstr.getD k (0, "")).1 (gstr.getD k (0, "")).2 ∈ lw_tbl := by
  intro k hk
  match k, hk with
  | 0, _ => exact List.mem_of_getElem? (i := 650) rfl
  | 1, _ => exact List.mem_of_getElem? (i := 651) rfl
  | 2, _ => exact List.mem_of_getElem? (i := 652) rfl
  | 3, _ => exact List.mem_of_getElem? (i := 653) rfl
  | 4, _ => exact List.mem_of_getElem? (i := 654) rfl
  | 5, _ => exact List.mem_of_getElem? (i := 655) rfl
  | 6, _ => exact List.mem_of_getElem? (i := 656) rfl
  | 7, _ => exact List.mem_of_getElem? (i := 657) rfl
  | 8, _ => exact List.mem_of_getElem? (i := 658) rfl
  | 9, _ => exact List.mem_of_getElem? (i := 659) rfl
  | 10, _ => exact List.mem_of_getElem? (i := 660) rfl
  | k + 11, h => exact absurd h (by omega)
set_option maxRecDepth 100000 in
theorem nest_ok : ∀ q ∈ gnest, Cond.methodLinkNest q.1 q.2.1 q.2.2 "CrossbarHouse" ∈ lw_tbl := List.forall_mem_cons.mpr ⟨List.mem_of_getElem? (i := 993) rfl, List.forall_mem_cons.mpr ⟨List.mem_of_getElem? (i := 866) rfl, List.forall_mem_cons.mpr ⟨List.mem_of_getElem? (i := 867) rfl, List.forall_mem_cons.mpr ⟨List.mem_of_getElem? (i := 874) rfl, List.forall_mem_cons.mpr ⟨List.mem_of_getElem? (i := 844) rfl, fun _ h => absurd h List.not_mem_nil⟩⟩⟩⟩⟩
theorem env_stat {s : State} {b : Nat} {A : Nat → Prop} (hts : ∀ w ∈ lw_tbl, w.before #[Value.ref b] s = true) (hgv : (Jvm.Cond.and given_1 narrow_1).before #[Value.ref b] s = true) (hA : ∀ a : Nat, a < s.heap.size → ¬ A a) :
    ∃ sta sK sV : Nat → Nat, ∀ (D : va_G) (ad : Nat → Nat) (cA : FieldType → ClassId), gStat (D, ad, cA, A, sta, sK, sV) s s.heap := by
  have hs : ∀ c ∈ eFl, c.before #[Value.ref b] s = true := flat_of_before _ hgv
  have h1 : ∀ k : Nat, ∃ t : Nat, k < 4 → (Term.static RX7 (gsta.getD k ("", [])).1 "[I").eval #[Value.ref b] s none [] s = some (.ref t) ∧ va_T .int t (gsta.getD k ("", [])).2.length (fun j => vI ((gsta.getD k ("", [])).2.getD j 0)) A s s.heap := by
    intro k
    by_cases hk : k < 4
    · obtain ⟨t, h⟩ := va_Tof (tm := .static RX7 (gsta.getD k ("", [])).1 "[I") (ty := .int) (N := (gsta.getD k ("", [])).2.length) (f := fun j => vI ((gsta.getD k ("", [])).2.getD j 0)) (A := A) (st_sz k hk) (hs _ (st_arr k hk).1) (va_eqt (hs _ (st_arr k hk).2)) (fun j hj => va_eqt (hs _ (st_el k hk j hj))) hA
      exact ⟨t, fun _ => h⟩
    · exact ⟨0, fun h => absurd h hk⟩
  obtain ⟨sta, hsta⟩ := Classical.axiomOfChoice h1
  obtain ⟨sK, sV, hS1, hS2⟩ := vk_Sof (N := 11) (tm := tmS) (len := gstrLen) (byt := gstrByt) (A := A) sr_n (fun i hi => hs _ (sr_ex i hi)) (fun i hi => hs _ (sr_co i hi)) (fun i hi => hs _ (sr_ar i hi)) (fun i hi => hs _ (sr_le i hi)) (fun i hi j hj => hs _ (sr_el i hi j hj)) (fun i j hi hj hn => (sr_ne i hi j hj hn).elim (fun h => Or.inl (hs _ h)) (fun h => Or.inr (hs _ h))) hA
  refine ⟨sta, sK, sV, fun D ad cA => ⟨fun k q hk => ?_, fun k q hk => ?_, hS1, fun q hq => va_Nw.of rfl (hts _ (nest_ok q hq)), va_Zof (hts _ we_cs) (hts _ we_is) (va_eqi (hs _ st_cs.1)) hA, va_Zqof (hts _ we_sf) (hts _ we_ip) (hs _ st_cs.2) hA⟩⟩
  · have hk4 : k < 4 := (List.getElem?_eq_some_iff.mp hk).1
    have e : gsta.getD k ("", []) = q := by rw [List.getD_eq_getElem?_getD, hk]; rfl
    have hl := st_lay k hk4
    obtain ⟨g1, g2⟩ := hsta k hk4
    rw [e] at g1 g2 hl
    exact ⟨va_Zof (hts _ hl) (hts _ we_ir) g1 hA, g2⟩
  · have hk11 : k < 11 := (List.getElem?_eq_some_iff.mp hk).1
    have e : gstr.getD k (0, "") = q := by rw [List.getD_eq_getElem?_getD, hk]; rfl
    have hr := sr_rf k hk11
    have h2 := hS2 k hk11
    unfold tmS at h2
    rw [e] at hr h2
    exact vk_R.of (hts _ hr) h2
set_option maxRecDepth 100000 in
theorem wi_X0 : Cond.instantiable RX0 8 ∈ gTbl := gT_of 249 rfl rfl
set_option maxRecDepth 100000 in
theorem wi_X1 : Cond.instantiable RX1 6 ∈ gTbl := gT_of 532 rfl rfl
set_option maxRecDepth 100000 in
theorem wi_X2 : Cond.instantiable RX2 6 ∈ gTbl := gT_of 431 rfl rfl
set_option maxRecDepth 100000 in
theorem wi_X3 : Cond.instantiable RX3 2 ∈ gTbl := gT_of 459 rfl rfl
set_option maxRecDepth 100000 in
theorem wi_X4 : Cond.instantiable RX4 8 ∈ gTbl := gT_of 313 rfl rfl
set_option maxRecDepth 100000 in
theorem wi_X5 : Cond.instantiable RX5 3 ∈ gTbl := gT_of 516 rfl rfl
set_option maxRecDepth 100000 in
theorem wi_X6 : Cond.instantiable RX6 4 ∈ gTbl := gT_of 287 rfl rfl
set_option maxRecDepth 100000 in
theorem wi_X7 : Cond.instantiable RX7 12 ∈ gTbl := gT_of 194 rfl rfl
set_option maxRecDepth 100000 in
theorem wi_X8 : Cond.instantiable RX8 19 ∈ gTbl := gT_of 243 rfl rfl
set_option maxRecDepth 100000 in
theorem wi_X9 : Cond.instantiable RX9 12 ∈ gTbl := gT_of 472 rfl rfl
set_option maxRecDepth 100000 in
theorem wi_X10 : Cond.instantiable RX10 8 ∈ gTbl := gT_of 155 rfl rfl
set_option maxRecDepth 100000 in
theorem wi_X11 : Cond.instantiable RX11 10 ∈ gTbl := gT_of 147 rfl rfl
set_option maxRecDepth 100000 in
theorem wi_X12 : Cond.instantiable RX12 69 ∈ gTbl := gT_of 1232 rfl rfl
theorem env_known {s : State} {args : Array Value} (htg : ∀ w ∈ gTbl, w.before args s = true) : ∃ D : va_G, ∀ (c : Nat) (q : vw_C), gCl[c]? = some q → u_Kn s q.1 q.2.1 q.2.2 (D.1 c) (D.2 c) := by
  have h1 : ∀ (c : Nat) (q : vw_C), gCl[c]? = some q → ∃ p : ClassId × (Nat → Nat), u_Kn s q.1 q.2.1 q.2.2 p.1 p.2 := by
    intro c q hq
    match c, hq with
    | 0, hq => cases hq; obtain ⟨a, i0, h⟩ := u_known (n := 8) htg gin_X0 (htg _ wi_X0); exact ⟨(a, i0), h⟩
    | 1, hq => cases hq; obtain ⟨a, i0, h⟩ := u_known (n := 6) htg gin_X1 (htg _ wi_X1); exact ⟨(a, i0), h⟩
    | 2, hq => cases hq; obtain ⟨a, i0, h⟩ := u_known (n := 6) htg gin_X2 (htg _ wi_X2); exact ⟨(a, i0), h⟩
    | 3, hq => cases hq; obtain ⟨a, i0, h⟩ := u_known (n := 2) htg gin_X3 (htg _ wi_X3); exact ⟨(a, i0), h⟩
    | 4, hq => cases hq; obtain ⟨a, i0, h⟩ := u_known (n := 8) htg gin_X4 (htg _ wi_X4); exact ⟨(a, i0), h⟩
    | 5, hq => cases hq; obtain ⟨a, i0, h⟩ := u_known (n := 3) htg gin_X5 (htg _ wi_X5); exact ⟨(a, i0), h⟩
    | 6, hq => cases hq; obtain ⟨a, i0, h⟩ := u_known (n := 4) htg gin_X6 (htg _ wi_X6); exact ⟨(a, i0), h⟩
    | 7, hq => cases hq; obtain ⟨a, i0, h⟩ := u_known (n := 12) htg gin_X7 (htg _ wi_X7); exact ⟨(a, i0), h⟩
    | 8, hq => cases hq; obtain ⟨a, i0, h⟩ := u_known (n := 19) htg gin_X8 (htg _ wi_X8); exact ⟨(a, i0), h⟩
    | 9, hq => cases hq; obtain ⟨a, i0, h⟩ := u_known (n := 12) htg gin_X9 (htg _ wi_X9); exact ⟨(a, i0), h⟩
    | 10, hq => cases hq; obtain ⟨a, i0, h⟩ := u_known (n := 8) htg gin_X10 (htg _ wi_X10); exact ⟨(a, i0), h⟩
    | 11, hq => cases hq; obtain ⟨a, i0, h⟩ := u_known (n := 10) htg gin_X11 (htg _ wi_X11); exact ⟨(a, i0), h⟩
    | 12, hq => cases hq; obtain ⟨a, i0, h⟩ := u_known (n := 69) htg gin_X12 (htg _ wi_X12); exact ⟨(a, i0), h⟩
    | c + 13, hq => simp [gCl] at hq
  have h2 : ∀ c : Nat, ∃ p : ClassId × (Nat → Nat), ∀ q : vw_C, gCl[c]? = some q → u_Kn s q.1 q.2.1 q.2.2 p.1 p.2 := by
    intro c
    cases hq : gCl[c]? with
    | none => exact ⟨(0, fun _ => 0), fun q h => by cases h⟩
    | some q =>
      obtain ⟨p, h⟩ := h1 c q hq
      exact ⟨p, fun q' h' => by cases h'; exact h⟩
  obtain ⟨f, hf⟩ := Classical.axiomOfChoice h2
  exact ⟨(fun c => (f c).1, fun c => (f c).2), fun c q h => hf c q h⟩
theorem env_arr {s : State} {b : Nat} (hts : ∀ w ∈ lw_tbl, w.before #[Value.ref b] s = true) : ∃ cA : FieldType → ClassId, ∀ (k : Nat) (q : ClassId × FieldType), (ntys cA)[k]? = some q → ArrOfT s q.1 q.2 ∧ va_RA s q.1 q.2 := by
  obtain ⟨cI, kI, pI, i1, i2, i3⟩ := Cond.arrayClass_spec (hts _ we_aint)
  obtain ⟨cB, kB, pB, b1, b2, b3⟩ := Cond.arrayClass_spec (hts _ we_abyte)
  obtain ⟨cZ, kZ, pZ, z1, z2, z3⟩ := Cond.arrayClass_spec (hts _ we_aboolean)
  obtain ⟨cJ, kJ, pJ, j1, j2, j3⟩ := Cond.arrayClass_spec (hts _ we_along)
  obtain ⟨pO, cO, kO, o1, o2, o3, o4, o5⟩ := Cond.arrayOver_spec (hts _ we_ov)
  refine ⟨fun ty => match ty with | .int => cI | .byte => cB | .boolean => cZ | .long => cJ | _ => cO, fun k q hq => ?_⟩
  match k, hq with
  | 0, hq => cases hq; exact ⟨fun n z => ⟨fun k h => (by cases h), kI, i2, pI, i3⟩, i1⟩
  | 1, hq => cases hq; exact ⟨fun n z => ⟨fun k h => (by cases h), kB, b2, pB, b3⟩, b1⟩
  | 2, hq => cases hq; exact ⟨fun n z => ⟨fun k h => (by cases h), kZ, z2, pZ, z3⟩, z1⟩
  | 3, hq => cases hq; exact ⟨fun n z => ⟨fun k h => (by cases h), kJ, j2, pJ, j3⟩, j1⟩
  | 4, hq => cases hq; exact ⟨fun n z => ⟨fun k h => (by cases h), kO, o3, pO, o4⟩, kO, pO, o3, o4, o1, o5⟩
  | k + 5, hq => simp [ntys] at hq
