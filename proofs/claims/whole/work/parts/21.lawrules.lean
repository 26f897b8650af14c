def R_law : String := "CrossbarHouseLaw"
def lw_P (b : Addr) (xs : List Int32) (args : Array Value) (s : State) : Prop := args = #[.ref b] ∧ s.IntsAt b xs ∧ xs.length ≤ 3072 ∧ (Jvm.Cond.and given_1 narrow_1).before args s = true
def lw_Q (_ : Array Value) (s : State) (o : Outcome) (t : State) : Prop := o = .returned (some (.int 1)) ∧ Framed s o t [] 600000 7302250
def lw_Z (below : List Frame) (a : Array Value) (s : State) : State → Prop := fun t => ∃ o, t.status = .running ∧ Ended t below o ∧ lw_Q a s o t
/-- the law's own end, with 1 on the stack, nothing written that was there before, its room as the claim has it -/
theorem lw_ret {p : Program} {l : Launch} {e : Env} {s : State} {m : MethodId} {below : List Frame} {meth : Method} {c : Code} {b : Nat} (hx : p.tables.exec = Jvm.exec) (hb : c.code = code) (hr : meth.sig.returnType = ret) (hlocks : meth.locks = false) {pc : Nat} {H : Heap} {ls : Array Slot} (hdg : decode code pc = .ok (.ireturn, 1)) : W p l e room_1 s m #[Value.ref b] below meth c H [] 600000 7302250 (lw_Z below #[Value.ref b] s) (F0 m pc ls [.int 1]) := by
  intro T hT X
  obtain ⟨fs, hret, hrun, hended, hW, hframe⟩ := X.leave (v := some (.int 1)) (hlocks := hlocks) (fun h => by rw [hr] at h; cases h)
  have hmeth' : T.vm.method? m = some meth := X.method'
  refine ⟨T.setFrames fs, ?_, .returned (some (.int 1)), hrun, hended, rfl, ⟨_, rfl⟩, hW, hframe⟩
  jvm_step X.here [X.here.top, hx, hb, hdg, hmeth', hr, ret, narrow_b1]
  (try refine ⟨rfl, ?_⟩); (try refine ⟨rfl, ?_⟩)
  first | (intro acts; rw [hret _ acts rfl rfl rfl]) | rw [hret _ _ rfl rfl rfl]
  exact Steps.refl _
/-- what holds at the law's entry: the machine, the code, the tables' words (any of lw_tbl by 'hts w (by decide +kernel)'), the script of L ints xs at the cell b, what the Statement gives of the start (any of its parts by flat_of_before) -/
def lw_At (p : Program) (s : State) (m : MethodId) (meth : Method) (c : Code) (b L : Nat) (xs : Nat → Int32) : Prop :=
  p.tables.exec = Jvm.exec ∧ c.code = code ∧ meth.sig.returnType = ret ∧ c.maxLocals = 4 ∧ s.vm.findClass R_law = some m.cls ∧ (∀ w ∈ lw_tbl, w.before #[Value.ref b] s = true) ∧ va_X b L xs s s.heap ∧ b < s.heap.size ∧ meth.locks = false ∧ (Jvm.Cond.and given_1 narrow_1).before #[Value.ref b] s = true
/-- a point of the law's loop over the store -/
def lAt (l : Launch) (G : gG) (b L : Nat) (xs : Nat → Int32) (pc : Nat) (ls : List (Nat × Value)) (st : List Value) (σ : gS) : Prop :=
  ∀ (p : Program) (e : Env) (s : State) (m : MethodId) (below : List Frame) (meth : Method) (c : Code), lw_At p s m meth c b L xs → gEnv G s s.heap → (∀ q, gA G q → s.heap.size ≤ q) →
    ∀ (H : Heap) (locs : List Loc) (la : Array Slot), lv_has la 4 ls → gDyn G σ H → va_S (gA G) s.heap H locs →
    W p l e room_1 s m #[Value.ref b] below meth c H locs 132 109404 (lw_Z below #[Value.ref b] s) (F0 m pc la st)
section LL
variable {l : Launch} {G : gG} {b L : Nat} {xs : Nat → Int32} {pc : Nat} {ls : List (Nat × Value)} {st : List Value} {σ : gS}
theorem l_iload_n {kk : Fin 4} {i : Nat} {x : Int} (j : Nat) (hd : decode code pc = .ok (.iload_n kk, 1)) (hi : (kk : Nat) = i) (hj : ls[j]? = some (i, vI x)) (k : lAt l G b L xs (pc + 1) ls (vI x :: st) σ) : lAt l G b L xs pc ls st σ := by
  intro p e s m below meth c C0 hE hA H locs la hl hD hS
  exact lv_iload_n C0.1 C0.2.1 hd hi (lv_at hl j hj) (k p e s m below meth c C0 hE hA H locs la hl hD hS)
theorem l_aload_n {kk : Fin 4} {i x : Nat} (j : Nat) (hd : decode code pc = .ok (.aload_n kk, 1)) (hi : (kk : Nat) = i) (hj : ls[j]? = some (i, .ref x)) (k : lAt l G b L xs (pc + 1) ls (.ref x :: st) σ) : lAt l G b L xs pc ls st σ := by
  intro p e s m below meth c C0 hE hA H locs la hl hD hS
  exact lv_aload_n C0.1 C0.2.1 hd hi (lv_at hl j hj) (k p e s m below meth c C0 hE hA H locs la hl hD hS)
theorem l_iconst {n : Int} (hd : decode code pc = .ok (.iconst n, 1)) (k : lAt l G b L xs (pc + 1) ls (vI n :: st) σ) : lAt l G b L xs pc ls st σ := by
  intro p e s m below meth c C0 hE hA H locs la hl hD hS
  exact lv_iconst C0.1 C0.2.1 hd rfl (k p e s m below meth c C0 hE hA H locs la hl hD hS)
theorem l_bipush {n : Int} (hd : decode code pc = .ok (.bipush n, 2)) (hv : (Int8.ofInt n).toInt32 = i32 n) (k : lAt l G b L xs (pc + 2) ls (vI n :: st) σ) : lAt l G b L xs pc ls st σ := by
  intro p e s m below meth c C0 hE hA H locs la hl hD hS
  exact lv_bipush C0.1 C0.2.1 hd hv (k p e s m below meth c C0 hE hA H locs la hl hD hS)
theorem l_iadd {x y : Int} (hd : decode code pc = .ok (.iadd, 1)) (k : lAt l G b L xs (pc + 1) ls (vI (x + y) :: st) σ) : lAt l G b L xs pc ls (vI y :: vI x :: st) σ := by
  intro p e s m below meth c C0 hE hA H locs la hl hD hS
  have k := k p e s m below meth c C0 hE hA H locs la hl hD hS
  rw [show vI (x + y) = .int (i32 x + i32 y) from congrArg _ (i32_add x y)] at k
  exact lv_iadd C0.1 C0.2.1 hd k
theorem l_isub {x y : Int} (hd : decode code pc = .ok (.isub, 1)) (k : lAt l G b L xs (pc + 1) ls (vI (x - y) :: st) σ) : lAt l G b L xs pc ls (vI y :: vI x :: st) σ := by
  intro p e s m below meth c C0 hE hA H locs la hl hD hS
  have k := k p e s m below meth c C0 hE hA H locs la hl hD hS
  rw [show vI (x - y) = .int (i32 x - i32 y) from congrArg _ (i32_sub x y)] at k
  exact lv_isub C0.1 C0.2.1 hd k
theorem l_iand {x y : Int} (hd : decode code pc = .ok (.iand, 1)) (k : gR (gand x y) → lAt l G b L xs (pc + 1) ls (vI (gand x y) :: st) σ) : lAt l G b L xs pc ls (vI y :: vI x :: st) σ := by
  intro p e s m below meth c C0 hE hA H locs la hl hD hS
  have k := k (gR_toInt _) p e s m below meth c C0 hE hA H locs la hl hD hS
  rw [show vI (gand x y) = .int (i32 x &&& i32 y) from congrArg Value.int (i32_of (i32 x &&& i32 y))] at k
  exact lv_iand C0.1 C0.2.1 hd k
theorem l_sld {i : Int} (hL : L ≤ 3072) (hd : decode code pc = .ok (.iaload, 1)) (hi : 0 ≤ i ∧ i < L) (k : lAt l G b L xs (pc + 1) ls (vI (xs i.toNat).toInt :: st) σ) : lAt l G b L xs pc ls (vI i :: .ref b :: st) σ := by
  intro p e s m below meth c C0 hE hA H locs la hl hD hS
  have k := k p e s m below meth c C0 hE hA H locs la hl hD hS
  obtain ⟨h1, h2⟩ := gR_in hi (by omega)
  have h3 : (i32 i).toNatClampNeg = i.toNat := by omega
  rw [show vI (xs i.toNat).toInt = .int (xs (i32 i).toNatClampNeg) by rw [h3]; exact congrArg Value.int (i32_of _)] at k
  have hbA : ¬ gA G b := fun q => Nat.not_le.mpr C0.2.2.2.2.2.2.2.1 (hA b q)
  exact va_sld C0.1 C0.2.1 C0.2.2.2.2.2.2.1 C0.2.2.2.2.2.2.2.1 hbA hS h1 hd k
theorem l_slen (hL : L ≤ 3072) (hd : decode code pc = .ok (.arraylength, 1)) (k : lAt l G b L xs (pc + 1) ls (vI (L : Int) :: st) σ) : lAt l G b L xs pc ls (.ref b :: st) σ := by
  intro p e s m below meth c C0 hE hA H locs la hl hD hS
  have k := k p e s m below meth c C0 hE hA H locs la hl hD hS
  have h3 : (nI L).toInt = (L : Int) := nI_toInt (by omega)
  rw [show vI (L : Int) = .int (Int32.ofNat L) by rw [← h3]; exact congrArg Value.int (i32_of _)] at k
  have hbA : ¬ gA G b := fun q => Nat.not_le.mpr C0.2.2.2.2.2.2.2.1 (hA b q)
  exact va_slen C0.1 C0.2.1 C0.2.2.2.2.2.2.1 C0.2.2.2.2.2.2.2.1 hbA hS hd k
theorem l_icmp_gt {x y : Int} {off : Int} {tgt : Nat} (hd : decode code pc = .ok (.if_icmp .gt off, 3)) (ht : (pc : Int) + off = (tgt : Int)) (hx : gR x) (hy : gR y) (kt : y < x → lAt l G b L xs tgt ls st σ) (kf : ¬ (y < x) → lAt l G b L xs (pc + 3) ls st σ) : lAt l G b L xs pc ls (vI y :: vI x :: st) σ := by
  intro p e s m below meth c C0 hE hA H locs la hl hD hS
  exact lv_icmp_gt C0.1 C0.2.1 hd ht (fun q => kt ((i32_lt hy hx).mp q) p e s m below meth c C0 hE hA H locs la hl hD hS) (fun q => kf (fun e9 => q ((i32_lt hy hx).mpr e9)) p e s m below meth c C0 hE hA H locs la hl hD hS)
theorem l_icmp_eq {x y : Int} {off : Int} {tgt : Nat} (hd : decode code pc = .ok (.if_icmp .eq off, 3)) (ht : (pc : Int) + off = (tgt : Int)) (hx : gR x) (hy : gR y) (kt : x = y → lAt l G b L xs tgt ls st σ) (kf : ¬ (x = y) → lAt l G b L xs (pc + 3) ls st σ) : lAt l G b L xs pc ls (vI y :: vI x :: st) σ := by
  intro p e s m below meth c C0 hE hA H locs la hl hD hS
  exact lv_icmp_eq C0.1 C0.2.1 hd ht (fun q => kt ((i32_eq hx hy).mp q) p e s m below meth c C0 hE hA H locs la hl hD hS) (fun q => kf (fun e9 => q ((i32_eq hx hy).mpr e9)) p e s m below meth c C0 hE hA H locs la hl hD hS)
theorem l_tableIn {x v dflt lo hi off : Int} {offs : Array Int} {len tgt : Nat} (hd : decode code pc = .ok (.tableswitch dflt lo hi offs, len)) (hx : x = v) (hv : gR v ∧ lo ≤ v ∧ v ≤ hi) (ho : offs[(v - lo).toNat]? = some off) (ht : (pc : Int) + off = (tgt : Int)) (k : lAt l G b L xs tgt ls st σ) : lAt l G b L xs pc ls (vI x :: st) σ := by
  intro p e s m below meth c C0 hE hA H locs la hl hD hS
  subst hx
  exact lv_tableIn C0.1 C0.2.1 hd (by rw [i32_toInt hv.1]; omega) (by rw [i32_toInt hv.1]; omega) (by rw [i32_toInt hv.1]; exact ho) ht (k p e s m below meth c C0 hE hA H locs la hl hD hS)
theorem l_tableOut {x dflt lo hi : Int} {offs : Array Int} {len tgt : Nat} (hd : decode code pc = .ok (.tableswitch dflt lo hi offs, len)) (hx : gR x) (h : x < lo ∨ hi < x) (ht : (pc : Int) + dflt = (tgt : Int)) (k : lAt l G b L xs tgt ls st σ) : lAt l G b L xs pc ls (vI x :: st) σ := by
  intro p e s m below meth c C0 hE hA H locs la hl hD hS
  exact lv_tableOut C0.1 C0.2.1 hd (by rw [i32_toInt hx]; exact h) ht (k p e s m below meth c C0 hE hA H locs la hl hD hS)
theorem l_goto {off : Int} {tgt : Nat} (hd : decode code pc = .ok (.goto off, 3)) (ht : (pc : Int) + off = (tgt : Int)) (k : lAt l G b L xs tgt ls st σ) : lAt l G b L xs pc ls st σ := by
  intro p e s m below meth c C0 hE hA H locs la hl hD hS
  exact lv_goto C0.1 C0.2.1 hd ht (k p e s m below meth c C0 hE hA H locs la hl hD hS)
theorem l_iinc {i : Nat} {n x : Int} {ls' : List (Nat × Value)} (j : Nat) (hd : decode code pc = .ok (.iinc i n, 3)) (hj : ls[j]? = some (i, vI x)) (hn : i < 4) (hl' : (i, vI (x + n)) :: ls.filter (fun q => !(q.1 == i) && !(q.1 + 1 == i && q.2.category == 2)) = ls') (k : lAt l G b L xs (pc + 3) ls' st σ) : lAt l G b L xs pc ls st σ := by
  intro p e s m below meth c C0 hE hA H locs la hl hD hS
  exact lv_iinc C0.1 C0.2.1 hd hl hj (i32_add x n).symm hn hl' (fun la' hla => k p e s m below meth c C0 hE hA H locs la' hla hD hS)
theorem lw_good2 {z : gM} (h : Cond.code z.1 z.2.1 z.2.2.1 z.2.2.2.1 ∈ gTbl) : GoodIn lw_tbl (gwsM z) := fun w hw => ⟨(List.mem_filter.mp (gwsz h w hw)).1, good_of_word (List.all_eq_true.mp lw_good w (gwsz h w hw))⟩
def lRoom (z : gM) : Prop := z.2.2.2.2.cells = 0 ∧ z.2.2.2.2.slots = 0 ∧ z.2.2.2.2.frames + 1 ≤ 12 ∧ 8 + (z.2.2.1 + 11) + z.2.2.2.2.locals ≤ 444
theorem l_callVi {z : gM} {idx n : Nat} {c ci : Nat} {ks : List (Option Nat)} {As rest : List Value} (hd : decode code pc = .ok (.invokevirtual idx, 3)) (hw : gVw R_law idx z n) (hR : lRoom z) (hs : gshL[c]? = some (.inr (ci, ks))) (hcl : ∃ q, gCl[ci]? = some q ∧ q.1 = z.1.cls) (hn : As.length = n) (hst : st = As.reverse ++ .ref (G.2.1 c) :: rest) (hrm : (rest.map fun v => v.category).sum ≤ 8) (k : gEi l G z (.ref (G.2.1 c) :: As) σ (fun r σ' => gR r → lAt l G b L xs (pc + 3) ls (vI r :: rest) σ')) : lAt l G b L xs pc ls st σ := by
  intro p e s m below meth c0 C0 hE hA H locs la hl hD hS
  subst hst
  obtain ⟨hx, hb, hr, hml, hown, hts, hX, hbl, hlocks, hgv⟩ := id C0
  obtain ⟨hwl, hnm⟩ := hw
  obtain ⟨rc, rs, rf, rl⟩ := hR
  have htg : ∀ w ∈ gTbl, w.before #[Value.ref b] s = true := fun w hw => hts w (List.mem_filter.mp hw).1
  have hF : CallFix p m c0 code 4 s #[Value.ref b] lw_tbl R_law := ⟨hx, hb, hml, hown, hts⟩
  obtain ⟨q, hq, hq1⟩ := hcl
  have hrv := va_recv hE.1 hD.1 hq (gws_obj (G := G) (σ := σ) hs)
  rw [hq1] at hrv
  have hcw : CallW room_1 s #[Value.ref b] R_law z.1.cls idx z.1 z.2.1 z.2.2.1 z.2.2.2.1 (gwsM z) z.2.2.2.2 0 0 n := ⟨callB_of n hts (lw_good2 hwl.2.2.2.2) rfl rc rs (htg _ hwl.2.2.2.1) (htg _ hwl.1) hnm ⟨rf, rl⟩, htg _ hwl.2.1, htg _ hwl.2.2.1⟩
  have hrun := va_runV (H := H) (locs := locs) (cells := 132) (slots := 109404) (below := below) (e := e) (meth := meth) (b := G.2.1 c) (g := F0 m pc la (As.reverse ++ .ref (G.2.1 c) :: rest)) (rest := rest) hF k hcw ⟨gblind, hrv, gpre hE hD hS⟩ rfl hn hl.1 rfl (lv_room hrm) hd ⟨Nat.le_of_ble_eq_true rfl, Nat.le_of_ble_eq_true rfl⟩
  refine va_calli (A0 := gA G) hrun hS (fun _ _ h => h) (fun _ h => h) (fun r u t H1 locs1 ht hvm hq hB _ _ hS1 => ?_)
  obtain ⟨x, hx, rfl, hq⟩ := hq
  exact hq hx p e s m below meth c0 C0 hE hA H1 locs1 la hl (by rw [← ht]; exact hB) hS1
theorem l_callVz {z : gM} {idx n : Nat} {c ci : Nat} {ks : List (Option Nat)} {As rest : List Value} (hd : decode code pc = .ok (.invokevirtual idx, 3)) (hw : gVw R_law idx z n) (hR : lRoom z) (hs : gshL[c]? = some (.inr (ci, ks))) (hcl : ∃ q, gCl[ci]? = some q ∧ q.1 = z.1.cls) (hn : As.length = n) (hst : st = As.reverse ++ .ref (G.2.1 c) :: rest) (hrm : (rest.map fun v => v.category).sum ≤ 8) (k : gEz l G z (.ref (G.2.1 c) :: As) σ (fun r σ' => (r = 0 ∨ r = 1) → lAt l G b L xs (pc + 3) ls (vI r :: rest) σ')) : lAt l G b L xs pc ls st σ := by
  intro p e s m below meth c0 C0 hE hA H locs la hl hD hS
  subst hst
  obtain ⟨hx, hb, hr, hml, hown, hts, hX, hbl, hlocks, hgv⟩ := id C0
  obtain ⟨hwl, hnm⟩ := hw
  obtain ⟨rc, rs, rf, rl⟩ := hR
  have htg : ∀ w ∈ gTbl, w.before #[Value.ref b] s = true := fun w hw => hts w (List.mem_filter.mp hw).1
  have hF : CallFix p m c0 code 4 s #[Value.ref b] lw_tbl R_law := ⟨hx, hb, hml, hown, hts⟩
  obtain ⟨q, hq, hq1⟩ := hcl
  have hrv := va_recv hE.1 hD.1 hq (gws_obj (G := G) (σ := σ) hs)
  rw [hq1] at hrv
  have hcw : CallW room_1 s #[Value.ref b] R_law z.1.cls idx z.1 z.2.1 z.2.2.1 z.2.2.2.1 (gwsM z) z.2.2.2.2 0 0 n := ⟨callB_of n hts (lw_good2 hwl.2.2.2.2) rfl rc rs (htg _ hwl.2.2.2.1) (htg _ hwl.1) hnm ⟨rf, rl⟩, htg _ hwl.2.1, htg _ hwl.2.2.1⟩
  have hrun := va_runV (H := H) (locs := locs) (cells := 132) (slots := 109404) (below := below) (e := e) (meth := meth) (b := G.2.1 c) (g := F0 m pc la (As.reverse ++ .ref (G.2.1 c) :: rest)) (rest := rest) hF k hcw ⟨gblind, hrv, gpre hE hD hS⟩ rfl hn hl.1 rfl (lv_room hrm) hd ⟨Nat.le_of_ble_eq_true rfl, Nat.le_of_ble_eq_true rfl⟩
  refine va_calli (A0 := gA G) hrun hS (fun _ _ h => h) (fun _ h => h) (fun r u t H1 locs1 ht hvm hq hB _ _ hS1 => ?_)
  obtain ⟨x, hx, rfl, hq⟩ := hq
  exact hq hx p e s m below meth c0 C0 hE hA H1 locs1 la hl (by rw [← ht]; exact hB) hS1
end LL
