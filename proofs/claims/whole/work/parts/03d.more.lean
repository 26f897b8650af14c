
def gQz (G : gG) (Q : Int → gS → Prop) : Array Value → State → Outcome → State → Prop := va_Qi (fun r σ' => ∃ x, (x = 0 ∨ x = 1) ∧ r = i32 x ∧ Q x σ') (fun σ' t => gDyn G σ' t.heap) (gA G)
abbrev gEz (l : Launch) (G : gG) (M : gM) (av : List Value) (σ : gS) (Q : Int → gS → Prop) : Prop := gE l G M av σ (gQz G Q)
/-- what arraycopy makes of a store -/
def cpI (σ : gS) (src : Nat) (sp : Int) (dst : Nat) (dp n : Int) : gS := (fun c i => if c = dst ∧ dp ≤ i ∧ i < dp + n then σ.1 src (sp + (i - dp)) else σ.1 c i, σ.2)
def gtyIx (ty : FieldType) : Nat := match ty with
  | .int => 0
  | .byte => 1
  | _ => 2
section GC
variable {l : Launch} {G : gG} {M : gM} {Qc : Array Value → State → Outcome → State → Prop} {pc : Nat} {ls : List (Nat × Value)} {st : List Value} {σ σ' : gS}
theorem gEz_mono {z : gM} {av : List Value} {Q1 Q2 : Int → gS → Prop} (h : gEz l G z av σ Q1) (hq : ∀ r σ', Q1 r σ' → Q2 r σ') : gEz l G z av σ Q2 :=
  gE_mono h (fun a st o t h1 => by obtain ⟨⟨r, u, h2, ⟨x, h3, h4, h5⟩, h6⟩, h7⟩ := h1; exact ⟨⟨r, u, h2, ⟨x, h3, h4, hq x u h5⟩, h6⟩, h7⟩)
theorem ga_bret {Q : Int → gS → Prop} {v : Int} (hd : decode M.2.1 pc = .ok (.ireturn, 1)) (hr : M.2.2.2.1 = some .boolean) (hv : v = 0 ∨ v = 1) (hq : Q v σ) : gAt l G M (gQz G Q) pc ls [vI v] σ := by
  intro p e s m args below meth c0 s₁ B hml hE H locs la hl hD hS
  have hlocks := B.notSynchronized
  exact W.zret (ty := .boolean) B.exec B.bytes (B.returns.trans hr) (by rcases hv with rfl | rfl <;> decide) (fun t ht hW => ⟨⟨_, σ, rfl, ⟨v, hv, rfl, hq⟩, by show gDyn G σ t.heap; rw [ht]; exact hD⟩, hS.F ht⟩) hS.2.2 hd

theorem ga_ldcw {idx : Nat} {v : Int32} {n : Int} (hd : decode M.2.1 pc = .ok (.ldc_w idx, 3)) (hw : Cond.constant M.1.cls idx v ∈ gTbl) (hv : v = i32 n) (k : gAt l G M Qc (pc + 3) ls (vI n :: st) σ) : gAt l G M Qc pc ls (st) σ := by
  intro p e s m args below meth c0 s₁ B hml hE H locs la hl hD hS
  subst hv
  exact lv_ldcw B.exec B.bytes (findClass_of_methodNamed B.named) (atoms_spec (ws := gwsM M) B.pre _ (List.mem_cons_of_mem _ hw)) hd (k p e s m args below meth c0 s₁ B hml hE H locs la hl hD hS)
theorem ga_tableIn {x v dflt lo hi off : Int} {offs : Array Int} {len tgt : Nat} (hd : decode M.2.1 pc = .ok (.tableswitch dflt lo hi offs, len)) (hx : x = v) (hv : gR v ∧ lo ≤ v ∧ v ≤ hi) (ho : offs[(v - lo).toNat]? = some off) (ht : (pc : Int) + off = (tgt : Int)) (k : gAt l G M Qc tgt ls (st) σ) : gAt l G M Qc pc ls (vI x :: st) σ := by
  intro p e s m args below meth c0 s₁ B hml hE H locs la hl hD hS
  subst hx
  exact lv_tableIn B.exec B.bytes hd (by rw [i32_toInt hv.1]; omega) (by rw [i32_toInt hv.1]; omega) (by rw [i32_toInt hv.1]; exact ho) ht (k p e s m args below meth c0 s₁ B hml hE H locs la hl hD hS)
theorem ga_tableOut {x dflt lo hi : Int} {offs : Array Int} {len tgt : Nat} (hd : decode M.2.1 pc = .ok (.tableswitch dflt lo hi offs, len)) (hx : gR x) (h : x < lo ∨ hi < x) (ht : (pc : Int) + dflt = (tgt : Int)) (k : gAt l G M Qc tgt ls (st) σ) : gAt l G M Qc pc ls (vI x :: st) σ := by
  intro p e s m args below meth c0 s₁ B hml hE H locs la hl hD hS
  exact lv_tableOut B.exec B.bytes hd (by rw [i32_toInt hx]; exact h) ht (k p e s m args below meth c0 s₁ B hml hE H locs la hl hD hS)
theorem ga_lookup {x dflt off : Int} {ps : Array (Int × Int)} {len tgt : Nat} (hd : decode M.2.1 pc = .ok (.lookupswitch dflt ps, len)) (hx : gR x) (hp : (ps.toList.zip (ps.toList.drop 1)).all (fun (a, next) => a.1 < next.1) = true) (ho : Op.lookupswitch.offset ps.toList dflt x = off) (ht : (pc : Int) + off = (tgt : Int)) (k : gAt l G M Qc tgt ls (st) σ) : gAt l G M Qc pc ls (vI x :: st) σ := by
  intro p e s m args below meth c0 s₁ B hml hE H locs la hl hD hS
  exact lv_lookup B.exec B.bytes hd hp (by rw [i32_toInt hx]; exact ho) ht (k p e s m args below meth c0 s₁ B hml hE H locs la hl hD hS)
theorem ga_copy {idx c1 n1 c2 n2 : Nat} {sp dp n : Int} {ty : FieldType} (hd : decode M.2.1 pc = .ok (.invokestatic idx, 3)) (hw : Cond.methodLink M.1.cls idx arraycopyName ∈ gTbl ∧ Cond.native arraycopyName ∈ gTbl ∧ Cond.static arraycopyName ∈ gTbl ∧ Cond.initialized "java/lang/System" ∈ gTbl) (hs1 : gshL[c1]? = some (.inl (n1, ty))) (hs2 : gshL[c2]? = some (.inl (n2, ty))) (hty : ty = .int ∨ ty = .byte) (hb : 0 ≤ sp ∧ 0 ≤ dp ∧ 0 ≤ n ∧ sp + n ≤ n1 ∧ dp + n ≤ n2) (hfit : ty = .byte → ∀ i, sp ≤ i → i < sp + n → -128 ≤ gI σ c1 i ∧ gI σ c1 i < 128) (hf : 1 ≤ M.2.2.2.2.frames) (hlo : (st.map fun v => v.category).sum + (nativeFrameWords "java/lang/System" "arraycopy" 5 + 11) ≤ M.2.2.2.2.locals) (hσ : σ' = cpI σ c1 sp c2 dp n) (kk : gAt l G M Qc (pc + 3) ls (st) σ') : gAt l G M Qc pc ls (vI n :: vI dp :: .ref (G.2.1 c2) :: vI sp :: .ref (G.2.1 c1) :: st) σ := by
  intro p e s m args below meth c0 s₁ B hml hE H locs la hl hD hS
  have hts := (fun w hw => atoms_spec (ws := gwsM M) B.pre w (List.mem_cons_of_mem _ hw))
  have hl1 := gsh_small hs1
  have hl2 := gsh_small hs2
  have hpr : gPrim ty = true := by rcases hty with rfl | rfl <;> rfl
  have rsp : gR sp := ⟨by omega, by omega⟩
  have rdp : gR dp := ⟨by omega, by omega⟩
  have rn : gR n := ⟨by omega, by omega⟩
  have r0 : gR 0 := by decide
  have csp : ((i32 sp).toNatClampNeg : Int) = sp := by show ((i32 sp).toInt.toNat : Int) = sp; rw [i32_toInt rsp]; omega
  have cdp : ((i32 dp).toNatClampNeg : Int) = dp := by show ((i32 dp).toInt.toNat : Int) = dp; rw [i32_toInt rdp]; omega
  have cn : ((i32 n).toNatClampNeg : Int) = n := by show ((i32 n).toInt.toNat : Int) = n; rw [i32_toInt rn]; omega
  have nlt : ∀ x : Int, gR x → 0 ≤ x → ¬ i32 x < 0 := fun x rx h0 h => by have h2 : i32 x < i32 0 := h; rw [i32_lt rx r0] at h2; omega
  refine va_copyi (A := gA G) (ty := ty) B.exec B.bytes (hml.trans hl.1.symm) (findClass_of_methodNamed B.named) (hts _ hw.1) (hts _ hw.2.1) (hts _ hw.2.2.1) (hts _ hw.2.2.2) hE.1 hD.1 hD.2.1 hS c1 c2 (gtyIx ty) (gtyIx ty) (gws_arr hs1 hpr) (gws_arr hs2 hpr) (by rcases hty with rfl | rfl <;> rfl) (by rcases hty with rfl | rfl <;> rfl) (by rcases hty with rfl | rfl <;> rfl) (nlt sp rsp hb.1) (nlt dp rdp hb.2.1) (nlt n rn hb.2.2.1) (by omega) (by omega) ?_ hf hlo hd ?_
  · intro i hi
    rcases hty with rfl | rfl
    · rfl
    · have h9 := hfit rfl (((i32 sp).toNatClampNeg + i : Nat) : Int) (by omega) (by omega)
      have h8 := gnb_of h9
      have r9 : gR (gI σ c1 (((i32 sp).toNatClampNeg + i : Nat) : Int)) := ⟨by omega, by omega⟩
      have h7 : (i32 (gI σ c1 (((i32 sp).toNatClampNeg + i : Nat) : Int))).toInt = gI σ c1 (((i32 sp).toNatClampNeg + i : Nat) : Int) := i32_toInt r9
      show fits .byte (.int (i32 (gI σ c1 (((i32 sp).toNatClampNeg + i : Nat) : Int)))) = true
      have rr1 : i32 (-128) ≤ i32 (gI σ c1 (((i32 sp).toNatClampNeg + i : Nat) : Int)) := (i32_le (by decide) r9).mpr h9.1
      have rr2 : i32 (gI σ c1 (((i32 sp).toNatClampNeg + i : Nat) : Int)) ≤ i32 127 := (i32_le r9 (by decide)).mpr (by omega)
      show (decide (_ ≤ _) && decide (_ ≤ _)) = true
      rw [Bool.and_eq_true, decide_eq_true_iff, decide_eq_true_iff]
      exact ⟨rr1, rr2⟩
  · intro H1 locs1 hP1 hD1 hS1
    have hu : va_cpy (fun k : Nat => i32 (σ.1 c1 k)) (fun k : Nat => i32 (σ.1 c2 k)) (i32 sp).toNatClampNeg (i32 dp).toNatClampNeg (i32 n).toNatClampNeg = fun k : Nat => i32 ((cpI σ c1 sp c2 dp n).1 c2 k) := by
      funext k
      unfold va_cpy
      by_cases h : dp ≤ (k : Int) ∧ (k : Int) < dp + n
      · rw [if_pos ⟨by omega, by omega⟩]
        show _ = i32 (if _ then _ else _)
        rw [if_pos (show c2 = c2 ∧ dp ≤ (k : Int) ∧ (k : Int) < dp + n from ⟨rfl, h⟩)]
        have hk9 : (((i32 sp).toNatClampNeg + (k - (i32 dp).toNatClampNeg) : Nat) : Int) = sp + ((k : Int) - dp) := by omega
        dsimp only
        rw [hk9]
      · rw [if_neg (fun q => h ⟨by omega, by omega⟩)]
        show _ = i32 (if _ then _ else _)
        rw [if_neg (fun q : c2 = c2 ∧ dp ≤ (k : Int) ∧ (k : Int) < dp + n => h q.2)]
    rw [hu] at hP1 hD1
    have ho : ∀ c', c' ≠ c2 → gcellOf G.2.1 G.2.2.1 (cpI σ c1 sp c2 dp n) c' gshL[c']? = gcellOf G.2.1 G.2.2.1 σ c' gshL[c']? :=
      fun c' hne => gcell_congr (σ := cpI σ c1 sp c2 dp n) (σ' := σ) (fun k => if_neg (fun q : c' = c2 ∧ dp ≤ (k : Int) ∧ (k : Int) < dp + n => hne q.1)) rfl rfl _
    have hw2 := gws_set (G := G) (σ := σ) (σ' := cpI σ c1 sp c2 dp n) hs2 ho
    rw [gcell_arr hpr] at hw2
    rw [hw2, ← hσ] at hP1 hD1
    refine kk p e s m args below meth c0 s₁ B hml hE H1 locs1 la hl ⟨hP1, hD1, ?_⟩ hS1
    rw [hσ]
    refine ⟨fun c' i' => ?_, hD.2.2.2⟩
    show gR (if _ then _ else _)
    split
    · exact hD.2.2.1 _ _
    · exact hD.2.2.1 _ _

theorem ga_callVz {z : gM} {idx n : Nat} {c ci : Nat} {ks : List (Option Nat)} {As rest : List Value} (hd : decode M.2.1 pc = .ok (.invokevirtual idx, 3)) (hw : gVw M.1.cls idx z n) (hR : gRoom M z) (hs : gshL[c]? = some (.inr (ci, ks))) (hcl : ∃ q, gCl[ci]? = some q ∧ q.1 = z.1.cls) (hn : As.length = n) (hst : st = As.reverse ++ .ref (G.2.1 c) :: rest) (hrm : (rest.map fun v => v.category).sum ≤ 8) (k : gEz l G z (.ref (G.2.1 c) :: As) σ (fun r σ' => (r = 0 ∨ r = 1) → gAt l G M Qc (pc + 3) ls (vI r :: rest) σ')) : gAt l G M Qc pc ls (st) σ := by
  intro p e s m args below meth c0 s₁ B hml hE H locs la hl hD hS
  subst hst
  obtain ⟨hwl, hnm⟩ := hw
  obtain ⟨rc, rs, rf, rl⟩ := hR
  have hts := (fun w hw => atoms_spec (ws := gwsM M) B.pre w (List.mem_cons_of_mem _ hw))
  have hF : CallFix p m c0 M.2.1 M.2.2.1 s args (gwsM M) M.1.cls := ⟨B.exec, B.bytes, hml, (findClass_of_methodNamed B.named), atoms_spec (ws := gwsM M) B.pre⟩
  obtain ⟨q, hq, hq1⟩ := hcl
  have hrv := va_recv hE.1 hD.1 hq (gws_obj (G := G) (σ := σ) hs)
  rw [hq1] at hrv
  have hcw : CallW M.2.2.2.2 s args M.1.cls z.1.cls idx z.1 z.2.1 z.2.2.1 z.2.2.2.1 (gwsM z) z.2.2.2.2 0 0 n := ⟨callB_of n (atoms_spec (ws := gwsM M) B.pre) (lw_goodIn (gwsz hwl.2.2.2.2)) rfl rc rs (hts _ hwl.2.2.2.1) (hts _ hwl.1) hnm ⟨rf, rl⟩, hts _ hwl.2.1, hts _ hwl.2.2.1⟩
  have hrun := va_runV (H := H) (locs := locs) (cells := 0) (slots := 0) (below := below) (e := e) (meth := meth) (b := G.2.1 c) (g := F0 m pc la (As.reverse ++ .ref (G.2.1 c) :: rest)) (rest := rest) hF k hcw ⟨gblind, hrv, gpre hE hD hS⟩ rfl hn hl.1 rfl (lv_room hrm) hd ⟨Nat.zero_le _, Nat.zero_le _⟩
  refine va_calli (A0 := gA G) hrun hS (fun _ _ h => h) (fun _ h => h) (fun r u t H1 locs1 ht hvm hq hB _ _ hS1 => ?_)
  obtain ⟨x, hx, rfl, hq⟩ := hq
  exact hq hx p e s m args below meth c0 s₁ B hml hE H1 locs1 la hl (by rw [← ht]; exact hB) hS1
theorem ga_callSz {z : gM} {idx n : Nat} {As rest : List Value} (hd : decode M.2.1 pc = .ok (.invokestatic idx, 3)) (hw : gSw M.1.cls idx z n) (hR : gRoom M z) (hn : As.length = n) (hst : st = As.reverse ++ rest) (hrm : (rest.map fun v => v.category).sum ≤ 8) (k : gEz l G z As σ (fun r σ' => (r = 0 ∨ r = 1) → gAt l G M Qc (pc + 3) ls (vI r :: rest) σ')) : gAt l G M Qc pc ls (st) σ := by
  intro p e s m args below meth c0 s₁ B hml hE H locs la hl hD hS
  subst hst
  obtain ⟨hwl, hnm⟩ := hw
  obtain ⟨rc, rs, rf, rl⟩ := hR
  have hts := (fun w hw => atoms_spec (ws := gwsM M) B.pre w (List.mem_cons_of_mem _ hw))
  have hF : CallFix p m c0 M.2.1 M.2.2.1 s args (gwsM M) M.1.cls := ⟨B.exec, B.bytes, hml, (findClass_of_methodNamed B.named), atoms_spec (ws := gwsM M) B.pre⟩
  have hrun := va_runS (H := H) (locs := locs) (cells := 0) (slots := 0) (below := below) (e := e) (meth := meth) (g := F0 m pc la (As.reverse ++ rest)) (rest := rest) hF k ⟨callB_of (R := M.2.2.2.2) (mc := 0) (ms := 0) n (atoms_spec (ws := gwsM M) B.pre) (lw_goodIn (gwsz hwl.2.2.2)) rfl rc rs (hts _ hwl.2.2.1) (hts _ hwl.1) hnm ⟨rf, rl⟩, hts _ hwl.2.1⟩ ⟨gblind, gpre hE hD hS⟩ rfl hn hl.1 rfl (lv_room hrm) hd ⟨Nat.zero_le _, Nat.zero_le _⟩
  refine va_calli (A0 := gA G) hrun hS (fun _ _ h => h) (fun _ h => h) (fun r u t H1 locs1 ht hvm hq hB _ _ hS1 => ?_)
  obtain ⟨x, hx, rfl, hq⟩ := hq
  exact hq hx p e s m args below meth c0 s₁ B hml hE H1 locs1 la hl (by rw [← ht]; exact hB) hS1
theorem ga_callNz {z : gM} {idx n : Nat} {As rest : List Value} (hd : decode M.2.1 pc = .ok (.invokestatic idx, 3)) (hw : gNw M.1.cls idx z n) (hR : gRoom M z) (hn : As.length = n) (hst : st = As.reverse ++ rest) (hrm : (rest.map fun v => v.category).sum ≤ 8) (k : gEz l G z As σ (fun r σ' => (r = 0 ∨ r = 1) → gAt l G M Qc (pc + 3) ls (vI r :: rest) σ')) : gAt l G M Qc pc ls (st) σ := by
  intro p e s m args below meth c0 s₁ B hml hE H locs la hl hD hS
  subst hst
  obtain ⟨hwl, hnm⟩ := hw
  obtain ⟨rc, rs, rf, rl⟩ := hR
  have hts := (fun w hw => atoms_spec (ws := gwsM M) B.pre w (List.mem_cons_of_mem _ hw))
  have hF : CallFix p m c0 M.2.1 M.2.2.1 s args (gwsM M) M.1.cls := ⟨B.exec, B.bytes, hml, (findClass_of_methodNamed B.named), atoms_spec (ws := gwsM M) B.pre⟩
  have hcn : va_CN M.2.2.2.2 s args M.1.cls idx z.1 "CrossbarHouse" z.2.1 z.2.2.1 z.2.2.2.1 (gwsM z) z.2.2.2.2 0 0 n := va_cnB n (atoms_spec (ws := gwsM M) B.pre) (lw_goodIn (gwsz hwl.2.2.2)) rfl rc rs (hE.2.2.2.2.1 _ hwl.1) (hts _ hwl.2.2.1) hnm ⟨rf, rl⟩
  have hrun := va_runSN (H := H) (locs := locs) (cells := 0) (slots := 0) (below := below) (e := e) (meth := meth) (g := F0 m pc la (As.reverse ++ rest)) (rest := rest) hF k ⟨hcn, hts _ hwl.2.1, trivial⟩ ⟨gblind, gpre hE hD hS⟩ rfl hn hl.1 rfl (lv_room hrm) hd ⟨Nat.zero_le _, Nat.zero_le _⟩
  refine va_calli (A0 := gA G) hrun hS (fun _ _ h => h) (fun _ h => h) (fun r u t H1 locs1 ht hvm hq hB _ _ hS1 => ?_)
  obtain ⟨x, hx, rfl, hq⟩ := hq
  exact hq hx p e s m args below meth c0 s₁ B hml hE H1 locs1 la hl (by rw [← ht]; exact hB) hS1
end GC
