/-- texts: places of text k and of its bytes -/
abbrev gsK (G : gG) (k : Nat) : Nat := G.2.2.2.2.2.1 k
abbrev gsV (G : gG) (k : Nat) : Nat := G.2.2.2.2.2.2 k
def gQr (G : gG) (Q : Nat → gS → Prop) : Array Value → State → Outcome → State → Prop := va_Qr (S := Nat × gS) (fun u => Q u.1 u.2) (fun u a t => a = gsK G u.1 ∧ gDyn G u.2 t.heap) (gA G)
section GS
variable {l : Launch} {G : gG} {M : gM} {Qc : Array Value → State → Outcome → State → Prop} {pc : Nat} {ls : List (Nat × Value)} {st : List Value} {σ : gS}
theorem gi1 : (Value.int (1 : Int32)) = vI 1 := by decide
theorem gi0 : (Value.int (0 : Int32)) = vI 0 := by decide
theorem ga_comp {idx : Nat} (hd : decode M.2.1 pc = .ok (.getstatic idx, 3)) (hw : Cond.fieldLink M.1.cls idx "java/lang/String" "COMPACT_STRINGS" "Z" ∈ gTbl) (kk : gAt l G M Qc (pc + 3) ls (vI 1 :: st) σ) : gAt l G M Qc pc ls (st) σ := by
  intro p e s m args below meth c0 s₁ B hml hE H locs la hl hD hS
  have k := kk p e s m args below meth c0 s₁ B hml hE H locs la hl hD hS
  rw [← gi1] at k
  exact va_gets (ref := "java/lang/String") B.exec B.bytes hE.2.2.2.2.2.1 hS (findClass_of_methodNamed B.named) (atoms_spec (ws := gwsM M) B.pre _ (List.mem_cons_of_mem _ hw)) (fun x hx => hx) hd k
theorem ga_form {idx : Nat} (hd : decode M.2.1 pc = .ok (.getstatic idx, 3)) (hw : Cond.fieldLink M.1.cls idx "jdk/internal/util/Preconditions" "SIOOBE_FORMATTER" "Ljava/util/function/BiFunction;" ∈ gTbl) (kk : ∀ v : Value, (v = .null ∨ ∃ t, v = .ref t) → gAt l G M Qc (pc + 3) ls (v :: st) σ) : gAt l G M Qc pc ls (st) σ := by
  intro p e s m args below meth c0 s₁ B hml hE H locs la hl hD hS
  rcases hE.2.2.2.2.2.2 with h | ⟨t, h⟩
  · exact va_gets (ref := "jdk/internal/util/Preconditions") B.exec B.bytes h hS (findClass_of_methodNamed B.named) (atoms_spec (ws := gwsM M) B.pre _ (List.mem_cons_of_mem _ hw)) (fun x hx => hx) hd (kk _ (Or.inl rfl) p e s m args below meth c0 s₁ B hml hE H locs la hl hD hS)
  · exact va_gets (ref := "jdk/internal/util/Preconditions") B.exec B.bytes h hS (findClass_of_methodNamed B.named) (atoms_spec (ws := gwsM M) B.pre _ (List.mem_cons_of_mem _ hw)) (fun x hx => hx) hd (kk _ (Or.inr ⟨t, rfl⟩) p e s m args below meth c0 s₁ B hml hE H locs la hl hD hS)
theorem ga_ldcS {k idx : Nat} {tx : String} (hd : decode M.2.1 pc = .ok (.ldc idx, 2)) (hq : gstr[k]? = some (idx, tx)) (hc : M.1.cls = RX7) (kk : gAt l G M Qc (pc + 2) ls (.ref (gsK G k) :: st) σ) : gAt l G M Qc pc ls (st) σ := by
  intro p e s m args below meth c0 s₁ B hml hE H locs la hl hD hS
  exact va_ldcS B.exec B.bytes (own := RX7) (tx := tx) (hc ▸ findClass_of_methodNamed B.named) (hE.2.2.1 k (idx, tx) hq) hd (kk p e s m args below meth c0 s₁ B hml hE H locs la hl hD hS)
theorem ga_sval {k idx : Nat} (hd : decode M.2.1 pc = .ok (.getfield idx, 3)) (hk : k < gstr.length) (hw : Cond.fieldLink M.1.cls idx "java/lang/String" "value" "[B" ∈ gTbl) (kk : gAt l G M Qc (pc + 3) ls (.ref (gsV G k) :: st) σ) : gAt l G M Qc pc ls (.ref (gsK G k) :: st) σ := by
  intro p e s m args below meth c0 s₁ B hml hE H locs la hl hD hS
  exact vk_getf B.exec B.bytes (hE.2.2.2.1.1 k hk).2.2.1 hS (findClass_of_methodNamed B.named) (atoms_spec (ws := gwsM M) B.pre _ (List.mem_cons_of_mem _ hw)) (fun x hx => hx) hd (kk p e s m args below meth c0 s₁ B hml hE H locs la hl hD hS)
theorem ga_scod {k idx : Nat} (hd : decode M.2.1 pc = .ok (.getfield idx, 3)) (hk : k < gstr.length) (hw : Cond.fieldLink M.1.cls idx "java/lang/String" "coder" "B" ∈ gTbl) (kk : gAt l G M Qc (pc + 3) ls (vI 0 :: st) σ) : gAt l G M Qc pc ls (.ref (gsK G k) :: st) σ := by
  intro p e s m args below meth c0 s₁ B hml hE H locs la hl hD hS
  have kq := kk p e s m args below meth c0 s₁ B hml hE H locs la hl hD hS
  rw [← gi0] at kq
  exact vk_getf B.exec B.bytes (hE.2.2.2.1.1 k hk).2.1 hS (findClass_of_methodNamed B.named) (atoms_spec (ws := gwsM M) B.pre _ (List.mem_cons_of_mem _ hw)) (fun x hx => hx) hd kq
theorem ga_slen {k : Nat} {nI : Int} (hd : decode M.2.1 pc = .ok (.arraylength, 1)) (hk : k < gstr.length) (hn : Int32.ofNat (gstrLen.getD k 0) = i32 nI) (kk : gAt l G M Qc (pc + 1) ls (vI nI :: st) σ) : gAt l G M Qc pc ls (.ref (gsV G k) :: st) σ := by
  intro p e s m args below meth c0 s₁ B hml hE H locs la hl hD hS
  exact va_tlen B.exec B.bytes (hE.2.2.2.1.1 k hk).2.2.2 hS hn hd (kk p e s m args below meth c0 s₁ B hml hE H locs la hl hD hS)
theorem ga_sbal {k : Nat} {i b : Int} (hd : decode M.2.1 pc = .ok (.baload, 1)) (hk : k < gstr.length) (hi : 0 ≤ i ∧ i < (gstrLen.getD k 0 : Nat)) (hs : gstrLen.getD k 0 < 2147483648) (hb : (gstrByt.getD k []).getD i.toNat 0 = i32 b) (kk : gAt l G M Qc (pc + 1) ls (vI b :: st) σ) : gAt l G M Qc pc ls (vI i :: .ref (gsV G k) :: st) σ := by
  intro p e s m args below meth c0 s₁ B hml hE H locs la hl hD hS
  obtain ⟨h1, h2⟩ := gR_in hi hs
  have h3 : (i32 i).toNatClampNeg = i.toNat := by omega
  refine va_tb B.exec B.bytes (hE.2.2.2.1.1 k hk).2.2.2 hS h1 (v := vI b) ?_ hd (kk p e s m args below meth c0 s₁ B hml hE H locs la hl hD hS)
  rw [h3, hb]
theorem ga_i2c {x : Int} (hd : decode M.2.1 pc = .ok (.i2c, 1)) (hv : ((i32 x).toUInt32 % 65536).toInt32 = i32 x) (kk : gAt l G M Qc (pc + 1) ls (vI x :: st) σ) : gAt l G M Qc pc ls (vI x :: st) σ := by
  intro p e s m args below meth c s₁ B hml hE H locs la hl hD hS
  exact lv_i2c B.exec B.bytes hd hv (kk p e s m args below meth c s₁ B hml hE H locs la hl hD hS)
theorem ga_nret {Q : Int → gS → Prop} {v : Int} {ty : FieldType} (hd : decode M.2.1 pc = .ok (.ireturn, 1)) (hr : M.2.2.2.1 = some ty) (hn : narrow ty (vI v) = vI v) (hv : gR v) (hq : Q v σ) : gAt l G M (gQi G Q) pc ls [vI v] σ := by
  intro p e s m args below meth c0 s₁ B hml hE H locs la hl hD hS
  have hlocks := B.notSynchronized
  exact W.zret (ty := ty) B.exec B.bytes (B.returns.trans hr) hn (fun t ht hW => ⟨⟨_, σ, rfl, ⟨v, hv, rfl, hq⟩, by show gDyn G σ t.heap; rw [ht]; exact hD⟩, hS.F ht⟩) hS.2.2 hd
theorem ga_aret {Q : Nat → gS → Prop} {k : Nat} (hd : decode M.2.1 pc = .ok (.areturn, 1)) (hr : M.2.2.2.1 = some (.object "java/lang/String")) (hq : Q k σ) : gAt l G M (gQr G Q) pc ls [.ref (gsK G k)] σ := by
  intro p e s m args below meth c0 s₁ B hml hE H locs la hl hD hS
  have hlocks := B.notSynchronized
  exact W.aret B.exec B.bytes (B.returns.trans hr) (Or.inl ⟨_, rfl⟩) (Or.inr ⟨_, rfl⟩) (fun t ht hW => ⟨⟨(k, σ), _, rfl, hq, rfl, by show gDyn G σ t.heap; rw [ht]; exact hD⟩, hS.F ht⟩) hS.2.2 hd
theorem ga_callSr {z : gM} {idx n : Nat} {As rest : List Value} (hd : decode M.2.1 pc = .ok (.invokestatic idx, 3)) (hw : gSw M.1.cls idx z n) (hR : gRoom M z) (hn : As.length = n) (hst : st = As.reverse ++ rest) (hrm : (rest.map fun v => v.category).sum ≤ 8) (k : gE l G z As σ (gQr G (fun r σ' => gAt l G M Qc (pc + 3) ls (.ref (gsK G r) :: rest) σ'))) : gAt l G M Qc pc ls (st) σ := by
  intro p e s m args below meth c0 s₁ B hml hE H locs la hl hD hS
  subst hst
  obtain ⟨hwl, hnm⟩ := hw
  obtain ⟨rc, rs, rf, rl⟩ := hR
  have hts := (fun w hw => atoms_spec (ws := gwsM M) B.pre w (List.mem_cons_of_mem _ hw))
  have hF : CallFix p m c0 M.2.1 M.2.2.1 s args (gwsM M) M.1.cls := ⟨B.exec, B.bytes, hml, (findClass_of_methodNamed B.named), atoms_spec (ws := gwsM M) B.pre⟩
  have hrun := va_runS (H := H) (locs := locs) (cells := 0) (slots := 0) (below := below) (e := e) (meth := meth) (g := F0 m pc la (As.reverse ++ rest)) (rest := rest) hF k ⟨callB_of (R := M.2.2.2.2) (mc := 0) (ms := 0) n (atoms_spec (ws := gwsM M) B.pre) (lw_goodIn (gwsz hwl.2.2.2)) rfl rc rs (hts _ hwl.2.2.1) (hts _ hwl.1) hnm ⟨rf, rl⟩, hts _ hwl.2.1⟩ ⟨gblind, gpre hE hD hS⟩ rfl hn hl.1 rfl (lv_room hrm) hd ⟨Nat.zero_le _, Nat.zero_le _⟩
  refine va_callr (A0 := gA G) hrun hS (fun _ _ h => h) (fun _ h => h) (fun u ra t H1 locs1 ht hvm hq hB _ _ hS1 => ?_)
  rw [hB.1]
  exact hq p e s m args below meth c0 s₁ B hml hE H1 locs1 la hl (by rw [← ht]; exact hB.2) hS1
theorem ga_scall {z : gM} {idx n k0 : Nat} {As rest : List Value} (hd : decode M.2.1 pc = .ok (.invokevirtual idx, 3)) (hw : gVw M.1.cls idx z n) (hR : gRoom M z) (hk : k0 < gstr.length) (hz : z.1.cls = "java/lang/String") (hn : As.length = n) (hst : st = As.reverse ++ .ref (gsK G k0) :: rest) (hrm : (rest.map fun v => v.category).sum ≤ 8) (k : gEi l G z (.ref (gsK G k0) :: As) σ (fun r σ' => gR r → gAt l G M Qc (pc + 3) ls (vI r :: rest) σ')) : gAt l G M Qc pc ls (st) σ := by
  intro p e s m args below meth c0 s₁ B hml hE H locs la hl hD hS
  subst hst
  obtain ⟨hwl, hnm⟩ := hw
  obtain ⟨rc, rs, rf, rl⟩ := hR
  have hts := (fun w hw => atoms_spec (ws := gwsM M) B.pre w (List.mem_cons_of_mem _ hw))
  have hF : CallFix p m c0 M.2.1 M.2.2.1 s args (gwsM M) M.1.cls := ⟨B.exec, B.bytes, hml, (findClass_of_methodNamed B.named), atoms_spec (ws := gwsM M) B.pre⟩
  have hrv := vk_recv hE.2.2.2.1 hk hS
  rw [← hz] at hrv
  have hcw : CallW M.2.2.2.2 s args M.1.cls z.1.cls idx z.1 z.2.1 z.2.2.1 z.2.2.2.1 (gwsM z) z.2.2.2.2 0 0 n := ⟨callB_of n (atoms_spec (ws := gwsM M) B.pre) (lw_goodIn (gwsz hwl.2.2.2.2)) rfl rc rs (hts _ hwl.2.2.2.1) (hts _ hwl.1) hnm ⟨rf, rl⟩, hts _ hwl.2.1, hts _ hwl.2.2.1⟩
  have hrun := va_runV (H := H) (locs := locs) (cells := 0) (slots := 0) (below := below) (e := e) (meth := meth) (b := gsK G k0) (g := F0 m pc la (As.reverse ++ .ref (gsK G k0) :: rest)) (rest := rest) hF k hcw ⟨gblind, hrv, gpre hE hD hS⟩ rfl hn hl.1 rfl (lv_room hrm) hd ⟨Nat.zero_le _, Nat.zero_le _⟩
  refine va_calli (A0 := gA G) hrun hS (fun _ _ h => h) (fun _ h => h) (fun r u t H1 locs1 ht hvm hq hB _ _ hS1 => ?_)
  obtain ⟨x, hx, rfl, hq⟩ := hq
  exact hq hx p e s m args below meth c0 s₁ B hml hE H1 locs1 la hl (by rw [← ht]; exact hB) hS1
end GS
