
theorem lw_good : gTbl.all goodWord = true := List.all_eq_true.mpr (fun _ h => (List.mem_filter.mp h).2)
theorem lw_goodIn {M : gM} {ws : List Cond} (h : ∀ w ∈ ws, w ∈ gTbl) : GoodIn (gwsM M) ws := fun w hw => ⟨List.mem_cons_of_mem _ (h w hw), good_of_word (List.all_eq_true.mp lw_good w (h w hw))⟩
theorem gtys_0 {G : gG} : (gtys G)[0]? = some (G.2.2.1 .int, .int) := rfl
theorem gtys_1 {G : gG} : (gtys G)[1]? = some (G.2.2.1 .byte, .byte) := rfl
theorem gtys_2 {G : gG} : (gtys G)[2]? = some (G.2.2.1 .boolean, .boolean) := rfl
theorem gtys_3 {G : gG} : (gtys G)[3]? = some (G.2.2.1 .long, .long) := rfl
theorem gtys_4 {G : gG} : (gtys G)[4]? = some (G.2.2.1 (.object RX10), .object RX10) := rfl
theorem gws_obj {G : gG} {σ : gS} {c ci : Nat} {ks : List (Option Nat)} (h : gshL[c]? = some (.inr (ci, ks))) : (gws G σ)[c]? = some (G.2.1 c, .inr (ci, gfld G.2.1 σ c 0 ks)) := gws_at h
def gPrim (ty : FieldType) : Bool := match ty with
  | .int => true
  | .byte => true
  | .boolean => true
  | _ => false
theorem gcell_arr {ad : Nat → Nat} {cA : FieldType → ClassId} {σ : gS} {c n : Nat} {ty : FieldType} (h : gPrim ty = true) : gcellOf ad cA σ c (some (.inl (n, ty))) = .inl (cA ty, n, .inl (fun k => i32 (σ.1 c k))) := by
  cases ty <;> first | rfl | cases h
theorem gws_arr {G : gG} {σ : gS} {c n : Nat} {ty : FieldType} (h : gshL[c]? = some (.inl (n, ty))) (hp : gPrim ty = true) : (gws G σ)[c]? = some (G.2.1 c, .inl (G.2.2.1 ty, n, .inl (fun k => i32 (σ.1 c k)))) := by
  rw [gws_at h, gcell_arr hp]
theorem gws_long {G : gG} {σ : gS} {c n : Nat} (h : gshL[c]? = some (.inl (n, .long))) : (gws G σ)[c]? = some (G.2.1 c, .inl (G.2.2.1 .long, n, .inr (.inl (fun k => i64 (σ.2.1 k))))) := gws_at h
theorem gsh_small {c n : Nat} {ty : FieldType} (h : gshL[c]? = some (.inl (n, ty))) : n < 2147483648 := by
  have h1 : (gshL.all (fun q => match q with | .inl x => decide (x.1 < 2147483648) | .inr _ => true)) = true := by decide +kernel
  have h2 := List.all_eq_true.mp h1 _ (List.mem_of_getElem? h)
  simpa using h2
/-- an array's update as a store's -/
theorem garr_upd {σ : gS} {c : Nat} {i v : Int} {k0 : Nat} (hk : (k0 : Int) = i) : upd (fun k : Nat => i32 (σ.1 c k)) k0 (i32 v) = fun k : Nat => i32 ((sI σ c i v).1 c k) := by
  funext k
  unfold upd
  by_cases h : k = k0
  · subst h; rw [if_pos rfl]; simp [sI, hk]
  · rw [if_neg h]
    have : ¬ ((k : Int) = i) := by omega
    simp [sI, this]
theorem gnz_of {v : Int} (h : v = 0 ∨ v = 1) : vp_nar .boolean (i32 v) = i32 v := by rcases h with rfl | rfl <;> decide
theorem gnb_of {v : Int} (h : -128 ≤ v ∧ v < 128) : vp_nar .byte (i32 v) = i32 v := by
  have hr : gR v := ⟨by omega, by omega⟩
  rw [← Int32.toInt_inj]
  show (i32 v).toInt8.toInt32.toInt = _
  rw [i32_toInt hr, Int8.toInt_toInt32, Int32.toInt_toInt8, i32_toInt hr]
  rw [Int.bmod_def]
  omega
theorem gi2b_r (x : Int) : -128 ≤ gi2b x ∧ gi2b x < 128 := by
  unfold gi2b
  rw [Int8.toInt_toInt32]
  have h1 := Int8.le_toInt (i32 x).toInt8
  have h2 := Int8.toInt_lt (i32 x).toInt8
  omega
theorem gsh_long1 {c n : Nat} (h : gshL[c]? = some (.inl (n, .long))) : c = 65 := by
  have hc : c < gN := by
    have := (List.getElem?_eq_some_iff.mp h).1
    rwa [gN_len] at this
  have h1 : ∀ c, c < gN → c ≠ 65 → (match gshL[c]? with | some (.inl (_, .long)) => false | _ => true) = true := by decide +kernel
  by_cases hc5 : c = 65
  · exact hc5
  · have h2 := h1 c hc hc5
    rw [h] at h2
    cases h2
def gNoT : List (Option Nat) → Bool := fun ks => ks.all (fun q => match q with | some r => !(r == 9999) | none => true)
theorem gsh_tape1 {c ci : Nat} {ks : List (Option Nat)} (h : gshL[c]? = some (.inr (ci, ks))) (hc : c ≠ 27) : gNoT ks = true := by
  have hl : c < gN := by
    have := (List.getElem?_eq_some_iff.mp h).1
    rwa [gN_len] at this
  have h1 : ∀ c, c < gN → c ≠ 27 → (match gshL[c]? with | some (.inr (_, ks)) => gNoT ks | _ => true) = true := by decide +kernel
  have h2 := h1 c hl hc
  rw [h] at h2
  exact h2
theorem gfld_noT {ad : Nat → Nat} {σ : gS} {t c : Nat} : ∀ (ks : List (Option Nat)) (k : Nat), gNoT ks = true → gfld ad (sT σ t) c k ks = gfld ad σ c k ks
  | [], _, _ => rfl
  | none :: r, k, h => by
    simp only [gfld]
    rw [gfld_noT r (k + 1) (by simpa [gNoT] using h)]
    rfl
  | some q :: r, k, h => by
    have h' : q ≠ 9999 ∧ gNoT r = true := by simpa [gNoT] using h
    simp only [gfld, if_neg h'.1]
    rw [gfld_noT r (k + 1) h'.2]
theorem sL_o {G : gG} {σ : gS} {i v : Int} : ∀ c', c' ≠ 65 → gcellOf G.2.1 G.2.2.1 (sL σ i v) c' gshL[c']? = gcellOf G.2.1 G.2.2.1 σ c' gshL[c']? := by
  intro c' h
  cases hx : gshL[c']? with
  | none => rfl
  | some x =>
    rcases x with ⟨n, ty⟩ | ⟨ci, ks⟩
    · cases ty <;> first | rfl | exact absurd (gsh_long1 hx) h
    · exact congrArg (fun z => Sum.inr (ci, z)) (gfld_congr (σ := sL σ i v) (σ' := σ) (fun _ => rfl) rfl ks 0)
theorem sT_o {G : gG} {σ : gS} {t : Nat} : ∀ c', c' ≠ 27 → gcellOf G.2.1 G.2.2.1 (sT σ t) c' gshL[c']? = gcellOf G.2.1 G.2.2.1 σ c' gshL[c']? := by
  intro c' h
  cases hx : gshL[c']? with
  | none => rfl
  | some x =>
    rcases x with ⟨n, ty⟩ | ⟨ci, ks⟩
    · cases ty <;> rfl
    · exact congrArg (fun z => Sum.inr (ci, z)) (gfld_noT ks 0 (gsh_tape1 hx h))
theorem gimg_obj {t : Nat} {i : Nat} (h : gimg[i]? = some t) : gshL[t]? = some (.inr (10, [some (t + 1), none, none, none, some (t + 2), some (t + 3), some (t + 4), some (t + 5)])) := by
  match i, h with
  | 0, h => cases h; rfl
  | 1, h => cases h; rfl
  | 2, h => cases h; rfl
  | k + 3, h => simp [gimg] at h
def gst (k : Nat) (i : Int) : Int := ((gsta[k]?).getD ("", [])).2.getD i.toNat 0

section GB
variable {l : Launch} {G : gG} {M : gM} {Qc : Array Value → State → Outcome → State → Prop} {pc : Nat} {ls : List (Nat × Value)} {st : List Value} {σ σ' : gS}
theorem ga_getI {c ci k idx : Nat} {kI : Int} {ks : List (Option Nat)} (hd : decode M.2.1 pc = .ok (.getfield idx, 3)) (hf : gFld M.1.cls idx ci k) (hs : gshL[c]? = some (.inr (ci, ks))) (hk : ks[k]? = some none) (hkI : (k : Int) = kI) (kk : gR (gI σ c kI) → gAt l G M Qc (pc + 3) ls (vI (gI σ c kI) :: st) σ) : gAt l G M Qc pc ls (.ref (G.2.1 c) :: st) σ := by
  intro p e s m args below meth c0 s₁ B hml hE H locs la hl hD hS
  obtain ⟨C, T, N, hc, hkN, hin, hw, hT⟩ := hf
  refine va_get (D := G.1) (T := T) (N := N) (C := C) (ref := C) B.exec B.bytes (fun w hw => atoms_spec (ws := gwsM M) B.pre w (List.mem_cons_of_mem _ hw)) hin (findClass_of_methodNamed B.named) hE.1 hD.1 c (gws_obj hs) hc k hkN (atoms_spec (ws := gwsM M) B.pre _ (List.mem_cons_of_mem _ hw)) (fun x hx => by rw [hT] at hx; exact hx) (v := vI (gI σ c kI)) ?_ hd (kk (hD.2.2.1 c kI) p e s m args below meth c0 s₁ B hml hE H locs la hl hD hS)
  rw [gfld_get, hk]
  subst hkI
  simp
theorem ga_getR {c ci k idx : Nat} {kI : Int} {ks : List (Option Nat)} (hd : decode M.2.1 pc = .ok (.getfield idx, 3)) (hf : gFld M.1.cls idx ci k) (hs : gshL[c]? = some (.inr (ci, ks))) {r : Nat} (hk : ks[k]? = some (some r)) (hr : r ≠ 9999) (hkI : (k : Int) = kI) (kk : gAt l G M Qc (pc + 3) ls (.ref (G.2.1 r) :: st) σ) : gAt l G M Qc pc ls (.ref (G.2.1 c) :: st) σ := by
  intro p e s m args below meth c0 s₁ B hml hE H locs la hl hD hS
  obtain ⟨C, T, N, hc, hkN, hin, hw, hT⟩ := hf
  refine va_get (D := G.1) (T := T) (N := N) (C := C) (ref := C) B.exec B.bytes (fun w hw => atoms_spec (ws := gwsM M) B.pre w (List.mem_cons_of_mem _ hw)) hin (findClass_of_methodNamed B.named) hE.1 hD.1 c (gws_obj hs) hc k hkN (atoms_spec (ws := gwsM M) B.pre _ (List.mem_cons_of_mem _ hw)) (fun x hx => by rw [hT] at hx; exact hx) (v := .ref (G.2.1 r)) ?_ hd (kk p e s m args below meth c0 s₁ B hml hE H locs la hl hD hS)
  rw [gfld_get, hk]
  subst hkI
  simp [hr]
theorem ga_getT {c ci k idx : Nat} {kI : Int} {ks : List (Option Nat)} (hd : decode M.2.1 pc = .ok (.getfield idx, 3)) (hf : gFld M.1.cls idx ci k) (hs : gshL[c]? = some (.inr (ci, ks))) (hk : ks[k]? = some (some 9999)) (hkI : (k : Int) = kI) (kk : gAt l G M Qc (pc + 3) ls (.ref (G.2.1 σ.2.2) :: st) σ) : gAt l G M Qc pc ls (.ref (G.2.1 c) :: st) σ := by
  intro p e s m args below meth c0 s₁ B hml hE H locs la hl hD hS
  obtain ⟨C, T, N, hc, hkN, hin, hw, hT⟩ := hf
  refine va_get (D := G.1) (T := T) (N := N) (C := C) (ref := C) B.exec B.bytes (fun w hw => atoms_spec (ws := gwsM M) B.pre w (List.mem_cons_of_mem _ hw)) hin (findClass_of_methodNamed B.named) hE.1 hD.1 c (gws_obj hs) hc k hkN (atoms_spec (ws := gwsM M) B.pre _ (List.mem_cons_of_mem _ hw)) (fun x hx => by rw [hT] at hx; exact hx) (v := .ref (G.2.1 σ.2.2)) ?_ hd (kk p e s m args below meth c0 s₁ B hml hE H locs la hl hD hS)
  rw [gfld_get, hk]
  subst hkI
  simp
theorem ga_getT2 {c ci k idx : Nat} {kI : Int} {ks : List (Option Nat)} (hd : decode M.2.1 pc = .ok (.getfield idx, 3)) (hf : gFld M.1.cls idx ci k) (hs : gshL[c]? = some (.inr (ci, ks))) {t : Nat} (hk : ks[k]? = some (some 9999)) (hkI : (k : Int) = kI) (hTT : σ.2.2 = t) (kk : gAt l G M Qc (pc + 3) ls (.ref (G.2.1 t) :: st) σ) : gAt l G M Qc pc ls (.ref (G.2.1 c) :: st) σ := by
  intro p e s m args below meth c0 s₁ B hml hE H locs la hl hD hS
  obtain ⟨C, T, N, hc, hkN, hin, hw, hT⟩ := hf
  refine va_get (D := G.1) (T := T) (N := N) (C := C) (ref := C) B.exec B.bytes (fun w hw => atoms_spec (ws := gwsM M) B.pre w (List.mem_cons_of_mem _ hw)) hin (findClass_of_methodNamed B.named) hE.1 hD.1 c (gws_obj hs) hc k hkN (atoms_spec (ws := gwsM M) B.pre _ (List.mem_cons_of_mem _ hw)) (fun x hx => by rw [hT] at hx; exact hx) (v := .ref (G.2.1 t)) ?_ hd (kk p e s m args below meth c0 s₁ B hml hE H locs la hl hD hS)
  rw [gfld_get, hk]
  subst hkI
  simp [hTT]
theorem ga_putI {c ci k idx : Nat} {kI v : Int} {ks : List (Option Nat)} (hd : decode M.2.1 pc = .ok (.putfield idx, 3)) (hf : gFld M.1.cls idx ci k) (hp : gPut ci k .int) (hs : gshL[c]? = some (.inr (ci, ks))) (hk : ks[k]? = some none) (hkI : (k : Int) = kI) (hv : gR v) (hσ : σ' = sI σ c kI v) (kk : gAt l G M Qc (pc + 3) ls (st) σ') : gAt l G M Qc pc ls (vI v :: .ref (G.2.1 c) :: st) σ := by
  intro p e s m args below meth c0 s₁ B hml hE H locs la hl hD hS
  obtain ⟨C, T, N, hc, hkN, hin, hw, hT⟩ := hf
  obtain ⟨hfin, hpd, ⟨ty0, hty⟩, hnm⟩ := hp C T N hc
  refine va_put (D := G.1) (A := gA G) (T := T) (N := N) (C := C) (ref := C) (ty := .int) (v := vI v) B.exec B.bytes (fun w hw => atoms_spec (ws := gwsM M) B.pre w (List.mem_cons_of_mem _ hw)) hin ty0 hty hnm (findClass_of_methodNamed B.named) hE.1 hD.1 hD.2.1 hS c (gws_obj hs) hc k hkN (atoms_spec (ws := gwsM M) B.pre _ (List.mem_cons_of_mem _ hw)) (fun x hx => by rw [hT] at hx; exact hx) hfin hpd rfl rfl (by rw [gfld_len]; exact (List.getElem?_eq_some_iff.mp hk).1) hd (fun H1 locs1 hP1 hD1 hS1 => ?_)
  subst hkI
  have hw2 := gws_set (G := G) (σ := σ) (σ' := sI σ c k v) hs sI_o
  have he : gcellOf G.2.1 G.2.2.1 (sI σ c k v) c (some (.inr (ci, ks))) = .inr (ci, (gfld G.2.1 σ c 0 ks).set k (vI v)) := by rw [gfld_set hk]; rfl
  rw [he] at hw2
  rw [hw2, ← hσ] at hP1 hD1
  exact kk p e s m args below meth c0 s₁ B hml hE H1 locs1 la hl ⟨hP1, hD1, by rw [hσ]; exact gOK_sI hD.2.2 hv⟩ hS1
theorem ga_putZ {c ci k idx : Nat} {kI v : Int} {ks : List (Option Nat)} (hd : decode M.2.1 pc = .ok (.putfield idx, 3)) (hf : gFld M.1.cls idx ci k) (hp : gPut ci k .boolean) (hs : gshL[c]? = some (.inr (ci, ks))) (hk : ks[k]? = some none) (hkI : (k : Int) = kI) (hv : v = 0 ∨ v = 1) (hσ : σ' = sI σ c kI v) (kk : gAt l G M Qc (pc + 3) ls (st) σ') : gAt l G M Qc pc ls (vI v :: .ref (G.2.1 c) :: st) σ := by
  intro p e s m args below meth c0 s₁ B hml hE H locs la hl hD hS
  obtain ⟨C, T, N, hc, hkN, hin, hw, hT⟩ := hf
  obtain ⟨hfin, hpd, ⟨ty0, hty⟩, hnm⟩ := hp C T N hc
  refine va_put (D := G.1) (A := gA G) (T := T) (N := N) (C := C) (ref := C) (ty := .boolean) (v := vI v) B.exec B.bytes (fun w hw => atoms_spec (ws := gwsM M) B.pre w (List.mem_cons_of_mem _ hw)) hin ty0 hty hnm (findClass_of_methodNamed B.named) hE.1 hD.1 hD.2.1 hS c (gws_obj hs) hc k hkN (atoms_spec (ws := gwsM M) B.pre _ (List.mem_cons_of_mem _ hw)) (fun x hx => by rw [hT] at hx; exact hx) hfin hpd (by rcases hv with rfl | rfl <;> decide) (by rcases hv with rfl | rfl <;> decide) (by rw [gfld_len]; exact (List.getElem?_eq_some_iff.mp hk).1) hd (fun H1 locs1 hP1 hD1 hS1 => ?_)
  subst hkI
  have hw2 := gws_set (G := G) (σ := σ) (σ' := sI σ c k v) hs sI_o
  have he : gcellOf G.2.1 G.2.2.1 (sI σ c k v) c (some (.inr (ci, ks))) = .inr (ci, (gfld G.2.1 σ c 0 ks).set k (vI v)) := by rw [gfld_set hk]; rfl
  rw [he] at hw2
  rw [hw2, ← hσ] at hP1 hD1
  exact kk p e s m args below meth c0 s₁ B hml hE H1 locs1 la hl ⟨hP1, hD1, by rw [hσ]; exact gOK_sI hD.2.2 (by rcases hv with rfl | rfl <;> decide)⟩ hS1
theorem ga_putT {ci k idx t : Nat} {ty : FieldType} {ks : List (Option Nat)} (hd : decode M.2.1 pc = .ok (.putfield idx, 3)) (hf : gFld M.1.cls idx ci k) (hp : gPut ci k ty) (hs : gshL[27]? = some (.inr (ci, ks))) (hk : ks[k]? = some (some 9999)) (h1 : ∀ j, j ≠ k → ks[j]? ≠ some (some 9999)) (hn : ∀ a, narrow ty (.ref a) = .ref a) (hfi : ∀ a, fits ty (.ref a) = true) (hσ : σ' = sT σ t) (kk : gAt l G M Qc (pc + 3) ls (st) σ') : gAt l G M Qc pc ls (.ref (G.2.1 t) :: .ref (G.2.1 27) :: st) σ := by
  intro p e s m args below meth c0 s₁ B hml hE H locs la hl hD hS
  obtain ⟨C, T, N, hc, hkN, hin, hw, hT⟩ := hf
  obtain ⟨hfin, hpd, ⟨ty0, hty⟩, hnm⟩ := hp C T N hc
  have hlt := (List.getElem?_eq_some_iff.mp hk).1
  refine va_put (D := G.1) (A := gA G) (T := T) (N := N) (C := C) (ref := C) (ty := ty) (v := .ref (G.2.1 t)) B.exec B.bytes (fun w hw => atoms_spec (ws := gwsM M) B.pre w (List.mem_cons_of_mem _ hw)) hin ty0 hty hnm (findClass_of_methodNamed B.named) hE.1 hD.1 hD.2.1 hS 27 (gws_obj hs) hc k hkN (atoms_spec (ws := gwsM M) B.pre _ (List.mem_cons_of_mem _ hw)) (fun x hx => by rw [hT] at hx; exact hx) hfin hpd (hn _) (hfi _) (by rw [gfld_len]; exact hlt) hd (fun H1 locs1 hP1 hD1 hS1 => ?_)
  have hw2 := gws_set (G := G) (σ := σ) (σ' := sT σ t) hs sT_o
  have he : gcellOf G.2.1 G.2.2.1 (sT σ t) 27 (some (.inr (ci, ks))) = .inr (ci, (gfld G.2.1 σ 27 0 ks).set k (.ref (G.2.1 t))) := by
    show Sum.inr (ci, gfld G.2.1 (sT σ t) 27 0 ks) = _
    congr 2
    refine List.ext_getElem? (fun j => ?_)
    rw [List.getElem?_set, gfld_len, gfld_get, gfld_get]
    by_cases hj : k = j
    · subst hj
      rw [if_pos rfl, if_pos hlt, hk]
      simp [sT]
    · rw [if_neg hj]
      cases hq : ks[j]? with
      | none => rfl
      | some q =>
        cases q with
        | none => rfl
        | some r =>
          have hr : r ≠ 9999 := fun e => h1 j (fun e2 => hj e2.symm) (by rw [hq, e])
          simp [hr]
  rw [he] at hw2
  rw [hw2, ← hσ] at hP1 hD1
  exact kk p e s m args below meth c0 s₁ B hml hE H1 locs1 la hl ⟨hP1, hD1, by rw [hσ]; exact hD.2.2⟩ hS1
theorem ga_iald {c n : Nat} {i nI : Int} (hd : decode M.2.1 pc = .ok (.iaload, 1)) (hs : gshL[c]? = some (.inl (n, .int))) (hnI : (n : Int) = nI) (hi : 0 ≤ i ∧ i < nI) (kk : gR (gI σ c i) → gAt l G M Qc (pc + 1) ls (vI (gI σ c i) :: st) σ) : gAt l G M Qc pc ls (vI i :: .ref (G.2.1 c) :: st) σ := by
  intro p e s m args below meth c0 s₁ B hml hE H locs la hl hD hS
  subst hnI
  obtain ⟨h1, h2⟩ := gR_in hi (gsh_small hs)
  have k := kk (hD.2.2.1 c i) p e s m args below meth c0 s₁ B hml hE H locs la hl hD hS
  refine va_iald B.exec B.bytes hE.1 hD.1 c 0 (gws_arr hs rfl) gtys_0 h1 hd ?_
  rw [h2]; exact k
theorem ga_zald {c n : Nat} {i nI : Int} (hd : decode M.2.1 pc = .ok (.baload, 1)) (hs : gshL[c]? = some (.inl (n, .boolean))) (hnI : (n : Int) = nI) (hi : 0 ≤ i ∧ i < nI) (kk : gR (gI σ c i) → gAt l G M Qc (pc + 1) ls (vI (gI σ c i) :: st) σ) : gAt l G M Qc pc ls (vI i :: .ref (G.2.1 c) :: st) σ := by
  intro p e s m args below meth c0 s₁ B hml hE H locs la hl hD hS
  subst hnI
  obtain ⟨h1, h2⟩ := gR_in hi (gsh_small hs)
  have k := kk (hD.2.2.1 c i) p e s m args below meth c0 s₁ B hml hE H locs la hl hD hS
  refine va_zald B.exec B.bytes hE.1 hD.1 c 2 (gws_arr hs rfl) gtys_2 h1 hd ?_
  rw [h2]; exact k
theorem ga_bald {c n : Nat} {i nI : Int} (hd : decode M.2.1 pc = .ok (.baload, 1)) (hs : gshL[c]? = some (.inl (n, .byte))) (hnI : (n : Int) = nI) (hi : 0 ≤ i ∧ i < nI) (kk : gR (gI σ c i) → gAt l G M Qc (pc + 1) ls (vI (gI σ c i) :: st) σ) : gAt l G M Qc pc ls (vI i :: .ref (G.2.1 c) :: st) σ := by
  intro p e s m args below meth c0 s₁ B hml hE H locs la hl hD hS
  subst hnI
  obtain ⟨h1, h2⟩ := gR_in hi (gsh_small hs)
  have k := kk (hD.2.2.1 c i) p e s m args below meth c0 s₁ B hml hE H locs la hl hD hS
  refine va_bald B.exec B.bytes hE.1 hD.1 c 1 (gws_arr hs rfl) gtys_1 h1 hd ?_
  rw [h2]; exact k
theorem ga_iast {c n : Nat} {i v nI : Int} (hd : decode M.2.1 pc = .ok (.iastore, 1)) (hs : gshL[c]? = some (.inl (n, .int))) (hnI : (n : Int) = nI) (hi : 0 ≤ i ∧ i < nI) (hv : gR v) (hσ : σ' = sI σ c i v) (kk : gAt l G M Qc (pc + 1) ls (st) σ') : gAt l G M Qc pc ls (vI v :: vI i :: .ref (G.2.1 c) :: st) σ := by
  intro p e s m args below meth c0 s₁ B hml hE H locs la hl hD hS
  subst hnI
  obtain ⟨h1, h2⟩ := gR_in hi (gsh_small hs)
  refine va_iast (A := gA G) B.exec B.bytes hE.1 hD.1 hD.2.1 hS c 0 (gws_arr hs rfl) gtys_0 h1 hd (fun H1 locs1 hP1 hD1 hS1 => ?_)
  rw [garr_upd h2] at hP1 hD1
  have hw2 := gws_set (G := G) (σ := σ) (σ' := sI σ c i v) hs sI_o
  rw [gcell_arr rfl] at hw2
  rw [hw2, ← hσ] at hP1 hD1
  exact kk p e s m args below meth c0 s₁ B hml hE H1 locs1 la hl ⟨hP1, hD1, by rw [hσ]; exact gOK_sI hD.2.2 hv⟩ hS1
theorem ga_zast {c n : Nat} {i v nI : Int} (hd : decode M.2.1 pc = .ok (.bastore, 1)) (hs : gshL[c]? = some (.inl (n, .boolean))) (hnI : (n : Int) = nI) (hi : 0 ≤ i ∧ i < nI) (hv : v = 0 ∨ v = 1) (hσ : σ' = sI σ c i v) (kk : gAt l G M Qc (pc + 1) ls (st) σ') : gAt l G M Qc pc ls (vI v :: vI i :: .ref (G.2.1 c) :: st) σ := by
  intro p e s m args below meth c0 s₁ B hml hE H locs la hl hD hS
  subst hnI
  obtain ⟨h1, h2⟩ := gR_in hi (gsh_small hs)
  refine va_zast (A := gA G) B.exec B.bytes hE.1 hD.1 hD.2.1 hS c 2 (gws_arr hs rfl) gtys_2 h1 hd (fun H1 locs1 hP1 hD1 hS1 => ?_)
  rw [gnz_of hv] at hP1 hD1
  rw [garr_upd h2] at hP1 hD1
  have hw2 := gws_set (G := G) (σ := σ) (σ' := sI σ c i v) hs sI_o
  rw [gcell_arr rfl] at hw2
  rw [hw2, ← hσ] at hP1 hD1
  exact kk p e s m args below meth c0 s₁ B hml hE H1 locs1 la hl ⟨hP1, hD1, by rw [hσ]; exact gOK_sI hD.2.2 (by rcases hv with rfl | rfl <;> decide)⟩ hS1
theorem ga_bast {c n : Nat} {i v nI : Int} (hd : decode M.2.1 pc = .ok (.bastore, 1)) (hs : gshL[c]? = some (.inl (n, .byte))) (hnI : (n : Int) = nI) (hi : 0 ≤ i ∧ i < nI) (hv : -128 ≤ v ∧ v < 128) (hσ : σ' = sI σ c i v) (kk : gAt l G M Qc (pc + 1) ls (st) σ') : gAt l G M Qc pc ls (vI v :: vI i :: .ref (G.2.1 c) :: st) σ := by
  intro p e s m args below meth c0 s₁ B hml hE H locs la hl hD hS
  subst hnI
  obtain ⟨h1, h2⟩ := gR_in hi (gsh_small hs)
  refine va_bast (A := gA G) B.exec B.bytes hE.1 hD.1 hD.2.1 hS c 1 (gws_arr hs rfl) gtys_1 h1 hd (fun H1 locs1 hP1 hD1 hS1 => ?_)
  rw [gnb_of hv] at hP1 hD1
  rw [garr_upd h2] at hP1 hD1
  have hw2 := gws_set (G := G) (σ := σ) (σ' := sI σ c i v) hs sI_o
  rw [gcell_arr rfl] at hw2
  rw [hw2, ← hσ] at hP1 hD1
  exact kk p e s m args below meth c0 s₁ B hml hE H1 locs1 la hl ⟨hP1, hD1, by rw [hσ]; exact gOK_sI hD.2.2 ⟨by omega, by omega⟩⟩ hS1
theorem ga_lald {n : Nat} {i nI : Int} (hd : decode M.2.1 pc = .ok (.laload, 1)) (hs : gshL[65]? = some (.inl (n, .long))) (hnI : (n : Int) = nI) (hi : 0 ≤ i ∧ i < nI) (kk : gRl (σ.2.1 i) → gAt l G M Qc (pc + 1) ls (vL (σ.2.1 i) :: st) σ) : gAt l G M Qc pc ls (vI i :: .ref (G.2.1 65) :: st) σ := by
  intro p e s m args below meth c0 s₁ B hml hE H locs la hl hD hS
  subst hnI
  obtain ⟨h1, h2⟩ := gR_in hi (gsh_small hs)
  have k := kk (hD.2.2.2 i) p e s m args below meth c0 s₁ B hml hE H locs la hl hD hS
  refine va_lald B.exec B.bytes hE.1 hD.1 65 3 (gws_long hs) gtys_3 h1 hd ?_
  rw [h2]; exact k
theorem ga_last {n : Nat} {i v nI : Int} (hd : decode M.2.1 pc = .ok (.lastore, 1)) (hs : gshL[65]? = some (.inl (n, .long))) (hnI : (n : Int) = nI) (hi : 0 ≤ i ∧ i < nI) (hv : gRl v) (hσ : σ' = sL σ i v) (kk : gAt l G M Qc (pc + 1) ls (st) σ') : gAt l G M Qc pc ls (vL v :: vI i :: .ref (G.2.1 65) :: st) σ := by
  intro p e s m args below meth c0 s₁ B hml hE H locs la hl hD hS
  subst hnI
  obtain ⟨h1, h2⟩ := gR_in hi (gsh_small hs)
  refine va_last (A := gA G) B.exec B.bytes hE.1 hD.1 hD.2.1 hS 65 3 (gws_long hs) gtys_3 h1 hd (fun H1 locs1 hP1 hD1 hS1 => ?_)
  have hu : vp_updL (fun k : Nat => i64 (σ.2.1 k)) (i32 i).toNatClampNeg (i64 v) = fun k : Nat => i64 ((sL σ i v).2.1 k) := by
    funext k
    unfold vp_updL
    by_cases h : k = (i32 i).toNatClampNeg
    · subst h; rw [if_pos rfl]; simp [sL, h2]
    · rw [if_neg h]
      have : ¬ ((k : Int) = i) := by omega
      simp [sL, this]
  rw [hu] at hP1 hD1
  have hw2 := gws_set (G := G) (σ := σ) (σ' := sL σ i v) hs sL_o
  have hc : gcellOf G.2.1 G.2.2.1 (sL σ i v) 65 (some (.inl (n, .long))) = .inl (G.2.2.1 .long, n, .inr (.inl (fun k : Nat => i64 ((sL σ i v).2.1 k)))) := rfl
  rw [hc] at hw2
  rw [hw2, ← hσ] at hP1 hD1
  refine kk p e s m args below meth c0 s₁ B hml hE H1 locs1 la hl ⟨hP1, hD1, ?_⟩ hS1
  rw [hσ]
  refine ⟨hD.2.2.1, fun j => ?_⟩
  show gRl (if _ then _ else _)
  split
  · exact hv
  · exact hD.2.2.2 j
theorem ga_alen {c n : Nat} {nI : Int} {ty : FieldType} (t0 : Nat) (hd : decode M.2.1 pc = .ok (.arraylength, 1)) (hs : gshL[c]? = some (.inl (n, ty))) (hp : gPrim ty = true) (ht : (gtys G)[t0]? = some (G.2.2.1 ty, ty)) (hnI : (n : Int) = nI) (kk : gAt l G M Qc (pc + 1) ls (vI nI :: st) σ) : gAt l G M Qc pc ls (.ref (G.2.1 c) :: st) σ := by
  intro p e s m args below meth c0 s₁ B hml hE H locs la hl hD hS
  subst hnI
  exact va_alen B.exec B.bytes hE.1 hD.1 c t0 (gws_arr hs hp) ht rfl hd (kk p e s m args below meth c0 s₁ B hml hE H locs la hl hD hS)
theorem ga_aald {i : Int} (hd : decode M.2.1 pc = .ok (.aaload, 1)) (hs : gshL[7]? = some (.inl (3, .object RX10))) (hi : 0 ≤ i ∧ i < 3) (kk : ∀ t, gimg[i.toNat]? = some t → gAt l G M Qc (pc + 1) ls (.ref (G.2.1 t) :: st) σ) : gAt l G M Qc pc ls (vI i :: .ref (G.2.1 7) :: st) σ := by
  intro p e s m args below meth c0 s₁ B hml hE H locs la hl hD hS
  obtain ⟨h1, h2⟩ := gR_in (n := 3) hi (by decide)
  have h3 : (i32 i).toNatClampNeg = i.toNat := by omega
  refine va_aldq B.exec B.bytes hE.1 hD.1 7 4 (C := RX10) (n := 3) (f := fun k => (gimg[k]?).map G.2.1) (gws_at hs) gtys_4 h1 hd ?_
  have hx : ∃ t, gimg[i.toNat]? = some t := by
    have : i = 0 ∨ i = 1 ∨ i = 2 := by omega
    rcases this with rfl | rfl | rfl <;> exact ⟨_, rfl⟩
  obtain ⟨t, ht⟩ := hx
  rw [h3, ht]
  exact kk t ht p e s m args below meth c0 s₁ B hml hE H locs la hl hD hS
theorem ga_gets {idx k : Nat} {q : String × List Int} (hd : decode M.2.1 pc = .ok (.getstatic idx, 3)) (hq : gsta[k]? = some q) (hw : Cond.fieldLink M.1.cls idx RX7 q.1 "[I" ∈ gTbl) (kk : gAt l G M Qc (pc + 3) ls (.ref (G.2.2.2.2.1 k) :: st) σ) : gAt l G M Qc pc ls (st) σ := by
  intro p e s m args below meth c0 s₁ B hml hE H locs la hl hD hS
  exact va_gets (ref := RX7) B.exec B.bytes (hE.2.1 k q hq).1 hS (findClass_of_methodNamed B.named) (atoms_spec (ws := gwsM M) B.pre _ (List.mem_cons_of_mem _ hw)) (fun x hx => hx) hd (kk p e s m args below meth c0 s₁ B hml hE H locs la hl hD hS)
theorem ga_sald {k : Nat} {q : String × List Int} {i nI : Int} (hd : decode M.2.1 pc = .ok (.iaload, 1)) (hq : gsta[k]? = some q) (hnI : (q.2.length : Int) = nI) (hi : 0 ≤ i ∧ i < nI) (kk : gAt l G M Qc (pc + 1) ls (vI (gst k i) :: st) σ) : gAt l G M Qc pc ls (vI i :: .ref (G.2.2.2.2.1 k) :: st) σ := by
  intro p e s m args below meth c0 s₁ B hml hE H locs la hl hD hS
  subst hnI
  have hsm : q.2.length < 2147483648 := by
    have h1 : (gsta.all (fun q => decide (q.2.length < 2147483648))) = true := by decide +kernel
    simpa using List.all_eq_true.mp h1 _ (List.mem_of_getElem? hq)
  obtain ⟨h1, h2⟩ := gR_in hi hsm
  have h3 : (i32 i).toNatClampNeg = i.toNat := by omega
  refine va_ti B.exec B.bytes (hE.2.1 k q hq).2 hS h1 (v := vI (gst k i)) ?_ hd (kk p e s m args below meth c0 s₁ B hml hE H locs la hl hD hS)
  rw [h3]
  simp [gst, hq]
theorem ga_entry {av : List Value} (hy : plainName M.1.cls = true) (hlen : (lg_sl av).length ≤ M.2.2.1) (k : gAt l G M Qc 0 (lv_args 0 av) [] σ) : gE l G M av σ Qc := by
  refine Met.ofW (cc := M.2.1) (maxL := M.2.2.1) (ret := M.2.2.2.1) hy rfl ?_
  intro p e s m args below meth c s₁ B hml hv
  obtain ⟨rfl, hE, hD⟩ := hv
  rw [lg_entry_eq]
  exact k p e s m _ below meth c s₁ B hml hE s.heap [] _ (lv_entry av hlen) hD va_S.rf
theorem ga_iret {Q : Int → gS → Prop} {v : Int} (hd : decode M.2.1 pc = .ok (.ireturn, 1)) (hr : M.2.2.2.1 = some .int) (hv : gR v) (hq : Q v σ) : gAt l G M (gQi G Q) pc ls [vI v] σ := by
  intro p e s m args below meth c0 s₁ B hml hE H locs la hl hD hS
  have hlocks := B.notSynchronized
  exact W.iret B.exec B.bytes (B.returns.trans hr) (fun t ht hW => ⟨⟨_, σ, rfl, ⟨v, hv, rfl, hq⟩, by show gDyn G σ t.heap; rw [ht]; exact hD⟩, hS.F ht⟩) hS.2.2 hd
theorem ga_zret {Q : Int → gS → Prop} {v : Int} (hd : decode M.2.1 pc = .ok (.ireturn, 1)) (hr : M.2.2.2.1 = some .boolean) (hv : v = 0 ∨ v = 1) (hq : Q v σ) : gAt l G M (gQi G Q) pc ls [vI v] σ := by
  intro p e s m args below meth c0 s₁ B hml hE H locs la hl hD hS
  have hlocks := B.notSynchronized
  exact W.zret (ty := .boolean) B.exec B.bytes (B.returns.trans hr) (by rcases hv with rfl | rfl <;> decide) (fun t ht hW => ⟨⟨_, σ, rfl, ⟨v, by rcases hv with rfl | rfl <;> decide, rfl, hq⟩, by show gDyn G σ t.heap; rw [ht]; exact hD⟩, hS.F ht⟩) hS.2.2 hd
theorem ga_lret {Q : Int → gS → Prop} {v : Int} (hd : decode M.2.1 pc = .ok (.lreturn, 1)) (hr : M.2.2.2.1 = some .long) (hv : gRl v) (hq : Q v σ) : gAt l G M (gQl G Q) pc ls [vL v] σ := by
  intro p e s m args below meth c0 s₁ B hml hE H locs la hl hD hS
  have hlocks := B.notSynchronized
  exact W.lret B.exec B.bytes (B.returns.trans hr) (fun t ht hW => ⟨⟨_, σ, rfl, ⟨v, hv, rfl, hq⟩, by show gDyn G σ t.heap; rw [ht]; exact hD⟩, hS.F ht⟩) hS.2.2 hd
theorem ga_vret {Q : gS → Prop} (hd : decode M.2.1 pc = .ok (.return_, 1)) (hr : M.2.2.2.1 = none) (hq : Q σ) : gAt l G M (gQv G Q) pc ls [] σ := by
  intro p e s m args below meth c0 s₁ B hml hE H locs la hl hD hS
  have hlocks := B.notSynchronized
  exact W.vret B.exec B.bytes (B.returns.trans hr) (fun t ht hW => ⟨⟨σ, rfl, hq, by show gDyn G σ t.heap; rw [ht]; exact hD⟩, hS.F ht⟩) hS.2.2 hd
/-- the words of a call -/
def gVw (own : String) (idx : Nat) (z : gM) (n : Nat) : Prop := (Cond.methodLink own idx z.1 ∈ gTbl ∧ Cond.instanceMethod z.1 ∈ gTbl ∧ Cond.selects z.1.cls z.1 z.1 ∈ gTbl ∧ Cond.initialized z.1.cls ∈ gTbl ∧ Cond.code z.1 z.2.1 z.2.2.1 z.2.2.2.1 ∈ gTbl) ∧ z.1.cls ≠ "java/lang/invoke/MethodHandle" ∧ z.1.cls ≠ "java/lang/invoke/VarHandle" ∧ (parseMethodDescriptor z.1.desc).map (fun d => d.parameters.length) = some n
def gSw (own : String) (idx : Nat) (z : gM) (n : Nat) : Prop := (Cond.methodLink own idx z.1 ∈ gTbl ∧ Cond.static z.1 ∈ gTbl ∧ Cond.initialized z.1.cls ∈ gTbl ∧ Cond.code z.1 z.2.1 z.2.2.1 z.2.2.2.1 ∈ gTbl) ∧ z.1.cls ≠ "java/lang/invoke/MethodHandle" ∧ z.1.cls ≠ "java/lang/invoke/VarHandle" ∧ (parseMethodDescriptor z.1.desc).map (fun d => d.parameters.length) = some n
def gNw (own : String) (idx : Nat) (z : gM) (n : Nat) : Prop := ((own, idx, z.1) ∈ gnest ∧ Cond.static z.1 ∈ gTbl ∧ Cond.initialized z.1.cls ∈ gTbl ∧ Cond.code z.1 z.2.1 z.2.2.1 z.2.2.2.1 ∈ gTbl) ∧ z.1.cls ≠ "java/lang/invoke/MethodHandle" ∧ z.1.cls ≠ "java/lang/invoke/VarHandle" ∧ (parseMethodDescriptor z.1.desc).map (fun d => d.parameters.length) = some n
def gRoom (M z : gM) : Prop := z.2.2.2.2.cells = 0 ∧ z.2.2.2.2.slots = 0 ∧ z.2.2.2.2.frames + 1 ≤ M.2.2.2.2.frames ∧ 8 + (z.2.2.1 + 11) + z.2.2.2.2.locals ≤ M.2.2.2.2.locals
theorem gblind {av : List Value} : FrameBlind (gPc G av σ) := fun _ _ _ _ q => ⟨q.1, q.2.1.calling, q.2.2⟩
theorem gpre {av : List Value} {s : State} {H : Heap} {locs : List Loc} (hE : gEnv G s s.heap) (hD : gDyn G σ H) (hS : va_S (gA G) s.heap H locs) : ∀ U : State, U.heap = H → s.WarmedH U.vm → gPc G av σ av.toArray U :=
  fun U hU hW => ⟨rfl, hE.go hW (fun a h1 h2 => by rw [hU]; exact hS.2.1 a h1 h2), by rw [hU]; exact hD⟩
theorem gwsz {z : gM} (h : Cond.code z.1 z.2.1 z.2.2.1 z.2.2.2.1 ∈ gTbl) : ∀ w ∈ gwsM z, w ∈ gTbl := fun w hw => by
  rcases List.mem_cons.mp hw with rfl | hw
  · exact h
  · exact hw

theorem ga_callVi {z : gM} {idx n : Nat} {c ci : Nat} {ks : List (Option Nat)} {As rest : List Value} (hd : decode M.2.1 pc = .ok (.invokevirtual idx, 3)) (hw : gVw M.1.cls idx z n) (hR : gRoom M z) (hs : gshL[c]? = some (.inr (ci, ks))) (hcl : ∃ q, gCl[ci]? = some q ∧ q.1 = z.1.cls) (hn : As.length = n) (hst : st = As.reverse ++ .ref (G.2.1 c) :: rest) (hrm : (rest.map fun v => v.category).sum ≤ 8) (k : gEi l G z (.ref (G.2.1 c) :: As) σ (fun r σ' => gR r → gAt l G M Qc (pc + 3) ls (vI r :: rest) σ')) : gAt l G M Qc pc ls (st) σ := by
  intro p e s m args below meth c0 s₁ B hml hE H locs la hl hD hS
  subst hst
  obtain ⟨hwl, hnm⟩ := hw
  obtain ⟨rc, rs, rf, rl⟩ := hR
  have hts := (fun w hw => atoms_spec (ws := gwsM M) B.pre w (List.mem_cons_of_mem _ hw))
  have hF : CallFix p m c0 M.2.1 M.2.2.1 s args (gwsM M) M.1.cls := ⟨B.exec, B.bytes, hml, (findClass_of_methodNamed B.named), atoms_spec (ws := gwsM M) B.pre⟩
  obtain ⟨q, hq, hq1⟩ := hcl
  have hrv := va_recv hE.1 hD.1 hq (gws_obj (G := G) (σ := σ) hs)
  rw [hq1] at hrv
  have hcw : CallW M.2.2.2.2 s args M.1.cls z.1.cls idx z.1 z.2.1 z.2.2.1 z.2.2.2.1 (gwsM z) z.2.2.2.2 0 0 n := ⟨callB_of n (atoms_spec (ws := gwsM M) B.pre) (lw_goodIn (gwsz hwl.2.2.2.2)) rfl rc rs (hts _ hwl.2.2.2.1) (hts _ hwl.1) hnm ⟨rf, rl⟩, hts _ hwl.2.1, hts _ hwl.2.2.1⟩
  have hrun := va_runV (H := H) (locs := locs) (cells := 0) (slots := 0) (below := below) (e := e) (meth := meth) (b := G.2.1 c) (g := F0 m pc la (As.reverse ++ .ref (G.2.1 c) :: rest)) (rest := rest) hF k hcw ⟨gblind, hrv, gpre hE hD hS⟩ rfl hn hl.1 rfl (lv_room hrm) hd ⟨Nat.zero_le _, Nat.zero_le _⟩
  refine va_calli (A0 := gA G) hrun hS (fun _ _ h => h) (fun _ h => h) (fun r u t H1 locs1 ht hvm hq hB _ _ hS1 => ?_)
  obtain ⟨x, hx, rfl, hq⟩ := hq
  exact hq hx p e s m args below meth c0 s₁ B hml hE H1 locs1 la hl (by rw [← ht]; exact hB) hS1
theorem ga_callVl {z : gM} {idx n : Nat} {c ci : Nat} {ks : List (Option Nat)} {As rest : List Value} (hd : decode M.2.1 pc = .ok (.invokevirtual idx, 3)) (hw : gVw M.1.cls idx z n) (hR : gRoom M z) (hs : gshL[c]? = some (.inr (ci, ks))) (hcl : ∃ q, gCl[ci]? = some q ∧ q.1 = z.1.cls) (hn : As.length = n) (hst : st = As.reverse ++ .ref (G.2.1 c) :: rest) (hrm : (rest.map fun v => v.category).sum ≤ 8) (k : gEl l G z (.ref (G.2.1 c) :: As) σ (fun r σ' => gRl r → gAt l G M Qc (pc + 3) ls (vL r :: rest) σ')) : gAt l G M Qc pc ls (st) σ := by
  intro p e s m args below meth c0 s₁ B hml hE H locs la hl hD hS
  subst hst
  obtain ⟨hwl, hnm⟩ := hw
  obtain ⟨rc, rs, rf, rl⟩ := hR
  have hts := (fun w hw => atoms_spec (ws := gwsM M) B.pre w (List.mem_cons_of_mem _ hw))
  have hF : CallFix p m c0 M.2.1 M.2.2.1 s args (gwsM M) M.1.cls := ⟨B.exec, B.bytes, hml, (findClass_of_methodNamed B.named), atoms_spec (ws := gwsM M) B.pre⟩
  obtain ⟨q, hq, hq1⟩ := hcl
  have hrv := va_recv hE.1 hD.1 hq (gws_obj (G := G) (σ := σ) hs)
  rw [hq1] at hrv
  have hcw : CallW M.2.2.2.2 s args M.1.cls z.1.cls idx z.1 z.2.1 z.2.2.1 z.2.2.2.1 (gwsM z) z.2.2.2.2 0 0 n := ⟨callB_of n (atoms_spec (ws := gwsM M) B.pre) (lw_goodIn (gwsz hwl.2.2.2.2)) rfl rc rs (hts _ hwl.2.2.2.1) (hts _ hwl.1) hnm ⟨rf, rl⟩, hts _ hwl.2.1, hts _ hwl.2.2.1⟩
  have hrun := va_runV (H := H) (locs := locs) (cells := 0) (slots := 0) (below := below) (e := e) (meth := meth) (b := G.2.1 c) (g := F0 m pc la (As.reverse ++ .ref (G.2.1 c) :: rest)) (rest := rest) hF k hcw ⟨gblind, hrv, gpre hE hD hS⟩ rfl hn hl.1 rfl (lv_room hrm) hd ⟨Nat.zero_le _, Nat.zero_le _⟩
  refine va_calll (A0 := gA G) hrun hS (fun _ _ h => h) (fun _ h => h) (fun r u t H1 locs1 ht hvm hq hB _ _ hS1 => ?_)
  obtain ⟨x, hx, rfl, hq⟩ := hq
  exact hq hx p e s m args below meth c0 s₁ B hml hE H1 locs1 la hl (by rw [← ht]; exact hB) hS1
theorem ga_callVv {z : gM} {idx n : Nat} {c ci : Nat} {ks : List (Option Nat)} {As rest : List Value} (hd : decode M.2.1 pc = .ok (.invokevirtual idx, 3)) (hw : gVw M.1.cls idx z n) (hR : gRoom M z) (hs : gshL[c]? = some (.inr (ci, ks))) (hcl : ∃ q, gCl[ci]? = some q ∧ q.1 = z.1.cls) (hn : As.length = n) (hst : st = As.reverse ++ .ref (G.2.1 c) :: rest) (hrm : (rest.map fun v => v.category).sum ≤ 8) (k : gEv l G z (.ref (G.2.1 c) :: As) σ (fun σ' => gAt l G M Qc (pc + 3) ls rest σ')) : gAt l G M Qc pc ls (st) σ := by
  intro p e s m args below meth c0 s₁ B hml hE H locs la hl hD hS
  subst hst
  obtain ⟨hwl, hnm⟩ := hw
  obtain ⟨rc, rs, rf, rl⟩ := hR
  have hts := (fun w hw => atoms_spec (ws := gwsM M) B.pre w (List.mem_cons_of_mem _ hw))
  have hF : CallFix p m c0 M.2.1 M.2.2.1 s args (gwsM M) M.1.cls := ⟨B.exec, B.bytes, hml, (findClass_of_methodNamed B.named), atoms_spec (ws := gwsM M) B.pre⟩
  obtain ⟨q, hq, hq1⟩ := hcl
  have hrv := va_recv hE.1 hD.1 hq (gws_obj (G := G) (σ := σ) hs)
  rw [hq1] at hrv
  have hcw : CallW M.2.2.2.2 s args M.1.cls z.1.cls idx z.1 z.2.1 z.2.2.1 z.2.2.2.1 (gwsM z) z.2.2.2.2 0 0 n := ⟨callB_of n (atoms_spec (ws := gwsM M) B.pre) (lw_goodIn (gwsz hwl.2.2.2.2)) rfl rc rs (hts _ hwl.2.2.2.1) (hts _ hwl.1) hnm ⟨rf, rl⟩, hts _ hwl.2.1, hts _ hwl.2.2.1⟩
  have hrun := va_runV (H := H) (locs := locs) (cells := 0) (slots := 0) (below := below) (e := e) (meth := meth) (b := G.2.1 c) (g := F0 m pc la (As.reverse ++ .ref (G.2.1 c) :: rest)) (rest := rest) hF k hcw ⟨gblind, hrv, gpre hE hD hS⟩ rfl hn hl.1 rfl (lv_room hrm) hd ⟨Nat.zero_le _, Nat.zero_le _⟩
  exact va_callv (A0 := gA G) hrun hS (fun _ _ h => h) (fun _ h => h) (fun u t H1 locs1 ht hvm hq hB _ _ hS1 => hq p e s m args below meth c0 s₁ B hml hE H1 locs1 la hl (by rw [← ht]; exact hB) hS1)
theorem ga_callSi {z : gM} {idx n : Nat} {As rest : List Value} (hd : decode M.2.1 pc = .ok (.invokestatic idx, 3)) (hw : gSw M.1.cls idx z n) (hR : gRoom M z) (hn : As.length = n) (hst : st = As.reverse ++ rest) (hrm : (rest.map fun v => v.category).sum ≤ 8) (k : gEi l G z As σ (fun r σ' => gR r → gAt l G M Qc (pc + 3) ls (vI r :: rest) σ')) : gAt l G M Qc pc ls (st) σ := by
  intro p e s m args below meth c0 s₁ B hml hE H locs la hl hD hS
  subst hst
  obtain ⟨hwl, hnm⟩ := hw
  obtain ⟨rc, rs, rf, rl⟩ := hR
  have hts := (fun w hw => atoms_spec (ws := gwsM M) B.pre w (List.mem_cons_of_mem _ hw))
  have hF : CallFix p m c0 M.2.1 M.2.2.1 s args (gwsM M) M.1.cls := ⟨B.exec, B.bytes, hml, (findClass_of_methodNamed B.named), atoms_spec (ws := gwsM M) B.pre⟩
  have hrun := va_runS (H := H) (locs := locs) (cells := 0) (slots := 0) (below := below) (e := e) (meth := meth) (g := F0 m pc la (As.reverse ++ rest)) (rest := rest) hF k ⟨callB_of (R := M.2.2.2.2) (mc := 0) (ms := 0) n (atoms_spec (ws := gwsM M) B.pre) (lw_goodIn (gwsz hwl.2.2.2)) rfl rc rs (hts _ hwl.2.2.1) (hts _ hwl.1) hnm ⟨rf, rl⟩, hts _ hwl.2.1⟩ ⟨gblind, gpre hE hD hS⟩ rfl hn hl.1 rfl (lv_room hrm) hd ⟨Nat.zero_le _, Nat.zero_le _⟩
  refine va_calli (A0 := gA G) hrun hS (fun _ _ h => h) (fun _ h => h) (fun r u t H1 locs1 ht hvm hq hB _ _ hS1 => ?_)
  obtain ⟨x, hx, rfl, hq⟩ := hq
  exact hq hx p e s m args below meth c0 s₁ B hml hE H1 locs1 la hl (by rw [← ht]; exact hB) hS1
theorem ga_callSl {z : gM} {idx n : Nat} {As rest : List Value} (hd : decode M.2.1 pc = .ok (.invokestatic idx, 3)) (hw : gSw M.1.cls idx z n) (hR : gRoom M z) (hn : As.length = n) (hst : st = As.reverse ++ rest) (hrm : (rest.map fun v => v.category).sum ≤ 8) (k : gEl l G z As σ (fun r σ' => gRl r → gAt l G M Qc (pc + 3) ls (vL r :: rest) σ')) : gAt l G M Qc pc ls (st) σ := by
  intro p e s m args below meth c0 s₁ B hml hE H locs la hl hD hS
  subst hst
  obtain ⟨hwl, hnm⟩ := hw
  obtain ⟨rc, rs, rf, rl⟩ := hR
  have hts := (fun w hw => atoms_spec (ws := gwsM M) B.pre w (List.mem_cons_of_mem _ hw))
  have hF : CallFix p m c0 M.2.1 M.2.2.1 s args (gwsM M) M.1.cls := ⟨B.exec, B.bytes, hml, (findClass_of_methodNamed B.named), atoms_spec (ws := gwsM M) B.pre⟩
  have hrun := va_runS (H := H) (locs := locs) (cells := 0) (slots := 0) (below := below) (e := e) (meth := meth) (g := F0 m pc la (As.reverse ++ rest)) (rest := rest) hF k ⟨callB_of (R := M.2.2.2.2) (mc := 0) (ms := 0) n (atoms_spec (ws := gwsM M) B.pre) (lw_goodIn (gwsz hwl.2.2.2)) rfl rc rs (hts _ hwl.2.2.1) (hts _ hwl.1) hnm ⟨rf, rl⟩, hts _ hwl.2.1⟩ ⟨gblind, gpre hE hD hS⟩ rfl hn hl.1 rfl (lv_room hrm) hd ⟨Nat.zero_le _, Nat.zero_le _⟩
  refine va_calll (A0 := gA G) hrun hS (fun _ _ h => h) (fun _ h => h) (fun r u t H1 locs1 ht hvm hq hB _ _ hS1 => ?_)
  obtain ⟨x, hx, rfl, hq⟩ := hq
  exact hq hx p e s m args below meth c0 s₁ B hml hE H1 locs1 la hl (by rw [← ht]; exact hB) hS1
theorem ga_callSv {z : gM} {idx n : Nat} {As rest : List Value} (hd : decode M.2.1 pc = .ok (.invokestatic idx, 3)) (hw : gSw M.1.cls idx z n) (hR : gRoom M z) (hn : As.length = n) (hst : st = As.reverse ++ rest) (hrm : (rest.map fun v => v.category).sum ≤ 8) (k : gEv l G z As σ (fun σ' => gAt l G M Qc (pc + 3) ls rest σ')) : gAt l G M Qc pc ls (st) σ := by
  intro p e s m args below meth c0 s₁ B hml hE H locs la hl hD hS
  subst hst
  obtain ⟨hwl, hnm⟩ := hw
  obtain ⟨rc, rs, rf, rl⟩ := hR
  have hts := (fun w hw => atoms_spec (ws := gwsM M) B.pre w (List.mem_cons_of_mem _ hw))
  have hF : CallFix p m c0 M.2.1 M.2.2.1 s args (gwsM M) M.1.cls := ⟨B.exec, B.bytes, hml, (findClass_of_methodNamed B.named), atoms_spec (ws := gwsM M) B.pre⟩
  have hrun := va_runS (H := H) (locs := locs) (cells := 0) (slots := 0) (below := below) (e := e) (meth := meth) (g := F0 m pc la (As.reverse ++ rest)) (rest := rest) hF k ⟨callB_of (R := M.2.2.2.2) (mc := 0) (ms := 0) n (atoms_spec (ws := gwsM M) B.pre) (lw_goodIn (gwsz hwl.2.2.2)) rfl rc rs (hts _ hwl.2.2.1) (hts _ hwl.1) hnm ⟨rf, rl⟩, hts _ hwl.2.1⟩ ⟨gblind, gpre hE hD hS⟩ rfl hn hl.1 rfl (lv_room hrm) hd ⟨Nat.zero_le _, Nat.zero_le _⟩
  exact va_callv (A0 := gA G) hrun hS (fun _ _ h => h) (fun _ h => h) (fun u t H1 locs1 ht hvm hq hB _ _ hS1 => hq p e s m args below meth c0 s₁ B hml hE H1 locs1 la hl (by rw [← ht]; exact hB) hS1)
theorem ga_callNi {z : gM} {idx n : Nat} {As rest : List Value} (hd : decode M.2.1 pc = .ok (.invokestatic idx, 3)) (hw : gNw M.1.cls idx z n) (hR : gRoom M z) (hn : As.length = n) (hst : st = As.reverse ++ rest) (hrm : (rest.map fun v => v.category).sum ≤ 8) (k : gEi l G z As σ (fun r σ' => gR r → gAt l G M Qc (pc + 3) ls (vI r :: rest) σ')) : gAt l G M Qc pc ls (st) σ := by
  intro p e s m args below meth c0 s₁ B hml hE H locs la hl hD hS
  subst hst
  obtain ⟨hwl, hnm⟩ := hw
  obtain ⟨rc, rs, rf, rl⟩ := hR
  have hts := (fun w hw => atoms_spec (ws := gwsM M) B.pre w (List.mem_cons_of_mem _ hw))
  have hF : CallFix p m c0 M.2.1 M.2.2.1 s args (gwsM M) M.1.cls := ⟨B.exec, B.bytes, hml, (findClass_of_methodNamed B.named), atoms_spec (ws := gwsM M) B.pre⟩
  have hcn : va_CN M.2.2.2.2 s args M.1.cls idx z.1 "CrossbarHouse" z.2.1 z.2.2.1 z.2.2.2.1 (gwsM z) z.2.2.2.2 0 0 n := va_cnB n (atoms_spec (ws := gwsM M) B.pre) (lw_goodIn (gwsz hwl.2.2.2)) rfl rc rs (hE.2.2.2.2.1 _ hwl.1) (hts _ hwl.2.2.1) hnm ⟨rf, rl⟩
  have hrun := va_runSN (H := H) (locs := locs) (cells := 0) (slots := 0) (below := below) (e := e) (meth := meth) (g := F0 m pc la (As.reverse ++ rest)) (rest := rest) hF k ⟨hcn, hts _ hwl.2.1, trivial⟩ ⟨gblind, gpre hE hD hS⟩ rfl hn hl.1 rfl (lv_room hrm) hd ⟨Nat.zero_le _, Nat.zero_le _⟩
  refine va_calli (A0 := gA G) hrun hS (fun _ _ h => h) (fun _ h => h) (fun r u t H1 locs1 ht hvm hq hB _ _ hS1 => ?_)
  obtain ⟨x, hx, rfl, hq⟩ := hq
  exact hq hx p e s m args below meth c0 s₁ B hml hE H1 locs1 la hl (by rw [← ht]; exact hB) hS1
theorem ga_callNl {z : gM} {idx n : Nat} {As rest : List Value} (hd : decode M.2.1 pc = .ok (.invokestatic idx, 3)) (hw : gNw M.1.cls idx z n) (hR : gRoom M z) (hn : As.length = n) (hst : st = As.reverse ++ rest) (hrm : (rest.map fun v => v.category).sum ≤ 8) (k : gEl l G z As σ (fun r σ' => gRl r → gAt l G M Qc (pc + 3) ls (vL r :: rest) σ')) : gAt l G M Qc pc ls (st) σ := by
  intro p e s m args below meth c0 s₁ B hml hE H locs la hl hD hS
  subst hst
  obtain ⟨hwl, hnm⟩ := hw
  obtain ⟨rc, rs, rf, rl⟩ := hR
  have hts := (fun w hw => atoms_spec (ws := gwsM M) B.pre w (List.mem_cons_of_mem _ hw))
  have hF : CallFix p m c0 M.2.1 M.2.2.1 s args (gwsM M) M.1.cls := ⟨B.exec, B.bytes, hml, (findClass_of_methodNamed B.named), atoms_spec (ws := gwsM M) B.pre⟩
  have hcn : va_CN M.2.2.2.2 s args M.1.cls idx z.1 "CrossbarHouse" z.2.1 z.2.2.1 z.2.2.2.1 (gwsM z) z.2.2.2.2 0 0 n := va_cnB n (atoms_spec (ws := gwsM M) B.pre) (lw_goodIn (gwsz hwl.2.2.2)) rfl rc rs (hE.2.2.2.2.1 _ hwl.1) (hts _ hwl.2.2.1) hnm ⟨rf, rl⟩
  have hrun := va_runSN (H := H) (locs := locs) (cells := 0) (slots := 0) (below := below) (e := e) (meth := meth) (g := F0 m pc la (As.reverse ++ rest)) (rest := rest) hF k ⟨hcn, hts _ hwl.2.1, trivial⟩ ⟨gblind, gpre hE hD hS⟩ rfl hn hl.1 rfl (lv_room hrm) hd ⟨Nat.zero_le _, Nat.zero_le _⟩
  refine va_calll (A0 := gA G) hrun hS (fun _ _ h => h) (fun _ h => h) (fun r u t H1 locs1 ht hvm hq hB _ _ hS1 => ?_)
  obtain ⟨x, hx, rfl, hq⟩ := hq
  exact hq hx p e s m args below meth c0 s₁ B hml hE H1 locs1 la hl (by rw [← ht]; exact hB) hS1
theorem ga_callNv {z : gM} {idx n : Nat} {As rest : List Value} (hd : decode M.2.1 pc = .ok (.invokestatic idx, 3)) (hw : gNw M.1.cls idx z n) (hR : gRoom M z) (hn : As.length = n) (hst : st = As.reverse ++ rest) (hrm : (rest.map fun v => v.category).sum ≤ 8) (k : gEv l G z As σ (fun σ' => gAt l G M Qc (pc + 3) ls rest σ')) : gAt l G M Qc pc ls (st) σ := by
  intro p e s m args below meth c0 s₁ B hml hE H locs la hl hD hS
  subst hst
  obtain ⟨hwl, hnm⟩ := hw
  obtain ⟨rc, rs, rf, rl⟩ := hR
  have hts := (fun w hw => atoms_spec (ws := gwsM M) B.pre w (List.mem_cons_of_mem _ hw))
  have hF : CallFix p m c0 M.2.1 M.2.2.1 s args (gwsM M) M.1.cls := ⟨B.exec, B.bytes, hml, (findClass_of_methodNamed B.named), atoms_spec (ws := gwsM M) B.pre⟩
  have hcn : va_CN M.2.2.2.2 s args M.1.cls idx z.1 "CrossbarHouse" z.2.1 z.2.2.1 z.2.2.2.1 (gwsM z) z.2.2.2.2 0 0 n := va_cnB n (atoms_spec (ws := gwsM M) B.pre) (lw_goodIn (gwsz hwl.2.2.2)) rfl rc rs (hE.2.2.2.2.1 _ hwl.1) (hts _ hwl.2.2.1) hnm ⟨rf, rl⟩
  have hrun := va_runSN (H := H) (locs := locs) (cells := 0) (slots := 0) (below := below) (e := e) (meth := meth) (g := F0 m pc la (As.reverse ++ rest)) (rest := rest) hF k ⟨hcn, hts _ hwl.2.1, trivial⟩ ⟨gblind, gpre hE hD hS⟩ rfl hn hl.1 rfl (lv_room hrm) hd ⟨Nat.zero_le _, Nat.zero_le _⟩
  exact va_callv (A0 := gA G) hrun hS (fun _ _ h => h) (fun _ h => h) (fun u t H1 locs1 ht hvm hq hB _ _ hS1 => hq p e s m args below meth c0 s₁ B hml hE H1 locs1 la hl (by rw [← ht]; exact hB) hS1)
theorem ga_max {idx : Nat} {x y : Int} (hd : decode M.2.1 pc = .ok (.invokestatic idx, 3)) (hw : Cond.methodLink M.1.cls idx Lib.Math.max.name ∈ gTbl ∧ Cond.static Lib.Math.max.name ∈ gTbl ∧ Cond.initialized "java/lang/Math" ∈ gTbl ∧ Cond.code Lib.Math.max.name Lib.Math.max.code 2 (some .int) ∈ gTbl) (hf : 1 ≤ M.2.2.2.2.frames) (hlo : (st.map fun v => v.category).sum + 13 ≤ M.2.2.2.2.locals) (hx : gR x) (hy : gR y) (kk : gAt l G M Qc (pc + 3) ls (vI (max x y) :: st) σ) : gAt l G M Qc pc ls (vI y :: vI x :: st) σ := by
  intro p e s m args below meth c0 s₁ B hml hE H locs la hl hD hS
  have hts := (fun w hw => atoms_spec (ws := gwsM M) B.pre w (List.mem_cons_of_mem _ hw))
  have k := kk p e s m args below meth c0 s₁ B hml hE H locs la hl hD hS
  refine va_mmax B.exec B.bytes (hml.trans hl.1.symm) (findClass_of_methodNamed B.named) (hts _ hw.1) (hts _ hw.2.1) (hts _ hw.2.2.1) (hts _ hw.2.2.2) hf hlo (Nat.zero_le _) (Nat.zero_le _) hd ?_
  have hcv : ((if i32 x < i32 y then i32 y else i32 x) : Int32) = i32 (max x y) := by
    by_cases h : x < y
    · rw [if_pos ((i32_lt hx hy).mpr h)]; congr 1; omega
    · rw [if_neg (fun q => h ((i32_lt hx hy).mp q))]; congr 1; omega
  rw [hcv]; exact k
theorem ga_min {idx : Nat} {x y : Int} (hd : decode M.2.1 pc = .ok (.invokestatic idx, 3)) (hw : Cond.methodLink M.1.cls idx Lib.Math.min.name ∈ gTbl ∧ Cond.static Lib.Math.min.name ∈ gTbl ∧ Cond.initialized "java/lang/Math" ∈ gTbl ∧ Cond.code Lib.Math.min.name Lib.Math.min.code 2 (some .int) ∈ gTbl) (hf : 1 ≤ M.2.2.2.2.frames) (hlo : (st.map fun v => v.category).sum + 13 ≤ M.2.2.2.2.locals) (hx : gR x) (hy : gR y) (kk : gAt l G M Qc (pc + 3) ls (vI (min x y) :: st) σ) : gAt l G M Qc pc ls (vI y :: vI x :: st) σ := by
  intro p e s m args below meth c0 s₁ B hml hE H locs la hl hD hS
  have hts := (fun w hw => atoms_spec (ws := gwsM M) B.pre w (List.mem_cons_of_mem _ hw))
  have k := kk p e s m args below meth c0 s₁ B hml hE H locs la hl hD hS
  refine va_mmin B.exec B.bytes (hml.trans hl.1.symm) (findClass_of_methodNamed B.named) (hts _ hw.1) (hts _ hw.2.1) (hts _ hw.2.2.1) (hts _ hw.2.2.2) hf hlo (Nat.zero_le _) (Nat.zero_le _) hd ?_
  have hcv : ((if i32 y < i32 x then i32 y else i32 x) : Int32) = i32 (min x y) := by
    by_cases h : y < x
    · rw [if_pos ((i32_lt hy hx).mpr h)]; congr 1; omega
    · rw [if_neg (fun q => h ((i32_lt hy hx).mp q))]; congr 1; omega
  rw [hcv]; exact k
theorem gE_mono {z : gM} {av : List Value} {Q1 Q2 : Array Value → State → Outcome → State → Prop} (h : gE l G z av σ Q1) (hq : ∀ a st o t, Q1 a st o t → Q2 a st o t) : gE l G z av σ Q2 := by
  intro p e ha hc hk s m args below hf happ hp hk'
  obtain ⟨n, o, h1, h2, h3, h4⟩ := h p e ha hc hk s m args below hf happ hp hk'
  exact ⟨n, o, h1, h2, h3, hq _ _ _ _ h4.1, h4.2⟩
theorem gEi_mono {z : gM} {av : List Value} {Q1 Q2 : Int → gS → Prop} (h : gEi l G z av σ Q1) (hq : ∀ r σ', Q1 r σ' → Q2 r σ') : gEi l G z av σ Q2 :=
  gE_mono h (fun a st o t h1 => by obtain ⟨⟨r, u, h2, ⟨x, h3, h4, h5⟩, h6⟩, h7⟩ := h1; exact ⟨⟨r, u, h2, ⟨x, h3, h4, hq x u h5⟩, h6⟩, h7⟩)
theorem gEl_mono {z : gM} {av : List Value} {Q1 Q2 : Int → gS → Prop} (h : gEl l G z av σ Q1) (hq : ∀ r σ', Q1 r σ' → Q2 r σ') : gEl l G z av σ Q2 :=
  gE_mono h (fun a st o t h1 => by obtain ⟨⟨r, u, h2, ⟨x, h3, h4, h5⟩, h6⟩, h7⟩ := h1; exact ⟨⟨r, u, h2, ⟨x, h3, h4, hq x u h5⟩, h6⟩, h7⟩)
theorem gEv_mono {z : gM} {av : List Value} {Q1 Q2 : gS → Prop} (h : gEv l G z av σ Q1) (hq : ∀ σ', Q1 σ' → Q2 σ') : gEv l G z av σ Q2 :=
  gE_mono h (fun a st o t h1 => by obtain ⟨⟨u, h2, h5, h6⟩, h7⟩ := h1; exact ⟨⟨u, h2, hq u h5, h6⟩, h7⟩)
/-- the store is in order wherever a method is entered -/
theorem gE_ok {z : gM} {av : List Value} {Q1 : Array Value → State → Outcome → State → Prop} (h : gOK σ → gE l G z av σ Q1) : gE l G z av σ Q1 := by
  intro p e ha hc hk s m args below hf happ hp hk'
  exact h hp.2.2.2.2 p e ha hc hk s m args below hf happ hp hk'

end GB
