noncomputable def zIdl (x : Tk) : Int → Int := @dite _ (∃ I, isId x I) (Classical.propDecidable _) (fun h => Classical.choose h) (fun _ => fun _ => 0)
theorem zIdl_is {x : Tk} {I : Int → Int} (h : isId x I) : isId x (zIdl x) := by
  have e : ∃ I, isId x I := ⟨I, h⟩
  unfold zIdl
  rw [dif_pos e]
  exact Classical.choose_spec e
def fLt (mm I : Int → Int) (k v : Int) : Int := v + (if mm k ≤ I k then 0 else 1)
/-- what a mimic answers -/
def zMimR (x : Tk) (I : Int → Int) (P k w v : Int) : Prop :=
  if k = -1 then (if w = 0 then v = x.1 else ∃ e : Nat, isEn x (zAll x I P w) e ∧ v = gfold (fLt (zAll x I P w e).1.2.2.2 I) 0 x.1.toNat)
  else if k < 0 then v = -1 else if k < x.1 then (if w = 0 then v = I k else ∃ e : Nat, isEn x (zAll x I P w) e ∧ v = (zAll x I P w e).1.2.2.2 k) else v = -1
theorem zMimR_eq {x : Tk} {I : Int → Int} {P k w u v : Int} (h : zMimR x I P k w u) (g : zMimR x I P k w v) : u = v := by
  unfold zMimR at h g
  by_cases e : k = -1
  · rw [if_pos e] at h g
    by_cases e2 : w = 0
    · rw [if_pos e2] at h g; rw [h, g]
    · rw [if_neg e2] at h g
      obtain ⟨a, a1, a2⟩ := h
      obtain ⟨b, b1, b2⟩ := g
      rw [a2, b2, isEn_eq a1 b1]
  · rw [if_neg e] at h g
    by_cases e3 : k < 0
    · rw [if_pos e3] at h g; rw [h, g]
    · rw [if_neg e3] at h g
      by_cases e4 : k < x.1
      · rw [if_pos e4] at h g
        by_cases e2 : w = 0
        · rw [if_pos e2] at h g; rw [h, g]
        · rw [if_neg e2] at h g
          obtain ⟨a, a1, a2⟩ := h
          obtain ⟨b, b1, b2⟩ := g
          rw [a2, b2, isEn_eq a1 b1]
      · rw [if_neg e4] at h g; rw [h, g]
/-- at the end all are sent -/
theorem isEn_all {P : Int} {x : Tk} (hx : OKT P x) (hP : 1 ≤ P ∧ P ≤ 6) {I : Int → Int} {sp : Int} {e : Nat} (h : isEn x (zAll x I P sp) e) (k : Int) (k0 : 0 ≤ k) (k1 : k < x.1) : (zAll x I P sp e).1.2.2.1 k = 3 := by
  have t := (TI_all hx hP I sp e).1.2
  rw [h.1] at t
  apply Classical.byContradiction
  intro n
  have := sm_lt (f := fun k => if (zAll x I P sp e).1.2.2.1 k = 3 then 1 else 0) (g := fun _ => 1) x.1.toNat (fun j _ _ => by split <;> omega) ⟨k, k0, by omega, by simp [n]⟩
  rw [sm_one] at this
  unfold cn3 at t
  have := hx.1
  omega
theorem fLt_r {mm I : Int → Int} {k v : Int} (h : 0 ≤ v ∧ v ≤ k) : 0 ≤ fLt mm I k v ∧ fLt mm I k v ≤ k + 1 := by
  unfold fLt
  split <;> omega
section SU
variable {l : Launch} {G : gG}
theorem c_tellS (k w P : Int) (hw : 0 ≤ w ∧ w ≤ 2) (hP : 1 ≤ P ∧ P ≤ 6) (x : Tk) (hx : OKT P x) (I : Int → Int) (hI : isId x I) (hI4 : ∀ k, 0 ≤ k → k < x.1 → 0 ≤ I k ∧ I k ≤ 400) (hk : k = -1 ∨ (0 ≤ k ∧ k < x.1)) (σ : gS) (hC : CT σ x I) (Q : Int → gS → Prop) (h : ∀ v τ, zMimR x I P k w v → frS σ τ → Q v τ) : eX9_tell l G k w σ Q := by
  have h40 := hx.2.1
  have hx0 := hx.1
  have rk : gR k := ⟨by omega, by omega⟩
  have rw0 : gR w := ⟨by omega, by omega⟩
  unfold zMimR at h
  refine vX9_tell k w rk rw0 σ Q ⟨fun e => ?_, fun e => ⟨⟨fun z => ⟨by omega, trivial⟩, fun _ => trivial⟩, fun v ev => h v σ ?_ frS.rfl'⟩⟩
  · refine c_passAll w P (by omega) hP x hx I hI hI4 σ hC _ (fun n τ hn tC tF => ⟨fun z => ?_, fun z => ⟨by omega, h _ τ ?_ tF⟩⟩)
    · refine gloopF (fLt (zAll x I P w n).1.2.2.2 I) 0 x.1 hx0 (fun j v => 0 ≤ v ∧ v ≤ j) (fun j v => kX9_tell_45 l G k w v j τ Q) (by omega) ?_ ?_
      · intro j v j0 j1 hp
        refine ⟨fLt_r hp, fun ih => ?_⟩
        have ih : kX9_tell_45 l G k w (fLt (zAll x I P w n).1.2.2.2 I j v) (j + 1) τ Q := ih
        unfold fLt at ih
        refine vX9_tell_45 k w v j rk rw0 ⟨by omega, by omega⟩ ⟨by omega, by omega⟩ τ Q ?_
        rw [tC.1.1.1, tC.1.2 j j0 j1, tC.2.2.2.2 j j0 j1 (isEn_all hx hP hn j j0 j1)]
        refine ⟨fun z => by omega, fun _ => ⟨by omega, fun q => ?_, fun q => ?_⟩⟩
        · rw [if_pos q, Int.add_zero] at ih; exact ih
        · rw [if_neg (by omega)] at ih; exact ih
      · intro hp
        refine vX9_tell_45 k w _ x.1 rk rw0 ⟨by omega, by omega⟩ ⟨by omega, by omega⟩ τ Q ?_
        rw [tC.1.1.1]
        refine ⟨fun _ => h _ τ ?_ tF, fun z => by omega⟩
        rw [if_pos z, if_neg e]
        exact ⟨n, hn, rfl⟩
    · rw [if_neg z, if_neg (by omega), if_pos (by omega), if_neg e, tC.2.2.2.2 k (by omega) (by omega) (isEn_all hx hP hn k (by omega) (by omega))]
      exact ⟨n, hn, rfl⟩
  · by_cases z : k = -1
    · rw [if_pos z, if_pos e]
      rw [if_pos z] at ev
      rw [ev]; exact hC.1.1
    · rw [if_neg z, if_neg (by omega), if_pos (by omega), if_pos e]
      rw [if_neg z] at ev
      rw [ev]; exact hC.2 k (by omega) (by omega)
theorem p_mimic (x1 x2 x3 x4 : Int) (r1 : gR x1) (r2 : gR x2) (r3 : gR x3) (r4 : gR x4) (σ : gS) (hI : tInv σ) : eX11_mimic l G x1 x2 x3 x4 σ (fun r τ => gR r → eX12_mimic l G x1 x2 x3 x4 τ (fun r' υ => gR r' → r = r' ∧ tInv υ)) := by
  have B : ∀ (v : Int) (τ : gS), frC σ τ → (¬ (0 ≤ x1 ∧ x1 < gI σ 89 0 ∧ 0 ≤ x2 ∧ x2 < gI σ 89 1 ∧ 0 ≤ x4 ∧ x4 ≤ 2) → v = -1) → (0 ≤ x1 → x1 < gI σ 89 0 → 0 ≤ x2 → x2 < gI σ 89 1 → 0 ≤ x4 → x4 ≤ 2 → zMimR (zTold σ x1 x2) (zIdl (zTold σ x1 x2)) (zRun σ x1 x2 40 88 10) x3 x4 v) → eX12_mimic l G x1 x2 x3 x4 τ (fun r' υ => gR r' → v = r' ∧ tInv υ) := by
    intro v τ hF hn hy
    refine vX12_mimic x1 x2 x3 x4 r1 r2 r3 r4 τ _ (c_isCrossbarX x1 r1 σ τ hI hF _ (fun e _ => ⟨fun _ _ => ⟨hn (by omega), tInv.same hF.same hI⟩, fun e => absurd rfl e⟩) (fun e0 e1 τ1 R1 _ => ⟨fun e => absurd e (by decide), fun _ => ?_⟩))
    refine c_isTrafficX x1 x2 r2 σ τ1 hI R1 _ (fun e _ => ⟨fun _ _ => ⟨hn (by omega), tInv.same R1.2.2.2.2.2 hI⟩, fun e => absurd rfl e⟩) (fun e2 e3 τ2 R2 _ => ⟨fun e => absurd e (by decide), fun _ => ?_⟩)
    refine c_isIn x4 0 2 r4 (by decide) (by decide) τ2 _ (fun r hr _ => ⟨fun e4 => ?_, fun e4 _ => ⟨hn (by omega), tInv.same R2.2.2.2.2.2.2 hI⟩⟩)
    refine c_goesX x1 x2 40 (by decide) σ τ2 hI e0 e1 e2 e3 R2 _ (fun υ pu su _ => ?_)
    have hM : OKM (pS υ) := by rw [pu]; exact OKM_run hI e0 e1 e2 e3
    have hJ : JP (pS υ) := by rw [pu]; exact JP_run hI e0 e1 e2 e3
    obtain ⟨hx, hS⟩ := OKT_run hI e0 e1 e2 e3
    have hv := hy e0 e1 e2 e3 (by omega) (by omega)
    rw [← pu] at hx hS hv
    generalize zTold σ x1 x2 = x at *
    have hP : 1 ≤ pS υ 88 10 ∧ pS υ 88 10 ≤ 6 := ⟨hM.1.1.1.1, hM.1.1.1.2.1⟩
    have h40 := hx.2.1
    have hx0 := hx.1
    have e10 : gI υ 88 10 = pS υ 88 10 := pS_at (by unfold okC; omega)
    refine c_shadows υ hM hJ x hS hx _ (fun J ρ iJ bJ rC rF => ?_)
    have iI := zIdl_is iJ
    have eI : ∀ k, 0 ≤ k → k < x.1 → zIdl x k = J k := fun k k0 k1 => isId_eq hx iI iJ k k0 k1
    have bI : ∀ k, 0 ≤ k → k < x.1 → 0 ≤ zIdl x k ∧ zIdl x k ≤ 400 := fun k k0 k1 => by rw [eI k k0 k1]; exact bJ k k0 k1
    have rC : RT ρ x (zIdl x) := ⟨rC.1, fun k k0 k1 => by rw [eI k k0 k1]; exact rC.2 k k0 k1⟩
    have r10 : gI ρ 88 10 = pS υ 88 10 := by rw [rF _ _ (by omega) (by omega)]; exact e10
    have Sρ : tSame σ ρ := su.trans ⟨fun c hc i => rF c i (by omega) (by omega), fun i => rF 89 i (by omega) (by omega), fun i => rF 90 i (by omega) (by omega)⟩
    generalize zIdl x = I at *
    generalize pS υ 88 10 = P at *
    -- a single answer, the late ones
    have one : ∀ w, tInv w → gI w 88 50 = x.1 → (∀ k, 0 ≤ k → k < x.1 → zMimR x I P k x4 (if x4 = 0 then gI w 121 k else gI w 122 k)) → ¬ x3 = -1 → eX12_isIn l G x3 0 ((gI w 88 50) - 1) w (fun v22 σ20 => (v22 = 0 ∨ v22 = 1) → ((¬ v22 = 0 → (¬ x4 = 0 → (0 ≤ x3 ∧ x3 < 40) ∧ True) ∧ (x4 = 0 → (0 ≤ x3 ∧ x3 < 40) ∧ True)) ∧ (v22 = 0 → True)) ∧ (∀ v30 : Int, v30 = (if v22 = 0 then (-1) else (if x4 = 0 then (gI σ20 121 x3) else (gI σ20 122 x3))) → gR v30 → v = v30 ∧ tInv σ20)) := by
      intro w iw w50 hw h3
      rw [w50]
      refine c_isIn x3 0 _ r3 (by decide) ⟨by omega, by omega⟩ w _ (fun r hr _ => ⟨⟨fun _ => ⟨fun _ => ⟨by omega, trivial⟩, fun _ => ⟨by omega, trivial⟩⟩, fun _ => trivial⟩, fun u eu _ => ⟨?_, iw⟩⟩)
      by_cases q : r = 0
      · rw [if_pos q] at eu
        rw [eu]
        unfold zMimR at hv
        rw [if_neg h3] at hv
        by_cases q2 : x3 < 0
        · rw [if_pos q2] at hv; exact hv
        · rw [if_neg q2, if_neg (by omega)] at hv; exact hv
      · rw [if_neg q] at eu
        rw [eu]
        exact zMimR_eq hv (hw x3 (by omega) (by omega))
    refine ⟨fun e5 => ⟨fun e6 => one ρ (tInv.same Sρ hI) rC.1.1 (fun k k0 k1 => ?_) e6, fun e6 => ?_⟩, fun e5 => ?_⟩
    · unfold zMimR
      rw [if_neg (by omega), if_neg (by omega), if_pos k1, if_pos (by omega), if_pos (by omega)]
      exact rC.2 k k0 k1
    · refine gloopI (α := Unit) 0 x.1 (fun j _ => j ≤ x.1) (fun j _ => kX12_mimic_60 l G x1 x2 x3 x4 0 j ρ _) ?_ ?_ 0 () (by omega) (by omega)
      · rintro j _ j0 j1 z0 ih
        refine vX12_mimic_60 x1 x2 x3 x4 0 j r1 r2 r3 r4 (by decide) ⟨by omega, by omega⟩ ρ _ ?_
        rw [rC.1.1]
        refine ⟨fun z => by omega, fun _ => ⟨⟨fun _ => trivial, fun z => by omega⟩, fun u eu => ?_⟩⟩
        rw [if_pos (by omega)] at eu
        rw [eu, Int.add_zero]
        exact ih () (by omega)
      · rintro j _ j0 z0
        refine vX12_mimic_60 x1 x2 x3 x4 0 j r1 r2 r3 r4 (by decide) ⟨by omega, by omega⟩ ρ _ ?_
        rw [rC.1.1]
        refine ⟨fun _ u eu _ => ⟨?_, tInv.same Sρ hI⟩, fun z => by omega⟩
        rw [if_pos (by omega)] at eu
        unfold zMimR at hv
        rw [if_pos e6, if_pos (by omega)] at hv
        rw [hv, eu]
    · refine c_mimics x4 P (by omega) hP x hx I ρ ⟨rC, r10⟩ _ (fun n w hn wC wF => ?_)
      have iw : tInv w := tInv.same (Sρ.trans ⟨fun c hc i => wF c i (by omega), fun i => wF 89 i (by omega), fun i => wF 90 i (by omega)⟩) hI
      refine ⟨fun e6 => one w iw wC.1.1.1.1 (fun k k0 k1 => ?_) e6, fun e6 => ?_⟩
      · unfold zMimR
        rw [if_neg (by omega), if_neg (by omega), if_pos k1, if_neg (by omega), if_neg (by omega), wC.2.2.2.2 k k0 k1 (isEn_all hx hP hn k k0 k1)]
        exact ⟨n, hn, rfl⟩
      · refine gloopF (fLt (zAll x I P x4 n).1.2.2.2 I) 0 x.1 hx0 (fun j v => 0 ≤ v ∧ v ≤ j) (fun j u => kX12_mimic_60 l G x1 x2 x3 x4 u j w _) (by omega) ?_ ?_
        · intro j u j0 j1 hp
          refine ⟨fLt_r hp, fun ih => ?_⟩
          have ih : kX12_mimic_60 l G x1 x2 x3 x4 (fLt (zAll x I P x4 n).1.2.2.2 I j u) (j + 1) w _ := ih
          unfold fLt at ih
          refine vX12_mimic_60 x1 x2 x3 x4 u j r1 r2 r3 r4 ⟨by omega, by omega⟩ ⟨by omega, by omega⟩ w _ ?_
          rw [wC.1.1.1.1, wC.1.1.2 j j0 j1, wC.2.2.2.2 j j0 j1 (isEn_all hx hP hn j j0 j1)]
          refine ⟨fun z => by omega, fun _ => ⟨⟨fun _ => trivial, fun _ => ⟨by omega, fun _ => trivial, fun _ => trivial⟩⟩, fun t et => ?_⟩⟩
          rw [if_neg (by omega)] at et
          rw [et]; exact ih
        · intro hp
          refine vX12_mimic_60 x1 x2 x3 x4 _ x.1 r1 r2 r3 r4 ⟨by omega, by omega⟩ ⟨by omega, by omega⟩ w _ ?_
          rw [wC.1.1.1.1]
          refine ⟨fun _ u eu _ => ⟨?_, iw⟩, fun z => by omega⟩
          rw [if_neg (by omega)] at eu
          rw [eu]
          refine zMimR_eq hv ?_
          unfold zMimR
          rw [if_pos e6, if_neg (by omega)]
          exact ⟨n, hn, rfl⟩
  refine vX11_mimic x1 x2 x3 x4 r1 r2 r3 r4 σ _ ⟨fun e _ => B _ σ frC.rfl' (fun _ => rfl) (fun _ _ _ _ z => by omega), fun e => ⟨fun e4 _ => B _ σ frC.rfl' (fun _ => rfl) (fun _ _ _ _ _ z => by omega), fun e4 => ?_⟩⟩
  refine c_askC x1 x2 (-1) r1 r2 σ hI (fun r τ => gR r → eX12_mimic l G x1 x2 x3 x4 τ (fun r' υ => gR r' → r = r' ∧ tInv υ)) _ (fun q _ => B _ σ frC.rfl' (fun _ => rfl) (fun a b c d _ _ => absurd ⟨a, b, c, d⟩ q)) (fun e0 e1 e2 e3 υ uC uF hM => ?_)
  obtain ⟨hx, hS⟩ := OKT_run hI e0 e1 e2 e3
  have ok := zRun_ok hI e0 e1 e2 e3 (N := 40) (by omega)
  have e89 : gI υ 89 = gI σ 89 := funext (fun i => uF.c.2 89 (by omega) i)
  have Iυ : tInv υ := tInv.same uF.c.same hI
  have hP : 1 ≤ zRun σ x1 x2 40 88 10 ∧ zRun σ x1 x2 40 88 10 ≤ 6 := ⟨hM.1.1.1.1, hM.1.1.1.2.1⟩
  refine c_take x2 _ υ Iυ (by rw [e89]; exact ⟨e2, e3⟩) (by rw [e89]; exact ⟨ok.1.2.1, ok.2.2.1⟩) (zTold σ x1 x2) (by rw [e89]; rfl) _ hP.2 hx _ (fun J ρ iJ bJ rC rF => ?_)
  have iI := zIdl_is iJ
  have eI : ∀ k, 0 ≤ k → k < (zTold σ x1 x2).1 → zIdl (zTold σ x1 x2) k = J k := fun k k0 k1 => isId_eq hx iI iJ k k0 k1
  have bI : ∀ k, 0 ≤ k → k < (zTold σ x1 x2).1 → 0 ≤ zIdl (zTold σ x1 x2) k ∧ zIdl (zTold σ x1 x2) k ≤ 400 := fun k k0 k1 => by rw [eI k k0 k1]; exact bJ k k0 k1
  have rC : CT ρ (zTold σ x1 x2) (zIdl (zTold σ x1 x2)) := ⟨rC.1, fun k k0 k1 => by rw [eI k k0 k1]; exact rC.2 k k0 k1⟩
  have Fρ : frC σ ρ := uF.c.trans (frC.of (a := 69) (z := 73) (by omega) rF)
  have F : ∀ v w, zMimR (zTold σ x1 x2) (zIdl (zTold σ x1 x2)) (zRun σ x1 x2 40 88 10) x3 x4 v → frC σ w → gR v → eX12_mimic l G x1 x2 x3 x4 w (fun r' υ => gR r' → v = r' ∧ tInv υ) := fun v w hv wF _ => B v w wF (fun z => absurd ⟨e0, e1, e2, e3, e, e4⟩ z) (fun _ _ _ _ _ _ => hv)
  refine ⟨fun q => ?_, fun q => ⟨fun q2 => F _ ρ ?_ Fρ, fun q2 => ?_⟩⟩
  · exact c_tellS x3 x4 _ ⟨e, e4⟩ hP _ hx _ iI bI (Or.inl q) ρ rC _ (fun v w hv wF _ => F v w hv (Fρ.trans (frC.of (a := 74) (z := 80) (by omega) wF)))
  · unfold zMimR
    rw [if_neg q, if_pos q2]
  · rw [rC.1.1]
    refine ⟨fun q3 => c_tellS x3 x4 _ ⟨e, e4⟩ hP _ hx _ iI bI (Or.inr ⟨q2, q3⟩) ρ rC _ (fun v w hv wF _ => F v w hv (Fρ.trans (frC.of (a := 74) (z := 80) (by omega) wF))), fun q3 => F _ ρ ?_ Fρ⟩
    unfold zMimR
    rw [if_neg q, if_neg (by omega), if_neg (by omega)]
end SU
