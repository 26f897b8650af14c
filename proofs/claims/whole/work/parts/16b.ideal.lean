/-- cells told, in bounds, along a run -/
def JO (D : Int → Int) (p0 : Int) (S : RS) : Prop := 0 ≤ (tkD D p0 (S 88 29).toNat).2.1 ∧ (tkD D p0 (S 88 29).toNat).2.1 ≤ S 88 29 ∧ ∀ k, 0 ≤ k → k < (tkD D p0 (S 88 29).toNat).2.1 → (0 ≤ (tkD D p0 (S 88 29).toNat).2.2.1 k ∧ (tkD D p0 (S 88 29).toNat).2.2.1 k < S 88 10) ∧ (0 ≤ (tkD D p0 (S 88 29).toNat).2.2.2.1 k ∧ (tkD D p0 (S 88 29).toNat).2.2.2.1 k < S 88 10) ∧ (0 ≤ (tkD D p0 (S 88 29).toNat).2.2.2.2 k ∧ (tkD D p0 (S 88 29).toNat).2.2.2.2 k ≤ S 88 24)
theorem JO_do {D : Int → Int} {p0 : Int} {S : RS} (hA : OKA S) (h29 : 0 ≤ S 88 29) (hd : tDeed D (p0 + 1 + 3 * S 88 29)) (hc : zCanD (D (p0 + 1 + 3 * S 88 29)) (D (p0 + 1 + 3 * S 88 29 + 1)) (D (p0 + 1 + 3 * S 88 29 + 2)) S) (hT : JT D p0 S) (h : JO D p0 S) : JO D p0 (uS (zDo (D (p0 + 1 + 3 * S 88 29)) (D (p0 + 1 + 3 * S 88 29 + 1)) (D (p0 + 1 + 3 * S 88 29 + 2)) S) 88 29 (S 88 29 + 1)) := by
  have hT' := JT_do hA h29 hd hc hT
  have dz := zDo_ok hA hd hc
  unfold JT at hT hT'
  unfold JO at h ⊢
  have e24 : (uS (zDo (D (p0 + 1 + 3 * S 88 29)) (D (p0 + 1 + 3 * S 88 29 + 1)) (D (p0 + 1 + 3 * S 88 29 + 2)) S) 88 29 (S 88 29 + 1)) 88 24 = (tkD D p0 (S 88 29 + 1).toNat).1 := by
    rw [uS_eq] at hT'
    rw [hT']
  have e10 : (uS (zDo (D (p0 + 1 + 3 * S 88 29)) (D (p0 + 1 + 3 * S 88 29 + 1)) (D (p0 + 1 + 3 * S 88 29 + 2)) S) 88 29 (S 88 29 + 1)) 88 10 = S 88 10 := by
    rw [uS_nei (by decide)]; exact dz.2.1 10 (by omega)
  rw [uS_eq, e24, e10]
  have ste : tkD D p0 (S 88 29 + 1).toNat = fTD D p0 (S 88 29) (tkD D p0 (S 88 29).toNat) := gfold_s h29
  have e1 : (tkD D p0 (S 88 29).toNat).1 = S 88 24 := by rw [hT]
  rw [ste]
  generalize tkD D p0 (S 88 29).toNat = x at *
  obtain ⟨a1, a2, a3⟩ := h
  have h24 : 0 ≤ S 88 24 := hA.1.2.1.2.1
  unfold tDeed at hd
  have sl : 0 ≤ dSl D (p0 + 1 + 3 * S 88 29) := by
    unfold dSl
    split
    · omega
    · split <;> omega
  unfold fTD
  dsimp only
  rw [e1]
  by_cases e2 : D (p0 + 1 + 3 * S 88 29) = 2
  · rw [if_pos e2]
    have hz : zCan (D (p0 + 1 + 3 * S 88 29)) (D (p0 + 1 + 3 * S 88 29 + 1)) (D (p0 + 1 + 3 * S 88 29 + 2)) S := by
      rcases hc with z | z
      · omega
      · exact z
    obtain ⟨z1, z2, z3, z4⟩ := hz
    unfold tPush fup
    dsimp only
    refine ⟨by omega, by omega, fun k k0 k1 => ?_⟩
    by_cases e : k = x.2.1
    · rw [if_pos e, if_pos e, if_pos e]
      omega
    · rw [if_neg e, if_neg e, if_neg e]
      have := a3 k k0 (by omega)
      omega
  · rw [if_neg e2]
    refine ⟨a1, by omega, fun k k0 k1 => ?_⟩
    have := a3 k k0 k1
    omega
theorem JO_fol {D : Int → Int} {p0 N : Int} (hD : ∀ k, 0 ≤ k → k < D p0 → tDeed D (p0 + 1 + 3 * k)) : ∀ (n : Nat) {S : RS}, OKD S → JT D p0 S → JO D p0 S → JO D p0 (zFol D p0 N n S)
  | 0, _, _, _, h => h
  | n + 1, S, hS, hT, h => JO_fol hD n (zStep_ok hS hD).1 (JT_step hS hD hT) (by
      by_cases hc : S 88 29 < N ∧ S 88 29 < D p0 ∧ zCanD (D (p0 + 1 + 3 * S 88 29)) (D (p0 + 1 + 3 * S 88 29 + 1)) (D (p0 + 1 + 3 * S 88 29 + 2)) S
      · rw [zStep_y hc]; exact JO_do hS.1 hS.2.1 (hD _ hS.2.1 hc.2.1) hc.2.2 hT h
      · rw [zStep_n hc]; exact h)
/-- the cells told by a traffic, up to where it stops -/
noncomputable def zTold (σ : gS) (x1 x2 : Int) : Tk := (tkD (gI σ 89) (618 + 121 * x2) (zRun σ x1 x2 40 88 29).toNat).2
theorem OKT_run {σ : gS} (hI : tInv σ) {x1 x2 : Int} (h0 : 0 ≤ x1) (h1 : x1 < gI σ 89 0) (h2 : 0 ≤ x2) (h3 : x2 < gI σ 89 1) : OKT (zRun σ x1 x2 40 88 10) (zTold σ x1 x2) ∧ tkS (zRun σ x1 x2 40) (zRun σ x1 x2 40 88 25).toNat = zTold σ x1 x2 := by
  obtain ⟨t1, t2, t3, t4⟩ := tTraf hI h2 h3
  have ok := zRun_ok hI h0 h1 h2 h3 (N := 40) (by omega)
  have hM := OKM_run hI h0 h1 h2 h3
  have z : ∀ k, 23 ≤ k ∧ k ≤ 29 → zB0 σ x1 (uS (pS σ) 88 14 (618 + 121 * x2)) 88 k = 0 := fun k hk => zBeg_0 _ _ _ _ _ k hk
  have J0 : JT (gI σ 89) (618 + 121 * x2) (zB0 σ x1 (uS (pS σ) 88 14 (618 + 121 * x2))) := by
    unfold JT
    rw [z 29 (by omega), z 24 (by omega), z 25 (by omega)]; rfl
  have O0 : JO (gI σ 89) (618 + 121 * x2) (zB0 σ x1 (uS (pS σ) 88 14 (618 + 121 * x2))) := by
    unfold JO
    rw [z 29 (by omega)]
    exact ⟨Int.le_refl _, Int.le_refl _, fun k k0 k1 => absurd (show k < 0 from k1) (by omega)⟩
  have J := JT_run hI h0 h1 h2 h3
  have O : JO (gI σ 89) (618 + 121 * x2) (zRun σ x1 x2 40) := JO_fol t4 40 (zB0_d hI h0 h1 _) J0 O0
  obtain ⟨a1, a2, a3⟩ := O
  refine ⟨⟨a1, by have := ok.2.2.2.1; show (tkD (gI σ 89) (618 + 121 * x2) (zRun σ x1 x2 40 88 29).toNat).2.1 ≤ 40; omega, fun k k0 k1 => ?_⟩, ?_⟩
  · obtain ⟨b1, b2, b3⟩ := a3 k k0 k1
    exact ⟨b1, b2, b3.1, by have := hM.2.2; show (tkD (gI σ 89) (618 + 121 * x2) (zRun σ x1 x2 40 88 29).toNat).2.2.2.2 k ≤ 360; omega⟩
  · unfold JT at J
    unfold zTold
    rw [J]
/-- ideals: each behind all those before it at its output -/
def kyT (x : Tk) (k : Int) : Int := (x.2.2.2 k * 6 + x.2.1 k) * 40 + k
def isId (x : Tk) (I : Int → Int) : Prop := ∀ k, 0 ≤ k → k < x.1 → x.2.2.2 k ≤ I k ∧ (∀ j, 0 ≤ j → j < x.1 → x.2.2.1 j = x.2.2.1 k → kyT x j < kyT x k → I j + 1 ≤ I k) ∧ (I k = x.2.2.2 k ∨ ∃ j, 0 ≤ j ∧ j < x.1 ∧ x.2.2.1 j = x.2.2.1 k ∧ kyT x j < kyT x k ∧ I k = I j + 1)
theorem kyT_eq {P : Int} {x : Tk} (h : OKT P x) {j k : Int} (j0 : 0 ≤ j) (j1 : j < x.1) (k0 : 0 ≤ k) (k1 : k < x.1) (e : kyT x j = kyT x k) : j = k := by
  unfold kyT at e
  have := h.2.1
  omega
theorem kyT_0 {P : Int} {x : Tk} (h : OKT P x) {k : Int} (k0 : 0 ≤ k) (k1 : k < x.1) : 0 ≤ kyT x k := by
  have := h.2.2 k k0 k1
  unfold kyT
  omega
theorem isId_eq {P : Int} {x : Tk} (hx : OKT P x) {I J : Int → Int} (hI : isId x I) (hJ : isId x J) (k : Int) (k0 : 0 ≤ k) (k1 : k < x.1) : I k = J k := by
  have L : ∀ n : Nat, ∀ k, 0 ≤ k → k < x.1 → kyT x k < n → I k = J k := by
    intro n
    induction n with
    | zero => intro k k0 k1 h; have := kyT_0 hx k0 k1; omega
    | succ n ih =>
      intro k k0 k1 h
      obtain ⟨a1, a2, a3⟩ := hI k k0 k1
      obtain ⟨b1, b2, b3⟩ := hJ k k0 k1
      rcases a3 with a3 | ⟨j, j0, j1, j2, j3, j4⟩
      · rcases b3 with b3 | ⟨j', j0', j1', j2', j3', j4'⟩
        · rw [a3, b3]
        · have := a2 j' j0' j1' j2' j3'
          have := ih j' j0' j1' (by omega)
          omega
      · have e := ih j j0 j1 (by omega)
        have := b2 j j0 j1 j2 j3
        rcases b3 with b3 | ⟨j', j0', j1', j2', j3', j4'⟩
        · omega
        · have := a2 j' j0' j1' j2' j3'
          have := ih j' j0' j1' (by omega)
          omega
  exact L (kyT x k + 1).toNat k k0 k1 (by have := kyT_0 hx k0 k1; omega)
theorem isId_inj {P : Int} {x : Tk} (hx : OKT P x) {I : Int → Int} (hI : isId x I) {j k : Int} (j0 : 0 ≤ j) (j1 : j < x.1) (k0 : 0 ≤ k) (k1 : k < x.1) (ho : x.2.2.1 j = x.2.2.1 k) (e : I j = I k) : j = k := by
  by_cases z : kyT x j < kyT x k
  · have := (hI k k0 k1).2.1 j j0 j1 ho z; omega
  · by_cases z2 : kyT x k < kyT x j
    · have := (hI j j0 j1).2.1 k k0 k1 ho.symm z2; omega
    · exact kyT_eq hx j0 j1 k0 k1 (by omega)
/-- ideals set so far: those of the first cells -/
def PI (x : Tk) (ok : Int → Int → Prop) (I : Int → Int) : Prop :=
  (∀ k, 0 ≤ k → k < x.1 → I k = -1 ∨ (0 ≤ I k ∧ I k ≤ 360 + sm (fun j => if I j = -1 then 0 else 1) x.1.toNat)) ∧
  (∀ k, 0 ≤ k → k < x.1 → I k ≠ -1 → x.2.2.2 k ≤ I k ∧ (∀ j, 0 ≤ j → j < x.1 → x.2.2.1 j = x.2.2.1 k → kyT x j < kyT x k → I j ≠ -1 ∧ I j + 1 ≤ I k) ∧ (I k = x.2.2.2 k ∨ ∃ j, 0 ≤ j ∧ j < x.1 ∧ x.2.2.1 j = x.2.2.1 k ∧ kyT x j < kyT x k ∧ I j ≠ -1 ∧ I k = I j + 1)) ∧
  (∀ j k, 0 ≤ j → j < x.1 → 0 ≤ k → k < x.1 → ok j k → I k ≠ -1 → I j = -1 → kyT x k < kyT x j)
theorem PI_all {x : Tk} {ok : Int → Int → Prop} {I : Int → Int} (h : PI x ok I) (ha : ∀ k, 0 ≤ k → k < x.1 → I k ≠ -1) : isId x I := fun k k0 k1 => by
  obtain ⟨a1, a2, a3⟩ := h.2.1 k k0 k1 (ha k k0 k1)
  refine ⟨a1, fun j j0 j1 j2 j3 => (a2 j j0 j1 j2 j3).2, ?_⟩
  rcases a3 with a3 | ⟨j, j0, j1, j2, j3, _, j4⟩
  · exact Or.inl a3
  · exact Or.inr ⟨j, j0, j1, j2, j3, j4⟩
/-- one more ideal: of the first cell without one, behind those of its output -/
theorem PI_set {P : Int} {x : Tk} (hx : OKT P x) {ok : Int → Int → Prop} {I : Int → Int} (h : PI x ok I) {f v : Int} (f0 : 0 ≤ f) (f1 : f < x.1) (hf : I f = -1) (hok : ∀ j, 0 ≤ j → j < x.1 → x.2.2.1 j = x.2.2.1 f → ok f j) (hmin : ∀ j, 0 ≤ j → j < x.1 → ok j f → I j = -1 → j ≠ f → kyT x f < kyT x j) (hsam : ∀ j, 0 ≤ j → j < x.1 → x.2.2.1 j = x.2.2.1 f → ok j f)
    (hv1 : x.2.2.2 f ≤ v) (hv2 : ∀ j, 0 ≤ j → j < x.1 → x.2.2.1 j = x.2.2.1 f → I j ≠ -1 → I j + 1 ≤ v) (hv3 : v = x.2.2.2 f ∨ ∃ j, 0 ≤ j ∧ j < x.1 ∧ x.2.2.1 j = x.2.2.1 f ∧ I j ≠ -1 ∧ v = I j + 1) :
    PI x ok (fup I f v) ∧ sm (fun j => if fup I f v j = -1 then 0 else 1) x.1.toNat = sm (fun j => if I j = -1 then 0 else 1) x.1.toNat + 1 := by
  obtain ⟨p1, p2, p3⟩ := h
  have xt := hx.2.2 f f0 f1
  have ef : fup I f v f = v := by unfold fup; rw [if_pos rfl]
  have en : ∀ j, j ≠ f → fup I f v j = I j := fun j hj => by unfold fup; rw [if_neg hj]
  have hv0 : v ≠ -1 := by omega
  have cnt' : sm (fun j => if fup I f v j = -1 then 0 else 1) x.1.toNat = sm (fun j => if I j = -1 then 0 else 1) x.1.toNat + 1 := by
    rw [sm_upd (g := fun j => if I j = -1 then 0 else 1) (g' := fun j => if fup I f v j = -1 then 0 else 1) f0 (fun q hq => by simp only [en q hq]) x.1.toNat, if_pos (by omega)]
    simp only [ef, hf, if_neg hv0]
    simp
  refine ⟨⟨fun k k0 k1 => ?_, fun k k0 k1 hk => ?_, fun j k j0 j1 k0 k1 hjk hk hj => ?_⟩, cnt'⟩
  · rw [cnt']
    by_cases e : k = f
    · rw [e, ef]
      right
      rcases hv3 with q | ⟨j, j0, j1, j2, j3, j4⟩
      · have := (sm_r (f := fun j => if I j = -1 then 0 else 1) (a := 0) (b := 1) x.1.toNat (fun j _ _ => by split <;> omega)).1
        omega
      · have := p1 j j0 j1
        omega
    · rw [en k e]
      have := p1 k k0 k1
      omega
  · by_cases e : k = f
    · subst e
      rw [ef]
      refine ⟨hv1, fun j j0 j1 j2 j3 => ?_, ?_⟩
      · have hjf : j ≠ k := fun z => by rw [z] at j3; omega
        rw [en j hjf]
        by_cases z : I j = -1
        · have := hmin j j0 j1 (hsam j j0 j1 j2) z hjf
          omega
        · exact ⟨z, hv2 j j0 j1 j2 z⟩
      · rcases hv3 with q | ⟨j, j0, j1, j2, j3, j4⟩
        · exact Or.inl q
        · have hjf : j ≠ k := fun z => by rw [z] at j3; exact j3 hf
          exact Or.inr ⟨j, j0, j1, j2, p3 k j k0 k1 j0 j1 (hok j j0 j1 j2) j3 hf, by rw [en j hjf]; exact j3, by rw [en j hjf]; exact j4⟩
    · rw [en k e] at hk ⊢
      obtain ⟨a1, a2, a3⟩ := p2 k k0 k1 hk
      refine ⟨a1, fun j j0 j1 j2 j3 => ?_, ?_⟩
      · have := a2 j j0 j1 j2 j3
        have hjf : j ≠ f := fun z => by rw [z] at this; exact this.1 hf
        rw [en j hjf]; exact this
      · rcases a3 with q | ⟨j, j0, j1, j2, j3, j4, j5⟩
        · exact Or.inl q
        · have hjf : j ≠ f := fun z => by rw [z] at j4; exact j4 hf
          exact Or.inr ⟨j, j0, j1, j2, j3, by rw [en j hjf]; exact j4, by rw [en j hjf]; exact j5⟩
  · have hjf : j ≠ f := fun z => by rw [z, ef] at hj; exact hv0 hj
    rw [en j hjf] at hj
    by_cases e : k = f
    · rw [e]
      exact hmin j j0 j1 (by rw [e] at hjk; exact hjk) hj hjf
    · rw [en k e] at hk
      exact p3 j k j0 j1 k0 k1 hjk hk hj
