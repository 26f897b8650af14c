theorem OKM_run {σ : gS} (hI : tInv σ) {x1 x2 : Int} (h0 : 0 ≤ x1) (h1 : x1 < gI σ 89 0) (h2 : 0 ≤ x2) (h3 : x2 < gI σ 89 1) : OKM (zRun σ x1 x2 40) := by
  obtain ⟨o1, o2, o3, o4, o5, o6⟩ := zRun_ok hI h0 h1 h2 h3 (N := 40) (by omega)
  obtain ⟨hA, h29, h25, h24, h23⟩ := o1
  exact ⟨hA, by omega, by omega⟩
def fFr (x : Fl) (k w : Int) : Int := if w = -1 then k else if x.2.2 (qof (x.2.1 k)) < x.2.2 (qof (x.2.1 w)) then k else w
def zFair (S : RS) : Int := if gfold (fFr (zFl S)) (-1) (zFl S).1.toNat = -1 then -1 else (zFl S).2.1 (gfold (fFr (zFl S)) (-1) (zFl S).1.toNat)
theorem fFr_r (x : Fl) (j w : Int) (j0 : 0 ≤ j) (h : w = -1 ∨ (0 ≤ w ∧ w < j)) : fFr x j w = -1 ∨ (0 ≤ fFr x j w ∧ fFr x j w < j + 1) := by
  unfold fFr
  split
  · omega
  · split <;> omega
/-- one of the flows -/
theorem OKL_f {k : Int} {x : Fl} (h : OKL k x) {f : Int} (f0 : 0 ≤ f) (f1 : f < x.1) : ∃ i o, (0 ≤ i ∧ i < 6) ∧ (0 ≤ o ∧ o < 6) ∧ x.2.1 f = 10 * i + o ∧ qof (x.2.1 f) = 6 * i + o := by
  obtain ⟨i, o, a1, a2, a3, a4⟩ := h.2.2.2.1 f f0 f1
  exact ⟨i, o, a1, a2, a3, by rw [a3, qof_e i o a2]⟩
theorem OKL_z {S : RS} (hM : OKM S) : OKL (6 * S 88 24) (zFl S) := OKL_at hM (6 * S 88 24) (by have := hM.1.1.2.1; omega) (Int.le_refl _)
def zCellT (S : RS) (k w : Int) : Int := if k < 0 then -2 else if k < S 88 25 then (if w = 0 then S 100 k else if w = 1 then S 101 k else if w = 2 then S 102 k else if w = 3 then S 103 k else if w = 4 then S 104 k else if w = 5 then S 105 k else -2) else -2
def zFlowT (S : RS) (k w : Int) : Int := if k = -1 then (if w = 0 then (zFl S).1 else -1) else if k < 0 then -1 else if k < (zFl S).1 then (if w = 0 then (zFl S).2.1 k else if w = 1 then (zFl S).2.2 (qof ((zFl S).2.1 k)) else if w = 2 then S 95 (qof ((zFl S).2.1 k)) else -1) else -1
def zAfter (S : RS) (w : Int) : Int :=
  if w = 0 then (if zWorst S = -1 then 0 else S 104 (zWorst S) - S 103 (zWorst S)) else if w = 1 then zSum S else if w = 2 then zWorst S else if w = 3 then zSplits S else if w = 4 then zIdle S else if w = 5 then zBest S else if w = 6 then zFair S else if w = 7 then zMeets S else if w = 8 then zStarved S else if w = 9 then zAlike S
  else if w < 10 then -2 else if w < 10 + S 88 10 then zTurns S (w - 10) else -2
section SC
variable {l : Launch} {G : gG}
/-- a question at the end of a run, by the class; by the reference -/
theorem c_askC (x1 x2 n : Int) (r1 : gR x1) (r2 : gR x2) (σ : gS) (hI : tInv σ) (Q : Int → gS → Prop) (K : Int → gS → Prop) (h0 : ¬ (0 ≤ x1 ∧ x1 < gI σ 89 0 ∧ 0 ≤ x2 ∧ x2 < gI σ 89 1) → Q n σ)
    (h1 : 0 ≤ x1 → x1 < gI σ 89 0 → 0 ≤ x2 → x2 < gI σ 89 1 → ∀ υ, CR υ (zRun σ x1 x2 40) → frN σ υ → OKM (zRun σ x1 x2 40) → K (zRun σ x1 x2 40 88 29) υ) :
    eX11_begins l G x1 x2 σ (fun v3 σ1 => (v3 = 0 ∨ v3 = 1) → (¬ v3 = 0 → eX8_follow l G x2 40 σ1 (fun v7 σ5 => gR v7 → K v7 σ5)) ∧ (v3 = 0 → Q n σ1)) := by
  refine c_begins11 x1 x2 r1 r2 σ hI _ (fun e _ => ⟨fun e => absurd rfl e, fun _ => h0 e⟩) (fun e0 e1 e2 e3 τ hτ fτ _ => ⟨fun _ => ?_, fun e => absurd e (by decide)⟩)
  exact c_followX x1 x2 40 σ τ hI e0 e1 e2 e3 (by decide) hτ fτ _ (fun υ uC uF _ => h1 e0 e1 e2 e3 υ uC uF (OKM_run hI e0 e1 e2 e3))
theorem c_askR (x1 x2 n : Int) (r1 : gR x1) (r2 : gR x2) (σ τ : gS) (hI : tInv σ) (hF : frC σ τ) (Q : Int → gS → Prop) (K : gS → Prop) (h0 : ¬ (0 ≤ x1 ∧ x1 < gI σ 89 0 ∧ 0 ≤ x2 ∧ x2 < gI σ 89 1) → ∀ υ, tInv υ → Q n υ)
    (h1 : 0 ≤ x1 → x1 < gI σ 89 0 → 0 ≤ x2 → x2 < gI σ 89 1 → ∀ υ, pS υ = zRun σ x1 x2 40 → OKM (pS υ) → tSame σ υ → K υ) :
    eX12_isCrossbar l G x1 τ (fun v3 σ1 => (v3 = 0 ∨ v3 = 1) → (v3 = 0 → Q n σ1) ∧ (¬ v3 = 0 → eX12_isTraffic l G x2 σ1 (fun v7 σ5 => (v7 = 0 ∨ v7 = 1) → (¬ v7 = 0 → eX12_goes l G 40 σ5 K) ∧ (v7 = 0 → Q n σ5)))) := by
  refine c_isCrossbarX x1 r1 σ τ hI hF _ (fun e _ => ⟨fun _ => h0 (by omega) τ (tInv.same hF.same hI), fun e => absurd rfl e⟩) (fun e0 e1 τ1 R1 _ => ⟨fun e => absurd e (by decide), fun _ => ?_⟩)
  refine c_isTrafficX x1 x2 r2 σ τ1 hI R1 _ (fun e _ => ⟨fun e => absurd rfl e, fun _ => h0 (by omega) τ1 (tInv.same R1.2.2.2.2.2 hI)⟩) (fun e2 e3 τ2 R2 _ => ⟨fun _ => ?_, fun e => absurd e (by decide)⟩)
  exact c_goesX x1 x2 40 (by decide) σ τ2 hI e0 e1 e2 e3 R2 _ (fun υ pu su _ => h1 e0 e1 e2 e3 υ pu (by rw [pu]; exact OKM_run hI e0 e1 e2 e3) su)
theorem p_cell (x1 x2 x3 x4 : Int) (r1 : gR x1) (r2 : gR x2) (r3 : gR x3) (r4 : gR x4) (σ : gS) (hI : tInv σ) : eX11_cell l G x1 x2 x3 x4 σ (fun r τ => gR r → eX12_cell l G x1 x2 x3 x4 τ (fun r' υ => gR r' → r = r' ∧ tInv υ)) := by
  have B : ∀ (v : Int) (τ : gS), frC σ τ → (¬ (0 ≤ x1 ∧ x1 < gI σ 89 0 ∧ 0 ≤ x2 ∧ x2 < gI σ 89 1) → v = -2) → (0 ≤ x1 → x1 < gI σ 89 0 → 0 ≤ x2 → x2 < gI σ 89 1 → v = zCellT (zRun σ x1 x2 40) x3 x4) → eX12_cell l G x1 x2 x3 x4 τ (fun r' υ => gR r' → v = r' ∧ tInv υ) := by
    intro v τ hF hn hy
    refine vX12_cell x1 x2 x3 x4 r1 r2 r3 r4 τ _ (c_askR x1 x2 (-2) r1 r2 σ τ hI hF (fun r' υ => gR r' → v = r' ∧ tInv υ) _ (fun e υ iu _ => ⟨hn e, iu⟩) (fun e0 e1 e2 e3 υ pu hM su => ?_))
    have iu : tInv υ := tInv.same su hI
    have hv := hy e0 e1 e2 e3
    rw [← pu] at hv
    obtain ⟨hA, h25, h24⟩ := hM
    have q25 := hA.1.2.1
    have e25 : gI υ 88 25 = pS υ 88 25 := pS_at (by unfold okC; omega)
    rw [e25]
    refine c_isIn x3 0 _ r3 (by decide) ⟨by omega, by omega⟩ υ _ (fun r hr _ => ⟨fun e => ?_, fun e _ => ⟨?_, iu⟩⟩)
    · have hk : 0 ≤ x3 ∧ x3 < pS υ 88 25 := by omega
      obtain ⟨w1, w2, w3, w4, w5, w6, w7⟩ := hA.2.1 x3 hk.1 hk.2
      unfold zCellT at hv
      rw [if_neg (by omega), if_pos hk.2] at hv
      have a : ∀ c, 100 ≤ c ∧ c ≤ 108 → gI υ c x3 = pS υ c x3 := fun c hc => pS_at (by unfold okC; omega)
      rw [a 100 (by omega), a 101 (by omega), a 102 (by omega), a 103 (by omega), a 104 (by omega), a 105 (by omega)]
      refine ⟨fun z => ⟨by omega, fun _ => ⟨?_, iu⟩⟩, fun z => ⟨by omega, fun _ => ⟨?_, iu⟩⟩, fun z => ⟨by omega, fun u eu _ => ⟨?_, iu⟩⟩, fun z => ⟨by omega, fun _ => ⟨?_, iu⟩⟩, fun z => ⟨by omega, fun _ => ⟨?_, iu⟩⟩, fun z => ⟨by omega, fun u eu _ => ⟨?_, iu⟩⟩, fun z _ => ⟨?_, iu⟩⟩
      · rw [if_pos z] at hv; exact hv
      · rw [if_neg (by omega), if_pos z] at hv; exact hv
      · rw [if_neg (by omega), if_neg (by omega), if_pos z] at hv
        rw [hv, eu]; split <;> omega
      · rw [if_neg (by omega), if_neg (by omega), if_neg (by omega), if_pos z] at hv; exact hv
      · rw [if_neg (by omega), if_neg (by omega), if_neg (by omega), if_neg (by omega), if_pos z] at hv; exact hv
      · rw [if_neg (by omega), if_neg (by omega), if_neg (by omega), if_neg (by omega), if_neg (by omega), if_pos z] at hv
        rw [hv, eu]; split <;> omega
      · rw [if_neg (by omega), if_neg (by omega), if_neg (by omega), if_neg (by omega), if_neg (by omega), if_neg (by omega)] at hv; exact hv
    · rw [hv]
      unfold zCellT
      split
      · rfl
      · rw [if_neg (by omega)]
  refine vX11_cell x1 x2 x3 x4 r1 r2 r3 r4 σ _ (c_askC x1 x2 (-2) r1 r2 σ hI (fun r τ => gR r → eX12_cell l G x1 x2 x3 x4 τ (fun r' υ => gR r' → r = r' ∧ tInv υ)) _ (fun e _ => B _ σ frC.rfl' (fun _ => rfl) (fun a b c d => absurd ⟨a, b, c, d⟩ e)) (fun e0 e1 e2 e3 υ uC uF hM => ?_))
  have F : ∀ w, w = zCellT (zRun σ x1 x2 40) x3 x4 → gR w → eX12_cell l G x1 x2 x3 x4 υ (fun r' υ => gR r' → w = r' ∧ tInv υ) := fun w hw _ => B w υ uF.c (fun z => absurd ⟨e0, e1, e2, e3⟩ z) (fun _ _ _ _ => hw)
  unfold zCellT at F
  have q25 := hM.1.1.2.1
  refine vX0_tell x3 x4 r3 r4 υ _ ?_
  rw [uC.2.1.2.1]
  refine ⟨fun e _ => F _ (by rw [if_pos e]), fun e => ⟨fun e9 => ?_, fun e9 _ => F _ (by rw [if_neg (by omega), if_neg (by omega)])⟩⟩
  obtain ⟨w1, w2, w3, w4, w5, w6, w7⟩ := hM.1.2.1 x3 e e9
  obtain ⟨d1, d2, d3, d4, d5, d6, d7⟩ := uC.2.2.2.2.2.1 x3 e e9
  have h25 := hM.2.1
  rw [if_neg (by omega), if_pos e9] at F
  rw [d1, d2, d3, d4, d5, d6]
  refine ⟨fun z => ⟨by omega, fun _ => F _ ?_⟩, fun z => ⟨by omega, fun _ => F _ ?_⟩, fun z => ⟨by omega, fun u eu _ => F _ ?_⟩, fun z => ⟨by omega, fun _ => F _ ?_⟩, fun z => ⟨by omega, fun _ => F _ ?_⟩, fun z => ⟨by omega, fun u eu _ => F _ ?_⟩, fun z _ => F _ ?_⟩
  · rw [if_pos z]
  · rw [if_neg (by omega), if_pos z]
  · rw [if_neg (by omega), if_neg (by omega), if_pos z, eu]; split <;> omega
  · rw [if_neg (by omega), if_neg (by omega), if_neg (by omega), if_pos z]
  · rw [if_neg (by omega), if_neg (by omega), if_neg (by omega), if_neg (by omega), if_pos z]
  · rw [if_neg (by omega), if_neg (by omega), if_neg (by omega), if_neg (by omega), if_neg (by omega), if_pos z, eu]; split <;> omega
  · rw [if_neg (by omega), if_neg (by omega), if_neg (by omega), if_neg (by omega), if_neg (by omega), if_neg (by omega)]
theorem c_queueOf (c i o : Int) (hi : 0 ≤ i ∧ i < 6) (ho : 0 ≤ o ∧ o < 6) (hc : c = 10 * i + o) (σ : gS) (Q : Int → gS → Prop) (h : Q (6 * i + o) σ) : eX5_queueOf l G c σ Q := by
  refine vX5_queueOf c ⟨by omega, by omega⟩ σ Q ?_
  rw [gdiv_pos c 10 (by omega) (by decide), grem_pos c 10 (by omega) (by decide), show c / 10 * 6 + c % 10 = 6 * i + o by omega]
  exact ⟨⟨by omega, by omega⟩, h⟩
theorem p_flow (x1 x2 x3 x4 : Int) (r1 : gR x1) (r2 : gR x2) (r3 : gR x3) (r4 : gR x4) (σ : gS) (hI : tInv σ) : eX11_flow l G x1 x2 x3 x4 σ (fun r τ => gR r → eX12_flow l G x1 x2 x3 x4 τ (fun r' υ => gR r' → r = r' ∧ tInv υ)) := by
  have B : ∀ (v : Int) (τ : gS), frC σ τ → (¬ (0 ≤ x1 ∧ x1 < gI σ 89 0 ∧ 0 ≤ x2 ∧ x2 < gI σ 89 1) → v = -1) → (0 ≤ x1 → x1 < gI σ 89 0 → 0 ≤ x2 → x2 < gI σ 89 1 → v = zFlowT (zRun σ x1 x2 40) x3 x4) → eX12_flow l G x1 x2 x3 x4 τ (fun r' υ => gR r' → v = r' ∧ tInv υ) := by
    intro v τ hF hn hy
    refine vX12_flow x1 x2 x3 x4 r1 r2 r3 r4 τ _ (c_askR x1 x2 (-1) r1 r2 σ τ hI hF (fun r' υ => gR r' → v = r' ∧ tInv υ) _ (fun e υ iu _ => ⟨hn e, iu⟩) (fun e0 e1 e2 e3 υ pu hM su => ?_))
    have hv := hy e0 e1 e2 e3
    rw [← pu] at hv
    refine c_laysFlows υ hM _ (fun ρ rF rf => ?_)
    have iu : tInv ρ := tInv.same (su.trans ⟨fun c hc i => rf c i (by omega) (by omega) (by omega), fun i => rf 89 i (by omega) (by omega) (by omega), fun i => rf 90 i (by omega) (by omega) (by omega)⟩) hI
    have hL := OKL_z hM
    have h36 := OKL_36 hL
    have h0 := hL.1
    obtain ⟨f1, f2⟩ := rF
    unfold zFlowT at hv
    rw [f1]
    generalize zFl (pS υ) = x at *
    refine ⟨fun e => ?_, fun e u eu _ => ⟨?_, iu⟩⟩
    · rw [if_neg e] at hv
      refine c_isIn x3 0 _ r3 (by decide) ⟨by omega, by omega⟩ ρ _ (fun r hr _ => ⟨fun e4 _ => ⟨?_, iu⟩, fun e4 => ?_⟩)
      · rw [hv]
        split
        · rfl
        · rw [if_neg (by omega)]
      · have hk : 0 ≤ x3 ∧ x3 < x.1 := by omega
        rw [if_neg (by omega), if_pos hk.2] at hv
        obtain ⟨g1, g2⟩ := f2 x3 hk.1 hk.2
        obtain ⟨i, o, a1, a2, a3, a4⟩ := OKL_f hL hk.1 hk.2
        refine c_isIn x4 0 2 r4 (by decide) (by decide) ρ _ (fun r hr _ => ⟨fun e5 => ?_, fun e5 _ => ⟨?_, iu⟩⟩)
        · rw [g1, g2]
          refine ⟨fun z => ⟨fun y => ⟨by omega, ?_⟩, fun y => ⟨by omega, fun _ => ⟨?_, iu⟩⟩⟩, fun z => ⟨by omega, fun _ => ⟨?_, iu⟩⟩⟩
          · rw [gdiv_pos _ 10 (by omega) (by decide), grem_pos _ 10 (by omega) (by decide), a3, show (10 * i + o) / 10 = i by omega, show (10 * i + o) % 10 = o by omega]
            refine c_at i o a1 a2 ρ _ (fun _ => ⟨by omega, fun _ => ⟨?_, iu⟩⟩)
            rw [if_neg z, if_neg y, if_pos (by omega), a4] at hv
            rw [rf 95 _ (by omega) (by omega) (by omega), pS_at (by unfold okC; omega)]; exact hv
          · rw [if_neg z, if_pos y] at hv; exact hv
          · rw [if_pos z] at hv; exact hv
        · rw [hv, if_neg (by omega), if_neg (by omega), if_neg (by omega)]
    · rw [if_pos e] at hv
      rw [hv, eu]
  refine vX11_flow x1 x2 x3 x4 r1 r2 r3 r4 σ _ (c_askC x1 x2 (-1) r1 r2 σ hI (fun r τ => gR r → eX12_flow l G x1 x2 x3 x4 τ (fun r' υ => gR r' → r = r' ∧ tInv υ)) _ (fun e _ => B _ σ frC.rfl' (fun _ => rfl) (fun a b c d => absurd ⟨a, b, c, d⟩ e)) (fun e0 e1 e2 e3 υ uC uF hM => ?_))
  refine c_gatherFlows υ _ uC hM _ (fun ρ rC rf => ?_)
  have rF : frC σ ρ := uF.c.trans (frC.of (a := 81) (z := 83) (by omega) (fun c i hc => rf c i (by omega) (by omega) (by omega)))
  have F : ∀ w, w = zFlowT (zRun σ x1 x2 40) x3 x4 → gR w → eX12_flow l G x1 x2 x3 x4 ρ (fun r' υ => gR r' → w = r' ∧ tInv υ) := fun w hw _ => B w ρ rF (fun z => absurd ⟨e0, e1, e2, e3⟩ z) (fun _ _ _ _ => hw)
  unfold zFlowT at F
  have hL := OKL_z hM
  have h36 := OKL_36 hL
  have h0 := hL.1
  obtain ⟨f1, f2, f3⟩ := rC
  refine vX5_tellFlow x3 x4 r3 r4 ρ _ ?_
  rw [f1]
  generalize zFl (zRun σ x1 x2 40) = x at *
  refine ⟨fun e => ⟨fun e4 _ => F _ (by rw [if_neg e, if_pos e4]), fun e4 => ⟨fun e5 => ?_, fun e5 _ => F _ (by rw [if_neg e, if_neg (by omega), if_neg (by omega)])⟩⟩, fun e u eu _ => F _ (by rw [if_pos e, eu])⟩
  rw [if_neg e, if_neg (by omega), if_pos e5] at F
  obtain ⟨i, o, a1, a2, a3, a4⟩ := OKL_f hL e4 e5
  rw [f2 x3 e4 e5]
  refine ⟨fun z => ⟨by omega, fun _ => F _ (by rw [if_pos z])⟩, fun z => ⟨by omega, c_queueOf _ i o a1 a2 a3 ρ _ (fun _ => ⟨by omega, fun _ => F _ ?_⟩)⟩, fun z => ⟨by omega, c_queueOf _ i o a1 a2 a3 ρ _ (fun _ => ⟨by omega, fun _ => F _ ?_⟩)⟩, fun z _ => F _ (by rw [if_neg (by omega), if_neg (by omega), if_neg (by omega)])⟩
  · rw [if_neg (by omega), if_pos z, a4]; exact f3 _ (by omega) (by omega)
  · rw [if_neg (by omega), if_neg (by omega), if_pos z, a4, rf 53 _ (by omega) (by omega) (by omega)]
    exact (uC.2.2.2.1 (6 * i + o) (by omega) (by omega)).1
theorem c_fairest (σ : gS) (S : RS) (hC : CR σ S) (hM : OKM S) (Q : Int → gS → Prop) (h : ∀ τ, (∀ c i, c ≠ 81 → c ≠ 82 → c ≠ 83 → gI τ c i = gI σ c i) → Q (zFair S) τ) : eX5_fairest l G σ Q := by
  refine vX5_fairest σ Q (c_gatherFlows σ S hC hM _ (fun τ tC tF => ?_))
  have h := h τ tF
  have hL := OKL_z hM
  have h36 := OKL_36 hL
  have h0 := hL.1
  obtain ⟨f1, f2, f3⟩ := tC
  unfold zFair at h
  generalize zFl S = x at *
  refine gloopF (fFr x) (-1) x.1 h0 (fun j w => w = -1 ∨ (0 ≤ w ∧ w < j)) (fun j w => kX5_fairest_9 l G (if w = -1 then -1 else x.2.1 w) j τ Q) (Or.inl rfl) ?_ ?_
  · intro j w j0 j1 hp
    refine ⟨fFr_r x j w j0 hp, fun ih => ?_⟩
    have ih : kX5_fairest_9 l G (if fFr x j w = -1 then -1 else x.2.1 (fFr x j w)) (j + 1) τ Q := ih
    obtain ⟨i, o, a1, a2, a3, a4⟩ := OKL_f hL j0 j1
    by_cases e : w = -1
    · have f : fFr x j w = j := by unfold fFr; rw [if_pos e]
      rw [f, if_neg (by omega)] at ih
      rw [if_pos e]
      refine vX5_fairest_9 (-1) j (by decide) ⟨by omega, by omega⟩ τ Q ?_
      rw [f1, f2 j j0 j1]
      exact ⟨fun z => by omega, fun _ => ⟨fun _ => ⟨by omega, ih⟩, fun z => absurd rfl z⟩⟩
    · obtain ⟨i', o', b1, b2, b3, b4⟩ := OKL_f hL (f := w) (by omega) (by omega)
      rw [if_neg e]
      refine vX5_fairest_9 _ j ⟨by omega, by omega⟩ ⟨by omega, by omega⟩ τ Q ?_
      rw [f1, f2 j j0 j1]
      refine ⟨fun z => by omega, fun _ => ⟨fun z => by omega, fun _ => ⟨by omega, c_queueOf _ i o a1 a2 a3 τ _ (fun _ => ⟨by omega, c_queueOf _ i' o' b1 b2 b3 τ _ (fun _ => ⟨by omega, fun z => ?_, fun z => ?_⟩)⟩)⟩⟩⟩
      · rw [f3 _ (by omega) (by omega), f3 _ (by omega) (by omega)] at z
        have f : fFr x j w = w := by unfold fFr; rw [if_neg e, a4, b4, if_neg (by omega)]
        rw [f, if_neg e] at ih; exact ih
      · rw [f3 _ (by omega) (by omega), f3 _ (by omega) (by omega)] at z
        have f : fFr x j w = j := by unfold fFr; rw [if_neg e, a4, b4, if_pos z]
        rw [f, if_neg (by omega)] at ih
        rw [f2 j j0 j1]; exact ih
  · intro hp
    by_cases e : gfold (fFr x) (-1) x.1.toNat = -1
    · rw [if_pos e] at h ⊢
      refine vX5_fairest_9 (-1) _ (by decide) ⟨by omega, by omega⟩ τ Q ?_
      rw [f1]
      exact ⟨fun _ => h, fun z => by omega⟩
    · rw [if_neg e] at h ⊢
      obtain ⟨i', o', b1, b2, b3, b4⟩ := OKL_f hL (f := gfold (fFr x) (-1) x.1.toNat) (by omega) (by omega)
      refine vX5_fairest_9 _ _ ⟨by omega, by omega⟩ ⟨by omega, by omega⟩ τ Q ?_
      rw [f1]
      exact ⟨fun _ => h, fun z => by omega⟩
theorem c_fairOf (σ : gS) (hM : OKM (pS σ)) (Q : Int → gS → Prop) (h : ∀ τ, (∀ c i, c ≠ 128 → c ≠ 129 → ¬ (c = 88 ∧ i = 61) → gI τ c i = gI σ c i) → Q (zFair (pS σ)) τ) : eX12_fairOf l G σ Q := by
  refine vX12_fairOf σ Q (c_laysFlows σ hM _ (fun τ tC tF => ?_))
  have h := h τ tF
  have hL := OKL_z hM
  have h36 := OKL_36 hL
  have h0 := hL.1
  obtain ⟨f1, f2⟩ := tC
  unfold zFair at h
  generalize zFl (pS σ) = x at *
  refine gloopF (fFr x) (-1) x.1 h0 (fun j w => w = -1 ∨ (0 ≤ w ∧ w < j)) (fun j w => kX12_fairOf_8 l G w j τ Q) (Or.inl rfl) ?_ ?_
  · intro j w j0 j1 hp
    refine ⟨fFr_r x j w j0 hp, fun ih => ?_⟩
    have ih : kX12_fairOf_8 l G (fFr x j w) (j + 1) τ Q := ih
    unfold fFr at ih
    refine vX12_fairOf_8 w j ⟨by omega, by omega⟩ ⟨by omega, by omega⟩ τ Q ?_
    rw [f1]
    refine ⟨fun z => by omega, fun _ => ⟨fun e => ?_, fun e => ⟨by omega, by omega, fun z => ?_, fun z => ?_⟩⟩⟩
    · rw [if_pos e] at ih; exact ih
    · rw [(f2 w (by omega) (by omega)).2, (f2 j j0 j1).2] at z
      rw [if_neg e, if_neg (by omega)] at ih; exact ih
    · rw [(f2 w (by omega) (by omega)).2, (f2 j j0 j1).2] at z
      rw [if_neg e, if_pos z] at ih; exact ih
  · intro hp
    generalize gfold (fFr x) (-1) x.1.toNat = w at *
    refine vX12_fairOf_8 w _ ⟨by omega, by omega⟩ ⟨by omega, by omega⟩ τ Q ?_
    rw [f1]
    refine ⟨fun _ => ⟨⟨fun e => ⟨by omega, trivial⟩, fun _ => trivial⟩, fun v ev => ?_⟩, fun z => by omega⟩
    rw [ev]
    by_cases e : w = -1
    · rw [if_pos e] at h ⊢; exact h
    · rw [if_neg e] at h ⊢
      rw [(f2 w (by omega) (by omega)).1]; exact h
theorem c_tellM (w : Int) (rw0 : gR w) (σ : gS) (S : RS) (hC : CR σ S) (hM : OKM S) (Q : Int → gS → Prop) (h : ∀ τ, (∀ c i, c ≠ 81 → c ≠ 82 → c ≠ 83 → gI τ c i = gI σ c i) → Q (zAfter S w) τ) : eX5_tell l G w σ Q := by
  have h9 := h σ (fun _ _ _ _ _ => rfl)
  have hP := hM.1.1.1
  unfold zAfter at h h9
  refine vX5_tell w rw0 σ Q ⟨fun e => ?_, fun e => ?_, fun e => ?_, fun e => ?_, fun e => ?_, fun e => ?_, fun e => ?_, fun e => ?_, fun e => ?_, fun e => ?_, fun e => ?_⟩
  · rw [if_pos e] at h9
    have hw := zWorst_r S hM.1.1.2.1.2.2.1
    refine vX5_longestWait σ _ (c_worst σ S hC hM _ (fun _ => ⟨fun z => ?_, fun z _ => ?_⟩))
    · rw [if_neg z] at h9
      exact c_waitC _ σ S hC hM (by omega) _ (fun _ _ => h9)
    · rw [if_pos z] at h9; exact h9
  · subst e; exact c_sum σ S hC hM _ (fun _ => h9)
  · subst e; exact c_worst σ S hC hM _ (fun _ => h9)
  · subst e; exact c_splits σ S hC hM _ (fun _ => h9)
  · subst e; exact c_idle σ S hC hM _ (fun _ => h9)
  · subst e; exact c_bestSlot σ S hC hM _ (fun _ => h9)
  · subst e; exact c_fairest σ S hC hM _ (fun τ tF _ => h τ tF)
  · subst e; exact c_meets σ S hC hM _ (fun _ => h9)
  · subst e; exact c_starved σ S hC hM _ (fun _ => h9)
  · subst e; exact c_alike σ S hC hM _ (fun _ => h9)
  · rw [if_neg (by omega), if_neg (by omega), if_neg (by omega), if_neg (by omega), if_neg (by omega), if_neg (by omega), if_neg (by omega), if_neg (by omega), if_neg (by omega), if_neg (by omega)] at h9
    rw [hC.1.1]
    refine ⟨fun z => ?_, fun z => ⟨⟨by omega, by omega⟩, fun y => ?_, fun y => ?_⟩⟩
    · rw [if_pos z] at h9; exact h9
    · rw [if_neg (by omega), if_pos y] at h9
      exact c_turns (w - 10) σ S hC hM (by omega) _ (fun _ => h9)
    · rw [if_neg (by omega), if_neg (by omega)] at h9; exact h9
theorem p_after (x1 x2 x3 : Int) (r1 : gR x1) (r2 : gR x2) (r3 : gR x3) (σ : gS) (hI : tInv σ) : eX11_after l G x1 x2 x3 σ (fun r τ => gR r → eX12_after l G x1 x2 x3 τ (fun r' υ => gR r' → r = r' ∧ tInv υ)) := by
  have B : ∀ (v : Int) (τ : gS), frC σ τ → (¬ (0 ≤ x1 ∧ x1 < gI σ 89 0 ∧ 0 ≤ x2 ∧ x2 < gI σ 89 1) → v = -2) → (0 ≤ x1 → x1 < gI σ 89 0 → 0 ≤ x2 → x2 < gI σ 89 1 → v = zAfter (zRun σ x1 x2 40) x3) → eX12_after l G x1 x2 x3 τ (fun r' υ => gR r' → v = r' ∧ tInv υ) := by
    intro v τ hF hn hy
    refine vX12_after x1 x2 x3 r1 r2 r3 τ _ (c_askR x1 x2 (-2) r1 r2 σ τ hI hF (fun r' υ => gR r' → v = r' ∧ tInv υ) _ (fun e υ iu _ => ⟨hn e, iu⟩) (fun e0 e1 e2 e3 υ pu hM su => ?_))
    have iu : tInv υ := tInv.same su hI
    have hv := hy e0 e1 e2 e3
    rw [← pu] at hv
    unfold zAfter at hv
    have hP := hM.1.1.1
    have e10 : gI υ 88 10 = pS υ 88 10 := pS_at (by unfold okC; omega)
    refine ⟨fun e => ?_, fun e => ?_, fun e => ?_, fun e => ?_, fun e => ?_, fun e => ?_, fun e => ?_, fun e => ?_, fun e => ?_, fun e => ?_, fun e => ?_⟩
    · rw [if_pos e] at hv
      have hw := zWorst_r (pS υ) hM.1.1.2.1.2.2.1
      refine c_worstOf υ hM _ (fun _ => ⟨fun z => ?_, fun z _ => ⟨?_, iu⟩⟩)
      · rw [if_neg z] at hv
        exact c_worstOf υ hM _ (fun _ => c_waitR _ υ hM (by omega) _ (fun _ _ => ⟨hv, iu⟩))
      · rw [if_pos z] at hv; exact hv
    · subst e; exact c_sumOf υ hM _ (fun _ _ => ⟨hv, iu⟩)
    · subst e; exact c_worstOf υ hM _ (fun _ _ => ⟨hv, iu⟩)
    · subst e; exact c_splitsOf υ hM _ (fun _ _ => ⟨hv, iu⟩)
    · subst e; exact c_idleOf υ hM _ (fun _ _ => ⟨hv, iu⟩)
    · subst e; exact c_bestOf υ hM _ (fun _ _ => ⟨hv, iu⟩)
    · subst e
      exact c_fairOf υ hM _ (fun ρ rf _ _ => ⟨hv, tInv.same (su.trans ⟨fun c hc i => rf c i (by omega) (by omega) (by omega), fun i => rf 89 i (by omega) (by omega) (by omega), fun i => rf 90 i (by omega) (by omega) (by omega)⟩) hI⟩)
    · subst e; exact c_meetsOf υ hM _ (fun _ _ => ⟨hv, iu⟩)
    · subst e; exact c_starvedOf υ hM _ (fun _ _ => ⟨hv, iu⟩)
    · subst e; exact c_sameOf υ hM _ (fun _ _ => ⟨hv, iu⟩)
    · rw [if_neg (by omega), if_neg (by omega), if_neg (by omega), if_neg (by omega), if_neg (by omega), if_neg (by omega), if_neg (by omega), if_neg (by omega), if_neg (by omega), if_neg (by omega)] at hv
      refine c_isIn x3 10 15 r3 (by decide) (by decide) υ _ (fun r hr _ => ⟨fun z _ => ⟨?_, iu⟩, fun z => ?_⟩)
      · rw [hv]
        split
        · rfl
        · rw [if_neg (by omega)]
      · refine c_isPort (x3 - 10) ⟨by omega, by omega⟩ υ (by rw [e10]; omega) _ (fun r2 hr2 _ => ⟨fun y _ => ⟨?_, iu⟩, fun y => ?_⟩)
        · rw [e10] at hr2
          rw [hv, if_neg (by omega), if_neg (by omega)]
        · rw [e10] at hr2
          rw [if_neg (by omega), if_pos (by omega)] at hv
          exact c_turnsOf (x3 - 10) υ hM (by omega) _ (fun _ _ => ⟨hv, iu⟩)
  refine vX11_after x1 x2 x3 r1 r2 r3 σ _ (c_askC x1 x2 (-2) r1 r2 σ hI (fun r τ => gR r → eX12_after l G x1 x2 x3 τ (fun r' υ => gR r' → r = r' ∧ tInv υ)) _ (fun e _ => B _ σ frC.rfl' (fun _ => rfl) (fun a b c d => absurd ⟨a, b, c, d⟩ e)) (fun e0 e1 e2 e3 υ uC uF hM => ?_))
  refine c_tellM x3 r3 υ _ uC hM _ (fun ρ rf _ _ => B _ ρ ?_ (fun z => absurd ⟨e0, e1, e2, e3⟩ z) (fun _ _ _ _ => rfl))
  exact uF.c.trans (frC.of (a := 81) (z := 83) (by omega) (fun c i hc => rf c i (by omega) (by omega) (by omega)))
end SC
