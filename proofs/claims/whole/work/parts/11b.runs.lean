section RN
variable {l : Launch} {G : gG}
/-- the reference begins -/
theorem c_beginsZ (P r d p : Int) (hP : 1 ≤ P ∧ P ≤ 6) (hp : 0 ≤ p ∧ p ≤ 5) (σ : gS) (h10 : gI σ 88 10 = P) (h11 : gI σ 88 11 = r) (h12 : gI σ 88 12 = d) (h13 : gI σ 88 13 = p) (Q : gS → Prop) (h : ∀ τ, pS τ = zBeg P r d p (pS σ) → frQ σ τ → Q τ) : eX12_begins l G σ Q := by
  refine c_begins P p hP hp σ h10 h13 Q (fun τ a1 a2 a3 a4 => h τ ?_ ⟨fun c hc i => a4 c i (by omega) (by omega) (by omega) (by omega) (by omega) (by omega) (by omega), fun i => a4 89 i (by omega) (by omega) (by omega) (by omega) (by omega) (by omega) (by omega), fun i => a4 90 i (by omega) (by omega) (by omega) (by omega) (by omega) (by omega) (by omega)⟩)
  funext c i
  by_cases hc : okC c i
  · rw [pS_y hc]
    by_cases c88 : c = 88
    · subst c88
      by_cases k1 : 23 ≤ i ∧ i ≤ 29
      · rw [zBeg_0 P r d p _ i k1]; exact a3 i k1.1 k1.2
      · rw [a4 88 i (by omega) (by omega) (by omega) (by omega) (by omega) (by omega) (by omega)]
        by_cases e10 : i = 10
        · subst e10; rw [(zBeg_10 P r d p _).1]; exact h10
        · by_cases e11 : i = 11
          · subst e11; rw [(zBeg_10 P r d p _).2.1]; exact h11
          · by_cases e12 : i = 12
            · subst e12; rw [(zBeg_10 P r d p _).2.2.1]; exact h12
            · by_cases e13 : i = 13
              · subst e13; rw [(zBeg_10 P r d p _).2.2.2]; exact h13
              · rw [zBeg_88 P r d p _ i (by unfold okC at hc; omega), pS_y hc]
    · by_cases c92 : c = 92 ∨ c = 93
      · have hi : 0 ≤ i ∧ i < 6 := by unfold okC at hc; omega
        rw [zBeg_92 P r d p _ c c92 i hi]
        rcases c92 with rfl | rfl
        · exact (a1 i hi.1 hi.2).1
        · exact (a1 i hi.1 hi.2).2.1
      · by_cases c97 : c = 97 ∨ c = 98 ∨ c = 99
        · have hi : 0 ≤ i ∧ i < 6 := by unfold okC at hc; omega
          rw [zBeg_97 P r d p _ c c97 i hi]
          rcases c97 with rfl | rfl | rfl
          · exact (a1 i hi.1 hi.2).2.2.1
          · exact (a1 i hi.1 hi.2).2.2.2.1
          · exact (a1 i hi.1 hi.2).2.2.2.2
        · by_cases c95 : c = 95
          · subst c95
            have hi : 0 ≤ i ∧ i < 36 := by unfold okC at hc; omega
            rw [zBeg_95 P r d p _ i hi]; exact a2 i hi.1 hi.2
          · rw [zBeg_o P r d p _ c i (by omega), a4 c i (by omega) (by omega) (by omega) (by omega) (by omega) (by omega) (by omega), pS_y hc]
  · have e : zBeg P r d p (pS σ) c i = pS σ c i := by
      unfold zBeg
      by_cases c88 : c = 88
      · rw [if_pos c88, if_neg (by unfold okC at hc; omega), if_neg (by unfold okC at hc; omega), if_neg (by unfold okC at hc; omega), if_neg (by unfold okC at hc; omega), if_neg (by unfold okC at hc; omega)]
      · rw [if_neg c88, if_neg (by unfold okC at hc; omega), if_neg (by unfold okC at hc; omega), if_neg (by unfold okC at hc; omega)]
    rw [e, pS_n hc, pS_n hc]
theorem c_goesSlotA (σ : gS) (hA : OKA (pS σ)) (h25 : pS σ 88 25 ≤ 400) (h24 : pS σ 88 24 < 420) (Q : gS → Prop) (h : ∀ τ, pS τ = zSlot (pS σ) → frQ σ τ → Q τ) : eX12_goesSlot l G σ Q :=
  c_goesSlot σ hA.1 h25 (fun k k0 k1 => by have := (hA.2.1 k k0 k1).2.2.1; omega) (by have := hA.2.2.2.2; omega) (by have := hA.2.2.2.1; omega) h24 Q h
theorem c_passSlotA (σ : gS) (S : RS) (hC : CR σ S) (hA : OKA S) (h25 : S 88 25 ≤ 360) (h24 : S 88 24 < 360) (Q : gS → Prop) (h : ∀ τ, CR τ (zSlot S) → gI τ 32 6 = 0 → frN σ τ → Q τ) : eX8_passSlot l G σ Q :=
  c_passSlot σ S hC hA.1 h25 (fun k k0 k1 => by have := (hA.2.1 k k0 k1).2.2.1; omega) (by have := hA.2.2.2.2; omega) (by have := hA.2.2.2.1; omega) h24 Q h
/-- a deed, by the reference -/
theorem c_doesZ (kind a b : Int) (rk : gR kind) (ra : gR a) (rb : gR b) (σ : gS) (hA : OKA (pS σ)) (hd : kind = 0 ∨ (kind = 1 ∧ 1 ≤ a ∧ a ≤ 9) ∨ (2 ≤ kind ∧ kind ≤ 4 ∧ zCan kind a b (pS σ) ∧ 0 ≤ b ∧ b < 64 ∧ (kind ≠ 2 → 1 ≤ b))) (h25 : pS σ 88 25 ≤ 354) (h24 : pS σ 88 24 ≤ 400) (h23 : pS σ 88 23 ≤ 100000) (Q : gS → Prop)
    (h : ∀ τ, pS τ = zDo kind a b (pS σ) → frQ σ τ → Q τ) : eX12_does l G kind a b σ Q := by
  have hP := hA.1.1
  have h2 := hA.1.2.1
  refine vX12_does kind a b rk ra rb σ Q ⟨fun e => ?_, fun e => ?_, fun e => ?_, fun e => ?_, fun e => ?_⟩
  · exact c_goesSlotA σ hA (by omega) (by omega) _ (fun τ p f => h τ (by rw [p]; unfold zDo; rw [if_pos e]) f)
  · refine gloopI (α := gS) 0 a (fun j τ => j ≤ a ∧ pS τ = zSlots j.toNat (pS σ) ∧ frQ σ τ) (fun j τ => kX12_does_42 l G kind a b j τ Q) ?_ ?_ 0 σ (by omega) ⟨by omega, rfl, frQ.rfl'⟩
    · rintro j τ j0 j1 ⟨z0, z1, z2⟩ ih
      obtain ⟨a1, a2, a3, a4⟩ := zSlots_ok j.toNat (pS σ) hA
      refine vX12_does_42 kind a b j rk ra rb ⟨by omega, by omega⟩ τ Q ⟨fun e => by omega, fun _ => ?_⟩
      refine c_goesSlotA τ (by rw [z1]; exact a1) (by rw [z1, a2 25 (by omega) (by omega) (by omega)]; omega) (by rw [z1]; omega) _ (fun υ p f => ih υ ⟨by omega, ?_, z2.trans f⟩)
      rw [p, z1, show (j + 1).toNat = j.toNat + 1 by omega]; rfl
    · rintro j τ j0 ⟨z0, z1, z2⟩
      have hj : j = a := by omega
      subst hj
      exact vX12_does_42 kind j b j rk ra rb ra τ Q ⟨fun _ => h τ (by rw [z1]; unfold zDo; rw [if_neg (by omega), if_pos e]) z2, fun e => by omega⟩
  · obtain ⟨_, _, hz, b0, b1, _⟩ : 2 ≤ kind ∧ kind ≤ 4 ∧ zCan kind a b (pS σ) ∧ 0 ≤ b ∧ b < 64 ∧ (kind ≠ 2 → 1 ≤ b) := by
      rcases hd with z | z | z
      · omega
      · omega
      · exact z
    have hb : b < pS σ 88 10 := by
      rcases hz.2.2.2 with z | z
      · exact z.2
      · exact absurd e z.1
    have h3 := (hA.1.2.2.1 (6 * a + b) (by have := hz.1; omega) (by have := hz.2.1; omega)).1
    exact c_cellComes a b 1 ⟨hz.1, by have := hz.2.1; omega⟩ ⟨b0, by omega⟩ (Or.inr rfl) σ (by omega) (by omega) h3 (by omega) _ (fun r τ _ p f _ => h τ (by rw [p]; unfold zDo zBring; rw [if_neg (by omega), if_neg (by omega), if_pos e]) f)
  · obtain ⟨_, _, hz, b0, b1, _⟩ : 2 ≤ kind ∧ kind ≤ 4 ∧ zCan kind a b (pS σ) ∧ 0 ≤ b ∧ b < 64 ∧ (kind ≠ 2 → 1 ≤ b) := by
      rcases hd with z | z | z
      · omega
      · omega
      · exact z
    have h3 := (hA.1.2.2.2.1 a hz.1 (by have := hz.2.1; omega)).1
    exact c_fanComes a b ⟨hz.1, by have := hz.2.1; omega⟩ ⟨b0, b1⟩ σ (by omega) (by omega) h3 (by omega) _ (fun τ p f => h τ (by rw [p]; unfold zDo zBring; rw [if_neg (by omega), if_neg (by omega), if_neg (by omega), if_pos e]) f)
  · obtain ⟨_, _, hz, b0, b1, _⟩ : 2 ≤ kind ∧ kind ≤ 4 ∧ zCan kind a b (pS σ) ∧ 0 ≤ b ∧ b < 64 ∧ (kind ≠ 2 → 1 ≤ b) := by
      rcases hd with z | z | z
      · omega
      · omega
      · exact z
    exact c_bursts a b ⟨b0, b1⟩ σ hA.1 ⟨hz.1, hz.2.1⟩ h25 h23 _ (fun τ p f => h τ (by rw [p]; unfold zDo zBring; rw [if_neg (by omega), if_neg (by omega), if_neg (by omega), if_neg (by omega)]) f)
theorem c_canD (kind a b : Int) (rk : gR kind) (ra : gR a) (rb : gR b) (hb : 2 ≤ kind → 0 ≤ b) (σ : gS) (hS : OKS (pS σ)) (Q : Int → gS → Prop) (h : ∀ r, (r = 1 ∧ zCanD kind a b (pS σ)) ∨ (r = 0 ∧ ¬ zCanD kind a b (pS σ)) → Q r σ) : eX12_can l G kind a b σ Q := by
  by_cases hk : kind < 2
  · exact vX12_can kind a b rk ra rb σ Q ⟨fun z => by omega, fun _ => h 1 (Or.inl ⟨rfl, Or.inl hk⟩)⟩
  · refine c_can kind a b rk ra rb (hb (by omega)) (by omega) σ hS Q (fun r hr => h r ?_)
    rcases hr with ⟨e, z⟩ | ⟨e, z⟩
    · exact Or.inl ⟨e, Or.inr z⟩
    · refine Or.inr ⟨e, fun y => ?_⟩
      rcases y with y | y
      · exact hk y
      · exact z y
theorem tDeed_z {D : Int → Int} {q : Int} {S : RS} (hd : tDeed D q) (hc : zCanD (D q) (D (q + 1)) (D (q + 2)) S) : D q = 0 ∨ (D q = 1 ∧ 1 ≤ D (q + 1) ∧ D (q + 1) ≤ 9) ∨ (2 ≤ D q ∧ D q ≤ 4 ∧ zCan (D q) (D (q + 1)) (D (q + 2)) S ∧ 0 ≤ D (q + 2) ∧ D (q + 2) < 64 ∧ (D q ≠ 2 → 1 ≤ D (q + 2))) := by
  unfold tDeed at hd
  by_cases h2 : 2 ≤ D q
  · refine Or.inr (Or.inr ⟨h2, by omega, ?_, by omega, by omega, by omega⟩)
    rcases hc with z | z
    · omega
    · exact z
  · omega
/-- a traffic up to n deeds, by the reference -/
theorem c_goes (N P r d p p0 : Int) (rN : gR N) (hP : 1 ≤ P ∧ P ≤ 6) (hr : 1 ≤ r ∧ r ≤ 4) (hd : 1 ≤ d ∧ d ≤ 9) (hp : 0 ≤ p ∧ p ≤ 5) (σ : gS) (h10 : gI σ 88 10 = P) (h11 : gI σ 88 11 = r) (h12 : gI σ 88 12 = d) (h13 : gI σ 88 13 = p) (h14 : gI σ 88 14 = p0) (hp0 : 0 ≤ p0 ∧ p0 + 121 ≤ 3704) (hD0 : 0 ≤ gI σ 89 p0 ∧ gI σ 89 p0 ≤ 40) (hD : ∀ k, 0 ≤ k → k < gI σ 89 p0 → tDeed (gI σ 89) (p0 + 1 + 3 * k)) (Q : gS → Prop)
    (h : ∀ τ, pS τ = zFol (gI σ 89) p0 N 40 (zBeg P r d p (pS σ)) → frQ σ τ → Q τ) : eX12_goes l G N σ Q := by
  have L : ∀ (n : Nat) (τ : gS), OKD (pS τ) → pS τ 88 29 ≤ 40 → gI σ 89 p0 ≤ pS τ 88 29 + n → pS τ 88 14 = p0 → frQ σ τ → (∀ υ, pS υ = zFol (gI σ 89) p0 N n (pS τ) → frQ σ υ → Q υ) → kX12_goes_4 l G N τ Q := by
    intro n
    induction n with
    | zero =>
      intro τ hk h40 hn t14 hF hQ
      have e29 : gI τ 88 29 = pS τ 88 29 := pS_at (by unfold okC; omega)
      have e14 : gI τ 88 14 = p0 := by rw [pS_at (by unfold okC; omega)]; exact t14
      refine vX12_goes_4 N rN τ Q ?_
      rw [e29, e14, hF.2.1 p0]
      exact ⟨fun _ => hQ τ rfl hF, fun _ => ⟨by omega, fun _ => hQ τ rfl hF, fun e => by omega⟩⟩
    | succ n ih =>
      intro τ hk h40 hn t14 hF hQ
      have e29 : gI τ 88 29 = pS τ 88 29 := pS_at (by unfold okC; omega)
      have e14 : gI τ 88 14 = p0 := by rw [pS_at (by unfold okC; omega)]; exact t14
      have k0 := hk.2.1
      refine vX12_goes_4 N rN τ Q ?_
      have stuck : ¬ (pS τ 88 29 < N ∧ pS τ 88 29 < gI σ 89 p0 ∧ zCanD (gI σ 89 (p0 + 1 + 3 * pS τ 88 29)) (gI σ 89 (p0 + 1 + 3 * pS τ 88 29 + 1)) (gI σ 89 (p0 + 1 + 3 * pS τ 88 29 + 2)) (pS τ)) → Q τ := fun z => hQ τ (zFol_n _ (zStep_n z)).symm hF
      simp only [e29, e14, hF.2.1]
      refine ⟨fun e => stuck (fun z => by omega), fun e1 => ⟨by omega, fun e => stuck (fun z => by omega), fun e2 => ⟨by omega, by omega, by omega, ?_⟩⟩⟩
      have hT := hD _ k0 e2
      have rT : gR (gI σ 89 (p0 + 1 + 3 * pS τ 88 29)) ∧ gR (gI σ 89 (p0 + 1 + 3 * pS τ 88 29 + 1)) ∧ gR (gI σ 89 (p0 + 1 + 3 * pS τ 88 29 + 2)) := by
        unfold tDeed at hT
        exact ⟨⟨by omega, by omega⟩, ⟨by omega, by omega⟩, ⟨by omega, by omega⟩⟩
      refine c_canD _ _ _ rT.1 rT.2.1 rT.2.2 (fun z => by unfold tDeed at hT; omega) τ hk.1.1 _ (fun v hv _ => ⟨fun e => ?_, fun e => stuck (fun z => ?_)⟩)
      · have hcan : zCanD (gI σ 89 (p0 + 1 + 3 * pS τ 88 29)) (gI σ 89 (p0 + 1 + 3 * pS τ 88 29 + 1)) (gI σ 89 (p0 + 1 + 3 * pS τ 88 29 + 2)) (pS τ) := by
          rcases hv with z | z
          · exact z.2
          · omega
        have hall := And.intro e1 (And.intro e2 hcan)
        obtain ⟨a1, a2, a3, a4, a5, a6⟩ := zDo_ok hk.1 hT hcan
        have b := hk.2.2
        simp only [hF.2.1]
        refine c_doesZ _ _ _ rT.1 rT.2.1 rT.2.2 τ hk.1 (tDeed_z hT hcan) (by omega) (by omega) (by omega) _ (fun υ pu fu => ?_)
        have u29 : gI υ 88 29 = pS τ 88 29 := by rw [pS_at (by unfold okC; omega), pu, a2 29 (by omega)]
        rw [u29]
        refine ⟨⟨by omega, by omega⟩, fun w ew => ?_⟩
        have pw : pS w = zStep (gI σ 89) p0 N (pS τ) := by rw [zStep_y hall, ew, pS_sI (by unfold okC; omega), pu]
        obtain ⟨s1, s2, s3, s4⟩ := zStep_ok (N := N) hk hD
        refine ih w (by rw [pw]; exact s1) ?_ ?_ (by rw [pw, s2 14 (by omega)]; exact t14) ?_ (fun x px fx => hQ x (by rw [px, pw]; rfl) fx)
        · rw [pw, zStep_y hall, uS_eq]; omega
        · rw [pw, zStep_y hall, uS_eq]; omega
        · rw [ew]; exact (hF.trans fu).trans (frQ.set (by omega))
      · rcases hv with y | y
        · omega
        · exact y.2 z.2.2
  have hA0 := OKA_beg hP hr hd hp (pS σ)
  refine vX12_goes N rN σ Q (c_beginsZ P r d p hP hp σ h10 h11 h12 h13 _ (fun σ1 p1 f1 => ?_))
  have z := zBeg_0 P r d p (pS σ)
  refine L 40 σ1 (by rw [p1]; exact ⟨hA0, by rw [z 29 (by omega)]; omega, by rw [z 25 (by omega), z 29 (by omega)]; omega, by rw [z 24 (by omega), z 29 (by omega)]; omega, by rw [z 23 (by omega), z 29 (by omega)]; omega⟩) (by rw [p1, z 29 (by omega)]; omega) (by rw [p1, z 29 (by omega)]; omega) ?_ f1 (fun υ pu fu => h υ (by rw [pu, p1]) fu)
  rw [p1, zBeg_88 _ _ _ _ _ _ (by omega), ← pS_at (by unfold okC; omega)]; exact h14
theorem OKD_beg {P r d p : Int} (hP : 1 ≤ P ∧ P ≤ 6) (hr : 1 ≤ r ∧ r ≤ 4) (hd : 1 ≤ d ∧ d ≤ 9) (hp : 0 ≤ p ∧ p ≤ 5) (S : RS) : OKD (zBeg P r d p S) := by
  have z := zBeg_0 P r d p S
  exact ⟨OKA_beg hP hr hd hp S, by rw [z 29 (by omega)]; omega, by rw [z 25 (by omega), z 29 (by omega)]; omega, by rw [z 24 (by omega), z 29 (by omega)]; omega, by rw [z 23 (by omega), z 29 (by omega)]; omega⟩
/-- a run's beginning, by the class -/
theorem c_beginR (x P r d p : Int) (hx : 0 ≤ x ∧ x < 2) (hP : 1 ≤ P ∧ P ≤ 6) (hr : 1 ≤ r ∧ r ≤ 4) (hd : 1 ≤ d ∧ d ≤ 9) (hp : 0 ≤ p ∧ p ≤ 5) (σ : gS) (h0 : gI σ 4 (x * 4 + 0) = P) (h2 : gI σ 4 (x * 4 + 2) = d) (Q : gS → Prop)
    (h : ∀ τ, (∀ S, CR τ (zBeg P r d p S) ∧ isM (gI τ 32 6) (fun i => decide (zBeg P r d p S 99 i = 1))) → frN σ τ → Q τ) : eX8_begin_ l G x r p σ Q := by
  have rx : gR x := ⟨by omega, by omega⟩
  have rr : gR r := ⟨by omega, by omega⟩
  have rp : gR p := ⟨by omega, by omega⟩
  refine vX8_begin_ x r p rx rr rp σ Q (vX10_bar x 0 rx (by decide) σ _ ⟨by omega, fun _ => ?_⟩)
  rw [h0]
  refine c_begin 45 (Or.inl rfl) P p hP hp σ _ (fun σ1 hC hW hF σ7 e7 σ8 e8 => ?_)
  obtain ⟨c1, c2, c3, c4, c5⟩ := hC
  have g4 : gI σ8 4 (x * 4 + 2) = d := by rw [e8, sI_ne (by omega), e7, sI_ne (by omega), hF _ _ (by omega)]; exact h2
  refine vX10_bar x 2 rx (by decide) σ8 _ ⟨by omega, fun _ σ12 e12 σ13 e13 σ14 e14 σ15 e15 σ16 e16 σ17 e17 σ18 e18 σ19 e19 => ?_⟩
  rw [g4, show min 9 d = d by omega] at e12
  rw [c1] at e7
  have fr : ∀ c k, ¬ (c = 32 ∧ 3 ≤ k ∧ k ≤ 10) → ¬ (c = 33 ∧ k = 0) → ¬ (c = 41 ∧ k = 0) → gI σ19 c k = gI σ1 c k := fun c k q1 q2 q3 => by
    rw [e19, sI_at, if_neg (by omega), e18, sI_at, if_neg (by omega), e17, sI_at, if_neg (by omega), e16, sI_at, if_neg (by omega), e15, sI_at, if_neg (by omega), e14, sI_at, if_neg (by omega), e13, sI_at, if_neg (by omega), e12, sI_at, if_neg (by omega), e8, sI_at, if_neg (by omega), e7, sI_at, if_neg (by omega)]
  have f3 : gI σ19 32 3 = P ∧ gI σ19 32 4 = r ∧ gI σ19 32 5 = d ∧ gI σ19 32 6 = 0 ∧ gI σ19 32 7 = 0 ∧ gI σ19 32 8 = 0 ∧ gI σ19 32 9 = 0 ∧ gI σ19 32 10 = 0 ∧ gI σ19 33 0 = 0 ∧ gI σ19 41 0 = 0 := by
    refine ⟨?_, ?_, ?_, ?_, ?_, ?_, ?_, ?_, ?_, ?_⟩ <;> (simp only [e19, e18, e17, e16, e15, e14, e13, e12, e8, e7, sI_at]; simp)
  refine gloopI (α := gS) 0 6 (fun j τ => j ≤ 6 ∧ (∀ o, 0 ≤ o → o < j → gI τ 51 o = 0 ∧ gI τ 52 o = -1 ∧ gI τ 55 o = 0 ∧ gI τ 57 o = 0) ∧ (∀ c i, c ≠ 51 → c ≠ 52 → c ≠ 55 → c ≠ 57 → gI τ c i = gI σ19 c i)) (fun j τ => kX8_begin__90 l G x r p j τ Q) ?_ ?_ 0 σ19 (by omega) ⟨by omega, fun o o0 o1 => by omega, fun _ _ _ _ _ _ => rfl⟩
  · rintro j τ j0 j1 ⟨z0, z1, z2⟩ ih
    refine vX8_begin__90 x r p j rx rr rp ⟨by omega, by omega⟩ τ Q ⟨fun e => by omega, fun _ => ⟨by omega, fun a ea b eb c ec w ew => ih w ⟨by omega, fun o o0 o1 => ?_, fun q i n1 n2 n3 n4 => ?_⟩⟩⟩
    · by_cases ho : o = j
      · subst ho
        refine ⟨?_, ?_, ?_, ?_⟩
        · rw [ew, sI_ne (by omega), ec, sI_ne (by omega), eb, sI_ne (by omega), ea, sI_eq]
        · rw [ew, sI_ne (by omega), ec, sI_ne (by omega), eb, sI_eq]
        · rw [ew, sI_ne (by omega), ec, sI_eq]
        · rw [ew, sI_eq]
      · have fw : ∀ c k, k ≠ j → gI w c k = gI τ c k := fun c k hk => by rw [ew, sI_nei hk, ec, sI_nei hk, eb, sI_nei hk, ea, sI_nei hk]
        rw [fw _ _ ho, fw _ _ ho, fw _ _ ho, fw _ _ ho]; exact z1 o o0 (by omega)
    · rw [ew, sI_ne n4, ec, sI_ne n3, eb, sI_ne n2, ea, sI_ne n1]; exact z2 q i n1 n2 n3 n4
  · rintro j τ j0 ⟨z0, z1, z2⟩
    have hj : j = 6 := by omega
    subst hj
    refine vX8_begin__90 x r p 6 rx rr rp (by decide) τ Q ⟨fun _ => ?_, fun e => by omega⟩
    refine gloopI (α := gS) 0 36 (fun k υ => k ≤ 36 ∧ (∀ i, 0 ≤ i → i < k → gI υ 53 i = 0) ∧ (∀ c i, c ≠ 53 → gI υ c i = gI τ c i)) (fun k υ => kX8_begin__138 l G x r p k υ Q) ?_ ?_ 0 τ (by omega) ⟨by omega, fun i i0 i1 => by omega, fun _ _ _ => rfl⟩
    · rintro k υ k0 k1 ⟨y0, y1, y2⟩ ih
      refine vX8_begin__138 x r p k rx rr rp ⟨by omega, by omega⟩ υ Q ⟨fun e => by omega, fun _ => ⟨by omega, fun w ew => ih w ⟨by omega, fun i i0 i1 => ?_, fun c i hc => ?_⟩⟩⟩
      · rw [ew, sI_at]
        split
        · rfl
        · rename_i hq; exact y1 i i0 (by omega)
      · rw [ew, sI_ne hc]; exact y2 c i hc
    · rintro k υ k0 ⟨y0, y1, y2⟩
      have hk : k = 36 := by omega
      subst hk
      refine vX8_begin__138 x r p 36 rx rr rp (by decide) υ Q ⟨fun _ => h υ (fun S => ?_) ?_, fun e => by omega⟩
      · have u : ∀ c i, c ≠ 51 → c ≠ 52 → c ≠ 53 → c ≠ 55 → c ≠ 57 → gI υ c i = gI σ19 c i := fun c i n1 n2 n3 n4 n5 => by rw [y2 c i n3, z2 c i n1 n2 n4 n5]
        obtain ⟨g3, g4', g5, g6, g7, g8, g9, ga, gb, gc⟩ := f3
        have z := zBeg_0 P r d p S
        obtain ⟨z10, z11, z12, z13⟩ := zBeg_10 P r d p S
        refine ⟨⟨?_, ?_, fun o o0 o1 => ?_, fun q q0 q1 => ?_, fun i i0 i1 j q0 q1 => ?_, fun k q0 q1 => ?_, fun o o0 o1 => ?_, fun s s0 s1 => ?_, fun o o0 o1 => ?_⟩, ?_⟩
        · rw [z10, z11, z12, u 32 3 (by omega) (by omega) (by omega) (by omega) (by omega), u 32 4 (by omega) (by omega) (by omega) (by omega) (by omega), u 32 5 (by omega) (by omega) (by omega) (by omega) (by omega), u 45 0 (by omega) (by omega) (by omega) (by omega) (by omega), fr 45 0 (by omega) (by omega) (by omega)]
          exact ⟨g3, g4', g5, c1⟩
        · rw [z 24 (by omega), z 25 (by omega), z 26 (by omega), z 27 (by omega), z 28 (by omega), z 23 (by omega), u 41 0 (by omega) (by omega) (by omega) (by omega) (by omega), u 33 0 (by omega) (by omega) (by omega) (by omega) (by omega), u 32 7 (by omega) (by omega) (by omega) (by omega) (by omega), u 32 8 (by omega) (by omega) (by omega) (by omega) (by omega), u 32 9 (by omega) (by omega) (by omega) (by omega) (by omega), u 32 10 (by omega) (by omega) (by omega) (by omega) (by omega)]
          exact ⟨gc, gb, g7, g8, g9, ga⟩
        · obtain ⟨w1, w2, w3, w4⟩ := z1 o o0 o1
          have e97 : zBeg P r d p S 97 o = 0 := zBeg_97 P r d p S 97 (by omega) o ⟨o0, o1⟩
          rw [zBeg_97 P r d p S 98 (by omega) o ⟨o0, o1⟩, e97, zBeg_92 P r d p S 92 (by omega) o ⟨o0, o1⟩, zBeg_92 P r d p S 93 (by omega) o ⟨o0, o1⟩, y2 51 o (by omega), y2 55 o (by omega), y2 57 o (by omega), u 46 o (by omega) (by omega) (by omega) (by omega) (by omega), u 47 o (by omega) (by omega) (by omega) (by omega) (by omega), fr 46 o (by omega) (by omega) (by omega), fr 47 o (by omega) (by omega) (by omega)]
          refine ⟨w1, w3, (c4 o o0 o1).1, (c4 o o0 o1).2.1, ?_⟩
          unfold zLeft
          rw [if_pos e97]; exact w4
        · rw [zBeg_95 P r d p S q ⟨q0, q1⟩]
          exact ⟨y1 q q0 q1, fun j j0 j1 => by omega⟩
        · rw [zBeg_97 P r d p S 97 (by omega) i ⟨i0, i1⟩] at q1; omega
        · rw [z 25 (by omega)] at q1; omega
        · rw [z10] at o1
          rw [u 48 o (by omega) (by omega) (by omega) (by omega) (by omega), fr 48 o (by omega) (by omega) (by omega), hW o o0 (by omega), z10]
          refine isM_congr isM_0 (fun i i0 i1 => ?_)
          rw [zBeg_95 P r d p S (6 * i + o) ⟨by omega, by omega⟩]
          simp
        · rw [z 24 (by omega)] at s1; omega
        · obtain ⟨w1, w2, w3, w4⟩ := z1 o o0 o1
          rw [z 24 (by omega), if_pos rfl, if_pos rfl, u 49 o (by omega) (by omega) (by omega) (by omega) (by omega), fr 49 o (by omega) (by omega) (by omega), y2 52 o (by omega)]
          exact ⟨(c4 o o0 o1).2.2, w2⟩
        · rw [u 32 6 (by omega) (by omega) (by omega) (by omega) (by omega), g6]
          refine isM_congr isM_0 (fun i i0 i1 => ?_)
          rw [zBeg_97 P r d p S 99 (by omega) i ⟨i0, i1⟩]
          simp
      · intro c k hc
        rw [y2 _ _ (by omega), z2 _ _ (by omega) (by omega) (by omega) (by omega), fr _ _ (by omega) (by omega) (by omega), hF _ _ (by omega)]
end RN
