section RO
variable {l : Launch} {G : gG}
theorem c_lineT (t k w : Int) (ht : 0 ≤ t ∧ t < 2) (hk : 0 ≤ k ∧ k < 40) (hw : 0 ≤ w ∧ w < 4) (σ : gS) (Q : Int → gS → Prop) (h : Q (gI σ 5 ((t * 40 + k) * 4 + w)) σ) : eX10_line l G 1 t k w σ Q := by
  have rt : gR t := ⟨by omega, by omega⟩
  refine vX10_line 1 t k w (by decide) rt ⟨by omega, by omega⟩ ⟨by omega, by omega⟩ σ _ (vX10_placeOf 1 t (by decide) rt σ _ ⟨⟨by omega, by omega⟩, fun _ => ⟨by omega, ?_⟩⟩)
  rw [show ((1 : Int) - 1) * 2 + t = t by omega]; exact h
theorem c_lineCountT (t : Int) (ht : 0 ≤ t ∧ t < 2) (σ : gS) (Q : Int → gS → Prop) (h : Q (gI σ 6 t) σ) : eX10_lineCount l G 1 t σ Q := by
  have rt : gR t := ⟨by omega, by omega⟩
  refine vX10_lineCount 1 t (by decide) rt σ _ (vX10_placeOf 1 t (by decide) rt σ _ ⟨⟨by omega, by omega⟩, fun _ => ⟨by omega, ?_⟩⟩)
  rw [show ((1 : Int) - 1) * 2 + t = t by omega]; exact h
/-- a traffic up to n deeds, by the class -/
theorem c_follow (t N : Int) (σ : gS) (hI : tInv σ) (ht : 0 ≤ t ∧ t < gI σ 89 1) (hN : 0 ≤ N ∧ N ≤ 40) (S : RS) (hS : OKD S) (h29 : S 88 29 = 0) (hC : CR σ S) (hM : isM (gI σ 32 6) (fun i => decide (S 99 i = 1))) (Q : Int → gS → Prop)
    (h : ∀ τ, CR τ (zFol (gI σ 89) (618 + 121 * t) N 40 S) → frN σ τ → Q (zFol (gI σ 89) (618 + 121 * t) N 40 S 88 29) τ) : eX8_follow l G t N σ Q := by
  obtain ⟨k1, k5, k6, k7⟩ := tTx0 hI
  have b1 := k1 1 (by omega) (by omega)
  obtain ⟨c6, d0, d40, dd⟩ := k6 t ht.1 ht.2
  have rt : gR t := ⟨by omega, by omega⟩
  have rN : gR N := ⟨by omega, by omega⟩
  generalize hp0 : 618 + 121 * t = p0 at *
  have hD : ∀ k, 0 ≤ k → k < gI σ 89 p0 → tDeed (gI σ 89) (p0 + 1 + 3 * k) := fun k q0 q1 => (dd k q0 q1).2
  refine vX8_follow t N rt rN σ Q (c_lineCountT t (by omega) σ _ (fun _ => ?_))
  rw [c6]
  have L : ∀ (n : Nat) (x5 : Int) (τ : gS) (T : RS), OKD T → T 88 29 = x5 → x5 ≤ N → x5 ≤ gI σ 89 p0 → gI σ 89 p0 ≤ x5 + n → CR τ T → isM (gI τ 32 6) (fun i => decide (T 99 i = 1)) → frN σ τ → zFol (gI σ 89) p0 N n T = zFol (gI σ 89) p0 N 40 S → kX8_follow_15 l G t N (min N (gI σ 89 p0)) x5 τ Q := by
    intro n
    induction n with
    | zero =>
      intro x5 τ T hT e29 h1 h2 h3 hCT hMT hF hz
      have k0 := hT.2.1
      refine vX8_follow_15 t N _ x5 rt rN ⟨by omega, by omega⟩ ⟨by omega, by omega⟩ τ Q ⟨fun _ => ?_, fun e => by omega⟩
      have hz' : T = zFol (gI σ 89) p0 N 40 S := hz
      rw [show min N (gI σ 89 p0) = x5 by omega, ← e29]
      rw [hz'] at hCT ⊢
      exact h τ hCT hF
    | succ n ih =>
      intro x5 τ T hT e29 h1 h2 h3 hCT hMT hF hz
      have k0 := hT.2.1
      have stuck : ¬ (T 88 29 < N ∧ T 88 29 < gI σ 89 p0 ∧ zCanD (gI σ 89 (p0 + 1 + 3 * T 88 29)) (gI σ 89 (p0 + 1 + 3 * T 88 29 + 1)) (gI σ 89 (p0 + 1 + 3 * T 88 29 + 2)) T) → Q x5 τ := fun z => by
        have hz' : T = zFol (gI σ 89) p0 N 40 S := by rw [← hz, zFol_n _ (zStep_n z)]
        rw [← e29]
        rw [hz'] at hCT ⊢
        exact h τ hCT hF
      refine vX8_follow_15 t N _ x5 rt rN ⟨by omega, by omega⟩ ⟨by omega, by omega⟩ τ Q ⟨fun e => ?_, fun e => ?_⟩
      · rw [show min N (gI σ 89 p0) = x5 by omega]
        exact stuck (fun z => by omega)
      · have e1 : x5 < N := by omega
        have e2 : x5 < gI σ 89 p0 := by omega
        obtain ⟨dl, dt⟩ := dd x5 (by omega) e2
        have g5 : ∀ w, 0 ≤ w → w < 3 → gI τ 5 ((t * 40 + x5) * 4 + w) = gI σ 89 (p0 + 1 + 3 * x5 + w) := fun w w0 w1 => by rw [hF 5 _ (by omega)]; exact dl w w0 w1
        refine c_lineT t x5 0 (by omega) (by omega) (by omega) τ _ (fun _ => c_lineT t x5 1 (by omega) (by omega) (by omega) τ _ (fun _ => c_lineT t x5 2 (by omega) (by omega) (by omega) τ _ (fun _ => ?_)))
        rw [g5 0 (by omega) (by omega), g5 1 (by omega) (by omega), g5 2 (by omega) (by omega), Int.add_zero]
        subst e29
        have hSt := zStep_ok (N := N) hT hD
        have hall : zCanD (gI σ 89 (p0 + 1 + 3 * T 88 29)) (gI σ 89 (p0 + 1 + 3 * T 88 29 + 1)) (gI σ 89 (p0 + 1 + 3 * T 88 29 + 2)) T → zStep (gI σ 89) p0 N T = uS (zDo (gI σ 89 (p0 + 1 + 3 * T 88 29)) (gI σ 89 (p0 + 1 + 3 * T 88 29 + 1)) (gI σ 89 (p0 + 1 + 3 * T 88 29 + 2)) T) 88 29 (T 88 29 + 1) := fun z => zStep_y ⟨e1, e2, z⟩
        have go : ∀ υ, zCanD (gI σ 89 (p0 + 1 + 3 * T 88 29)) (gI σ 89 (p0 + 1 + 3 * T 88 29 + 1)) (gI σ 89 (p0 + 1 + 3 * T 88 29 + 2)) T → CR υ (zDo (gI σ 89 (p0 + 1 + 3 * T 88 29)) (gI σ 89 (p0 + 1 + 3 * T 88 29 + 1)) (gI σ 89 (p0 + 1 + 3 * T 88 29 + 2)) T) → isM (gI υ 32 6) (fun i => decide (zDo (gI σ 89 (p0 + 1 + 3 * T 88 29)) (gI σ 89 (p0 + 1 + 3 * T 88 29 + 1)) (gI σ 89 (p0 + 1 + 3 * T 88 29 + 2)) T 99 i = 1)) → frN σ υ → kX8_follow_15 l G t N (min N (gI σ 89 p0)) (T 88 29 + 1) υ Q := by
          intro υ hc uC uM uF
          refine ih (T 88 29 + 1) υ (zStep (gI σ 89) p0 N T) hSt.1 ?_ (by omega) (by omega) (by omega) ?_ ?_ uF hz
          · rw [hall hc, uS_eq]
          · rw [hall hc]; exact CR_29 uC
          · rw [hall hc]; exact isM_congr uM (fun i _ _ => by rw [uS_ne (by omega)])
        have dt' := dt
        have hb := hT.2.2
        unfold tDeed at dt
        generalize hK : gI σ 89 (p0 + 1 + 3 * T 88 29) = kd at *
        generalize hA : gI σ 89 (p0 + 1 + 3 * T 88 29 + 1) = a at *
        generalize hB : gI σ 89 (p0 + 1 + 3 * T 88 29 + 2) = b at *
        have rk : gR kd := ⟨by omega, by omega⟩
        have ra : gR a := ⟨by omega, by omega⟩
        have rb : gR b := ⟨by omega, by omega⟩
        have rmin : gR (min N (gI σ 89 p0)) := ⟨by omega, by omega⟩
        have r29 : gR (T 88 29) := ⟨by omega, by omega⟩
        -- slots
        have SL : ∀ m : Int, 1 ≤ m → m ≤ 9 → kd < 2 → zDo kd a b T = zSlots m.toNat T → kX8_follow_67 l G t N (min N (gI σ 89 p0)) (T 88 29) kd a b m 0 τ Q := by
          intro m m1 m9 hk2 hm
          refine gloopI (α := gS) 0 m (fun j υ => j ≤ m ∧ CR υ (zSlots j.toNat T) ∧ (1 ≤ j → gI υ 32 6 = 0) ∧ frN σ υ) (fun j υ => kX8_follow_67 l G t N (min N (gI σ 89 p0)) (T 88 29) kd a b m j υ Q) ?_ ?_ 0 τ (by omega) ⟨by omega, hCT, fun e => by omega, hF⟩
          · rintro j υ j0 j1 ⟨z0, z1, z2, z3⟩ ih2
            obtain ⟨a1, a2, a3, a4⟩ := zSlots_ok j.toNat T hT.1
            refine vX8_follow_67 t N _ _ kd a b m j rt rN rmin r29 rk ra rb ⟨by omega, by omega⟩ ⟨by omega, by omega⟩ υ Q ⟨fun e => by omega, fun _ => ?_⟩
            refine c_passSlotA υ _ z1 a1 (by rw [a2 25 (by omega) (by omega) (by omega)]; omega) (by omega) _ (fun w wC w6 wF => ih2 w ⟨by omega, ?_, fun _ => w6, z3.trans wF⟩)
            rw [show (j + 1).toNat = j.toNat + 1 by omega]; exact wC
          · rintro j υ j0 ⟨z0, z1, z2, z3⟩
            have hj : j = m := by omega
            subst hj
            refine vX8_follow_67 t N _ _ kd a b j j rt rN rmin r29 rk ra rb ⟨by omega, by omega⟩ ⟨by omega, by omega⟩ υ Q ⟨fun _ => ⟨fun _ => go υ (Or.inl hk2) (by rw [hm]; exact z1) ?_ z3, fun e => by omega⟩, fun e => by omega⟩
            rw [z2 (by omega)]
            refine isM_congr isM_0 (fun i i0 i1 => ?_)
            obtain ⟨w, ew⟩ : ∃ w : Nat, j.toNat = w + 1 := ⟨j.toNat - 1, by omega⟩
            have e99 : zDo kd a b T 99 i = 0 := by
              rw [hm, ew]
              exact (zSlot_f (zSlots_ok w T hT.1).1.1).2.2.2.2.2.2.2 i i0 i1
            rw [e99]; simp
        refine vX8_slotsOf kd a rk ra τ _ ⟨fun e0 v ev _ => ?_, fun e0 _ => ?_⟩
        · by_cases ek : kd = 1
          · rw [if_pos ek] at ev
            rw [ev]
            refine SL a (by omega) (by omega) (by omega) ?_
            unfold zDo
            rw [if_neg e0, if_pos ek]
          · rw [if_neg ek] at ev
            rw [ev]
            refine vX8_follow_67 t N _ _ kd a b 0 0 rt rN rmin r29 rk ra rb (by decide) (by decide) τ Q ⟨fun _ => ⟨fun e => absurd rfl e, fun _ => ?_⟩, fun e => by omega⟩
            have hzd : zDo kd a b T = zBring kd a b T := by unfold zDo; rw [if_neg e0, if_neg ek]
            refine c_bring kd a b (by omega) ra (by omega) (by omega) τ T hCT hT.1.1 hMT (by omega) (by omega) (by omega) _ (fun hno _ => ⟨fun e => absurd rfl e, fun _ => stuck (fun z => ?_)⟩) (fun hy υ uC uM uF _ => ⟨fun _ => go υ (Or.inr hy) (by rw [hzd]; exact uC) (by rw [hzd]; exact uM) (hF.trans uF), fun e => absurd e (by decide)⟩)
            rcases z.2.2 with y | y
            · omega
            · exact hno y
        · refine SL 1 (by omega) (by omega) (by omega) ?_
          unfold zDo
          rw [if_pos e0]; rfl
  exact L 40 0 σ S hS h29 (by omega) (by omega) (by omega) hC hM frN.rfl' rfl
theorem c_begin0 (x P r d p : Int) (hx : 0 ≤ x ∧ x < 2) (hP : 1 ≤ P ∧ P ≤ 6) (hr : 1 ≤ r ∧ r ≤ 4) (hd : 1 ≤ d ∧ d ≤ 9) (hp : 0 ≤ p ∧ p ≤ 5) (σ : gS) (h0 : gI σ 4 (x * 4 + 0) = P) (h1 : gI σ 4 (x * 4 + 1) = r) (h2 : gI σ 4 (x * 4 + 2) = d) (h3 : gI σ 4 (x * 4 + 3) = p) (Q : gS → Prop)
    (h : ∀ τ, (∀ S, CR τ (zBeg P r d p S) ∧ isM (gI τ 32 6) (fun i => decide (zBeg P r d p S 99 i = 1))) → frN σ τ → Q τ) : eX8_begin l G x σ Q := by
  have rx : gR x := ⟨by omega, by omega⟩
  refine vX8_begin x rx σ Q (vX10_bar x 1 rx (by decide) σ _ ⟨by omega, fun _ => vX10_bar x 3 rx (by decide) σ _ ⟨by omega, fun _ => ?_⟩⟩)
  rw [h1, h3]
  exact c_beginR x P r d p hx hP hr hd hp σ h0 h2 _ h
/-- the bars of a crossbar, told -/
theorem tBars {σ : gS} (hI : tInv σ) {x : Int} (h0 : 0 ≤ x) (h1 : x < gI σ 89 0) :
    (gI σ 4 (x * 4 + 0) = gI σ 89 (610 + 4 * x) ∧ gI σ 4 (x * 4 + 1) = gI σ 89 (610 + 4 * x + 1) ∧ gI σ 4 (x * 4 + 2) = gI σ 89 (610 + 4 * x + 2) ∧ gI σ 4 (x * 4 + 3) = gI σ 89 (610 + 4 * x + 3)) ∧ (1 ≤ gI σ 89 (610 + 4 * x) ∧ gI σ 89 (610 + 4 * x) ≤ 6) ∧ (1 ≤ gI σ 89 (610 + 4 * x + 1) ∧ gI σ 89 (610 + 4 * x + 1) ≤ 4) ∧ (1 ≤ gI σ 89 (610 + 4 * x + 2) ∧ gI σ 89 (610 + 4 * x + 2) ≤ 9) ∧ (0 ≤ gI σ 89 (610 + 4 * x + 3) ∧ gI σ 89 (610 + 4 * x + 3) ≤ 5) ∧ x < 2 := by
  obtain ⟨k1, k5, k6, k7⟩ := tTx0 hI
  have b0 := k1 0 (by omega) (by omega)
  obtain ⟨kb, kt⟩ := k5 x h0 h1
  unfold tBar at kt
  have w0 := kb 0 (by omega) (by omega)
  rw [Int.add_zero (610 + 4 * x)] at w0
  exact ⟨⟨w0, kb 1 (by omega) (by omega), kb 2 (by omega) (by omega), kb 3 (by omega) (by omega)⟩, by omega, by omega, by omega, by omega, by omega⟩
/-- the state of a run, by what is told -/
noncomputable def zB0 (σ : gS) (x1 : Int) (S : RS) : RS := zBeg (gI σ 89 (610 + 4 * x1)) (gI σ 89 (610 + 4 * x1 + 1)) (gI σ 89 (610 + 4 * x1 + 2)) (gI σ 89 (610 + 4 * x1 + 3)) S
noncomputable def zRun (σ : gS) (x1 x2 N : Int) : RS := zFol (gI σ 89) (618 + 121 * x2) N 40 (zB0 σ x1 (uS (pS σ) 88 14 (618 + 121 * x2)))
theorem zB0_d {σ : gS} (hI : tInv σ) {x : Int} (h0 : 0 ≤ x) (h1 : x < gI σ 89 0) (S : RS) : OKD (zB0 σ x S) := by
  obtain ⟨_, a, b, c, d, _⟩ := tBars hI h0 h1
  exact OKD_beg a b c d S
theorem tTraf {σ : gS} (hI : tInv σ) {t : Int} (h0 : 0 ≤ t) (h1 : t < gI σ 89 1) : t < 2 ∧ 0 ≤ gI σ 89 (618 + 121 * t) ∧ gI σ 89 (618 + 121 * t) ≤ 40 ∧ ∀ k, 0 ≤ k → k < gI σ 89 (618 + 121 * t) → tDeed (gI σ 89) (618 + 121 * t + 1 + 3 * k) := by
  obtain ⟨k1, k5, k6, k7⟩ := tTx0 hI
  have b1 := k1 1 (by omega) (by omega)
  obtain ⟨c6, d0, d40, dd⟩ := k6 t h0 h1
  exact ⟨by omega, d0, d40, fun k q0 q1 => (dd k q0 q1).2⟩
theorem zRun_ok {σ : gS} (hI : tInv σ) {x1 x2 N : Int} (h0 : 0 ≤ x1) (h1 : x1 < gI σ 89 0) (h2 : 0 ≤ x2) (h3 : x2 < gI σ 89 1) (hN : 0 ≤ N) : OKD (zRun σ x1 x2 N) ∧ zRun σ x1 x2 N 88 29 ≤ N ∧ zRun σ x1 x2 N 88 29 ≤ gI σ 89 (618 + 121 * x2) ∧ zRun σ x1 x2 N 88 29 ≤ 40 ∧ zRun σ x1 x2 N 88 10 = gI σ 89 (610 + 4 * x1) ∧ zRun σ x1 x2 N 88 11 = gI σ 89 (610 + 4 * x1 + 1) ∧ zRun σ x1 x2 N 88 14 = 618 + 121 * x2 := by
  obtain ⟨t1, t2, t3, t4⟩ := tTraf hI h2 h3
  obtain ⟨a1, a2, a3, a4⟩ := zFol_ok (N := N) t4 40 (zB0_d hI h0 h1 (uS (pS σ) 88 14 (618 + 121 * x2)))
  have z29 : zB0 σ x1 (uS (pS σ) 88 14 (618 + 121 * x2)) 88 29 = 0 := zBeg_0 _ _ _ _ _ 29 (by omega)
  have b := a4 (by omega) (by omega)
  exact ⟨a1, b.1, b.2, Int.le_trans b.2 t3, a2 10 (by omega), a2 11 (by omega), (a2 14 (by omega)).trans ((zBeg_88 _ _ _ _ _ 14 (by omega)).trans uS_eq)⟩
/-- the run stands at its beginning, by the class -/
theorem c_begins11 (x1 x2 : Int) (r1 : gR x1) (r2 : gR x2) (σ : gS) (hI : tInv σ) (Q : Int → gS → Prop) (h0 : ¬ (0 ≤ x1 ∧ x1 < gI σ 89 0 ∧ 0 ≤ x2 ∧ x2 < gI σ 89 1) → Q 0 σ)
    (h1 : 0 ≤ x1 → x1 < gI σ 89 0 → 0 ≤ x2 → x2 < gI σ 89 1 → ∀ τ, (∀ S, CR τ (zB0 σ x1 S) ∧ isM (gI τ 32 6) (fun i => decide (zB0 σ x1 S 99 i = 1))) → frN σ τ → Q 1 τ) : eX11_begins l G x1 x2 σ Q := by
  obtain ⟨k1, k5, k6, k7⟩ := tTx0 hI
  have b0 := k1 0 (by omega) (by omega)
  have b1 := k1 1 (by omega) (by omega)
  refine vX11_begins x1 x2 r1 r2 σ Q (c_has 0 x1 (by decide) r1 σ _ (fun a ha _ => ⟨fun e => h0 (by omega), fun e => c_has 1 x2 (by decide) r2 σ _ (fun c hc _ => ⟨fun e2 => ?_, fun e2 => h0 (by omega)⟩)⟩))
  obtain ⟨⟨w0, w1, w2, w3⟩, t1, t2, t3, t4, t5⟩ := tBars hI (x := x1) (by omega) (by omega)
  exact c_begin0 x1 _ _ _ _ (by omega) t1 t2 t3 t4 σ w0 w1 w2 w3 _ (fun τ hτ fτ => h1 (by omega) (by omega) (by omega) (by omega) τ hτ fτ)
/-- the run up to n deeds, by the class -/
theorem c_followX (x1 x2 N : Int) (σ0 σ : gS) (hI : tInv σ0) (h0 : 0 ≤ x1) (h1 : x1 < gI σ0 89 0) (h2 : 0 ≤ x2) (h3 : x2 < gI σ0 89 1) (hN : 0 ≤ N ∧ N ≤ 40) (hS : ∀ S, CR σ (zB0 σ0 x1 S) ∧ isM (gI σ 32 6) (fun i => decide (zB0 σ0 x1 S 99 i = 1))) (hF : frN σ0 σ) (Q : Int → gS → Prop)
    (h : ∀ τ, CR τ (zRun σ0 x1 x2 N) → frN σ0 τ → Q (zRun σ0 x1 x2 N 88 29) τ) : eX8_follow l G x2 N σ Q := by
  have e89 : gI σ 89 = gI σ0 89 := funext (fun i => hF 89 i (by omega))
  have hI' : tInv σ := tInv.same hF.c.same hI
  refine c_follow x2 N σ hI' ⟨h2, by rw [e89]; exact h3⟩ hN _ (zB0_d hI h0 h1 (uS (pS σ0) 88 14 (618 + 121 * x2))) (zBeg_0 _ _ _ _ _ 29 (by omega)) (hS _).1 (hS _).2 Q (fun τ tC tF => ?_)
  rw [e89] at tC ⊢
  exact h τ tC (hF.trans tF)
end RO
