theorem gdiv_pos (a b : Int) (ha : 0 ≤ a ∧ a < 2147483648) (hb : 0 < b ∧ b < 2147483648) : gdiv a b = a / b := by
  have ra : gR a := ⟨by omega, by omega⟩
  have rb : gR b := ⟨by omega, by omega⟩
  unfold gdiv
  rw [Int32.toInt_div, i32_toInt ra, i32_toInt rb, Int.tdiv_eq_ediv_of_nonneg ha.1, Int.bmod_def]
  have h2 : 0 ≤ a / b := Int.ediv_nonneg ha.1 (by omega)
  have h3 : a / b ≤ a := Int.ediv_le_self b ha.1
  rw [Int.emod_eq_of_lt h2 (by omega), if_pos (by omega)]
theorem zBeg_congr {P r d p : Int} {S T : RS} (h : ∀ c i, ¬ (c = 88 ∧ 10 ≤ i ∧ i ≤ 13) → S c i = T c i) : zBeg P r d p S = zBeg P r d p T := by
  funext c i
  by_cases z : c = 88 ∧ 10 ≤ i ∧ i ≤ 13
  · obtain ⟨rfl, z1, z2⟩ := z
    have : i = 10 ∨ i = 11 ∨ i = 12 ∨ i = 13 := by omega
    rcases this with rfl | rfl | rfl | rfl <;> rfl
  · unfold zBeg; rw [h c i z]
/-- the reference behind its first questions -/
def RC (σ0 : gS) (x1 : Int) (σ : gS) : Prop :=
  gI σ 88 10 = gI σ0 89 (610 + 4 * x1) ∧ gI σ 88 11 = gI σ0 89 (610 + 4 * x1 + 1) ∧ gI σ 88 12 = gI σ0 89 (610 + 4 * x1 + 2) ∧ gI σ 88 13 = gI σ0 89 (610 + 4 * x1 + 3) ∧ (∀ c i, okC c i → ¬ (c = 88 ∧ 10 ≤ i ∧ i ≤ 13) → gI σ c i = gI σ0 c i) ∧ tSame σ0 σ
def RG (σ0 : gS) (x1 x2 : Int) (σ : gS) : Prop :=
  gI σ 88 10 = gI σ0 89 (610 + 4 * x1) ∧ gI σ 88 11 = gI σ0 89 (610 + 4 * x1 + 1) ∧ gI σ 88 12 = gI σ0 89 (610 + 4 * x1 + 2) ∧ gI σ 88 13 = gI σ0 89 (610 + 4 * x1 + 3) ∧ gI σ 88 14 = 618 + 121 * x2 ∧ (∀ c i, okC c i → ¬ (c = 88 ∧ 10 ≤ i ∧ i ≤ 14) → gI σ c i = gI σ0 c i) ∧ tSame σ0 σ
theorem tSame.q {σ τ υ : gS} (h : tSame σ τ) (k : frQ τ υ) : tSame σ υ := h.trans k.same
/-- what is asked of a state -/
def zTell (S : RS) (w : Int) : Int :=
  if w < 10 then (if w = 0 then S 88 24 else if w = 1 then S 88 25 else if w = 2 then S 88 26 else if w = 3 then S 88 27 else if w = 4 then S 88 28 else if w = 5 then S 88 23 else -2)
  else if S 88 10 ≤ w % 10 then -2
  else if 100 ≤ w then (if S 88 10 ≤ w / 10 - 10 then -2 else S 95 (6 * (w / 10 - 10) + w % 10))
  else if w / 10 = 1 then S 93 (w % 10) else if w / 10 = 2 then S 92 (w % 10) else if w / 10 = 3 then S 97 (w % 10) else if w / 10 = 4 then zLeft S (w % 10) else if w / 10 = 5 then S 98 (w % 10)
  else if w / 10 = 6 then (if S 88 24 = 0 then -1 else S 109 (6 * (S 88 24 - 1) + w % 10)) else if w / 10 = 7 then (if S 88 24 = 0 then -1 else S 110 (6 * (S 88 24 - 1) + w % 10)) else -2
section RP
variable {l : Launch} {G : gG}
theorem c_isCrossbarX (x1 : Int) (r1 : gR x1) (σ0 τ : gS) (hI : tInv σ0) (hF : frC σ0 τ) (Q : Int → gS → Prop) (h0 : ¬ (0 ≤ x1 ∧ x1 < gI σ0 89 0) → Q 0 τ) (h1 : 0 ≤ x1 → x1 < gI σ0 89 0 → ∀ υ, RC σ0 x1 υ → Q 1 υ) : eX12_isCrossbar l G x1 τ Q := by
  have e89 : ∀ i, gI τ 89 i = gI σ0 89 i := fun i => hF.2 89 (by omega) i
  refine c_isCrossbar x1 r1 τ (tInv.same hF.same hI) Q (fun e => h0 (by rw [e89] at e; exact e)) (fun e0 e1 υ u10 u11 u12 u13 uf => h1 e0 (by rw [e89] at e1; exact e1) υ ⟨by rw [u10, e89], by rw [u11, e89], by rw [u12, e89], by rw [u13, e89], fun c i hc hn => ?_, ?_⟩)
  · rw [uf c i hn]; exact hF.2 c (by unfold okC at hc; omega) i
  · exact hF.same.trans ⟨fun c hc i => uf c i (by omega), fun i => uf 89 i (by omega), fun i => uf 90 i (by omega)⟩
theorem c_isTrafficX (x1 x2 : Int) (r2 : gR x2) (σ0 σ : gS) (hI : tInv σ0) (hR : RC σ0 x1 σ) (Q : Int → gS → Prop) (h0 : ¬ (0 ≤ x2 ∧ x2 < gI σ0 89 1) → Q 0 σ) (h1 : 0 ≤ x2 → x2 < gI σ0 89 1 → ∀ υ, RG σ0 x1 x2 υ → Q 1 υ) : eX12_isTraffic l G x2 σ Q := by
  obtain ⟨a1, a2, a3, a4, a5, a6⟩ := hR
  have hI' : tInv σ := tInv.same a6 hI
  obtain ⟨k1, k5, k6, k7⟩ := tTx0 hI'
  have b1 := k1 1 (by omega) (by omega)
  have e89 : gI σ 89 1 = gI σ0 89 1 := a6.2.1 1
  refine vX12_isTraffic x2 r2 σ _ (c_isOf 1 x2 (by decide) r2 σ (by decide) b1.2 _ (fun r hr _ => ⟨fun e => ?_, fun e => h0 (by omega)⟩))
  refine c_placeOf 1 x2 (by decide) r2 (by omega) σ _ (fun _ υ eu => h1 (by omega) (by omega) υ ?_)
  rw [if_neg (by decide), if_pos rfl] at eu
  refine ⟨by rw [eu, sI_nei (by omega)]; exact a1, by rw [eu, sI_nei (by omega)]; exact a2, by rw [eu, sI_nei (by omega)]; exact a3, by rw [eu, sI_nei (by omega)]; exact a4, by rw [eu, sI_eq], fun c i hc hn => ?_, ?_⟩
  · rw [eu, sI_at, if_neg (by omega)]; exact a5 c i hc (by omega)
  · rw [eu]; exact a6.trans (tSame.set (by omega) (by omega) (by omega))
/-- the run up to n deeds, by the reference -/
theorem c_goesX (x1 x2 N : Int) (rN : gR N) (σ0 σ : gS) (hI : tInv σ0) (h0 : 0 ≤ x1) (h1 : x1 < gI σ0 89 0) (h2 : 0 ≤ x2) (h3 : x2 < gI σ0 89 1) (hR : RG σ0 x1 x2 σ) (Q : gS → Prop) (h : ∀ τ, pS τ = zRun σ0 x1 x2 N → tSame σ0 τ → frQ σ τ → Q τ) : eX12_goes l G N σ Q := by
  obtain ⟨a1, a2, a3, a4, a5, a6, a7⟩ := hR
  obtain ⟨_, t1, t2, t3, t4, t5⟩ := tBars hI h0 h1
  obtain ⟨u1, u2, u3, u4⟩ := tTraf hI h2 h3
  have e89 : gI σ 89 = gI σ0 89 := funext a7.2.1
  refine c_goes N _ _ _ _ _ rN t1 t2 t3 t4 σ a1 a2 a3 a4 a5 (by omega) (by rw [e89]; omega) (by rw [e89]; exact u4) Q (fun τ pt ft => h τ ?_ (a7.q ft) ft)
  rw [pt, e89]
  unfold zRun zB0
  congr 1
  refine zBeg_congr (fun c i hn => ?_)
  by_cases hc : okC c i
  · by_cases z : c = 88 ∧ i = 14
    · obtain ⟨rfl, rfl⟩ := z
      rw [uS_eq, pS_y hc]; exact a5
    · rw [uS_at, if_neg z, pS_y hc, pS_y hc]; exact a6 c i hc (by omega)
  · rw [uS_at, if_neg (fun z => hc (by rw [z.1, z.2]; unfold okC; omega)), pS_n hc, pS_n hc]
theorem c_tellR (w : Int) (rw0 : gR w) (τ : gS) (S : RS) (hC : CR τ S) (hS : OKS S) (Q : Int → gS → Prop) (h : Q (zTell S w) τ) : eX8_tell l G w τ Q := by
  obtain ⟨⟨p1, p2, p3, p4⟩, ⟨s1, s2, s3, s4, s5, s6⟩, d3, d4, d5, d6, d7, d8⟩ := hC
  have hP := hS.1
  refine vX8_tell w rw0 τ Q ⟨fun e => ?_, fun e => ?_⟩
  · unfold zTell at h
    rw [grem_pos w 10 (by have := rw0.2; omega) (by decide), gdiv_pos w 10 (by have := rw0.2; omega) (by decide), p1]
    have q0 : 0 ≤ w % 10 := by omega
    have q1 : w % 10 < 10 := by omega
    have q2 : 1 ≤ w / 10 := by omega
    have q3 : (100 ≤ w ↔ 10 ≤ w / 10) := by omega
    have q4 : w / 10 ≤ w := by omega
    have q5 := rw0.2
    rw [if_neg (by omega)] at h
    generalize w % 10 = m at *
    generalize w / 10 = q at *
    refine ⟨fun e1 => ⟨fun e2 => ?_, fun e2 => ?_⟩, fun e1 => ?_⟩
    · rw [if_neg (by omega), if_neg (by omega)] at h
      obtain ⟨m1, m2, m3, m4, m5⟩ := d3 m q0 (by omega)
      obtain ⟨n1, n2⟩ := d8.2 m q0 (by omega)
      refine ⟨fun z => ⟨by omega, ?_⟩, fun z => ⟨by omega, ?_⟩, fun z => ⟨by omega, ?_⟩, fun z => ⟨by omega, ?_⟩, fun z => ⟨by omega, ?_⟩, fun z => ⟨by omega, ?_⟩, fun z => ⟨by omega, ?_⟩, fun z => ?_⟩
      · rw [if_pos z] at h; rw [m4]; exact h
      · rw [if_neg (by omega), if_pos z] at h; rw [m3]; exact h
      · rw [if_neg (by omega), if_neg (by omega), if_pos z] at h; rw [m2]; exact h
      · rw [if_neg (by omega), if_neg (by omega), if_neg (by omega), if_pos z] at h; rw [m5]; exact h
      · rw [if_neg (by omega), if_neg (by omega), if_neg (by omega), if_neg (by omega), if_pos z] at h; rw [m1]; exact h
      · rw [if_neg (by omega), if_neg (by omega), if_neg (by omega), if_neg (by omega), if_neg (by omega), if_pos z] at h; rw [n1]; exact h
      · rw [if_neg (by omega), if_neg (by omega), if_neg (by omega), if_neg (by omega), if_neg (by omega), if_neg (by omega), if_pos z] at h; rw [n2]; exact h
      · rw [if_neg (by omega), if_neg (by omega), if_neg (by omega), if_neg (by omega), if_neg (by omega), if_neg (by omega), if_neg (by omega)] at h; exact h
    · rw [if_neg (by omega), if_pos e2] at h
      refine ⟨⟨⟨by omega, by omega⟩, fun z => ⟨by omega, trivial⟩, fun _ => trivial⟩, fun v ev => ?_⟩
      by_cases z : q - 10 < S 88 10
      · rw [if_pos z, show (q - 10) * 6 + m = 6 * (q - 10) + m by omega, (d4 (6 * (q - 10) + m) (by omega) (by omega)).1] at ev
        rw [if_neg (by omega)] at h
        rw [ev]; exact h
      · rw [if_neg z] at ev
        rw [if_pos (by omega)] at h
        rw [ev]; exact h
    · rw [if_pos e1] at h; exact h
  · unfold zTell at h
    rw [if_pos e] at h
    refine vX8_tellSum w rw0 τ _ ⟨fun z _ => ?_, fun z _ => ?_, fun z _ => ?_, fun z _ => ?_, fun z _ => ?_, fun z _ => ?_, fun z _ => ?_⟩
    · rw [if_pos z] at h; rw [s1]; exact h
    · rw [if_neg (by omega), if_pos z] at h; rw [s2]; exact h
    · rw [if_neg (by omega), if_neg (by omega), if_pos z] at h; rw [s3]; exact h
    · rw [if_neg (by omega), if_neg (by omega), if_neg (by omega), if_pos z] at h; rw [s4]; exact h
    · rw [if_neg (by omega), if_neg (by omega), if_neg (by omega), if_neg (by omega), if_pos z] at h; rw [s5]; exact h
    · rw [if_neg (by omega), if_neg (by omega), if_neg (by omega), if_neg (by omega), if_neg (by omega), if_pos z] at h; rw [s6]; exact h
    · rw [if_neg (by omega), if_neg (by omega), if_neg (by omega), if_neg (by omega), if_neg (by omega), if_neg (by omega)] at h; exact h
theorem c_nowOf (w : Int) (rw0 : gR w) (hw : 0 ≤ w) (σ : gS) (hS : OKS (pS σ)) (h25 : pS σ 88 25 ≤ 400) (h24 : pS σ 88 24 ≤ 420) (Q : Int → gS → Prop) (h : Q (zTell (pS σ) w) σ) : eX12_nowOf l G w σ Q := by
  have hP := hS.1
  have h0 := hS.2.1
  have a : ∀ k, 10 ≤ k ∧ k ≤ 14 ∨ 23 ≤ k ∧ k ≤ 29 → gI σ 88 k = pS σ 88 k := fun k hk => pS_at (by unfold okC; omega)
  unfold zTell at h
  refine vX12_nowOf w rw0 σ Q ⟨fun z => ?_, fun z => ?_, fun z => ?_, fun z => ?_, fun z => ?_, fun z => ?_, fun z => ⟨fun e => ?_, fun e => ?_⟩⟩
  · rw [if_pos (by omega), if_pos z] at h; rw [a 24 (by omega)]; exact h
  · rw [if_pos (by omega), if_neg (by omega), if_pos z] at h; rw [a 25 (by omega)]; exact h
  · rw [if_pos (by omega), if_neg (by omega), if_neg (by omega), if_pos z] at h; rw [a 26 (by omega)]; exact h
  · rw [if_pos (by omega), if_neg (by omega), if_neg (by omega), if_neg (by omega), if_pos z] at h; rw [a 27 (by omega)]; exact h
  · rw [if_pos (by omega), if_neg (by omega), if_neg (by omega), if_neg (by omega), if_neg (by omega), if_pos z] at h; rw [a 28 (by omega)]; exact h
  · rw [if_pos (by omega), if_neg (by omega), if_neg (by omega), if_neg (by omega), if_neg (by omega), if_neg (by omega), if_pos z] at h; rw [a 23 (by omega)]; exact h
  · rw [if_pos (by omega), if_neg (by omega), if_neg (by omega), if_neg (by omega), if_neg (by omega), if_neg (by omega), if_neg (by omega)] at h; exact h
  · rw [if_neg (by omega)] at h
    rw [grem_pos w 10 (by have := rw0.2; omega) (by decide), gdiv_pos w 10 (by have := rw0.2; omega) (by decide)]
    have q0 : 0 ≤ w % 10 := by omega
    have q1 : w % 10 < 10 := by omega
    have q2 : 1 ≤ w / 10 := by omega
    have q3 : (100 ≤ w ↔ 10 ≤ w / 10) := by omega
    have q4 : w / 10 ≤ w := by omega
    have q5 := rw0.2
    generalize w % 10 = m at *
    generalize w / 10 = q at *
    have a10 := a 10 (by omega)
    refine c_isPort m ⟨by omega, by omega⟩ σ (by rw [a10]; omega) _ (fun r hr _ => ⟨fun e1 => ⟨fun e2 => ?_, fun e2 => ?_⟩, fun e1 => ?_⟩)
    · rw [a10] at hr
      rw [if_neg (by omega), if_neg (by omega)] at h
      rw [a 24 (by omega)]
      refine ⟨fun z => ⟨by omega, ?_⟩, fun z => ⟨by omega, ?_⟩, fun z => ⟨by omega, ?_⟩, fun z => ?_, fun z => ⟨by omega, ?_⟩, fun z => ⟨⟨fun _ => ⟨by omega, trivial⟩, fun _ => trivial⟩, fun v ev => ?_⟩, fun z => ⟨⟨fun _ => ⟨by omega, trivial⟩, fun _ => trivial⟩, fun v ev => ?_⟩, fun z => ?_⟩
      · rw [if_pos z] at h; rw [pS_at (by unfold okC; omega)]; exact h
      · rw [if_neg (by omega), if_pos z] at h; rw [pS_at (by unfold okC; omega)]; exact h
      · rw [if_neg (by omega), if_neg (by omega), if_pos z] at h; rw [pS_at (by unfold okC; omega)]; exact h
      · rw [if_neg (by omega), if_neg (by omega), if_neg (by omega), if_pos z] at h
        exact c_leftOf m (by omega) σ hS (by omega) _ (fun _ => h)
      · rw [if_neg (by omega), if_neg (by omega), if_neg (by omega), if_neg (by omega), if_pos z] at h; rw [pS_at (by unfold okC; omega)]; exact h
      · rw [if_neg (by omega), if_neg (by omega), if_neg (by omega), if_neg (by omega), if_neg (by omega), if_pos z] at h
        rw [ev]
        by_cases y : pS σ 88 24 = 0
        · rw [if_pos y] at h ⊢; exact h
        · rw [if_neg y] at h ⊢
          rw [pS_at (by unfold okC; omega), show 6 * pS σ 88 24 - 6 + m = 6 * (pS σ 88 24 - 1) + m by omega]; exact h
      · rw [if_neg (by omega), if_neg (by omega), if_neg (by omega), if_neg (by omega), if_neg (by omega), if_neg (by omega), if_pos z] at h
        rw [ev]
        by_cases y : pS σ 88 24 = 0
        · rw [if_pos y] at h ⊢; exact h
        · rw [if_neg y] at h ⊢
          rw [pS_at (by unfold okC; omega), show 6 * pS σ 88 24 - 6 + m = 6 * (pS σ 88 24 - 1) + m by omega]; exact h
      · rw [if_neg (by omega), if_neg (by omega), if_neg (by omega), if_neg (by omega), if_neg (by omega), if_neg (by omega), if_neg (by omega)] at h; exact h
    · rw [a10] at hr
      rw [if_neg (by omega), if_pos e2] at h
      refine c_isPort (q - 10) ⟨by omega, by omega⟩ σ (by rw [a10]; omega) _ (fun v hv _ => ⟨fun e3 => ?_, fun e3 => ?_⟩)
      · rw [a10] at hv
        rw [if_pos (by omega)] at h; exact h
      · rw [a10] at hv
        rw [if_neg (by omega)] at h
        refine c_at (q - 10) m (by omega) (by omega) σ _ (fun _ => ⟨by omega, ?_⟩)
        rw [pS_at (by unfold okC; omega)]; exact h
    · rw [a10] at hr
      rw [if_pos (by omega)] at h; exact h
theorem p_stop (x1 x2 : Int) (r1 : gR x1) (r2 : gR x2) (σ : gS) (hI : tInv σ) : eX11_stop l G x1 x2 σ (fun r τ => gR r → eX12_stop l G x1 x2 τ (fun r' υ => gR r' → r = r' ∧ tInv υ)) := by
  have B : ∀ (v : Int) (τ : gS), frN σ τ → (¬ (0 ≤ x1 ∧ x1 < gI σ 89 0 ∧ 0 ≤ x2 ∧ x2 < gI σ 89 1) → v = -1) → (0 ≤ x1 ∧ x1 < gI σ 89 0 ∧ 0 ≤ x2 ∧ x2 < gI σ 89 1 → v = zRun σ x1 x2 40 88 29) → eX12_stop l G x1 x2 τ (fun r' υ => gR r' → v = r' ∧ tInv υ) := by
    intro v τ hF hn hy
    refine vX12_stop x1 x2 r1 r2 τ _ (c_isCrossbarX x1 r1 σ τ hI hF.c _ (fun e _ => ⟨fun _ _ => ⟨hn (by omega), tInv.same hF.c.same hI⟩, fun e => absurd rfl e⟩) (fun e0 e1 τ1 R1 _ => ⟨fun e => absurd e (by decide), fun _ => ?_⟩))
    refine c_isTrafficX x1 x2 r2 σ τ1 hI R1 _ (fun e _ => ⟨fun e => absurd rfl e, fun _ _ => ⟨hn (by omega), tInv.same R1.2.2.2.2.2 hI⟩⟩) (fun e2 e3 τ2 R2 _ => ⟨fun _ => ?_, fun e => absurd e (by decide)⟩)
    refine c_goesX x1 x2 40 (by decide) σ τ2 hI e0 e1 e2 e3 R2 _ (fun υ pu su _ _ => ⟨?_, tInv.same su hI⟩)
    rw [pS_at (by unfold okC; omega), pu]; exact hy (by omega)
  refine vX11_stop x1 x2 r1 r2 σ _ (c_begins11 x1 x2 r1 r2 σ hI _ (fun e _ => ⟨fun _ _ => B _ σ frN.rfl' (fun _ => rfl) (fun z => absurd z e), fun e => absurd rfl e⟩) (fun e0 e1 e2 e3 τ hτ fτ _ => ⟨fun e => absurd e (by decide), fun _ => ?_⟩))
  exact c_followX x1 x2 40 σ τ hI e0 e1 e2 e3 (by decide) hτ fτ _ (fun υ uC uF _ _ => B _ υ uF (fun z => by omega) (fun _ => rfl))
theorem p_state (x1 x2 x3 x4 : Int) (r1 : gR x1) (r2 : gR x2) (r3 : gR x3) (r4 : gR x4) (σ : gS) (hI : tInv σ) : eX11_state l G x1 x2 x3 x4 σ (fun r τ => gR r → eX12_state l G x1 x2 x3 x4 τ (fun r' υ => gR r' → r = r' ∧ tInv υ)) := by
  have B : ∀ (v : Int) (τ : gS), frN σ τ → (¬ (0 ≤ x1 ∧ x1 < gI σ 89 0 ∧ 0 ≤ x2 ∧ x2 < gI σ 89 1 ∧ 0 ≤ x3 ∧ zRun σ x1 x2 x3 88 29 = x3) → v = -2) → (0 ≤ x1 ∧ x1 < gI σ 89 0 ∧ 0 ≤ x2 ∧ x2 < gI σ 89 1 ∧ 0 ≤ x3 ∧ zRun σ x1 x2 x3 88 29 = x3 → v = zTell (zRun σ x1 x2 x3) x4) → eX12_state l G x1 x2 x3 x4 τ (fun r' υ => gR r' → v = r' ∧ tInv υ) := by
    intro v τ hF hn hy
    refine vX12_state x1 x2 x3 x4 r1 r2 r3 r4 τ _ (vX12_isState x1 x2 x3 r1 r2 r3 τ _ (c_isCrossbarX x1 r1 σ τ hI hF.c _ (fun e _ => ⟨fun _ _ => ⟨fun _ _ => ⟨hn (by omega), tInv.same hF.c.same hI⟩, fun e => absurd rfl e⟩, fun e => absurd rfl e⟩) (fun e0 e1 τ1 R1 _ => ⟨fun e => absurd e (by decide), fun _ => ?_⟩)))
    refine c_isTrafficX x1 x2 r2 σ τ1 hI R1 _ (fun e _ => ⟨fun _ _ => ⟨fun _ _ => ⟨hn (by omega), tInv.same R1.2.2.2.2.2 hI⟩, fun e => absurd rfl e⟩, fun e => absurd rfl e⟩) (fun e2 e3 τ2 R2 _ => ⟨fun e => absurd e (by decide), fun _ => ⟨fun e4 => ?_, fun e4 _ => ⟨fun _ _ => ⟨hn (by omega), tInv.same R2.2.2.2.2.2.2 hI⟩, fun e => absurd rfl e⟩⟩⟩)
    refine c_goesX x1 x2 x3 r3 σ τ2 hI e0 e1 e2 e3 R2 _ (fun υ pu su _ w ew _ => ?_)
    have iu : tInv υ := tInv.same su hI
    rw [pS_at (by unfold okC; omega), pu] at ew
    by_cases e5 : zRun σ x1 x2 x3 88 29 = x3
    · rw [if_pos e5] at ew
      subst ew
      refine ⟨fun e => absurd e (by decide), fun _ => ⟨fun e6 _ => ⟨?_, iu⟩, fun e6 => ?_⟩⟩
      · rw [hy ⟨e0, e1, e2, e3, e4, e5⟩]
        unfold zTell
        rw [if_pos (by omega), if_neg (by omega), if_neg (by omega), if_neg (by omega), if_neg (by omega), if_neg (by omega), if_neg (by omega)]
      · have ok := zRun_ok hI e0 e1 e2 e3 e4
        obtain ⟨o1, o2, o3, o4, o5, o6⟩ := ok
        obtain ⟨hA, h29, h25, h24, h23⟩ := o1
        refine c_nowOf x4 r4 e6 υ (by rw [pu]; exact hA.1) (by rw [pu]; omega) (by rw [pu]; omega) _ (fun _ _ => ⟨?_, iu⟩)
        rw [pu]; exact hy ⟨e0, e1, e2, e3, e4, e5⟩
    · rw [if_neg e5] at ew
      subst ew
      exact ⟨fun _ _ => ⟨hn (fun z => e5 z.2.2.2.2.2), iu⟩, fun e => absurd rfl e⟩
  refine vX11_state x1 x2 x3 x4 r1 r2 r3 r4 σ _ (vX11_reaches x1 x2 x3 r1 r2 r3 σ _ ⟨fun e _ => ⟨fun _ _ => B _ σ frN.rfl' (fun _ => rfl) (fun z => by omega), fun e => absurd rfl e⟩, fun e => ⟨fun e9 _ => ⟨fun _ _ => B _ σ frN.rfl' (fun _ => rfl) (fun z => ?_), fun e => absurd rfl e⟩, fun e9 => ?_⟩⟩)
  · have := (zRun_ok hI z.1 z.2.1 z.2.2.1 z.2.2.2.1 z.2.2.2.2.1).2.2.2.1
    omega
  · refine c_begins11 x1 x2 r1 r2 σ hI _ (fun e _ => ⟨fun e => absurd rfl e, fun _ _ => ⟨fun _ _ => B _ σ frN.rfl' (fun _ => rfl) (fun z => absurd ⟨z.1, z.2.1, z.2.2.1, z.2.2.2.1⟩ e), fun e => absurd rfl e⟩⟩) (fun e0 e1 e2 e3 τ hτ fτ _ => ⟨fun _ => ?_, fun e => absurd e (by decide)⟩)
    refine c_followX x1 x2 x3 σ τ hI e0 e1 e2 e3 ⟨e, e9⟩ hτ fτ _ (fun υ uC uF _ w ew _ => ?_)
    have ok := zRun_ok hI e0 e1 e2 e3 e
    by_cases e5 : zRun σ x1 x2 x3 88 29 = x3
    · rw [if_pos e5] at ew
      subst ew
      exact ⟨fun e => absurd e (by decide), fun _ => c_tellR x4 r4 υ _ uC ok.1.1.1 _ (fun _ _ => B _ υ uF (fun z => absurd ⟨e0, e1, e2, e3, e, e5⟩ z) (fun _ => rfl))⟩
    · rw [if_neg e5] at ew
      subst ew
      exact ⟨fun _ _ => B _ υ uF (fun _ => rfl) (fun z => absurd z.2.2.2.2.2 e5), fun e => absurd rfl e⟩
end RP
