section SM
variable {l : Launch} {G : gG}
/-- the runs by all rounds and pointers, by the reference -/
theorem c_laysFits (P d p0 l0 n24 : Int) (σ : gS) (h10 : gI σ 88 10 = P) (h12 : gI σ 88 12 = d) (h14 : gI σ 88 14 = p0) (h64 : gI σ 88 64 = l0) (hp0 : 0 ≤ p0 ∧ p0 + 121 ≤ 3704) (hl0 : 0 ≤ l0 ∧ l0 + 33 ≤ 3704) (hFC : FC (gI σ 89) p0 l0 P d) (h24 : ∀ Z r p, (1 ≤ r ∧ r ≤ 4) → (0 ≤ p ∧ p ≤ 5) → zFF (gI σ 89) p0 P d r p Z 88 24 = n24)
    (Z0 : RS) (z65 : Z0 88 65 = 0) (hZ : ∀ c i, ¬ (c = 88 ∧ ((10 ≤ i ∧ i ≤ 13) ∨ i = 65)) → pS σ c i = Z0 c i) (Q : gS → Prop)
    (h : ∀ τ, pS τ = zFitR (gI σ 89) p0 l0 P d 4 Z0 → ZI n24 24 (zFitR (gI σ 89) p0 l0 P d 4 Z0) → gI τ 88 10 = P → frQ σ τ → Q τ) : eX12_laysFits l G σ Q := by
  have hP := hFC.1
  have hd := hFC.2.1
  refine vX12_laysFits σ Q (fun σ1 e1 => ?_)
  have Q1 : frQ σ σ1 := by rw [e1]; exact frQ.set (by omega)
  have A : ∀ Z τ, (∀ c i, ¬ (c = 88 ∧ 10 ≤ i ∧ i ≤ 13) → pS τ c i = Z c i) → gI τ 88 10 = P → gI τ 88 12 = d → gI τ 88 14 = p0 → gI τ 88 64 = l0 → frQ σ τ → ∀ r p m, (1 ≤ r ∧ r ≤ 4) → (0 ≤ p ∧ p < P) → (0 ≤ m ∧ m < 24) → ZI n24 m Z → (∀ υ, pS υ = zFit (gI σ 89) p0 l0 P d r p Z → gI υ 88 10 = P → gI υ 88 12 = d → gI υ 88 14 = p0 → gI υ 88 64 = l0 → frQ σ υ → kX12_laysFits_14 l G r (p + 1) υ Q) → kX12_laysFits_14 l G r p τ Q := by
    intro Z τ tZ t10 t12 t14 t64 tQ r p m hr hp hm zi k
    have e89 : gI τ 89 = gI σ 89 := funext tQ.2.1
    refine vX12_laysFits_14 r p ⟨by omega, by omega⟩ ⟨by omega, by omega⟩ τ Q ?_
    rw [t10]
    refine ⟨fun z => by omega, fun _ τ1 f1 τ2 f2 => ?_⟩
    have g2 : ∀ c i, ¬ (c = 88 ∧ (i = 11 ∨ i = 13)) → gI τ2 c i = gI τ c i := fun c i hc => by rw [f2, sI_at, if_neg (by omega), f1, sI_at, if_neg (by omega)]
    have Q2 : frQ σ τ2 := tQ.trans ⟨fun c hc i => g2 c i (by omega), fun i => g2 89 i (by omega), fun i => g2 90 i (by omega)⟩
    have e89' : gI τ2 89 = gI σ 89 := funext Q2.2.1
    have bc : zBeg P r d p (pS τ2) = zBeg P r d p Z := zBeg_congr (fun c i hc => by
      rw [← tZ c i hc]
      by_cases ok : okC c i
      · rw [pS_y ok, pS_y ok]; exact g2 c i (by omega)
      · rw [pS_n ok, pS_n ok])
    refine c_goes 40 P r d p p0 (by decide) hP hr hd (by omega) τ2 (by rw [g2 _ _ (by omega)]; exact t10) (by rw [f2, sI_nei (by omega), f1, sI_eq]) (by rw [g2 _ _ (by omega)]; exact t12) (by rw [f2, sI_eq]) (by rw [g2 _ _ (by omega)]; exact t14) hp0 (by rw [e89']; exact hFC.2.2.1) (by rw [e89']; exact hFC.2.2.2.1) _ (fun υ pu uQ => ?_)
    rw [e89', bc] at pu
    have pu : pS υ = zFF (gI σ 89) p0 P d r p Z := pu
    obtain ⟨a1, a2, a3, a4⟩ := zFF_ok (Z := Z) (r := r) (p := p) hFC hr (by omega)
    have Q3 : frQ σ υ := Q2.trans uQ
    have e89u : gI υ 89 = gI σ 89 := funext Q3.2.1
    have au : ∀ k, k = 10 ∨ k = 12 ∨ k = 14 ∨ k = 64 ∨ k = 65 → gI υ 88 k = zFF (gI σ 89) p0 P d r p Z 88 k := fun k hk => by rw [← pu]; exact pS_at (by unfold okC; omega)
    have zk : ∀ k, k = 14 ∨ k = 64 → gI τ 88 k = Z 88 k := fun k hk => by rw [← tZ 88 k (by omega)]; exact pS_at (by unfold okC; omega)
    have u10 : gI υ 88 10 = P := by rw [au 10 (by omega)]; exact a2
    have u12 : gI υ 88 12 = d := by rw [au 12 (by omega), a3 12 (by omega), if_pos rfl]
    have u14 : gI υ 88 14 = p0 := by rw [au 14 (by omega), a3 14 (by omega), if_neg (by omega), ← zk 14 (by omega)]; exact t14
    have u64 : gI υ 88 64 = l0 := by rw [au 64 (by omega), a3 64 (by omega), if_neg (by omega), ← zk 64 (by omega)]; exact t64
    have u65 : zFF (gI σ 89) p0 P d r p Z 88 65 = Z 88 65 := by rw [a3 65 (by omega), if_neg (by omega)]
    have z65' := zi.1
    refine c_factsAreSo l0 υ u64 hl0 (by rw [e89u]; exact ⟨hFC.2.2.2.2.1, hFC.2.2.2.2.2⟩) (by rw [pu]; exact a1) _ (fun so _ => ⟨fun _ => ?_, fun z => absurd z (by decide)⟩) (fun so _ => ⟨fun z => absurd rfl z, fun _ => k υ ?_ u10 u12 u14 u64 Q3⟩)
    · rw [e89u, pu] at so
      rw [au 65 (by omega)]
      refine ⟨by rw [u65]; omega, ⟨by omega, by omega⟩, fun υ1 f => ?_⟩
      refine c_keepR r p (10 * r + p) hr (by omega) υ _ pu a1 (by rw [u65]; omega) υ1 f Q (fun w pw wQ => ?_)
      have aw : ∀ k, k = 10 ∨ k = 12 ∨ k = 14 ∨ k = 64 → gI w 88 k = gI υ 88 k := fun k hk => by
        rw [pS_at (σ := w) (c := 88) (by unfold okC; omega), pw, zKeep_88 _ _ _ (by omega), au k (by omega)]
      refine k w ?_ (by rw [aw 10 (by omega)]; exact u10) (by rw [aw 12 (by omega)]; exact u12) (by rw [aw 14 (by omega)]; exact u14) (by rw [aw 64 (by omega)]; exact u64) (Q3.trans wQ)
      rw [pw]
      unfold zFit
      rw [zFE_y so]
    · rw [e89u, pu] at so
      unfold zFit
      rw [zFE_n so]; exact pu
  have a1 : ∀ k, k = 10 ∨ k = 12 ∨ k = 14 ∨ k = 64 → gI σ1 88 k = gI σ 88 k := fun k hk => by rw [e1, sI_nei (by omega)]
  refine gloopI (α := gS) 1 5 (fun r τ => r ≤ 5 ∧ (∀ c i, ¬ (c = 88 ∧ 10 ≤ i ∧ i ≤ 13) → pS τ c i = zFitR (gI σ 89) p0 l0 P d (r - 1).toNat Z0 c i) ∧ (2 ≤ r → pS τ = zFitR (gI σ 89) p0 l0 P d (r - 1).toNat Z0) ∧ ZI n24 (6 * (r - 1)) (zFitR (gI σ 89) p0 l0 P d (r - 1).toNat Z0) ∧ gI τ 88 10 = P ∧ gI τ 88 12 = d ∧ gI τ 88 14 = p0 ∧ gI τ 88 64 = l0 ∧ frQ σ τ) (fun r τ => kX12_laysFits_7 l G r τ Q) ?_ ?_ 1 σ1 (by omega) ⟨by omega, fun c i hc => ?_, fun z => by omega, ?_, by rw [a1 10 (by omega)]; exact h10, by rw [a1 12 (by omega)]; exact h12, by rw [a1 14 (by omega)]; exact h14, by rw [a1 64 (by omega)]; exact h64, Q1⟩
  · rintro r τ r0 r1' ⟨y0, y1, y1', y2, y3, y4, y5, y6, y7⟩ ih
    refine vX12_laysFits_7 r ⟨by omega, by omega⟩ τ Q ⟨fun z => by omega, fun _ => ?_⟩
    refine gloopI (α := gS) 0 P (fun p υ => p ≤ P ∧ (∀ c i, ¬ (c = 88 ∧ 10 ≤ i ∧ i ≤ 13) → pS υ c i = zFitP (gI σ 89) p0 l0 P d r p.toNat (zFitR (gI σ 89) p0 l0 P d (r - 1).toNat Z0) c i) ∧ (1 ≤ p → pS υ = zFitP (gI σ 89) p0 l0 P d r p.toNat (zFitR (gI σ 89) p0 l0 P d (r - 1).toNat Z0)) ∧ ZI n24 (6 * (r - 1) + p) (zFitP (gI σ 89) p0 l0 P d r p.toNat (zFitR (gI σ 89) p0 l0 P d (r - 1).toNat Z0)) ∧ gI υ 88 10 = P ∧ gI υ 88 12 = d ∧ gI υ 88 14 = p0 ∧ gI υ 88 64 = l0 ∧ frQ σ υ) (fun p υ => kX12_laysFits_14 l G r p υ Q) ?_ ?_ 0 τ (by omega) ⟨by omega, y1, fun z => by omega, by rw [Int.add_zero]; exact y2, y3, y4, y5, y6, y7⟩
    · rintro p υ p0' p1 ⟨q0, q1, q1', q2, q3, q4, q5, q6, q7⟩ ih2
      have ste : zFitP (gI σ 89) p0 l0 P d r (p + 1).toNat (zFitR (gI σ 89) p0 l0 P d (r - 1).toNat Z0) = zFit (gI σ 89) p0 l0 P d r p (zFitP (gI σ 89) p0 l0 P d r p.toNat (zFitR (gI σ 89) p0 l0 P d (r - 1).toNat Z0)) := by
        rw [show (p + 1).toNat = p.toNat + 1 by omega]
        show zFit _ _ _ _ _ _ ((p.toNat : Nat) : Int) _ = _
        rw [show ((p.toNat : Nat) : Int) = p by omega]
      refine A _ υ q1 q3 q4 q5 q6 q7 r p (6 * (r - 1) + p) (by omega) ⟨p0', p1⟩ (by omega) q2 (fun w pw w10 w12 w14 w64 wQ => ih2 w ⟨by omega, fun c i _ => by rw [pw, ste], fun _ => by rw [pw, ste], ?_, w10, w12, w14, w64, wQ⟩)
      rw [ste, show 6 * (r - 1) + (p + 1) = 6 * (r - 1) + p + 1 by omega]
      exact ZI_fit hFC (by omega) (by omega) h24 (by omega) q2
    · rintro p υ p0' ⟨q0, q1, q1', q2, q3, q4, q5, q6, q7⟩
      have hp : p = P := by omega
      subst hp
      refine vX12_laysFits_14 r p ⟨by omega, by omega⟩ ⟨by omega, by omega⟩ υ Q ?_
      rw [q3]
      have ste : zFitR (gI σ 89) p0 l0 p d (r + 1 - 1).toNat Z0 = zFitP (gI σ 89) p0 l0 p d r p.toNat (zFitR (gI σ 89) p0 l0 p d (r - 1).toNat Z0) := by
        rw [show (r + 1 - 1).toNat = (r - 1).toNat + 1 by omega]
        show zFitP _ _ _ _ _ ((((r - 1).toNat : Nat) : Int) + 1) _ _ = _
        rw [show (((r - 1).toNat : Nat) : Int) + 1 = r by omega]
      refine ⟨fun _ => ih υ ⟨by omega, fun c i hc => by rw [ste]; exact q1 c i hc, fun _ => by rw [ste]; exact q1' (by omega), ?_, q3, q4, q5, q6, q7⟩, fun z => by omega⟩
      rw [ste]
      refine ZI_up q2 (by omega) ?_
      rcases q2.2.2.2 with z | z
      · omega
      · exact Or.inr z
  · rintro r τ r0 ⟨y0, y1, y1', y2, y3, y4, y5, y6, y7⟩
    have hr : r = 5 := by omega
    subst hr
    exact vX12_laysFits_7 5 (by decide) τ Q ⟨fun _ => h τ (y1' (by omega)) y2 y3 y7, fun z => by omega⟩
  · show pS σ1 c i = Z0 c i
    by_cases e : c = 88 ∧ i = 65
    · rw [e.1, e.2, z65, e1, pS_y (by unfold okC; omega), sI_eq]
    · rw [← hZ c i (by omega)]
      by_cases ok : okC c i
      · rw [pS_y ok, pS_y ok, e1, sI_at, if_neg e]
      · rw [pS_n ok, pS_n ok]
  · show ZI n24 (6 * (1 - 1)) Z0
    exact ⟨by omega, fun k k0 k1 => by omega, fun k k0 k1 => by omega, Or.inl (by decide)⟩
theorem c_sureR (rd : Int) (hr : rd = 0 ∨ rd = 1) (σ : gS) (n24 : Int) (hZ : ZI n24 24 (pS σ)) (Q : Int → gS → Prop) (h : Q (zSure (pS σ) rd) σ) : eX12_sureOf l G rd σ Q := by
  obtain ⟨⟨z65, z24⟩, zc, zv, _⟩ := hZ
  have rr : gR rd := gR_01 hr
  have e65 : gI σ 88 65 = pS σ 88 65 := pS_at (by unfold okC; omega)
  refine vX12_sureOf rd rr σ Q ?_
  unfold zSure at h
  refine gloopI (α := Int) 0 (pS σ 88 65) (fun k x => k ≤ pS σ 88 65 ∧ x = zSureN (pS σ) rd k.toNat ∧ -2 ≤ x ∧ x ≤ 100) (fun k x => kX12_sureOf_5 l G rd x k σ Q) ?_ ?_ 0 (-2) (by omega) ⟨by omega, rfl, by omega, by omega⟩
  · rintro k x k0 k1 ⟨y0, y1, y2, y3⟩ ih
    have c := zc k k0 k1
    have pr := prt_r (rd := rd) c
    have ste : zSureN (pS σ) rd (k + 1).toNat = fSure (prt rd (pS σ 130 k)) (zSureN (pS σ) rd k.toNat) := gfold_s k0
    refine vX12_sureOf_5 rd x k rr ⟨by omega, by omega⟩ ⟨by omega, by omega⟩ σ Q ?_
    rw [e65, pS_at (c := 130) (by unfold okC; omega), grem_pos _ 10 (by omega) (by decide), gdiv_pos _ 10 (by omega) (by decide)]
    refine ⟨fun z => by omega, fun _ => ⟨⟨fun _ => ⟨by omega, trivial⟩, fun _ => ⟨by omega, trivial⟩⟩, fun v ev u eu => ih u ⟨by omega, ?_, ?_, ?_⟩⟩⟩
    · rw [ste, ← y1, eu, ev]; rfl
    · have ev : v = prt rd (pS σ 130 k) := ev
      rw [eu]; split
      · omega
      · split <;> omega
    · have ev : v = prt rd (pS σ 130 k) := ev
      rw [eu]; split
      · omega
      · split <;> omega
  · rintro k x k0 ⟨y0, y1, y2, y3⟩
    have hk : k = pS σ 88 65 := by omega
    refine vX12_sureOf_5 rd x k rr ⟨by omega, by omega⟩ ⟨by omega, by omega⟩ σ Q ?_
    rw [e65]
    refine ⟨fun _ v ev => ?_, fun z => by omega⟩
    rw [ev, y1, hk]; exact h
theorem c_askOf (P n24 : Int) (hP : 1 ≤ P ∧ P ≤ 6) (σ : gS) (h10 : gI σ 88 10 = P) (hZ : ZI n24 24 (pS σ)) (h24 : pS σ 88 24 = n24) (hn : 0 ≤ n24 ∧ n24 ≤ 360) (Q : Int → gS → Prop) (h : Q (zAsk (pS σ) P n24) σ) : eX12_askOf l G σ Q := by
  obtain ⟨⟨z65, z24⟩, zc, zv, _⟩ := hZ
  have e65 : gI σ 88 65 = pS σ 88 65 := pS_at (by unfold okC; omega)
  have e24 : gI σ 88 24 = n24 := by rw [← h24]; exact pS_at (by unfold okC; omega)
  refine vX12_askOf σ Q ?_
  unfold zAsk at h
  by_cases e0 : pS σ 88 65 ≤ 0
  · rw [if_pos e0] at h
    refine vX12_askOf_8 (-1) 999 0 (by decide) (by decide) (by decide) σ Q ?_
    rw [e24, e65]
    exact ⟨⟨by omega, by omega⟩, fun _ => h, fun _ => ⟨fun _ => h, fun z => by omega⟩⟩
  · rw [if_neg e0] at h
    refine gloopF (fAsk (pS σ) P) (-1, 999) (6 * n24) (by omega) (fun _ x => (x.1 = -1 ∧ x.2 = 999) ∨ (0 ≤ x.1 ∧ x.1 < 6000 ∧ 0 ≤ x.2 ∧ x.2 ≤ 24)) (fun c x => kX12_askOf_8 l G x.1 x.2 c σ Q) (Or.inl ⟨rfl, rfl⟩) ?_ ?_
    · intro c x c0 c1 hp
      refine ⟨fAsk_r ⟨z65, z24⟩ (by omega) hp, fun ih => ?_⟩
      have ih : kX12_askOf_8 l G (fAsk (pS σ) P c x).1 (fAsk (pS σ) P c x).2 (c + 1) σ Q := ih
      have rx1 : gR x.1 := ⟨by omega, by omega⟩
      have rx2 : gR x.2 := ⟨by omega, by omega⟩
      have rc : gR c := ⟨by omega, by omega⟩
      have mr := zMost_r (pS σ) c z65
      refine vX12_askOf_8 x.1 x.2 c rx1 rx2 rc σ Q ?_
      rw [e24, e65]
      refine ⟨⟨by omega, by omega⟩, fun z => by omega, fun _ => ⟨fun z => by omega, fun _ => ?_⟩⟩
      have L : ∀ (a : Nat), a ≤ 7 → kX12_askOf_32 l G x.1 x.2 c (gfold (fun a m => max m (cnt (pS σ) c (a - 1) (pS σ 88 65).toNat)) 0 (7 - a)) ((7 - a : Nat) - 1 : Int) σ Q := by
        intro a
        have mb : ∀ n : Nat, 0 ≤ gfold (fun a m => max m (cnt (pS σ) c (a - 1) (pS σ 88 65).toNat)) 0 n ∧ gfold (fun a m => max m (cnt (pS σ) c (a - 1) (pS σ 88 65).toNat)) 0 n ≤ 24 := fun n => by
          induction n with
          | zero => exact ⟨Int.le_refl _, by show (0 : Int) ≤ 24; decide⟩
          | succ n ihn =>
            show 0 ≤ max _ (cnt (pS σ) c ((n : Int) - 1) (pS σ 88 65).toNat) ∧ max _ (cnt (pS σ) c ((n : Int) - 1) (pS σ 88 65).toNat) ≤ 24
            have := cnt_r (pS σ) c ((n : Int) - 1) (pS σ 88 65).toNat
            omega
        induction a with
        | zero =>
          intro _
          have m7 : gfold (fun a m => max m (cnt (pS σ) c (a - 1) (pS σ 88 65).toNat)) 0 (7 - 0) = zMost (pS σ) c := rfl
          rw [m7]
          refine vX12_askOf_32 x.1 x.2 c _ _ rx1 rx2 rc ⟨by omega, by omega⟩ ⟨by omega, by omega⟩ σ Q ?_
          rw [grem_pos c 6 (by omega) (by decide), gdiv_pos c 6 (by omega) (by decide), h10]
          unfold fAsk at ih
          refine ⟨fun _ => ⟨fun z => ?_, fun z => ⟨fun y => ?_, fun y => ?_⟩⟩, fun z => by omega⟩
          · rw [if_pos z] at ih; exact ih
          · rw [if_neg (by omega), if_pos y] at ih; exact ih
          · rw [if_neg (by omega), if_neg (by omega)] at ih; exact ih
        | succ a iha =>
          intro ha
          have iha := iha (by omega)
          have hv : ((7 - (a + 1) : Nat) : Int) - 1 < 6 := by omega
          have m1 := mb (7 - (a + 1))
          have ste : gfold (fun a m => max m (cnt (pS σ) c (a - 1) (pS σ 88 65).toNat)) 0 (7 - a) = max (gfold (fun a m => max m (cnt (pS σ) c (a - 1) (pS σ 88 65).toNat)) 0 (7 - (a + 1))) (cnt (pS σ) c (((7 - (a + 1) : Nat) : Int) - 1) (pS σ 88 65).toNat) := by
            rw [show 7 - a = 7 - (a + 1) + 1 by omega]; rfl
          rw [ste] at iha
          generalize gfold (fun a m => max m (cnt (pS σ) c (a - 1) (pS σ 88 65).toNat)) 0 (7 - (a + 1)) = m at *
          rw [show ((7 - a : Nat) : Int) - 1 = ((7 - (a + 1) : Nat) : Int) - 1 + 1 by omega] at iha
          generalize hvv : ((7 - (a + 1) : Nat) : Int) - 1 = v at *
          have rv : gR v := ⟨by omega, by omega⟩
          have rm : gR m := ⟨by omega, by omega⟩
          refine vX12_askOf_32 x.1 x.2 c m v rx1 rx2 rc rm rv σ Q ⟨fun z => by omega, fun _ => ?_⟩
          refine gloopI (α := Int) 0 (pS σ 88 65) (fun k y => k ≤ pS σ 88 65 ∧ y = cnt (pS σ) c v k.toNat) (fun k y => kX12_askOf_45 l G x.1 x.2 c m v y k σ Q) ?_ ?_ 0 0 (by omega) ⟨by omega, rfl⟩
          · rintro k y k0 k1 ⟨q0, q1⟩ ih2
            have cr := cnt_r (pS σ) c v k.toNat
            refine vX12_askOf_45 x.1 x.2 c m v y k rx1 rx2 rc rm rv ⟨by omega, by omega⟩ ⟨by omega, by omega⟩ σ Q ?_
            rw [e65, pS_at (c := 131) (by unfold okC; omega)]
            refine ⟨fun z => by omega, fun _ => ⟨by omega, fun u eu => ih2 _ ⟨by omega, ?_⟩⟩⟩
            unfold cnt at q1 ⊢
            rw [sm_s _ k0, ← q1, eu]
          · rintro k y k0 ⟨q0, q1⟩
            have hk : k = pS σ 88 65 := by omega
            have cr := cnt_r (pS σ) c v k.toNat
            refine vX12_askOf_45 x.1 x.2 c m v y k rx1 rx2 rc rm rv ⟨by omega, by omega⟩ ⟨by omega, by omega⟩ σ Q ?_
            rw [e65]
            refine ⟨fun _ u eu => ?_, fun z => by omega⟩
            have : u = max m (cnt (pS σ) c v (pS σ 88 65).toNat) := by
              rw [← hk, ← q1, eu]; split <;> omega
            rw [this]; exact iha
      exact L 7 (Nat.le_refl _)
    · intro hp
      refine vX12_askOf_8 _ _ (6 * n24) ⟨by omega, by omega⟩ ⟨by omega, by omega⟩ ⟨by omega, by omega⟩ σ Q ?_
      rw [e24]
      exact ⟨⟨by omega, by omega⟩, fun _ => h, fun z => by omega⟩
theorem c_isLogX (x3 : Int) (r3 : gR x3) (σ : gS) (hI : tInv σ) (Q : Int → gS → Prop) (h0 : ¬ (0 ≤ x3 ∧ x3 < gI σ 89 2) → Q 0 σ) (h1 : 0 ≤ x3 → x3 < gI σ 89 2 → ∀ υ, υ = sI σ 88 64 (860 + 33 * x3) → Q 1 υ) : eX12_isLog l G x3 σ Q := by
  obtain ⟨k1, k5, k6, k7⟩ := tTx0 hI
  have b2 := k1 2 (by omega) (by omega)
  refine vX12_isLog x3 r3 σ _ (c_isOf 2 x3 (by decide) r3 σ (by decide) b2.2 _ (fun r hr _ => ⟨fun e => ?_, fun e => h0 (by omega)⟩))
  refine c_placeOf 2 x3 (by decide) r3 (by omega) σ _ (fun _ υ eu => h1 (by omega) (by omega) υ ?_)
  rw [if_neg (by decide), if_neg (by decide)] at eu
  exact eu
theorem p_fits (x1 x2 x3 x4 : Int) (r1 : gR x1) (r2 : gR x2) (r3 : gR x3) (r4 : gR x4) (σ : gS) (hI : tInv σ) : eX11_fits l G x1 x2 x3 x4 σ (fun r τ => gR r → eX12_fits l G x1 x2 x3 x4 τ (fun r' υ => gR r' → r = r' ∧ tInv υ)) := by
  obtain ⟨k1, k5, k6, k7⟩ := tTx0 hI
  have b0 := k1 0 (by omega) (by omega)
  have b1 := k1 1 (by omega) (by omega)
  have b2 := k1 2 (by omega) (by omega)
  have Z0 : ∃ Z0 : RS, Z0 = uS (uS (uS (pS σ) 88 14 (618 + 121 * x2)) 88 64 (860 + 33 * x3)) 88 65 0 := ⟨_, rfl⟩
  obtain ⟨Z0, hZ0⟩ := Z0
  have z65 : Z0 88 65 = 0 := by rw [hZ0, uS_eq]
  have FCs : 0 ≤ x1 → x1 < gI σ 89 0 → 0 ≤ x2 → x2 < gI σ 89 1 → 0 ≤ x3 → x3 < gI σ 89 2 → FC (gI σ 89) (618 + 121 * x2) (860 + 33 * x3) (gI σ 89 (610 + 4 * x1)) (gI σ 89 (610 + 4 * x1 + 2)) := fun e0 e1 e2 e3 e4 e5 => by
    obtain ⟨_, t1, t2, t3, t4, t5⟩ := tBars hI e0 e1
    obtain ⟨u1, u2, u3, u4⟩ := tTraf hI e2 e3
    obtain ⟨c6, d0, d8, dd⟩ := k7 x3 e4 e5
    exact ⟨t1, t3, ⟨u2, u3⟩, u4, ⟨d0, d8⟩, fun k q0 q1 => (dd k q0 q1).2⟩
  have B : ∀ (v : Int) (τ : gS), frC σ τ → (¬ (0 ≤ x1 ∧ x1 < gI σ 89 0 ∧ 0 ≤ x2 ∧ x2 < gI σ 89 1 ∧ 0 ≤ x3 ∧ x3 < gI σ 89 2) → v = -2) → (0 ≤ x1 → x1 < gI σ 89 0 → 0 ≤ x2 → x2 < gI σ 89 1 → 0 ≤ x3 → x3 < gI σ 89 2 → v = zFitsT (zFitR (gI σ 89) (618 + 121 * x2) (860 + 33 * x3) (gI σ 89 (610 + 4 * x1)) (gI σ 89 (610 + 4 * x1 + 2)) 4 Z0) (gI σ 89 (610 + 4 * x1)) (zFF (gI σ 89) (618 + 121 * x2) (gI σ 89 (610 + 4 * x1)) (gI σ 89 (610 + 4 * x1 + 2)) 1 0 Z0 88 24) x4) → eX12_fits l G x1 x2 x3 x4 τ (fun r' υ => gR r' → v = r' ∧ tInv υ) := by
    intro v τ hF hn hy
    refine vX12_fits x1 x2 x3 x4 r1 r2 r3 r4 τ _ (c_isCrossbarX x1 r1 σ τ hI hF _ (fun e _ => ⟨fun _ _ => ⟨hn (by omega), tInv.same hF.same hI⟩, fun e => absurd rfl e⟩) (fun e0 e1 τ1 R1 _ => ⟨fun e => absurd e (by decide), fun _ => ?_⟩))
    refine c_isTrafficX x1 x2 r2 σ τ1 hI R1 _ (fun e _ => ⟨fun _ _ => ⟨hn (by omega), tInv.same R1.2.2.2.2.2 hI⟩, fun e => absurd rfl e⟩) (fun e2 e3 τ2 R2 _ => ⟨fun e => absurd e (by decide), fun _ => ?_⟩)
    obtain ⟨a1, a2, a3, a4, a5, a6, a7⟩ := R2
    have I2 : tInv τ2 := tInv.same a7 hI
    have q2 : gI τ2 89 2 = gI σ 89 2 := a7.2.1 2
    refine c_isLogX x3 r3 τ2 I2 _ (fun e _ => ⟨fun _ _ => ⟨hn (by rw [q2] at e; omega), I2⟩, fun e => absurd rfl e⟩) (fun e4 e5 τ3 f3 _ => ⟨fun e => absurd e (by decide), fun _ => ?_⟩)
    rw [q2] at e5
    have S3 : tSame σ τ3 := by rw [f3]; exact a7.trans (tSame.set (by omega) (by omega) (by omega))
    have I3 : tInv τ3 := tInv.same S3 hI
    have e89 : gI τ3 89 = gI σ 89 := funext S3.2.1
    have hv := hy e0 e1 e2 e3 e4 e5
    have hFC := FCs e0 e1 e2 e3 e4 e5
    generalize eP : gI σ 89 (610 + 4 * x1) = P at *
    generalize ed : gI σ 89 (610 + 4 * x1 + 2) = d at *
    have h24 : ∀ Z r p, (1 ≤ r ∧ r ≤ 4) → (0 ≤ p ∧ p ≤ 5) → zFF (gI σ 89) (618 + 121 * x2) P d r p Z 88 24 = zFF (gI σ 89) (618 + 121 * x2) P d 1 0 Z0 88 24 := fun Z r p hr hp => zFF_24 hFC hr hp (by omega) (by omega)
    have ok0 := (zFF_ok (Z := Z0) (r := 1) (p := 0) hFC (by omega) (by omega)).1
    have hn24 : 0 ≤ zFF (gI σ 89) (618 + 121 * x2) P d 1 0 Z0 88 24 ∧ zFF (gI σ 89) (618 + 121 * x2) P d 1 0 Z0 88 24 ≤ 360 := ⟨ok0.1.1.2.1.2.1, ok0.2.2⟩
    generalize zFF (gI σ 89) (618 + 121 * x2) P d 1 0 Z0 88 24 = n24 at *
    unfold zFitsT at hv
    refine ⟨fun z _ => ⟨?_, I3⟩, fun z => c_isIn x4 4 9 r4 (by decide) (by decide) τ3 _ (fun r hr _ => ⟨fun y => ?_, fun y _ => ⟨?_, I3⟩⟩)⟩
    · rw [hv, if_neg (by omega), if_neg (by omega), if_neg (by omega), if_neg (by omega), if_pos (by omega)]
    · have b3 : ∀ k, k ≠ 64 → gI τ3 88 k = gI τ2 88 k := fun k hk => by rw [f3, sI_nei hk]
      refine c_laysFits P d (618 + 121 * x2) (860 + 33 * x3) n24 τ3 (by rw [b3 10 (by omega)]; exact a1) (by rw [b3 12 (by omega)]; exact a3) (by rw [b3 14 (by omega)]; exact a5) (by rw [f3, sI_eq]) (by omega) (by omega) (by rw [e89]; exact hFC) (by rw [e89]; exact h24) Z0 z65 (fun c i hc => ?_) _ (fun υ pu zi u10 uQ => ?_)
      · rw [hZ0, uS_at, if_neg (by omega), uS_at]
        by_cases ok : okC c i
        · rw [pS_y ok, f3, sI_at]
          by_cases e : c = 88 ∧ i = 64
          · rw [if_pos e, if_pos e]
          · rw [if_neg e, if_neg e, uS_at]
            by_cases e' : c = 88 ∧ i = 14
            · rw [if_pos e', e'.1, e'.2]; exact a5
            · rw [if_neg e', pS_y ok]; exact a6 c i ok (by omega)
        · rw [pS_n ok, if_neg (fun z => ok (by rw [z.1, z.2]; unfold okC; omega)), uS_at, if_neg (fun z => ok (by rw [z.1, z.2]; unfold okC; omega)), pS_n ok]
      · rw [e89] at pu zi
        have iu : tInv υ := tInv.same (S3.q uQ) hI
        rw [← pu] at hv zi
        have e65 : gI υ 88 65 = pS υ 88 65 := pS_at (by unfold okC; omega)
        have zi1 := zi.1
        have p24 : pS υ 88 24 = n24 := by
          rcases zi.2.2.2 with q | q
          · omega
          · exact q
        rw [e65]
        refine ⟨fun e _ => ⟨?_, iu⟩, fun e u eu => ?_, fun e u eu => ?_, fun e => ?_, fun e => ⟨⟨⟨by omega, by omega⟩, fun _ => trivial, fun _ => ⟨by omega, trivial⟩⟩, fun u eu _ => ⟨?_, iu⟩⟩⟩
        · rw [hv, if_pos e]
        · rw [if_pos e] at eu
          rw [eu]
          exact c_sureR 1 (Or.inr rfl) υ n24 zi _ (fun _ _ => ⟨by rw [hv, if_neg (by omega), if_pos e], iu⟩)
        · rw [if_neg (by omega)] at eu
          rw [eu]
          exact c_sureR 0 (Or.inl rfl) υ n24 zi _ (fun _ _ => ⟨by rw [hv, if_neg (by omega), if_neg (by omega), if_pos e], iu⟩)
        · exact c_askOf P n24 hFC.1 υ u10 zi p24 hn24 _ (fun _ _ => ⟨by rw [hv, if_neg (by omega), if_neg (by omega), if_neg (by omega), if_pos e], iu⟩)
        · rw [hv, eu, if_neg (by omega), if_neg (by omega), if_neg (by omega), if_neg (by omega), if_neg (by omega)]
          by_cases q : x4 < 10 + pS υ 88 65
          · rw [if_pos q, if_neg (by omega), pS_at (by unfold okC; omega)]
          · rw [if_neg q, if_pos (by omega)]
    · rw [hv, if_neg (by omega), if_neg (by omega), if_neg (by omega), if_neg (by omega), if_pos (by omega)]
  refine vX11_fits x1 x2 x3 x4 r1 r2 r3 r4 σ _ (c_has 0 x1 (by decide) r1 σ _ (fun a ha _ => ⟨fun e _ => B _ σ frC.rfl' (fun _ => rfl) (fun z0 z1 => by omega), fun e => c_has 1 x2 (by decide) r2 σ _ (fun a2 ha2 _ => ⟨fun e2 _ => B _ σ frC.rfl' (fun _ => rfl) (fun z0 z1 z2 z3 => by omega), fun e2 => c_has 2 x3 (by decide) r3 σ _ (fun a3 ha3 _ => ⟨fun e3 => ?_, fun e3 _ => B _ σ frC.rfl' (fun _ => rfl) (fun z0 z1 z2 z3 z4 z5 => by omega)⟩)⟩)⟩))
  have hFC := FCs (by omega) (by omega) (by omega) (by omega) (by omega) (by omega)
  obtain ⟨⟨w0, w1, w2, w3⟩, t1, t2, t3, t4, t5⟩ := tBars hI (x := x1) (by omega) (by omega)
  refine vX10_bar x1 0 r1 (by decide) σ _ ⟨by omega, fun _ => ?_⟩
  rw [w0]
  refine vX1_begin _ ⟨by omega, by omega⟩ σ _ (fun σ1 f1 σ2 f2 σ3 f3 => ?_)
  have h24 : ∀ Z r p, (1 ≤ r ∧ r ≤ 4) → (0 ≤ p ∧ p ≤ 5) → zFF (gI σ 89) (618 + 121 * x2) (gI σ 89 (610 + 4 * x1)) (gI σ 89 (610 + 4 * x1 + 2)) r p Z 88 24 = zFF (gI σ 89) (618 + 121 * x2) (gI σ 89 (610 + 4 * x1)) (gI σ 89 (610 + 4 * x1 + 2)) 1 0 Z0 88 24 := fun Z r p hr hp => zFF_24 hFC hr hp (by omega) (by omega)
  have ok0 := (zFF_ok (Z := Z0) (r := 1) (p := 0) hFC (by omega) (by omega)).1
  refine c_fitLoops x1 x2 x3 x4 r1 r2 r3 r4 σ hI (by omega) (by omega) (by omega) _ _ _ rfl rfl hFC h24 Z0 z65 σ3 (by rw [f3, sI_nei (by omega), f2, sI_nei (by omega), f1, sI_eq]) (by rw [f3, sI_nei (by omega), f2, sI_eq]) (by rw [f3, sI_eq]) (by rw [f3, f2, f1]; exact ((frC.set (by omega)).trans (frC.set (by omega))).trans (frC.set (by omega))) _ (fun τ tC tZ t0 tF => ?_)
  exact c_tellF _ _ x4 hFC.1 r4 τ _ t0 tC tZ ⟨ok0.1.1.2.1.2.1, ok0.2.2⟩ _ (fun υ uF _ _ => B _ υ (tF.trans (frC.of (a := 87) (z := 87) (by omega) (fun c i hc => uF c i (by omega)))) (fun z => by omega) (fun _ _ _ _ _ _ => rfl))
end SM
