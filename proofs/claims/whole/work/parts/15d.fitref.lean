section SL
variable {l : Launch} {G : gG}
/-- the runs by all rounds and pointers, by the class -/
theorem c_fitLoops (x1 x2 x3 x4 : Int) (r1 : gR x1) (r2 : gR x2) (r3 : gR x3) (r4 : gR x4) (σ : gS) (hI : tInv σ) (h1 : 0 ≤ x1 ∧ x1 < gI σ 89 0) (h2 : 0 ≤ x2 ∧ x2 < gI σ 89 1) (h3 : 0 ≤ x3 ∧ x3 < gI σ 89 2) (P d n24 : Int) (eP : P = gI σ 89 (610 + 4 * x1)) (ed : d = gI σ 89 (610 + 4 * x1 + 2)) (hFC : FC (gI σ 89) (618 + 121 * x2) (860 + 33 * x3) P d) (h24 : ∀ Z r p, (1 ≤ r ∧ r ≤ 4) → (0 ≤ p ∧ p ≤ 5) → zFF (gI σ 89) (618 + 121 * x2) P d r p Z 88 24 = n24)
    (Z0 : RS) (z65 : Z0 88 65 = 0) (τ0 : gS) (t1 : gI τ0 84 1 = 0) (t2 : gI τ0 84 2 = 0) (t0 : gI τ0 84 0 = P) (tF : frC σ τ0) (Q : Int → gS → Prop)
    (h : ∀ τ, CFt τ n24 (zFitR (gI σ 89) (618 + 121 * x2) (860 + 33 * x3) P d 4 Z0) → ZI n24 24 (zFitR (gI σ 89) (618 + 121 * x2) (860 + 33 * x3) P d 4 Z0) → gI τ 84 0 = P → frC σ τ → eX1_tell l G x4 τ (fun v21 σ19 => gR v21 → Q v21 σ19)) : kX11_fits_58 l G x1 x2 x3 x4 1 τ0 Q := by
  have hP := hFC.1
  have hd := hFC.2.1
  obtain ⟨⟨w0, w1, w2, w3⟩, _, _, _, _, x12⟩ := tBars hI h1.1 h1.2
  rw [← eP] at w0
  rw [← ed] at w2
  refine gloopI (α := gS) 1 5 (fun r τ => r ≤ 5 ∧ CFt τ n24 (zFitR (gI σ 89) (618 + 121 * x2) (860 + 33 * x3) P d (r - 1).toNat Z0) ∧ ZI n24 (6 * (r - 1)) (zFitR (gI σ 89) (618 + 121 * x2) (860 + 33 * x3) P d (r - 1).toNat Z0) ∧ gI τ 84 0 = P ∧ frC σ τ) (fun r τ => kX11_fits_58 l G x1 x2 x3 x4 r τ Q) ?_ ?_ 1 τ0 (by omega) ⟨by omega, ?_, ?_, t0, tF⟩
  · rintro r τ r0 r1' ⟨y0, y1, y2, y3, y4⟩ ih
    have rr : gR r := ⟨by omega, by omega⟩
    refine vX11_fits_58 x1 x2 x3 x4 r r1 r2 r3 r4 rr τ Q ⟨fun z => by omega, fun _ => ?_⟩
    refine gloopI (α := gS) 0 P (fun p υ => p ≤ P ∧ CFt υ n24 (zFitP (gI σ 89) (618 + 121 * x2) (860 + 33 * x3) P d r p.toNat (zFitR (gI σ 89) (618 + 121 * x2) (860 + 33 * x3) P d (r - 1).toNat Z0)) ∧ ZI n24 (6 * (r - 1) + p) (zFitP (gI σ 89) (618 + 121 * x2) (860 + 33 * x3) P d r p.toNat (zFitR (gI σ 89) (618 + 121 * x2) (860 + 33 * x3) P d (r - 1).toNat Z0)) ∧ gI υ 84 0 = P ∧ frC σ υ) (fun p υ => kX11_fits_67 l G x1 x2 x3 x4 r p υ Q) ?_ ?_ 0 τ (by omega) ⟨by omega, y1, by rw [Int.add_zero]; exact y2, y3, y4⟩
    · rintro p υ p0 p1 ⟨q0, q1, q2, q3, q4⟩ ih2
      refine vX11_fits_67 x1 x2 x3 x4 r p r1 r2 r3 r4 rr ⟨by omega, by omega⟩ υ Q ?_
      rw [q3]
      refine ⟨fun z => by omega, fun _ => ?_⟩
      have ste : zFitP (gI σ 89) (618 + 121 * x2) (860 + 33 * x3) P d r (p + 1).toNat (zFitR (gI σ 89) (618 + 121 * x2) (860 + 33 * x3) P d (r - 1).toNat Z0) = zFit (gI σ 89) (618 + 121 * x2) (860 + 33 * x3) P d r p (zFitP (gI σ 89) (618 + 121 * x2) (860 + 33 * x3) P d r p.toNat (zFitR (gI σ 89) (618 + 121 * x2) (860 + 33 * x3) P d (r - 1).toNat Z0)) := by
        rw [show (p + 1).toNat = p.toNat + 1 by omega]
        show zFit _ _ _ _ _ _ ((p.toNat : Nat) : Int) _ = _
        rw [show ((p.toNat : Nat) : Int) = p by omega]
      rw [ste] at ih2
      have fitZ := ZI_fit (Z := zFitP (gI σ 89) (618 + 121 * x2) (860 + 33 * x3) P d r p.toNat (zFitR (gI σ 89) (618 + 121 * x2) (860 + 33 * x3) P d (r - 1).toNat Z0)) (r := r) (p := p) hFC (by omega) (by omega) h24 (by omega) q2
      generalize zFitP (gI σ 89) (618 + 121 * x2) (860 + 33 * x3) P d r p.toNat (zFitR (gI σ 89) (618 + 121 * x2) (860 + 33 * x3) P d (r - 1).toNat Z0) = Z at *
      refine c_beginR x1 P r d p (by omega) hP (by omega) hd (by omega) υ (by rw [q4.1 4 (by omega)]; exact w0) (by rw [q4.1 4 (by omega)]; exact w2) _ (fun υ1 hS fS => ?_)
      have F1 : frC σ υ1 := q4.trans fS.c
      have e89 : gI υ1 89 = gI σ 89 := funext (fun i => F1.2 89 (by omega) i)
      have I1 : tInv υ1 := tInv.same F1.same hI
      refine c_follow x2 40 υ1 I1 (by rw [e89]; exact h2) (by decide) _ (OKD_beg hP (by omega) hd (by omega) Z) (zBeg_0 _ _ _ _ _ 29 (by omega)) (hS Z).1 (hS Z).2 _ (fun υ2 C2 f2 _ => ?_)
      rw [e89] at C2
      have C2 : CR υ2 (zFF (gI σ 89) (618 + 121 * x2) P d r p Z) := C2
      have F2 : frC σ υ2 := F1.trans f2.c
      have e89' : gI υ2 89 = gI σ 89 := funext (fun i => F2.2 89 (by omega) i)
      have I2 : tInv υ2 := tInv.same F2.same hI
      obtain ⟨a1, a2, a3, a4⟩ := zFF_ok (Z := Z) (r := r) (p := p) hFC (by omega) (by omega)
      have e65 := a3 65 (by omega)
      rw [if_neg (by omega)] at e65
      have CF2 : CFt υ2 n24 (zFF (gI σ 89) (618 + 121 * x2) P d r p Z) := CFt.keep q1 (fun c i c1 c2 => by rw [f2 c i (by omega), fS c i (by omega)]) e65 (fun k => a4 130 k (by omega)) (fun k => a4 131 k (by omega))
      have z65' := q2.1
      refine c_keepIfSo x3 (10 * r + p) υ2 I2 (by rw [e89']; exact h3) ⟨by omega, by omega⟩ _ C2 a1 n24 (h24 Z r p (by omega) (by omega)) CF2 (by rw [e65]; omega) _ (fun υ3 C3 z3 f3 => ih2 υ3 ⟨by omega, ?_, ?_, ?_, ?_⟩)
      · rw [e89'] at C3; exact C3
      · rw [show 6 * (r - 1) + (p + 1) = 6 * (r - 1) + p + 1 by omega]; exact fitZ
      · rw [z3, f2 84 0 (by omega), fS 84 0 (by omega)]; exact q3
      · exact F2.trans (frC.of (a := 84) (z := 86) (by omega) (fun c i hc => f3 c i (by omega) (by omega) (by omega)))
    · rintro p υ p0 ⟨q0, q1, q2, q3, q4⟩
      have hp : p = P := by omega
      subst hp
      refine vX11_fits_67 x1 x2 x3 x4 r p r1 r2 r3 r4 rr ⟨by omega, by omega⟩ υ Q ?_
      rw [q3]
      have ste : zFitR (gI σ 89) (618 + 121 * x2) (860 + 33 * x3) p d (r + 1 - 1).toNat Z0 = zFitP (gI σ 89) (618 + 121 * x2) (860 + 33 * x3) p d r p.toNat (zFitR (gI σ 89) (618 + 121 * x2) (860 + 33 * x3) p d (r - 1).toNat Z0) := by
        rw [show (r + 1 - 1).toNat = (r - 1).toNat + 1 by omega]
        show zFitP _ _ _ _ _ ((((r - 1).toNat : Nat) : Int) + 1) _ _ = _
        rw [show (((r - 1).toNat : Nat) : Int) + 1 = r by omega]
      refine ⟨fun _ => ih υ ⟨by omega, by rw [ste]; exact q1, ?_, q3, q4⟩, fun z => by omega⟩
      rw [ste]
      refine ZI_up q2 (by omega) ?_
      rcases q2.2.2.2 with z | z
      · omega
      · exact Or.inr z
  · rintro r τ r0 ⟨y0, y1, y2, y3, y4⟩
    have hr : r = 5 := by omega
    subst hr
    exact vX11_fits_58 x1 x2 x3 x4 5 r1 r2 r3 r4 (by decide) τ Q ⟨fun _ => h τ y1 y2 y3 y4, fun z => by omega⟩
  · show CFt τ0 n24 Z0
    exact ⟨by rw [t1, z65], fun _ => t2, fun z => by omega, fun k k0 k1 => by omega, fun k k0 k1 => by omega⟩
  · show ZI n24 (6 * (1 - 1)) Z0
    exact ⟨by omega, fun k k0 k1 => by omega, fun k k0 k1 => by omega, Or.inl (by decide)⟩
theorem c_factsAreSo (l0 : Int) (σ : gS) (h64 : gI σ 88 64 = l0) (hl : 0 ≤ l0 ∧ l0 + 33 ≤ 3704) (hf : (0 ≤ gI σ 89 l0 ∧ gI σ 89 l0 ≤ 8) ∧ ∀ k, 0 ≤ k → k < gI σ 89 l0 → tFact (gI σ 89) (l0 + 1 + 4 * k)) (hM : OKM (pS σ)) (Q : Int → gS → Prop) (h1 : fSo (gI σ 89) l0 (pS σ) → Q 1 σ) (h0 : ¬ fSo (gI σ 89) l0 (pS σ) → Q 0 σ) : eX12_factsAreSo l G σ Q := by
  have hP := hM.1.1.1
  have h24 := hM.2.2
  have e24 : gI σ 88 24 = pS σ 88 24 := pS_at (by unfold okC; omega)
  have e10 : gI σ 88 10 = pS σ 88 10 := pS_at (by unfold okC; omega)
  refine vX12_factsAreSo σ Q ?_
  refine gloopI (α := Unit) 0 (gI σ 89 l0) (fun k _ => k ≤ gI σ 89 l0 ∧ ∀ j, 0 ≤ j → j < k → ((gI σ 89 (l0 + 1 + 4 * j + 1) < pS σ 88 24 ∧ pS σ 109 (6 * gI σ 89 (l0 + 1 + 4 * j + 1) + gI σ 89 (l0 + 1 + 4 * j + 3)) = gI σ 89 (l0 + 1 + 4 * j + 2)) ↔ gI σ 89 (l0 + 1 + 4 * j) = 1)) (fun k _ => kX12_factsAreSo_2 l G k σ Q) ?_ ?_ 0 () (by omega) ⟨by omega, fun j j0 j1 => by omega⟩
  · rintro k _ k0 k1 ⟨z0, z1⟩ ih
    have f := hf.2 k k0 k1
    unfold tFact at f
    have step : ((gI σ 89 (l0 + 1 + 4 * k + 1) < pS σ 88 24 ∧ pS σ 109 (6 * gI σ 89 (l0 + 1 + 4 * k + 1) + gI σ 89 (l0 + 1 + 4 * k + 3)) = gI σ 89 (l0 + 1 + 4 * k + 2)) ↔ gI σ 89 (l0 + 1 + 4 * k) = 1) → kX12_factsAreSo_2 l G (k + 1) σ Q := fun y => ih () ⟨by omega, fun j j0 j1 => by
      by_cases e : j = k
      · rw [e]; exact y
      · exact z1 j j0 (by omega)⟩
    have stop : ¬ ((gI σ 89 (l0 + 1 + 4 * k + 1) < pS σ 88 24 ∧ pS σ 109 (6 * gI σ 89 (l0 + 1 + 4 * k + 1) + gI σ 89 (l0 + 1 + 4 * k + 3)) = gI σ 89 (l0 + 1 + 4 * k + 2)) ↔ gI σ 89 (l0 + 1 + 4 * k) = 1) → Q 0 σ := fun y => h0 (fun z => y (z k k0 k1))
    refine vX12_factsAreSo_2 k ⟨by omega, by omega⟩ σ Q ?_
    rw [h64, e24]
    refine ⟨by omega, fun z => by omega, fun _ => ⟨by omega, fun z => ⟨by omega, fun v ev => ⟨fun y => step ?_, fun y => stop ?_⟩⟩, fun z => ⟨by omega, ?_⟩⟩⟩
    · refine ⟨fun q => by omega, fun q => ?_⟩
      rw [if_pos q] at ev; omega
    · intro q
      by_cases e : gI σ 89 (l0 + 1 + 4 * k) = 1
      · have := (q.mpr e).1; omega
      · rw [if_neg e] at ev; omega
    · have hH := hM.1.2.2.1 (gI σ 89 (l0 + 1 + 4 * k + 1)) (by omega) z (gI σ 89 (l0 + 1 + 4 * k + 3)) (by omega) (by omega)
      have no : ¬ (gI σ 89 (l0 + 1 + 4 * k + 2) < pS σ 88 10 ∧ gI σ 89 (l0 + 1 + 4 * k + 3) < pS σ 88 10) → ¬ (gI σ 89 (l0 + 1 + 4 * k + 1) < pS σ 88 24 ∧ pS σ 109 (6 * gI σ 89 (l0 + 1 + 4 * k + 1) + gI σ 89 (l0 + 1 + 4 * k + 3)) = gI σ 89 (l0 + 1 + 4 * k + 2)) := fun q1 q2 => by omega
      refine c_isPort _ ⟨by omega, by omega⟩ σ (by rw [e10]; omega) _ (fun v hv _ => ⟨fun y => ⟨by omega, fun u eu => ⟨fun x => step ?_, fun x => stop ?_⟩⟩, fun y => ⟨by omega, ?_⟩⟩)
      · rw [e10] at hv
        refine ⟨fun q => absurd q (no (by omega)), fun q => ?_⟩
        rw [if_pos q] at eu; omega
      · rw [e10] at hv
        intro q
        by_cases e : gI σ 89 (l0 + 1 + 4 * k) = 1
        · exact no (by omega) (q.mpr e)
        · rw [if_neg e] at eu; omega
      · rw [e10] at hv
        refine c_isPort _ ⟨by omega, by omega⟩ σ (by rw [e10]; omega) _ (fun u hu _ => ⟨⟨fun _ => trivial, fun _ => ⟨by omega, fun _ => trivial, fun _ => trivial⟩⟩, fun v1 ev1 => ⟨by omega, fun v2 ev2 => ?_⟩⟩)
        rw [e10] at hu
        rw [pS_at (c := 109) (by unfold okC; omega)] at ev1
        by_cases e : u = 0
        · rw [if_pos e] at ev1
          refine ⟨fun x => step ⟨fun q => absurd q (no (by omega)), fun q => ?_⟩, fun x => stop (fun q => ?_)⟩
          · rw [if_pos q] at ev2; omega
          · by_cases e2 : gI σ 89 (l0 + 1 + 4 * k) = 1
            · exact no (by omega) (q.mpr e2)
            · rw [if_neg e2] at ev2; omega
        · rw [if_neg e] at ev1
          by_cases e3 : pS σ 109 (6 * gI σ 89 (l0 + 1 + 4 * k + 1) + gI σ 89 (l0 + 1 + 4 * k + 3)) = gI σ 89 (l0 + 1 + 4 * k + 2)
          · rw [if_pos e3] at ev1
            refine ⟨fun x => step ⟨fun _ => ?_, fun _ => ⟨z, e3⟩⟩, fun x => stop (fun q => ?_)⟩
            · by_cases e2 : gI σ 89 (l0 + 1 + 4 * k) = 1
              · exact e2
              · rw [if_neg e2] at ev2; omega
            · rw [if_pos (q.mp ⟨z, e3⟩)] at ev2; omega
          · rw [if_neg e3] at ev1
            refine ⟨fun x => step ⟨fun q => absurd q.2 e3, fun q => ?_⟩, fun x => stop (fun q => ?_)⟩
            · rw [if_pos q] at ev2; omega
            · by_cases e2 : gI σ 89 (l0 + 1 + 4 * k) = 1
              · exact e3 (q.mpr e2).2
              · rw [if_neg e2] at ev2; omega
  · rintro k _ k0 ⟨z0, z1⟩
    have hk : k = gI σ 89 l0 := by omega
    refine vX12_factsAreSo_2 k ⟨by omega, by omega⟩ σ Q ?_
    rw [h64]
    exact ⟨by omega, fun _ => h1 (fun j j0 j1 => z1 j j0 (by omega)), fun z => by omega⟩
/-- one more fit is kept, by the reference -/
theorem c_keepR (r p code : Int) (hr : 1 ≤ r ∧ r ≤ 4) (hp : 0 ≤ p ∧ p ≤ 5) (σ : gS) (T : RS) (hT : pS σ = T) (hM : OKM T) (h65 : 0 ≤ T 88 65 ∧ T 88 65 < 24) (σ1 : gS) (e1 : σ1 = sI σ 130 (T 88 65) code) (Q : gS → Prop)
    (h : ∀ τ, pS τ = zKeep code T → frQ σ τ → kX12_laysFits_14 l G r (p + 1) τ Q) : kX12_laysFits_65 l G r p 0 σ1 Q := by
  have h24 := hM.2.2
  have h0 := hM.1.1.2.1.2.1
  have a : ∀ k, k = 24 ∨ k = 65 → gI σ 88 k = T 88 k := fun k hk => by rw [← hT]; exact pS_at (by unfold okC; omega)
  have rr : gR r := ⟨by omega, by omega⟩
  have rp : gR p := ⟨by omega, by omega⟩
  refine gloopI (α := gS) 0 (6 * T 88 24) (fun k τ => k ≤ 6 * T 88 24 ∧ (∀ i, gI τ 131 i = if 2520 * T 88 65 ≤ i ∧ i < 2520 * T 88 65 + k then gI σ 109 (i - 2520 * T 88 65) else gI σ 131 i) ∧ ∀ c i, c ≠ 131 → gI τ c i = gI σ1 c i) (fun k τ => kX12_laysFits_65 l G r p k τ Q) ?_ ?_ 0 σ1 (by omega) ⟨by omega, fun i => by rw [if_neg (by omega), e1, sI_ne (by omega)], fun _ _ _ => rfl⟩
  · rintro k τ k0 k1 ⟨y0, y1, y2⟩ ih
    refine vX12_laysFits_65 r p k rr rp ⟨by omega, by omega⟩ τ Q ?_
    rw [y2 88 24 (by omega), y2 88 65 (by omega), y2 109 k (by omega), e1, sI_ne (by omega), sI_ne (by omega), sI_ne (by omega), a 24 (by omega), a 65 (by omega)]
    refine ⟨⟨by omega, by omega⟩, fun z => by omega, fun _ => ⟨by omega, by omega, fun w ew => ih w ⟨by omega, fun i => ?_, fun c i hc => by rw [ew, sI_ne hc]; exact y2 c i hc⟩⟩⟩
    rw [ew, sI_at, y1]
    by_cases e : i = 2520 * T 88 65 + k
    · rw [if_pos ⟨rfl, e⟩, if_pos (by omega), show i - 2520 * T 88 65 = k by omega]
    · rw [if_neg (fun z => e z.2)]
      by_cases e2 : 2520 * T 88 65 ≤ i ∧ i < 2520 * T 88 65 + k
      · rw [if_pos e2, if_pos (by omega)]
      · rw [if_neg e2, if_neg (by omega)]
  · rintro k τ k0 ⟨y0, y1, y2⟩
    have hk : k = 6 * T 88 24 := by omega
    subst hk
    refine vX12_laysFits_65 r p _ rr rp ⟨by omega, by omega⟩ τ Q ?_
    rw [y2 88 24 (by omega), y2 88 65 (by omega), e1, sI_ne (by omega), sI_ne (by omega), a 24 (by omega), a 65 (by omega)]
    refine ⟨⟨by omega, by omega⟩, fun _ => ⟨⟨by omega, by omega⟩, fun w ew => h w ?_ ?_⟩, fun z => by omega⟩
    · funext c i
      by_cases hc : okC c i
      · rw [pS_y hc, ew, sI_at]
        by_cases e : c = 88 ∧ i = 65
        · rw [if_pos e, e.1, e.2, zKeep_65]
        · rw [if_neg e]
          by_cases e2 : c = 131
          · subst e2
            rw [y1, zKeep_131]
            by_cases e3 : 2520 * T 88 65 ≤ i ∧ i < 2520 * T 88 65 + 6 * T 88 24
            · rw [if_pos e3, if_pos e3]
              have q := pS_at (σ := σ) (c := 109) (i := i - 2520 * T 88 65) (by unfold okC; omega)
              rw [hT] at q; exact q
            · rw [if_neg e3, if_neg e3, ← hT]; exact pS_at hc
          · rw [y2 c i e2, e1, sI_at]
            by_cases e3 : c = 130
            · subst e3
              rw [zKeep_130]
              by_cases e4 : i = T 88 65
              · rw [if_pos ⟨rfl, e4⟩, if_pos e4]
              · rw [if_neg (fun z => e4 z.2), if_neg e4, ← hT]; exact pS_at hc
            · rw [if_neg (fun z => e3 z.1)]
              by_cases e4 : c = 88
              · subst e4
                rw [zKeep_88 _ _ _ (fun z => e ⟨rfl, z⟩), ← hT]; exact pS_at hc
              · rw [zKeep_o _ _ _ _ ⟨e4, e3, e2⟩, ← hT]; exact pS_at hc
      · rw [pS_n hc]
        have : T c i = 0 := by rw [← hT]; exact pS_n hc
        unfold okC at hc
        by_cases e4 : c = 88
        · subst e4
          rw [zKeep_88 _ _ _ (by omega)]; exact this.symm
        · rw [zKeep_o _ _ _ _ ⟨e4, by omega, by omega⟩]; exact this.symm
    · rw [ew]
      refine frQ.trans (τ := τ) ⟨fun c hc i => ?_, fun i => ?_, fun i => ?_⟩ (frQ.set (by omega))
      · rw [y2 c i (by omega), e1, sI_ne (by omega)]
      · rw [y2 89 i (by omega), e1, sI_ne (by omega)]
      · rw [y2 90 i (by omega), e1, sI_ne (by omega)]
end SL
