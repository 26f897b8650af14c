theorem aSt_out {P : Int} {x : Tk} (hx : OKT P x) {I : Int → Int} {M : MS} {A : AS} {o : Int} (ho : P ≤ o) : aSt x I P M o A = A := by
  rcases aSt_is (P := P) (x := x) (I := I) (M := M) (A := A) (o := o) with e | ⟨k, k0, k1, ko, _⟩
  · exact e
  · have := (hx.2.2 k k0 k1).2.1
    omega
section SR
variable {l : Launch} {G : gG}
theorem CA.s {σ τ : gS} {x : Tk} {I : Int → Int} {P : Int} {M : MS} {A B : AS} {th : Int → Int} (h : CA σ x I P M A th) (e1 : B.1 = A.1) (e2 : B.2.1 = A.2.1) : CA σ x I P M B th := by
  unfold CA at *
  rw [e1, e2]; exact h
theorem c_matchStable (P : Int) (hP : 1 ≤ P ∧ P ≤ 6) (x : Tk) (hx : OKT P x) (I : Int → Int) (hI : isId x I) (hI4 : ∀ k, 0 ≤ k → k < x.1 → 0 ≤ I k ∧ I k ≤ 400) (M : MS) (hM : WM x M) (σ : gS) (hC : CS σ x I M) (Q : gS → Prop) (h : ∀ τ, CS τ x I (zStb x I P M) → frS σ τ → Q τ) : eX9_matchStable l G σ Q := by
  have h40 := hx.2.1
  have hx0 := hx.1
  -- cells taken out of their rows
  have T : ∀ (mo : Int) (A : AS) (τ : gS), (mo = 0 ∨ mo = 1) → A.1 = kpF x I P M → CS τ x I M → (∀ i, 0 ≤ i → i < 6 → gI τ 78 i = A.1 i) → frS σ τ → kX9_matchStable_94 l G mo 0 τ Q := by
    intro mo A τ hmo eA tS t78 tF
    obtain ⟨_, _, _, hk⟩ := zStb_at hx hP I hM
    rw [eA] at t78
    refine gloopI (α := gS) 0 6 (fun i υ => i ≤ 6 ∧ CS υ x I (gfold (fTk x (kpF x I P M)) M i.toNat) ∧ (∀ j, 0 ≤ j → j < 6 → gI υ 78 j = kpF x I P M j) ∧ frS σ υ) (fun i υ => kX9_matchStable_94 l G mo i υ Q) ?_ ?_ 0 τ (by omega) ⟨by omega, tS, t78, tF⟩
    · rintro i υ i0 i1 ⟨z0, z1, z2, z3⟩ ih
      obtain ⟨a, b, c⟩ := fTk_at hx hP hM hk i.toNat (by omega)
      have ste : gfold (fTk x (kpF x I P M)) M (i + 1).toNat = fTk x (kpF x I P M) i (gfold (fTk x (kpF x I P M)) M i.toNat) := gfold_s i0
      rw [ste] at ih
      have hki := hk i i0 i1
      generalize gfold (fTk x (kpF x I P M)) M i.toNat = Y at *
      unfold fTk at ih
      have ri : gR i := ⟨by omega, by omega⟩
      refine vX9_matchStable_94 mo i (gR_01 hmo) ri υ Q ?_
      rw [z2 i i0 i1]
      refine ⟨fun z => by omega, fun _ => ⟨by omega, fun e => ?_, fun e => ?_⟩⟩
      · rw [if_pos e] at ih; exact ih υ ⟨by omega, z1, z2, z3⟩
      · rw [if_neg e] at ih
        obtain ⟨k1, k2, k3⟩ := hki e
        have w1 : Y.2.2.1 (kpF x I P M i) = 1 := by rw [b _ k1.1 k1.2, if_neg (by omega)]; exact k2
        have tk := c_takeFromRow (l := l) (G := G) P x hx hP.2 I Y a (kpF x I P M i) ⟨k1, w1⟩ υ z1 (fun σ22 => (0 ≤ gI σ22 78 i ∧ gI σ22 78 i < 40) ∧ ∀ σ26, σ26 = sI σ22 75 (gI σ22 78 i) 2 → kX9_matchStable_94 l G mo (i + 1) σ26 Q) (fun w u1 u2 u3 => by
          have w78 : gI w 78 i = kpF x I P M i := by rw [u3 _ _ (by omega) (by omega)]; exact z2 i i0 i1
          rw [w78]
          refine ⟨by omega, fun w1' f1 => ih w1' ?_⟩
          have g : ∀ c i, c ≠ 75 → gI w1' c i = gI w c i := fun c i hc => by rw [f1, sI_ne hc]
          have F : frS σ w1' := z3.trans (fun c i hc => by rw [g c i (by omega), u3 c i (by omega) (by omega)])
          refine ⟨by omega, ⟨CT.s hC.1 F, fun j j0 j1 => by rw [g _ _ (by omega)]; exact u1 j j0 j1, fun j j' j0 j1 j0' j1' => by rw [g _ _ (by omega)]; exact u2 j j' j0 j1 j0' j1', fun c c0 c1 => ?_, fun c c0 c1 hc => ?_⟩, fun j j0 j1 => by rw [g _ _ (by omega), u3 _ _ (by omega) (by omega)]; exact z2 j j0 j1, F⟩
          · show gI w1' 75 c = fup Y.2.2.1 (kpF x I P M i) 2 c
            rw [f1, sI_at, fup_at]
            by_cases q : c = kpF x I P M i
            · rw [if_pos ⟨rfl, q⟩, if_pos q]
            · rw [if_neg (fun z => q z.2), if_neg q, u3 _ _ (by omega) (by omega)]; exact z1.2.2.2.1 c c0 c1
          · have hc : fup Y.2.2.1 (kpF x I P M i) 2 c = 3 := hc
            have q : c ≠ kpF x I P M i := fun z => by rw [z, fup_eq] at hc; omega
            rw [fup_ne q] at hc
            rw [g _ _ (by omega), u3 _ _ (by omega) (by omega)]; exact z1.2.2.2.2 c c0 c1 hc)
        rw [k3] at tk
        exact tk
    · rintro i υ i0 ⟨z0, z1, z2, z3⟩
      have hi : i = 6 := by omega
      subst hi
      refine vX9_matchStable_94 mo 6 (gR_01 hmo) (by decide) υ Q ⟨fun _ => h υ ?_ z3, fun z => by omega⟩
      have nn := gfold_noop (f := fTk x (kpF x I P M)) (a := M) P.toNat (6 - P).toNat (fun j Y j0 j1 => by
        unfold fTk
        by_cases e : kpF x I P M j = -1
        · rw [if_pos e]
        · obtain ⟨k1, k2, k3⟩ := hk j (by omega) (by omega) e
          have := (hx.2.2 _ k1.1 k1.2).1
          omega)
      rw [show P.toNat + (6 - P).toNat = (6 : Int).toNat by omega] at nn
      rw [nn] at z1
      exact z1
  -- rounds of asking
  have R : ∀ (m : Nat) (r : Int) (th : Int → Int) (τ : gS), 0 ≤ r → r ≤ x.1 + 1 → x.1 + 1 ≤ r + m → CA τ x I P M (aRs x I P M r.toNat) th → frS σ τ → kX9_matchStable_39 l G (aRs x I P M r.toNat).2.2 r τ Q := by
    intro m
    induction m with
    | zero =>
      intro r th τ r0 r1 r2 tC tF
      have er : r = x.1 + 1 := by omega
      obtain ⟨kk, _⟩ := KI_rs hx hP I M r.toNat
      refine vX9_matchStable_39 _ r (gR_01 kk.2.2.2) ⟨by omega, by omega⟩ τ Q ?_
      rw [tC.1.1.1.1]
      refine ⟨fun _ => T _ (aRs x I P M r.toNat) τ kk.2.2.2 (by rw [er]; rfl) tC.1 (fun i i0 i1 => (tC.2.1 i i0 i1).1) tF, fun z => by omega⟩
    | succ m ihm =>
      intro r th τ r0 r1 r2 tC tF
      obtain ⟨kk, _⟩ := KI_rs hx hP I M r.toNat
      refine vX9_matchStable_39 _ r (gR_01 kk.2.2.2) ⟨by omega, by omega⟩ τ Q ?_
      rw [tC.1.1.1.1]
      refine ⟨fun z => ?_, fun z => ⟨fun e => T _ (aRs x I P M r.toNat) τ kk.2.2.2 (aRs_kp e (by omega)) tC.1 (fun i i0 i1 => (tC.2.1 i i0 i1).1) tF, fun e => ?_⟩⟩
      · have er : r = x.1 + 1 := by omega
        exact T _ (aRs x I P M r.toNat) τ kk.2.2.2 (by rw [er]; rfl) tC.1 (fun i i0 i1 => (tC.2.1 i i0 i1).1) tF
      · have ers : aRs x I P M (r + 1).toNat = gfold (aSt x I P M) ((aRs x I P M r.toNat).1, (aRs x I P M r.toNat).2.1, 0) P.toNat := by
          rw [show (r + 1).toNat = r.toNat + 1 by omega]
          show (if (aRs x I P M r.toNat).2.2 = 0 then _ else aRd x I P M (aRs x I P M r.toNat)) = _
          rw [if_neg e]; rfl
        have goo := ihm (r + 1)
        rw [ers] at goo
        have KF := fun n => (KI_fold hx hP (I := I) kk n).1
        generalize hB : ((aRs x I P M r.toNat).1, (aRs x I P M r.toNat).2.1, (0 : Int)) = B at *
        have tB : CA τ x I P M B th := CA.s (τ := τ) tC (by rw [← hB]) (by rw [← hB])
        have B0 : B.2.2 = 0 := by rw [← hB]
        refine gloopI (α := (Int → Int) × gS) 0 6 (fun o y => o ≤ 6 ∧ CA y.2 x I P M (gfold (aSt x I P M) B o.toNat) y.1 ∧ frS σ y.2) (fun o y => kX9_matchStable_55 l G (gfold (aSt x I P M) B o.toNat).2.2 r o y.2 Q) ?_ ?_ 0 (th, τ) (by omega) ⟨by omega, tB, tF⟩ |> fun q => by
          have q : kX9_matchStable_55 l G B.2.2 r 0 τ Q := q
          rw [B0] at q; exact q
        · rintro o ⟨th', υ⟩ o0 o1 ⟨z0, z1, z2⟩ ih
          dsimp only at z1 z2 ⊢
          have ste : gfold (aSt x I P M) B (o + 1).toNat = aSt x I P M o (gfold (aSt x I P M) B o.toNat) := gfold_s o0
          rw [ste] at ih
          have ki := KF o.toNat
          generalize gfold (aSt x I P M) B o.toNat = A at *
          refine vX9_matchStable_55 _ r o (gR_01 ki.2.2.2) ⟨by omega, by omega⟩ ⟨by omega, by omega⟩ υ Q ?_
          rw [(z1.2.1 o o0 o1).2.1]
          refine ⟨fun z => by omega, fun _ => ⟨by omega, fun y => ?_, fun y => ?_⟩⟩
          · have es : aSt x I P M o A = A := by unfold aSt; rw [if_neg y]
            rw [es] at ih
            exact ih (th', υ) ⟨by omega, z1, z2⟩
          · refine c_askNext o P hP ⟨o0, o1⟩ x hx I hI hI4 M hM A ki th' υ z1 y _ (fun es _ => ⟨fun _ => ?_, fun q => absurd rfl q⟩) (fun th2 w wC wm wF _ => ⟨fun q => absurd q (by decide), fun _ => ?_⟩)
            · rw [es] at ih
              exact ih (th', υ) ⟨by omega, z1, z2⟩
            · have := ih (th2, w) ⟨by omega, wC, z2.trans wF⟩
              have this : kX9_matchStable_55 l G (aSt x I P M o A).2.2 r (o + 1) w Q := this
              rw [wm] at this
              exact this
        · rintro o ⟨th', υ⟩ o0 ⟨z0, z1, z2⟩
          dsimp only at z1 z2 ⊢
          have ho : o = 6 := by omega
          subst ho
          have nn := gfold_noop (f := aSt x I P M) (a := B) P.toNat (6 - P).toNat (fun j A j0 j1 => aSt_out hx (by omega))
          rw [show P.toNat + (6 - P).toNat = (6 : Int).toNat by omega] at nn
          rw [nn] at z1 ⊢
          have ki := KF P.toNat
          refine vX9_matchStable_55 _ r 6 (gR_01 ki.2.2.2) ⟨by omega, by omega⟩ (by decide) υ Q ⟨fun _ => goo th' υ (by omega) (by omega) (by omega) z1 z2, fun z => by omega⟩
  -- at first nothing is kept, nobody has asked
  refine vX9_matchStable σ Q ?_
  refine gloopI (α := gS) 0 6 (fun p τ => p ≤ 6 ∧ (∀ i, 0 ≤ i → i < p → gI τ 78 i = -1 ∧ gI τ 79 i = 0 ∧ gI τ 80 i = -1) ∧ ∀ c i, c ≠ 78 → c ≠ 79 → c ≠ 80 → gI τ c i = gI σ c i) (fun p τ => kX9_matchStable_2 l G p τ Q) ?_ ?_ 0 σ (by omega) ⟨by omega, fun i i0 i1 => by omega, fun _ _ _ _ _ => rfl⟩
  · rintro p τ p0 p1 ⟨z0, z1, z2⟩ ih
    refine vX9_matchStable_2 p ⟨by omega, by omega⟩ τ Q ⟨fun z => by omega, fun _ => ⟨by omega, fun τ1 f1 τ2 f2 τ3 f3 => ih τ3 ⟨by omega, fun i i0 i1 => ?_, fun c i c1 c2 c3 => by rw [f3, sI_ne c3, f2, sI_ne c2, f1, sI_ne c1]; exact z2 c i c1 c2 c3⟩⟩⟩
    by_cases e : i = p
    · rw [e]
      refine ⟨?_, ?_, ?_⟩
      · rw [f3, sI_ne (by omega), f2, sI_ne (by omega), f1, sI_eq]
      · rw [f3, sI_ne (by omega), f2, sI_eq]
      · rw [f3, sI_eq]
    · have fr : ∀ c, gI τ3 c i = gI τ c i := fun c => by rw [f3, sI_nei e, f2, sI_nei e, f1, sI_nei e]
      rw [fr, fr, fr]; exact z1 i i0 (by omega)
  · rintro p τ p0 ⟨z0, z1, z2⟩
    have hp : p = 6 := by omega
    subst hp
    refine vX9_matchStable_2 6 (by decide) τ Q ⟨fun _ => ?_, fun z => by omega⟩
    have F : frS σ τ := fun c i hc => z2 c i (by omega) (by omega) (by omega)
    have hk0 : ∀ o, hK x P (fun _ => -1) o = 0 := fun o => by
      rcases hK_01 x P (fun _ => -1) o with q | q
      · exact q
      · obtain ⟨i, _, _, i2, _⟩ := (hK_1 (x := x) (P := P) (by omega)).mp q
        exact absurd rfl i2
    exact R (x.1 + 1).toNat 0 (fun _ => -1) τ (by omega) (by omega) (by omega) ⟨⟨CT.s hC.1 F, fun i i0 i1 => by rw [z2 _ _ (by omega) (by omega) (by omega)]; exact hC.2.1 i i0 i1, fun i j i0 i1 j0 j1 => by rw [z2 _ _ (by omega) (by omega) (by omega)]; exact hC.2.2.1 i j i0 i1 j0 j1, fun c c0 c1 => by rw [z2 _ _ (by omega) (by omega) (by omega)]; exact hC.2.2.2.1 c c0 c1, fun c c0 c1 hc => by rw [z2 _ _ (by omega) (by omega) (by omega)]; exact hC.2.2.2.2 c c0 c1 hc⟩, fun i i0 i1 => ⟨(z1 i i0 i1).1, by rw [(z1 i i0 i1).2.1]; exact (hk0 i).symm, (z1 i i0 i1).2.2, by show (-1 : Int) ≤ -1; decide, by show (-1 : Int) ≤ 400; decide⟩, fun k k0 k1 _ => ⟨fun _ => by have := hI4 k k0 k1; show -1 < I k; omega, fun _ => rfl⟩⟩ F
theorem c_sendAll (s P : Int) (hs : 0 ≤ s ∧ s < 1000) (hP : 1 ≤ P ∧ P ≤ 6) (x : Tk) (hx : OKT P x) (I : Int → Int) (hI4 : ∀ k, 0 ≤ k → k < x.1 → 0 ≤ I k ∧ I k ≤ 400) (Y : MS × Int) (hY : SI3 x Y) (σ : gS) (hC : CS σ x I Y.1) (Q : Int → gS → Prop) (h : ∀ τ, CS τ x I (zSnd x I P s Y).1 → frS σ τ → Q ((zSnd x I P s Y).2 - Y.2) τ) : eX9_sendAll l G s σ Q := by
  have h40 := hx.2.1
  have hx0 := hx.1
  have rs : gR s := ⟨by omega, by omega⟩
  have br : ∀ n : Nat, 0 ≤ (gfold (fSn x I s) Y n).2 - Y.2 ∧ (gfold (fSn x I s) Y n).2 - Y.2 ≤ 40 := fun n => by
    obtain ⟨a, b, c, d⟩ := zSnd_at hx I s hY n
    have := cn3_r x (gfold (fSn x I s) Y n).1.2.2.1 hx0
    have := cn3_r x Y.1.2.2.1 hx0
    have := a.2
    have := hY.2
    omega
  refine vX9_sendAll s rs σ Q ?_
  refine gloopI (α := gS) 0 6 (fun o τ => o ≤ 6 ∧ CS τ x I (gfold (fSn x I s) Y o.toNat).1 ∧ frS σ τ) (fun o τ => kX9_sendAll_4 l G s ((gfold (fSn x I s) Y o.toNat).2 - Y.2) o τ Q) ?_ ?_ 0 σ (by omega) ⟨by omega, hC, frS.rfl'⟩ |> fun q => by
    have q : kX9_sendAll_4 l G s (Y.2 - Y.2) 0 σ Q := q
    rw [show Y.2 - Y.2 = 0 by omega] at q; exact q
  · rintro o τ o0 o1 ⟨z0, z1, z2⟩ ih
    have bo := br o.toNat
    have ste : gfold (fSn x I s) Y (o + 1).toNat = fSn x I s o (gfold (fSn x I s) Y o.toNat) := gfold_s o0
    rw [ste] at ih
    generalize gfold (fSn x I s) Y o.toNat = Z at *
    refine vX9_sendAll_4 s _ o rs ⟨by omega, by omega⟩ ⟨by omega, by omega⟩ τ Q ⟨fun z => by omega, fun _ => ?_⟩
    refine c_leastIdeal o 2 (-1) ⟨o0, o1⟩ (by decide) (by decide) x P hx I Z.1.2.2.1 τ z1.1 z1.2.2.2.1 _ (fun _ => ?_)
    have cc : zLst (fun k => decide (x.2.2.1 k = o) && decide (Z.1.2.2.1 k = 2) && decide (-1 < I k)) I x.1.toNat = zLst (cLs x Z.1.2.2.1 o) I x.1.toNat := zLst_congr _ (fun k k0 k1 => by
      have := hI4 k k0 (by omega)
      have : -1 < I k := by omega
      unfold cLs
      simp [this])
    rw [cc]
    unfold fSn at ih
    have zz := zLst_is (c := cLs x Z.1.2.2.1 o) (I := I) x.1.toNat
    generalize zLst (cLs x Z.1.2.2.1 o) I x.1.toNat = k at *
    refine ⟨fun e => ?_, fun e => ?_⟩
    · rw [if_pos e] at ih; exact ih τ ⟨by omega, z1, z2⟩
    · rw [if_neg e] at ih
      rcases zz with q | ⟨k0, k1, k2, _⟩
      · exact absurd q.1 e
      · refine ⟨by omega, fun τ1 f1 τ2 f2 => ?_⟩
        have g : ∀ c i, c ≠ 74 → c ≠ 75 → gI τ2 c i = gI τ c i := fun c i c1 c2 => by rw [f2, sI_ne c1, f1, sI_ne c2]
        have F : frS σ τ2 := z2.trans (fun c i hc => g c i (by omega) (by omega))
        have := ih τ2 ⟨by omega, ⟨CT.s hC.1 F, fun i i0 i1 => by rw [g _ _ (by omega) (by omega)]; exact z1.2.1 i i0 i1, fun i j i0 i1 j0 j1 => by rw [g _ _ (by omega) (by omega)]; exact z1.2.2.1 i j i0 i1 j0 j1, fun c c0 c1 => ?_, fun c c0 c1 hc => ?_⟩, F⟩
        · have this : kX9_sendAll_4 l G s (Z.2 + 1 - Y.2) (o + 1) τ2 Q := this
          rw [show Z.2 - Y.2 + 1 = Z.2 + 1 - Y.2 by omega]
          exact this
        · show gI τ2 75 c = fup Z.1.2.2.1 k 3 c
          rw [f2, sI_ne (by omega), f1, sI_at, fup_at]
          by_cases q : c = k
          · rw [if_pos ⟨rfl, q⟩, if_pos q]
          · rw [if_neg (fun z => q z.2), if_neg q]; exact z1.2.2.2.1 c c0 c1
        · have hc : fup Z.1.2.2.1 k 3 c = 3 := hc
          show gI τ2 74 c = fup Z.1.2.2.2 k s c
          rw [f2, sI_at, fup_at]
          by_cases q : c = k
          · rw [if_pos ⟨rfl, q⟩, if_pos q]
          · rw [if_neg (fun z => q z.2), if_neg q, f1, sI_ne (by omega)]
            rw [fup_ne q] at hc
            exact z1.2.2.2.2 c c0 c1 hc
  · rintro o τ o0 ⟨z0, z1, z2⟩
    have ho : o = 6 := by omega
    subst ho
    have nn := gfold_noop (f := fSn x I s) (a := Y) P.toNat (6 - P).toNat (fun j Z j0 j1 => by
      rcases fSn_is (x := x) (I := I) (s := s) (o := j) (Y := Z) with ⟨q, _⟩ | ⟨k, k0, k1, ko, _⟩
      · exact q
      · have := (hx.2.2 k k0 k1).2.1
        omega)
    rw [show P.toNat + (6 - P).toNat = (6 : Int).toNat by omega] at nn
    have bo := br P.toNat
    rw [nn] at z1 ⊢
    exact vX9_sendAll_4 s _ 6 rs ⟨by omega, by omega⟩ (by decide) τ Q ⟨fun _ => h τ z1 z2, fun z => by omega⟩
theorem c_passAll (sp P : Int) (hsp : sp = 1 ∨ sp = 2) (hP : 1 ≤ P ∧ P ≤ 6) (x : Tk) (hx : OKT P x) (I : Int → Int) (hI : isId x I) (hI4 : ∀ k, 0 ≤ k → k < x.1 → 0 ≤ I k ∧ I k ≤ 400) (σ : gS) (hC : CT σ x I) (Q : gS → Prop) (h : ∀ (e : Nat) τ, isEn x (zAll x I P sp) e → CS τ x I (zAll x I P sp e).1 → frS σ τ → Q τ) : eX9_passAll l G sp σ Q := by
  have h40 := hx.2.1
  have hx0 := hx.1
  have rsp : gR sp := ⟨by omega, by omega⟩
  refine vX9_passAll sp rsp σ Q ?_
  refine gloopI (α := gS) 0 6 (fun i τ => i ≤ 6 ∧ (∀ j, 0 ≤ j → j < i → gI τ 77 j = 0) ∧ ∀ c j, c ≠ 77 → gI τ c j = gI σ c j) (fun i τ => kX9_passAll_2 l G sp i τ Q) ?_ ?_ 0 σ (by omega) ⟨by omega, fun j j0 j1 => by omega, fun _ _ _ => rfl⟩
  · rintro i τ i0 i1 ⟨z0, z1, z2⟩ ih
    refine vX9_passAll_2 sp i rsp ⟨by omega, by omega⟩ τ Q ⟨fun z => by omega, fun _ => ⟨by omega, fun w ew => ih w ⟨by omega, fun j j0 j1 => ?_, fun c j hc => by rw [ew, sI_ne hc]; exact z2 c j hc⟩⟩⟩
    rw [ew, sI_at]
    split
    · rfl
    · rename_i q; exact z1 j j0 (by omega)
  · rintro i τ i0 ⟨z0, z1, z2⟩
    have hi : i = 6 := by omega
    subst hi
    refine vX9_passAll_2 sp 6 rsp (by decide) τ Q ⟨fun _ => ?_, fun z => by omega⟩
    refine gloopI (α := gS) 0 x.1 (fun k υ => k ≤ x.1 ∧ (∀ j, 0 ≤ j → j < k → gI υ 75 j = 0) ∧ ∀ c j, c ≠ 74 → c ≠ 75 → gI υ c j = gI τ c j) (fun k υ => kX9_passAll_23 l G sp k υ Q) ?_ ?_ 0 τ (by omega) ⟨by omega, fun j j0 j1 => by omega, fun _ _ _ _ => rfl⟩
    · rintro k υ k0 k1 ⟨y0, y1, y2⟩ ih
      refine vX9_passAll_23 sp k rsp ⟨by omega, by omega⟩ υ Q ?_
      rw [y2 69 0 (by omega) (by omega), z2 69 0 (by omega), hC.1.1]
      refine ⟨fun z => by omega, fun _ => ⟨by omega, fun w ew w' ew' => ih w' ⟨by omega, fun j j0 j1 => ?_, fun c j c1 c2 => by rw [ew', sI_ne c1, ew, sI_ne c2]; exact y2 c j c1 c2⟩⟩⟩
      rw [ew', sI_ne (by omega), ew, sI_at]
      split
      · rfl
      · rename_i q; exact y1 j j0 (by omega)
    · rintro k υ k0 ⟨y0, y1, y2⟩
      have hk : k = x.1 := by omega
      subst hk
      have F0 : frS σ υ := fun c i hc => by rw [y2 c i (by omega) (by omega)]; exact z2 c i (by omega)
      have C0 : CS υ x I (zAll x I P sp 0).1 := ⟨CT.s hC F0, fun i i0 i1 => by rw [y2 _ _ (by omega) (by omega)]; exact z1 i i0 i1, fun i j _ _ j0 j1 => absurd (show j < 0 from j1) (by omega), y1, fun k _ _ hk => absurd (show (0 : Int) = 3 from hk) (by decide)⟩
      refine vX9_passAll_23 sp x.1 rsp ⟨by omega, by omega⟩ υ Q ?_
      rw [y2 69 0 (by omega) (by omega), z2 69 0 (by omega), hC.1.1]
      refine ⟨fun _ => ?_, fun z => by omega⟩
      have L : ∀ (m s : Nat) (w : gS), s + m = 401 → CS w x I (zAll x I P sp s).1 → frS σ w → (∀ r, r < s → (zAll x I P sp r).2 ≠ x.1) → kX9_passAll_55 l G sp (zAll x I P sp s).2 s w Q := by
        intro m
        induction m with
        | zero =>
          intro s w hs wC wF wn
          have es : s = 401 := by omega
          subst es
          have en := zAll_end hx hP I sp
          refine vX9_passAll_55 sp _ _ rsp ⟨by omega, by omega⟩ ⟨by omega, by omega⟩ w Q ?_
          rw [wC.1.1.1]
          exact ⟨fun z => by omega, fun _ => ⟨fun _ => h 401 w ⟨en, wn⟩ wC wF, fun z => by omega⟩⟩
        | succ m ihm =>
          intro s w hs wC wF wn
          have ti := TI_all hx hP I sp s
          have cr := cn3_r x (zAll x I P sp s).1.2.2.1 hx0
          have c2 := ti.1.2
          obtain ⟨⟨s1, s2, s3⟩, s4, s5, _⟩ := TI_slt hx hP I sp s ti
          refine vX9_passAll_55 sp _ s rsp ⟨by omega, by omega⟩ ⟨by omega, by omega⟩ w Q ?_
          rw [wC.1.1.1]
          refine ⟨fun z => by omega, fun _ => ⟨fun z => h s w ⟨by omega, wn⟩ wC wF, fun z => ?_⟩⟩
          have wn' : ∀ r, r < s + 1 → (zAll x I P sp r).2 ≠ x.1 := fun r hr => by
            by_cases e : r = s
            · rw [e]; omega
            · exact wn r (by omega)
          refine c_comeAll s P (by omega) x hx hP.2 I hI4 _ ti.1.1 ti.2 w wC _ (fun w1 C1 F1 => ?_)
          refine c_matchStable P hP x hx I hI hI4 _ s1 w1 C1 _ (fun w2 C2 F2 => ?_)
          refine c_sendAll s P (by omega) hP x hx I hI4 (zStb x I P (zCm x I s (zAll x I P sp s).1), (zAll x I P sp s).2) s2 w2 C2 _ (fun w3 C3 F3 _ => ?_)
          have ez : (zAll x I P sp s).2 + ((zSnd x I P s (zStb x I P (zCm x I s (zAll x I P sp s).1), (zAll x I P sp s).2)).2 - (zAll x I P sp s).2) = (zAll x I P sp (s + 1)).2 := by
            show _ = (zSnd x I P s (zStb x I P (zCm x I s (zAll x I P sp s).1), (zAll x I P sp s).2)).2
            omega
          have ezz : ∀ Z : MS × Int, zSlt x I P sp s (zAll x I P sp s) = Z → zAll x I P sp (s + 1) = Z := fun Z hZ => hZ
          show (¬ sp = 2 → kX9_passAll_55 l G sp ((zAll x I P sp s).2 + ((zSnd x I P s (zStb x I P (zCm x I s (zAll x I P sp s).1), (zAll x I P sp s).2)).2 - (zAll x I P sp s).2)) (s + 1) w3 Q) ∧ (sp = 2 → eX9_matchStable l G w3 (fun σ20 => kX9_passAll_55 l G sp ((zAll x I P sp s).2 + ((zSnd x I P s (zStb x I P (zCm x I s (zAll x I P sp s).1), (zAll x I P sp s).2)).2 - (zAll x I P sp s).2)) (s + 1) σ20 Q))
          rw [ez, show ((s : Int) + 1) = ((s + 1 : Nat) : Int) by omega]
          refine ⟨fun e => ihm (s + 1) w3 (by omega) ?_ (((wF.trans F1).trans F2).trans F3) wn', fun e => c_matchStable P hP x hx I hI hI4 _ s3.1 w3 C3 _ (fun w4 C4 F4 => ihm (s + 1) w4 (by omega) ?_ ((((wF.trans F1).trans F2).trans F3).trans F4) wn')⟩
          · have : (zAll x I P sp (s + 1)).1 = (zSnd x I P s (zStb x I P (zCm x I s (zAll x I P sp s).1), (zAll x I P sp s).2)).1 := by
              show (if sp = 2 then _ else _) = _
              rw [if_neg e]
            rw [this]; exact C3
          · have : (zAll x I P sp (s + 1)).1 = zStb x I P (zSnd x I P s (zStb x I P (zCm x I s (zAll x I P sp s).1), (zAll x I P sp s).2)).1 := by
              show (if sp = 2 then _ else _) = _
              rw [if_pos e]
            rw [this]; exact C4
      exact L 401 0 υ (by omega) C0 F0 (fun r hr => by omega)
end SR
