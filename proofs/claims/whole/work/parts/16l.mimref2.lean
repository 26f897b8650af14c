section ST
variable {l : Launch} {G : gG}
theorem c_stable (P : Int) (hP : 1 ≤ P ∧ P ≤ 6) (x : Tk) (hx : OKT P x) (I : Int → Int) (M : MS) (hM : WM x M) (σ : gS) (hC : RMm σ x I P M) (Q : gS → Prop) (h : ∀ τ, RMm τ x I P (zStb x I P M) → frU σ τ → Q τ) : eX12_stable l G σ Q := by
  have h40 := hx.2.1
  have hx0 := hx.1
  -- cells taken out of their rows
  have T : ∀ (A : AS) (τ : gS), A.1 = kpF x I P M → RMm τ x I P M → (∀ i, 0 ≤ i → i < 6 → gI τ 127 i = A.1 i) → frU σ τ → kX12_stable_154 l G 0 0 τ Q := by
    intro A τ eA tS t78 tF
    obtain ⟨_, _, _, hk⟩ := zStb_at hx hP I hM
    rw [eA] at t78
    refine gloopI (α := gS) 0 P (fun i υ => i ≤ P ∧ RMm υ x I P (gfold (fTk x (kpF x I P M)) M i.toNat) ∧ (∀ j, 0 ≤ j → j < 6 → gI υ 127 j = kpF x I P M j) ∧ frU σ υ) (fun i υ => kX12_stable_154 l G 0 i υ Q) ?_ ?_ 0 τ (by omega) ⟨by omega, tS, t78, tF⟩
    · rintro i υ i0 i1 ⟨z0, z1, z2, z3⟩ ih
      obtain ⟨a, b, c⟩ := fTk_at hx hP hM hk i.toNat (by omega)
      have ste : gfold (fTk x (kpF x I P M)) M (i + 1).toNat = fTk x (kpF x I P M) i (gfold (fTk x (kpF x I P M)) M i.toNat) := gfold_s i0
      rw [ste] at ih
      have hki := hk i i0 (by omega)
      generalize gfold (fTk x (kpF x I P M)) M i.toNat = Y at *
      unfold fTk at ih
      have ri : gR i := ⟨by omega, by omega⟩
      refine vX12_stable_154 0 i (by decide) ri υ Q ?_
      rw [z1.1.2, z2 i i0 (by omega)]
      refine ⟨fun z => by omega, fun _ => ⟨by omega, fun e => ?_, fun e => ?_⟩⟩
      · rw [if_neg e] at ih
        obtain ⟨k1, k2, k3⟩ := hki e
        have w1 : Y.2.2.1 (kpF x I P M i) = 1 := by rw [b _ k1.1 k1.2, if_neg (by omega)]; exact k2
        generalize ek : kpF x I P M i = k at *
        obtain ⟨⟨p0, p1⟩, p2, p3⟩ := plc_at hx hP.2 a k1.1 k1.2 w1
        have li := WM_ld hx a i0 (by omega)
        rw [k3] at p1 p2
        refine c_placeIn P x hx hP.2 I Y a k ⟨k1, w1⟩ υ z1 _ (fun _ => ?_)
        rw [z1.2.1 i i0 (by omega)]
        refine ⟨⟨by omega, by omega⟩, fun υ1 f1 => ?_⟩
        generalize ea : plc x Y k = pl at *
        have g1 : ∀ c j, c ≠ 124 → gI υ1 c j = gI υ c j := fun c j hc => by rw [f1, sI_ne hc]
        have e124 : ∀ j, gI υ1 124 j = if j = i then Y.2.1 i - 1 else gI υ 124 j := fun j => by
          rw [f1, sI_at]
          by_cases q : j = i
          · rw [if_pos ⟨rfl, q⟩, if_pos q]
          · rw [if_neg (fun z => q z.2), if_neg q]
        refine gloopI (α := gS) pl (Y.2.1 i - 1) (fun n w => n ≤ Y.2.1 i - 1 ∧ (∀ p, gI w 123 p = if 40 * i + pl ≤ p ∧ p < 40 * i + n then gI υ 123 (p + 1) else gI υ 123 p) ∧ ∀ c j, c ≠ 123 → gI w c j = gI υ1 c j) (fun n w => kX12_stable_199 l G 0 i pl n w Q) ?_ ?_ pl υ1 (by omega) ⟨by omega, fun p => by rw [if_neg (by omega), g1 _ _ (by omega)], fun _ _ _ => rfl⟩
        · rintro n w n0 n1 ⟨y0, y1, y2⟩ ih2
          refine vX12_stable_199 0 i pl n (by decide) ri ⟨by omega, by omega⟩ ⟨by omega, by omega⟩ w Q ?_
          rw [y2 124 i (by omega), e124, if_pos rfl]
          refine ⟨by omega, fun z => by omega, fun _ => ⟨by omega, by omega, fun w1' f2 => ih2 w1' ⟨by omega, fun p => ?_, fun c j hc => by rw [f2, sI_ne hc]; exact y2 c j hc⟩⟩⟩
          rw [f2, sI_at, y1 p, y1]
          by_cases q : p = 40 * i + n
          · rw [if_pos ⟨rfl, q⟩, if_neg (by omega), if_pos (by omega), q]
          · rw [if_neg (fun z => q z.2)]
            by_cases q2 : 40 * i + pl ≤ p ∧ p < 40 * i + n
            · rw [if_pos q2, if_pos (by omega)]
            · rw [if_neg q2, if_neg (by omega)]
        · rintro n w n0 ⟨y0, y1, y2⟩
          have hn : n = Y.2.1 i - 1 := by omega
          have w127 : gI w 127 i = k := by rw [y2 _ _ (by omega), g1 _ _ (by omega), z2 i i0 (by omega), ek]
          refine vX12_stable_199 0 i pl n (by decide) ri ⟨by omega, by omega⟩ ⟨by omega, by omega⟩ w Q ?_
          rw [y2 124 i (by omega), e124, if_pos rfl, w127]
          refine ⟨by omega, fun _ => ⟨by omega, fun w' f2 => ih w' ?_⟩, fun z => by omega⟩
          have F : frU σ w' := z3.trans (fun c j hc => by rw [f2, sI_ne (by omega), y2 c j (by omega), g1 c j (by omega)])
          refine ⟨by omega, ⟨RT.u hC.1 F, fun j j0 j1 => ?_, fun j j' j0 j1 j0' j1' => ?_, fun c c0 c1 => ?_, fun c c0 c1 hc => ?_⟩, fun j j0 j1 => by rw [f2, sI_ne (by omega), y2 _ _ (by omega), g1 _ _ (by omega)]; exact z2 j j0 j1, F⟩
          · show gI w' 124 j = fup Y.2.1 (x.2.1 k) (Y.2.1 (x.2.1 k) - 1) j
            rw [k3, f2, sI_ne (by omega), y2 _ _ (by omega), e124, fup_at]
            by_cases q : j = i
            · rw [if_pos q, if_pos q]
            · rw [if_neg q, if_neg q]; exact z1.2.1 j j0 j1
          · have j1' : j' < fup Y.2.1 (x.2.1 k) (Y.2.1 (x.2.1 k) - 1) j := j1'
            have l2 := WM_ld hx a j0 j1
            show gI w' 123 (40 * j + j') = (if 40 * x.2.1 k + plc x Y k ≤ 40 * j + j' ∧ 40 * j + j' < 40 * x.2.1 k + Y.2.1 (x.2.1 k) - 1 then Y.1 (40 * j + j' + 1) else Y.1 (40 * j + j'))
            rw [k3] at j1' ⊢
            rw [ea, f2, sI_ne (by omega), y1, hn]
            by_cases e2 : j = i
            · rw [e2, fup_eq] at j1'
              rw [e2]
              by_cases e3 : 40 * i + pl ≤ 40 * i + j' ∧ 40 * i + j' < 40 * i + (Y.2.1 i - 1)
              · rw [if_pos e3, if_pos (by omega), show 40 * i + j' + 1 = 40 * i + (j' + 1) by omega]
                exact z1.2.2.1 _ (j' + 1) i0 (by omega) (by omega) (by omega)
              · rw [if_neg e3, if_neg (by omega)]
                exact z1.2.2.1 _ j' i0 (by omega) j0' (by omega)
            · rw [fup_ne e2] at j1'
              rw [if_neg (by omega), if_neg (by omega)]
              exact z1.2.2.1 j j' j0 j1 j0' j1'
          · show gI w' 125 c = fup Y.2.2.1 k 2 c
            rw [f2, sI_at, fup_at]
            by_cases q : c = k
            · rw [if_pos ⟨rfl, q⟩, if_pos q]
            · rw [if_neg (fun z => q z.2), if_neg q, y2 _ _ (by omega), g1 _ _ (by omega)]; exact z1.2.2.2.1 c c0 c1
          · have hc : fup Y.2.2.1 k 2 c = 3 := hc
            have q : c ≠ k := fun z => by rw [z, fup_eq] at hc; omega
            rw [fup_ne q] at hc
            rw [f2, sI_ne (by omega), y2 _ _ (by omega), g1 _ _ (by omega)]; exact z1.2.2.2.2 c c0 c1 hc
      · rw [if_pos e] at ih; exact ih υ ⟨by omega, z1, z2, z3⟩
    · rintro i υ i0 ⟨z0, z1, z2, z3⟩
      have hi : i = P := by omega
      subst hi
      refine vX12_stable_154 0 i (by decide) ⟨by omega, by omega⟩ υ Q ?_
      rw [z1.1.2]
      exact ⟨fun _ => h υ z1 z3, fun z => by omega⟩
  -- rounds of asking
  have R : ∀ (m : Nat) (r : Int) (τ : gS), 0 ≤ r → r ≤ x.1 + 1 → x.1 + 1 ≤ r + m → RA τ x I P M (aRs x I P M r.toNat) → frU σ τ → kX12_stable_46 l G (aRs x I P M r.toNat).2.2 τ Q := by
    intro m
    induction m with
    | zero =>
      intro r τ r0 r1 r2 tC tF
      have er : r = x.1 + 1 := by omega
      have en : (aRs x I P M r.toNat).2.2 = 0 := by rw [er]; exact aRs_end hx hP I M
      rw [en]
      exact vX12_stable_46 0 (by decide) τ Q ⟨fun _ => T (aRs x I P M r.toNat) τ (by rw [er]; rfl) tC.1 tC.2.1 tF, fun z => absurd rfl z⟩
    | succ m ihm =>
      intro r τ r0 r1 r2 tC tF
      obtain ⟨kk, _⟩ := KI_rs hx hP I M r.toNat
      refine vX12_stable_46 _ (gR_01 kk.2.2.2) τ Q ⟨fun e => ?_, fun e => ?_⟩
      · rw [e]
        exact T (aRs x I P M r.toNat) τ (aRs_kp e (by omega)) tC.1 tC.2.1 tF
      · have r3 : r < x.1 + 1 := by
          by_cases q : r = x.1 + 1
          · exfalso
            apply e
            rw [q]; exact aRs_end hx hP I M
          · omega
        have ers : aRs x I P M (r + 1).toNat = gfold (aSt x I P M) ((aRs x I P M r.toNat).1, (aRs x I P M r.toNat).2.1, 0) P.toNat := by
          rw [show (r + 1).toNat = r.toNat + 1 by omega]
          show (if (aRs x I P M r.toNat).2.2 = 0 then _ else aRd x I P M (aRs x I P M r.toNat)) = _
          rw [if_neg e]; rfl
        have goo := ihm (r + 1)
        rw [ers] at goo
        have KF := fun n => (KI_fold hx hP (I := I) kk n).1
        generalize hB : ((aRs x I P M r.toNat).1, (aRs x I P M r.toNat).2.1, (0 : Int)) = B at *
        have tB : RA τ x I P M B := by
          unfold RA at *
          rw [← hB]; exact tC
        have B0 : B.2.2 = 0 := by rw [← hB]
        refine gloopI (α := gS) 0 P (fun o υ => o ≤ P ∧ RA υ x I P M (gfold (aSt x I P M) B o.toNat) ∧ frU σ υ) (fun o υ => kX12_stable_54 l G (gfold (aSt x I P M) B o.toNat).2.2 o υ Q) ?_ ?_ 0 τ (by omega) ⟨by omega, tB, tF⟩ |> fun q => by
          have q : kX12_stable_54 l G B.2.2 0 τ Q := q
          rw [B0] at q; exact q
        · rintro o υ o0 o1 ⟨z0, z1, z2⟩ ih
          have ste : gfold (aSt x I P M) B (o + 1).toNat = aSt x I P M o (gfold (aSt x I P M) B o.toNat) := gfold_s o0
          rw [ste] at ih
          have ki := KF o.toNat
          generalize gfold (aSt x I P M) B o.toNat = A at *
          refine vX12_stable_54 _ o (gR_01 ki.2.2.2) ⟨by omega, by omega⟩ υ Q ?_
          rw [z1.1.1.2]
          refine ⟨fun z => by omega, fun _ => c_isKept o P hP (by omega) x hx I M A ki υ z1 _ (fun _ => ⟨fun y => ?_, fun y => ?_⟩)⟩
          · refine c_nextAsk o P (by omega) x hx I M A ki υ z1 _ (fun _ => ?_)
            unfold aSt at ih
            rw [if_pos y] at ih
            have zz := zLst_is (c := cNx x M.2.2.1 A.2.1 o) (I := I) x.1.toNat
            generalize zLst (cNx x M.2.2.1 A.2.1 o) I x.1.toNat = k at *
            refine ⟨fun e2 => ?_, fun e2 => ?_⟩
            · rw [if_neg e2] at ih
              rcases zz with q | ⟨k0, k1, k2, _⟩
              · exact absurd q.1 e2
              · unfold cNx at k2
                simp only [Bool.and_eq_true, decide_eq_true_eq] at k2
                obtain ⟨⟨ko, kw⟩, ka⟩ := k2
                have k1 : k < x.1 := by omega
                have xk := hx.2.2 k k0 k1
                refine ⟨by omega, fun υ1 f1 => ?_⟩
                have g1 : ∀ c j, c ≠ 126 → gI υ1 c j = gI υ c j := fun c j hc => by rw [f1, sI_ne hc]
                have F1 : frU σ υ1 := z2.trans (by rw [f1]; exact frU.set (by omega))
                have S1 : RMm υ1 x I P M := ⟨RT.u hC.1 F1, fun i i0 i1 => by rw [g1 _ _ (by omega)]; exact z1.1.2.1 i i0 i1, fun i j i0 i1 j0 j1 => by rw [g1 _ _ (by omega)]; exact z1.1.2.2.1 i j i0 i1 j0 j1, fun c c0 c1 => by rw [g1 _ _ (by omega)]; exact z1.1.2.2.2.1 c c0 c1, fun c c0 c1 hc => by rw [g1 _ _ (by omega)]; exact z1.1.2.2.2.2 c c0 c1 hc⟩
                have k126 : ∀ c, 0 ≤ c → c < x.1 → gI υ1 126 c = fup A.2.1 k 1 c := fun c c0 c1 => by
                  rw [f1, sI_at, fup_at]
                  by_cases q : c = k
                  · rw [if_pos ⟨rfl, q⟩, if_pos q]
                  · rw [if_neg (fun z => q z.2), if_neg q]; exact z1.2.2 c c0 c1
                have e118 : gI υ1 118 k = x.2.1 k := by rw [g1 _ _ (by omega)]; exact (z1.1.1.1.1.2 k k0 k1).1
                have e127 : gI υ1 127 (x.2.1 k) = A.1 (x.2.1 k) := by rw [g1 _ _ (by omega)]; exact z1.2.1 _ (by omega) (by omega)
                rw [e118, e127]
                -- one that is kept anew
                have fin : ∀ w, w = sI υ1 127 (x.2.1 k) k → (aNew x M k A).1 = fup A.1 (x.2.1 k) k → kX12_stable_54 l G 1 (o + 1) w Q := fun w fw ea => by
                  have g2 : ∀ c j, c ≠ 127 → gI w c j = gI υ1 c j := fun c j hc => by rw [fw, sI_ne hc]
                  have F2 : frU σ w := F1.trans (by rw [fw]; exact frU.set (by omega))
                  refine ih w ⟨by omega, ⟨⟨RT.u hC.1 F2, fun i i0 i1 => by rw [g2 _ _ (by omega)]; exact S1.2.1 i i0 i1, fun i j i0 i1 j0 j1 => by rw [g2 _ _ (by omega)]; exact S1.2.2.1 i j i0 i1 j0 j1, fun c c0 c1 => by rw [g2 _ _ (by omega)]; exact S1.2.2.2.1 c c0 c1, fun c c0 c1 hc => by rw [g2 _ _ (by omega)]; exact S1.2.2.2.2 c c0 c1 hc⟩, fun i i0 i1 => ?_, fun c c0 c1 => by rw [g2 _ _ (by omega)]; exact k126 c c0 c1⟩, F2⟩
                  rw [ea, fw, sI_at, fup_at]
                  by_cases q : i = x.2.1 k
                  · rw [if_pos ⟨rfl, q⟩, if_pos q]
                  · rw [if_neg (fun z => q z.2), if_neg q, g1 _ _ (by omega)]; exact z1.2.1 i i0 i1
                refine ⟨by omega, fun z w fw => fin w fw (by unfold aNew; rw [if_pos z]), fun z => ?_⟩
                obtain ⟨a1, a2, a3⟩ := ki.1 (x.2.1 k) (by omega) (by omega) z
                refine c_placeIn P x hx hP.2 I M hM k ⟨⟨k0, k1⟩, kw⟩ υ1 S1 _ (fun _ => ?_)
                rw [e127]
                refine c_placeIn P x hx hP.2 I M hM _ ⟨a1, a2⟩ υ1 S1 _ (fun _ => ⟨fun q => ?_, fun q w fw => fin w fw (by unfold aNew; rw [if_neg z, if_pos q])⟩)
                have ea : (aNew x M k A).1 = A.1 := by unfold aNew; rw [if_neg z, if_neg (by omega)]
                exact ih υ1 ⟨by omega, ⟨S1, fun i i0 i1 => by rw [ea, g1 _ _ (by omega)]; exact z1.2.1 i i0 i1, k126⟩, F1⟩
            · rw [if_pos e2] at ih; exact ih υ ⟨by omega, z1, z2⟩
          · have es : aSt x I P M o A = A := by unfold aSt; rw [if_neg y]
            rw [es] at ih
            exact ih υ ⟨by omega, z1, z2⟩
        · rintro o υ o0 ⟨z0, z1, z2⟩
          have ho : o = P := by omega
          subst ho
          have ki := KF o.toNat
          refine vX12_stable_54 _ o (gR_01 ki.2.2.2) ⟨by omega, by omega⟩ υ Q ?_
          rw [z1.1.1.2]
          exact ⟨fun _ => goo υ (by omega) (by omega) (by omega) z1 z2, fun z => by omega⟩
  -- at first nothing is kept, nobody has asked
  refine vX12_stable σ Q ?_
  refine gloopI (α := gS) 0 x.1 (fun k τ => k ≤ x.1 ∧ (∀ j, 0 ≤ j → j < k → gI τ 126 j = 0) ∧ ∀ c i, c ≠ 126 → gI τ c i = gI σ c i) (fun k τ => kX12_stable_2 l G k τ Q) ?_ ?_ 0 σ (by omega) ⟨by omega, fun j j0 j1 => by omega, fun _ _ _ => rfl⟩
  · rintro k τ k0 k1 ⟨z0, z1, z2⟩ ih
    refine vX12_stable_2 k ⟨by omega, by omega⟩ τ Q ?_
    rw [z2 88 50 (by omega), hC.1.1.1.1]
    refine ⟨fun z => by omega, fun _ => ⟨by omega, fun w ew => ih w ⟨by omega, fun j j0 j1 => ?_, fun c i hc => by rw [ew, sI_ne hc]; exact z2 c i hc⟩⟩⟩
    rw [ew, sI_at]
    split
    · rfl
    · rename_i q; exact z1 j j0 (by omega)
  · rintro k τ k0 ⟨z0, z1, z2⟩
    have hk : k = x.1 := by omega
    subst hk
    refine vX12_stable_2 x.1 ⟨by omega, by omega⟩ τ Q ?_
    rw [z2 88 50 (by omega), hC.1.1.1.1]
    refine ⟨fun _ => ?_, fun z => by omega⟩
    refine gloopI (α := gS) 0 6 (fun i υ => i ≤ 6 ∧ (∀ j, 0 ≤ j → j < i → gI υ 127 j = -1) ∧ ∀ c j, c ≠ 127 → gI υ c j = gI τ c j) (fun i υ => kX12_stable_25 l G i υ Q) ?_ ?_ 0 τ (by omega) ⟨by omega, fun j j0 j1 => by omega, fun _ _ _ => rfl⟩
    · rintro i υ i0 i1 ⟨y0, y1, y2⟩ ih
      refine vX12_stable_25 i ⟨by omega, by omega⟩ υ Q ⟨fun z => by omega, fun _ => ⟨by omega, fun w ew => ih w ⟨by omega, fun j j0 j1 => ?_, fun c j hc => by rw [ew, sI_ne hc]; exact y2 c j hc⟩⟩⟩
      rw [ew, sI_at]
      split
      · rfl
      · rename_i q; exact y1 j j0 (by omega)
    · rintro i υ i0 ⟨y0, y1, y2⟩
      have hi : i = 6 := by omega
      subst hi
      refine vX12_stable_25 6 (by decide) υ Q ⟨fun _ => ?_, fun z => by omega⟩
      have g : ∀ c i, c ≠ 126 → c ≠ 127 → gI υ c i = gI σ c i := fun c i c1 c2 => (y2 c i c2).trans (z2 c i c1)
      have F : frU σ υ := fun c i hc => g c i (by omega) (by omega)
      exact R (x.1 + 1).toNat 0 υ (by omega) (by omega) (by omega) ⟨⟨RT.u hC.1 F, fun i i0 i1 => by rw [g _ _ (by omega) (by omega)]; exact hC.2.1 i i0 i1, fun i j i0 i1 j0 j1 => by rw [g _ _ (by omega) (by omega)]; exact hC.2.2.1 i j i0 i1 j0 j1, fun c c0 c1 => by rw [g _ _ (by omega) (by omega)]; exact hC.2.2.2.1 c c0 c1, fun c c0 c1 hc => by rw [g _ _ (by omega) (by omega)]; exact hC.2.2.2.2 c c0 c1 hc⟩, y1, fun k k0 k1 => by rw [y2 _ _ (by omega)]; exact z1 k k0 k1⟩ F
theorem c_sendsLeast (s P : Int) (hs : 0 ≤ s ∧ s < 1000) (hP : 1 ≤ P ∧ P ≤ 6) (x : Tk) (hx : OKT P x) (I : Int → Int) (Y : MS × Int) (hY : SI3 x Y) (σ : gS) (hC : RMm σ x I P Y.1) (Q : Int → gS → Prop) (h : ∀ τ, RMm τ x I P (zSnd x I P s Y).1 → frU σ τ → Q ((zSnd x I P s Y).2 - Y.2) τ) : eX12_sendsLeast l G s σ Q := by
  have h40 := hx.2.1
  have hx0 := hx.1
  have rs : gR s := ⟨by omega, by omega⟩
  have br : ∀ n : Nat, 0 ≤ (gfold (fSn x I s) Y n).2 - Y.2 ∧ (gfold (fSn x I s) Y n).2 - Y.2 ≤ 40 := fun n => by
    obtain ⟨a, b, c, d⟩ := zSnd_at hx I s hY n
    have := cn3_r x (gfold (fSn x I s) Y n).1.2.2.1 hx0
    have := cn3_r x Y.1.2.2.1 hx0
    have := a.2
    have := hY.2
    omega
  refine vX12_sendsLeast s rs σ Q ?_
  refine gloopI (α := gS) 0 P (fun o τ => o ≤ P ∧ RMm τ x I P (gfold (fSn x I s) Y o.toNat).1 ∧ frU σ τ) (fun o τ => kX12_sendsLeast_4 l G s ((gfold (fSn x I s) Y o.toNat).2 - Y.2) o τ Q) ?_ ?_ 0 σ (by omega) ⟨by omega, hC, frU.rfl'⟩ |> fun q => by
    have q : kX12_sendsLeast_4 l G s (Y.2 - Y.2) 0 σ Q := q
    rw [show Y.2 - Y.2 = 0 by omega] at q; exact q
  · rintro o τ o0 o1 ⟨z0, z1, z2⟩ ih
    have bo := br o.toNat
    have ste : gfold (fSn x I s) Y (o + 1).toNat = fSn x I s o (gfold (fSn x I s) Y o.toNat) := gfold_s o0
    rw [ste] at ih
    generalize gfold (fSn x I s) Y o.toNat = Z at *
    have ro : gR o := ⟨by omega, by omega⟩
    have rd : gR (Z.2 - Y.2) := ⟨by omega, by omega⟩
    refine vX12_sendsLeast_4 s _ o rs rd ro τ Q ?_
    rw [z1.1.2]
    refine ⟨fun z => by omega, fun _ => ?_⟩
    have hT := z1.1.1
    unfold fSn at ih
    refine gloopF (fLst (cLs x Z.1.2.2.1 o) I) (-1) x.1 hx0 (fun k b => b = -1 ∨ (0 ≤ b ∧ b < k)) (fun k b => kX12_sendsLeast_18 l G s (Z.2 - Y.2) o b k τ Q) (Or.inl rfl) ?_ ?_
    · intro k b k0 k1 hp
      refine ⟨fLst_r k0 hp, fun ih2 => ?_⟩
      have ih2 : kX12_sendsLeast_18 l G s (Z.2 - Y.2) o (fLst (cLs x Z.1.2.2.1 o) I k b) (k + 1) τ Q := ih2
      obtain ⟨d1, d2, d3⟩ := hT.1.2 k k0 k1
      have dI := hT.2 k k0 k1
      unfold fLst at ih2
      have cn : cLs x Z.1.2.2.1 o k = (decide (x.2.2.1 k = o) && decide (Z.1.2.2.1 k = 2)) := rfl
      rw [cn] at ih2
      refine vX12_sendsLeast_18 s _ o b k rs rd ro ⟨by omega, by omega⟩ ⟨by omega, by omega⟩ τ Q ?_
      rw [hT.1.1, z1.2.2.2.1 k k0 k1, d2, dI]
      refine ⟨fun z => by omega, fun _ => ⟨by omega, fun e => ?_, fun e => ⟨fun f => ?_, fun f => ⟨fun e2 => ?_, fun e2 => ⟨by omega, fun e3 => ?_, fun e3 => ?_⟩⟩⟩⟩⟩
      · rw [if_neg (by simp [e])] at ih2; exact ih2
      · rw [if_neg (by simp [f])] at ih2; exact ih2
      · rw [if_pos (by simp [e, f]), if_pos e2] at ih2; exact ih2
      · rw [if_pos (by simp [e, f]), if_neg e2] at ih2
        rw [hT.2 b (by omega) (by omega)] at e3
        rw [if_pos e3] at ih2; exact ih2
      · rw [if_pos (by simp [e, f]), if_neg e2] at ih2
        rw [hT.2 b (by omega) (by omega)] at e3
        rw [if_neg (by omega)] at ih2; exact ih2
    · intro hp
      have ek : gfold (fLst (cLs x Z.1.2.2.1 o) I) (-1) x.1.toNat = zLst (cLs x Z.1.2.2.1 o) I x.1.toNat := rfl
      rw [ek] at hp ⊢
      generalize zLst (cLs x Z.1.2.2.1 o) I x.1.toNat = k at *
      refine vX12_sendsLeast_18 s _ o k x.1 rs rd ro ⟨by omega, by omega⟩ ⟨by omega, by omega⟩ τ Q ?_
      rw [hT.1.1]
      refine ⟨fun _ => ⟨fun e => ⟨by omega, fun τ1 f1 τ2 f2 => ?_⟩, fun e => ?_⟩, fun z => by omega⟩
      · rw [if_neg e] at ih
        have g : ∀ c i, c ≠ 122 → c ≠ 125 → gI τ2 c i = gI τ c i := fun c i c1 c2 => by rw [f2, sI_ne c1, f1, sI_ne c2]
        have F : frU σ τ2 := z2.trans (fun c i hc => g c i (by omega) (by omega))
        have := ih τ2 ⟨by omega, ⟨RT.u hC.1 F, fun i i0 i1 => by rw [g _ _ (by omega) (by omega)]; exact z1.2.1 i i0 i1, fun i j i0 i1 j0 j1 => by rw [g _ _ (by omega) (by omega)]; exact z1.2.2.1 i j i0 i1 j0 j1, fun c c0 c1 => ?_, fun c c0 c1 hc => ?_⟩, F⟩
        · have this : kX12_sendsLeast_4 l G s (Z.2 + 1 - Y.2) (o + 1) τ2 Q := this
          rw [show Z.2 - Y.2 + 1 = Z.2 + 1 - Y.2 by omega]
          exact this
        · show gI τ2 125 c = fup Z.1.2.2.1 k 3 c
          rw [f2, sI_ne (by omega), f1, sI_at, fup_at]
          by_cases q : c = k
          · rw [if_pos ⟨rfl, q⟩, if_pos q]
          · rw [if_neg (fun z => q z.2), if_neg q]; exact z1.2.2.2.1 c c0 c1
        · have hc : fup Z.1.2.2.1 k 3 c = 3 := hc
          show gI τ2 122 c = fup Z.1.2.2.2 k s c
          rw [f2, sI_at, fup_at]
          by_cases q : c = k
          · rw [if_pos ⟨rfl, q⟩, if_pos q]
          · rw [if_neg (fun z => q z.2), if_neg q, f1, sI_ne (by omega)]
            rw [fup_ne q] at hc
            exact z1.2.2.2.2 c c0 c1 hc
      · rw [if_pos e] at ih; exact ih τ ⟨by omega, z1, z2⟩
  · rintro o τ o0 ⟨z0, z1, z2⟩
    have ho : o = P := by omega
    subst ho
    have bo := br o.toNat
    refine vX12_sendsLeast_4 s _ o rs ⟨by omega, by omega⟩ ⟨by omega, by omega⟩ τ Q ?_
    rw [z1.1.2]
    exact ⟨fun _ => h τ z1 z2, fun z => by omega⟩
theorem c_mimics (sp P : Int) (hsp : sp = 1 ∨ sp = 2) (hP : 1 ≤ P ∧ P ≤ 6) (x : Tk) (hx : OKT P x) (I : Int → Int) (σ : gS) (hC : RT σ x I ∧ gI σ 88 10 = P) (Q : gS → Prop) (h : ∀ (e : Nat) τ, isEn x (zAll x I P sp) e → RMm τ x I P (zAll x I P sp e).1 → frU σ τ → Q τ) : eX12_mimics l G sp σ Q := by
  have h40 := hx.2.1
  have hx0 := hx.1
  have rsp : gR sp := ⟨by omega, by omega⟩
  refine vX12_mimics sp rsp σ Q ?_
  refine gloopI (α := gS) 0 6 (fun i τ => i ≤ 6 ∧ (∀ j, 0 ≤ j → j < i → gI τ 124 j = 0) ∧ ∀ c j, c ≠ 124 → gI τ c j = gI σ c j) (fun i τ => kX12_mimics_2 l G sp i τ Q) ?_ ?_ 0 σ (by omega) ⟨by omega, fun j j0 j1 => by omega, fun _ _ _ => rfl⟩
  · rintro i τ i0 i1 ⟨z0, z1, z2⟩ ih
    refine vX12_mimics_2 sp i rsp ⟨by omega, by omega⟩ τ Q ⟨fun z => by omega, fun _ => ⟨by omega, fun w ew => ih w ⟨by omega, fun j j0 j1 => ?_, fun c j hc => by rw [ew, sI_ne hc]; exact z2 c j hc⟩⟩⟩
    rw [ew, sI_at]
    split
    · rfl
    · rename_i q; exact z1 j j0 (by omega)
  · rintro i τ i0 ⟨z0, z1, z2⟩
    have hi : i = 6 := by omega
    subst hi
    refine vX12_mimics_2 sp 6 rsp (by decide) τ Q ⟨fun _ => ?_, fun z => by omega⟩
    refine gloopI (α := gS) 0 x.1 (fun k υ => k ≤ x.1 ∧ (∀ j, 0 ≤ j → j < k → gI υ 125 j = 0) ∧ ∀ c j, c ≠ 125 → gI υ c j = gI τ c j) (fun k υ => kX12_mimics_23 l G sp k υ Q) ?_ ?_ 0 τ (by omega) ⟨by omega, fun j j0 j1 => by omega, fun _ _ _ => rfl⟩
    · rintro k υ k0 k1 ⟨y0, y1, y2⟩ ih
      refine vX12_mimics_23 sp k rsp ⟨by omega, by omega⟩ υ Q ?_
      rw [y2 88 50 (by omega), z2 88 50 (by omega), hC.1.1.1]
      refine ⟨fun z => by omega, fun _ => ⟨by omega, fun w ew => ih w ⟨by omega, fun j j0 j1 => ?_, fun c j hc => by rw [ew, sI_ne hc]; exact y2 c j hc⟩⟩⟩
      rw [ew, sI_at]
      split
      · rfl
      · rename_i q; exact y1 j j0 (by omega)
    · rintro k υ k0 ⟨y0, y1, y2⟩
      have hk : k = x.1 := by omega
      subst hk
      have F0 : frU σ υ := fun c i hc => by rw [y2 c i (by omega)]; exact z2 c i (by omega)
      have C0 : RMm υ x I P (zAll x I P sp 0).1 := ⟨RT.u hC F0, fun i i0 i1 => by rw [y2 _ _ (by omega)]; exact z1 i i0 i1, fun i j _ _ j0 j1 => absurd (show j < 0 from j1) (by omega), y1, fun k _ _ hk => absurd (show (0 : Int) = 3 from hk) (by decide)⟩
      refine vX12_mimics_23 sp x.1 rsp ⟨by omega, by omega⟩ υ Q ?_
      rw [y2 88 50 (by omega), z2 88 50 (by omega), hC.1.1.1]
      refine ⟨fun _ => ?_, fun z => by omega⟩
      have L : ∀ (m s : Nat) (w : gS), s + m = 401 → RMm w x I P (zAll x I P sp s).1 → frU σ w → (∀ r, r < s → (zAll x I P sp r).2 ≠ x.1) → kX12_mimics_51 l G sp (x.1 - (zAll x I P sp s).2) s w Q := by
        intro m
        induction m with
        | zero =>
          intro s w hs wC wF wn
          have es : s = 401 := by omega
          subst es
          have en := zAll_end hx hP I sp
          exact vX12_mimics_51 sp _ _ rsp ⟨by omega, by omega⟩ ⟨by omega, by omega⟩ w Q ⟨fun _ => h 401 w ⟨en, wn⟩ wC wF, fun z => by omega⟩
        | succ m ihm =>
          intro s w hs wC wF wn
          have ti := TI_all hx hP I sp s
          have cr := cn3_r x (zAll x I P sp s).1.2.2.1 hx0
          have c2 := ti.1.2
          obtain ⟨⟨s1, s2, s3⟩, s4, s5, _⟩ := TI_slt hx hP I sp s ti
          refine vX12_mimics_51 sp _ s rsp ⟨by omega, by omega⟩ ⟨by omega, by omega⟩ w Q ⟨fun z => h s w ⟨by omega, wn⟩ wC wF, fun z => ?_⟩
          have wn' : ∀ r, r < s + 1 → (zAll x I P sp r).2 ≠ x.1 := fun r hr => by
            by_cases e : r = s
            · rw [e]; omega
            · exact wn r (by omega)
          have hlt : (zAll x I P sp s).2 ≤ x.1 ∧ 0 ≤ (zAll x I P sp s).2 := by omega
          have rl : gR (x.1 - (zAll x I P sp s).2) := ⟨by omega, by omega⟩
          have rS : gR (s : Int) := ⟨by omega, by omega⟩
          refine gloopI (α := gS) 0 x.1 (fun k v => k ≤ x.1 ∧ RMm v x I P (gfold (fCm x I s) (zAll x I P sp s).1 k.toNat) ∧ frU σ v) (fun k v => kX12_mimics_58 l G sp (x.1 - (zAll x I P sp s).2) s k v Q) ?_ ?_ 0 w (by omega) ⟨by omega, wC, wF⟩
          · rintro k v k0 k1 ⟨q0, q1, q2⟩ ih
            obtain ⟨a, b⟩ := zCm_at hx hP.2 (I := I) ti.1.1 ti.2 k.toNat (by omega)
            have ste : gfold (fCm x I s) (zAll x I P sp s).1 (k + 1).toNat = fCm x I s k (gfold (fCm x I s) (zAll x I P sp s).1 k.toNat) := gfold_s k0
            rw [ste] at ih
            have bk := b k k0 k1
            rw [if_neg (by omega)] at bk
            generalize gfold (fCm x I s) (zAll x I P sp s).1 k.toNat = Y at *
            unfold fCm at ih
            obtain ⟨d1, d2, d3⟩ := q1.1.1.1.2 k k0 k1
            refine vX12_mimics_58 sp _ s k rsp rl rS ⟨by omega, by omega⟩ v Q ?_
            rw [q1.1.1.1.1, d3]
            refine ⟨fun z => by omega, fun _ => ⟨by omega, fun e => ?_, fun e => ?_⟩⟩
            · rw [if_neg e] at ih; exact ih v ⟨by omega, q1, q2⟩
            · rw [if_pos e] at ih
              have w0 : Y.2.2.1 k = 0 := by rw [bk]; exact (ti.2 k k0 k1).mpr (by omega)
              exact c_putsIn k P x hx hP.2 I Y a ⟨k0, k1⟩ w0 v q1 _ (fun u u1 u2 => ih u ⟨by omega, u1, q2.trans u2⟩)
          · rintro k v k0 ⟨q0, q1, q2⟩
            have hk : k = x.1 := by omega
            subst hk
            have q1 : RMm v x I P (zCm x I s (zAll x I P sp s).1) := q1
            refine vX12_mimics_58 sp _ s x.1 rsp rl rS ⟨by omega, by omega⟩ v Q ?_
            rw [q1.1.1.1.1]
            refine ⟨fun _ => ?_, fun z => by omega⟩
            refine c_stable P hP x hx I _ s1 v q1 _ (fun w2 C2 F2 => ?_)
            refine c_sendsLeast s P (by omega) hP x hx I (zStb x I P (zCm x I s (zAll x I P sp s).1), (zAll x I P sp s).2) s2 w2 C2 _ (fun w3 C3 F3 _ => ?_)
            have ez : x.1 - (zAll x I P sp s).2 - ((zSnd x I P s (zStb x I P (zCm x I s (zAll x I P sp s).1), (zAll x I P sp s).2)).2 - (zAll x I P sp s).2) = x.1 - (zAll x I P sp (s + 1)).2 := by
              show _ = x.1 - (zSnd x I P s (zStb x I P (zCm x I s (zAll x I P sp s).1), (zAll x I P sp s).2)).2
              omega
            show (¬ sp = 2 → kX12_mimics_51 l G sp (x.1 - (zAll x I P sp s).2 - ((zSnd x I P s (zStb x I P (zCm x I s (zAll x I P sp s).1), (zAll x I P sp s).2)).2 - (zAll x I P sp s).2)) (s + 1) w3 Q) ∧ (sp = 2 → eX12_stable l G w3 (fun σ20 => kX12_mimics_51 l G sp (x.1 - (zAll x I P sp s).2 - ((zSnd x I P s (zStb x I P (zCm x I s (zAll x I P sp s).1), (zAll x I P sp s).2)).2 - (zAll x I P sp s).2)) (s + 1) σ20 Q))
            rw [ez, show ((s : Int) + 1) = ((s + 1 : Nat) : Int) by omega]
            refine ⟨fun e => ihm (s + 1) w3 (by omega) ?_ ((q2.trans F2).trans F3) wn', fun e => c_stable P hP x hx I _ s3.1 w3 C3 _ (fun w4 C4 F4 => ihm (s + 1) w4 (by omega) ?_ (((q2.trans F2).trans F3).trans F4) wn')⟩
            · have : (zAll x I P sp (s + 1)).1 = (zSnd x I P s (zStb x I P (zCm x I s (zAll x I P sp s).1), (zAll x I P sp s).2)).1 := by
                show (if sp = 2 then _ else _) = _
                rw [if_neg e]
              rw [this]; exact C3
            · have : (zAll x I P sp (s + 1)).1 = zStb x I P (zSnd x I P s (zStb x I P (zCm x I s (zAll x I P sp s).1), (zAll x I P sp s).2)).1 := by
                show (if sp = 2 then _ else _) = _
                rw [if_pos e]
              rw [this]; exact C4
      have := L 401 0 υ (by omega) C0 F0 (fun r hr => by omega)
      have e0 : x.1 - (zAll x I P sp 0).2 = x.1 := by show x.1 - 0 = x.1; omega
      rw [e0] at this
      exact this
end ST
