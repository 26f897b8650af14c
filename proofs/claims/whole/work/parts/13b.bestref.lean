section SE
variable {l : Launch} {G : gG}
theorem c_worth (i o hv : Int) (hi : 0 ≤ i ∧ i < 6) (ho : 0 ≤ o ∧ o < 6) (hh : hv = 0 ∨ hv = 1) (q : Int → Int) (σ : gS) (h95 : gI σ 95 (6 * i + o) = q (6 * i + o)) (hq : ¬ q (6 * i + o) = 0) (Q : Int → gS → Prop) (h : Q (wJ q hv (6 * i + o)) σ) : eX12_worth l G i o hv σ Q := by
  refine vX12_worth i o hv ⟨by omega, by omega⟩ ⟨by omega, by omega⟩ (gR_01 hh) σ Q (c_at i o hi ho σ _ (fun _ => ⟨by omega, fun _ => ⟨fun z => ?_, fun z => c_at i o hi ho σ _ (fun _ => ⟨by omega, ?_⟩)⟩, fun z => absurd (by rw [← h95]; exact z) hq⟩))
  · unfold wJ at h; rw [if_pos z] at h; exact h
  · unfold wJ at h; rw [if_neg z] at h; rw [h95]; exact h
theorem c_judges (q : Int → Int) (P hv : Int) (hP : 1 ≤ P ∧ P ≤ 6) (hh : hv = 0 ∨ hv = 1) (hq : ∀ k, 0 ≤ k → k < 36 → 0 ≤ q k ∧ q k ≤ 9) (σ : gS) (h3 : gI σ 88 10 = P) (h53 : ∀ k, 0 ≤ k → k < 36 → gI σ 95 k = q k) (Q : gS → Prop)
    (h : ∀ τ, (∀ i, 0 ≤ i → i ≤ P → ∀ s, 0 ≤ s → s < 2 ^ P.toNat → gI τ 116 (64 * i + s) = zRow q P hv (P - i).toNat s) → (∀ c k, c ≠ 116 → gI τ c k = gI σ c k) → Q τ) : eX12_judges l G hv σ Q := by
  have t2 := two_pow_P hP
  have rh : gR hv := gR_01 hh
  have sh := (pow_full hP).2.2
  refine vX12_judges hv rh σ Q ?_
  refine gloopI (α := gS) 0 64 (fun s τ => s ≤ 64 ∧ (∀ k, 0 ≤ k → k < s → gI τ 116 (64 * P + k) = 0) ∧ (∀ c k, c ≠ 116 → gI τ c k = gI σ c k)) (fun s τ => kX12_judges_2 l G hv s τ Q) ?_ ?_ 0 σ (by omega) ⟨by omega, fun k k0 k1 => by omega, fun _ _ _ => rfl⟩
  · rintro s τ s0 s1 ⟨z0, z1, z2⟩ ih
    refine vX12_judges_2 hv s rh ⟨by omega, by omega⟩ τ Q ?_
    rw [z2 88 10 (by omega), h3]
    refine ⟨fun z => by omega, fun _ => ⟨by omega, fun w ew => ih w ⟨by omega, fun k k0 k1 => ?_, fun c k hc => by rw [ew, sI_ne hc]; exact z2 c k hc⟩⟩⟩
    rw [ew, sI_at]
    split
    · rfl
    · rename_i z; exact z1 k k0 (by omega)
  · rintro s τ s0 ⟨z0, z1, z2⟩
    have hs : s = 64 := by omega
    subst hs
    refine vX12_judges_2 hv 64 rh (by decide) τ Q ?_
    rw [z2 88 10 (by omega), h3]
    refine ⟨fun _ => ?_, fun z => by omega⟩
    have L : ∀ (n : Nat) (υ : gS), (n : Int) ≤ P → (∀ i, (n : Int) ≤ i → i ≤ P → ∀ s, 0 ≤ s → s < 2 ^ P.toNat → gI υ 116 (64 * i + s) = zRow q P hv (P - i).toNat s) → (∀ c k, c ≠ 116 → gI υ c k = gI σ c k) → kX12_judges_36 l G hv ((n : Int) - 1) υ Q := by
      intro n
      induction n with
      | zero =>
        intro υ _ y1 y2
        exact vX12_judges_36 hv _ rh ⟨by omega, by omega⟩ υ Q ⟨fun _ => h υ (fun i i0 i1 s s0 s1 => y1 i (by omega) i1 s s0 s1) y2, fun z => by omega⟩
      | succ n ihn =>
        intro υ hn y1 y2
        refine vX12_judges_36 hv _ rh ⟨by omega, by omega⟩ υ Q ⟨fun z => by omega, fun _ => ?_⟩
        rw [show (((n + 1 : Nat) : Int) - 1) = (n : Int) by omega]
        have rn : gR (n : Int) := ⟨by omega, by omega⟩
        refine gloopI (α := gS) 0 (2 ^ P.toNat) (fun s w => s ≤ 2 ^ P.toNat ∧ (∀ k, 0 ≤ k → k < s → gI w 116 (64 * n + k) = zRow q P hv (P - n).toNat k) ∧ (∀ i, (n : Int) + 1 ≤ i → i ≤ P → ∀ s, 0 ≤ s → s < 2 ^ P.toNat → gI w 116 (64 * i + s) = zRow q P hv (P - i).toNat s) ∧ (∀ c k, c ≠ 116 → gI w c k = gI σ c k)) (fun s w => kX12_judges_42 l G hv n s w Q) ?_ ?_ 0 υ (by omega) ⟨by omega, fun k k0 k1 => by omega, fun i i0 i1 => y1 i (by omega) i1, y2⟩
        · rintro s w s0 s1 ⟨x0, x1, x2, x3⟩ ih
          have rs : gR s := ⟨by omega, by omega⟩
          refine vX12_judges_42 hv n s rh rn rs w Q ?_
          have w10 : gI w 88 10 = P := by rw [x3 _ _ (by omega)]; exact h3
          rw [w10, sh]
          refine ⟨fun z => by omega, fun _ => ⟨by omega, ?_⟩⟩
          have nx : ∀ s', 0 ≤ s' → s' < 2 ^ P.toNat → gI w 116 (64 * ((n : Int) + 1) + s') = zRow q P hv (P - 1 - n).toNat s' := fun s' s0' s1' => by rw [x2 (n + 1) (by omega) (by omega) s' s0' s1', show P - (n + 1 : Int) = P - 1 - n by omega]
          rw [nx s s0 s1]
          have rr := zRow_r (hv := hv) hP hq (P - 1 - n).toNat (by omega)
          have e : zRow q P hv (P - n).toNat s = gfold (fJ q hv n s (zRow q P hv (P - 1 - n).toNat)) (zRow q P hv (P - 1 - n).toNat s) P.toNat := by
            rw [show (P - n).toNat = (P - 1 - n).toNat + 1 by omega]
            show gfold (fJ q hv (P - 1 - ((P - 1 - (n : Int)).toNat : Nat)) s _) _ _ = _
            rw [show P - 1 - (((P - 1 - (n : Int)).toNat : Nat) : Int) = n by omega]
          refine gloopF (fJ q hv n s (zRow q P hv (P - 1 - n).toNat)) _ P (by omega) (fun _ m => 0 ≤ m ∧ m ≤ 100) (fun o m => kX12_judges_70 l G hv n s m o w Q) (by have := rr s; omega) ?_ ?_
          · intro o m o0 o1 hp
            have b := rr (gor s (gshl 1 o))
            have wr := wJ_r (hv := hv) (hq (6 * n + o) (by omega) (by omega))
            refine ⟨?_, fun ih2 => ?_⟩
            · unfold fJ
              split
              · exact hp
              · split <;> omega
            have ih2 : kX12_judges_70 l G hv n s (fJ q hv n s (zRow q P hv (P - 1 - n).toNat) o m) (o + 1) w Q := ih2
            unfold fJ at ih2
            have g := gor_64 hP ⟨s0, s1⟩ ⟨o0, o1⟩
            have hk := hq (6 * n + o) (by omega) (by omega)
            have w95 : gI w 95 (6 * n + o) = q (6 * n + o) := by rw [x3 _ _ (by omega)]; exact h53 _ (by omega) (by omega)
            refine vX12_judges_70 hv n s m o rh rn rs ⟨by omega, by omega⟩ ⟨by omega, by omega⟩ w Q ?_
            rw [w10, tb_eq s o (by omega) (by omega)]
            refine ⟨fun z => by omega, fun _ => ?_⟩
            by_cases e1 : tb s o = true
            · rw [if_pos e1] at ih2 ⊢
              exact ⟨fun _ => ih2, fun z => absurd rfl z⟩
            · rw [if_neg e1] at ih2 ⊢
              refine ⟨fun z => absurd z (by decide), fun _ => c_at n o (by omega) (by omega) w _ (fun _ => ⟨by omega, fun z => ?_, fun z => ?_⟩)⟩
              · rw [w95] at z
                rw [if_neg (by omega)] at ih2
                refine c_worth n o hv (by omega) (by omega) hh q w w95 z _ (fun _ => ⟨by omega, ?_⟩)
                rw [nx _ g.1 g.2]
                refine ⟨⟨⟨by omega, by omega⟩, fun _ => trivial, fun _ => trivial⟩, fun v ev => ?_⟩
                have : v = max m (wJ q hv (6 * n + o) + zRow q P hv (P - 1 - n).toNat (gor s (gshl 1 o))) := by
                  rw [ev]; split <;> omega
                rw [this]; exact ih2
              · rw [w95] at z
                rw [if_pos (by omega)] at ih2; exact ih2
          · intro hp
            refine vX12_judges_70 hv n s _ P rh rn rs ⟨by omega, by omega⟩ ⟨by omega, by omega⟩ w Q ?_
            rw [w10, ← e]
            refine ⟨fun _ => ⟨by omega, fun u eu => ih u ⟨by omega, fun k k0 k1 => ?_, fun i i0 i1 s' s0' s1' => ?_, fun c k hc => by rw [eu, sI_ne hc]; exact x3 c k hc⟩⟩, fun z => by omega⟩
            · rw [eu, sI_at]
              by_cases e9 : k = s
              · rw [if_pos ⟨rfl, by omega⟩, e9]
              · rw [if_neg (by omega)]; exact x1 k k0 (by omega)
            · rw [eu, sI_at, if_neg (by omega)]; exact x2 i i0 i1 s' s0' s1'
        · rintro s w s0 ⟨x0, x1, x2, x3⟩
          have hs : s = 2 ^ P.toNat := by omega
          subst hs
          refine vX12_judges_42 hv n _ rh rn ⟨by omega, by omega⟩ w Q ?_
          have w10 : gI w 88 10 = P := by rw [x3 _ _ (by omega)]; exact h3
          rw [w10, sh]
          refine ⟨fun _ => ihn w (by omega) (fun i i0 i1 s s0 s1 => ?_) x3, fun z => by omega⟩
          by_cases e : i = n
          · rw [e]; exact x1 s s0 s1
          · exact x2 i (by omega) i1 s s0 s1
    have := L P.toNat τ (by omega) (fun i i0 i1 s s0 s1 => by
      have : i = P := by omega
      rw [this, z1 s s0 (by omega), show (P - P).toNat = 0 by omega]; rfl) z2
    rw [show ((P.toNat : Nat) : Int) = P by omega] at this
    exact this
theorem c_rowOf (q : Int → Int) (P input : Int) (hP : 1 ≤ P ∧ P ≤ 6) (hi : 0 ≤ input ∧ input < P) (hq : ∀ k, 0 ≤ k → k < 36 → 0 ≤ q k ∧ q k ≤ 9) (σ : gS) (h3 : gI σ 88 10 = P) (h53 : ∀ k, 0 ≤ k → k < 36 → gI σ 95 k = q k) (h68 : ∀ i, 0 ≤ i → i ≤ P → ∀ s, 0 ≤ s → s < 2 ^ P.toNat → gI σ 116 (64 * i + s) = zRow q P 1 (P - i).toNat s) (Q : Int → gS → Prop)
    (h : Q (zFirst q P input) σ) : eX12_rowOf l G input σ Q := by
  have t2 := two_pow_P hP
  have ri : gR input := ⟨by omega, by omega⟩
  refine vX12_rowOf input ri σ Q ?_
  refine gloopF (fRo q P) (0, 6) (input + 1) (by omega) (fun _ x => (0 ≤ x.1 ∧ x.1 < 2 ^ P.toNat) ∧ 0 ≤ x.2 ∧ x.2 ≤ 6) (fun i x => kX12_rowOf_8 l G input x.1 x.2 i σ Q) ⟨⟨by decide, by show (0 : Int) < 2 ^ P.toNat; omega⟩, by decide, by decide⟩ ?_ ?_
  · intro i x i0 i1 hp
    refine ⟨fRo_r hP hp, fun ih => ?_⟩
    have ih : kX12_rowOf_8 l G input (fRo q P i x).1 (fRo q P i x).2 (i + 1) σ Q := ih
    have ri9 : gR i := ⟨by omega, by omega⟩
    have rx : gR x.1 := ⟨by omega, by omega⟩
    have nx : ∀ s', 0 ≤ s' → s' < 2 ^ P.toNat → gI σ 116 (64 * (i + 1) + s') = zRow q P 1 (P - 1 - i).toNat s' := fun s' s0' s1' => by rw [h68 (i + 1) (by omega) (by omega) s' s0' s1', show P - (i + 1) = P - 1 - i by omega]
    refine vX12_rowOf_8 input x.1 x.2 i ri rx ⟨by omega, by omega⟩ ri9 σ Q ⟨fun z => by omega, fun _ => ?_⟩
    rw [h3]
    have L : ∀ (n : Nat) (c : Int), (n : Int) ≤ P → 0 ≤ c ∧ c ≤ 6 → zPk (zTst q P i x.1) n c = zPk (zTst q P i x.1) P.toNat 6 → kX12_rowOf_25 l G input x.1 c i ((n : Int) - 1) σ Q := by
      intro n
      induction n with
      | zero =>
        intro c _ hc e
        have e : c = zPk (zTst q P i x.1) P.toNat 6 := e
        unfold fRo at ih
        rw [← e] at ih
        dsimp only at ih
        refine vX12_rowOf_25 input x.1 c i _ ri rx ⟨by omega, by omega⟩ ri9 ⟨by omega, by omega⟩ σ Q ⟨fun _ v ev => ?_, fun z => by omega⟩
        by_cases z : c = 6
        · rw [if_pos z] at ih ev
          rw [ev, gor_0 x.1 (by omega)]; exact ih
        · rw [if_neg z] at ih ev
          rw [ev]; exact ih
      | succ n ihn =>
        intro c hn hc e
        have e : zPk (zTst q P i x.1) n (if zTst q P i x.1 n = true then n else c) = zPk (zTst q P i x.1) P.toNat 6 := e
        rw [show (((n + 1 : Nat) : Int) - 1) = (n : Int) by omega]
        have ihn' := ihn (if zTst q P i x.1 n = true then n else c) (by omega) (by split <;> omega) e
        rw [show (n : Int) - 1 = n + (-1) by omega] at ihn'
        refine vX12_rowOf_25 input x.1 c i n ri rx ⟨by omega, by omega⟩ ri9 ⟨by omega, by omega⟩ σ Q ⟨fun z => by omega, fun _ => ?_⟩
        rw [tb_eq x.1 n (by omega) (by omega)]
        by_cases e1 : tb x.1 n = true
        · rw [if_pos e1]
          have f : zTst q P i x.1 n = false := by unfold zTst; rw [e1]; rfl
          rw [f, if_neg (by decide)] at ihn'
          exact ⟨fun _ => ihn', fun z => absurd z (by decide)⟩
        · rw [if_neg e1]
          refine ⟨fun z => absurd rfl z, fun _ => c_at i n (by omega) (by omega) σ _ (fun _ => ⟨by omega, fun e2 => ?_, fun e2 => ?_⟩)⟩
          · rw [h53 _ (by omega) (by omega)] at e2
            have f : zTst q P i x.1 n = false := by
              unfold zTst
              rw [show decide (0 < q (6 * i + (n : Int))) = false by simp; omega]
              simp
            rw [f, if_neg (by decide)] at ihn'; exact ihn'
          · rw [h53 _ (by omega) (by omega)] at e2
            have hk := hq (6 * i + n) (by omega) (by omega)
            have g := gor_64 hP hp.1 (o := (n : Int)) (by omega)
            have b := zRow_r (hv := 1) hP hq (P - 1 - i).toNat (by omega) (gor x.1 (gshl 1 n))
            refine c_worth i n 1 (by omega) (by omega) (Or.inr rfl) q σ (h53 _ (by omega) (by omega)) (by omega) _ (fun _ => ⟨by omega, by omega, ?_⟩)
            have wv : wJ q 1 (6 * i + n) = q (6 * i + n) := rfl
            rw [wv, nx _ g.1 g.2, h68 i (by omega) (by omega) x.1 hp.1.1 hp.1.2]
            refine ⟨⟨⟨by omega, by omega⟩, fun _ => trivial, fun _ => trivial⟩, fun v ev u eu => ?_⟩
            have : u = (if zTst q P i x.1 n = true then (n : Int) else c) := by
              by_cases z : q (6 * i + n) + zRow q P 1 (P - 1 - i).toNat (gor x.1 (gshl 1 n)) = zRow q P 1 (P - i).toNat x.1
              · have f : zTst q P i x.1 n = true := by
                  unfold zTst
                  have e1' : tb x.1 n = false := by simpa using e1
                  simp [z, e1', e2]
                rw [if_pos z] at ev
                rw [eu, ev, if_neg (by decide), f, if_pos rfl]
              · have f : zTst q P i x.1 n = false := by
                  unfold zTst
                  simp [z]
                rw [if_neg z] at ev
                rw [eu, ev, if_pos rfl, f, if_neg (by decide)]
            rw [this]; exact ihn'
    have := L P.toNat 6 (by omega) (by omega) rfl
    rw [show ((P.toNat : Nat) : Int) = P by omega] at this
    exact this
  · intro hp
    refine vX12_rowOf_8 input _ _ (input + 1) ri ⟨by omega, by omega⟩ ⟨by omega, by omega⟩ ⟨by omega, by omega⟩ σ Q ⟨fun _ => h, fun z => by omega⟩
end SE
