section MS
variable {l : Launch} {G : gG}
theorem CM.same {σ τ : gS} {b : Nat} {P : Int} {ask : Int → Int → Bool} {X : mX} (h : CM σ b P ask X) (h0 : ∀ i, gI τ b i = gI σ b i) (h1 : ∀ k, 1 ≤ k → k ≤ 4 → ∀ i, gI τ (b + k) i = gI σ (b + k) i) : CM τ b P ask X := by
  obtain ⟨c1, c2, c3, c4, c5⟩ := h
  refine ⟨by rw [h0]; exact c1, by rw [h0]; exact c2, by rw [h0]; exact c3, fun o o0 o1 => ?_, fun o o0 o1 => ?_⟩
  · rw [h1 1 (by omega) (by omega), h1 2 (by omega) (by omega), h1 4 (by omega) (by omega)]; exact c4 o o0 o1
  · rw [h1 3 (by omega) (by omega)]; exact c5 o o0 o1
/-- a round, by the class -/
theorem c_passRound (b : Nat) (hb : b = 45 ∨ b = 59) (P : Int) (hP : 1 ≤ P ∧ P ≤ 6) (ask : Int → Int → Bool) (X : mX) (hX : okX P X) (x1 : Int) (h1 : x1 = 0 ∨ x1 = 1) (σ : gS) (hC : CM σ b P ask X) (Q : Int → gS → Prop)
    (h : ∀ r τ, 0 ≤ r → r ≤ P → (r = 0 → ∀ i, 0 ≤ i → i < P → sBest P (sGd P ask X) i X = -1) → CM τ b P ask (sRound P (decide (x1 = 1)) ask X) → frM b σ τ → Q r τ) : eX4_passRound l G b x1 σ Q := by
  have r1 : gR x1 := gR_01 h1
  have hCp : gI σ b 0 = P := hC.1
  refine vX4_passRound b x1 hb r1 σ Q ?_
  -- the third loop
  have L3 : ∀ τ, CM τ b P ask X → frM b σ τ → (∀ i, 0 ≤ i → i < P → isM (gI τ (b + 5) i) (fun o => decide (o < P) && decide (sGd P ask X o = i))) → kX4_passRound_113 l G b x1 0 0 τ Q := by
    intro τ0 hC0 hF0 hG0
    refine gloopM (α := Int × Int × gS) (fun q => (P - q.2.1).toNat) (fun q => 0 ≤ q.1 ∧ q.1 ≤ q.2.1 ∧ 0 ≤ q.2.1 ∧ q.2.1 ≤ P ∧ CM q.2.2 b P ask (sAccs P (decide (x1 = 1)) (sGd P ask X) q.2.1.toNat X) ∧ frM b σ q.2.2 ∧ (∀ i, gI q.2.2 (b + 5) i = gI τ0 (b + 5) i) ∧ (q.1 = 0 → ∀ i, 0 ≤ i → i < q.2.1 → sBest P (sGd P ask X) i X = -1)) (fun q => kX4_passRound_113 l G b x1 q.1 q.2.1 q.2.2 Q) ?_ (0, 0, τ0) ⟨by show (0 : Int) ≤ 0; omega, by show (0 : Int) ≤ 0; omega, by show (0 : Int) ≤ 0; omega, by show (0 : Int) ≤ P; omega, hC0, hF0, fun _ => rfl, fun _ i i0 i1 => absurd (show i < 0 from i1) (by omega)⟩
    rintro ⟨n, i, τ⟩ ⟨z1, z2, z3, z4, zC, zF, zG, zN⟩ ih
    dsimp only at z1 z2 z3 z4 zC zF zG zN ih ⊢
    have hp : gI τ b 0 = P := zC.1
    have okI := okX_accs (f := decide (x1 = 1)) (gd := sGd P ask X) hX i.toNat (by omega)
    refine vX4_passRound_113 b x1 n i hb r1 ⟨by omega, by omega⟩ ⟨by omega, by omega⟩ τ Q ?_
    rw [hp]
    refine ⟨fun hge => ?_, fun hlt => ⟨by omega, ?_⟩⟩
    · have hi : i = P := by omega
      subst hi
      exact h n τ z1 (by omega) zN zC zF
    · have hG := hG0 i (by omega) (by omega)
      rw [← zG i] at hG
      have hac : gI τ (b + 2) i = (sAccs P (decide (x1 = 1)) (sGd P ask X) i.toNat X).2.2.2.1 i := (zC.2.2.2.1 i (by omega) (by omega)).2.1
      have hok := okI i (by omega) (by omega)
      have hstep : ∀ Y, sAccs P (decide (x1 = 1)) (sGd P ask X) (i + 1).toNat Y = sAcc P (decide (x1 = 1)) (sGd P ask X) i (sAccs P (decide (x1 = 1)) (sGd P ask X) i.toNat Y) := by
        intro Y
        rw [show (i + 1).toNat = i.toNat + 1 by omega]
        show sAcc _ _ _ ((i.toNat : Nat) : Int) _ = _
        rw [show ((i.toNat : Nat) : Int) = i by omega]
      have hbest : sBest P (sGd P ask X) i (sAccs P (decide (x1 = 1)) (sGd P ask X) i.toNat X) = fst (fun k => tb (gI τ (b + 5) i) k) (gI τ (b + 2) i) P := by
        rw [hac]
        refine fst_congr ⟨hok.2.2.1, hok.2.2.2⟩ (fun k k0 k1 => ?_)
        rw [hG.2.2 k k0 (by omega)]
        simp [k1]
      -- an input that finds none so far leaves all as it was
      have hfirst : ∀ j, n = 0 → j ≤ i → 0 ≤ j → sAccs P (decide (x1 = 1)) (sGd P ask X) j.toNat X = X := by
        intro j e j1 j0
        have : ∀ m : Nat, (m : Int) ≤ i → sAccs P (decide (x1 = 1)) (sGd P ask X) m X = X := by
          intro m
          induction m with
          | zero => intro _; rfl
          | succ m ihm =>
            intro hm
            unfold sAccs
            rw [ihm (by omega)]
            unfold sAcc
            rw [if_pos (zN e m (by omega) (by omega))]
        exact this j.toNat (by omega)
      have none : sBest P (sGd P ask X) i (sAccs P (decide (x1 = 1)) (sGd P ask X) i.toNat X) = -1 → kX4_passRound_113 l G b x1 n (i + 1) τ Q := by
        intro e
        refine ih (n, i + 1, τ) ⟨z1, by show n ≤ i + 1; omega, by show 0 ≤ i + 1; omega, by show i + 1 ≤ P; omega, ?_, zF, zG, ?_⟩ (by show (P - (i + 1)).toNat < (P - i).toNat; omega)
        · show CM τ b P ask (sAccs _ _ _ (i + 1).toNat X)
          rw [hstep]; unfold sAcc; rw [if_pos e]; exact zC
        · show n = 0 → _
          intro en j j0 j1
          by_cases hj : j = i
          · rw [hj]; rw [hfirst i en (by omega) (by omega)] at e; exact e
          · exact zN en j j0 (by have : j < i + 1 := j1; omega)
      refine ⟨fun hnz => ?_, fun hz => none ?_⟩
      · refine c_firstFrom _ _ P ⟨hG.1, hG.2.1⟩ hP (by rw [hac]; exact ⟨hok.2.2.1, hok.2.2.2⟩) τ _ (fun _ => ⟨fun e => none (by rw [hbest]; exact e), fun e => ?_⟩)
        have hin := fst_in (fun k => tb (gI τ (b + 5) i) k) (s := gI τ (b + 2) i) (P := P) (by rw [hac]; exact ⟨hok.2.2.1, hok.2.2.2⟩)
        rcases hin with e2 | ⟨e2, e3, e4⟩
        · exact absurd e2 e
        · refine c_pair b hb P hP ask _ i _ x1 ⟨by omega, by omega⟩ ⟨e2, e3⟩ h1 τ zC _ (fun υ uC uF uG => ?_)
          refine ih (n + 1, i + 1, υ) ⟨by show 0 ≤ n + 1; omega, by show n + 1 ≤ i + 1; omega, by show 0 ≤ i + 1; omega, by show i + 1 ≤ P; omega, ?_, zF.trans uF, fun k => (uG k).trans (zG k), fun en => ?_⟩ (by show (P - (i + 1)).toNat < (P - i).toNat; omega)
          · show CM υ b P ask (sAccs _ _ _ (i + 1).toNat X)
            rw [hstep]; unfold sAcc; rw [if_neg (by rw [hbest]; exact e), hbest]; exact uC
          · exact absurd (show n + 1 = 0 from en) (by omega)
      · rw [hbest]
        refine fst_none (by rw [hac]; exact ⟨hok.2.2.1, hok.2.2.2⟩) (fun k k0 k1 => ?_)
        rw [hz]; unfold tb; exact Nat.zero_testBit _
  -- the second loop
  have L2 : ∀ τ, CM τ b P ask X → frM b σ τ → (∀ i, 0 ≤ i → i < P → gI τ (b + 5) i = 0) → kX4_passRound_25 l G b x1 0 τ Q := by
    intro τ0 hC0 hF0 hG0
    refine gloopI (α := gS) 0 P (fun o τ => o ≤ P ∧ CM τ b P ask X ∧ frM b σ τ ∧ (∀ i, 0 ≤ i → i < P → isM (gI τ (b + 5) i) (fun k => decide (k < o) && decide (sGd P ask X k = i)))) (fun o τ => kX4_passRound_25 l G b x1 o τ Q) ?_ ?_ 0 τ0 (by omega) ⟨by omega, hC0, hF0, fun i i0 i1 => ?_⟩
    · rintro o τ o0 o1 ⟨zo, zC, zF, zG⟩ ih
      have hp : gI τ b 0 = P := zC.1
      obtain ⟨c1, c2, c3, c4, c5⟩ := id zC
      refine vX4_passRound_25 b x1 o hb r1 ⟨by omega, by omega⟩ τ Q ?_
      rw [hp]
      refine ⟨fun e => by omega, fun _ => c_holds _ o ⟨c3.1, c3.2.1⟩ (by omega) τ _ (fun _ => ⟨⟨fun _ => True.intro, fun _ => ⟨by omega, True.intro⟩⟩, fun v hv => ?_⟩)⟩
      have hfo : tb (gI τ b 6) o = !X.2.1 o := by
        rw [c3.2.2 o (by omega) (by omega)]; simp [o1]
      have hgr : gI τ (b + 1) o = X.2.2.1 o := (c4 o (by omega) (by omega)).1
      have hok := hX o (by omega) (by omega)
      -- the set that asks
      have hM : isM v (fun i => decide (i < P) && (!X.1 i && !X.2.1 o && ask i o)) := by
        rw [hv, hfo]
        by_cases hbo : X.2.1 o = true
        · have e0 : (if (!X.2.1 o) = true then (1 : Int) else 0) = 0 := by simp [hbo]
          rw [e0, if_pos rfl]
          refine isM_congr isM_0 (fun k _ _ => ?_)
          simp [hbo]
        · have e0 : (if (!X.2.1 o) = true then (1 : Int) else 0) = 1 := by simp [hbo]
          rw [e0, if_neg (by decide)]
          refine isM_congr (isM_and (c5 o (by omega) (by omega)) c2) (fun k _ _ => ?_)
          have hbo' : X.2.1 o = false := by simpa using hbo
          rw [hbo']
          cases decide (k < P) <;> cases ask k o <;> cases X.1 k <;> rfl
      have hgd : sGd P ask X o = fst (fun k => tb v k) (gI τ (b + 1) o) P := by
        unfold sGd
        rw [hgr]
        refine fst_congr ⟨hok.1, hok.2.1⟩ (fun k k0 k1 => ?_)
        rw [hM.2.2 k k0 (by omega)]
        simp [k1]
      have none : sGd P ask X o = -1 → kX4_passRound_25 l G b x1 (o + 1) τ Q := by
        intro e
        refine ih τ ⟨by omega, zC, zF, fun i i0 i1 => isM_congr (zG i i0 i1) (fun k k0 k1 => ?_)⟩
        by_cases hk : k = o
        · subst hk
          rw [e]
          have n1 : ¬ k < k := by omega
          have n2 : ¬ (-1 : Int) = i := by omega
          simp [n1, n2]
        · have : (k < o) = (k < o + 1) := by simp only [eq_iff_iff]; omega
          simp only [this]
      rw [hp]
      refine ⟨fun hnz => ⟨by omega, c_firstFrom v (gI τ (b + 1) o) P ⟨hM.1, hM.2.1⟩ hP (by rw [hgr]; exact ⟨hok.1, hok.2.1⟩) τ _ (fun _ => ⟨fun e => none (by rw [hgd]; exact e), fun e => ?_⟩)⟩, fun hz => none ?_⟩
      · have hin := fst_in (fun k => tb v k) (s := gI τ (b + 1) o) (P := P) (by rw [hgr]; exact ⟨hok.1, hok.2.1⟩)
        rcases hin with e2 | ⟨e2, e3, e4⟩
        · exact absurd e2 e
        · rw [← hgd] at e2 e3 ⊢
          refine ⟨by omega, fun υ eu => ih υ ⟨by omega, ?_, ?_, fun i i0 i1 => ?_⟩⟩
          · rw [eu]; exact zC.same (fun k => sI_ne (by omega)) (fun k k1 k2 i => sI_ne (by omega))
          · rw [eu]; exact zF.trans (frM.set (by omega))
          · rw [eu, sI_at]
            by_cases hi : i = sGd P ask X o
            · rw [if_pos ⟨rfl, hi⟩, ← hi]
              refine isM_congr (isM_set (zG i i0 i1) o (by omega)) (fun k k0 k1 => ?_)
              by_cases hk : k = o
              · subst hk
                have n1 : k < k + 1 := by omega
                simp [n1, hi]
              · have : (k < o) = (k < o + 1) := by simp only [eq_iff_iff]; omega
                have n2 : ¬ o = k := fun z => hk z.symm
                simp only [this, n2, decide_false, Bool.or_false]
            · rw [if_neg (fun z => hi z.2)]
              refine isM_congr (zG i i0 i1) (fun k k0 k1 => ?_)
              by_cases hk : k = o
              · subst hk
                have n1 : ¬ k < k := by omega
                have n2 : ¬ sGd P ask X k = i := fun z => hi z.symm
                simp [n1, n2]
              · have : (k < o) = (k < o + 1) := by simp only [eq_iff_iff]; omega
                simp only [this]
      · rw [hgd]
        refine fst_none (by rw [hgr]; exact ⟨hok.1, hok.2.1⟩) (fun k k0 k1 => ?_)
        rw [hz]; unfold tb; exact Nat.zero_testBit _
    · rintro o τ o0 ⟨zo, zC, zF, zG⟩
      have ho : o = P := by omega
      subst ho
      refine vX4_passRound_25 b x1 o hb r1 ⟨by omega, by omega⟩ τ Q ?_
      rw [zC.1]
      exact ⟨fun _ => L3 τ zC zF zG, fun e => by omega⟩
    · rw [hG0 i i0 i1]
      refine isM_congr isM_0 (fun k k0 k1 => ?_)
      have : ¬ k < 0 := by omega
      simp [this]
  -- the first loop
  refine gloopI (α := gS) 0 P (fun j τ => j ≤ P ∧ CM τ b P ask X ∧ frM b σ τ ∧ (∀ i, 0 ≤ i → i < j → gI τ (b + 5) i = 0)) (fun j τ => kX4_passRound_2 l G b x1 j τ Q) ?_ ?_ 0 σ (by omega) ⟨by omega, hC, frM.rfl', fun i i0 i1 => by omega⟩
  · rintro j τ j0 j1 ⟨zo, zC, zF, zG⟩ ih
    refine vX4_passRound_2 b x1 j hb r1 ⟨by omega, by omega⟩ τ Q ?_
    rw [zC.1]
    refine ⟨fun e => by omega, fun _ => ⟨by omega, fun υ eu => ih υ ⟨by omega, ?_, ?_, fun i i0 i1 => ?_⟩⟩⟩
    · rw [eu]; exact zC.same (fun k => sI_ne (by omega)) (fun k k1 k2 i => sI_ne (by omega))
    · rw [eu]; exact zF.trans (frM.set (by omega))
    · rw [eu, sI_at]
      split
      · rfl
      · rename_i hq; exact zG i i0 (by omega)
  · rintro j τ j0 ⟨zo, zC, zF, zG⟩
    have hj : j = P := by omega
    subst hj
    refine vX4_passRound_2 b x1 j hb r1 ⟨by omega, by omega⟩ τ Q ?_
    rw [zC.1]
    exact ⟨fun _ => L2 τ zC zF zG, fun e => by omega⟩
/-- the rounds, by the class -/
theorem c_passRounds (b : Nat) (hb : b = 45 ∨ b = 59) (P : Int) (hP : 1 ≤ P ∧ P ≤ 6) (ask : Int → Int → Bool) (X : mX) (hX : okX P X) (n : Int) (hn : 0 ≤ n ∧ n < 1000) (σ : gS) (hC : CM σ b P ask X) (Q : gS → Prop)
    (h : ∀ τ, CM τ b P ask (sRnds P ask n.toNat X) → frM b σ τ → Q τ) : eX4_passRounds l G b n σ Q := by
  refine vX4_passRounds b n hb ⟨by omega, by omega⟩ σ Q ?_
  refine gloopM (α := Int × Int × gS) (fun q => (n - q.2.1).toNat) (fun q => 0 ≤ q.1 ∧ q.1 ≤ 6 ∧ 0 ≤ q.2.1 ∧ q.2.1 ≤ n ∧ CM q.2.2 b P ask (sRnds P ask q.2.1.toNat X) ∧ frM b σ q.2.2 ∧ (q.1 = 0 → ∀ k : Nat, q.2.1.toNat ≤ k → sRnds P ask k X = sRnds P ask q.2.1.toNat X)) (fun q => kX4_passRounds_4 l G b n q.1 q.2.1 q.2.2 Q) ?_ (1, 0, σ) ⟨by show (0 : Int) ≤ 1; decide, by show (1 : Int) ≤ 6; decide, by show (0 : Int) ≤ 0; decide, by show 0 ≤ n; omega, hC, frM.rfl', fun e => absurd (show (1 : Int) = 0 from e) (by decide)⟩
  rintro ⟨m, r, τ⟩ ⟨z1, z2, z3, z4, zC, zF, zN⟩ ih
  dsimp only at z1 z2 z3 z4 zC zF zN ih ⊢
  refine vX4_passRounds_4 b n m r hb ⟨by omega, by omega⟩ ⟨by omega, by omega⟩ ⟨by omega, by omega⟩ τ Q ⟨fun e => ?_, fun e => ⟨fun e2 => ?_, fun e2 v hv => ?_⟩⟩
  · have hr : r = n := by omega
    subst hr
    exact h τ zC zF
  · have hm : m = 0 := by omega
    refine h τ ?_ zF
    rw [zN hm n.toNat (by omega)]
    exact zC
  · have hok := okX_rnds (ask := ask) hP.1 hX r.toNat
    have hv01 : v = 0 ∨ v = 1 := by rw [hv]; split <;> omega
    have hdec : decide (v = 1) = decide (r.toNat = 0) := by
      rw [hv]
      by_cases hr : r = 0
      · subst hr; rfl
      · rw [if_neg hr]
        have : ¬ r.toNat = 0 := by omega
        simp [this]
    refine c_passRound b hb P hP ask _ hok v hv01 τ zC _ (fun q υ q0 q1 qN uC uF _ => ?_)
    refine ih (q, r + 1, υ) ⟨q0, by show q ≤ 6; omega, by show 0 ≤ r + 1; omega, by show r + 1 ≤ n; omega, ?_, zF.trans uF, ?_⟩ (by show (n - (r + 1)).toNat < (n - r).toNat; omega)
    · show CM υ b P ask (sRnds P ask (r + 1).toNat X)
      rw [show (r + 1).toNat = r.toNat + 1 by omega]
      show CM υ b P ask (sRound P (decide (r.toNat = 0)) ask (sRnds P ask r.toNat X))
      rw [← hdec]; exact uC
    · show q = 0 → ∀ k : Nat, (r + 1).toNat ≤ k → sRnds P ask k X = sRnds P ask (r + 1).toNat X
      intro e9 k hk
      have d := sRnds_done (P := P) (ask := ask) (X := X) (n := r.toNat) hP.1 (qN e9)
      have d1 := d (k - r.toNat)
      have d2 := d 1
      rw [show r.toNat + (k - r.toNat) = k by omega] at d1
      rw [show (r + 1).toNat = r.toNat + 1 by omega, d1, d2]
end MS
