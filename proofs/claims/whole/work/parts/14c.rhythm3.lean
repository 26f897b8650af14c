/-- the reference's rows of pointers -/
def kpt (P : Int) (X : mX) (q : Int) : Int := if q < 6 then (if P ≤ q then 0 else X.2.2.1 q) else (if P ≤ q - 6 then 0 else X.2.2.2.1 (q - 6))
theorem kpt_pe {P : Int} {X Y : mX} (hP : P ≤ 6) : (∀ q, 0 ≤ q → q < 12 → kpt P X q = kpt P Y q) ↔ pe P X Y := by
  constructor
  · intro h o o0 o1
    have a := h o o0 (by omega)
    have b := h (6 + o) (by omega) (by omega)
    unfold kpt at a b
    rw [if_pos (by omega), if_neg (by omega), if_pos (by omega), if_neg (by omega)] at a
    rw [if_neg (by omega), if_neg (by omega), if_neg (by omega), if_neg (by omega), show 6 + o - 6 = o by omega] at b
    exact ⟨a, b⟩
  · intro h q q0 q1
    unfold kpt
    by_cases e : q < 6
    · rw [if_pos e, if_pos e]
      by_cases z : P ≤ q
      · rw [if_pos z, if_pos z]
      · rw [if_neg z, if_neg z]; exact (h q q0 (by omega)).1
    · rw [if_neg e, if_neg e]
      by_cases z : P ≤ q - 6
      · rw [if_pos z, if_pos z]
      · rw [if_neg z, if_neg z]; exact (h (q - 6) (by omega) (by omega)).2
section SI
variable {l : Launch} {G : gG}
theorem c_keepsPointers (n P : Int) (hP : 1 ≤ P ∧ P ≤ 6) (hn : 0 ≤ n ∧ n < 1000) (X : mX) (σ : gS) (h10 : gI σ 88 10 = P) (hg : ∀ o, 0 ≤ o → o < 6 → gI σ 92 o = X.2.2.1 o ∧ gI σ 93 o = X.2.2.2.1 o) (Q : gS → Prop)
    (h : ∀ τ, (∀ q, 0 ≤ q → q < 12 → gI τ 114 (12 * n + q) = kpt P X q) → (∀ c i, ¬ (c = 114 ∧ 12 * n ≤ i ∧ i < 12 * n + 12) → gI τ c i = gI σ c i) → Q τ) : eX12_keepsPointers l G n σ Q := by
  have rn : gR n := ⟨by omega, by omega⟩
  refine vX12_keepsPointers n rn σ Q ?_
  refine gloopI (α := gS) 0 6 (fun p τ => p ≤ 6 ∧ (∀ q, 0 ≤ q → q < p → gI τ 114 (12 * n + q) = kpt P X q ∧ gI τ 114 (12 * n + (6 + q)) = kpt P X (6 + q)) ∧ (∀ c i, ¬ (c = 114 ∧ 12 * n ≤ i ∧ i < 12 * n + 12) → gI τ c i = gI σ c i)) (fun p τ => kX12_keepsPointers_2 l G n p τ Q) ?_ ?_ 0 σ (by omega) ⟨by omega, fun q q0 q1 => by omega, fun _ _ _ => rfl⟩
  · rintro p τ p0 p1 ⟨z0, z1, z2⟩ ih
    have t10 : gI τ 88 10 = P := by rw [z2 _ _ (by omega)]; exact h10
    refine vX12_keepsPointers_2 n p rn ⟨by omega, by omega⟩ τ Q ⟨fun z => by omega, fun _ => ⟨⟨fun _ => trivial, fun _ => ⟨by omega, trivial⟩⟩, fun v ev => ⟨by omega, fun τ1 e1 => ?_⟩⟩⟩
    have u10 : gI τ1 88 10 = P := by rw [e1, sI_ne (by omega)]; exact t10
    refine ⟨⟨fun _ => trivial, fun _ => ⟨by omega, trivial⟩⟩, fun w ew => ⟨by omega, fun τ2 e2 => ih τ2 ⟨by omega, fun q q0 q1 => ?_, fun c i hc => ?_⟩⟩⟩
    · rw [t10, z2 _ _ (by omega), (hg p p0 p1).1] at ev
      rw [u10, e1, sI_ne (by omega), z2 _ _ (by omega), (hg p p0 p1).2] at ew
      by_cases e : q = p
      · rw [e]
        refine ⟨?_, ?_⟩
        · rw [e2, sI_nei (by omega), e1, sI_eq, ev]
          unfold kpt
          rw [if_pos (show p < 6 by omega)]
        · rw [e2, show 12 * n + (6 + p) = 12 * n + 6 + p by omega, sI_eq, ew]
          unfold kpt
          rw [if_neg (show ¬ 6 + p < 6 by omega), show 6 + p - 6 = p by omega]
      · rw [e2, sI_nei (by omega), sI_nei (by omega), e1, sI_nei (by omega), sI_nei (by omega)]
        exact z1 q q0 (by omega)
    · rw [e2, sI_at, if_neg (by omega), e1, sI_at, if_neg (by omega)]; exact z2 c i hc
  · rintro p τ p0 ⟨z0, z1, z2⟩
    have hp : p = 6 := by omega
    subst hp
    refine vX12_keepsPointers_2 n 6 rn (by decide) τ Q ⟨fun _ => h τ (fun q q0 q1 => ?_) z2, fun z => by omega⟩
    by_cases e : q < 6
    · exact (z1 q q0 e).1
    · have := (z1 (q - 6) (by omega) (by omega)).2
      rw [show 6 + (q - 6) = q by omega] at this
      exact this
theorem c_likeOf (n P : Int) (hP : 1 ≤ P ∧ P ≤ 6) (hn : 0 ≤ n ∧ n < 1000) (X : Nat → mX) (σ : gS) (hk : ∀ j : Nat, (j : Int) ≤ n → ∀ q, 0 ≤ q → q < 12 → gI σ 114 (12 * j + q) = kpt P (X j) q) (Q : Int → gS → Prop)
    (h0 : (∀ j : Nat, (j : Int) < n → ¬ pe P (X n.toNat) (X j)) → Q (-1) σ) (h1 : ∀ k : Nat, (k : Int) < n → pe P (X n.toNat) (X k) → Q k σ) : eX12_likeOf l G n σ Q := by
  have rn : gR n := ⟨by omega, by omega⟩
  have hkn := hk n.toNat (by omega)
  rw [show ((n.toNat : Nat) : Int) = n by omega] at hkn
  refine vX12_likeOf n rn σ Q ?_
  refine gloopI (α := Unit) 0 n (fun k _ => k ≤ n ∧ ∀ j : Nat, (j : Int) < k → ¬ pe P (X n.toNat) (X j)) (fun k _ => kX12_likeOf_2 l G n k σ Q) ?_ ?_ 0 () (by omega) ⟨by omega, fun j hj => by omega⟩
  · rintro k _ k0 k1 ⟨z0, z1⟩ ih
    have rk : gR k := ⟨by omega, by omega⟩
    have hkk := hk k.toNat (by omega)
    rw [show ((k.toNat : Nat) : Int) = k by omega] at hkk
    refine vX12_likeOf_2 n k rn rk σ Q ⟨fun z => by omega, fun _ => ?_⟩
    refine gloopI (α := Int) 0 12 (fun q x => q ≤ 12 ∧ (x = 0 ∨ x = 1) ∧ (x = 1 ↔ ∀ q', 0 ≤ q' → q' < q → kpt P (X n.toNat) q' = kpt P (X k.toNat) q')) (fun q x => kX12_likeOf_12 l G n k x q σ Q) ?_ ?_ 0 1 (by omega) ⟨by omega, Or.inr rfl, fun _ q' a b => by omega, fun _ => rfl⟩
    · rintro q x q0 q1 ⟨y0, y1, y2⟩ ih2
      refine vX12_likeOf_12 n k x q rn rk (gR_01 y1) ⟨by omega, by omega⟩ σ Q ⟨fun z => by omega, fun _ => ⟨⟨fun _ => trivial, fun _ => ⟨by omega, by omega, fun _ => trivial, fun _ => trivial⟩⟩, fun v ev => ih2 v ?_⟩⟩
      rw [hkk q q0 q1, hkn q q0 q1] at ev
      by_cases e : x = 0
      · rw [if_pos e] at ev
        refine ⟨by omega, Or.inl ev, fun z => by omega, fun z => ?_⟩
        have := y2.mpr (fun q' a b => z q' a (by omega))
        omega
      · rw [if_neg e] at ev
        by_cases e2 : kpt P (X k.toNat) q = kpt P (X n.toNat) q
        · rw [if_pos e2] at ev
          refine ⟨by omega, Or.inr ev, fun _ q' a b => ?_, fun _ => ev⟩
          by_cases e3 : q' = q
          · rw [e3]; exact e2.symm
          · exact y2.mp (by omega) q' a (by omega)
        · rw [if_neg e2] at ev
          exact ⟨by omega, Or.inl ev, fun z => by omega, fun z => absurd (z q q0 (by omega)).symm e2⟩
    · rintro q x q0 ⟨y0, y1, y2⟩
      have hq : q = 12 := by omega
      subst hq
      have pp := y2.trans (kpt_pe hP.2)
      refine vX12_likeOf_12 n k x 12 rn rk (gR_01 y1) (by decide) σ Q ⟨fun _ => ⟨fun z => ih () ⟨by omega, fun j hj => ?_⟩, fun z => ?_⟩, fun z => by omega⟩
      · by_cases e : j = k.toNat
        · rw [e]
          intro y
          have := pp.mpr y
          omega
        · exact z1 j (by omega)
      · have := h1 k.toNat (by omega) (pp.mp (by omega))
        rw [show ((k.toNat : Nat) : Int) = k by omega] at this
        exact this
  · rintro k _ k0 ⟨z0, z1⟩
    have hk : k = n := by omega
    subst hk
    exact vX12_likeOf_2 k k rn rn σ Q ⟨fun _ => h0 z1, fun z => by omega⟩
theorem p_rhythm (x1 x2 : Int) (r1 : gR x1) (r2 : gR x2) (σ : gS) (hI : tInv σ) : eX11_rhythm l G x1 x2 σ (fun r τ => gR r → eX12_rhythm l G x1 x2 τ (fun r' υ => gR r' → r = r' ∧ tInv υ)) := by
  obtain ⟨k1, k5, k6, k7⟩ := tTx0 hI
  have b0 := k1 0 (by omega) (by omega)
  have B : ∀ (v : Int) (τ : gS), frC σ τ → (¬ (0 ≤ x1 ∧ x1 < gI σ 89 0) → v = -2) → (0 ≤ x1 → x1 < gI σ 89 0 → ∃ N K, isRh (gI σ 89 (610 + 4 * x1)) (gI σ 89 (610 + 4 * x1 + 1)) (gI σ 89 (610 + 4 * x1 + 3)) N K ∧ v = zRh (gI σ 89 (610 + 4 * x1)) (gI σ 89 (610 + 4 * x1 + 1)) (gI σ 89 (610 + 4 * x1 + 3)) N K x2) → eX12_rhythm l G x1 x2 τ (fun r' υ => gR r' → v = r' ∧ tInv υ) := by
    intro v τ hF hn hy
    refine vX12_rhythm x1 x2 r1 r2 τ _ (c_isCrossbarX x1 r1 σ τ hI hF _ (fun e _ => ⟨fun _ _ => ⟨hn (by omega), tInv.same hF.same hI⟩, fun e => absurd rfl e⟩) (fun e0 e1 τ1 R1 _ => ⟨fun e => absurd e (by decide), fun _ => ?_⟩))
    obtain ⟨a10, a11, a12, a13, a5, a6⟩ := R1
    obtain ⟨_, t1, t2, t3, t4, t5⟩ := tBars hI e0 e1
    obtain ⟨N, K, hK, hv⟩ := hy e0 e1
    generalize gI σ 89 (610 + 4 * x1) = P at *
    generalize gI σ 89 (610 + 4 * x1 + 1) = r at *
    generalize gI σ 89 (610 + 4 * x1 + 3) = p at *
    unfold zRh at hv
    refine c_isIn x2 0 3 r2 (by decide) (by decide) τ1 _ (fun g hg _ => ⟨fun e => ?_, fun e _ => ⟨?_, tInv.same a6 hI⟩⟩)
    · have okf : ∀ n, okX P (fL P r p n) := okX_fL (by omega)
      refine c_begins P p t1 t4 τ1 a10 a13 _ (fun τ2 c1 c2 c3 c4 => ?_)
      have Q2 : frQ τ1 τ2 := ⟨fun c hc i => c4 c i (by omega) (by omega) (by omega) (by omega) (by omega) (by omega) (by omega), fun i => c4 89 i (by omega) (by omega) (by omega) (by omega) (by omega) (by omega) (by omega), fun i => c4 90 i (by omega) (by omega) (by omega) (by omega) (by omega) (by omega) (by omega)⟩
      have u10 : gI τ2 88 10 = P := by rw [c4 _ _ (by omega) (by omega) (by omega) (by omega) (by omega) (by omega) (by omega)]; exact a10
      have u11 : gI τ2 88 11 = r := by rw [c4 _ _ (by omega) (by omega) (by omega) (by omega) (by omega) (by omega) (by omega)]; exact a11
      refine c_keepsPointers 0 P t1 (by omega) (fL P r p 0) τ2 u10 (fun o o0 o1 => ⟨(c1 o o0 o1).1, (c1 o o0 o1).2.1⟩) _ (fun τ3 d1 d2 => ?_)
      have Q3 : frQ τ1 τ3 := Q2.trans ⟨fun c hc i => d2 c i (by omega), fun i => d2 89 i (by omega), fun i => d2 90 i (by omega)⟩
      refine gloopM (α := Int × Int × gS) (fun q => (12 - q.1).toNat) (fun q => 0 ≤ q.1 ∧ q.1 ≤ 12 ∧ gI q.2.2 88 10 = P ∧ gI q.2.2 88 11 = r ∧ (∀ o, 0 ≤ o → o < 6 → gI q.2.2 92 o = (fL P r p q.1.toNat).2.2.1 o ∧ gI q.2.2 93 o = (fL P r p q.1.toNat).2.2.2.1 o) ∧ (∀ j : Nat, (j : Int) ≤ q.1 → ∀ y, 0 ≤ y → y < 12 → gI q.2.2 114 (12 * j + y) = kpt P (fL P r p j) y) ∧ (∀ j, 0 ≤ j → j < q.1 → gI q.2.2 115 j = mtF P r p j) ∧ frQ τ1 q.2.2 ∧ ((q.2.1 = -1 ∧ ∀ a b : Nat, a < b → (b : Int) ≤ q.1 → ¬ pe P (fL P r p b) (fL P r p a)) ∨ isRh P r p q.1 q.2.1)) (fun q => kX12_rhythm_34 l G x1 x2 q.1 q.2.1 q.2.2 (fun r' υ => gR r' → v = r' ∧ tInv υ)) ?_ (0, -1, τ3) ⟨by show (0 : Int) ≤ 0; decide, by show (0 : Int) ≤ 12; decide, ?_, ?_, fun o o0 o1 => ?_, fun j hj y y0 y1 => ?_, fun j j0 j1 => absurd (show j < 0 from j1) (by omega), Q3, Or.inl ⟨rfl, fun a b ab hb => absurd (show (b : Int) ≤ 0 from hb) (by omega)⟩⟩
      · rintro ⟨n, was, υ⟩ ⟨z1, z2, z3, z4, z5, z6, z7, z8, z9⟩ ih
        dsimp only at z1 z2 z3 z4 z5 z6 z7 z8 z9 ih ⊢
        have rn : gR n := ⟨by omega, by omega⟩
        have rwas : gR was := by
          rcases z9 with ⟨y, _⟩ | y
          · rw [y]; decide
          · have := y.1; have := y.2.1; exact ⟨by omega, by omega⟩
        have iu : tInv υ := tInv.same (a6.q z8) hI
        refine vX12_rhythm_34 x1 x2 n was r1 r2 rn rwas υ _ ⟨fun ew => ?_, fun ew => ?_⟩
        · have hR : isRh P r p n was := by
            rcases z9 with ⟨y, _⟩ | y
            · exact absurd y ew
            · exact y
          obtain ⟨eN, eK⟩ := isRh_eq hK hR
          subst eN
          subst eK
          obtain ⟨h1, h2, h3, h4⟩ := hR
          have mr := fun j => mtF_r P r p j t1.1
          refine ⟨fun e2 => ?_, fun e2 => ⟨⟨fun _ => ⟨⟨by omega, by omega⟩, trivial⟩, fun _ => trivial⟩, fun u eu _ => ⟨?_, iu⟩⟩⟩
          · have bnd : ∀ j : Int, K ≤ j → j ≤ N → 0 ≤ sm (mtF P r p) j.toNat - sm (mtF P r p) K.toNat ∧ sm (mtF P r p) j.toNat - sm (mtF P r p) K.toNat ≤ 1000 := fun j j0 j1 => by
              have a := sm_full (m := fun i => -mtF P r p i) (P := 0) (fun i _ => by have := mr i; omega) K.toNat (j - K).toNat
              have b := (sm_full (m := mtF P r p) (P := P) (fun i _ => (mr i).2) K.toNat (j - K).toNat).1
              rw [show K.toNat + (j - K).toNat = j.toNat by omega] at a b
              have neg : ∀ n : Nat, sm (fun i => -mtF P r p i) n = -sm (mtF P r p) n := fun n => by
                induction n with
                | zero => rfl
                | succ n ihn =>
                  show sm (fun i => -mtF P r p i) n + -mtF P r p n = -(sm (mtF P r p) n + mtF P r p n)
                  rw [ihn]; omega
              rw [neg, neg] at a
              have c : P * (((j - K).toNat : Nat) : Int) ≤ 6 * (((j - K).toNat : Nat) : Int) := Int.mul_le_mul_of_nonneg_right t1.2 (by omega)
              have := a.1
              omega
            refine gloopI (α := Int) K N (fun j y => j ≤ N ∧ y = sm (mtF P r p) j.toNat - sm (mtF P r p) K.toNat) (fun j y => kX12_rhythm_97 l G x1 x2 N K y j υ _) ?_ ?_ K 0 (by omega) ⟨by omega, by omega⟩
            · rintro j y j0 j1 ⟨y0, y1⟩ ih2
              have b := bnd j j0 (by omega)
              refine vX12_rhythm_97 x1 x2 N K y j r1 r2 rn rwas ⟨by omega, by omega⟩ ⟨by omega, by omega⟩ υ _ ?_
              rw [z7 j (by omega) j1]
              exact ⟨fun z => by omega, fun _ => ⟨by omega, ih2 _ ⟨by omega, by rw [sm_s _ (by omega), y1]; omega⟩⟩⟩
            · rintro j y j0 ⟨y0, y1⟩
              have hj : j = N := by omega
              subst hj
              have b := bnd j (by omega) (by omega)
              have ry : gR y := ⟨by omega, by omega⟩
              have fu := sm_full (m := mtF P r p) (P := P) (fun i _ => (mr i).2) K.toNat (j - K).toNat
              rw [show K.toNat + (j - K).toNat = j.toNat by omega, show (((j - K).toNat : Nat) : Int) = j - K by omega, ← y1] at fu
              have pb : 0 ≤ P * (j - K) ∧ P * (j - K) ≤ 6 * (j - K) := ⟨Int.mul_nonneg (by omega) (by omega), Int.mul_le_mul_of_nonneg_right t1.2 (by omega)⟩
              refine vX12_rhythm_97 x1 x2 j K y j r1 r2 rn rwas ry rn υ _ ?_
              rw [z3]
              refine ⟨fun _ => ⟨fun e3 => ⟨⟨by omega, by omega⟩, fun e4 => ?_, fun e4 _ => ⟨?_, iu⟩⟩, fun e3 _ => ⟨?_, iu⟩⟩, fun z => by omega⟩
              · have all := fu.2.mp (by omega)
                have sd := sdn_all (m := mtF P r p) (P := P) K.toNat (j - K).toNat (fun i i0 i1 => all i (by omega) (by omega))
                rw [show K.toNat + (j - K).toNat = j.toNat by omega] at sd
                have sr := sdn_r (mtF P r p) P K.toNat
                rw [if_neg (by omega), if_neg (by omega), if_neg (by omega), if_pos (by omega), sd, if_neg (by omega)] at hv
                have L : ∀ m : Nat, (m : Int) ≤ K → sdn (mtF P r p) P m = v → kX12_rhythm_149 l G x1 x2 j K y m υ (fun r' υ => gR r' → v = r' ∧ tInv υ) := by
                  intro m
                  induction m with
                  | zero =>
                    intro _ es
                    have es : (0 : Int) = v := es
                    exact vX12_rhythm_149 x1 x2 j K y _ r1 r2 rn rwas ry ⟨by omega, by omega⟩ υ _ ⟨fun _ _ => ⟨es.symm, iu⟩, fun z => by omega⟩
                  | succ m ihm =>
                    intro hm es
                    have es : (if mtF P r p m = P then sdn (mtF P r p) P m else (m : Int) + 1) = v := es
                    refine vX12_rhythm_149 x1 x2 j K y _ r1 r2 rn rwas ry ⟨by omega, by omega⟩ υ _ ⟨fun z => by omega, fun _ => ?_⟩
                    rw [show ((m + 1 : Nat) : Int) - 1 = m by omega, z7 m (by omega) (by omega), z3]
                    refine ⟨by omega, fun z _ => ⟨?_, iu⟩, fun z => ?_⟩
                    · rw [if_neg z] at es; rw [← es]; omega
                    · rw [if_pos z] at es
                      rw [show ((m + 1 : Nat) : Int) + -1 = m by omega]
                      exact ihm (by omega) es
                have := L K.toNat (by omega) hv.symm
                rw [show ((K.toNat : Nat) : Int) = K by omega] at this
                exact this
              · have no : ¬ ∀ i : Int, ((K.toNat : Nat) : Int) ≤ i → i < ((K.toNat : Nat) : Int) + (((j - K).toNat : Nat) : Int) → mtF P r p i = P := fun z => by
                  have := (sm_full (m := mtF P r p) (P := P) (fun i _ => (mr i).2) K.toNat (j - K).toNat).2.mpr z
                  rw [show K.toNat + (j - K).toNat = j.toNat by omega, show (((j - K).toNat : Nat) : Int) = j - K by omega, ← y1] at this
                  omega
                have : ∃ i : Int, ((K.toNat : Nat) : Int) ≤ i ∧ i < ((K.toNat : Nat) : Int) + (((j - K).toNat : Nat) : Int) ∧ mtF P r p i ≠ P := by
                  apply Classical.byContradiction
                  intro q
                  exact no (fun i i0 i1 => Classical.byContradiction (fun y => q ⟨i, i0, i1, y⟩))
                have sd := sdn_not (m := mtF P r p) (P := P) K.toNat (j - K).toNat this
                rw [show K.toNat + (j - K).toNat = j.toNat by omega] at sd
                rw [hv, if_neg (by omega), if_neg (by omega), if_neg (by omega), if_pos (by omega), if_pos (by omega)]
              · rw [hv, if_neg (by omega), if_neg (by omega), if_pos e3, y1]
          · rw [hv, eu]
            by_cases e3 : x2 = 0
            · rw [if_pos e3, if_pos e3]
            · rw [if_neg e3, if_neg e3, if_pos (by omega)]
        · have no : ∀ a b : Nat, a < b → (b : Int) ≤ n → ¬ pe P (fL P r p b) (fL P r p a) := by
            rcases z9 with ⟨_, y⟩ | y
            · exact y
            · have := y.1; omega
          have n11 : n < 11 := by
            by_cases e9 : n < 11
            · exact e9
            · obtain ⟨a, b, ab, hb, y2⟩ := exRep t1 t2 t4
              exact absurd y2 (no a b ab (by omega))
          refine c_loads P r t1 t2 _ (okf n.toNat) υ z3 z4 z5 _ (fun w wM wF => ?_)
          have wM : MM w P 1 (fun _ _ => true) (fL P r p (n.toNat + 1)) := wM
          have wf : ∀ c i, c ≠ 92 → c ≠ 93 → c ≠ 111 → c ≠ 113 → ¬ (c = 88 ∧ (i = 41 ∨ i = 42)) → gI w c i = gI υ c i := wF
          refine c_matchedNow P t1 (fL P r p (n.toNat + 1)) w wM.1 (fun o o0 o1 => (wM.2.2.2.1 o o0 (by omega)).2.2) _ (fun _ => ⟨by omega, fun w1 e1' => ?_⟩)
          have g1 : ∀ c i, c ≠ 115 → gI w1 c i = gI w c i := fun c i hc => by rw [e1', sI_ne hc]
          refine c_keepsPointers (n + 1) P t1 (by omega) (fL P r p (n.toNat + 1)) w1 (by rw [g1 _ _ (by omega)]; exact wM.1) (fun o o0 o1 => by rw [g1 _ _ (by omega), g1 _ _ (by omega)]; exact ⟨(wM.2.2.2.1 o o0 o1).1, (wM.2.2.2.1 o o0 o1).2.1⟩) _ (fun w2 f1 f2 => ?_)
          have g2 : ∀ c i, c ≠ 115 → ¬ (c = 114 ∧ 12 * (n + 1) ≤ i ∧ i < 12 * (n + 1) + 12) → gI w2 c i = gI w c i := fun c i hc hd => by rw [f2 c i hd]; exact g1 c i hc
          have w6 : ∀ j : Nat, (j : Int) ≤ n + 1 → ∀ y, 0 ≤ y → y < 12 → gI w2 114 (12 * j + y) = kpt P (fL P r p j) y := fun j hj y y0 y1 => by
            by_cases e9 : (j : Int) = n + 1
            · rw [show j = n.toNat + 1 by omega, show ((n.toNat + 1 : Nat) : Int) = n + 1 by omega]
              exact f1 y y0 y1
            · rw [g2 _ _ (by omega) (by omega), wf _ _ (by omega) (by omega) (by omega) (by omega) (by omega)]
              exact z6 j (by omega) y y0 y1
          have w115 : ∀ j, 0 ≤ j → j < n + 1 → gI w2 115 j = mtF P r p j := fun j j0 j1 => by
            rw [f2 _ _ (by omega), e1', sI_at]
            by_cases e9 : j = n
            · rw [if_pos ⟨rfl, e9⟩, e9]
              unfold mtF
              rw [show (n + 1).toNat = n.toNat + 1 by omega]
            · rw [if_neg (fun q => e9 q.2), wf _ _ (by omega) (by omega) (by omega) (by omega) (by omega)]; exact z7 j j0 (by omega)
          have Qw : frQ τ1 w2 := z8.trans (wF.q.trans ⟨fun c hc i => g2 c i (by omega) (by omega), fun i => g2 89 i (by omega) (by omega), fun i => g2 90 i (by omega) (by omega)⟩)
          have nx : ∀ was', ((was' = -1 ∧ ∀ a b : Nat, a < b → (b : Int) ≤ n + 1 → ¬ pe P (fL P r p b) (fL P r p a)) ∨ isRh P r p (n + 1) was') → kX12_rhythm_34 l G x1 x2 (n + 1) was' w2 (fun r' υ => gR r' → v = r' ∧ tInv υ) := fun was' hw =>
            ih (n + 1, was', w2) ⟨by show 0 ≤ n + 1; omega, by show n + 1 ≤ 12; omega, by show gI w2 88 10 = P; rw [g2 _ _ (by omega) (by omega)]; exact wM.1, by show gI w2 88 11 = r; rw [g2 _ _ (by omega) (by omega), wf _ _ (by omega) (by omega) (by omega) (by omega) (by omega)]; exact z4, fun o o0 o1 => by
              show gI w2 92 o = (fL P r p (n + 1).toNat).2.2.1 o ∧ gI w2 93 o = (fL P r p (n + 1).toNat).2.2.2.1 o
              rw [show (n + 1).toNat = n.toNat + 1 by omega, g2 _ _ (by omega) (by omega), g2 _ _ (by omega) (by omega)]
              exact ⟨(wM.2.2.2.1 o o0 o1).1, (wM.2.2.2.1 o o0 o1).2.1⟩, w6, w115, Qw, hw⟩ (by show (12 - (n + 1)).toNat < (12 - n).toNat; omega)
          refine c_likeOf (n + 1) P t1 (by omega) (fun j => fL P r p j) w2 w6 _ (fun nn _ => nx (-1) (Or.inl ⟨rfl, fun a b ab hb => ?_⟩)) (fun k hk pk _ => nx k (Or.inr ⟨by omega, hk, by rw [show ((k : Int)).toNat = k by omega]; exact pk, fun a b ab hb => no a b ab (by omega)⟩))
          by_cases e9 : (b : Int) = n + 1
          · have := nn a (by omega)
            rw [show (n + 1).toNat = b by omega] at this
            exact this
          · exact no a b ab (by omega)
      · show gI τ3 88 10 = P
        rw [d2 _ _ (by omega)]; exact u10
      · show gI τ3 88 11 = r
        rw [d2 _ _ (by omega)]; exact u11
      · show gI τ3 92 o = (fL P r p 0).2.2.1 o ∧ gI τ3 93 o = (fL P r p 0).2.2.2.1 o
        rw [d2 _ _ (by omega), d2 _ _ (by omega)]
        exact ⟨(c1 o o0 o1).1, (c1 o o0 o1).2.1⟩
      · have : j = 0 := by have : (j : Int) ≤ 0 := hj; omega
        subst this
        exact d1 y y0 y1
    · rw [hv, if_neg (by omega), if_neg (by omega), if_neg (by omega), if_neg (by omega)]
  refine vX11_rhythm x1 x2 r1 r2 σ _ (c_has 0 x1 (by decide) r1 σ _ (fun a ha _ => ⟨fun e => ?_, fun e _ => B _ σ frC.rfl' (fun _ => rfl) (fun z0 z1 => by omega)⟩))
  obtain ⟨⟨w0, w1, w2, w3⟩, t1, t2, t3, t4, t5⟩ := tBars hI (x := x1) (by omega) (by omega)
  exact c_tellRhythm x1 x2 _ _ _ (by omega) r2 t1 t2 t4 σ w0 w1 w3 _ (fun N K τ hK tF _ _ => B _ τ tF (fun z => by omega) (fun _ _ => ⟨N, K, hK, rfl⟩))
end SI
