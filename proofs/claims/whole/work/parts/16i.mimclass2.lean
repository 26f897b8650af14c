/-- asking, by the class: what is kept, who is kept, by which ideal each asked last -/
def CA (τ : gS) (x : Tk) (I : Int → Int) (P : Int) (M : MS) (A : AS) (th : Int → Int) : Prop := CS τ x I M ∧ (∀ i, 0 ≤ i → i < 6 → gI τ 78 i = A.1 i ∧ gI τ 79 i = hK x P A.1 i ∧ gI τ 80 i = th i ∧ -1 ≤ th i ∧ th i ≤ 400) ∧ ∀ k, 0 ≤ k → k < x.1 → M.2.2.1 k = 1 → (A.2.1 k = 0 ↔ th (x.2.2.1 k) < I k)
theorem hK_01 (x : Tk) (P : Int) (kp : Int → Int) (o : Int) : hK x P kp o = 0 ∨ hK x P kp o = 1 := (hK_iff x kp o P.toNat).1
theorem hK_1 {x : Tk} {P : Int} (hP : 0 ≤ P) {kp : Int → Int} {o : Int} : hK x P kp o = 1 ↔ ∃ i, 0 ≤ i ∧ i < P ∧ kp i ≠ -1 ∧ x.2.2.1 (kp i) = o := by
  have := (hK_iff x kp o P.toNat).2
  rw [show ((P.toNat : Nat) : Int) = P by omega] at this
  exact this
/-- a cell that is kept anew: who is kept then -/
theorem hK_new {P : Int} {x : Tk} (hP : 0 ≤ P ∧ P ≤ 6) {M : MS} {A : AS} (h : KI x M A) {k : Int} (hi : 0 ≤ x.2.1 k ∧ x.2.1 k < P) (k0 : 0 ≤ k) (o : Int) : hK x P (fup A.1 (x.2.1 k) k) o = if o = x.2.2.1 k then 1 else if A.1 (x.2.1 k) ≠ -1 ∧ o = x.2.2.1 (A.1 (x.2.1 k)) then 0 else hK x P A.1 o := by
  obtain ⟨h1, h2, h3, h4⟩ := h
  have a := hK_1 (x := x) hP.1 (kp := fup A.1 (x.2.1 k) k) (o := o)
  have b := hK_1 (x := x) hP.1 (kp := A.1) (o := o)
  have ca := hK_01 x P (fup A.1 (x.2.1 k) k) o
  have cb := hK_01 x P A.1 o
  by_cases e : o = x.2.2.1 k
  · rw [if_pos e]
    exact a.mpr ⟨x.2.1 k, hi.1, hi.2, by rw [fup_eq]; omega, by rw [fup_eq]; exact e.symm⟩
  · rw [if_neg e]
    by_cases e2 : A.1 (x.2.1 k) ≠ -1 ∧ o = x.2.2.1 (A.1 (x.2.1 k))
    · rw [if_pos e2]
      rcases ca with z | z
      · exact z
      · obtain ⟨i, i0, i1, i2, i3⟩ := a.mp z
        by_cases q : i = x.2.1 k
        · rw [q, fup_eq] at i3; exact absurd i3.symm e
        · rw [fup_ne q] at i2 i3
          have := h2 i (x.2.1 k) i0 (by omega) hi.1 (by omega) i2 e2.1 (by rw [i3]; exact e2.2)
          exact absurd this q
    · rw [if_neg e2]
      have : hK x P (fup A.1 (x.2.1 k) k) o = 1 ↔ hK x P A.1 o = 1 := by
        rw [a, b]
        constructor
        · rintro ⟨i, i0, i1, i2, i3⟩
          by_cases q : i = x.2.1 k
          · rw [q, fup_eq] at i3; exact absurd i3.symm e
          · rw [fup_ne q] at i2 i3
            exact ⟨i, i0, i1, i2, i3⟩
        · rintro ⟨i, i0, i1, i2, i3⟩
          by_cases q : i = x.2.1 k
          · rw [q] at i2 i3
            exact absurd ⟨i2, i3.symm⟩ e2
          · exact ⟨i, i0, i1, by rw [fup_ne q]; exact i2, by rw [fup_ne q]; exact i3⟩
      omega
section SQ
variable {l : Launch} {G : gG}
theorem c_askNext (o P : Int) (hP : 1 ≤ P ∧ P ≤ 6) (ho : 0 ≤ o ∧ o < 6) (x : Tk) (hx : OKT P x) (I : Int → Int) (hI : isId x I) (hI4 : ∀ k, 0 ≤ k → k < x.1 → 0 ≤ I k ∧ I k ≤ 400) (M : MS) (hM : WM x M) (A : AS) (hA : KI x M A) (th : Int → Int) (σ : gS) (hC : CA σ x I P M A th) (hk0 : hK x P A.1 o = 0) (Q : Int → gS → Prop)
    (h0 : aSt x I P M o A = A → Q 0 σ) (h1 : ∀ th' τ, CA τ x I P M (aSt x I P M o A) th' → (aSt x I P M o A).2.2 = 1 → frS σ τ → Q 1 τ) : eX9_askNext l G o σ Q := by
  obtain ⟨hS, hG, hT⟩ := hC
  have h40 := hx.2.1
  have hx0 := hx.1
  obtain ⟨g1, g2, g3, g4, g5⟩ := hG o ho.1 ho.2
  refine vX9_askNext o ⟨by omega, by omega⟩ σ Q ⟨by omega, ?_⟩
  rw [g3]
  have cc : zLst (fun k => decide (x.2.2.1 k = o) && decide (M.2.2.1 k = 1) && decide (th o < I k)) I x.1.toNat = zLst (cNx x M.2.2.1 A.2.1 o) I x.1.toNat := zLst_congr _ (fun k k0 k1 => by
    unfold cNx
    by_cases e : x.2.2.1 k = o
    · by_cases e2 : M.2.2.1 k = 1
      · have := hT k k0 (by omega) e2
        rw [e] at this
        by_cases e3 : A.2.1 k = 0
        · simp [e, e2, e3, this.mp e3]
        · have : ¬ th o < I k := fun z => e3 (this.mpr z)
          simp [e, e2, e3, this]
      · simp [e2]
    · simp [e])
  refine c_leastIdeal o 1 (th o) ho (by decide) ⟨by omega, by omega⟩ x P hx I M.2.2.1 σ hS.1 hS.2.2.2.1 _ (fun _ => ?_)
  rw [cc]
  have zz := zLst_is (c := cNx x M.2.2.1 A.2.1 o) (I := I) x.1.toNat
  refine ⟨fun e => ?_, fun e => h0 (by unfold aSt; rw [if_pos hk0, if_pos e])⟩
  have est : aSt x I P M o A = aNew x M (zLst (cNx x M.2.2.1 A.2.1 o) I x.1.toNat) A := by unfold aSt; rw [if_pos hk0, if_neg e]
  have est2 : (aSt x I P M o A).2.2 = 1 := by rw [est]; rfl
  rw [est] at h1 est2
  have hleast : 0 ≤ zLst (cNx x M.2.2.1 A.2.1 o) I x.1.toNat ∧ zLst (cNx x M.2.2.1 A.2.1 o) I x.1.toNat < x.1 ∧ cNx x M.2.2.1 A.2.1 o (zLst (cNx x M.2.2.1 A.2.1 o) I x.1.toNat) = true ∧ ∀ j, 0 ≤ j → j < x.1 → cNx x M.2.2.1 A.2.1 o j = true → I (zLst (cNx x M.2.2.1 A.2.1 o) I x.1.toNat) ≤ I j := by
    rcases zz with z | ⟨z1, z2, z3, z4⟩
    · exact absurd z.1 e
    · exact ⟨z1, by omega, z3, fun j j0 j1 => z4 j j0 (by omega)⟩
  generalize zLst (cNx x M.2.2.1 A.2.1 o) I x.1.toNat = k at *
  obtain ⟨k0, k1, k2, k3⟩ := hleast
  unfold cNx at k2
  simp only [Bool.and_eq_true, decide_eq_true_eq] at k2
  obtain ⟨⟨ko, kw⟩, ka⟩ := k2
  have xk := hx.2.2 k k0 k1
  have kt := (hT k k0 k1 kw).mp ka
  rw [ko] at kt
  have iK := hI4 k k0 k1
  -- thresholds anew
  have T' : ∀ c, 0 ≤ c → c < x.1 → M.2.2.1 c = 1 → (fup A.2.1 k 1 c = 0 ↔ fup th o (I k) (x.2.2.1 c) < I c) := fun c c0 c1 cw => by
    have tc := hT c c0 c1 cw
    by_cases q : c = k
    · rw [q, fup_eq, ko, fup_eq]; omega
    · rw [fup_ne q]
      by_cases q2 : x.2.2.1 c = o
      · rw [q2, fup_eq]
        rw [q2] at tc
        constructor
        · intro z
          have := k3 c c0 c1 (by unfold cNx; simp [q2, cw, z])
          have : I c ≠ I k := fun y => q (isId_inj hx hI c0 c1 k0 k1 (by rw [q2, ko]) y)
          omega
        · intro z
          exact tc.mpr (by omega)
      · rw [fup_ne q2]; exact tc
  have rT : ∀ i, 0 ≤ i → i < 6 → -1 ≤ fup th o (I k) i ∧ fup th o (I k) i ≤ 400 := fun i i0 i1 => by
    by_cases q : i = o
    · rw [q, fup_eq]; omega
    · rw [fup_ne q]; exact (hG i i0 i1).2.2.2
  refine ⟨by omega, fun σ1 e1 => ?_⟩
  have I73 : gI σ 73 k = I k := hS.1.2 k k0 k1
  rw [I73] at e1
  have b1 : ∀ c i, c ≠ 80 → gI σ1 c i = gI σ c i := fun c i hc => by rw [e1, sI_ne hc]
  have d1 := (hS.1.1.2 k k0 k1).1
  have e70 : gI σ1 70 k = x.2.1 k := by rw [b1 _ _ (by omega)]; exact d1
  rw [e70]
  have e78 : gI σ1 78 (x.2.1 k) = A.1 (x.2.1 k) := by rw [b1 _ _ (by omega)]; exact (hG _ (by omega) (by omega)).1
  rw [e78]
  have F1 : frS σ σ1 := by rw [e1]; exact frS.set (by omega)
  have g80 : ∀ i, 0 ≤ i → i < 6 → gI σ1 80 i = fup th o (I k) i := fun i i0 i1 => by
    rw [e1, sI_at, fup_at]
    by_cases q : i = o
    · rw [if_pos ⟨rfl, q⟩, if_pos q]
    · rw [if_neg (fun z => q z.2), if_neg q]; exact (hG i i0 i1).2.2.1
  have S1 : CS σ1 x I M := ⟨CT.s hS.1 F1, fun i i0 i1 => by rw [b1 _ _ (by omega)]; exact hS.2.1 i i0 i1, fun i j i0 i1 j0 j1 => by rw [b1 _ _ (by omega)]; exact hS.2.2.1 i j i0 i1 j0 j1, fun c c0 c1 => by rw [b1 _ _ (by omega)]; exact hS.2.2.2.1 c c0 c1, fun c c0 c1 hc => by rw [b1 _ _ (by omega)]; exact hS.2.2.2.2 c c0 c1 hc⟩
  -- one that is kept anew
  have fin : ∀ τ, (∀ c i, c ≠ 78 → c ≠ 79 → gI τ c i = gI σ1 c i) → (aNew x M k A).1 = fup A.1 (x.2.1 k) k → (∀ i, 0 ≤ i → i < 6 → gI τ 78 i = fup A.1 (x.2.1 k) k i) → (∀ i, 0 ≤ i → i < 6 → gI τ 79 i = if i = o then 1 else if A.1 (x.2.1 k) ≠ -1 ∧ i = x.2.2.1 (A.1 (x.2.1 k)) then 0 else gI σ 79 i) → Q 1 τ := by
    intro τ tf ta t78 t79
    refine h1 (fup th o (I k)) τ ⟨?_, fun i i0 i1 => ⟨?_, ?_, ?_, rT i i0 i1⟩, ?_⟩ est2 (F1.trans (fun c i hc => tf c i (by omega) (by omega)))
    · exact ⟨CT.s S1.1 (fun c i hc => tf c i (by omega) (by omega)), fun i i0 i1 => by rw [tf _ _ (by omega) (by omega)]; exact S1.2.1 i i0 i1, fun i j i0 i1 j0 j1 => by rw [tf _ _ (by omega) (by omega)]; exact S1.2.2.1 i j i0 i1 j0 j1, fun c c0 c1 => by rw [tf _ _ (by omega) (by omega)]; exact S1.2.2.2.1 c c0 c1, fun c c0 c1 hc => by rw [tf _ _ (by omega) (by omega)]; exact S1.2.2.2.2 c c0 c1 hc⟩
    · rw [ta]; exact t78 i i0 i1
    · rw [ta, t79 i i0 i1, hK_new ⟨by omega, hP.2⟩ hA xk.1 k0 i, ko, (hG i i0 i1).2.1]
    · rw [tf _ _ (by omega) (by omega)]; exact g80 i i0 i1
    · exact T'
  refine ⟨by omega, fun z => ⟨fun _ τ1 f1 τ2 f2 => ?_, fun y => absurd z y⟩, fun z => ?_⟩
  · refine fin τ2 (fun c i c1 c2 => by rw [f2, sI_ne c2, f1, sI_ne c1]) ?_ (fun i i0 i1 => ?_) (fun i i0 i1 => ?_)
    · unfold aNew; rw [if_pos z]
    · rw [f2, sI_ne (by omega), f1, sI_at, fup_at]
      by_cases q : i = x.2.1 k
      · rw [if_pos ⟨rfl, q⟩, if_pos q]
      · rw [if_neg (fun y => q y.2), if_neg q, b1 _ _ (by omega)]; exact (hG i i0 i1).1
    · rw [f2, sI_at]
      by_cases q : i = o
      · rw [if_pos ⟨rfl, q⟩, if_pos q]
      · rw [if_neg (fun y => q y.2), if_neg q, if_neg (fun y => y.1 z), f1, sI_ne (by omega), b1 _ _ (by omega)]
  · obtain ⟨a1, a2, a3⟩ := hA.1 (x.2.1 k) (by omega) (by omega) z
    have hne : k ≠ A.1 (x.2.1 k) := fun y => by
      have := (hK_1 (x := x) (P := P) (by omega) (kp := A.1) (o := o)).mpr ⟨x.2.1 k, xk.1.1, xk.1.2, z, by rw [← y]; exact ko⟩
      omega
    refine c_isAhead P x hx hP.2 I M hM k (A.1 (x.2.1 k)) ⟨⟨k0, k1⟩, kw⟩ ⟨a1, a2⟩ a3 hne σ1 S1 _ (fun _ => ⟨fun y => ?_, fun y => ⟨fun w => ?_, fun w => ?_⟩⟩)
    · have hp : ¬ plc x M k < plc x M (A.1 (x.2.1 k)) := fun w => by rw [if_pos w] at y; omega
      have ea : (aNew x M k A).1 = A.1 := by unfold aNew; rw [if_neg z, if_neg hp]
      refine h1 (fup th o (I k)) σ1 ⟨S1, fun i i0 i1 => ⟨?_, ?_, g80 i i0 i1, rT i i0 i1⟩, T'⟩ est2 F1
      · rw [ea, b1 _ _ (by omega)]; exact (hG i i0 i1).1
      · rw [ea, b1 _ _ (by omega)]; exact (hG i i0 i1).2.1
    · exact absurd (by rw [← e78]; exact w) z
    · have hp : plc x M k < plc x M (A.1 (x.2.1 k)) := by
        by_cases q : plc x M k < plc x M (A.1 (x.2.1 k))
        · exact q
        · rw [if_neg q] at y; exact absurd rfl y
      rw [e78]
      have xb := hx.2.2 _ a1.1 a1.2
      have e71 : gI σ1 71 (A.1 (x.2.1 k)) = x.2.2.1 (A.1 (x.2.1 k)) := (S1.1.1.2 _ a1.1 a1.2).2.1
      rw [e71]
      refine ⟨by omega, by omega, fun τ1 f1 τ2 f2 τ3 f3 => fin τ3 (fun c i c1 c2 => by rw [f3, sI_ne c2, f2, sI_ne c1, f1, sI_ne c2]) ?_ (fun i i0 i1 => ?_) (fun i i0 i1 => ?_)⟩
      · unfold aNew; rw [if_neg z, if_pos hp]
      · rw [f3, sI_ne (by omega), f2, sI_at, fup_at]
        by_cases q : i = x.2.1 k
        · rw [if_pos ⟨rfl, q⟩, if_pos q]
        · rw [if_neg (fun y => q y.2), if_neg q, f1, sI_ne (by omega), b1 _ _ (by omega)]; exact (hG i i0 i1).1
      · rw [f3, sI_at]
        by_cases q : i = o
        · rw [if_pos ⟨rfl, q⟩, if_pos q]
        · rw [if_neg (fun y => q y.2), if_neg q, f2, sI_ne (by omega), f1, sI_at]
          by_cases q2 : i = x.2.2.1 (A.1 (x.2.1 k))
          · rw [if_pos ⟨rfl, q2⟩, if_pos ⟨z, q2⟩]
          · rw [if_neg (fun y => q2 y.2), if_neg (fun y => q2 y.2), b1 _ _ (by omega)]
theorem c_takeFromRow (P : Int) (x : Tk) (hx : OKT P x) (hP : P ≤ 6) (I : Int → Int) (M : MS) (hM : WM x M) (k : Int) (hk : (0 ≤ k ∧ k < x.1) ∧ M.2.2.1 k = 1) (σ : gS) (hC : CS σ x I M) (Q : gS → Prop)
    (h : ∀ τ, (∀ i, 0 ≤ i → i < 6 → gI τ 77 i = (zRm x k M).2.1 i) → (∀ i j, 0 ≤ i → i < 6 → 0 ≤ j → j < (zRm x k M).2.1 i → gI τ 76 (40 * i + j) = (zRm x k M).1 (40 * i + j)) → (∀ c i, c ≠ 76 → c ≠ 77 → gI τ c i = gI σ c i) → Q τ) : eX9_takeFromRow l G (x.2.1 k) k σ Q := by
  have h40 := hx.2.1
  obtain ⟨⟨p0, p1⟩, p2, p3⟩ := plc_at hx hP hM hk.1.1 hk.1.2 hk.2
  have xk := hx.2.2 k hk.1.1 hk.1.2
  have li := WM_ld hx hM (i := x.2.1 k) (by omega) (by omega)
  have ri : gR (x.2.1 k) := ⟨by omega, by omega⟩
  have rk : gR k := ⟨by omega, by omega⟩
  have hL := hC.2.1 (x.2.1 k) (by omega) (by omega)
  have hR := hC.2.2.1
  have dist : ∀ j, 0 ≤ j → j < M.2.1 (x.2.1 k) → M.1 (40 * x.2.1 k + j) = k → j = plc x M k := fun j j0 j1 q => hM.2.2.2.1 _ j _ (by omega) (by omega) j0 j1 p0 p1 (by rw [q, p2])
  refine vX9_takeFromRow (x.2.1 k) k ri rk σ Q ?_
  rw [show x.2.1 k * 40 = 40 * x.2.1 k by omega]
  generalize ea : plc x M k = a at *
  refine gloopI (α := Int × gS) 0 (M.2.1 (x.2.1 k)) (fun j y => j ≤ M.2.1 (x.2.1 k) ∧ y.1 = (if j ≤ a then 40 * x.2.1 k + j else 40 * x.2.1 k + j - 1) ∧ (∀ p, gI y.2 76 p = if 40 * x.2.1 k + a ≤ p ∧ p < 40 * x.2.1 k + j - 1 then gI σ 76 (p + 1) else gI σ 76 p) ∧ ∀ c i, c ≠ 76 → gI y.2 c i = gI σ c i) (fun j y => kX9_takeFromRow_11 l G (x.2.1 k) k (40 * x.2.1 k) y.1 (40 * x.2.1 k + j) y.2 Q) ?_ ?_ 0 (40 * x.2.1 k, σ) (by omega) ⟨by omega, by rw [if_pos p0]; show 40 * x.2.1 k = _; omega, fun p => by rw [if_neg (by omega)], fun _ _ _ => rfl⟩ |> fun z => by rw [Int.add_zero] at z; exact z
  · rintro j ⟨to, τ⟩ j0 j1 ⟨z0, z1, z2, z3⟩ ih
    dsimp only at z1 z2 z3 ⊢
    have rto : gR to := by
      rw [z1]; split
      · exact ⟨by omega, by omega⟩
      · exact ⟨by omega, by omega⟩
    have hr := hR (x.2.1 k) j (by omega) (by omega) j0 j1
    have h76 : gI τ 76 (40 * x.2.1 k + j) = M.1 (40 * x.2.1 k + j) := by rw [z2, if_neg (by omega)]; exact hr
    refine vX9_takeFromRow_11 (x.2.1 k) k _ to _ ri rk ⟨by omega, by omega⟩ rto ⟨by omega, by omega⟩ τ Q ?_
    rw [z3 77 _ (by omega), hL, h76, show 40 * x.2.1 k + j + 1 = 40 * x.2.1 k + (j + 1) by omega]
    refine ⟨by omega, ⟨by omega, by omega⟩, fun z => by omega, fun _ => ⟨by omega, fun e => ?_, fun e => ⟨?_, fun w ew => ?_⟩⟩⟩
    · have ej := dist j j0 j1 e
      refine ih (to, τ) ⟨by omega, ?_, fun p => ?_, z3⟩
      · show to = _
        rw [z1, if_pos (by omega), if_neg (by omega)]; omega
      · show gI τ 76 p = _
        rw [z2, if_neg (by omega), if_neg (by omega)]
    · rw [z1]; split <;> omega
    · have ej : j ≠ a := fun y => e (by rw [y]; exact p2)
      refine ih (to + 1, w) ⟨by omega, ?_, fun p => ?_, fun c i hc => by show gI w c i = _; rw [ew, sI_ne hc]; exact z3 c i hc⟩
      · show to + 1 = _
        rw [z1]
        by_cases q : j ≤ a
        · rw [if_pos q, if_pos (by omega)]; omega
        · rw [if_neg q, if_neg (by omega)]; omega
      · show gI w 76 p = _
        rw [ew, sI_at, z2 p]
        by_cases q : j ≤ a
        · rw [if_pos q] at z1
          by_cases q2 : p = to
          · rw [if_pos ⟨rfl, q2⟩, if_neg (by omega), q2, z1]; exact hr.symm
          · rw [if_neg (fun y => q2 y.2), if_neg (by omega), if_neg (by omega)]
        · rw [if_neg q] at z1
          by_cases q2 : p = to
          · rw [if_pos ⟨rfl, q2⟩, if_pos (by omega), q2, z1, show 40 * x.2.1 k + j - 1 + 1 = 40 * x.2.1 k + j by omega]; exact hr.symm
          · rw [if_neg (fun y => q2 y.2)]
            by_cases q3 : 40 * x.2.1 k + a ≤ p ∧ p < 40 * x.2.1 k + j - 1
            · rw [if_pos q3, if_pos (by omega)]
            · rw [if_neg q3, if_neg (by omega)]
  · rintro j ⟨to, τ⟩ j0 ⟨z0, z1, z2, z3⟩
    dsimp only at z1 z2 z3 ⊢
    have hj : j = M.2.1 (x.2.1 k) := by omega
    rw [if_neg (by omega)] at z1
    refine vX9_takeFromRow_11 (x.2.1 k) k _ to _ ri rk ⟨by omega, by omega⟩ ⟨by omega, by omega⟩ ⟨by omega, by omega⟩ τ Q ?_
    rw [z3 77 _ (by omega), hL]
    refine ⟨by omega, ⟨by omega, by omega⟩, fun _ => ⟨⟨by omega, by omega⟩, fun w ew => h w (fun i i0 i1 => ?_) (fun i j' i0 i1 j0' j1' => ?_) (fun c i c1 c2 => by rw [ew, sI_ne c2]; exact z3 c i c1)⟩, fun z => by omega⟩
    · show gI w 77 i = fup M.2.1 (x.2.1 k) (M.2.1 (x.2.1 k) - 1) i
      rw [ew, sI_at, fup_at]
      by_cases e : i = x.2.1 k
      · rw [if_pos ⟨rfl, e⟩, if_pos e]; omega
      · rw [if_neg (fun y => e y.2), if_neg e, z3 _ _ (by omega)]; exact hC.2.1 i i0 i1
    · have j1' : j' < fup M.2.1 (x.2.1 k) (M.2.1 (x.2.1 k) - 1) i := j1'
      have l2 := WM_ld hx hM i0 i1
      show gI w 76 (40 * i + j') = (if 40 * x.2.1 k + plc x M k ≤ 40 * i + j' ∧ 40 * i + j' < 40 * x.2.1 k + M.2.1 (x.2.1 k) - 1 then M.1 (40 * i + j' + 1) else M.1 (40 * i + j'))
      rw [ea, ew, sI_ne (by omega), z2, hj]
      by_cases e : i = x.2.1 k
      · rw [e, fup_eq] at j1'
        rw [e]
        by_cases e2 : 40 * x.2.1 k + a ≤ 40 * x.2.1 k + j' ∧ 40 * x.2.1 k + j' < 40 * x.2.1 k + M.2.1 (x.2.1 k) - 1
        · rw [if_pos e2, if_pos e2, show 40 * x.2.1 k + j' + 1 = 40 * x.2.1 k + (j' + 1) by omega]
          exact hR _ (j' + 1) (by omega) (by omega) (by omega) (by omega)
        · rw [if_neg e2, if_neg e2]
          exact hR _ j' (by omega) (by omega) j0' (by omega)
      · rw [fup_ne e] at j1'
        rw [if_neg (by omega), if_neg (by omega)]
        exact hR i j' i0 i1 j0' j1'
end SQ
