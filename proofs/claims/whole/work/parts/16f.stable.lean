/-- the place of a cell in its row -/
def zPl (ln : Int → Int) (b k : Int) : Nat → Int → Int
  | 0, j => j
  | m + 1, j => if ln (b + j) = k then j else zPl ln b k m (j + 1)
theorem zPl_find (ln : Int → Int) (b k j0 : Int) (h : ln (b + j0) = k) : ∀ (m : Nat) (j : Int), j ≤ j0 → j0 < j + m → ln (b + zPl ln b k m j) = k ∧ j ≤ zPl ln b k m j ∧ zPl ln b k m j ≤ j0 ∧ ∀ i, j ≤ i → i < zPl ln b k m j → ln (b + i) ≠ k
  | 0, j, h0, h1 => by omega
  | m + 1, j, h0, h1 => by
    unfold zPl
    by_cases e : ln (b + j) = k
    · rw [if_pos e]
      exact ⟨e, Int.le_refl _, h0, fun i i0 i1 => by omega⟩
    · rw [if_neg e]
      have hj : j ≠ j0 := fun z => e (by rw [z]; exact h)
      obtain ⟨a, c, d, f⟩ := zPl_find ln b k j0 h m (j + 1) (by omega) (by omega)
      refine ⟨a, by omega, d, fun i i0 i1 => ?_⟩
      by_cases q : i = j
      · rw [q]; exact e
      · exact f i (by omega) i1
def plc (x : Tk) (M : MS) (k : Int) : Int := zPl M.1 (40 * x.2.1 k) k 40 0
theorem WM_ld {P : Int} {x : Tk} (hx : OKT P x) {M : MS} (h : WM x M) {i : Int} (i0 : 0 ≤ i) (i1 : i < 6) : 0 ≤ M.2.1 i ∧ M.2.1 i ≤ x.1 := by
  rw [h.2.1 i i0 i1]; exact cn1_r x _ _ hx.1
theorem plc_at {P : Int} {x : Tk} (hx : OKT P x) (hP : P ≤ 6) {M : MS} (h : WM x M) {k : Int} (k0 : 0 ≤ k) (k1 : k < x.1) (hk : M.2.2.1 k = 1) : (0 ≤ plc x M k ∧ plc x M k < M.2.1 (x.2.1 k)) ∧ M.1 (40 * x.2.1 k + plc x M k) = k ∧ ∀ i, 0 ≤ i → i < plc x M k → M.1 (40 * x.2.1 k + i) ≠ k := by
  obtain ⟨j, j0, j1, j2⟩ := h.2.2.2.2 k k0 k1 hk
  have xk := hx.2.2 k k0 k1
  have l := WM_ld hx h (i := x.2.1 k) (by omega) (by omega)
  have := hx.2.1
  obtain ⟨a, c, d, f⟩ := zPl_find M.1 (40 * x.2.1 k) k j j2 40 0 j0 (by omega)
  exact ⟨⟨c, by show zPl M.1 (40 * x.2.1 k) k 40 0 < _; omega⟩, a, f⟩
/-- of those of which c holds the one with the least ideal -/
def fLst (c : Int → Bool) (I : Int → Int) (k b : Int) : Int := if c k = true then (if b = -1 then k else if I b ≤ I k then b else k) else b
def zLst (c : Int → Bool) (I : Int → Int) (n : Nat) : Int := gfold (fLst c I) (-1) n
theorem zLst_congr {c d : Int → Bool} {I : Int → Int} : ∀ n : Nat, (∀ k, 0 ≤ k → k < (n : Int) → c k = d k) → zLst c I n = zLst d I n
  | 0, _ => rfl
  | n + 1, h => by
    show fLst c I n (zLst c I n) = fLst d I n (zLst d I n)
    rw [zLst_congr n (fun k k0 k1 => h k k0 (by omega))]
    unfold fLst
    rw [h n (by omega) (by omega)]
theorem fLst_r {c : Int → Bool} {I : Int → Int} {k b : Int} (k0 : 0 ≤ k) (h : b = -1 ∨ (0 ≤ b ∧ b < k)) : fLst c I k b = -1 ∨ (0 ≤ fLst c I k b ∧ fLst c I k b < k + 1) := by
  unfold fLst
  split
  · split
    · omega
    · split <;> omega
  · omega
theorem zLst_is {c : Int → Bool} {I : Int → Int} : ∀ n : Nat, (zLst c I n = -1 ∧ ∀ j, 0 ≤ j → j < (n : Int) → c j = false) ∨ (0 ≤ zLst c I n ∧ zLst c I n < n ∧ c (zLst c I n) = true ∧ ∀ j, 0 ≤ j → j < (n : Int) → c j = true → I (zLst c I n) ≤ I j)
  | 0 => Or.inl ⟨rfl, fun j j0 j1 => by omega⟩
  | n + 1 => by
    have ih := zLst_is (c := c) (I := I) n
    have e : zLst c I (n + 1) = fLst c I n (zLst c I n) := rfl
    rw [e]
    generalize zLst c I n = b at *
    unfold fLst
    by_cases hc : c n = true
    · rw [if_pos hc]
      rcases ih with ⟨b1, b2⟩ | ⟨b1, b2, b3, b4⟩
      · rw [if_pos b1]
        refine Or.inr ⟨by omega, by omega, hc, fun j j0 j1 j2 => ?_⟩
        by_cases q : j = n
        · rw [q]; omega
        · have := b2 j j0 (by omega)
          rw [this] at j2
          exact absurd j2 (by decide)
      · rw [if_neg (by omega)]
        by_cases z : I b ≤ I n
        · rw [if_pos z]
          refine Or.inr ⟨b1, by omega, b3, fun j j0 j1 j2 => ?_⟩
          by_cases q : j = n
          · rw [q]; exact z
          · exact b4 j j0 (by omega) j2
        · rw [if_neg z]
          refine Or.inr ⟨by omega, by omega, hc, fun j j0 j1 j2 => ?_⟩
          by_cases q : j = n
          · rw [q]; omega
          · have := b4 j j0 (by omega) j2; omega
    · rw [if_neg hc]
      rcases ih with ⟨b1, b2⟩ | ⟨b1, b2, b3, b4⟩
      · refine Or.inl ⟨b1, fun j j0 j1 => ?_⟩
        by_cases q : j = n
        · rw [q]; simpa using hc
        · exact b2 j j0 (by omega)
      · refine Or.inr ⟨b1, by omega, b3, fun j j0 j1 j2 => ?_⟩
        by_cases q : j = n
        · rw [q] at j2; exact absurd j2 hc
        · exact b4 j j0 (by omega) j2
/-- asking and keeping: cells kept by inputs, cells asked by, whether one asked -/
abbrev AS : Type := (Int → Int) × (Int → Int) × Int
def cNx (x : Tk) (wh ak : Int → Int) (o k : Int) : Bool := decide (x.2.2.1 k = o) && decide (wh k = 1) && decide (ak k = 0)
def fHk (x : Tk) (kp : Int → Int) (o i b : Int) : Int := if b = 0 then (if kp i = -1 then 0 else (if x.2.2.1 (kp i) = o then 1 else 0)) else 1
def hK (x : Tk) (P : Int) (kp : Int → Int) (o : Int) : Int := gfold (fHk x kp o) 0 P.toNat
theorem hK_iff (x : Tk) (kp : Int → Int) (o : Int) : ∀ n : Nat, (gfold (fHk x kp o) 0 n = 0 ∨ gfold (fHk x kp o) 0 n = 1) ∧ (gfold (fHk x kp o) 0 n = 1 ↔ ∃ i, 0 ≤ i ∧ i < (n : Int) ∧ kp i ≠ -1 ∧ x.2.2.1 (kp i) = o)
  | 0 => ⟨Or.inl rfl, fun z => absurd (show (0 : Int) = 1 from z) (by decide), fun ⟨i, i0, i1, _⟩ => by omega⟩
  | n + 1 => by
    obtain ⟨h1, h2⟩ := hK_iff x kp o n
    have e : gfold (fHk x kp o) 0 (n + 1) = fHk x kp o n (gfold (fHk x kp o) 0 n) := rfl
    rw [e]
    generalize gfold (fHk x kp o) 0 n = b at *
    unfold fHk
    by_cases e0 : b = 0
    · have no : ¬ ∃ i, 0 ≤ i ∧ i < (n : Int) ∧ kp i ≠ -1 ∧ x.2.2.1 (kp i) = o := fun z => by have := h2.mpr z; omega
      rw [if_pos e0]
      by_cases e1 : kp n = -1
      · rw [if_pos e1]
        refine ⟨Or.inl rfl, fun z => absurd z (by decide), fun ⟨i, i0, i1, i2, i3⟩ => ?_⟩
        by_cases q : i = n
        · rw [q] at i2; exact absurd e1 i2
        · exact absurd ⟨i, i0, by omega, i2, i3⟩ no
      · rw [if_neg e1]
        by_cases e2 : x.2.2.1 (kp n) = o
        · rw [if_pos e2]
          exact ⟨Or.inr rfl, fun _ => ⟨n, by omega, by omega, e1, e2⟩, fun _ => rfl⟩
        · rw [if_neg e2]
          refine ⟨Or.inl rfl, fun z => absurd z (by decide), fun ⟨i, i0, i1, i2, i3⟩ => ?_⟩
          by_cases q : i = n
          · rw [q] at i3; exact absurd i3 e2
          · exact absurd ⟨i, i0, by omega, i2, i3⟩ no
    · rw [if_neg e0]
      obtain ⟨i, i0, i1, i2⟩ := h2.mp (by omega)
      exact ⟨Or.inr rfl, fun _ => ⟨i, i0, by omega, i2⟩, fun _ => rfl⟩
def aNew (x : Tk) (M : MS) (k : Int) (A : AS) : AS := (if A.1 (x.2.1 k) = -1 then fup A.1 (x.2.1 k) k else if plc x M k < plc x M (A.1 (x.2.1 k)) then fup A.1 (x.2.1 k) k else A.1, fup A.2.1 k 1, 1)
def aSt (x : Tk) (I : Int → Int) (P : Int) (M : MS) (o : Int) (A : AS) : AS :=
  if hK x P A.1 o = 0 then (if zLst (cNx x M.2.2.1 A.2.1 o) I x.1.toNat = -1 then A else aNew x M (zLst (cNx x M.2.2.1 A.2.1 o) I x.1.toNat) A) else A
def aRd (x : Tk) (I : Int → Int) (P : Int) (M : MS) (A : AS) : AS := gfold (aSt x I P M) (A.1, A.2.1, 0) P.toNat
def aRs (x : Tk) (I : Int → Int) (P : Int) (M : MS) : Nat → AS
  | 0 => (fun _ => -1, fun _ => 0, 1)
  | r + 1 => if (aRs x I P M r).2.2 = 0 then aRs x I P M r else aRd x I P M (aRs x I P M r)
def KI (x : Tk) (M : MS) (A : AS) : Prop :=
  (∀ i, 0 ≤ i → i < 6 → A.1 i ≠ -1 → (0 ≤ A.1 i ∧ A.1 i < x.1) ∧ M.2.2.1 (A.1 i) = 1 ∧ x.2.1 (A.1 i) = i) ∧
  (∀ i i', 0 ≤ i → i < 6 → 0 ≤ i' → i' < 6 → A.1 i ≠ -1 → A.1 i' ≠ -1 → x.2.2.1 (A.1 i) = x.2.2.1 (A.1 i') → i = i') ∧
  (∀ k, 0 ≤ k → k < x.1 → A.2.1 k = 0 ∨ A.2.1 k = 1) ∧ (A.2.2 = 0 ∨ A.2.2 = 1)
def asC (x : Tk) (ak : Int → Int) : Int := sm (fun k => if ak k = 0 then 0 else 1) x.1.toNat
/-- what a step is: nothing, or one that asks -/
theorem aSt_is {P : Int} {x : Tk} {I : Int → Int} {M : MS} {A : AS} {o : Int} : aSt x I P M o A = A ∨ ∃ k, 0 ≤ k ∧ k < x.1 ∧ x.2.2.1 k = o ∧ M.2.2.1 k = 1 ∧ A.2.1 k = 0 ∧ hK x P A.1 o = 0 ∧ k = zLst (cNx x M.2.2.1 A.2.1 o) I x.1.toNat ∧ aSt x I P M o A = aNew x M k A := by
  unfold aSt
  by_cases e : hK x P A.1 o = 0
  · rw [if_pos e]
    by_cases e2 : zLst (cNx x M.2.2.1 A.2.1 o) I x.1.toNat = -1
    · rw [if_pos e2]; exact Or.inl rfl
    · rw [if_neg e2]
      rcases zLst_is (c := cNx x M.2.2.1 A.2.1 o) (I := I) x.1.toNat with z | ⟨z1, z2, z3, z4⟩
      · exact absurd z.1 e2
      · have z3' := z3
        unfold cNx at z3'
        simp only [Bool.and_eq_true, decide_eq_true_eq] at z3'
        exact Or.inr ⟨_, z1, by omega, z3'.1.1, z3'.1.2, z3'.2, e, rfl, rfl⟩
  · rw [if_neg e]; exact Or.inl rfl
theorem fup_at (f : Int → Int) (k v j : Int) : fup f k v j = if j = k then v else f j := rfl
theorem aNew_kp {x : Tk} {M : MS} {k : Int} {A : AS} (i : Int) : (aNew x M k A).1 i = A.1 i ∨ (i = x.2.1 k ∧ (aNew x M k A).1 i = k) := by
  unfold aNew
  dsimp only
  split
  · by_cases q : i = x.2.1 k
    · rw [fup_at, if_pos q]; exact Or.inr ⟨q, rfl⟩
    · rw [fup_at, if_neg q]; exact Or.inl rfl
  · split
    · by_cases q : i = x.2.1 k
      · rw [fup_at, if_pos q]; exact Or.inr ⟨q, rfl⟩
      · rw [fup_at, if_neg q]; exact Or.inl rfl
    · exact Or.inl rfl
theorem KI_st {P : Int} {x : Tk} (hx : OKT P x) (hP : 1 ≤ P ∧ P ≤ 6) {I : Int → Int} {M : MS} {A : AS} {o : Int} (h : KI x M A) : KI x M (aSt x I P M o A) := by
  rcases aSt_is (P := P) (x := x) (I := I) (M := M) (A := A) (o := o) with e | ⟨k, k0, k1, ko, kw, ka, kh, _, e⟩
  · rw [e]; exact h
  · rw [e]
    obtain ⟨h1, h2, h3, h4⟩ := h
    have no : ¬ ∃ i, 0 ≤ i ∧ i < P ∧ A.1 i ≠ -1 ∧ x.2.2.1 (A.1 i) = o := fun z => by
      have := (hK_iff x A.1 o P.toNat).2.mpr (by
        obtain ⟨i, i0, i1, i2⟩ := z
        exact ⟨i, i0, by omega, i2⟩)
      have kh : gfold (fHk x A.1 o) 0 P.toNat = 0 := kh
      omega
    have xi : ∀ i, 0 ≤ i → i < 6 → A.1 i ≠ -1 → i < P := fun i i0 i1 hi => by
      obtain ⟨a1, a2, a3⟩ := h1 i i0 i1 hi
      have := (hx.2.2 _ a1.1 a1.2).1
      omega
    refine ⟨fun i i0 i1 hi => ?_, fun i i' i0 i1 j0 j1 hi hj q => ?_, fun c c0 c1 => ?_, Or.inr rfl⟩
    · rcases aNew_kp (x := x) (M := M) (k := k) (A := A) i with z | ⟨z1, z2⟩
      · rw [z] at hi ⊢; exact h1 i i0 i1 hi
      · rw [z2]; exact ⟨⟨k0, k1⟩, kw, z1.symm⟩
    · rcases aNew_kp (x := x) (M := M) (k := k) (A := A) i with z | ⟨z1, z2⟩
      · rcases aNew_kp (x := x) (M := M) (k := k) (A := A) i' with y | ⟨y1, y2⟩
        · rw [z] at hi q
          rw [y] at hj q
          exact h2 i i' i0 i1 j0 j1 hi hj q
        · rw [z] at hi q
          rw [y2, ko] at q
          exact absurd ⟨i, i0, xi i i0 i1 hi, hi, q⟩ no
      · rcases aNew_kp (x := x) (M := M) (k := k) (A := A) i' with y | ⟨y1, y2⟩
        · rw [y] at hj q
          rw [z2, ko] at q
          exact absurd ⟨i', j0, xi i' j0 j1 hj, hj, q.symm⟩ no
        · omega
    · show fup A.2.1 k 1 c = 0 ∨ fup A.2.1 k 1 c = 1
      unfold fup
      by_cases q : c = k
      · rw [if_pos q]; exact Or.inr rfl
      · rw [if_neg q]; exact h3 c c0 c1
theorem asC_new {x : Tk} {M : MS} {A : AS} {k : Int} (k0 : 0 ≤ k) (k1 : k < x.1) (ka : A.2.1 k = 0) : asC x (aNew x M k A).2.1 = asC x A.2.1 + 1 := by
  show sm (fun j => if fup A.2.1 k 1 j = 0 then 0 else 1) x.1.toNat = _
  rw [sm_upd (g := fun j => if A.2.1 j = 0 then 0 else 1) (g' := fun j => if fup A.2.1 k 1 j = 0 then 0 else 1) k0 (fun q hq => by unfold fup; rw [if_neg hq]) x.1.toNat, if_pos (by omega)]
  unfold fup asC
  simp [ka]
theorem KI_fold {P : Int} {x : Tk} (hx : OKT P x) (hP : 1 ≤ P ∧ P ≤ 6) {I : Int → Int} {M : MS} {A : AS} (h : KI x M A) : ∀ n : Nat, KI x M (gfold (aSt x I P M) (A.1, A.2.1, 0) n) ∧ ((gfold (aSt x I P M) (A.1, A.2.1, 0) n).2.2 = 1 → asC x A.2.1 + 1 ≤ asC x (gfold (aSt x I P M) (A.1, A.2.1, 0) n).2.1) ∧ asC x A.2.1 ≤ asC x (gfold (aSt x I P M) (A.1, A.2.1, 0) n).2.1
  | 0 => ⟨⟨h.1, h.2.1, h.2.2.1, Or.inl rfl⟩, fun z => absurd (show (0 : Int) = 1 from z) (by decide), Int.le_refl _⟩
  | n + 1 => by
    obtain ⟨a, b, c⟩ := KI_fold hx hP (I := I) h n
    have e : gfold (aSt x I P M) (A.1, A.2.1, 0) (n + 1) = aSt x I P M n (gfold (aSt x I P M) (A.1, A.2.1, 0) n) := rfl
    rw [e]
    generalize gfold (aSt x I P M) (A.1, A.2.1, 0) n = B at *
    refine ⟨KI_st hx hP a, ?_, ?_⟩
    · rcases aSt_is (P := P) (x := x) (I := I) (M := M) (A := B) (o := n) with z | ⟨k, k0, k1, ko, kw, ka, kh, _, z⟩
      · rw [z]; exact b
      · rw [z, asC_new k0 k1 ka]
        intro _
        omega
    · rcases aSt_is (P := P) (x := x) (I := I) (M := M) (A := B) (o := n) with z | ⟨k, k0, k1, ko, kw, ka, kh, _, z⟩
      · rw [z]; exact c
      · rw [z, asC_new k0 k1 ka]; omega
theorem KI_rs {P : Int} {x : Tk} (hx : OKT P x) (hP : 1 ≤ P ∧ P ≤ 6) (I : Int → Int) (M : MS) : ∀ r : Nat, KI x M (aRs x I P M r) ∧ ((aRs x I P M r).2.2 = 1 → (r : Int) ≤ asC x (aRs x I P M r).2.1)
  | 0 => ⟨⟨fun i _ _ z => absurd rfl z, fun _ _ _ _ _ _ z => absurd rfl z, fun _ _ _ => Or.inl rfl, Or.inr rfl⟩, fun _ => (sm_r (f := fun k => if (0 : Int) = 0 then 0 else 1) (a := 0) (b := 1) x.1.toNat (fun j _ _ => by split <;> omega)).1 |> fun z => by
      have : asC x (aRs x I P M 0).2.1 = 0 := sm_zero _ (fun j _ _ => if_pos rfl)
      rw [this]; exact Int.le_refl _⟩
  | r + 1 => by
    obtain ⟨a, b⟩ := KI_rs hx hP I M r
    unfold aRs
    by_cases e : (aRs x I P M r).2.2 = 0
    · rw [if_pos e]
      exact ⟨a, fun z => by omega⟩
    · rw [if_neg e]
      obtain ⟨c, d, f⟩ := KI_fold hx hP (I := I) a P.toNat
      have b := b (by rcases a.2.2.2 with q | q; exact absurd q e; exact q)
      exact ⟨c, fun z => by have := d z; show ((r + 1 : Nat) : Int) ≤ asC x (gfold (aSt x I P M) ((aRs x I P M r).1, (aRs x I P M r).2.1, 0) P.toNat).2.1; omega⟩
theorem asC_r (x : Tk) (ak : Int → Int) (h : 0 ≤ x.1) : 0 ≤ asC x ak ∧ asC x ak ≤ x.1 := by
  have := sm_r (f := fun k => if ak k = 0 then 0 else 1) (a := 0) (b := 1) x.1.toNat (fun j _ _ => by split <;> omega)
  unfold asC
  omega
theorem aRs_end {P : Int} {x : Tk} (hx : OKT P x) (hP : 1 ≤ P ∧ P ≤ 6) (I : Int → Int) (M : MS) : (aRs x I P M (x.1 + 1).toNat).2.2 = 0 := by
  obtain ⟨a, b⟩ := KI_rs hx hP I M (x.1 + 1).toNat
  rcases a.2.2.2 with q | q
  · exact q
  · have := b q
    have := asC_r x (aRs x I P M (x.1 + 1).toNat).2.1 hx.1
    have := hx.1
    omega
theorem aRs_stay {x : Tk} {I : Int → Int} {P : Int} {M : MS} {r : Nat} (h : (aRs x I P M r).2.2 = 0) : ∀ d : Nat, aRs x I P M (r + d) = aRs x I P M r
  | 0 => rfl
  | d + 1 => by
    have e : aRs x I P M (r + (d + 1)) = if (aRs x I P M (r + d)).2.2 = 0 then aRs x I P M (r + d) else aRd x I P M (aRs x I P M (r + d)) := rfl
    rw [e, aRs_stay h d, if_pos h]
noncomputable def kpF (x : Tk) (I : Int → Int) (P : Int) (M : MS) : Int → Int := (aRs x I P M (x.1 + 1).toNat).1
theorem aRs_kp {x : Tk} {I : Int → Int} {P : Int} {M : MS} {r : Nat} (h : (aRs x I P M r).2.2 = 0) (hr : r ≤ (x.1 + 1).toNat) : (aRs x I P M r).1 = kpF x I P M := by
  have := aRs_stay h ((x.1 + 1).toNat - r)
  rw [show r + ((x.1 + 1).toNat - r) = (x.1 + 1).toNat by omega] at this
  unfold kpF
  rw [this]
/-- where a cell is in a row one is kept -/
def NI (A : AS) : Prop := (∃ i, 0 ≤ i ∧ i < 6 ∧ A.1 i ≠ -1) ∨ ∀ k, A.2.1 k = 0
theorem aSt_keeps {x : Tk} {I : Int → Int} {P : Int} {M : MS} {A : AS} {o : Int} (h : ∃ i, 0 ≤ i ∧ i < 6 ∧ A.1 i ≠ -1) : ∃ i, 0 ≤ i ∧ i < 6 ∧ (aSt x I P M o A).1 i ≠ -1 := by
  obtain ⟨i, i0, i1, i2⟩ := h
  rcases aSt_is (P := P) (x := x) (I := I) (M := M) (A := A) (o := o) with e | ⟨k, k0, k1, ko, kw, ka, kh, _, e⟩
  · rw [e]; exact ⟨i, i0, i1, i2⟩
  · rw [e]
    refine ⟨i, i0, i1, ?_⟩
    rcases aNew_kp (x := x) (M := M) (k := k) (A := A) i with z | ⟨z1, z2⟩
    · rw [z]; exact i2
    · rw [z2]; omega
theorem aNew_some {P : Int} {x : Tk} (hx : OKT P x) (hP : P ≤ 6) {M : MS} {A : AS} {k : Int} (k0 : 0 ≤ k) (k1 : k < x.1) : ∃ i, 0 ≤ i ∧ i < 6 ∧ (aNew x M k A).1 i ≠ -1 := by
  have xk := hx.2.2 k k0 k1
  refine ⟨x.2.1 k, by omega, by omega, ?_⟩
  unfold aNew
  dsimp only
  by_cases e : A.1 (x.2.1 k) = -1
  · rw [if_pos e, fup_at, if_pos rfl]; omega
  · rw [if_neg e]
    split
    · rw [fup_at, if_pos rfl]; omega
    · exact e
theorem kpF_some {P : Int} {x : Tk} (hx : OKT P x) (hP : 1 ≤ P ∧ P ≤ 6) (I : Int → Int) (M : MS) {k : Int} (k0 : 0 ≤ k) (k1 : k < x.1) (hk : M.2.2.1 k = 1) : ∃ i, 0 ≤ i ∧ i < 6 ∧ kpF x I P M i ≠ -1 := by
  have xk := hx.2.2 k k0 k1
  -- folds keep what is kept
  have F : ∀ (B : AS), NI B → ∀ n : Nat, NI (gfold (aSt x I P M) B n) ∧ ((n : Int) > x.2.2.1 k → ∃ i, 0 ≤ i ∧ i < 6 ∧ (gfold (aSt x I P M) B n).1 i ≠ -1) := by
    intro B hB n
    induction n with
    | zero => exact ⟨hB, fun z => by omega⟩
    | succ n ih =>
      obtain ⟨ih1, ih2⟩ := ih
      have e : gfold (aSt x I P M) B (n + 1) = aSt x I P M n (gfold (aSt x I P M) B n) := rfl
      rw [e]
      generalize gfold (aSt x I P M) B n = C at *
      rcases ih1 with q | q
      · exact ⟨Or.inl (aSt_keeps q), fun _ => aSt_keeps q⟩
      · rcases aSt_is (P := P) (x := x) (I := I) (M := M) (A := C) (o := n) with z | ⟨c, c0, c1, co, cw, ca, ch, _, z⟩
        · rw [z]
          refine ⟨Or.inr q, fun hn => ?_⟩
          by_cases hk2 : (n : Int) > x.2.2.1 k
          · exact ih2 hk2
          · have en : (n : Int) = x.2.2.1 k := by omega
            apply Classical.byContradiction
            intro nn
            have h0 : hK x P C.1 n = 0 := by
              rcases (hK_iff x C.1 n P.toNat).1 with y | y
              · exact y
              · obtain ⟨i, i0, i1, i2, _⟩ := (hK_iff x C.1 n P.toNat).2.mp y
                exact absurd ⟨i, i0, by omega, i2⟩ nn
            have hz : zLst (cNx x M.2.2.1 C.2.1 n) I x.1.toNat ≠ -1 := by
              intro y
              rcases zLst_is (c := cNx x M.2.2.1 C.2.1 n) (I := I) x.1.toNat with w | w
              · have := w.2 k k0 (by omega)
                unfold cNx at this
                simp [en, hk, q k] at this
              · omega
            have z' := z
            unfold aSt at z'
            rw [if_pos h0, if_neg hz] at z'
            have s := aNew_some hx hP.2 (M := M) (A := C) (k := zLst (cNx x M.2.2.1 C.2.1 n) I x.1.toNat) (by
              rcases zLst_is (c := cNx x M.2.2.1 C.2.1 n) (I := I) x.1.toNat with w | w
              · exact absurd w.1 hz
              · exact w.1) (by
              rcases zLst_is (c := cNx x M.2.2.1 C.2.1 n) (I := I) x.1.toNat with w | w
              · exact absurd w.1 hz
              · omega)
            rw [z'] at s
            exact nn s
        · rw [z]
          have s := aNew_some hx hP.2 (M := M) (A := C) c0 c1
          exact ⟨Or.inl s, fun _ => s⟩
  have R : ∀ r : Nat, 1 ≤ r → ∃ i, 0 ≤ i ∧ i < 6 ∧ (aRs x I P M r).1 i ≠ -1 := by
    intro r
    induction r with
    | zero => intro h; omega
    | succ r ih =>
      intro _
      unfold aRs
      by_cases e : (aRs x I P M r).2.2 = 0
      · rw [if_pos e]
        cases r with
        | zero => exact absurd (show (1 : Int) = 0 from e) (by decide)
        | succ r => exact ih (by omega)
      · rw [if_neg e]
        refine (F _ ?_ P.toNat).2 (by omega)
        cases r with
        | zero => exact Or.inr (fun _ => rfl)
        | succ r => exact Or.inl (ih (by omega))
  exact R (x.1 + 1).toNat (by have := hx.1; omega)
