theorem fup_eq {f : Int → Int} {k v : Int} : fup f k v k = v := by rw [fup_at, if_pos rfl]
theorem fup_ne {f : Int → Int} {k v j : Int} (h : j ≠ k) : fup f k v j = f j := by rw [fup_at, if_neg h]
/-- a cell goes out of its row -/
def zRm (x : Tk) (k : Int) (M : MS) : MS :=
  (fun p => if 40 * x.2.1 k + plc x M k ≤ p ∧ p < 40 * x.2.1 k + M.2.1 (x.2.1 k) - 1 then M.1 (p + 1) else M.1 p, fup M.2.1 (x.2.1 k) (M.2.1 (x.2.1 k) - 1), fup M.2.2.1 k 2, M.2.2.2)
theorem WM_rm {P : Int} {x : Tk} (hx : OKT P x) (hP : P ≤ 6) {M : MS} (h : WM x M) {k : Int} (k0 : 0 ≤ k) (k1 : k < x.1) (hk : M.2.2.1 k = 1) : WM x (zRm x k M) := by
  obtain ⟨⟨p0, p1⟩, p2, p3⟩ := plc_at hx hP h k0 k1 hk
  have hw := h
  obtain ⟨h1, h2, h3, h4, h5⟩ := h
  have h40 := hx.2.1
  have xk := hx.2.2 k k0 k1
  have lr : ∀ i, 0 ≤ i → i < 6 → 0 ≤ M.2.1 i ∧ M.2.1 i ≤ 40 := fun i i0 i1 => by have := WM_ld hx hw i0 i1; omega
  have li := lr (x.2.1 k) (by omega) (by omega)
  generalize ea : plc x M k = a at *
  have lo : ∀ i j, 0 ≤ i → i < 6 → i ≠ x.2.1 k → 0 ≤ j → j < M.2.1 i → (zRm x k M).1 (40 * i + j) = M.1 (40 * i + j) := fun i j i0 i1 hn j0 j1 => by
    have := lr i i0 i1
    unfold zRm
    dsimp only
    rw [ea, if_neg (by omega)]
  have l1 : ∀ j, 0 ≤ j → j < a → (zRm x k M).1 (40 * x.2.1 k + j) = M.1 (40 * x.2.1 k + j) := fun j j0 j1 => by
    unfold zRm
    dsimp only
    rw [ea, if_neg (by omega)]
  have l3 : ∀ j, a ≤ j → j < M.2.1 (x.2.1 k) - 1 → (zRm x k M).1 (40 * x.2.1 k + j) = M.1 (40 * x.2.1 k + (j + 1)) := fun j j0 j1 => by
    unfold zRm
    dsimp only
    rw [ea, if_pos (by omega), show 40 * x.2.1 k + j + 1 = 40 * x.2.1 k + (j + 1) by omega]
  have el : ∀ j, 0 ≤ j → j < M.2.1 (x.2.1 k) - 1 → ∃ j', 0 ≤ j' ∧ j' < M.2.1 (x.2.1 k) ∧ j' ≠ a ∧ (zRm x k M).1 (40 * x.2.1 k + j) = M.1 (40 * x.2.1 k + j') ∧ ((j < a ∧ j' = j) ∨ (a ≤ j ∧ j' = j + 1)) := fun j j0 j1 => by
    by_cases e1 : j < a
    · exact ⟨j, j0, by omega, by omega, l1 j j0 e1, Or.inl ⟨e1, rfl⟩⟩
    · exact ⟨j + 1, by omega, by omega, by omega, l3 j (by omega) j1, Or.inr ⟨by omega, rfl⟩⟩
  have old : ∀ j, 0 ≤ j → j < M.2.1 (x.2.1 k) → j ≠ a → M.1 (40 * x.2.1 k + j) ≠ k := fun j j0 j1 hj q => hj (h4 _ j a (by omega) (by omega) j0 j1 p0 p1 (by rw [q, p2]))
  refine ⟨fun c c0 c1 => ?_, fun i i0 i1 => ?_, fun i j i0 i1 j0 j1 => ?_, fun i j j' i0 i1 j0 j1 j0' j1' q => ?_, fun c c0 c1 hc => ?_⟩
  · show 0 ≤ fup M.2.2.1 k 2 c ∧ fup M.2.2.1 k 2 c ≤ 3
    by_cases e : c = k
    · rw [e, fup_eq]; omega
    · rw [fup_ne e]; exact h1 c c0 c1
  · show fup M.2.1 (x.2.1 k) (M.2.1 (x.2.1 k) - 1) i = cn1 x (fup M.2.2.1 k 2) i
    rw [cn1_up x M.2.2.1 i 2 k0 k1, if_neg (by decide), if_pos hk]
    by_cases e : i = x.2.1 k
    · rw [e, fup_eq, if_pos rfl, h2 _ (by omega) (by omega)]; omega
    · rw [fup_ne e, if_neg (fun z => e z.symm), h2 i i0 i1]; omega
  · have j1 : j < fup M.2.1 (x.2.1 k) (M.2.1 (x.2.1 k) - 1) i := j1
    show (0 ≤ (zRm x k M).1 (40 * i + j) ∧ (zRm x k M).1 (40 * i + j) < x.1) ∧ fup M.2.2.1 k 2 ((zRm x k M).1 (40 * i + j)) = 1 ∧ x.2.1 ((zRm x k M).1 (40 * i + j)) = i
    by_cases e : i = x.2.1 k
    · rw [e, fup_eq] at j1
      rw [e]
      obtain ⟨j', q0, q1, q3, q2, _⟩ := el j j0 j1
      rw [q2, fup_ne (old j' q0 q1 q3)]; exact h3 _ j' (by omega) (by omega) q0 q1
    · rw [fup_ne e] at j1
      have t := h3 i j i0 i1 j0 j1
      rw [lo i j i0 i1 e j0 j1, fup_ne (fun z => e (by rw [← t.2.2, z]))]; exact t
  · have j1 : j < fup M.2.1 (x.2.1 k) (M.2.1 (x.2.1 k) - 1) i := j1
    have j1' : j' < fup M.2.1 (x.2.1 k) (M.2.1 (x.2.1 k) - 1) i := j1'
    by_cases e : i = x.2.1 k
    · rw [e, fup_eq] at j1 j1'
      rw [e] at q
      obtain ⟨s, s0, s1, _, s2, s3⟩ := el j j0 j1
      obtain ⟨s', t0, t1, _, t2, t3⟩ := el j' j0' j1'
      rw [s2, t2] at q
      have := h4 _ s s' (by omega) (by omega) s0 s1 t0 t1 q
      omega
    · rw [fup_ne e] at j1 j1'
      rw [lo i j i0 i1 e j0 j1, lo i j' i0 i1 e j0' j1'] at q
      exact h4 i j j' i0 i1 j0 j1 j0' j1' q
  · have hc : fup M.2.2.1 k 2 c = 1 := hc
    show ∃ j, 0 ≤ j ∧ j < fup M.2.1 (x.2.1 k) (M.2.1 (x.2.1 k) - 1) (x.2.1 c) ∧ (zRm x k M).1 (40 * x.2.1 c + j) = c
    have e : c ≠ k := fun z => by rw [z, fup_eq] at hc; omega
    rw [fup_ne e] at hc
    obtain ⟨j, q0, q1, q2⟩ := h5 c c0 c1 hc
    have xc := hx.2.2 c c0 c1
    by_cases e2 : x.2.1 c = x.2.1 k
    · rw [e2] at q1 q2 ⊢
      rw [fup_eq]
      have hj : j ≠ a := fun z => e (by rw [← q2, z, p2])
      by_cases e3 : j < a
      · exact ⟨j, q0, by omega, by rw [l1 j q0 e3]; exact q2⟩
      · exact ⟨j - 1, by omega, by omega, by rw [l3 (j - 1) (by omega) (by omega), show j - 1 + 1 = j by omega]; exact q2⟩
    · rw [fup_ne e2]
      exact ⟨j, q0, q1, by rw [lo _ j (by omega) (by omega) e2 q0 q1]; exact q2⟩
def fTk (x : Tk) (kp : Int → Int) (i : Int) (M : MS) : MS := if kp i = -1 then M else zRm x (kp i) M
def zTk' (x : Tk) (P : Int) (kp : Int → Int) (M : MS) : MS := gfold (fTk x kp) M P.toNat
theorem fTk_at {P : Int} {x : Tk} (hx : OKT P x) (hP : 1 ≤ P ∧ P ≤ 6) {M : MS} (h : WM x M) {kp : Int → Int} (hk : ∀ i, 0 ≤ i → i < 6 → kp i ≠ -1 → (0 ≤ kp i ∧ kp i < x.1) ∧ M.2.2.1 (kp i) = 1 ∧ x.2.1 (kp i) = i) : ∀ n : Nat, (n : Int) ≤ 6 →
    WM x (gfold (fTk x kp) M n) ∧ (∀ k, 0 ≤ k → k < x.1 → (gfold (fTk x kp) M n).2.2.1 k = if x.2.1 k < n ∧ kp (x.2.1 k) = k then 2 else M.2.2.1 k) ∧ (gfold (fTk x kp) M n).2.2.2 = M.2.2.2
  | 0, _ => ⟨h, fun k k0 k1 => by have := (hx.2.2 k k0 k1).1; rw [if_neg (by omega)]; rfl, rfl⟩
  | n + 1, hn => by
    obtain ⟨a, b, c⟩ := fTk_at hx hP h hk n (by omega)
    have e : gfold (fTk x kp) M (n + 1) = fTk x kp n (gfold (fTk x kp) M n) := rfl
    rw [e]
    generalize gfold (fTk x kp) M n = Y at *
    unfold fTk
    by_cases z : kp n = -1
    · rw [if_pos z]
      refine ⟨a, fun k k0 k1 => ?_, c⟩
      rw [b k k0 k1]
      by_cases q : x.2.1 k < n ∧ kp (x.2.1 k) = k
      · rw [if_pos q, if_pos (by omega)]
      · rw [if_neg q, if_neg]
        intro y
        by_cases w : x.2.1 k = n
        · rw [w, z] at y; omega
        · exact q ⟨by omega, y.2⟩
    · rw [if_neg z]
      obtain ⟨z1, z2, z3⟩ := hk n (by omega) (by omega) z
      have w1 : Y.2.2.1 (kp n) = 1 := by
        rw [b _ z1.1 z1.2, if_neg (by omega)]; exact z2
      refine ⟨WM_rm hx hP.2 a z1.1 z1.2 w1, fun k k0 k1 => ?_, c⟩
      show fup Y.2.2.1 (kp n) 2 k = _
      by_cases q : k = kp n
      · rw [q, fup_eq, if_pos (by rw [z3]; exact ⟨by omega, rfl⟩)]
      · rw [fup_ne q, b k k0 k1]
        by_cases y : x.2.1 k < n ∧ kp (x.2.1 k) = k
        · rw [if_pos y, if_pos (by omega)]
        · rw [if_neg y, if_neg]
          intro w
          by_cases v : x.2.1 k = n
          · rw [v] at w; exact q w.2.symm
          · exact y ⟨by omega, w.2⟩
noncomputable def zStb (x : Tk) (I : Int → Int) (P : Int) (M : MS) : MS := zTk' x P (kpF x I P M) M
theorem zStb_at {P : Int} {x : Tk} (hx : OKT P x) (hP : 1 ≤ P ∧ P ≤ 6) (I : Int → Int) {M : MS} (h : WM x M) : WM x (zStb x I P M) ∧ (∀ k, 0 ≤ k → k < x.1 → (zStb x I P M).2.2.1 k = if kpF x I P M (x.2.1 k) = k then 2 else M.2.2.1 k) ∧ (zStb x I P M).2.2.2 = M.2.2.2 ∧ ∀ i, 0 ≤ i → i < 6 → kpF x I P M i ≠ -1 → (0 ≤ kpF x I P M i ∧ kpF x I P M i < x.1) ∧ M.2.2.1 (kpF x I P M i) = 1 ∧ x.2.1 (kpF x I P M i) = i := by
  have hk := (KI_rs hx hP I M (x.1 + 1).toNat).1.1
  obtain ⟨a, b, c⟩ := fTk_at hx hP h hk P.toNat (by omega)
  refine ⟨a, fun k k0 k1 => ?_, c, hk⟩
  have xk := hx.2.2 k k0 k1
  have b := b k k0 k1
  show (gfold (fTk x (kpF x I P M)) M P.toNat).2.2.1 k = _
  rw [show (gfold (fTk x (kpF x I P M)) M P.toNat).2.2.1 k = _ from b]
  by_cases e : kpF x I P M (x.2.1 k) = k
  · rw [if_pos e, if_pos ⟨by omega, e⟩]
  · rw [if_neg e, if_neg (fun z => e z.2)]
/-- cells sent, by outputs -/
def cLs (x : Tk) (wh : Int → Int) (o k : Int) : Bool := decide (x.2.2.1 k = o) && decide (wh k = 2)
def sOne (s k : Int) (Y : MS × Int) : MS × Int := ((Y.1.1, Y.1.2.1, fup Y.1.2.2.1 k 3, fup Y.1.2.2.2 k s), Y.2 + 1)
def fSn (x : Tk) (I : Int → Int) (s o : Int) (Y : MS × Int) : MS × Int := if zLst (cLs x Y.1.2.2.1 o) I x.1.toNat = -1 then Y else sOne s (zLst (cLs x Y.1.2.2.1 o) I x.1.toNat) Y
def zSnd (x : Tk) (I : Int → Int) (P s : Int) (Y : MS × Int) : MS × Int := gfold (fSn x I s) Y P.toNat
def cn3 (x : Tk) (wh : Int → Int) : Int := sm (fun k => if wh k = 3 then 1 else 0) x.1.toNat
theorem cn3_r (x : Tk) (wh : Int → Int) (h : 0 ≤ x.1) : 0 ≤ cn3 x wh ∧ cn3 x wh ≤ x.1 := by
  have := sm_r (f := fun k => if wh k = 3 then 1 else 0) (a := 0) (b := 1) x.1.toNat (fun j _ _ => by split <;> omega)
  unfold cn3
  omega
theorem cn3_congr {x : Tk} {wh wh' : Int → Int} (h : ∀ k, 0 ≤ k → k < x.1 → (wh k = 3 ↔ wh' k = 3)) : cn3 x wh = cn3 x wh' := by
  refine sm_congr _ (fun j j0 j1 => ?_)
  have := h j j0 (by omega)
  by_cases e : wh j = 3
  · rw [if_pos e, if_pos (this.mp e)]
  · rw [if_neg e, if_neg (fun z => e (this.mpr z))]
/-- one that isn't sent yet -/
theorem cn3_some {x : Tk} {wh : Int → Int} (h : cn3 x wh < x.1) : ∃ k, 0 ≤ k ∧ k < x.1 ∧ wh k ≠ 3 := by
  apply Classical.byContradiction
  intro n
  have : cn3 x wh = x.1 := by
    unfold cn3
    rw [sm_congr (g := fun _ => 1) x.1.toNat (fun j j0 j1 => by
      by_cases e : wh j = 3
      · rw [if_pos e]
      · exact absurd ⟨j, j0, by omega, e⟩ n), sm_one]
    have := (sm_r (f := fun k => if wh k = 3 then 1 else 0) (a := 0) (b := 1) x.1.toNat (fun j _ _ => by split <;> omega)).1
    unfold cn3 at h
    omega
  omega
theorem fSn_is {x : Tk} {I : Int → Int} {s o : Int} {Y : MS × Int} : (fSn x I s o Y = Y ∧ ∀ k, 0 ≤ k → k < x.1 → x.2.2.1 k = o → Y.1.2.2.1 k ≠ 2) ∨ ∃ k, 0 ≤ k ∧ k < x.1 ∧ x.2.2.1 k = o ∧ Y.1.2.2.1 k = 2 ∧ fSn x I s o Y = sOne s k Y := by
  unfold fSn
  rcases zLst_is (c := cLs x Y.1.2.2.1 o) (I := I) x.1.toNat with ⟨z1, z2⟩ | ⟨z1, z2, z3, z4⟩
  · rw [if_pos z1]
    refine Or.inl ⟨rfl, fun k k0 k1 ko kw => ?_⟩
    have := z2 k k0 (by omega)
    unfold cLs at this
    simp [ko, kw] at this
  · rw [if_neg (by omega)]
    have z3' := z3
    unfold cLs at z3'
    simp only [Bool.and_eq_true, decide_eq_true_eq] at z3'
    exact Or.inr ⟨_, z1, by omega, z3'.1, z3'.2, rfl⟩
def SI3 (x : Tk) (Y : MS × Int) : Prop := WM x Y.1 ∧ Y.2 = cn3 x Y.1.2.2.1
theorem SI3_one {P : Int} {x : Tk} (hx : OKT P x) {s k : Int} {Y : MS × Int} (h : SI3 x Y) (k0 : 0 ≤ k) (k1 : k < x.1) (hk : Y.1.2.2.1 k = 2) : SI3 x (sOne s k Y) ∧ ∀ c, 0 ≤ c → c < x.1 → ((sOne s k Y).1.2.2.1 c = 0 ↔ Y.1.2.2.1 c = 0) := by
  obtain ⟨⟨h1, h2, h3, h4, h5⟩, h6⟩ := h
  refine ⟨⟨⟨fun c c0 c1 => ?_, fun i i0 i1 => ?_, fun i j i0 i1 j0 j1 => ?_, h4, fun c c0 c1 hc => ?_⟩, ?_⟩, fun c c0 c1 => ?_⟩
  · show 0 ≤ fup Y.1.2.2.1 k 3 c ∧ fup Y.1.2.2.1 k 3 c ≤ 3
    by_cases e : c = k
    · rw [e, fup_eq]; omega
    · rw [fup_ne e]; exact h1 c c0 c1
  · show Y.1.2.1 i = cn1 x (fup Y.1.2.2.1 k 3) i
    rw [cn1_up x Y.1.2.2.1 i 3 k0 k1, if_neg (by decide), if_neg (by omega), h2 i i0 i1]; omega
  · have t := h3 i j i0 i1 j0 j1
    show _ ∧ fup Y.1.2.2.1 k 3 (Y.1.1 (40 * i + j)) = 1 ∧ _
    rw [fup_ne (fun z => by rw [z, hk] at t; omega)]; exact t
  · have hc : fup Y.1.2.2.1 k 3 c = 1 := hc
    have e : c ≠ k := fun z => by rw [z, fup_eq] at hc; omega
    rw [fup_ne e] at hc
    exact h5 c c0 c1 hc
  · show Y.2 + 1 = cn3 x (fup Y.1.2.2.1 k 3)
    unfold cn3
    rw [sm_upd (g := fun j => if Y.1.2.2.1 j = 3 then 1 else 0) (g' := fun j => if fup Y.1.2.2.1 k 3 j = 3 then 1 else 0) k0 (fun q hq => by rw [fup_ne hq]) x.1.toNat, if_pos (by omega), fup_eq, if_pos rfl, if_neg (by omega), h6]
    unfold cn3
    omega
  · show fup Y.1.2.2.1 k 3 c = 0 ↔ _
    by_cases e : c = k
    · rw [e, fup_eq]
      exact ⟨fun z => absurd z (by decide), fun z => by omega⟩
    · rw [fup_ne e]
theorem zSnd_at {P : Int} {x : Tk} (hx : OKT P x) (I : Int → Int) (s : Int) {Y : MS × Int} (h : SI3 x Y) : ∀ n : Nat, SI3 x (gfold (fSn x I s) Y n) ∧ (∀ c, 0 ≤ c → c < x.1 → ((gfold (fSn x I s) Y n).1.2.2.1 c = 0 ↔ Y.1.2.2.1 c = 0)) ∧ Y.2 ≤ (gfold (fSn x I s) Y n).2 ∧ (gfold (fSn x I s) Y n = Y ∧ (∀ k, 0 ≤ k → k < x.1 → x.2.2.1 k < n → Y.1.2.2.1 k ≠ 2) ∨ Y.2 + 1 ≤ (gfold (fSn x I s) Y n).2)
  | 0 => ⟨h, fun _ _ _ => Iff.rfl, Int.le_refl _, by
      by_cases e : ∀ k, 0 ≤ k → k < x.1 → x.2.2.1 k < ((0 : Nat) : Int) → Y.1.2.2.1 k ≠ 2
      · exact Or.inl ⟨rfl, e⟩
      · exfalso
        apply e
        intro k k0 k1 k2
        have := (hx.2.2 k k0 k1).2.1
        omega⟩
  | n + 1 => by
    obtain ⟨a, b, c, d⟩ := zSnd_at hx I s h n
    have e : gfold (fSn x I s) Y (n + 1) = fSn x I s n (gfold (fSn x I s) Y n) := rfl
    rw [e]
    generalize gfold (fSn x I s) Y n = Z at *
    rcases fSn_is (x := x) (I := I) (s := s) (o := n) (Y := Z) with ⟨z, z2⟩ | ⟨k, k0, k1, ko, kw, z⟩
    · rw [z]
      refine ⟨a, b, c, ?_⟩
      rcases d with ⟨d1, d2⟩ | d
      · refine Or.inl ⟨d1, fun k k0 k1 k2 => ?_⟩
        by_cases q : x.2.2.1 k = n
        · rw [← d1]; exact z2 k k0 k1 q
        · exact d2 k k0 k1 (by omega)
      · exact Or.inr d
    · rw [z]
      obtain ⟨s1, s2⟩ := SI3_one hx (s := s) a k0 k1 kw
      refine ⟨s1, fun q q0 q1 => (s2 q q0 q1).trans (b q q0 q1), ?_, Or.inr ?_⟩
      · show Y.2 ≤ Z.2 + 1
        omega
      · show Y.2 + 1 ≤ Z.2 + 1
        omega
/-- a slot of the crossbar that mimics; all slots -/
noncomputable def zSlt (x : Tk) (I : Int → Int) (P sp s : Int) (Y : MS × Int) : MS × Int :=
  (if sp = 2 then zStb x I P (zSnd x I P s (zStb x I P (zCm x I s Y.1), Y.2)).1 else (zSnd x I P s (zStb x I P (zCm x I s Y.1), Y.2)).1, (zSnd x I P s (zStb x I P (zCm x I s Y.1), Y.2)).2)
noncomputable def zAll (x : Tk) (I : Int → Int) (P sp : Int) : Nat → MS × Int
  | 0 => ((fun _ => 0, fun _ => 0, fun _ => 0, fun _ => 0), 0)
  | s + 1 => zSlt x I P sp s (zAll x I P sp s)
def TI (x : Tk) (s : Int) (Y : MS × Int) : Prop := SI3 x Y ∧ ∀ k, 0 ≤ k → k < x.1 → (Y.1.2.2.1 k = 0 ↔ s ≤ x.2.2.2 k)
theorem TI_0 {P : Int} {x : Tk} (hx : OKT P x) (I : Int → Int) (sp : Int) : TI x 0 (zAll x I P sp 0) := by
  refine ⟨⟨⟨fun k _ _ => by show (0 : Int) ≤ 0 ∧ (0 : Int) ≤ 3; omega, fun i _ _ => ?_, fun i j _ _ j0 j1 => absurd (show j < 0 from j1) (by omega), fun i j j' _ _ j0 j1 => absurd (show j < 0 from j1) (by omega), fun k _ _ hk => absurd (show (0 : Int) = 1 from hk) (by decide)⟩, ?_⟩, fun k k0 k1 => ?_⟩
  · show (0 : Int) = cn1 x (fun _ => 0) i
    exact (sm_zero _ (fun j _ _ => by simp)).symm
  · show (0 : Int) = cn3 x (fun _ => 0)
    exact (sm_zero _ (fun j _ _ => by simp)).symm
  · have := (hx.2.2 k k0 k1).2.2
    exact ⟨fun _ => by omega, fun _ => rfl⟩
/-- what a slot's steps leave -/
theorem TI_slt {P : Int} {x : Tk} (hx : OKT P x) (hP : 1 ≤ P ∧ P ≤ 6) (I : Int → Int) (sp s : Int) {Y : MS × Int} (h : TI x s Y) : (WM x (zCm x I s Y.1) ∧ SI3 x (zStb x I P (zCm x I s Y.1), Y.2) ∧ SI3 x (zSnd x I P s (zStb x I P (zCm x I s Y.1), Y.2))) ∧ TI x (s + 1) (zSlt x I P sp s Y) ∧ Y.2 ≤ (zSlt x I P sp s Y).2 ∧ ((∀ k, 0 ≤ k → k < x.1 → x.2.2.2 k ≤ s) → Y.2 < x.1 → Y.2 + 1 ≤ (zSlt x I P sp s Y).2) := by
  obtain ⟨⟨h1, h2⟩, h3⟩ := h
  have hx0 := hx.1
  obtain ⟨a1, a2⟩ := zCm_at hx hP.2 (I := I) (s := s) h1 h3 x.1.toNat (by omega)
  have a1 : WM x (zCm x I s Y.1) := a1
  have a2 : ∀ k, 0 ≤ k → k < x.1 → (zCm x I s Y.1).2.2.1 k = if x.2.2.2 k = s then 1 else Y.1.2.2.1 k := fun k k0 k1 => by
    rw [show (zCm x I s Y.1).2.2.1 k = _ from a2 k k0 k1]
    by_cases e : x.2.2.2 k = s
    · rw [if_pos e, if_pos ⟨by omega, e⟩]
    · rw [if_neg e, if_neg (fun z => e z.2)]
  have s0 : ∀ k, 0 ≤ k → k < x.1 → x.2.2.2 k = s → Y.1.2.2.1 k = 0 := fun k k0 k1 e => (h3 k k0 k1).mpr (by omega)
  have z0 : ∀ k, 0 ≤ k → k < x.1 → ((zCm x I s Y.1).2.2.1 k = 0 ↔ s + 1 ≤ x.2.2.2 k) := fun k k0 k1 => by
    rw [a2 k k0 k1]
    have := h3 k k0 k1
    by_cases e : x.2.2.2 k = s
    · rw [if_pos e]; omega
    · rw [if_neg e]; omega
  have c3 : cn3 x (zCm x I s Y.1).2.2.1 = cn3 x Y.1.2.2.1 := cn3_congr (fun k k0 k1 => by
    rw [a2 k k0 k1]
    by_cases e : x.2.2.2 k = s
    · rw [if_pos e, s0 k k0 k1 e]; omega
    · rw [if_neg e])
  obtain ⟨b1, b2, b3, b4⟩ := zStb_at hx hP I a1
  have bw : ∀ M : MS, WM x M → ∀ k, 0 ≤ k → k < x.1 → (((zStb x I P M).2.2.1 k = 0 ↔ M.2.2.1 k = 0) ∧ ((zStb x I P M).2.2.1 k = 3 ↔ M.2.2.1 k = 3)) := fun M hM k k0 k1 => by
    obtain ⟨q1, q2, q3, q4⟩ := zStb_at hx hP I hM
    have xk := hx.2.2 k k0 k1
    rw [q2 k k0 k1]
    by_cases e : kpF x I P M (x.2.1 k) = k
    · have := (q4 (x.2.1 k) (by omega) (by omega) (by omega)).2.1
      rw [e] at this
      rw [if_pos e]; omega
    · rw [if_neg e]; exact ⟨Iff.rfl, Iff.rfl⟩
  have S2 : SI3 x (zStb x I P (zCm x I s Y.1), Y.2) := ⟨b1, by
    show Y.2 = cn3 x (zStb x I P (zCm x I s Y.1)).2.2.1
    rw [cn3_congr (fun k k0 k1 => (bw _ a1 k k0 k1).2), c3]; exact h2⟩
  obtain ⟨c1, c2, c4, c5⟩ := zSnd_at hx I s S2 P.toNat
  have c1 : SI3 x (zSnd x I P s (zStb x I P (zCm x I s Y.1), Y.2)) := c1
  have c2 : ∀ c, 0 ≤ c → c < x.1 → ((zSnd x I P s (zStb x I P (zCm x I s Y.1), Y.2)).1.2.2.1 c = 0 ↔ (zStb x I P (zCm x I s Y.1)).2.2.1 c = 0) := c2
  have c4 : Y.2 ≤ (zSnd x I P s (zStb x I P (zCm x I s Y.1), Y.2)).2 := c4
  have c5 : (zSnd x I P s (zStb x I P (zCm x I s Y.1), Y.2) = (zStb x I P (zCm x I s Y.1), Y.2) ∧ (∀ k, 0 ≤ k → k < x.1 → x.2.2.1 k < (P.toNat : Nat) → (zStb x I P (zCm x I s Y.1)).2.2.1 k ≠ 2)) ∨ Y.2 + 1 ≤ (zSnd x I P s (zStb x I P (zCm x I s Y.1), Y.2)).2 := c5
  refine ⟨⟨a1, S2, c1⟩, ?_, c4, fun hall hlt => ?_⟩
  · unfold zSlt
    by_cases e : sp = 2
    · rw [if_pos e]
      obtain ⟨d1, d2, d3, d4⟩ := zStb_at hx hP I c1.1
      exact ⟨⟨d1, by show _ = cn3 x _; rw [cn3_congr (fun k k0 k1 => (bw _ c1.1 k k0 k1).2)]; exact c1.2⟩, fun k k0 k1 => ((bw _ c1.1 k k0 k1).1.trans (c2 k k0 k1)).trans ((bw _ a1 k k0 k1).1.trans (z0 k k0 k1))⟩
    · rw [if_neg e]
      exact ⟨c1, fun k k0 k1 => (c2 k k0 k1).trans ((bw _ a1 k k0 k1).1.trans (z0 k k0 k1))⟩
  · show Y.2 + 1 ≤ (zSnd x I P s (zStb x I P (zCm x I s Y.1), Y.2)).2
    rcases c5 with ⟨_, d2⟩ | d
    · exfalso
      obtain ⟨k, k0, k1, k2⟩ := cn3_some (x := x) (wh := (zCm x I s Y.1).2.2.1) (by rw [c3, ← h2]; exact hlt)
      have w := a1.1 k k0 k1
      have w0 := z0 k k0 k1
      have ht := hall k k0 k1
      have hw : (zCm x I s Y.1).2.2.1 k = 1 ∨ (zCm x I s Y.1).2.2.1 k = 2 := by omega
      have two : ∀ c, 0 ≤ c → c < x.1 → (zStb x I P (zCm x I s Y.1)).2.2.1 c = 2 → False := fun c q0 q1 q2 => d2 c q0 q1 (by have := (hx.2.2 c q0 q1).2.1; omega) q2
      rcases hw with hw | hw
      · obtain ⟨i, i0, i1, i2⟩ := kpF_some hx hP I (zCm x I s Y.1) k0 k1 hw
        obtain ⟨j1, j2, j3⟩ := b4 i i0 i1 i2
        refine two _ j1.1 j1.2 ?_
        rw [b2 _ j1.1 j1.2, j3, if_pos rfl]
      · refine two k k0 k1 ?_
        rw [b2 k k0 k1]
        split
        · rfl
        · exact hw
    · exact d
theorem TI_all {P : Int} {x : Tk} (hx : OKT P x) (hP : 1 ≤ P ∧ P ≤ 6) (I : Int → Int) (sp : Int) : ∀ s : Nat, TI x s (zAll x I P sp s)
  | 0 => TI_0 hx I sp
  | s + 1 => by
    have := (TI_slt hx hP I sp s (TI_all hx hP I sp s)).2.1
    rw [show ((s + 1 : Nat) : Int) = (s : Int) + 1 by omega]
    exact this
theorem zAll_end {P : Int} {x : Tk} (hx : OKT P x) (hP : 1 ≤ P ∧ P ≤ 6) (I : Int → Int) (sp : Int) : (zAll x I P sp 401).2 = x.1 := by
  have hx0 := hx.1
  have up : ∀ m : Nat, m ≤ 40 → ((m : Int) ≤ (zAll x I P sp (361 + m)).2 ∨ x.1 ≤ (zAll x I P sp (361 + m)).2) := by
    intro m
    induction m with
    | zero =>
      intro _
      have t := TI_all hx hP I sp (361 + 0)
      have := cn3_r x (zAll x I P sp (361 + 0)).1.2.2.1 hx0
      have := t.1.2
      omega
    | succ m ih =>
      intro hm
      have t := TI_slt hx hP I sp ((361 + m : Nat) : Int) (TI_all hx hP I sp (361 + m))
      have e : zAll x I P sp (361 + (m + 1)) = zSlt x I P sp ((361 + m : Nat) : Int) (zAll x I P sp (361 + m)) := rfl
      rw [e]
      have ih := ih (by omega)
      have p := t.2.2.2 (fun k k0 k1 => by have := (hx.2.2 k k0 k1).2.2; omega)
      have q := t.2.2.1
      by_cases z : (zAll x I P sp (361 + m)).2 < x.1
      · have := p z
        omega
      · omega
  have u := up 40 (Nat.le_refl _)
  have t := TI_all hx hP I sp 401
  have := cn3_r x (zAll x I P sp 401).1.2.2.1 hx0
  have := t.1.2
  have u : (40 : Int) ≤ (zAll x I P sp 401).2 ∨ x.1 ≤ (zAll x I P sp 401).2 := u
  have := hx.2.1
  omega
/-- the slot in which all are sent -/
def isEn (x : Tk) (f : Nat → MS × Int) (s : Nat) : Prop := (f s).2 = x.1 ∧ ∀ r, r < s → (f r).2 ≠ x.1
theorem isEn_eq {x : Tk} {f : Nat → MS × Int} {s r : Nat} (h : isEn x f s) (k : isEn x f r) : s = r := by
  by_cases e : s < r
  · exact absurd h.1 (k.2 s e)
  · by_cases e2 : r < s
    · exact absurd k.1 (h.2 r e2)
    · omega
