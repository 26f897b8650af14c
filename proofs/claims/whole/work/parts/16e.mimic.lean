/-- a crossbar that mimics: rows, their sizes, where each cell is, when it went -/
abbrev MS : Type := (Int → Int) × (Int → Int) × (Int → Int) × (Int → Int)
def ahd (x : Tk) (I wh : Int → Int) (k : Int) : Int := sm (fun c => if wh c = 2 then (if x.2.2.1 c = x.2.2.1 k then (if I k ≤ I c then 0 else 1) else 0) else 0) x.1.toNat
def pAt (x : Tk) (I : Int → Int) (M : MS) (k : Int) : Int := min (ahd x I M.2.2.1 k) (M.2.1 (x.2.1 k))
def zPut (x : Tk) (I : Int → Int) (k : Int) (M : MS) : MS :=
  (fun p => if p = 40 * x.2.1 k + pAt x I M k then k else if 40 * x.2.1 k + pAt x I M k < p ∧ p ≤ 40 * x.2.1 k + M.2.1 (x.2.1 k) then M.1 (p - 1) else M.1 p, fup M.2.1 (x.2.1 k) (M.2.1 (x.2.1 k) + 1), fup M.2.2.1 k 1, M.2.2.2)
def cn1 (x : Tk) (wh : Int → Int) (i : Int) : Int := sm (fun k => if wh k = 1 then (if x.2.1 k = i then 1 else 0) else 0) x.1.toNat
/-- rows in order -/
def WM (x : Tk) (M : MS) : Prop :=
  (∀ k, 0 ≤ k → k < x.1 → 0 ≤ M.2.2.1 k ∧ M.2.2.1 k ≤ 3) ∧ (∀ i, 0 ≤ i → i < 6 → M.2.1 i = cn1 x M.2.2.1 i) ∧
  (∀ i j, 0 ≤ i → i < 6 → 0 ≤ j → j < M.2.1 i → (0 ≤ M.1 (40 * i + j) ∧ M.1 (40 * i + j) < x.1) ∧ M.2.2.1 (M.1 (40 * i + j)) = 1 ∧ x.2.1 (M.1 (40 * i + j)) = i) ∧
  (∀ i j j', 0 ≤ i → i < 6 → 0 ≤ j → j < M.2.1 i → 0 ≤ j' → j' < M.2.1 i → M.1 (40 * i + j) = M.1 (40 * i + j') → j = j') ∧
  (∀ k, 0 ≤ k → k < x.1 → M.2.2.1 k = 1 → ∃ j, 0 ≤ j ∧ j < M.2.1 (x.2.1 k) ∧ M.1 (40 * x.2.1 k + j) = k)
theorem cn1_r (x : Tk) (wh : Int → Int) (i : Int) (h : 0 ≤ x.1) : 0 ≤ cn1 x wh i ∧ cn1 x wh i ≤ x.1 := by
  have := sm_r (f := fun k => if wh k = 1 then (if x.2.1 k = i then 1 else 0) else 0) (a := 0) (b := 1) x.1.toNat (fun j _ _ => by split <;> (try split) <;> omega)
  unfold cn1
  omega
theorem cn1_lt (x : Tk) (wh : Int → Int) (i : Int) {k : Int} (k0 : 0 ≤ k) (k1 : k < x.1) (hk : wh k ≠ 1) : cn1 x wh i < x.1 := by
  have := sm_lt (f := fun k => if wh k = 1 then (if x.2.1 k = i then 1 else 0) else 0) (g := fun _ => 1) x.1.toNat (fun j _ _ => by split <;> (try split) <;> omega) ⟨k, k0, by omega, by simp [hk]⟩
  rw [sm_one] at this
  unfold cn1
  omega
theorem cn1_up (x : Tk) (wh : Int → Int) (i v : Int) {k : Int} (k0 : 0 ≤ k) (k1 : k < x.1) : cn1 x (fup wh k v) i = cn1 x wh i + ((if v = 1 then (if x.2.1 k = i then 1 else 0) else 0) - (if wh k = 1 then (if x.2.1 k = i then 1 else 0) else 0)) := by
  unfold cn1
  rw [sm_upd (g := fun k => if wh k = 1 then (if x.2.1 k = i then 1 else 0) else 0) (g' := fun j => if fup wh k v j = 1 then (if x.2.1 j = i then 1 else 0) else 0) k0 (fun q hq => by unfold fup; rw [if_neg hq]) x.1.toNat, if_pos (by omega)]
  unfold fup
  simp only [if_true]
theorem pAt_r {x : Tk} {I : Int → Int} {M : MS} {k : Int} (h : 0 ≤ M.2.1 (x.2.1 k)) : 0 ≤ pAt x I M k ∧ pAt x I M k ≤ M.2.1 (x.2.1 k) := by
  have := (sm_r (f := fun c => if M.2.2.1 c = 2 then (if x.2.2.1 c = x.2.2.1 k then (if I k ≤ I c then 0 else 1) else 0) else 0) (a := 0) (b := 1) x.1.toNat (fun j _ _ => by split <;> (try split) <;> (try split) <;> omega)).1
  unfold pAt ahd
  omega
theorem WM_put {P : Int} {x : Tk} (hx : OKT P x) (hP : P ≤ 6) {I : Int → Int} {M : MS} (h : WM x M) {k : Int} (k0 : 0 ≤ k) (k1 : k < x.1) (hk : M.2.2.1 k = 0) : WM x (zPut x I k M) := by
  obtain ⟨h1, h2, h3, h4, h5⟩ := h
  have h40 := hx.2.1
  have xk := hx.2.2 k k0 k1
  have hi := h2 (x.2.1 k) (by omega) (by omega)
  have cl := cn1_lt x M.2.2.1 (x.2.1 k) k0 k1 (by omega)
  have lr : ∀ i, 0 ≤ i → i < 6 → 0 ≤ M.2.1 i ∧ M.2.1 i < 40 := fun i i0 i1 => by
    have := cn1_r x M.2.2.1 i hx.1
    have := cn1_lt x M.2.2.1 i k0 k1 (by omega)
    rw [h2 i i0 i1]; omega
  have pr := pAt_r (I := I) (M := M) (k := k) (x := x) (lr _ (by omega) (by omega)).1
  generalize ea : pAt x I M k = a at *
  have wk : fup M.2.2.1 k 1 k = 1 := by unfold fup; rw [if_pos rfl]
  have wn : ∀ j, j ≠ k → fup M.2.2.1 k 1 j = M.2.2.1 j := fun j hj => by unfold fup; rw [if_neg hj]
  have dk : fup M.2.1 (x.2.1 k) (M.2.1 (x.2.1 k) + 1) (x.2.1 k) = M.2.1 (x.2.1 k) + 1 := by unfold fup; rw [if_pos rfl]
  have dn : ∀ j, j ≠ x.2.1 k → fup M.2.1 (x.2.1 k) (M.2.1 (x.2.1 k) + 1) j = M.2.1 j := fun j hj => by unfold fup; rw [if_neg hj]
  have li := lr (x.2.1 k) (by omega) (by omega)
  -- the rows' elements, anew
  have lo : ∀ i j, 0 ≤ i → i < 6 → i ≠ x.2.1 k → 0 ≤ j → j < M.2.1 i → (zPut x I k M).1 (40 * i + j) = M.1 (40 * i + j) := fun i j i0 i1 hn j0 j1 => by
    have := lr i i0 i1
    unfold zPut
    dsimp only
    rw [ea, if_neg (by omega), if_neg (by omega)]
  have l1 : ∀ j, 0 ≤ j → j < a → (zPut x I k M).1 (40 * x.2.1 k + j) = M.1 (40 * x.2.1 k + j) := fun j j0 j1 => by
    unfold zPut
    dsimp only
    rw [ea, if_neg (by omega), if_neg (by omega)]
  have l2 : (zPut x I k M).1 (40 * x.2.1 k + a) = k := by
    unfold zPut
    dsimp only
    rw [ea, if_pos rfl]
  have l3 : ∀ j, a < j → j ≤ M.2.1 (x.2.1 k) → (zPut x I k M).1 (40 * x.2.1 k + j) = M.1 (40 * x.2.1 k + (j - 1)) := fun j j0 j1 => by
    unfold zPut
    dsimp only
    rw [ea, if_neg (by omega), if_pos (by omega), show 40 * x.2.1 k + j - 1 = 40 * x.2.1 k + (j - 1) by omega]
  have old : ∀ i j, 0 ≤ i → i < 6 → 0 ≤ j → j < M.2.1 i → M.1 (40 * i + j) ≠ k := fun i j i0 i1 j0 j1 q => by
    have := (h3 i j i0 i1 j0 j1).2.1
    rw [q, hk] at this
    omega
  -- an element of the new row i: k itself, or an old one
  have el : ∀ j, 0 ≤ j → j < M.2.1 (x.2.1 k) + 1 → ((zPut x I k M).1 (40 * x.2.1 k + j) = k ∧ j = a) ∨ ∃ j', 0 ≤ j' ∧ j' < M.2.1 (x.2.1 k) ∧ (zPut x I k M).1 (40 * x.2.1 k + j) = M.1 (40 * x.2.1 k + j') ∧ ((j < a ∧ j' = j) ∨ (a < j ∧ j' = j - 1)) := fun j j0 j1 => by
    by_cases e1 : j < a
    · exact Or.inr ⟨j, j0, by omega, l1 j j0 e1, Or.inl ⟨e1, rfl⟩⟩
    · by_cases e2 : j = a
      · exact Or.inl ⟨by rw [e2]; exact l2, e2⟩
      · exact Or.inr ⟨j - 1, by omega, by omega, l3 j (by omega) (by omega), Or.inr ⟨by omega, rfl⟩⟩
  refine ⟨fun c c0 c1 => ?_, fun i i0 i1 => ?_, fun i j i0 i1 j0 j1 => ?_, fun i j j' i0 i1 j0 j1 j0' j1' q => ?_, fun c c0 c1 hc => ?_⟩
  · show 0 ≤ fup M.2.2.1 k 1 c ∧ fup M.2.2.1 k 1 c ≤ 3
    by_cases e : c = k
    · rw [e, wk]; omega
    · rw [wn c e]; exact h1 c c0 c1
  · show fup M.2.1 (x.2.1 k) (M.2.1 (x.2.1 k) + 1) i = cn1 x (fup M.2.2.1 k 1) i
    rw [cn1_up x M.2.2.1 i 1 k0 k1, if_pos rfl, if_neg (show ¬ M.2.2.1 k = 1 by omega)]
    by_cases e : i = x.2.1 k
    · rw [e, dk, if_pos rfl, hi]; omega
    · rw [dn i e, if_neg (fun z => e z.symm), h2 i i0 i1]; omega
  · have j1 : j < fup M.2.1 (x.2.1 k) (M.2.1 (x.2.1 k) + 1) i := j1
    show (0 ≤ (zPut x I k M).1 (40 * i + j) ∧ (zPut x I k M).1 (40 * i + j) < x.1) ∧ fup M.2.2.1 k 1 ((zPut x I k M).1 (40 * i + j)) = 1 ∧ x.2.1 ((zPut x I k M).1 (40 * i + j)) = i
    by_cases e : i = x.2.1 k
    · rw [e, dk] at j1
      rw [e]
      rcases el j j0 j1 with ⟨q, _⟩ | ⟨j', q0, q1, q2, _⟩
      · rw [q, wk]; exact ⟨⟨k0, k1⟩, rfl, rfl⟩
      · rw [q2, wn _ (old _ j' (by omega) (by omega) q0 q1)]; exact h3 _ j' (by omega) (by omega) q0 q1
    · rw [dn i e] at j1
      rw [lo i j i0 i1 e j0 j1, wn _ (old i j i0 i1 j0 j1)]; exact h3 i j i0 i1 j0 j1
  · have j1 : j < fup M.2.1 (x.2.1 k) (M.2.1 (x.2.1 k) + 1) i := j1
    have j1' : j' < fup M.2.1 (x.2.1 k) (M.2.1 (x.2.1 k) + 1) i := j1'
    by_cases e : i = x.2.1 k
    · rw [e, dk] at j1 j1'
      rw [e] at q
      rcases el j j0 j1 with ⟨q1, q2⟩ | ⟨s, s0, s1, s2, s3⟩
      · rcases el j' j0' j1' with ⟨p1, p2⟩ | ⟨s', t0, t1, t2, t3⟩
        · omega
        · rw [q1, t2] at q
          exact absurd q.symm (old _ s' (by omega) (by omega) t0 t1)
      · rcases el j' j0' j1' with ⟨p1, p2⟩ | ⟨s', t0, t1, t2, t3⟩
        · rw [p1, s2] at q
          exact absurd q (old _ s (by omega) (by omega) s0 s1)
        · rw [s2, t2] at q
          have := h4 _ s s' (by omega) (by omega) s0 s1 t0 t1 q
          omega
    · rw [dn i e] at j1 j1'
      rw [lo i j i0 i1 e j0 j1, lo i j' i0 i1 e j0' j1'] at q
      exact h4 i j j' i0 i1 j0 j1 j0' j1' q
  · have hc : fup M.2.2.1 k 1 c = 1 := hc
    show ∃ j, 0 ≤ j ∧ j < fup M.2.1 (x.2.1 k) (M.2.1 (x.2.1 k) + 1) (x.2.1 c) ∧ (zPut x I k M).1 (40 * x.2.1 c + j) = c
    by_cases e : c = k
    · rw [e, dk]
      exact ⟨a, by omega, by omega, l2⟩
    · rw [wn c e] at hc
      obtain ⟨j, q0, q1, q2⟩ := h5 c c0 c1 hc
      have xc := hx.2.2 c c0 c1
      by_cases e2 : x.2.1 c = x.2.1 k
      · rw [e2] at q1 q2 ⊢
        rw [dk]
        by_cases e3 : j < a
        · exact ⟨j, q0, by omega, by rw [l1 j q0 e3]; exact q2⟩
        · exact ⟨j + 1, by omega, by omega, by rw [l3 (j + 1) (by omega) (by omega), show j + 1 - 1 = j by omega]; exact q2⟩
      · rw [dn _ e2]
        exact ⟨j, q0, q1, by rw [lo _ j (by omega) (by omega) e2 q0 q1]; exact q2⟩
/-- cells that come in a slot -/
def fCm (x : Tk) (I : Int → Int) (s k : Int) (M : MS) : MS := if x.2.2.2 k = s then zPut x I k M else M
def zCm (x : Tk) (I : Int → Int) (s : Int) (M : MS) : MS := gfold (fCm x I s) M x.1.toNat
theorem zCm_at {P : Int} {x : Tk} (hx : OKT P x) (hP : P ≤ 6) {I : Int → Int} {s : Int} {M : MS} (h : WM x M) (h0 : ∀ k, 0 ≤ k → k < x.1 → (M.2.2.1 k = 0 ↔ s ≤ x.2.2.2 k)) : ∀ n : Nat, (n : Int) ≤ x.1 →
    WM x (gfold (fCm x I s) M n) ∧ ∀ k, 0 ≤ k → k < x.1 → (gfold (fCm x I s) M n).2.2.1 k = if k < n ∧ x.2.2.2 k = s then 1 else M.2.2.1 k
  | 0, _ => ⟨h, fun k k0 k1 => by rw [if_neg (by omega)]; rfl⟩
  | n + 1, hn => by
    obtain ⟨a, b⟩ := zCm_at hx hP (I := I) h h0 n (by omega)
    show WM x (fCm x I s n (gfold (fCm x I s) M n)) ∧ ∀ k, 0 ≤ k → k < x.1 → (fCm x I s n (gfold (fCm x I s) M n)).2.2.1 k = if k < ((n + 1 : Nat) : Int) ∧ x.2.2.2 k = s then 1 else M.2.2.1 k
    generalize gfold (fCm x I s) M n = Y at *
    unfold fCm
    by_cases e : x.2.2.2 n = s
    · rw [if_pos e]
      have w0 : Y.2.2.1 n = 0 := by
        rw [b n (by omega) (by omega), if_neg (by omega)]
        exact (h0 n (by omega) (by omega)).mpr (by omega)
      refine ⟨WM_put hx hP a (by omega) (by omega) w0, fun k k0 k1 => ?_⟩
      show fup Y.2.2.1 n 1 k = _
      unfold fup
      by_cases q : k = n
      · rw [if_pos q, if_pos (by rw [q]; exact ⟨by omega, e⟩)]
      · rw [if_neg q, b k k0 k1]
        by_cases z : k < n ∧ x.2.2.2 k = s
        · rw [if_pos z, if_pos (by omega)]
        · rw [if_neg z, if_neg (by omega)]
    · rw [if_neg e]
      refine ⟨a, fun k k0 k1 => ?_⟩
      rw [b k k0 k1]
      by_cases z : k < n ∧ x.2.2.2 k = s
      · rw [if_pos z, if_pos (by omega)]
      · rw [if_neg z, if_neg]
        intro q
        by_cases y : k = n
        · rw [y] at q; exact e q.2
        · omega
theorem zPut_m (x : Tk) (I : Int → Int) (k : Int) (M : MS) : (zPut x I k M).2.2.2 = M.2.2.2 := rfl
theorem zCm_m (x : Tk) (I : Int → Int) (s : Int) (M : MS) : ∀ n : Nat, (gfold (fCm x I s) M n).2.2.2 = M.2.2.2
  | 0 => rfl
  | n + 1 => by
    show (fCm x I s n (gfold (fCm x I s) M n)).2.2.2 = _
    unfold fCm
    split
    · rw [zPut_m]; exact zCm_m x I s M n
    · exact zCm_m x I s M n
