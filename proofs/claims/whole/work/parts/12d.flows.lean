theorem sm_upd {g g' : Int → Int} {q0 : Int} (h0 : 0 ≤ q0) (h : ∀ q, q ≠ q0 → g' q = g q) : ∀ n : Nat, sm g' n = sm g n + (if q0 < n then g' q0 - g q0 else 0)
  | 0 => by rw [if_neg (by omega)]; rfl
  | n + 1 => by
    show sm g' n + g' n = sm g n + g n + _
    rw [sm_upd h0 h n]
    by_cases e : q0 = n
    · rw [if_neg (by omega), if_pos (by omega), ← e]; omega
    · rw [h n (fun z => e z.symm)]
      by_cases z : q0 < n
      · rw [if_pos z, if_pos (by omega)]; omega
      · rw [if_neg z, if_neg (by omega)]; omega
theorem gfold_noop {α : Type} {f : Int → α → α} {a : α} (m : Nat) : ∀ d : Nat, (∀ j x, (m : Int) ≤ j → j < m + d → f j x = x) → gfold f a (m + d) = gfold f a m
  | 0, _ => rfl
  | d + 1, h => by
    show f ((m + d : Nat) : Int) (gfold f a (m + d)) = _
    rw [h _ _ (by omega) (by omega)]
    exact gfold_noop m d (fun j x j0 j1 => h j x j0 (by omega))
abbrev Fl : Type := Int × (Int → Int) × (Int → Int)
def fFl (S : RS) (k : Int) (x : Fl) : Fl :=
  if S 109 k = -1 then x else if x.2.2 (6 * S 109 k + k % 6) = 0 then (x.1 + 1, fup x.2.1 x.1 (10 * S 109 k + k % 6), fup x.2.2 (6 * S 109 k + k % 6) 1) else (x.1, x.2.1, fup x.2.2 (6 * S 109 k + k % 6) (x.2.2 (6 * S 109 k + k % 6) + 1))
def fl0 : Fl := (0, fun _ => 0, fun _ => 0)
def zFl (S : RS) : Fl := gfold (fFl S) fl0 (6 * S 88 24).toNat
def qof (c : Int) : Int := 6 * (c / 10) + c % 10
theorem qof_e (i o : Int) (ho : 0 ≤ o ∧ o < 6) : qof (10 * i + o) = 6 * i + o := by unfold qof; omega
def OKL (k : Int) (x : Fl) : Prop :=
  0 ≤ x.1 ∧ x.1 = sm (fun q => if x.2.2 q = 0 then 0 else 1) 36 ∧ (∀ q, 0 ≤ q → q < 36 → 0 ≤ x.2.2 q ∧ x.2.2 q ≤ k) ∧
  (∀ f, 0 ≤ f → f < x.1 → ∃ i o, (0 ≤ i ∧ i < 6) ∧ (0 ≤ o ∧ o < 6) ∧ x.2.1 f = 10 * i + o ∧ x.2.2 (6 * i + o) ≠ 0) ∧
  (∀ i o, 0 ≤ i → i < 6 → 0 ≤ o → o < 6 → x.2.2 (6 * i + o) ≠ 0 → ∃ f, 0 ≤ f ∧ f < x.1 ∧ x.2.1 f = 10 * i + o) ∧
  (∀ f g, 0 ≤ f → f < x.1 → 0 ≤ g → g < x.1 → x.2.1 f = x.2.1 g → f = g)
theorem OKL_0 : OKL 0 fl0 := ⟨by decide, by decide, fun q _ _ => ⟨Int.le_refl _, Int.le_refl _⟩, fun f f0 f1 => absurd f1 (by show ¬ f < 0; omega), fun i o _ _ _ _ z => absurd rfl z, fun f g f0 f1 => absurd f1 (by show ¬ f < 0; omega)⟩
theorem OKL_36 {k : Int} {x : Fl} (h : OKL k x) : x.1 ≤ 36 := by
  have := sm_r (f := fun q => if x.2.2 q = 0 then 0 else 1) (a := 0) (b := 1) 36 (fun j _ _ => by
    by_cases e : x.2.2 j = 0
    · simp [e]
    · simp [e])
  have e := h.2.1
  omega
theorem fFl_ok {S : RS} {k : Int} {x : Fl} (k0 : 0 ≤ k) (hs : S 109 k = -1 ∨ (0 ≤ S 109 k ∧ S 109 k < 6)) (h : OKL k x) : OKL (k + 1) (fFl S k x) := by
  obtain ⟨h1, h2, h3, h4, h5, h6⟩ := h
  unfold fFl
  by_cases e : S 109 k = -1
  · rw [if_pos e]
    exact ⟨h1, h2, fun q q0 q1 => by have := h3 q q0 q1; omega, h4, h5, h6⟩
  · rw [if_neg e]
    have hi : 0 ≤ S 109 k ∧ S 109 k < 6 := by omega
    have ho : 0 ≤ k % 6 ∧ k % 6 < 6 := by omega
    generalize S 109 k = i at *
    generalize k % 6 = o at *
    by_cases w : x.2.2 (6 * i + o) = 0
    · rw [if_pos w]
      refine ⟨by show 0 ≤ x.1 + 1; omega, ?_, fun q q0 q1 => ?_, fun f f0 f1 => ?_, fun i' o' i0 i1 o0 o1 z => ?_, fun f g f0 f1 g0 g1 z => ?_⟩
      · show x.1 + 1 = sm (fun q => if fup x.2.2 (6 * i + o) 1 q = 0 then 0 else 1) 36
        rw [sm_upd (g := fun q => if x.2.2 q = 0 then 0 else 1) (g' := fun q => if fup x.2.2 (6 * i + o) 1 q = 0 then 0 else 1) (q0 := 6 * i + o) (by omega) (fun q hq => by unfold fup; rw [if_neg hq]) 36, if_pos (by omega), ← h2]
        unfold fup
        simp [w]
      · show 0 ≤ fup x.2.2 (6 * i + o) 1 q ∧ fup x.2.2 (6 * i + o) 1 q ≤ k + 1
        unfold fup
        have := h3 q q0 q1
        split <;> omega
      · have f1 : f < x.1 + 1 := f1
        show ∃ i' o', (0 ≤ i' ∧ i' < 6) ∧ (0 ≤ o' ∧ o' < 6) ∧ fup x.2.1 x.1 (10 * i + o) f = 10 * i' + o' ∧ fup x.2.2 (6 * i + o) 1 (6 * i' + o') ≠ 0
        by_cases z : f = x.1
        · refine ⟨i, o, hi, ho, ?_, ?_⟩
          · unfold fup; rw [if_pos z]
          · unfold fup; rw [if_pos rfl]; decide
        · obtain ⟨i', o', a1, a2, a3, a4⟩ := h4 f f0 (by omega)
          refine ⟨i', o', a1, a2, ?_, ?_⟩
          · unfold fup; rw [if_neg z]; exact a3
          · unfold fup
            split
            · decide
            · exact a4
      · show ∃ f, 0 ≤ f ∧ f < x.1 + 1 ∧ fup x.2.1 x.1 (10 * i + o) f = 10 * i' + o'
        by_cases y : 6 * i' + o' = 6 * i + o
        · refine ⟨x.1, by omega, by omega, ?_⟩
          unfold fup; rw [if_pos rfl]; omega
        · have z : fup x.2.2 (6 * i + o) 1 (6 * i' + o') ≠ 0 := z
          unfold fup at z
          rw [if_neg y] at z
          obtain ⟨f, a1, a2, a3⟩ := h5 i' o' i0 i1 o0 o1 z
          refine ⟨f, a1, by omega, ?_⟩
          unfold fup; rw [if_neg (by omega)]; exact a3
      · have f1 : f < x.1 + 1 := f1
        have g1 : g < x.1 + 1 := g1
        have z : fup x.2.1 x.1 (10 * i + o) f = fup x.2.1 x.1 (10 * i + o) g := z
        unfold fup at z
        have nw : ∀ f, 0 ≤ f → f < x.1 → x.2.1 f ≠ 10 * i + o := fun f f0 f1 y => by
          obtain ⟨i', o', a1, a2, a3, a4⟩ := h4 f f0 f1
          have : i' = i ∧ o' = o := by omega
          rw [this.1, this.2] at a4
          exact a4 w
        by_cases a : f = x.1
        · by_cases b : g = x.1
          · omega
          · rw [if_pos a, if_neg b] at z
            exact absurd z.symm (nw g g0 (by omega))
        · by_cases b : g = x.1
          · rw [if_neg a, if_pos b] at z
            exact absurd z (nw f f0 (by omega))
          · rw [if_neg a, if_neg b] at z
            exact h6 f g f0 (by omega) g0 (by omega) z
    · rw [if_neg w]
      have w0 := h3 (6 * i + o) (by omega) (by omega)
      refine ⟨h1, ?_, fun q q0 q1 => ?_, fun f f0 f1 => ?_, fun i' o' i0 i1 o0 o1 z => ?_, h6⟩
      · show x.1 = sm (fun q => if fup x.2.2 (6 * i + o) (x.2.2 (6 * i + o) + 1) q = 0 then 0 else 1) 36
        rw [sm_upd (g := fun q => if x.2.2 q = 0 then 0 else 1) (g' := fun q => if fup x.2.2 (6 * i + o) (x.2.2 (6 * i + o) + 1) q = 0 then 0 else 1) (q0 := 6 * i + o) (by omega) (fun q hq => by unfold fup; rw [if_neg hq]) 36, if_pos (by omega), ← h2]
        unfold fup
        have : ¬ x.2.2 (6 * i + o) + 1 = 0 := by omega
        simp [w, this]
      · show 0 ≤ fup x.2.2 (6 * i + o) (x.2.2 (6 * i + o) + 1) q ∧ fup x.2.2 (6 * i + o) (x.2.2 (6 * i + o) + 1) q ≤ k + 1
        unfold fup
        have := h3 q q0 q1
        split <;> omega
      · obtain ⟨i', o', a1, a2, a3, a4⟩ := h4 f f0 f1
        refine ⟨i', o', a1, a2, a3, ?_⟩
        show fup x.2.2 (6 * i + o) (x.2.2 (6 * i + o) + 1) (6 * i' + o') ≠ 0
        unfold fup
        split
        · omega
        · exact a4
      · have z : fup x.2.2 (6 * i + o) (x.2.2 (6 * i + o) + 1) (6 * i' + o') ≠ 0 := z
        unfold fup at z
        refine h5 i' o' i0 i1 o0 o1 ?_
        by_cases y : 6 * i' + o' = 6 * i + o
        · rw [y]; exact w
        · rw [if_neg y] at z; exact z
theorem OKH_6 {S : RS} (hM : OKM S) (k : Int) (k0 : 0 ≤ k) (k1 : k < 6 * S 88 24) : S 109 k = -1 ∨ (0 ≤ S 109 k ∧ S 109 k < 6 ∧ k % 6 < S 88 10) := by
  have h := (hM.1.2.2.1 (k / 6) (by omega) (by omega) (k % 6) (by omega) (by omega)).1
  rw [show 6 * (k / 6) + k % 6 = k by omega] at h
  have := hM.1.1.1
  omega
theorem OKL_at {S : RS} (hM : OKM S) (n : Int) (n0 : 0 ≤ n) (n1 : n ≤ 6 * S 88 24) : OKL n (gfold (fFl S) fl0 n.toNat) :=
  gfold_P (fFl S) fl0 OKL OKL_0 n n0 (fun j x j0 j1 h => fFl_ok j0 (by have := OKH_6 hM j j0 (by omega); omega) h)
/-- flows, by the class; by the reference -/
def CF (τ : gS) (x : Fl) : Prop := gI τ 81 0 = x.1 ∧ (∀ f, 0 ≤ f → f < x.1 → gI τ 82 f = x.2.1 f) ∧ ∀ q, 0 ≤ q → q < 36 → gI τ 83 q = x.2.2 q
def RF (τ : gS) (x : Fl) : Prop := gI τ 88 61 = x.1 ∧ ∀ f, 0 ≤ f → f < x.1 → gI τ 128 f = x.2.1 f ∧ gI τ 129 f = x.2.2 (qof (x.2.1 f))
section SB
variable {l : Launch} {G : gG}
theorem c_noteCell (S : RS) (k : Int) (k0 : 0 ≤ k ∧ k < 3000) (x : Fl) (h : OKL k x) (hi : 0 ≤ S 109 k ∧ S 109 k < 6) (τ : gS) (hC : CF τ x) (Q : gS → Prop) (hq : ∀ υ, CF υ (fFl S k x) → (∀ c i, c ≠ 81 → c ≠ 82 → c ≠ 83 → gI υ c i = gI τ c i) → Q υ) : eX5_noteCell l G (S 109 k) (k % 6) τ Q := by
  have hn := OKL_36 (fFl_ok (S := S) k0.1 (Or.inr hi) h)
  obtain ⟨c1, c2, c3⟩ := hC
  obtain ⟨h1, h2, h3, h4, h5, h6⟩ := h
  have ho : 0 ≤ k % 6 ∧ k % 6 < 6 := by omega
  have e : ¬ S 109 k = -1 := by omega
  unfold fFl at hq hn
  rw [if_neg e] at hq hn
  generalize S 109 k = i at *
  generalize k % 6 = o at *
  have w0 := h3 (6 * i + o) (by omega) (by omega)
  refine vX5_noteCell i o ⟨by omega, by omega⟩ ⟨by omega, by omega⟩ τ Q ?_
  rw [show i * 6 + o = 6 * i + o by omega, c3 (6 * i + o) (by omega) (by omega), c1]
  refine ⟨by omega, fun w => ⟨⟨by omega, by omega⟩, fun υ eu => ?_⟩, fun w => ?_⟩
  · rw [if_neg w] at hq
    refine hq υ ⟨by rw [eu, sI_ne (by omega)]; exact c1, fun f f0 f1 => by rw [eu, sI_ne (by omega)]; exact c2 f f0 f1, fun q q0 q1 => ?_⟩ (fun c j _ _ n3 => by rw [eu, sI_ne n3])
    show gI υ 83 q = fup x.2.2 (6 * i + o) (x.2.2 (6 * i + o) + 1) q
    rw [eu, sI_at]
    unfold fup
    by_cases z : q = 6 * i + o
    · rw [if_pos ⟨rfl, z⟩, if_pos z]
    · rw [if_neg (fun y => z y.2), if_neg z]; exact c3 q q0 q1
  · rw [if_pos w] at hq hn
    have hn : x.1 + 1 ≤ 36 := hn
    refine ⟨by omega, ⟨by omega, by omega⟩, fun τ1 e1 => ?_⟩
    have a1 : gI τ1 81 0 = x.1 := by rw [e1, sI_ne (by omega)]; exact c1
    rw [a1]
    refine ⟨⟨by omega, by omega⟩, fun τ2 e2 => ?_⟩
    have a3 : gI τ2 83 (6 * i + o) = 0 := by rw [e2, sI_ne (by omega), e1, sI_ne (by omega), c3 _ (by omega) (by omega)]; exact w
    rw [a3]
    refine ⟨by decide, fun υ eu => hq υ ⟨?_, fun f f0 f1 => ?_, fun q q0 q1 => ?_⟩ (fun c j n1 n2 n3 => by rw [eu, sI_ne n3, e2, sI_ne n1, e1, sI_ne n2])⟩
    · rw [eu, sI_ne (by omega), e2, sI_eq]
    · have f1 : f < x.1 + 1 := f1
      show gI υ 82 f = fup x.2.1 x.1 (10 * i + o) f
      rw [eu, sI_ne (by omega), e2, sI_ne (by omega), e1, sI_at]
      unfold fup
      by_cases z : f = x.1
      · rw [if_pos ⟨rfl, z⟩, if_pos z]
      · rw [if_neg (fun y => z y.2), if_neg z]; exact c2 f f0 (by omega)
    · show gI υ 83 q = fup x.2.2 (6 * i + o) 1 q
      rw [eu, sI_at]
      unfold fup
      by_cases z : q = 6 * i + o
      · rw [if_pos ⟨rfl, z⟩, if_pos z]; rfl
      · rw [if_neg (fun y => z y.2), if_neg z, e2, sI_ne (by omega), e1, sI_ne (by omega)]; exact c3 q q0 q1
theorem c_gatherFlows (σ : gS) (S : RS) (hC : CR σ S) (hM : OKM S) (Q : gS → Prop) (h : ∀ τ, CF τ (zFl S) → (∀ c i, c ≠ 81 → c ≠ 82 → c ≠ 83 → gI τ c i = gI σ c i) → Q τ) : eX5_gatherFlows l G σ Q := by
  have hP := hM.1.1.1
  have h0 := hM.1.1.2.1
  have h24 := hM.2.2
  have e3 := hC.1.1
  have e41 := hC.2.1.1
  refine vX5_gatherFlows σ Q (fun σ1 e1 => ?_)
  have L : ∀ τ, CF τ fl0 → (∀ c i, c ≠ 81 → c ≠ 82 → c ≠ 83 → gI τ c i = gI σ c i) → kX5_gatherFlows_28 l G 0 τ Q := by
    intro τ0 hC0 hF0
    refine gloopI (α := gS) 0 (S 88 24) (fun s τ => s ≤ S 88 24 ∧ CF τ (gfold (fFl S) fl0 (6 * s).toNat) ∧ (∀ c i, c ≠ 81 → c ≠ 82 → c ≠ 83 → gI τ c i = gI σ c i)) (fun s τ => kX5_gatherFlows_28 l G s τ Q) ?_ ?_ 0 τ0 (by omega) ⟨by omega, by rw [show (6 * (0 : Int)).toNat = 0 by decide]; exact hC0, hF0⟩
    · rintro s τ s0 s1 ⟨z0, z1, z2⟩ ih
      have hh := hC.2.2.2.2.2.2.2.1 s s0 s1
      refine vX5_gatherFlows_28 s ⟨by omega, by omega⟩ τ Q ?_
      rw [z2 41 0 (by omega) (by omega) (by omega), e41]
      refine ⟨fun e => by omega, fun _ => ?_⟩
      refine gloopI (α := gS) 0 (S 88 10) (fun o υ => o ≤ S 88 10 ∧ CF υ (gfold (fFl S) fl0 (6 * s + o).toNat) ∧ (∀ c i, c ≠ 81 → c ≠ 82 → c ≠ 83 → gI υ c i = gI σ c i)) (fun o υ => kX5_gatherFlows_41 l G s o υ Q) ?_ ?_ 0 τ (by omega) ⟨by omega, by rw [Int.add_zero]; exact z1, z2⟩
      · rintro o υ o0 o1 ⟨y0, y1, y2⟩ ih2
        have hk := OKH_6 hM (6 * s + o) (by omega) (by omega)
        have hL := OKL_at hM (6 * s + o) (by omega) (by omega)
        refine vX5_gatherFlows_41 s o ⟨by omega, by omega⟩ ⟨by omega, by omega⟩ υ Q ?_
        rw [y2 32 3 (by omega) (by omega) (by omega), e3, y2 42 s (by omega) (by omega) (by omega)]
        have ste : gfold (fFl S) fl0 (6 * s + (o + 1)).toNat = fFl S (6 * s + o) (gfold (fFl S) fl0 (6 * s + o).toNat) := by
          rw [show 6 * s + (o + 1) = 6 * s + o + 1 by omega, gfold_s (by omega)]
        refine ⟨fun e => by omega, fun _ => ⟨by omega, c_inputOf _ o (S 109 (6 * s + o)) hh.1 (by omega) (hh.2.1 o o0 (by omega)) υ _ (fun _ => ⟨fun e => ih2 υ ⟨by omega, ?_, y2⟩, fun e => ?_⟩)⟩⟩
        · rw [ste]
          unfold fFl
          rw [if_pos e]; exact y1
        · have e6 : (6 * s + o) % 6 = o := by omega
          have nc := c_noteCell (l := l) (G := G) S (6 * s + o) (by omega) _ hL (by omega) υ y1 (fun σ15 => kX5_gatherFlows_41 l G s (o + 1) σ15 Q) (fun w wC wF => ih2 w ⟨by omega, by rw [ste]; exact wC, fun c i n1 n2 n3 => by rw [wF c i n1 n2 n3]; exact y2 c i n1 n2 n3⟩)
          rw [e6] at nc
          exact nc
      · rintro o υ o0 ⟨y0, y1, y2⟩
        have ho : o = S 88 10 := by omega
        refine vX5_gatherFlows_41 s o ⟨by omega, by omega⟩ ⟨by omega, by omega⟩ υ Q ?_
        rw [y2 32 3 (by omega) (by omega) (by omega), e3]
        refine ⟨fun _ => ih υ ⟨by omega, ?_, y2⟩, fun e => by omega⟩
        have nn := gfold_noop (f := fFl S) (a := fl0) (6 * s + o).toNat (6 - o).toNat (fun j x j0 j1 => by
          have hk := OKH_6 hM j (by omega) (by omega)
          have e : S 109 j = -1 := by
            rcases hk with z | z
            · exact z
            · exfalso
              have : j % 6 = j - 6 * s := by omega
              omega
          unfold fFl
          rw [if_pos e])
        rw [show (6 * (s + 1)).toNat = (6 * s + o).toNat + (6 - o).toNat by omega, nn]
        exact y1
    · rintro s τ s0 ⟨z0, z1, z2⟩
      have hs : s = S 88 24 := by omega
      subst hs
      refine vX5_gatherFlows_28 _ ⟨by omega, by omega⟩ τ Q ?_
      rw [z2 41 0 (by omega) (by omega) (by omega), e41]
      exact ⟨fun _ => h τ z1 z2, fun e => by omega⟩
  refine gloopI (α := gS) 0 36 (fun q τ => q ≤ 36 ∧ gI τ 81 0 = 0 ∧ (∀ j, 0 ≤ j → j < q → gI τ 83 j = 0) ∧ (∀ c i, c ≠ 81 → c ≠ 83 → gI τ c i = gI σ c i)) (fun q τ => kX5_gatherFlows_7 l G q τ Q) ?_ ?_ 0 σ1 (by omega) ⟨by omega, by rw [e1, sI_eq], fun j j0 j1 => by omega, fun c i n1 _ => by rw [e1, sI_ne n1]⟩
  · rintro q τ q0 q1 ⟨z0, z1, z2, z3⟩ ih
    refine vX5_gatherFlows_7 q ⟨by omega, by omega⟩ τ Q ⟨fun e => by omega, fun _ => ⟨by omega, fun w ew => ih w ⟨by omega, by rw [ew, sI_ne (by omega)]; exact z1, fun j j0 j1 => ?_, fun c i n1 n2 => by rw [ew, sI_ne n2]; exact z3 c i n1 n2⟩⟩⟩
    rw [ew, sI_at]
    split
    · rfl
    · rename_i hq; exact z2 j j0 (by omega)
  · rintro q τ q0 ⟨z0, z1, z2, z3⟩
    have hq : q = 36 := by omega
    subst hq
    exact vX5_gatherFlows_7 36 (by decide) τ Q ⟨fun _ => L τ ⟨z1, fun f f0 f1 => absurd f1 (by show ¬ f < 0; omega), fun q q0 q1 => z2 q q0 q1⟩ (fun c i n1 _ n3 => z3 c i n1 n3), fun e => by omega⟩
theorem c_laysFlows (σ : gS) (hM : OKM (pS σ)) (Q : gS → Prop) (h : ∀ τ, RF τ (zFl (pS σ)) → (∀ c i, c ≠ 128 → c ≠ 129 → ¬ (c = 88 ∧ i = 61) → gI τ c i = gI σ c i) → Q τ) : eX12_laysFlows l G σ Q := by
  have hP := hM.1.1.1
  have h0 := hM.1.1.2.1
  have h24 := hM.2.2
  have e24 : gI σ 88 24 = pS σ 88 24 := pS_at (by unfold okC; omega)
  refine vX12_laysFlows σ Q (fun σ1 e1 => ?_)
  refine gloopI (α := gS) 0 (6 * pS σ 88 24) (fun k τ => k ≤ 6 * pS σ 88 24 ∧ RF τ (gfold (fFl (pS σ)) fl0 k.toNat) ∧ (∀ c i, c ≠ 128 → c ≠ 129 → ¬ (c = 88 ∧ i = 61) → gI τ c i = gI σ c i)) (fun k τ => kX12_laysFlows_7 l G k τ Q) ?_ ?_ 0 σ1 (by omega) ⟨by omega, ⟨by rw [e1, sI_eq]; rfl, fun f f0 f1 => absurd f1 (by show ¬ f < 0; omega)⟩, fun c i _ _ n3 => by rw [e1, sI_at, if_neg n3]⟩
  · rintro k τ k0 k1 ⟨z0, z1, z2⟩ ih
    have hk := OKH_6 hM k k0 k1
    have hL := OKL_at hM k k0 (by omega)
    have hL1 := OKL_at hM (k + 1) (by omega) (by omega)
    have n1 := OKL_36 hL1
    have ste : gfold (fFl (pS σ)) fl0 (k + 1).toNat = fFl (pS σ) k (gfold (fFl (pS σ)) fl0 k.toNat) := gfold_s k0
    rw [ste] at ih n1
    generalize gfold (fFl (pS σ)) fl0 k.toNat = x at *
    obtain ⟨r1, r2⟩ := z1
    obtain ⟨h1, h2, h3, h4, h5, h6⟩ := hL
    have t24 : gI τ 88 24 = pS σ 88 24 := by rw [z2 _ _ (by omega) (by omega) (by omega)]; exact e24
    have t109 : gI τ 109 k = pS σ 109 k := by rw [z2 _ _ (by omega) (by omega) (by omega)]; exact pS_at (by unfold okC; omega)
    refine vX12_laysFlows_7 k ⟨by omega, by omega⟩ τ Q ?_
    rw [t24, t109, grem_pos k 6 (by omega) (by decide)]
    refine ⟨⟨by omega, by omega⟩, fun e => by omega, fun _ => ⟨by omega, fun e => ?_, fun e => ih τ ⟨by omega, ?_, z2⟩⟩⟩
    · unfold fFl at ih n1
      rw [if_neg e] at ih n1
      have hi : 0 ≤ pS σ 109 k ∧ pS σ 109 k < 6 := by omega
      have ho : 0 ≤ k % 6 ∧ k % 6 < 6 := by omega
      generalize pS σ 109 k = i at *
      generalize k % 6 = o at *
      have rk : gR k := ⟨by omega, by omega⟩
      have rc : gR (10 * i + o) := ⟨by omega, by omega⟩
      have w0 := h3 (6 * i + o) (by omega) (by omega)
      have x36 : x.1 ≤ 36 := OKL_36 ⟨h1, h2, h3, h4, h5, h6⟩
      have wb : ∀ f, 0 ≤ f → f < x.1 → 0 ≤ x.2.2 (qof (x.2.1 f)) ∧ x.2.2 (qof (x.2.1 f)) ≤ k := fun f f0 f1 => by
        obtain ⟨i', o', a1, a2, a3, a4⟩ := h4 f f0 f1
        rw [a3, qof_e i' o' a2]; exact h3 _ (by omega) (by omega)
      -- one that is there already
      have old : ∀ f, 0 ≤ f → f < x.1 → x.2.1 f = 10 * i + o → ∀ υ, υ = sI τ 129 f (gI τ 129 f + 1) → kX12_laysFlows_7 l G (k + 1) υ Q := by
        intro f f0 f1 ef υ eu
        have w : x.2.2 (6 * i + o) ≠ 0 := by
          obtain ⟨i', o', a1, a2, a3, a4⟩ := h4 f f0 f1
          have : i' = i ∧ o' = o := by omega
          rw [this.1, this.2] at a4
          exact a4
        rw [if_neg w] at ih
        refine ih υ ⟨by omega, ⟨by rw [eu, sI_ne (by omega)]; exact r1, fun g g0 g1 => ⟨by rw [eu, sI_ne (by omega)]; exact (r2 g g0 g1).1, ?_⟩⟩, fun c j n1 n2 n3 => by rw [eu, sI_ne n2]; exact z2 c j n1 n2 n3⟩
        show gI υ 129 g = fup x.2.2 (6 * i + o) (x.2.2 (6 * i + o) + 1) (qof (x.2.1 g))
        have g1 : g < x.1 := g1
        rw [eu, sI_at]
        unfold fup
        by_cases y : g = f
        · rw [if_pos ⟨rfl, y⟩, y, ef, qof_e i o ho, if_pos rfl, (r2 f f0 f1).2, ef, qof_e i o ho]
        · rw [if_neg (fun q => y q.2), if_neg, (r2 g g0 g1).2]
          intro q
          obtain ⟨i', o', a1, a2, a3, a4⟩ := h4 g g0 g1
          rw [a3, qof_e i' o' a2] at q
          exact y (h6 g f g0 g1 f0 f1 (by rw [a3, ef]; omega))
      refine gloopI (α := Unit) 0 x.1 (fun f _ => f ≤ x.1 ∧ ∀ g, 0 ≤ g → g < f → x.2.1 g ≠ 10 * i + o) (fun f _ => kX12_laysFlows_48 l G k (10 * i + o) f τ Q) ?_ ?_ 0 () (by omega) ⟨by omega, fun g g0 g1 => by omega⟩
      · rintro f _ f0 f1 ⟨y0, y1⟩ ih2
        have wf := wb f f0 f1
        refine vX12_laysFlows_48 k (10 * i + o) f rk rc ⟨by omega, by omega⟩ τ Q ?_
        rw [r1, (r2 f f0 f1).1]
        refine ⟨fun e9 => by omega, fun _ => ⟨by omega, fun e9 => ⟨fun _ => ⟨?_, fun υ eu => old f f0 f1 e9 υ eu⟩, fun e8 => by omega⟩, fun e9 => ih2 () ⟨by omega, fun g g0 g1 => ?_⟩⟩⟩
        · rw [(r2 f f0 f1).2]; exact ⟨by omega, by omega⟩
        · by_cases z : g = f
          · rw [z]; exact e9
          · exact y1 g g0 (by omega)
      · rintro f _ f0 ⟨y0, y1⟩
        have hf : f = x.1 := by omega
        subst hf
        have w : x.2.2 (6 * i + o) = 0 := by
          by_cases w : x.2.2 (6 * i + o) = 0
          · exact w
          · obtain ⟨f, a1, a2, a3⟩ := h5 i o hi.1 hi.2 ho.1 ho.2 w
            exact absurd a3 (y1 f a1 a2)
        rw [if_pos w] at ih n1
        have n1 : x.1 + 1 ≤ 36 := n1
        refine vX12_laysFlows_48 k (10 * i + o) x.1 rk rc ⟨by omega, by omega⟩ τ Q ?_
        rw [r1]
        refine ⟨fun _ => ⟨fun e9 => absurd rfl e9, fun _ => ⟨by omega, fun τ1 e1 τ2 e2 => ?_⟩⟩, fun e9 => by omega⟩
        have a1 : gI τ2 88 61 = x.1 := by rw [e2, sI_ne (by omega), e1, sI_ne (by omega)]; exact r1
        rw [a1]
        refine ⟨⟨by omega, by omega⟩, fun τ3 e3 => ?_⟩
        have a2 : gI τ3 129 x.1 = 0 := by rw [e3, sI_ne (by omega), e2, sI_eq]
        rw [a2]
        refine ⟨by decide, fun υ eu => ih υ ⟨by omega, ⟨?_, fun g g0 g1 => ?_⟩, fun c j m1 m2 m3 => by rw [eu, sI_ne m2, e3, sI_at, if_neg m3, e2, sI_ne m2, e1, sI_ne m1]; exact z2 c j m1 m2 m3⟩⟩
        · rw [eu, sI_ne (by omega), e3, sI_eq]
        · have g1 : g < x.1 + 1 := g1
          show gI υ 128 g = fup x.2.1 x.1 (10 * i + o) g ∧ gI υ 129 g = fup x.2.2 (6 * i + o) 1 (qof (fup x.2.1 x.1 (10 * i + o) g))
          by_cases y : g = x.1
          · have ef : fup x.2.1 x.1 (10 * i + o) g = 10 * i + o := by unfold fup; rw [if_pos y]
            rw [ef, qof_e i o ho, y]
            refine ⟨?_, ?_⟩
            · rw [eu, sI_ne (by omega), e3, sI_ne (by omega), e2, sI_ne (by omega), e1, sI_eq]
            · rw [eu, sI_eq]
              unfold fup; rw [if_pos rfl]; rfl
          · have ef : fup x.2.1 x.1 (10 * i + o) g = x.2.1 g := by unfold fup; rw [if_neg y]
            have g2 : g < x.1 := by omega
            rw [ef]
            refine ⟨?_, ?_⟩
            · rw [eu, sI_ne (by omega), e3, sI_ne (by omega), e2, sI_ne (by omega), e1, sI_nei y]; exact (r2 g g0 g2).1
            · rw [eu, sI_nei y, e3, sI_ne (by omega), e2, sI_nei y, e1, sI_ne (by omega), (r2 g g0 g2).2]
              unfold fup
              rw [if_neg]
              intro q
              obtain ⟨i', o', a1, a2, a3, a4⟩ := h4 g g0 g2
              rw [a3, qof_e i' o' a2] at q
              rw [q] at a4
              exact a4 w
    · unfold fFl
      rw [if_pos e]; exact ⟨r1, r2⟩
  · rintro k τ k0 ⟨z0, z1, z2⟩
    have hk : k = 6 * pS σ 88 24 := by omega
    subst hk
    have t24 : gI τ 88 24 = pS σ 88 24 := by rw [z2 _ _ (by omega) (by omega) (by omega)]; exact e24
    refine vX12_laysFlows_7 _ ⟨by omega, by omega⟩ τ Q ?_
    rw [t24]
    exact ⟨⟨by omega, by omega⟩, fun _ => h τ z1 z2, fun e => by omega⟩
end SB
