theorem gloopM {α : Type} (μ : α → Nat) (Inv k : α → Prop) (step : ∀ x, Inv x → (∀ y, Inv y → μ y < μ x → k y) → k x) : ∀ x, Inv x → k x := by
  intro x
  generalize hn : μ x = n
  induction n using Nat.strongRecOn generalizing x with
  | ind n ih => exact fun hx => step x hx (fun y hy hlt => ih (μ y) (by omega) y rfl hy)
theorem gloopI {α : Type} (a n : Int) (Inv k : Int → α → Prop) (step : ∀ i x, a ≤ i → i < n → Inv i x → (∀ y, Inv (i + 1) y → k (i + 1) y) → k i x) (last : ∀ i x, n ≤ i → Inv i x → k i x) : ∀ i x, a ≤ i → Inv i x → k i x := by
  intro i x hi hx
  refine gloopM (α := Int × α) (fun q => (n - q.1).toNat) (fun q => a ≤ q.1 ∧ Inv q.1 q.2) (fun q => k q.1 q.2) ?_ (i, x) ⟨hi, hx⟩
  rintro ⟨j, y⟩ ⟨h1, h2⟩ ih
  by_cases h : j < n
  · exact step j y h1 h h2 (fun z hz => ih (j + 1, z) ⟨by show a ≤ j + 1; omega, hz⟩ (by show (n - (j + 1)).toNat < (n - j).toNat; omega))
  · exact last j y (by omega) h2
theorem tRel.move {σ τ : gS} {a a' : Nat} {B B' : Int} (h0 : ∀ j, 1 ≤ j → j ≤ 3 → gI τ a' j = gI σ a j) (h1 : ∀ i, 0 ≤ i → i < 600 → gI τ (a' + 1) i = gI σ (a + 1) i) (h2 : ∀ i, 0 ≤ i → i < 3 → gI τ (a' + 2) i = gI σ (a + 2) i) (h3 : ∀ i, 0 ≤ i → i < 8 → gI τ (a' + 3) i = gI σ (a + 3) i) (h4 : ∀ i, 0 ≤ i → i < 640 → gI τ (a' + 4) i = gI σ (a + 4) i) (h5 : ∀ i, 0 ≤ i → i < 4 → gI τ (a' + 5) i = gI σ (a + 5) i)
    (hm : ∀ i j, B' ≤ i → i < B' + 926 → j = i - B' + B → gI τ 89 i = gI σ 89 j) (k : tRel σ a B) : tRel τ a' B' := by
  obtain ⟨⟨k1, k5, k6, k7⟩, k2, k3, k4⟩ := k
  have b0 := (k1 0 (by omega) (by omega)).2
  have b1 := (k1 1 (by omega) (by omega)).2
  have b2 := (k1 2 (by omega) (by omega)).2
  refine ⟨⟨fun s s0 s1 => ?_, fun c s0 s1 => ?_, fun t s0 s1 => ?_, fun t s0 s1 => ?_⟩, ?_, ?_, fun i i0 i1 => ?_⟩
  · rw [h2 s s0 s1, hm (B' + s) (B + s) (by omega) (by omega) (by omega)]; exact k1 s s0 s1
  · rw [hm (B' + 0) (B + 0) (by omega) (by omega) (by omega)] at s1
    obtain ⟨q1, q2⟩ := k5 c s0 s1
    refine ⟨fun w w0 w1 => ?_, ?_⟩
    · rw [h3 _ (by omega) (by omega), hm _ (B + 610 + 4 * c + w) (by omega) (by omega) (by omega)]; exact q1 w w0 w1
    · unfold tBar at *
      rw [hm _ (B + 610 + 4 * c) (by omega) (by omega) (by omega), hm _ (B + 610 + 4 * c + 1) (by omega) (by omega) (by omega), hm _ (B + 610 + 4 * c + 2) (by omega) (by omega) (by omega), hm _ (B + 610 + 4 * c + 3) (by omega) (by omega) (by omega)]; exact q2
  · rw [hm (B' + 1) (B + 1) (by omega) (by omega) (by omega)] at s1
    obtain ⟨q1, q2, q3, q4⟩ := k6 t s0 s1
    rw [h5 t (by omega) (by omega), hm (B' + 618 + 121 * t) (B + 618 + 121 * t) (by omega) (by omega) (by omega)]
    refine ⟨q1, q2, q3, fun k w0 w1 => ?_⟩
    obtain ⟨q5, q6⟩ := q4 k w0 w1
    refine ⟨fun w z0 z1 => ?_, ?_⟩
    · rw [h4 _ (by omega) (by omega), hm _ (B + 618 + 121 * t + 1 + 3 * k + w) (by omega) (by omega) (by omega)]; exact q5 w z0 z1
    · unfold tDeed at *
      rw [hm _ (B + 618 + 121 * t + 1 + 3 * k) (by omega) (by omega) (by omega), hm _ (B + 618 + 121 * t + 1 + 3 * k + 1) (by omega) (by omega) (by omega), hm _ (B + 618 + 121 * t + 1 + 3 * k + 2) (by omega) (by omega) (by omega)]; exact q6
  · rw [hm (B' + 2) (B + 2) (by omega) (by omega) (by omega)] at s1
    obtain ⟨q1, q2, q3, q4⟩ := k7 t s0 s1
    rw [h5 (2 + t) (by omega) (by omega), hm (B' + 860 + 33 * t) (B + 860 + 33 * t) (by omega) (by omega) (by omega)]
    refine ⟨q1, q2, q3, fun k w0 w1 => ?_⟩
    obtain ⟨q5, q6⟩ := q4 k w0 w1
    refine ⟨fun w z0 z1 => ?_, ?_⟩
    · rw [h4 _ (by omega) (by omega), hm _ (B + 860 + 33 * t + 1 + 4 * k + w) (by omega) (by omega) (by omega)]; exact q5 w z0 z1
    · unfold tFact at *
      rw [hm _ (B + 860 + 33 * t + 1 + 4 * k) (by omega) (by omega) (by omega), hm _ (B + 860 + 33 * t + 1 + 4 * k + 1) (by omega) (by omega) (by omega), hm _ (B + 860 + 33 * t + 1 + 4 * k + 2) (by omega) (by omega) (by omega), hm _ (B + 860 + 33 * t + 1 + 4 * k + 3) (by omega) (by omega) (by omega)]; exact q6
  · rw [h0 1 (by omega) (by omega), hm (B' + 4) (B + 4) (by omega) (by omega) (by omega)]; exact k2
  · rw [h0 2 (by omega) (by omega), h0 3 (by omega) (by omega), hm (B' + 5) (B + 5) (by omega) (by omega) (by omega), hm (B' + 6) (B + 6) (by omega) (by omega) (by omega)]; exact k3
  · rw [h1 i i0 i1, hm _ (B + 10 + i) (by omega) (by omega) (by omega)]; exact k4 i i0 i1
theorem cpI_at (σ : gS) (s : Nat) (sp : Int) (d : Nat) (dp n : Int) (c : Nat) (i : Int) : gI (cpI σ s sp d dp n) c i = if c = d ∧ dp ≤ i ∧ i < dp + n then gI σ s (sp + (i - dp)) else gI σ c i := rfl
section MC
variable {l : Launch} {G : gG}
theorem c_placeOf (x0 x1 : Int) (r0 : gR x0) (r1 : gR x1) (h1 : 0 ≤ x1 ∧ x1 < 2) (σ : gS) (Q : Int → gS → Prop) (h : Q (if x0 = 0 then 610 + 4 * x1 else if x0 = 1 then 618 + 121 * x1 else 860 + 33 * x1) σ) : eX12_placeOf l G x0 x1 σ Q := by
  refine vX12_placeOf x0 x1 r0 r1 σ Q ⟨?_, fun v hv => ?_⟩
  · repeat (first | exact True.intro | apply And.intro | intro _ | omega)
  · rw [hv]; exact h
theorem p_crossbar (x1 x2 : Int) (r1 : gR x1) (r2 : gR x2) (σ : gS) (hI : tInv σ) : eX11_crossbar l G x1 x2 σ (fun r τ => gR r → eX12_crossbar l G x1 x2 τ (fun r' υ => gR r' → r = r' ∧ tInv υ)) := by
  obtain ⟨k1, k5, k6, k7⟩ := tTx0 hI
  have b0 := k1 0 (by omega) (by omega)
  have B : ∀ v : Int, (¬ (0 ≤ x1 ∧ x1 < gI σ 89 0 ∧ 0 ≤ x2 ∧ x2 < 4) → v = -1) → (0 ≤ x1 ∧ x1 < gI σ 89 0 ∧ 0 ≤ x2 ∧ x2 < 4 → v = gI σ 89 (610 + 4 * x1 + x2)) → eX12_crossbar l G x1 x2 σ (fun r' υ => gR r' → v = r' ∧ tInv υ) := by
    intro v hn hy
    refine vX12_crossbar x1 x2 r1 r2 σ _ ?_
    refine c_isOf 0 x1 (by decide) r1 σ (by decide) b0.2 _ (fun r hr _ => ⟨fun e _ => ⟨hn (by omega), hI⟩, fun e => ?_⟩)
    refine c_isIn x2 0 3 r2 (by decide) (by decide) σ _ (fun q hq _ => ⟨fun e2 _ => ⟨hn (by omega), hI⟩, fun e2 => ?_⟩)
    refine c_placeOf 0 x1 (by decide) r1 (by omega) σ _ (fun _ => ?_)
    rw [if_pos rfl]
    exact ⟨by omega, fun _ => ⟨hy (by omega), hI⟩⟩
  refine vX11_crossbar x1 x2 r1 r2 σ _ (c_has 0 x1 (by decide) r1 σ _ (fun r hr _ => ⟨fun e _ => B _ (fun _ => rfl) (fun h => by omega), fun e => ⟨fun h1 _ => B _ (fun _ => rfl) (fun h => by omega), fun h1 => ⟨fun h2 => ?_, fun h2 _ => B _ (fun _ => rfl) (fun h => by omega)⟩⟩⟩))
  refine vX10_bar x1 x2 r1 r2 σ _ ⟨by omega, fun _ _ => B _ (fun h => by omega) (fun h => ?_)⟩
  exact (k5 x1 (by omega) (by omega)).1 x2 (by omega) (by omega)
end MC
