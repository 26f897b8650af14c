section MT7
variable {l : Launch} {G : gG}
/-- what the reference does once a text is read -/
def TX (l : Launch) (G : gG) (x1 x2 : Int) (Q : Int → gS → Prop) (σ : gS) : Prop :=
  ((gI σ 89 5) = 0 → ((¬ x2 = (-1) → True) ∧
      (x2 = (-1) → (0 ≤ x1 ∧ x1 < 3704) ∧ True)) ∧
      (∀ v41 : Int, v41 = (if x2 = (-1) then (gI σ 89 x1) else x2) →
      (¬ x2 = (-1) → kX12_text_238 l G  x1 x2 v41 0 σ Q) ∧
        (x2 = (-1) → (0 ≤ x1 ∧ x1 < 3704) ∧ (gR ((gI σ 89 x1) + 1)) ∧ ∀ σ45, σ45 = sI σ 89 x1 ((gI σ 89 x1) + 1) →
          kX12_text_238 l G  x1 x2 v41 0 σ45 Q))) ∧
    (¬ (gI σ 89 5) = 0 → Q (-1) σ)
theorem r_text132 (B : Int → Int) (L x c' k' f' : Int) (V' : Int → Int → Int) (hx : x = 0 ∨ x = 1 ∨ x = 2) (x2 x3 : Int) (r2 : gR x2) (r3 : gR x3) (σ0 : gS) (Q : Int → gS → Prop)
    (h : ∀ τ, fLn σ0 τ → gI τ 89 5 = k' → gI τ 89 6 = f' → (k' = 0 → (¬ x = 0 → gI τ 91 0 = c') ∧ RW x c' V' τ ∧ 0 ≤ c' ∧ c' ≤ liM x) → TX l G x x2 Q τ) :
    ∀ (n : Nat) (p c k f : Int) (V : Int → Int → Int) (σ : gS), RSt B L x σ0 p c k f V σ → Par B L x c' k' f' V' n p c k f V → kX12_text_132 l G x x2 x3 σ Q := by
  have rx : gR x := by rcases hx with e | e | e <;> rw [e] <;> decide
  intro n
  induction n with
  | zero => intro p c k f V σ hS hP; exact absurd hP (fun q => q)
  | succ n ih =>
    intro p c k f V σ hS hP
    obtain ⟨a1, a2, a3, a4, a5, a6, a7⟩ := id hS
    have bad : ∀ τ E, fLn σ0 τ → rA B L τ → ¬ gI τ 88 8 = 0 → gI τ 89 5 = 1 → gI τ 89 6 = E → k' = 1 → f' = E → kX12_text_132 l G x x2 x3 τ Q := by
      intro τ E t1 t2 t3 t4 t5 e1 e2
      exact vX12_text_132 x x2 x3 rx r2 r3 τ Q ⟨fun _ => h τ t1 (by rw [t4, e1]) (by rw [t5, e2]) (fun y => absurd (e1.symm.trans y) (by decide)), fun y => absurd y t3⟩
    have go : LQ B L x σ0 p c k f V (fun τ => kX12_text_132 l G x x2 x3 τ Q) → ¬ tK B L p = 0 → kX12_text_132 l G x x2 x3 σ Q := by
      intro lq hK
      have h5 : ¬ gI σ 88 5 = 0 := by rw [a3.2.1.2.2.1, rK_0]; exact hK
      refine vX12_text_132 x x2 x3 rx r2 r3 σ Q ⟨fun y => absurd a3.1 y, fun _ => ⟨fun y => absurd y h5, fun _ => ⟨fun e => ?_, fun e => ?_, fun e => ?_⟩⟩⟩
      · subst e; exact r_crossbarLine B L p c k f V σ0 σ hS _ lq
      · subst e; exact r_trafficLine B L p c k f V σ0 σ hS _ lq
      · have e2 : x = 2 := by omega
        subst e2; exact r_logLine B L p c k f V σ0 σ hS _ lq
    have hP' : (tK B L p = 0 ∧ c' = c ∧ k' = k ∧ f' = f ∧ V' = V) ∨ (¬ tK B L p = 0 ∧ ¬ inS B L x p ∧ k' = 1 ∧ f' = tS B L p) ∨
      (inS B L x p ∧ ¬ nE B L (wR (tW B L p)) (tE B L p) = -1 ∧ k' = 1 ∧ f' = nE B L (wR (tW B L p)) (tE B L p)) ∨
      (inS B L x p ∧ nE B L (wR (tW B L p)) (tE B L p) = -1 ∧ Par B L x c' k' f' V' n (nP B L (wR (tW B L p)) (tE B L p)) (c1 x c) (fK B L (wR (tW B L p)) (tE B L p) (k0 x c k)) (fQ B L (wR (tW B L p)) (tE B L p) (k0 x c k) (f0 x c k f (tS B L p))) (V1 B L x c (tW B L p) V (wR (tW B L p)) (tE B L p))) := hP
    rcases hP' with ⟨d1, d2, d3, d4, d5⟩ | ⟨d1, d2, d3, d4⟩ | ⟨d1, d2, d3, d4⟩ | ⟨d1, d2, d3⟩
    · have h5 : gI σ 88 5 = 0 := by rw [a3.2.1.2.2.1, rK_0]; exact d1
      refine vX12_text_132 x x2 x3 rx r2 r3 σ Q ⟨fun y => absurd a3.1 y, fun _ => ⟨fun _ => h σ a1 (by rw [d3]; exact a3.2.2.1) (by rw [d4]; exact a3.2.2.2) (fun y => ?_), fun y => absurd h5 y⟩⟩
      rw [d2, d5]
      exact ⟨a5.2.2.2, a7 (d3.symm.trans y), a5.1, a5.2.1⟩
    · refine go ⟨fun τ E t1 t2 t3 t4 t5 t6 => ?_, fun y => absurd y d2⟩ d1
      rcases t6 with ⟨_, y⟩ | ⟨y, _⟩
      · exact bad τ E t1 t2 t3 t4 t5 d3 (d4.trans y.symm)
      · exact absurd y d2
    · refine go ⟨fun τ E t1 t2 t3 t4 t5 t6 => ?_, fun _ y => absurd y d2⟩ (by have := d1.1; omega)
      rcases t6 with ⟨y, _⟩ | ⟨_, _, y⟩
      · exact absurd d1 y
      · exact bad τ E t1 t2 t3 t4 t5 d3 (d4.trans y.symm)
    · refine go ⟨fun τ E t1 t2 t3 t4 t5 t6 => ?_, fun _ _ τ hτ => ih _ _ _ _ _ τ hτ d3⟩ (by have := d1.1; omega)
      rcases t6 with ⟨y, _⟩ | ⟨_, y, _⟩
      · exact absurd d1 y
      · exact absurd d2 y
end MT7
