/-- how many of the six bits -/
def bcS (m : Int) : Int := (if tb m 0 = true then 1 else 0) + (if tb m 1 = true then 1 else 0) + (if tb m 2 = true then 1 else 0) + (if tb m 3 = true then 1 else 0) + (if tb m 4 = true then 1 else 0) + (if tb m 5 = true then 1 else 0)
theorem bcS_r (m : Int) : 0 ≤ bcS m ∧ bcS m ≤ 6 := by
  unfold bcS
  constructor <;> (repeat (first | omega | split))
/-- are the heads of a set apart, and there; what they want -/
def apF (L : Int → Int) (set : Int) : Nat → Bool × Int
  | 0 => (true, 0)
  | n + 1 => if tb set n = true then ((apF L set n).1 && decide (L n ≠ 0) && decide (gand (apF L set n).2 (L n) = 0), gor (apF L set n).2 (L n)) else apF L set n
/-- the best set up to a number -/
def svF (L : Int → Int) (P : Int) : Nat → Int
  | 0 => 0
  | n + 1 => if (apF L ((n : Int) + 1) P.toNat).1 = true ∧ bcS (svF L P n) < bcS ((n : Int) + 1) then (n : Int) + 1 else svF L P n
theorem svF_r (L : Int → Int) (P : Int) : ∀ n : Nat, 0 ≤ svF L P n ∧ svF L P n ≤ n
  | 0 => ⟨by show (0 : Int) ≤ 0; decide, by show (0 : Int) ≤ 0; decide⟩
  | n + 1 => by
    have := svF_r L P n
    unfold svF
    split <;> omega
theorem apF_r (L : Int → Int) (set : Int) (hL : ∀ i, 0 ≤ i → i < 6 → 0 ≤ L i ∧ L i < 64) : ∀ n : Nat, n ≤ 6 → 0 ≤ (apF L set n).2 ∧ (apF L set n).2 < 64
  | 0, _ => by show (0 : Int) ≤ 0 ∧ (0 : Int) < 64; decide
  | n + 1, hn => by
    have h := apF_r L set hL n (by omega)
    unfold apF
    split
    · exact gor_r _ _ h (hL n (by omega) (by omega))
    · exact h
def bcF (x0 : Int) : Int := (gand (((gand (((gand (x0 - (gand (gushr x0 1) 1431655765)) 858993459) + (gand (gushr (x0 - (gand (gushr x0 1) 1431655765)) 2) 858993459)) + (gushr ((gand (x0 - (gand (gushr x0 1) 1431655765)) 858993459) + (gand (gushr (x0 - (gand (gushr x0 1) 1431655765)) 2) 858993459)) 4)) 252645135) + (gushr (gand (((gand (x0 - (gand (gushr x0 1) 1431655765)) 858993459) + (gand (gushr (x0 - (gand (gushr x0 1) 1431655765)) 2) 858993459)) + (gushr ((gand (x0 - (gand (gushr x0 1) 1431655765)) 858993459) + (gand (gushr (x0 - (gand (gushr x0 1) 1431655765)) 2) 858993459)) 4)) 252645135) 8)) + (gushr ((gand (((gand (x0 - (gand (gushr x0 1) 1431655765)) 858993459) + (gand (gushr (x0 - (gand (gushr x0 1) 1431655765)) 2) 858993459)) + (gushr ((gand (x0 - (gand (gushr x0 1) 1431655765)) 858993459) + (gand (gushr (x0 - (gand (gushr x0 1) 1431655765)) 2) 858993459)) 4)) 252645135) + (gushr (gand (((gand (x0 - (gand (gushr x0 1) 1431655765)) 858993459) + (gand (gushr (x0 - (gand (gushr x0 1) 1431655765)) 2) 858993459)) + (gushr ((gand (x0 - (gand (gushr x0 1) 1431655765)) 858993459) + (gand (gushr (x0 - (gand (gushr x0 1) 1431655765)) 2) 858993459)) 4)) 252645135) 8)) 16)) 63)
theorem bcF_eq : ∀ m : Nat, m < 64 → bcF m = bcS m := by decide +kernel
section NB
variable {l : Launch} {G : gG}
theorem c_bitCount (m : Int) (hm : 0 ≤ m ∧ m < 64) (σ : gS) (Q : Int → gS → Prop) (h : Q (bcS m) σ) : eJ6_bitCount_0f7a4 l G m σ Q := by
  refine vJ6_bitCount_0f7a4 m ⟨by omega, by omega⟩ σ Q ?_
  have e := bcF_eq m.toNat (by omega)
  rw [show ((m.toNat : Nat) : Int) = m by omega] at e
  rw [← e] at h
  exact h
theorem c_bitsOf (m : Int) (hm : 0 ≤ m ∧ m < 64) (σ : gS) (Q : Int → gS → Prop) (h : Q (bcS m) σ) : eX12_bitsOf l G m σ Q := by
  have rm : gR m := ⟨by omega, by omega⟩
  refine vX12_bitsOf m rm σ Q ?_
  have hb : ∀ k : Int, 0 ≤ k → k < 12 → gand (gshr m k) 1 = if tb m k = true then 1 else 0 := fun k k0 k1 => tb_eq m k (by omega) (by omega)
  have step : ∀ (k x : Int), 0 ≤ k → k < 12 → gR x → kX12_bitsOf_4 l G m (x + (if tb m k = true then 1 else 0)) (k + 1) σ Q → kX12_bitsOf_4 l G m x k σ Q := by
    intro k x k0 k1 rx hk
    refine vX12_bitsOf_4 m x k rm rx ⟨by omega, by omega⟩ σ Q ⟨fun e => by omega, fun _ => ?_⟩
    rw [hb k k0 k1]; exact hk
  have hi : ∀ k : Int, 6 ≤ k → tb m k = false := by
    intro k k6
    unfold tb
    exact Nat.testBit_lt_two_pow (Nat.lt_of_lt_of_le (show m.toNat < 2 ^ 6 by omega) (Nat.pow_le_pow_right (by decide) (by omega)))
  have key : ∀ (n : Nat) (k x : Int), k + n = 12 → 6 ≤ k → 0 ≤ x → x ≤ 6 → Q x σ → kX12_bitsOf_4 l G m x k σ Q := by
    intro n
    induction n with
    | zero =>
      intro k x e k6 x0 x1 hq
      exact vX12_bitsOf_4 m x k rm ⟨by omega, by omega⟩ ⟨by omega, by omega⟩ σ Q ⟨fun _ => hq, fun e => by omega⟩
    | succ n ih =>
      intro k x e k6 x0 x1 hq
      refine step k x (by omega) (by omega) ⟨by omega, by omega⟩ ?_
      rw [hi k k6, if_neg (by decide), Int.add_zero]
      exact ih (k + 1) x (by omega) (by omega) x0 x1 hq
  have hr : ∀ b : Bool, 0 ≤ (if b = true then (1 : Int) else 0) ∧ (if b = true then (1 : Int) else 0) ≤ 1 := by decide
  have t0 := hr (tb m 0); have t1 := hr (tb m 1); have t2 := hr (tb m 2); have t3 := hr (tb m 3); have t4 := hr (tb m 4); have t5 := hr (tb m 5)
  unfold bcS at h
  refine step 0 0 (by decide) (by decide) (by decide) ?_
  rw [Int.zero_add]
  refine step 1 _ (by decide) (by decide) ⟨by omega, by omega⟩ ?_
  refine step 2 _ (by decide) (by decide) ⟨by omega, by omega⟩ ?_
  refine step 3 _ (by decide) (by decide) ⟨by omega, by omega⟩ ?_
  refine step 4 _ (by decide) (by decide) ⟨by omega, by omega⟩ ?_
  refine step 5 _ (by decide) (by decide) ⟨by omega, by omega⟩ ?_
  exact key 6 6 _ (by decide) (by decide) (by omega) (by omega) h
end NB
