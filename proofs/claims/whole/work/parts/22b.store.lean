/-- the store of two new objects -/
def z0 (c : Nat) (i : Int) : Int := match c with
  | 1 => if i = 3 then -1 else 0
  | 8 => if i = 3 then -1 else 0
  | 14 => if i = 3 then -1 else 0
  | 20 => if i = 3 then -1 else 0
  | 32 => if i = 3 then 1 else 0
  | 45 => if i = 0 then 1 else 0
  | 59 => if i = 0 then 1 else 0
  | 89 => if i = 6 then -1 else 0
  | _ => 0
def s0 : gS := (z0, fun _ => 0, 31)
theorem z0_r (c : Nat) (i : Int) : gR (z0 c i) := by
  unfold z0
  split <;> first | decide | (split <;> decide)
theorem s0_ok : gOK s0 := ⟨fun c i => z0_r c i, fun _ => by show gRl 0; decide⟩
theorem s0_inv : tInv s0 := by
  refine ⟨⟨⟨fun s h0 h1 => ?_, fun c h0 h1 => ?_, fun t h0 h1 => ?_, fun t h0 h1 => ?_⟩, ⟨by decide, by decide, fun i h0 h1 => ?_⟩⟩, fun k hk => ⟨rfl, Or.inl rfl, fun h => absurd (show (0 : Int) = 1 from h) (by decide)⟩⟩
  · show (0 : Int) = (if 0 + s = 6 then -1 else 0) ∧ 0 ≤ (if 0 + s = 6 then (-1 : Int) else 0) ∧ (if 0 + s = 6 then (-1 : Int) else 0) ≤ 2
    rw [if_neg (by omega)]; decide
  · have h2 : c < (0 : Int) := h1
    omega
  · have h2 : t < (0 : Int) := h1
    omega
  · have h2 : t < (0 : Int) := h1
    omega
  · show -128 ≤ (0 : Int) ∧ (0 : Int) < 128 ∧ (if 0 + 10 + i = 6 then (-1 : Int) else 0) = 0 % 256
    rw [if_neg (by omega)]; decide
theorem gimg_ok (ad : Nat → Nat) : (fun k : Nat => (gimg[k]?).map ad) = fun k : Nat => ([ad 8, ad 14, ad 20] : List Nat)[k]? := by
  funext k
  match k with
  | 0 => rfl
  | 1 => rfl
  | 2 => rfl
  | k + 3 => rfl
