/-- which served input takes an output; then the least that wants it -/
def tk1 (L : Int → Int) (sv : Int) : Nat → Int → Int
  | 0, _ => -1
  | n + 1, o => if tb sv n = true ∧ tb (L n) o = true then n else tk1 L sv n o
def f1 (L : Int → Int) (o : Int) : Nat → Int → Int
  | 0, _ => -1
  | k + 1, i => if tb (L i) o = true then i else f1 L o k (i + 1)
def tkF (L : Int → Int) (sv P o : Int) : Int := if tk1 L sv P.toNat o = -1 then f1 L o P.toNat 0 else tk1 L sv P.toNat o
def zTk (S : RS) (o : Int) : Int := if o < S 88 10 then tkF (zLeft S) (zServed S) (S 88 10) o else -1
theorem tk1_r (L : Int → Int) (sv : Int) : ∀ (n : Nat) (o : Int), tk1 L sv n o = -1 ∨ (0 ≤ tk1 L sv n o ∧ tk1 L sv n o < n ∧ tb sv (tk1 L sv n o) = true ∧ tb (L (tk1 L sv n o)) o = true)
  | 0, _ => Or.inl rfl
  | n + 1, o => by
    unfold tk1
    split
    · rename_i h; exact Or.inr ⟨by omega, by omega, h.1, h.2⟩
    · rcases tk1_r L sv n o with h | ⟨h0, h1, h2⟩
      · exact Or.inl h
      · exact Or.inr ⟨h0, by omega, h2⟩
theorem f1_r (L : Int → Int) (o : Int) : ∀ (k : Nat) (i : Int), f1 L o k i = -1 ∨ (i ≤ f1 L o k i ∧ f1 L o k i < i + k ∧ tb (L (f1 L o k i)) o = true)
  | 0, _ => Or.inl rfl
  | k + 1, i => by
    unfold f1
    split
    · rename_i h; exact Or.inr ⟨by omega, by omega, h⟩
    · rcases f1_r L o k (i + 1) with h | ⟨h0, h1, h2⟩
      · exact Or.inl h
      · exact Or.inr ⟨by omega, by omega, h2⟩
theorem zTk_r (S : RS) (hP : 1 ≤ S 88 10) (o : Int) : zTk S o = -1 ∨ (0 ≤ zTk S o ∧ zTk S o < S 88 10 ∧ o < S 88 10 ∧ tb (zLeft S (zTk S o)) o = true) := by
  unfold zTk
  split
  · rename_i ho
    unfold tkF
    split
    · rcases f1_r (zLeft S) o (S 88 10).toNat 0 with h | ⟨h0, h1, h2⟩
      · exact Or.inl h
      · exact Or.inr ⟨h0, by omega, ho, h2⟩
    · rcases tk1_r (zLeft S) (zServed S) (S 88 10).toNat o with h | ⟨h0, h1, h2, h3⟩
      · exact Or.inl h
      · exact Or.inr ⟨h0, by omega, ho, h3⟩
  · exact Or.inl rfl
/-- what is left of the heads -/
def zW (tk : Int → Int) : Nat → RS → RS
  | 0, S => S
  | n + 1, S => if tk n = -1 then zW tk n S else uS (zW tk n S) 106 (S 96 (9 * tk n)) (gand (zW tk n S 106 (S 96 (9 * tk n))) (gxor (gshl 1 n) (-1)))
def bz (tk : Int → Int) : Nat → Int → Bool
  | 0, _ => false
  | n + 1, i => bz tk n i || decide (tk n = i)
/-- a row moves up -/
def zMv (c : Nat) (b : Int) : Nat → RS → RS
  | 0, S => S
  | m + 1, S => uS (zMv c b m S) c (b + m) (S c (b + m + 1))
/-- a head that has sent -/
def zE1 (i : Int) (S : RS) : RS :=
  if S 106 (S 96 (9 * i)) = 0 then
    zMv 96 (9 * i) (S 97 i - 1).toNat (uS (uS (uS (uS S 107 (S 96 (9 * i)) (S 107 (S 96 (9 * i)) + 1)) 104 (S 96 (9 * i)) (S 88 24)) 88 28 (S 88 28 + 1)) 97 i (S 97 i - 1))
  else uS S 107 (S 96 (9 * i)) (S 107 (S 96 (9 * i)) + 1)
def zE (busy : Int → Bool) : Nat → RS → RS
  | 0, S => S
  | n + 1, S => if busy n = true then zE1 n (zE busy n S) else zE busy n S
def zSendF (S : RS) : RS := zE (bz (zTk S) (S 88 10).toNat) (S 88 10).toNat (zW (zTk S) (S 88 10).toNat S)
theorem zW_o (tk : Int → Int) : ∀ (n : Nat) (S : RS) (c : Nat) (k : Int), c ≠ 106 → zW tk n S c k = S c k
  | 0, _, _, _, _ => rfl
  | n + 1, S, c, k, h => by
    unfold zW
    split
    · exact zW_o tk n S c k h
    · rw [uS_ne h]; exact zW_o tk n S c k h
theorem zMv_o (c : Nat) (b : Int) : ∀ (m : Nat) (S : RS) (c' : Nat) (k : Int), c' ≠ c → zMv c b m S c' k = S c' k
  | 0, _, _, _, _ => rfl
  | m + 1, S, c', k, h => by
    unfold zMv
    rw [uS_ne h]; exact zMv_o c b m S c' k h
theorem zMv_c (c : Nat) (b : Int) : ∀ (m : Nat) (S : RS) (k : Int), zMv c b m S c k = if b ≤ k ∧ k < b + m then S c (k + 1) else S c k
  | 0, S, k => by rw [if_neg (by omega)]; rfl
  | m + 1, S, k => by
    unfold zMv
    rw [uS_at, zMv_c c b m S k]
    by_cases hk : k = b + m
    · rw [if_pos ⟨rfl, hk⟩, if_pos (by omega), hk]
    · rw [if_neg (fun z => hk z.2)]
      by_cases h2 : b ≤ k ∧ k < b + m
      · rw [if_pos h2, if_pos (by omega)]
      · rw [if_neg h2, if_neg (by omega)]
theorem zE1_88 (i : Int) (S : RS) (k : Int) (h : k ≠ 28) : zE1 i S 88 k = S 88 k := by
  unfold zE1
  split
  · rw [zMv_o _ _ _ _ _ _ (by omega), uS_ne (by omega), uS_nei h, uS_ne (by omega), uS_ne (by omega)]
  · rw [uS_ne (by omega)]
theorem zE1_97 (i : Int) (S : RS) (k : Int) (h : k ≠ i) : zE1 i S 97 k = S 97 k := by
  unfold zE1
  split
  · rw [zMv_o _ _ _ _ _ _ (by omega), uS_nei h, uS_ne (by omega), uS_ne (by omega), uS_ne (by omega)]
  · rw [uS_ne (by omega)]
theorem zE1_96 (i : Int) (S : RS) (h97 : S 97 i ≤ 9) (k : Int) (h : k < 9 * i ∨ 9 * i + 9 ≤ k) : zE1 i S 96 k = S 96 k := by
  unfold zE1
  split
  · rw [zMv_c, if_neg (by omega), uS_ne (by omega), uS_ne (by omega), uS_ne (by omega), uS_ne (by omega)]
  · rw [uS_ne (by omega)]
theorem zE1_o (i : Int) (S : RS) (c : Nat) (k : Int) (h : c ≠ 88 ∧ c ≠ 96 ∧ c ≠ 97 ∧ c ≠ 104 ∧ c ≠ 107) : zE1 i S c k = S c k := by
  unfold zE1
  split
  · rw [zMv_o _ _ _ _ _ _ (by omega), uS_ne (by omega), uS_ne (by omega), uS_ne (by omega), uS_ne (by omega)]
  · rw [uS_ne (by omega)]
section ND
variable {l : Launch} {G : gG}
theorem c_headOf (i : Int) (hi : 0 ≤ i ∧ i < 6) (σ : gS) (h97 : pS σ 97 i ≠ 0) (Q : Int → gS → Prop) (h : Q (pS σ 96 (9 * i)) σ) : eX12_headOf l G i σ Q := by
  have e97 : gI σ 97 i = pS σ 97 i := pS_at (by unfold okC; omega)
  have e96 : gI σ 96 (9 * i) = pS σ 96 (9 * i) := pS_at (by unfold okC; omega)
  refine vX12_headOf i ⟨by omega, by omega⟩ σ Q ⟨hi, ⟨fun _ => ⟨by omega, True.intro⟩, fun _ => True.intro⟩, fun v hv => ?_⟩
  rw [e97, e96, if_neg h97] at hv
  rw [hv]; exact h
end ND
