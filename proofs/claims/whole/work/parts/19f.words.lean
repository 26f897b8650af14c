/-- codes of the words, of the texts -/
def wcs : List Int := [17287827, 620411027, 4375176, 17693102258, 635380, 299397, 103820, 6190, 2804340, 13684840, 1574484]
theorem wcs_ok : ∀ k, k < 11 → wcs.getD k 0 = cd (fun i => sBt k i.toNat) 0 (sLn k) ∧ wdc (wcs.getD k 0) = (k : Int) + 1 := by decide +kernel
theorem wdc_inv (c : Int) : wdc c = 99 ∨ ∃ k : Nat, k < 11 ∧ wdc c = (k : Int) + 1 ∧ c = wcs.getD k 0 := by
  unfold wdc
  by_cases h0 : c = 17287827
  · rw [if_pos h0]; exact Or.inr ⟨0, by decide, by decide, h0⟩
  rw [if_neg h0]
  by_cases h1 : c = 620411027
  · rw [if_pos h1]; exact Or.inr ⟨1, by decide, by decide, h1⟩
  rw [if_neg h1]
  by_cases h2 : c = 4375176
  · rw [if_pos h2]; exact Or.inr ⟨2, by decide, by decide, h2⟩
  rw [if_neg h2]
  by_cases h3 : c = 17693102258
  · rw [if_pos h3]; exact Or.inr ⟨3, by decide, by decide, h3⟩
  rw [if_neg h3]
  by_cases h4 : c = 635380
  · rw [if_pos h4]; exact Or.inr ⟨4, by decide, by decide, h4⟩
  rw [if_neg h4]
  by_cases h5 : c = 299397
  · rw [if_pos h5]; exact Or.inr ⟨5, by decide, by decide, h5⟩
  rw [if_neg h5]
  by_cases h6 : c = 103820
  · rw [if_pos h6]; exact Or.inr ⟨6, by decide, by decide, h6⟩
  rw [if_neg h6]
  by_cases h7 : c = 6190
  · rw [if_pos h7]; exact Or.inr ⟨7, by decide, by decide, h7⟩
  rw [if_neg h7]
  by_cases h8 : c = 2804340
  · rw [if_pos h8]; exact Or.inr ⟨8, by decide, by decide, h8⟩
  rw [if_neg h8]
  by_cases h9 : c = 13684840
  · rw [if_pos h9]; exact Or.inr ⟨9, by decide, by decide, h9⟩
  rw [if_neg h9]
  by_cases h10 : c = 1574484
  · rw [if_pos h10]; exact Or.inr ⟨10, by decide, by decide, h10⟩
  rw [if_neg h10]
  exact Or.inl rfl
theorem cd_nn {B : Int → Int} {s : Int} : ∀ n : Nat, (∀ j : Nat, j < n → 97 ≤ B (s + j) ∧ B (s + j) ≤ 122) → 0 ≤ cd B s n := by
  intro n
  induction n with
  | zero => intro _; exact Int.le_refl 0
  | succ n ih =>
    intro h
    have h1 := ih (fun j hj => h j (by omega))
    have h2 := h n (by omega)
    show 0 ≤ 32 * cd B s n + (B (s + n) - 96)
    omega
theorem cd_inj {B B' : Int → Int} {s s' : Int} : ∀ n m : Nat, (∀ j : Nat, j < n → 97 ≤ B (s + j) ∧ B (s + j) ≤ 122) → (∀ j : Nat, j < m → 97 ≤ B' (s' + j) ∧ B' (s' + j) ≤ 122) → cd B s n = cd B' s' m → n = m ∧ ∀ j : Nat, j < n → B (s + j) = B' (s' + j) := by
  intro n
  induction n with
  | zero =>
    intro m _ h2 e
    cases m with
    | zero => exact ⟨rfl, fun j hj => absurd hj (by omega)⟩
    | succ m =>
      exfalso
      have e2 : (0 : Int) = 32 * cd B' s' m + (B' (s' + m) - 96) := e
      have h3 := cd_nn m (fun j hj => h2 j (by omega))
      have h4 := h2 m (by omega)
      omega
  | succ n ih =>
    intro m h1 h2 e
    have h5 := cd_nn n (fun j hj => h1 j (by omega))
    have h6 := h1 n (by omega)
    cases m with
    | zero =>
      exfalso
      have e2 : 32 * cd B s n + (B (s + n) - 96) = (0 : Int) := e
      omega
    | succ m =>
      have e2 : 32 * cd B s n + (B (s + n) - 96) = 32 * cd B' s' m + (B' (s' + m) - 96) := e
      have h3 := cd_nn m (fun j hj => h2 j (by omega))
      have h4 := h2 m (by omega)
      have e3 : cd B s n = cd B' s' m := by omega
      have e4 : B (s + n) = B' (s' + m) := by omega
      obtain ⟨r1, r2⟩ := ih m (fun j hj => h1 j (by omega)) (fun j hj => h2 j (by omega)) e3
      subst r1
      refine ⟨rfl, fun j hj => ?_⟩
      by_cases z : j = n
      · rw [z]; exact e4
      · exact r2 j (by omega)
theorem cd_eq {B B' : Int → Int} {s s' : Int} : ∀ n : Nat, (∀ j : Nat, j < n → B (s + j) = B' (s' + j)) → cd B s n = cd B' s' n := by
  intro n
  induction n with
  | zero => intro _; rfl
  | succ n ih =>
    intro h
    show 32 * cd B s n + (B (s + n) - 96) = 32 * cd B' s' n + (B' (s' + n) - 96)
    rw [ih (fun j hj => h j (by omega)), h n (by omega)]
theorem tK_1 {B : Int → Int} {L p : Int} (h : tK B L p = 1) : tS B L p < L ∧ tE B L p = av lt B L (tS B L p) := by
  have h1 : tS B L p < L := Decidable.byContradiction (fun q => by have := (tK_0 p).2 q; omega)
  refine ⟨h1, ?_⟩
  by_cases k : lt (B (tS B L p)) = true
  · unfold tE eE; rw [if_pos h1, if_pos k]
  · exfalso
    unfold tK eK at h
    rw [if_pos h1, if_neg k] at h
    revert h
    split
    · split <;> decide
    · split <;> decide
theorem spT_w {B : Int → Int} {L p : Int} {σ : gS} (hA : tA B L σ) (hK : tK B L p = 1) (k : Nat) (hk : k < 11) : spT σ k (tS B L p) (tE B L p) ↔ tW B L p = (k : Int) + 1 := by
  obtain ⟨h1, h2⟩ := tK_1 hK
  have w := wcs_ok k hk
  have b := sLn_ok k hk
  have ge := tE_ge (B := B) (L := L) p
  have le : ∀ j : Nat, j < (tE B L p - tS B L p).toNat → 97 ≤ B (tS B L p + j) ∧ B (tS B L p + j) ≤ 122 := by
    intro j hj
    refine lt_t.1 (av_all (f := lt) (B := B) (L := L) (tS B L p) _ (by omega) ?_)
    rw [← h2]; omega
  have lk : ∀ j : Nat, j < sLn k → 97 ≤ (fun i : Int => sBt k i.toNat) (0 + (j : Int)) ∧ (fun i : Int => sBt k i.toNat) (0 + (j : Int)) ≤ 122 := by
    intro j hj
    have c := (sBt_ok k hk j hj).2.1
    have e : (0 + (j : Int)).toNat = j := by omega
    show 97 ≤ sBt k (0 + (j : Int)).toNat ∧ sBt k (0 + (j : Int)).toNat ≤ 122
    rw [e]; exact c
  constructor
  · rintro ⟨q1, q2⟩
    have e : (tE B L p - tS B L p).toNat = sLn k := by omega
    show eW B L (tS B L p) = _
    unfold eW
    show (if tE B L p - tS B L p ≤ 8 then wdc (cd B (tS B L p) (tE B L p - tS B L p).toNat) else 99) = _
    rw [if_pos (by omega), e, cd_eq (B' := fun i => sBt k i.toNat) (s' := 0) (sLn k) (fun j hj => ?_), ← w.1]
    · exact w.2
    · have e : (0 + (j : Int)).toNat = j := by omega
      show _ = sBt k (0 + (j : Int)).toNat
      rw [e, ← hA.1]; exact q2 j hj
  · intro q
    have q' : (if tE B L p - tS B L p ≤ 8 then wdc (cd B (tS B L p) (tE B L p - tS B L p).toNat) else 99) = (k : Int) + 1 := q
    by_cases z : tE B L p - tS B L p ≤ 8
    · rw [if_pos z] at q'
      rcases wdc_inv (cd B (tS B L p) (tE B L p - tS B L p).toNat) with i | ⟨k', i1, i2, i3⟩
      · exfalso; omega
      · have ek : k' = k := by omega
        rw [ek, w.1] at i3
        obtain ⟨r1, r2⟩ := cd_inj _ _ le lk i3
        refine ⟨by omega, fun j hj => ?_⟩
        have e : (0 + (j : Int)).toNat = j := by omega
        have r3 : B (tS B L p + j) = sBt k (0 + (j : Int)).toNat := r2 j (by omega)
        rw [hA.1, r3, e]
    · rw [if_neg z] at q'
      exfalso; omega
section GW
variable {l : Launch} {G : gG}
theorem w_here : wHere l G := by
  intro B L x p σ Q hx hp hA hC hQ
  obtain ⟨c8, c9, c10, _⟩ := hC
  have g1 := tS_ge (B := B) (L := L) p
  have g2 := tE_ge (B := B) (L := L) p
  have g3 := tE_le (B := B) (L := L) p hp.2
  have g4 := hA.2.2.2.2.1
  have gx : gst 0 x = loW x - 1 ∧ gst 0 (x + 1) = hiW x ∧ 1 ≤ loW x ∧ hiW x ≤ 11 := by
    rcases hx with e | e | e <;> subst e <;> decide
  refine j_wordHere x (by omega) σ hA.2.1 (by rw [c8, c10]; omega) Q (fun v hv => hQ v ?_)
  rw [c8, c9, c10, gx.1, gx.2.1] at hv
  constructor
  · rintro ⟨i1, i2, i3⟩
    rcases hv with ⟨_, q | q⟩ | ⟨_, k, q1, q2, q3, q4⟩
    · exact absurd i1 q
    · exfalso
      refine q (tW B L p - 1).toNat (by omega) (by omega) ((spT_w hA i1 _ (by omega)).2 (by omega))
    · have := (spT_w hA i1 k (by omega)).1 q4
      omega
  · intro ni
    rcases hv with ⟨q, _⟩ | ⟨q0, k, q1, q2, q3, q4⟩
    · exact q
    · exfalso
      have := (spT_w hA q0 k (by omega)).1 q4
      exact ni ⟨q0, by omega, by omega⟩
theorem p_text0 (x1 x2 : Int) (r1 : gR x1) (r2 : gR x2) (σ : gS) (hI : tInv σ) : eX11_text l G x1 x2 σ (fun r τ => gR r → eX12_text l G x1 x2 τ (fun r' υ => gR r' → r = r' ∧ tInv υ)) := p_text w_here x1 x2 r1 r2 σ hI
end GW
