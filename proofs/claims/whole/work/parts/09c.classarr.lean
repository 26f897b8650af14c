def zLeft (S : RS) (i : Int) : Int := if S 97 i = 0 then 0 else S 106 (S 96 (9 * i))
/-- what went by: the class' rows, the reference's -/
def CRh (σ : gS) (S : RS) : Prop :=
  (∀ s, 0 ≤ s → s < S 88 24 → (0 ≤ gI σ 42 s ∧ gI σ 42 s < 262144) ∧ (∀ o, 0 ≤ o → o < 6 → gI σ 42 s / 8 ^ o.toNat % 8 = S 109 (6 * s + o) + 1) ∧
    (0 ≤ gI σ 43 s ∧ gI σ 43 s < 64 ∧ ∀ i, 0 ≤ i → i < 6 → (tb (gI σ 43 s) i = true ↔ ∃ o, 0 ≤ o ∧ o < 6 ∧ (S 109 (6 * s + o) = i ∨ S 110 (6 * s + o) = i))) ∧
    isM (gI σ 44 s) (fun o => decide (o < S 88 10) && (decide (S 109 (6 * s + o) ≠ -1) || decide (S 110 (6 * s + o) ≠ -1)))) ∧
  (∀ o, 0 ≤ o → o < 6 → gI σ 49 o = (if S 88 24 = 0 then -1 else S 109 (6 * (S 88 24 - 1) + o)) ∧ gI σ 52 o = (if S 88 24 = 0 then -1 else S 110 (6 * (S 88 24 - 1) + o)))
/-- the class' run stands where the reference's state S does (who arrived apart) -/
def CR (σ : gS) (S : RS) : Prop :=
  (gI σ 32 3 = S 88 10 ∧ gI σ 32 4 = S 88 11 ∧ gI σ 32 5 = S 88 12 ∧ gI σ 45 0 = S 88 10) ∧
  (gI σ 41 0 = S 88 24 ∧ gI σ 33 0 = S 88 25 ∧ gI σ 32 7 = S 88 26 ∧ gI σ 32 8 = S 88 27 ∧ gI σ 32 9 = S 88 28 ∧ gI σ 32 10 = S 88 23) ∧
  (∀ o, 0 ≤ o → o < 6 → gI σ 51 o = S 98 o ∧ gI σ 55 o = S 97 o ∧ gI σ 46 o = S 92 o ∧ gI σ 47 o = S 93 o ∧ gI σ 57 o = zLeft S o) ∧
  (∀ q, 0 ≤ q → q < 36 → gI σ 53 q = S 95 q ∧ ∀ j, 0 ≤ j → j < S 95 q → gI σ 54 (9 * q + j) = S 94 (9 * q + j)) ∧
  (∀ i, 0 ≤ i → i < 6 → ∀ j, 0 ≤ j → j < S 97 i → gI σ 56 (9 * i + j) = S 96 (9 * i + j)) ∧
  (∀ k, 0 ≤ k → k < S 88 25 → gI σ 34 k = S 100 k ∧ gI σ 35 k = S 101 k ∧ gI σ 36 k = S 102 k ∧ gI σ 37 k = S 103 k ∧ gI σ 38 k = S 104 k ∧ gI σ 39 k = S 105 k ∧ gI σ 40 k = S 107 k) ∧
  (∀ o, 0 ≤ o → o < S 88 10 → isM (gI σ 48 o) (fun i => decide (i < S 88 10) && decide (0 < S 95 (6 * i + o)))) ∧ CRh σ S
theorem CRh.keep {σ τ : gS} {S T : RS} (h : CRh σ S) (h1 : ∀ c, c = 42 ∨ c = 43 ∨ c = 44 ∨ c = 49 ∨ c = 52 → ∀ i, gI τ c i = gI σ c i) (h2 : T 88 24 = S 88 24) (h3 : T 88 10 = S 88 10) (h4 : ∀ k, T 109 k = S 109 k) (h5 : ∀ k, T 110 k = S 110 k) : CRh τ T := by
  have e4 : T 109 = S 109 := funext h4
  have e5 : T 110 = S 110 := funext h5
  unfold CRh at *
  rw [h2, h3, e4, e5]
  refine ⟨fun s s0 s1 => ?_, fun o o0 o1 => ?_⟩
  · rw [h1 42 (by omega), h1 43 (by omega), h1 44 (by omega)]; exact h.1 s s0 s1
  · rw [h1 49 (by omega), h1 52 (by omega)]; exact h.2 o o0 o1
/-- only a run's own cells change (its draws apart) -/
def frN (σ τ : gS) : Prop := ∀ c k, c < 32 ∨ 57 < c ∨ (c = 32 ∧ k = 18) → gI τ c k = gI σ c k
theorem frN.rfl' {σ : gS} : frN σ σ := fun _ _ _ => rfl
theorem frN.trans {σ τ υ : gS} (h : frN σ τ) (k : frN τ υ) : frN σ υ := fun c i hc => (k c i hc).trans (h c i hc)
theorem frN.set {σ : gS} {c : Nat} {i v : Int} (hc : 32 ≤ c ∧ c ≤ 57 ∧ ¬ (c = 32 ∧ i = 18)) : frN σ (sI σ c i v) := fun c' i' h => by rw [sI_at, if_neg (by omega)]
theorem frN.c {σ τ : gS} (h : frN σ τ) : frC σ τ := ⟨fun c hc i => h c i (by omega), fun c hc i => h c i (by omega)⟩
section MW
variable {l : Launch} {G : gG}
theorem c_add (x1 x2 x3 x4 x5 : Int) (r1 : gR x1) (r2 : gR x2) (h3 : x3 = 0 ∨ x3 = 1) (r4 : gR x4) (h5 : x5 = 0 ∨ x5 = 1) (σ : gS) (hk : 0 ≤ gI σ 33 0 ∧ gI σ 33 0 < 360) (Q : Int → gS → Prop)
    (h : ∀ τ, gI τ 33 0 = gI σ 33 0 + 1 → gI τ 34 (gI σ 33 0) = x1 → gI τ 35 (gI σ 33 0) = x2 → gI τ 36 (gI σ 33 0) = x3 → gI τ 37 (gI σ 33 0) = x4 → gI τ 38 (gI σ 33 0) = -1 → gI τ 39 (gI σ 33 0) = x5 → gI τ 40 (gI σ 33 0) = 0 → (∀ c i, ¬ (34 ≤ c ∧ c ≤ 40 ∧ i = gI σ 33 0) → ¬ (c = 33 ∧ i = 0) → gI τ c i = gI σ c i) → Q (gI σ 33 0) τ) : eX0_add l G x1 x2 x3 x4 x5 σ Q := by
  refine vX0_add x1 x2 x3 x4 x5 r1 r2 (gR_01 h3) r4 (gR_01 h5) σ Q ⟨fun _ => ⟨hk, fun σ1 e1 σ2 e2 => ⟨h3, fun σ3 e3 σ4 e4 σ5 e5 => ⟨h5, fun σ6 e6 σ7 e7 => ?_⟩⟩⟩, fun e => by omega⟩
  have f33 : gI σ7 33 0 = gI σ 33 0 := by rw [e7, sI_ne (by omega), e6, sI_ne (by omega), e5, sI_ne (by omega), e4, sI_ne (by omega), e3, sI_ne (by omega), e2, sI_ne (by omega), e1, sI_ne (by omega)]
  rw [f33]
  refine ⟨⟨by omega, by omega⟩, fun σ8 e8 => h σ8 ?_ ?_ ?_ ?_ ?_ ?_ ?_ ?_ (fun c i n1 n2 => ?_)⟩
  · rw [e8, sI_eq]
  · rw [e8, sI_ne (by omega), e7, sI_ne (by omega), e6, sI_ne (by omega), e5, sI_ne (by omega), e4, sI_ne (by omega), e3, sI_ne (by omega), e2, sI_ne (by omega), e1, sI_eq]
  · rw [e8, sI_ne (by omega), e7, sI_ne (by omega), e6, sI_ne (by omega), e5, sI_ne (by omega), e4, sI_ne (by omega), e3, sI_ne (by omega), e2, sI_eq]
  · rw [e8, sI_ne (by omega), e7, sI_ne (by omega), e6, sI_ne (by omega), e5, sI_ne (by omega), e4, sI_ne (by omega), e3, sI_eq]
  · rw [e8, sI_ne (by omega), e7, sI_ne (by omega), e6, sI_ne (by omega), e5, sI_ne (by omega), e4, sI_eq]
  · rw [e8, sI_ne (by omega), e7, sI_ne (by omega), e6, sI_ne (by omega), e5, sI_eq]
  · rw [e8, sI_ne (by omega), e7, sI_ne (by omega), e6, sI_eq]
  · rw [e8, sI_ne (by omega), e7, sI_eq]
  · rw [e8, sI_at, if_neg (by omega), e7, sI_at, if_neg (by omega), e6, sI_at, if_neg (by omega), e5, sI_at, if_neg (by omega), e4, sI_at, if_neg (by omega), e3, sI_at, if_neg (by omega), e2, sI_at, if_neg (by omega), e1, sI_at, if_neg (by omega)]
/-- a cell comes, by the class -/
theorem c_takeCell (i o alone : Int) (σ : gS) (S : RS) (hC : CR σ S) (hS : OKS S) (hi : 0 ≤ i ∧ i < S 88 10) (ho : 0 ≤ o ∧ o < S 88 10) (hk : S 88 25 < 360) (Q : Int → gS → Prop)
    (h : ∀ r τ, (r = 1 ∧ S 95 (6 * i + o) < S 88 12) ∨ (r = 0 ∧ ¬ S 95 (6 * i + o) < S 88 12) → CR τ (zCell i o alone S) → gI τ 32 6 = gI σ 32 6 → frN σ τ → Q r τ) : eX8_takeCell l G i o σ Q := by
  refine gE_ok (fun hO => ?_)
  obtain ⟨⟨p1, p2, p3, p4⟩, ⟨s1, s2, s3, s4, s5, s6⟩, d3, d4, d5, d6, d7, d8⟩ := hC
  obtain ⟨o1, o2, o3, o4, o5, o6, o7⟩ := id hS
  have hq := o3 (6 * i + o) (by omega) (by omega)
  have cq := d4 (6 * i + o) (by omega) (by omega)
  have h2 : gshl 1 o = 2 ^ o.toNat := gshl_1 o (by omega)
  have h6 := pow6 o (by omega)
  have rS : gR (S 88 24) := by rw [← s1]; exact hO.1 41 0
  refine vX8_takeCell i o ⟨by omega, by omega⟩ ⟨by omega, by omega⟩ σ Q ?_
  rw [show i * 6 + o = 6 * i + o by omega, cq.1, p3, h2, s1]
  refine ⟨by omega, fun v hv => ?_⟩
  have hv01 : v = 0 ∨ v = 1 := by rw [hv]; split <;> omega
  refine c_add i (2 ^ o.toNat) 0 (S 88 24) v ⟨by omega, by omega⟩ ⟨by omega, by omega⟩ (Or.inl rfl) rS hv01 σ (by omega) _ (fun τ a0 a1 a2 a3 a4 a5 a6 a7 af _ => ?_)
  rw [s2] at a0 a1 a2 a3 a4 a5 a6 a7 af ⊢
  obtain ⟨n0, n1, n2, n3, n4, n5, n6, n7, n8⟩ := zCell_new i o alone S
  -- the numbered ones
  have num : ∀ υ : gS, (∀ c k, 34 ≤ c → c ≤ 40 → gI υ c k = gI τ c k) → ∀ k, 0 ≤ k → k < S 88 25 + 1 → gI υ 34 k = zCell i o alone S 100 k ∧ gI υ 35 k = zCell i o alone S 101 k ∧ gI υ 36 k = zCell i o alone S 102 k ∧ gI υ 37 k = zCell i o alone S 103 k ∧ gI υ 38 k = zCell i o alone S 104 k ∧ gI υ 39 k = zCell i o alone S 105 k ∧ gI υ 40 k = zCell i o alone S 107 k := by
    intro υ hu k k0 k1
    rw [hu _ _ (by omega) (by omega), hu _ _ (by omega) (by omega), hu _ _ (by omega) (by omega), hu _ _ (by omega) (by omega), hu _ _ (by omega) (by omega), hu _ _ (by omega) (by omega), hu _ _ (by omega) (by omega)]
    by_cases hkk : k = S 88 25
    · subst hkk
      rw [n0, n1, n2, n3, n4, n5, n7]
      refine ⟨a1, a2, a3, a4, a5, ?_, a7⟩
      rw [a6, hv]
    · rw [zCell_k _ _ _ _ 100 _ (by omega) hkk, zCell_k _ _ _ _ 101 _ (by omega) hkk, zCell_k _ _ _ _ 102 _ (by omega) hkk, zCell_k _ _ _ _ 103 _ (by omega) hkk, zCell_k _ _ _ _ 104 _ (by omega) hkk, zCell_k _ _ _ _ 105 _ (by omega) hkk, zCell_k _ _ _ _ 107 _ (by omega) hkk, af _ _ (by omega) (by omega), af _ _ (by omega) (by omega), af _ _ (by omega) (by omega), af _ _ (by omega) (by omega), af _ _ (by omega) (by omega), af _ _ (by omega) (by omega), af _ _ (by omega) (by omega)]
      exact d6 k k0 (by omega)
  have c10 := zCell_88 i o alone S 10 (by omega) (by omega)
  have c11 := zCell_88 i o alone S 11 (by omega) (by omega)
  have c12 := zCell_88 i o alone S 12 (by omega) (by omega)
  have c23 := zCell_88 i o alone S 23 (by omega) (by omega)
  have c24 := zCell_88 i o alone S 24 (by omega) (by omega)
  have c25 := zCell_25 i o alone S
  have c26 := zCell_26 i o alone S
  have c27 := zCell_88 i o alone S 27 (by omega) (by omega)
  have c28 := zCell_88 i o alone S 28 (by omega) (by omega)
  have zl : ∀ k, 0 ≤ k → k < 6 → zLeft (zCell i o alone S) k = zLeft S k := by
    intro k k0 k1
    unfold zLeft
    rw [zCell_o _ _ _ _ 97 _ (by omega), zCell_o _ _ _ _ 96 _ (by omega)]
    split
    · rfl
    · rename_i hz
      have b := o4 k k0 k1
      have b2 := b.2.2 0 (by omega) (by omega)
      rw [Int.add_zero] at b2
      rw [zCell_k _ _ _ _ 106 _ (by omega) (by omega)]
  -- what no branch touches
  have rest : ∀ υ : gS, (∀ c k, c ≠ 48 → c ≠ 53 → c ≠ 54 → ¬ (c = 32 ∧ k = 7) → gI υ c k = gI τ c k) → (gI υ 32 3 = S 88 10 ∧ gI υ 32 4 = S 88 11 ∧ gI υ 32 5 = S 88 12 ∧ gI υ 45 0 = S 88 10) ∧ gI υ 41 0 = S 88 24 ∧ gI υ 33 0 = S 88 25 + 1 ∧ gI υ 32 8 = S 88 27 ∧ gI υ 32 9 = S 88 28 ∧ gI υ 32 10 = S 88 23 ∧ (∀ k, 0 ≤ k → k < 6 → gI υ 51 k = S 98 k ∧ gI υ 55 k = S 97 k ∧ gI υ 46 k = S 92 k ∧ gI υ 47 k = S 93 k ∧ gI υ 57 k = zLeft S k) ∧ (∀ q, 0 ≤ q → q < 6 → ∀ j, 0 ≤ j → j < S 97 q → gI υ 56 (9 * q + j) = S 96 (9 * q + j)) ∧ CRh υ (zCell i o alone S) ∧ gI υ 32 6 = gI σ 32 6 := by
    intro υ hu
    have hh : ∀ c k, c ≠ 48 → c ≠ 53 → c ≠ 54 → ¬ (c = 32 ∧ k = 7) → c ≠ 33 → ¬ (34 ≤ c ∧ c ≤ 40) → gI υ c k = gI σ c k := fun c k b1 b2 b3 b4 b5 b6 => by rw [hu c k b1 b2 b3 b4, af c k (by omega) (by omega)]
    refine ⟨⟨?_, ?_, ?_, ?_⟩, ?_, ?_, ?_, ?_, ?_, fun k k0 k1 => ?_, fun q q0 q1 j j0 j1 => ?_, ?_, ?_⟩
    · rw [hh _ _ (by omega) (by omega) (by omega) (by omega) (by omega) (by omega)]; exact p1
    · rw [hh _ _ (by omega) (by omega) (by omega) (by omega) (by omega) (by omega)]; exact p2
    · rw [hh _ _ (by omega) (by omega) (by omega) (by omega) (by omega) (by omega)]; exact p3
    · rw [hh _ _ (by omega) (by omega) (by omega) (by omega) (by omega) (by omega)]; exact p4
    · rw [hh _ _ (by omega) (by omega) (by omega) (by omega) (by omega) (by omega)]; exact s1
    · rw [hu _ _ (by omega) (by omega) (by omega) (by omega)]; exact a0
    · rw [hh _ _ (by omega) (by omega) (by omega) (by omega) (by omega) (by omega)]; exact s4
    · rw [hh _ _ (by omega) (by omega) (by omega) (by omega) (by omega) (by omega)]; exact s5
    · rw [hh _ _ (by omega) (by omega) (by omega) (by omega) (by omega) (by omega)]; exact s6
    · rw [hh 51 _ (by omega) (by omega) (by omega) (by omega) (by omega) (by omega), hh 55 _ (by omega) (by omega) (by omega) (by omega) (by omega) (by omega), hh 46 _ (by omega) (by omega) (by omega) (by omega) (by omega) (by omega), hh 47 _ (by omega) (by omega) (by omega) (by omega) (by omega) (by omega), hh 57 _ (by omega) (by omega) (by omega) (by omega) (by omega) (by omega)]
      exact d3 k k0 k1
    · rw [hh _ _ (by omega) (by omega) (by omega) (by omega) (by omega) (by omega)]; exact d5 q q0 q1 j j0 j1
    · exact d8.keep (fun c hc k => hh c k (by omega) (by omega) (by omega) (by omega) (by omega) (by omega)) c24 c10 (fun k => zCell_o _ _ _ _ _ _ (by omega)) (fun k => zCell_o _ _ _ _ _ _ (by omega))
    · exact hh _ _ (by omega) (by omega) (by omega) (by omega) (by omega) (by omega)
  have frt : ∀ υ : gS, (∀ c k, c ≠ 48 → c ≠ 53 → c ≠ 54 → ¬ (c = 32 ∧ k = 7) → gI υ c k = gI τ c k) → frN σ υ := fun υ hu c k hc => by rw [hu _ _ (by omega) (by omega) (by omega) (by omega), af _ _ (by omega) (by omega)]
  have t7 : gI τ 32 7 = S 88 26 := by rw [af _ _ (by omega) (by omega)]; exact s3
  have t53 : ∀ q, gI τ 53 q = gI σ 53 q := fun q => af _ _ (by omega) (by omega)
  have t54 : ∀ q, gI τ 54 q = gI σ 54 q := fun q => af _ _ (by omega) (by omega)
  have t48 : ∀ q, gI τ 48 q = gI σ 48 q := fun q => af _ _ (by omega) (by omega)
  have q95 : ∀ q, ¬ (q = 6 * i + o ∧ S 95 (6 * i + o) < S 88 12) → zCell i o alone S 95 q = S 95 q := fun q hn => by rw [zCell_95, if_neg hn]
  refine ⟨fun hne => ?_, fun he => ⟨fun _ => ?_, fun e => by omega⟩⟩
  · -- lost
    have hroom : ¬ S 95 (6 * i + o) < S 88 12 := by
      intro z
      rw [if_pos z] at hv
      exact hne hv
    rw [t7]
    refine ⟨⟨by omega, by omega⟩, fun υ eu => ?_⟩
    have hu : ∀ c k, c ≠ 48 → c ≠ 53 → c ≠ 54 → ¬ (c = 32 ∧ k = 7) → gI υ c k = gI τ c k := fun c k _ _ _ b4 => by rw [eu, sI_at, if_neg b4]
    obtain ⟨w1, w2, w3, w4, w5, w6, w7, w8, w9, wa⟩ := rest υ hu
    have u53 : ∀ q, gI υ 53 q = gI σ 53 q := fun q => by rw [eu, sI_ne (by omega)]; exact t53 q
    have u54 : ∀ q, gI υ 54 q = gI σ 54 q := fun q => by rw [eu, sI_ne (by omega)]; exact t54 q
    have u48 : ∀ q, gI υ 48 q = gI σ 48 q := fun q => by rw [eu, sI_ne (by omega)]; exact t48 q
    refine h 0 υ (Or.inr ⟨rfl, hroom⟩) ⟨by rw [c10, c11, c12]; exact w1, ?_, fun k k0 k1 => ?_, fun q q0 q1 => ?_, fun q q0 q1 j j0 j1 => ?_, ?_, fun k k0 k1 => ?_, w9⟩ wa (frt υ hu)
    · rw [c24, c25, c26, c27, c28, c23, if_neg hroom]
      exact ⟨w2, w3, by rw [eu, sI_eq], w4, w5, w6⟩
    · rw [zCell_o _ _ _ _ 98 _ (by omega), zCell_o _ _ _ _ 97 _ (by omega), zCell_o _ _ _ _ 92 _ (by omega), zCell_o _ _ _ _ 93 _ (by omega), zl k k0 k1]
      exact w7 k k0 k1
    · rw [q95 q (by omega), u53]
      refine ⟨(d4 q q0 q1).1, fun j j0 j1 => ?_⟩
      rw [u54, zCell_94, if_neg (by omega)]
      exact (d4 q q0 q1).2 j j0 j1
    · rw [zCell_o _ _ _ _ 97 _ (by omega)] at j1
      rw [zCell_o _ _ _ _ 96 _ (by omega)]
      exact w8 q q0 q1 j j0 j1
    · rw [c25]; exact num υ (fun c k b1 b2 => hu c k (by omega) (by omega) (by omega) (by omega))
    · rw [c10] at k1 ⊢
      rw [u48]
      refine isM_congr (d7 k k0 k1) (fun a a0 a1 => ?_)
      rw [q95 _ (by omega)]
  · -- room
    have hroom : S 95 (6 * i + o) < S 88 12 := by
      rcases Int.lt_or_le (S 95 (6 * i + o)) (S 88 12) with z | z
      · exact z
      · rw [if_neg (by omega)] at hv; omega
    rw [t53, cq.1]
    refine ⟨by omega, fun υ1 e1 => ?_⟩
    have f53 : gI υ1 53 (6 * i + o) = S 95 (6 * i + o) := by rw [e1, sI_ne (by omega), t53]; exact cq.1
    rw [f53]
    refine ⟨⟨by omega, by omega⟩, fun υ2 e2 => ⟨by omega, fun υ e3 => ?_⟩⟩
    have g48 : gI υ2 48 o = gI σ 48 o := by rw [e2, sI_ne (by omega), e1, sI_ne (by omega)]; exact t48 o
    rw [g48] at e3
    have hu : ∀ c k, c ≠ 48 → c ≠ 53 → c ≠ 54 → ¬ (c = 32 ∧ k = 7) → gI υ c k = gI τ c k := fun c k b1 b2 b3 _ => by rw [e3, sI_ne b1, e2, sI_ne b2, e1, sI_ne b3]
    obtain ⟨w1, w2, w3, w4, w5, w6, w7, w8, w9, wa⟩ := rest υ hu
    have u53 : ∀ q, gI υ 53 q = if q = 6 * i + o then S 95 (6 * i + o) + 1 else gI σ 53 q := fun q => by
      rw [e3, sI_ne (by omega), e2, sI_at]
      by_cases hq9 : q = 6 * i + o
      · rw [if_pos ⟨rfl, hq9⟩, if_pos hq9]
      · rw [if_neg (fun z => hq9 z.2), if_neg hq9, e1, sI_ne (by omega)]; exact t53 q
    have u54 : ∀ q, gI υ 54 q = if q = 9 * (6 * i + o) + S 95 (6 * i + o) then S 88 25 else gI σ 54 q := fun q => by
      rw [e3, sI_ne (by omega), e2, sI_ne (by omega), e1, sI_at]
      by_cases hq9 : q = 9 * (6 * i + o) + S 95 (6 * i + o)
      · rw [if_pos ⟨rfl, by omega⟩, if_pos hq9]
      · rw [if_neg (fun z => hq9 (by omega)), if_neg hq9]; exact t54 q
    have u48 : ∀ q, q ≠ o → gI υ 48 q = gI σ 48 q := fun q hq9 => by rw [e3, sI_nei hq9, e2, sI_ne (by omega), e1, sI_ne (by omega)]; exact t48 q
    have v48 : gI υ 48 o = gor (gI σ 48 o) (gshl 1 i) := by rw [e3, sI_eq]
    refine h 1 υ (Or.inl ⟨rfl, hroom⟩) ⟨by rw [c10, c11, c12]; exact w1, ?_, fun k k0 k1 => ?_, fun q q0 q1 => ?_, fun q q0 q1 j j0 j1 => ?_, ?_, fun k k0 k1 => ?_, w9⟩ wa (frt υ hu)
    · rw [c24, c25, c26, c27, c28, c23, if_pos hroom]
      refine ⟨w2, w3, ?_, w4, w5, w6⟩
      rw [e3, sI_ne (by omega), e2, sI_ne (by omega), e1, sI_ne (by omega)]; exact t7
    · rw [zCell_o _ _ _ _ 98 _ (by omega), zCell_o _ _ _ _ 97 _ (by omega), zCell_o _ _ _ _ 92 _ (by omega), zCell_o _ _ _ _ 93 _ (by omega), zl k k0 k1]
      exact w7 k k0 k1
    · rw [u53, zCell_95]
      by_cases hq9 : q = 6 * i + o
      · rw [if_pos hq9, if_pos ⟨hq9, hroom⟩, hq9]
        refine ⟨rfl, fun j j0 j1 => ?_⟩
        rw [u54, zCell_94]
        by_cases hj : j = S 95 (6 * i + o)
        · rw [if_pos (by omega), if_pos ⟨by omega, hroom⟩]
        · rw [if_neg (by omega), if_neg (by omega)]
          exact cq.2 j j0 (by omega)
      · rw [if_neg hq9, if_neg (fun z => hq9 z.1)]
        have b := d4 q q0 q1
        have b' := o3 q q0 q1
        refine ⟨b.1, fun j j0 j1 => ?_⟩
        rw [u54, if_neg (by omega), zCell_94, if_neg (by omega)]
        exact b.2 j j0 j1
    · rw [zCell_o _ _ _ _ 97 _ (by omega)] at j1
      rw [zCell_o _ _ _ _ 96 _ (by omega)]
      exact w8 q q0 q1 j j0 j1
    · rw [c25]; exact num υ (fun c k b1 b2 => hu c k (by omega) (by omega) (by omega) (by omega))
    · rw [c10] at k1 ⊢
      by_cases hko : k = o
      · rw [hko, v48]
        refine isM_congr (isM_set (d7 o (by omega) (by omega)) i (by omega)) (fun a a0 a1 => ?_)
        rw [zCell_95]
        by_cases ha : a = i
        · subst ha
          rw [if_pos ⟨rfl, hroom⟩]
          have z1 : 0 < S 95 (6 * a + o) + 1 := by omega
          simp [hi.2, z1]
        · rw [if_neg (by omega)]
          have z1 : ¬ i = a := fun z => ha z.symm
          simp [z1]
      · rw [u48 k hko]
        refine isM_congr (d7 k k0 k1) (fun a a0 a1 => ?_)
        rw [q95 _ (by omega)]
end MW
