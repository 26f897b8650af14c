section ME
variable {l : Launch} {G : gG}
theorem c_copy (a o : Nat) (ha : a = 1 ∨ a = 8 ∨ a = 14 ∨ a = 20) (ho : o = 1 ∨ o = 8 ∨ o = 14 ∨ o = 20) (hne : a ≠ o) (σ : gS) (hb : ∀ i, 0 ≤ i → i < 600 → -128 ≤ gI σ (o + 1) i ∧ gI σ (o + 1) i < 128) (Q : gS → Prop)
    (h : ∀ τ : gS, (∀ c i, c < a ∨ a + 5 < c → gI τ c i = gI σ c i) → (∀ j, 1 ≤ j → j ≤ 3 → gI τ a j = gI σ o j) → (∀ i, 0 ≤ i → i < 600 → gI τ (a + 1) i = gI σ (o + 1) i) → (∀ i, 0 ≤ i → i < 3 → gI τ (a + 2) i = gI σ (o + 2) i) → (∀ i, 0 ≤ i → i < 8 → gI τ (a + 3) i = gI σ (o + 3) i) → (∀ i, 0 ≤ i → i < 640 → gI τ (a + 4) i = gI σ (o + 4) i) → (∀ i, 0 ≤ i → i < 4 → gI τ (a + 5) i = gI σ (o + 5) i) → Q τ) : eX10_copy l G a o σ Q := by
  refine vX10_copy a o ha ho σ Q ⟨by decide, fun i i0 i1 => hb i i0 (by omega), fun σ3 e3 σ5 e5 σ7 e7 σ9 e9 => ⟨by decide, fun σ11 e11 => ⟨by decide, fun σ13 e13 => ⟨by decide, fun σ15 e15 => ⟨by decide, fun σ17 e17 => ?_⟩⟩⟩⟩⟩
  have hN : ∀ c i, c < a ∨ a + 5 < c → gI σ17 c i = gI σ c i := by
    intro c i hc
    rw [e17, cpI_at, if_neg (by omega), e15, cpI_at, if_neg (by omega), e13, cpI_at, if_neg (by omega), e11, cpI_at, if_neg (by omega), e9, sI_at, if_neg (by omega), e7, sI_at, if_neg (by omega), e5, sI_at, if_neg (by omega), e3, cpI_at, if_neg (by omega)]
  have hO3 : ∀ c i, c < a ∨ a + 5 < c → gI σ3 c i = gI σ c i := by
    intro c i hc
    rw [e3, cpI_at, if_neg (by omega)]
  have hO5 : ∀ c i, c < a ∨ a + 5 < c → gI σ5 c i = gI σ c i := by
    intro c i hc
    rw [e5, sI_at, if_neg (by omega), e3, cpI_at, if_neg (by omega)]
  have hO7 : ∀ c i, c < a ∨ a + 5 < c → gI σ7 c i = gI σ c i := by
    intro c i hc
    rw [e7, sI_at, if_neg (by omega), e5, sI_at, if_neg (by omega), e3, cpI_at, if_neg (by omega)]
  have hO9 : ∀ c i, c < a ∨ a + 5 < c → gI σ9 c i = gI σ c i := by
    intro c i hc
    rw [e9, sI_at, if_neg (by omega), e7, sI_at, if_neg (by omega), e5, sI_at, if_neg (by omega), e3, cpI_at, if_neg (by omega)]
  have hO11 : ∀ c i, c < a ∨ a + 5 < c → gI σ11 c i = gI σ c i := by
    intro c i hc
    rw [e11, cpI_at, if_neg (by omega), e9, sI_at, if_neg (by omega), e7, sI_at, if_neg (by omega), e5, sI_at, if_neg (by omega), e3, cpI_at, if_neg (by omega)]
  have hO13 : ∀ c i, c < a ∨ a + 5 < c → gI σ13 c i = gI σ c i := by
    intro c i hc
    rw [e13, cpI_at, if_neg (by omega), e11, cpI_at, if_neg (by omega), e9, sI_at, if_neg (by omega), e7, sI_at, if_neg (by omega), e5, sI_at, if_neg (by omega), e3, cpI_at, if_neg (by omega)]
  have hO15 : ∀ c i, c < a ∨ a + 5 < c → gI σ15 c i = gI σ c i := by
    intro c i hc
    rw [e15, cpI_at, if_neg (by omega), e13, cpI_at, if_neg (by omega), e11, cpI_at, if_neg (by omega), e9, sI_at, if_neg (by omega), e7, sI_at, if_neg (by omega), e5, sI_at, if_neg (by omega), e3, cpI_at, if_neg (by omega)]
  have hO17 : ∀ c i, c < a ∨ a + 5 < c → gI σ17 c i = gI σ c i := by
    intro c i hc
    rw [e17, cpI_at, if_neg (by omega), e15, cpI_at, if_neg (by omega), e13, cpI_at, if_neg (by omega), e11, cpI_at, if_neg (by omega), e9, sI_at, if_neg (by omega), e7, sI_at, if_neg (by omega), e5, sI_at, if_neg (by omega), e3, cpI_at, if_neg (by omega)]
  refine h σ17 hN (fun j j1 j2 => ?_) (fun i i0 i1 => ?_) (fun i i0 i1 => ?_) (fun i i0 i1 => ?_) (fun i i0 i1 => ?_) (fun i i0 i1 => ?_)
  · have hj : j = 1 ∨ j = 2 ∨ j = 3 := by omega
    rcases hj with rfl | rfl | rfl
    · rw [e17, cpI_at, if_neg (by omega), e15, cpI_at, if_neg (by omega), e13, cpI_at, if_neg (by omega), e11, cpI_at, if_neg (by omega), e9, sI_at, if_neg (by omega), e7, sI_at, if_neg (by omega), e5, sI_eq, hO3 _ _ (by omega)]
    · rw [e17, cpI_at, if_neg (by omega), e15, cpI_at, if_neg (by omega), e13, cpI_at, if_neg (by omega), e11, cpI_at, if_neg (by omega), e9, sI_at, if_neg (by omega), e7, sI_eq, hO5 _ _ (by omega)]
    · rw [e17, cpI_at, if_neg (by omega), e15, cpI_at, if_neg (by omega), e13, cpI_at, if_neg (by omega), e11, cpI_at, if_neg (by omega), e9, sI_eq, hO7 _ _ (by omega)]
  · rw [e17, cpI_at, if_neg (by omega), e15, cpI_at, if_neg (by omega), e13, cpI_at, if_neg (by omega), e11, cpI_at, if_neg (by omega), e9, sI_at, if_neg (by omega), e7, sI_at, if_neg (by omega), e5, sI_at, if_neg (by omega), e3, cpI_at, if_pos ⟨rfl, by omega, by omega⟩, show (0 : Int) + (i - 0) = i by omega]
  · rw [e17, cpI_at, if_neg (by omega), e15, cpI_at, if_neg (by omega), e13, cpI_at, if_neg (by omega), e11, cpI_at, if_pos ⟨rfl, by omega, by omega⟩, show (0 : Int) + (i - 0) = i by omega, hO9 _ _ (by omega)]
  · rw [e17, cpI_at, if_neg (by omega), e15, cpI_at, if_neg (by omega), e13, cpI_at, if_pos ⟨rfl, by omega, by omega⟩, show (0 : Int) + (i - 0) = i by omega, hO11 _ _ (by omega)]
  · rw [e17, cpI_at, if_neg (by omega), e15, cpI_at, if_pos ⟨rfl, by omega, by omega⟩, show (0 : Int) + (i - 0) = i by omega, hO13 _ _ (by omega)]
  · rw [e17, cpI_at, if_pos ⟨rfl, by omega, by omega⟩, show (0 : Int) + (i - 0) = i by omega, hO15 _ _ (by omega)]
theorem image_loop (x : Int) (hx : 0 ≤ x ∧ x < 3) (σ0 : gS) (Q : Int → gS → Prop) (hQ : ∀ τ : gS, (∀ c i, c ≠ 89 → gI τ c i = gI σ0 c i) → (∀ i, ¬ (926 * (x + 1) ≤ i ∧ i < 926 * (x + 1) + 926) → gI τ 89 i = gI σ0 89 i) → (∀ i, 0 ≤ i → i < 926 → gI τ 89 (926 * (x + 1) + i) = gI σ0 89 i) → Q 1 τ) : kX12_image_20 l G x 0 σ0 Q := by
  refine gloopI (α := gS) 0 926 (fun n τ => n ≤ 926 ∧ (∀ c i, c ≠ 89 → gI τ c i = gI σ0 c i) ∧ (∀ i, ¬ (926 * (x + 1) ≤ i ∧ i < 926 * (x + 1) + n) → gI τ 89 i = gI σ0 89 i) ∧ (∀ i, 0 ≤ i → i < n → gI τ 89 (926 * (x + 1) + i) = gI σ0 89 i)) (fun n τ => kX12_image_20 l G x n τ Q) ?_ ?_ 0 σ0 (by omega) ⟨by omega, fun _ _ _ => rfl, fun _ _ => rfl, fun i h0 h1 => by omega⟩
  · intro n τ h0 h1 ⟨q0, q1, q2, q3⟩ ih
    refine vX12_image_20 x n ⟨by omega, by omega⟩ ⟨by omega, by omega⟩ τ Q ⟨fun h => by omega, fun _ => ⟨by omega, by omega, fun τ1 e1 => ih τ1 ⟨by omega, fun c i hc => ?_, fun i hi => ?_, fun i i0 i1 => ?_⟩⟩⟩
    · rw [e1, sI_ne hc]; exact q1 c i hc
    · rw [e1, sI_nei (by omega)]; exact q2 i (by omega)
    · by_cases hi : i = n
      · rw [hi, e1, sI_eq]; exact q2 n (by omega)
      · rw [e1, sI_nei (by omega)]; exact q3 i i0 (by omega)
  · intro n τ h0 ⟨q0, q1, q2, q3⟩
    have hn : n = 926 := by omega
    subst hn
    exact vX12_image_20 x 926 ⟨by omega, by omega⟩ (by decide) τ Q ⟨fun _ => hQ τ q1 q2 q3, fun h => by omega⟩
theorem again_loop (x : Int) (hx : 0 ≤ x ∧ x < 3) (σ0 : gS) (Q : Int → gS → Prop) (hQ : ∀ τ : gS, (∀ c i, c ≠ 89 → gI τ c i = gI σ0 c i) → (∀ i, ¬ (0 ≤ i ∧ i < 926) → gI τ 89 i = gI σ0 89 i) → (∀ i, 0 ≤ i → i < 926 → gI τ 89 i = gI σ0 89 (926 * (x + 1) + i)) → Q 1 τ) : kX12_again_22 l G x 0 σ0 Q := by
  refine gloopI (α := gS) 0 926 (fun n τ => n ≤ 926 ∧ (∀ c i, c ≠ 89 → gI τ c i = gI σ0 c i) ∧ (∀ i, ¬ (0 ≤ i ∧ i < n) → gI τ 89 i = gI σ0 89 i) ∧ (∀ i, 0 ≤ i → i < n → gI τ 89 i = gI σ0 89 (926 * (x + 1) + i))) (fun n τ => kX12_again_22 l G x n τ Q) ?_ ?_ 0 σ0 (by omega) ⟨by omega, fun _ _ _ => rfl, fun _ _ => rfl, fun i h0 h1 => by omega⟩
  · intro n τ h0 h1 ⟨q0, q1, q2, q3⟩ ih
    refine vX12_again_22 x n ⟨by omega, by omega⟩ ⟨by omega, by omega⟩ τ Q ⟨fun h => by omega, fun _ => ⟨by omega, by omega, fun τ1 e1 => ih τ1 ⟨by omega, fun c i hc => ?_, fun i hi => ?_, fun i i0 i1 => ?_⟩⟩⟩
    · rw [e1, sI_ne hc]; exact q1 c i hc
    · rw [e1, sI_nei (by omega)]; exact q2 i (by omega)
    · by_cases hi : i = n
      · rw [hi, e1, sI_eq]; exact q2 _ (by omega)
      · rw [e1, sI_nei (by omega)]; exact q3 i i0 (by omega)
  · intro n τ h0 ⟨q0, q1, q2, q3⟩
    have hn : n = 926 := by omega
    subst hn
    exact vX12_again_22 x 926 ⟨by omega, by omega⟩ (by decide) τ Q ⟨fun _ => hQ τ q1 q2 q3, fun h => by omega⟩
theorem gimg_at {x : Int} {t : Nat} (h : gimg[x.toNat]? = some t) (hx : 0 ≤ x ∧ x < 3) : (t : Int) = 8 + 6 * x ∧ (t = 8 ∨ t = 14 ∨ t = 20) := by
  have : x = 0 ∨ x = 1 ∨ x = 2 := by omega
  rcases this with rfl | rfl | rfl <;> (cases h; omega)
theorem p_image (x : Int) (rx : gR x) (σ : gS) (hI : tInv σ) : eX11_image l G x σ (fun r τ => (r = 0 ∨ r = 1) → eX12_image l G x τ (fun r' υ => (r' = 0 ∨ r' = 1) → r = r' ∧ tInv υ)) := by
  have B : ¬ (0 ≤ x ∧ x < 3) → eX12_image l G x σ (fun r' υ => (r' = 0 ∨ r' = 1) → 0 = r' ∧ tInv υ) := fun hx =>
    vX12_image x rx σ _ (c_isIn x 0 2 rx (by decide) (by decide) σ _ (fun r hr _ => ⟨fun e => by omega, fun _ _ => ⟨rfl, hI⟩⟩))
  refine vX11_image x rx σ _ ⟨fun h _ => B (by omega), fun h0 => ⟨fun h1 => ⟨by omega, fun t ht => ?_⟩, fun h _ => B (by omega)⟩⟩
  obtain ⟨t1, t2⟩ := gimg_at ht ⟨h0, h1⟩
  obtain ⟨k2, k3, k4⟩ := tTp0 hI
  refine c_copy t 1 (by omega) (Or.inl rfl) (by omega) σ (fun i i0 i1 => ⟨(k4 i i0 i1).1, (k4 i i0 i1).2.1⟩) _ (fun σ1 n1 n2 n3 n4 n5 n6 n7 σ2 e2 _ => ?_)
  refine vX12_image x rx σ2 _ (c_isIn x 0 2 rx (by decide) (by decide) σ2 _ (fun r hr _ => ⟨fun e => ⟨by omega, fun σ3 e3 => image_loop x ⟨h0, h1⟩ σ3 _ (fun τ a1 a2 a3 _ => ⟨rfl, ?_⟩)⟩, fun e => by omega⟩))
  have g1 : ∀ c i, c ≠ 89 → c ≠ 90 → c ≠ 26 → (c < t ∨ t + 5 < c) → gI τ c i = gI σ c i := by
    intro c i c1 c2 c3 c4
    rw [a1 c i c1, e3, sI_ne c2, e2, sI_ne c3, n1 c i c4]
  have g2 : ∀ c i, t ≤ c → c ≤ t + 5 → gI τ c i = gI σ1 c i := by
    intro c i c1 c2
    rw [a1 c i (by omega), e3, sI_ne (by omega), e2, sI_ne (by omega)]
  have g3 : ∀ i, gI σ3 89 i = gI σ 89 i := fun i => by rw [e3, sI_ne (by omega), e2, sI_ne (by omega), n1 _ _ (by omega)]
  refine ⟨tRel.keep (fun c c1 c2 i => g1 c i (by omega) (by omega) (by omega) (by omega)) (fun i i1 i2 => by rw [a2 i (by omega), g3]) hI.1, fun j hj => ?_⟩
  obtain ⟨m1, m2, m3⟩ := hI.2 j hj
  by_cases hjx : (j : Int) = x
  · have f1 : gI τ 26 j = 1 := by rw [a1 _ _ (by omega), e3, sI_ne (by omega), e2, hjx, sI_eq]
    have f2 : gI τ 90 j = 1 := by rw [a1 _ _ (by omega), e3, hjx, sI_eq]
    refine ⟨by rw [f1, f2], Or.inr f2, fun _ => ?_⟩
    have hjt : 8 + 6 * j = t := by omega
    rw [hjt]
    refine tRel.move (σ := σ) (a := 1) (B := 0) (fun q q1 q2 => ?_) (fun i i0 i1 => ?_) (fun i i0 i1 => ?_) (fun i i0 i1 => ?_) (fun i i0 i1 => ?_) (fun i i0 i1 => ?_) (fun i q i0 i1 i2 => ?_) hI.1
    · rw [g2 _ _ (by omega) (by omega)]; exact n2 q q1 q2
    · rw [g2 _ _ (by omega) (by omega)]; exact n3 i i0 i1
    · rw [g2 _ _ (by omega) (by omega)]; exact n4 i i0 i1
    · rw [g2 _ _ (by omega) (by omega)]; exact n5 i i0 i1
    · rw [g2 _ _ (by omega) (by omega)]; exact n6 i i0 i1
    · rw [g2 _ _ (by omega) (by omega)]; exact n7 i i0 i1
    · have h9 := a3 (i - 926 * (x + 1)) (by omega) (by omega)
      rw [show 926 * (x + 1) + (i - 926 * (x + 1)) = i by omega, g3] at h9
      rw [h9]; congr 1; omega
  · have f1 : gI τ 26 j = gI σ 26 j := by rw [a1 _ _ (by omega), e3, sI_ne (by omega), e2, sI_nei hjx, n1 _ _ (by omega)]
    have f2 : gI τ 90 j = gI σ 90 j := by rw [a1 _ _ (by omega), e3, sI_nei hjx, e2, sI_ne (by omega), n1 _ _ (by omega)]
    rw [f1, f2]
    exact ⟨m1, m2, fun e => tRel.keep (fun c c1 c2 i => g1 c i (by omega) (by omega) (by omega) (by omega)) (fun i i1 i2 => by rw [a2 i (by omega), g3]) (m3 e)⟩
theorem p_again (x : Int) (rx : gR x) (σ : gS) (hI : tInv σ) : eX11_again l G x σ (fun r τ => (r = 0 ∨ r = 1) → eX12_again l G x τ (fun r' υ => (r' = 0 ∨ r' = 1) → r = r' ∧ tInv υ)) := by
  have B : (¬ (0 ≤ x ∧ x < 3) ∨ gI σ 26 x = 0) → eX12_again l G x σ (fun r' υ => (r' = 0 ∨ r' = 1) → 0 = r' ∧ tInv υ) := fun hx =>
    vX12_again x rx σ _ (c_isIn x 0 2 rx (by decide) (by decide) σ _ (fun r hr _ => ⟨fun _ _ => ⟨rfl, hI⟩, fun e => ⟨by omega, fun h => absurd (show gI σ 90 x = 0 by
      have := (hI.2 x.toNat (by omega)).1
      rw [show ((x.toNat : Nat) : Int) = x by omega] at this
      rw [← this]; omega) h, fun _ _ => ⟨rfl, hI⟩⟩⟩))
  refine vX11_again x rx σ _ ⟨fun h _ => B (by omega), fun h0 => ⟨fun h _ => B (by omega), fun h1 => ⟨by omega, fun h2 t ht => ?_, fun h _ => B (Or.inr h)⟩⟩⟩
  obtain ⟨t1, t2⟩ := gimg_at ht ⟨h0, h1⟩
  obtain ⟨m1, m2, m3⟩ := hI.2 x.toNat (by omega)
  rw [show ((x.toNat : Nat) : Int) = x by omega] at m1 m2 m3
  have m4 := m3 (by omega)
  rw [show 8 + 6 * x.toNat = t by omega] at m4
  obtain ⟨mx, mk2, mk3, mk4⟩ := id m4
  refine c_copy 1 t (Or.inl rfl) (by omega) (by omega) σ (fun i i0 i1 => ⟨(mk4 i i0 i1).1, (mk4 i i0 i1).2.1⟩) _ (fun σ1 n1 n2 n3 n4 n5 n6 n7 _ => ?_)
  refine vX12_again x rx σ1 _ (c_isIn x 0 2 rx (by decide) (by decide) σ1 _ (fun r hr _ => ⟨fun e => by omega, fun e => ⟨by omega, fun _ => again_loop x ⟨h0, h1⟩ σ1 _ (fun τ a1 a2 a3 _ => ⟨rfl, ?_⟩), fun h => ?_⟩⟩))
  · refine tInv.told hI (fun c c1 c2 i => by rw [a1 _ _ (by omega), n1 _ _ (by omega)]) (fun i i1 => by rw [a2 i (by omega), n1 _ _ (by omega)]) (fun i => by rw [a1 _ _ (by omega), n1 _ _ (by omega)]) ?_
    refine tRel.move (σ := σ) (a := t) (B := 926 * ((x.toNat : Nat) + 1)) (fun q q1 q2 => ?_) (fun i i0 i1 => ?_) (fun i i0 i1 => ?_) (fun i i0 i1 => ?_) (fun i i0 i1 => ?_) (fun i i0 i1 => ?_) (fun i q i0 i1 i2 => ?_) (by rw [show ((x.toNat : Nat) : Int) = x by omega]; exact m4)
    · rw [a1 _ _ (by omega)]; exact n2 q q1 q2
    · rw [a1 _ _ (by omega)]; exact n3 i i0 i1
    · rw [a1 _ _ (by omega)]; exact n4 i i0 i1
    · rw [a1 _ _ (by omega)]; exact n5 i i0 i1
    · rw [a1 _ _ (by omega)]; exact n6 i i0 i1
    · rw [a1 _ _ (by omega)]; exact n7 i i0 i1
    · rw [a3 i (by omega) (by omega), n1 _ _ (by omega)]; congr 1; omega
  · rw [n1 _ _ (by omega)] at h; omega
end ME
