section MD
variable {l : Launch} {G : gG}
/-- a line's word, by the class: r -/
theorem c_tellLine (s x2 x3 x4 n : Int) (hs : s = 1 ∨ s = 2) (r2 : gR x2) (r3 : gR x3) (r4 : gR x4) (hn : n = 2 ∨ n = 3) (σ : gS) (hI : tInv σ) (Q : Int → gS → Prop)
    (h : ∀ v, (¬ (0 ≤ x2 ∧ x2 < gI σ 3 s ∧ 0 ≤ x4 ∧ x4 ≤ n) → v = -2) → (0 ≤ x2 ∧ x2 < gI σ 3 s ∧ 0 ≤ x4 ∧ x4 ≤ n → (x3 = -1 → x4 = 0 → v = gI σ 6 ((s - 1) * 2 + x2)) ∧ (x3 = -1 → ¬ x4 = 0 → v = -2) ∧ (¬ x3 = -1 → 0 ≤ x3 ∧ x3 < gI σ 6 ((s - 1) * 2 + x2) → v = gI σ 5 (((((s - 1) * 2 + x2) * 40 + x3) * 4) + x4)) ∧ (¬ x3 = -1 → ¬ (0 ≤ x3 ∧ x3 < gI σ 6 ((s - 1) * 2 + x2)) → v = -2)) → gR v → Q v σ) : eX11_tellLine l G s x2 x3 x4 n σ Q := by
  obtain ⟨k1, k5, k6, k7⟩ := tTx0 hI
  have b1 := k1 s (by omega) (by omega)
  have rs : gR s := ⟨by omega, by omega⟩
  have rn : gR n := ⟨by omega, by omega⟩
  refine vX11_tellLine s x2 x3 x4 n rs r2 r3 r4 rn σ _ (c_has s x2 rs r2 σ _ (fun r hr _ => ⟨fun e => h _ (fun _ => rfl) (fun q => by omega) (by decide), fun e => ⟨fun h1 => h _ (fun _ => rfl) (fun q => by omega) (by decide), fun h1 => ⟨fun h2 => ?_, fun h2 => h _ (fun _ => rfl) (fun q => by omega) (by decide)⟩⟩⟩))
  have hlc : gI σ 6 ((s - 1) * 2 + x2) ≤ 40 := by
    rcases hs with rfl | rfl
    · have q := k6 x2 (by omega) (by omega)
      rw [show ((1 : Int) - 1) * 2 + x2 = x2 by omega]; omega
    · have q := k7 x2 (by omega) (by omega)
      rw [show ((2 : Int) - 1) * 2 + x2 = 2 + x2 by omega]; omega
  refine vX10_lineCount s x2 rs r2 σ _ (vX10_placeOf s x2 rs r2 σ _ ⟨⟨by omega, by omega⟩, fun _ => ⟨by omega, fun rv => ⟨fun h3 => ⟨fun h4 => ?_, fun h4 => ⟨fun h5 => ?_, fun h5 => ?_⟩⟩, fun h3 v hv => ?_⟩⟩⟩)
  · exact h _ (fun q => by omega) (fun q => ⟨fun q1 => by omega, fun q1 => by omega, fun q1 q2 => by omega, fun _ _ => rfl⟩) (by decide)
  · refine vX10_line s x2 x3 x4 rs r2 r3 r4 σ _ (vX10_placeOf s x2 rs r2 σ _ ⟨⟨by omega, by omega⟩, fun _ => ⟨by omega, fun rr => h _ (fun q => by omega) (fun q => ⟨fun q1 => by omega, fun q1 => by omega, fun q1 q2 => rfl, fun q1 q2 => by omega⟩) rr⟩⟩)
  · exact h _ (fun q => by omega) (fun q => ⟨fun q1 => by omega, fun q1 => by omega, fun q1 q2 => by omega, fun _ _ => rfl⟩) (by decide)
  · refine h v (fun q => by omega) (fun q => ⟨fun q1 q2 => ?_, fun q1 q2 => ?_, fun q1 => by omega, fun q1 => by omega⟩) ?_
    · rw [hv, if_pos q2]
    · rw [hv, if_neg q2]
    · rw [hv]; split
      · exact rv
      · decide
theorem p_deed (x1 x2 x3 : Int) (r1 : gR x1) (r2 : gR x2) (r3 : gR x3) (σ : gS) (hI : tInv σ) : eX11_deed l G x1 x2 x3 σ (fun r τ => gR r → eX12_deed l G x1 x2 x3 τ (fun r' υ => gR r' → r = r' ∧ tInv υ)) := by
  obtain ⟨k1, k5, k6, k7⟩ := tTx0 hI
  have b1 := k1 1 (by omega) (by omega)
  refine vX11_deed x1 x2 x3 r1 r2 r3 σ _ (c_tellLine 1 x1 x2 x3 2 (Or.inl rfl) r1 r2 r3 (Or.inl rfl) σ hI _ (fun v hn hy rv _ _ => ?_))
  rw [show ((1 : Int) - 1) * 2 + x1 = x1 by omega] at hy
  refine vX12_deed x1 x2 x3 r1 r2 r3 σ _ (vX12_isTraffic x1 r1 σ _ (c_isOf 1 x1 (by decide) r1 σ (by decide) b1.2 _ (fun r hr _ => ⟨fun e => ?_, fun e _ => ⟨fun q => absurd q (by decide), fun _ _ => ⟨hn (by omega), hI⟩⟩⟩)))
  have q := k6 x1 (by omega) (by omega)
  refine c_placeOf 1 x1 (by decide) r1 (by omega) σ _ (fun _ σ1 e1 _ => ⟨fun _ => ?_, fun q => absurd q (by decide)⟩)
  rw [if_neg (by decide), if_pos rfl] at e1
  have f1 : gI σ1 88 14 = 618 + 121 * x1 := by rw [e1, sI_eq]
  have f2 : ∀ i, gI σ1 89 i = gI σ 89 i := fun i => by rw [e1, sI_ne (by decide)]
  have hI1 : tInv σ1 := by rw [e1]; exact tInv.same (tSame.set (by decide) (by decide) (by decide)) hI
  rw [f1, f2]
  refine ⟨fun h1 => ⟨by omega, ?_⟩, fun h1 => ⟨?_, fun w hw _ => ⟨?_, hI1⟩⟩⟩
  · refine c_isIn x2 0 _ r2 (by decide) ⟨by omega, by omega⟩ σ1 _ (fun a ha _ => ⟨fun e2 _ => ⟨?_, hI1⟩, fun e2 => ?_⟩)
    · by_cases h3 : 0 ≤ x3 ∧ x3 ≤ 2
      · exact (hy (by omega)).2.2.2 h1 (by omega)
      · exact hn (by omega)
    · refine c_isIn x3 0 2 r3 (by decide) (by decide) σ1 _ (fun b hb _ => ⟨?_, fun w hw _ => ⟨?_, hI1⟩⟩)
      · rw [f1]
        repeat (first | exact True.intro | apply And.intro | intro _ | omega)
      · rw [f1, f2] at hw
        rw [hw]
        split
        · exact hn (by omega)
        · rw [(hy (by omega)).2.2.1 h1 (by omega)]
          exact (q.2.2.2 x2 (by omega) (by omega)).1 x3 (by omega) (by omega)
  · repeat (first | exact True.intro | apply And.intro | intro _ | omega)
  · rw [hw]
    split
    · rw [(hy (by omega)).1 h1 (by omega)]; exact q.1
    · by_cases h3 : 0 ≤ x3 ∧ x3 ≤ 2
      · exact (hy (by omega)).2.1 h1 (by omega)
      · exact hn (by omega)
theorem p_fact (x1 x2 x3 : Int) (r1 : gR x1) (r2 : gR x2) (r3 : gR x3) (σ : gS) (hI : tInv σ) : eX11_fact l G x1 x2 x3 σ (fun r τ => gR r → eX12_fact l G x1 x2 x3 τ (fun r' υ => gR r' → r = r' ∧ tInv υ)) := by
  obtain ⟨k1, k5, k6, k7⟩ := tTx0 hI
  have b1 := k1 2 (by omega) (by omega)
  refine vX11_fact x1 x2 x3 r1 r2 r3 σ _ (c_tellLine 2 x1 x2 x3 3 (Or.inr rfl) r1 r2 r3 (Or.inr rfl) σ hI _ (fun v hn hy rv _ _ => ?_))
  rw [show ((2 : Int) - 1) * 2 + x1 = 2 + x1 by omega] at hy
  refine vX12_fact x1 x2 x3 r1 r2 r3 σ _ (vX12_isLog x1 r1 σ _ (c_isOf 2 x1 (by decide) r1 σ (by decide) b1.2 _ (fun r hr _ => ⟨fun e => ?_, fun e _ => ⟨fun q => absurd q (by decide), fun _ _ => ⟨hn (by omega), hI⟩⟩⟩)))
  have q := k7 x1 (by omega) (by omega)
  refine c_placeOf 2 x1 (by decide) r1 (by omega) σ _ (fun _ σ1 e1 _ => ⟨fun _ => ?_, fun q => absurd q (by decide)⟩)
  rw [if_neg (by decide), if_neg (by decide)] at e1
  have f1 : gI σ1 88 64 = 860 + 33 * x1 := by rw [e1, sI_eq]
  have f2 : ∀ i, gI σ1 89 i = gI σ 89 i := fun i => by rw [e1, sI_ne (by decide)]
  have hI1 : tInv σ1 := by rw [e1]; exact tInv.same (tSame.set (by decide) (by decide) (by decide)) hI
  rw [f1, f2]
  refine ⟨fun h1 => ⟨by omega, ?_⟩, fun h1 => ⟨?_, fun w hw _ => ⟨?_, hI1⟩⟩⟩
  · refine c_isIn x2 0 _ r2 (by decide) ⟨by omega, by omega⟩ σ1 _ (fun a ha _ => ⟨fun e2 _ => ⟨?_, hI1⟩, fun e2 => ?_⟩)
    · by_cases h3 : 0 ≤ x3 ∧ x3 ≤ 3
      · exact (hy (by omega)).2.2.2 h1 (by omega)
      · exact hn (by omega)
    · refine c_isIn x3 0 3 r3 (by decide) (by decide) σ1 _ (fun b hb _ => ⟨?_, fun w hw _ => ⟨?_, hI1⟩⟩)
      · rw [f1]
        repeat (first | exact True.intro | apply And.intro | intro _ | omega)
      · rw [f1, f2] at hw
        rw [hw]
        split
        · exact hn (by omega)
        · rw [(hy (by omega)).2.2.1 h1 (by omega)]
          exact (q.2.2.2 x2 (by omega) (by omega)).1 x3 (by omega) (by omega)
  · repeat (first | exact True.intro | apply And.intro | intro _ | omega)
  · rw [hw]
    split
    · rw [(hy (by omega)).1 h1 (by omega)]; exact q.1
    · by_cases h3 : 0 ≤ x3 ∧ x3 ≤ 3
      · exact (hy (by omega)).2.1 h1 (by omega)
      · exact hn (by omega)
end MD
