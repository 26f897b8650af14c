/-- the class' run without what went by -/
def CRb (σ : gS) (S : RS) : Prop :=
  (gI σ 32 3 = S 88 10 ∧ gI σ 32 4 = S 88 11 ∧ gI σ 32 5 = S 88 12 ∧ gI σ 45 0 = S 88 10) ∧
  (gI σ 41 0 = S 88 24 ∧ gI σ 33 0 = S 88 25 ∧ gI σ 32 7 = S 88 26 ∧ gI σ 32 8 = S 88 27 ∧ gI σ 32 9 = S 88 28 ∧ gI σ 32 10 = S 88 23) ∧
  (∀ o, 0 ≤ o → o < 6 → gI σ 51 o = S 98 o ∧ gI σ 55 o = S 97 o ∧ gI σ 46 o = S 92 o ∧ gI σ 47 o = S 93 o ∧ gI σ 57 o = zLeft S o) ∧
  (∀ q, 0 ≤ q → q < 36 → gI σ 53 q = S 95 q ∧ ∀ j, 0 ≤ j → j < S 95 q → gI σ 54 (9 * q + j) = S 94 (9 * q + j)) ∧
  (∀ i, 0 ≤ i → i < 6 → ∀ j, 0 ≤ j → j < S 97 i → gI σ 56 (9 * i + j) = S 96 (9 * i + j)) ∧
  (∀ k, 0 ≤ k → k < S 88 25 → gI σ 34 k = S 100 k ∧ gI σ 35 k = S 101 k ∧ gI σ 36 k = S 102 k ∧ gI σ 37 k = S 103 k ∧ gI σ 38 k = S 104 k ∧ gI σ 39 k = S 105 k ∧ gI σ 40 k = S 107 k) ∧
  (∀ o, 0 ≤ o → o < S 88 10 → isM (gI σ 48 o) (fun i => decide (i < S 88 10) && decide (0 < S 95 (6 * i + o))))
theorem CR_b {σ : gS} {S : RS} : CR σ S ↔ CRb σ S ∧ CRh σ S :=
  ⟨fun ⟨a1, a2, a3, a4, a5, a6, a7, a8⟩ => ⟨⟨a1, a2, a3, a4, a5, a6, a7⟩, a8⟩, fun ⟨⟨a1, a2, a3, a4, a5, a6, a7⟩, a8⟩ => ⟨a1, a2, a3, a4, a5, a6, a7, a8⟩⟩
section MS4
variable {l : Launch} {G : gG}
theorem c_moveUp (c n : Nat) (hc : gshL[c]? = some (.inl (n, .int))) (x1 x2 : Int) (h1 : 0 ≤ x1) (h2 : 0 ≤ x2) (h3 : x1 + x2 < n) (hn : n ≤ 10000) (σ : gS) (Q : gS → Prop)
    (h : ∀ τ, (∀ k, gI τ c k = if x1 ≤ k ∧ k < x1 + x2 then gI σ c (k + 1) else gI σ c k) → (∀ c' k, c' ≠ c → gI τ c' k = gI σ c' k) → Q τ) : eX8_moveUp l G c x1 x2 σ Q := by
  have r1 : gR x1 := ⟨by omega, by omega⟩
  have r2 : gR x2 := ⟨by omega, by omega⟩
  refine vX8_moveUp c x1 x2 n hc r1 r2 σ Q ?_
  refine gloopI (α := gS) x1 (x1 + x2) (fun x τ => x ≤ x1 + x2 ∧ (∀ k, gI τ c k = if x1 ≤ k ∧ k < x then gI σ c (k + 1) else gI σ c k) ∧ ∀ c' k, c' ≠ c → gI τ c' k = gI σ c' k) (fun x τ => kX8_moveUp_2 l G c x1 x2 x τ Q) ?_ ?_ x1 σ (by omega) ⟨by omega, fun k => by rw [if_neg (by omega)], fun _ _ _ => rfl⟩
  · rintro x τ x0 xx ⟨y0, y1, y2⟩ ih
    refine vX8_moveUp_2 c x1 x2 x n hc r1 r2 ⟨by omega, by omega⟩ τ Q ⟨⟨by omega, by omega⟩, fun e => by omega, fun _ => ⟨by omega, by omega, fun υ eu => ih υ ⟨by omega, fun k => ?_, fun c' k hc' => by rw [eu, sI_ne hc']; exact y2 c' k hc'⟩⟩⟩
    rw [eu, sI_at]
    by_cases q : k = x
    · rw [if_pos ⟨rfl, q⟩, if_pos (by omega), q, y1 (x + 1), if_neg (by omega)]
    · rw [if_neg (fun z => q z.2), y1 k]
      by_cases q2 : x1 ≤ k ∧ k < x
      · rw [if_pos q2, if_pos (by omega)]
      · rw [if_neg q2, if_neg (by omega)]
  · rintro x τ x0 ⟨y0, y1, y2⟩
    have hx : x = x1 + x2 := by omega
    subst hx
    exact vX8_moveUp_2 c x1 x2 _ n hc r1 r2 ⟨by omega, by omega⟩ τ Q ⟨⟨by omega, by omega⟩, fun _ => h τ y1 y2, fun e => by omega⟩
theorem c_endSending (i : Int) (hi : 0 ≤ i ∧ i < 6) (σ : gS) (S : RS) (W : Int → Bool) (hC : CRb σ S) (hF : OKF W S) (h97 : 0 < S 97 i) (h12 : S 88 12 ≤ 9) (hk : S 88 25 ≤ 360) (h107 : ∀ k, 0 ≤ k → k < S 88 25 → 0 ≤ S 107 k ∧ S 107 k ≤ 1000000) (h28 : 0 ≤ S 88 28 ∧ S 88 28 ≤ 1000000) (Q : gS → Prop)
    (h : ∀ τ, CRb τ (zE1 i S) → (∀ c k, c ≠ 38 → c ≠ 40 → c ≠ 55 → c ≠ 56 → c ≠ 57 → ¬ (c = 32 ∧ k = 9) → gI τ c k = gI σ c k) → Q τ) : eX8_endSending l G i σ Q := by
  obtain ⟨p1, ⟨s1, s2, s3, s4, s5, s6⟩, d3, d4, d5, d6, d7⟩ := hC
  have hf := hF i hi.1 hi.2
  have hf0 := hf.2.2.2 0 (by omega) (by omega)
  rw [Int.add_zero] at hf0
  have e56 : gI σ 56 (i * 9) = S 96 (9 * i) := by
    have := d5 i hi.1 hi.2 0 (by omega) h97
    rw [Int.add_zero] at this
    rw [show i * 9 = 9 * i by omega]; exact this
  have e57 : gI σ 57 i = S 106 (S 96 (9 * i)) := by
    rw [(d3 i hi.1 hi.2).2.2.2.2]; unfold zLeft; rw [if_neg (by omega)]
  have e40 : gI σ 40 (S 96 (9 * i)) = S 107 (S 96 (9 * i)) := (d6 _ hf0.1 hf0.2.1).2.2.2.2.2.2
  have b107 := h107 _ hf0.1 hf0.2.1
  have hz88 : ∀ k, k ≠ 28 → zE1 i S 88 k = S 88 k := fun k hk => zE1_88 i S k hk
  have o100 : zE1 i S 100 = S 100 := funext (fun k => zE1_o _ _ _ _ (by omega))
  have o101 : zE1 i S 101 = S 101 := funext (fun k => zE1_o _ _ _ _ (by omega))
  have o102 : zE1 i S 102 = S 102 := funext (fun k => zE1_o _ _ _ _ (by omega))
  have o103 : zE1 i S 103 = S 103 := funext (fun k => zE1_o _ _ _ _ (by omega))
  have o105 : zE1 i S 105 = S 105 := funext (fun k => zE1_o _ _ _ _ (by omega))
  have o106 : zE1 i S 106 = S 106 := funext (fun k => zE1_o _ _ _ _ (by omega))
  have o92 : zE1 i S 92 = S 92 := funext (fun k => zE1_o _ _ _ _ (by omega))
  have o93 : zE1 i S 93 = S 93 := funext (fun k => zE1_o _ _ _ _ (by omega))
  have o94 : zE1 i S 94 = S 94 := funext (fun k => zE1_o _ _ _ _ (by omega))
  have o95 : zE1 i S 95 = S 95 := funext (fun k => zE1_o _ _ _ _ (by omega))
  have o98 : zE1 i S 98 = S 98 := funext (fun k => zE1_o _ _ _ _ (by omega))
  -- other rows
  have r97 : ∀ k, k ≠ i → zE1 i S 97 k = S 97 k := fun k hk => zE1_97 _ _ _ hk
  have r96 : ∀ k j, k ≠ i → 0 ≤ k → k < 6 → 0 ≤ j → j < 9 → zE1 i S 96 (9 * k + j) = S 96 (9 * k + j) := fun k j h1 _ _ h3 h4 => zE1_96 _ _ (by omega) _ (by omega)
  have rl : ∀ k, k ≠ i → 0 ≤ k → k < 6 → zLeft (zE1 i S) k = zLeft S k := by
    intro k h1 h2 h3
    have := r96 k 0 h1 h2 h3 (by omega) (by omega)
    rw [Int.add_zero] at this
    unfold zLeft
    rw [r97 k h1, this, o106]
  refine vX8_endSending i ⟨by omega, by omega⟩ σ Q ?_
  rw [e56, e40]
  refine ⟨by omega, by omega, ⟨by omega, by omega⟩, fun σ1 e1 => ?_⟩
  have g57 : gI σ1 57 i = S 106 (S 96 (9 * i)) := by rw [e1, sI_ne (by omega)]; exact e57
  rw [g57]
  refine ⟨hi, fun hz => ?_, fun hz => ?_⟩
  · have zdef : zE1 i S = uS S 107 (S 96 (9 * i)) (S 107 (S 96 (9 * i)) + 1) := by unfold zE1; rw [if_neg hz]
    refine h σ1 ?_ (fun c k _ c2 _ _ _ _ => by rw [e1, sI_ne c2])
    have fr : ∀ c k, c ≠ 40 → gI σ1 c k = gI σ c k := fun c k hc => by rw [e1, sI_ne hc]
    have l1 : zLeft (zE1 i S) i = zLeft S i := by rw [zdef]; unfold zLeft; rw [uS_ne (by omega), uS_ne (by omega), uS_ne (by omega)]
    have all97 : zE1 i S 97 = S 97 := by rw [zdef]; funext k; exact uS_ne (by omega)
    have all96 : zE1 i S 96 = S 96 := by rw [zdef]; funext k; exact uS_ne (by omega)
    have all104 : zE1 i S 104 = S 104 := by rw [zdef]; funext k; exact uS_ne (by omega)
    have z28 : zE1 i S 88 28 = S 88 28 := by rw [zdef, uS_ne (by omega)]
    unfold CRb
    rw [hz88 10 (by omega), hz88 11 (by omega), hz88 12 (by omega), hz88 23 (by omega), hz88 24 (by omega), hz88 25 (by omega), hz88 26 (by omega), hz88 27 (by omega), z28, all97, all96, all104, o92, o93, o94, o95, o98, o100, o101, o102, o103, o105]
    rw [fr 32 3 (by omega), fr 32 4 (by omega), fr 32 5 (by omega), fr 45 0 (by omega), fr 41 0 (by omega), fr 33 0 (by omega), fr 32 7 (by omega), fr 32 8 (by omega), fr 32 9 (by omega), fr 32 10 (by omega)]
    refine ⟨p1, ⟨s1, s2, s3, s4, s5, s6⟩, fun o o0 o1 => ?_, fun q q0 q1 => ?_, fun k k0 k1 j j0 j1 => ?_, fun k k0 k1 => ?_, fun o o0 o1 => ?_⟩
    · rw [fr 51 _ (by omega), fr 55 _ (by omega), fr 46 _ (by omega), fr 47 _ (by omega), fr 57 _ (by omega)]
      have : zLeft (zE1 i S) o = zLeft S o := by
        by_cases q : o = i
        · rw [q]; exact l1
        · exact rl o q o0 o1
      rw [this]; exact d3 o o0 o1
    · rw [fr 53 _ (by omega)]
      refine ⟨(d4 q q0 q1).1, fun j j0 j1 => ?_⟩
      rw [fr 54 _ (by omega)]; exact (d4 q q0 q1).2 j j0 j1
    · rw [fr 56 _ (by omega)]; exact d5 k k0 k1 j j0 j1
    · rw [fr 34 _ (by omega), fr 35 _ (by omega), fr 36 _ (by omega), fr 37 _ (by omega), fr 38 _ (by omega), fr 39 _ (by omega), zdef, e1, sI_at, uS_at]
      obtain ⟨c1, c2, c3, c4, c5, c6, c7⟩ := d6 k k0 k1
      refine ⟨c1, c2, c3, c4, c5, c6, ?_⟩
      by_cases q : k = S 96 (9 * i)
      · rw [if_pos ⟨rfl, q⟩, if_pos ⟨rfl, q⟩]
      · rw [if_neg (fun z => q z.2), if_neg (fun z => q z.2)]; exact c7
    · rw [fr 48 _ (by omega)]; exact d7 o o0 o1
  · have zdef : zE1 i S = zMv 96 (9 * i) (S 97 i - 1).toNat (uS (uS (uS (uS S 107 (S 96 (9 * i)) (S 107 (S 96 (9 * i)) + 1)) 104 (S 96 (9 * i)) (S 88 24)) 88 28 (S 88 28 + 1)) 97 i (S 97 i - 1)) := by unfold zE1; rw [if_pos hz]
    intro σ2 e2
    have k41 : gI σ1 41 0 = S 88 24 := by rw [e1, sI_ne (by omega)]; exact s1
    rw [k41] at e2
    have k9 : gI σ2 32 9 = S 88 28 := by rw [e2, sI_ne (by omega), e1, sI_ne (by omega)]; exact s5
    rw [k9]
    refine ⟨⟨by omega, by omega⟩, fun σ3 e3 => ?_⟩
    have k55 : gI σ3 55 i = S 97 i := by rw [e3, sI_ne (by omega), e2, sI_ne (by omega), e1, sI_ne (by omega)]; exact (d3 i hi.1 hi.2).2.1
    rw [k55]
    refine ⟨⟨by omega, by omega⟩, fun σ4 e4 => ?_⟩
    have k55' : gI σ4 55 i = S 97 i - 1 := by rw [e4, sI_eq]
    rw [k55']
    refine c_moveUp 56 54 (by decide) (i * 9) (S 97 i - 1) (by omega) (by omega) (by omega) (by omega) σ4 _ (fun σ5 m1 m2 => ?_)
    have fr4 : ∀ c k, c ≠ 38 → c ≠ 40 → c ≠ 55 → ¬ (c = 32 ∧ k = 9) → gI σ4 c k = gI σ c k := fun c k c1 c2 c3 c4 => by rw [e4, sI_ne c3, e3, sI_at, if_neg c4, e2, sI_ne c1, e1, sI_ne c2]
    have k55'' : gI σ5 55 i = S 97 i - 1 := by rw [m2 _ _ (by omega)]; exact k55'
    have row : ∀ j, 0 ≤ j → j < S 97 i - 1 → gI σ5 56 (9 * i + j) = S 96 (9 * i + (j + 1)) := by
      intro j j0 j1
      rw [m1, if_pos (by omega), fr4 _ _ (by omega) (by omega) (by omega) (by omega), show 9 * i + j + 1 = 9 * i + (j + 1) by omega]
      exact d5 i hi.1 hi.2 (j + 1) (by omega) (by omega)
    rw [k55'']
    have hd : ¬ S 97 i - 1 = 0 → gI σ5 56 (i * 9) = S 96 (9 * i + 1) := fun z => by
      have := row 0 (by omega) (by omega)
      rw [Int.add_zero, show 9 * i + (0 + 1) = 9 * i + 1 by omega] at this
      rw [show i * 9 = 9 * i by omega]; exact this
    have h1' : ¬ S 97 i - 1 = 0 → 0 ≤ S 96 (9 * i + 1) ∧ S 96 (9 * i + 1) < S 88 25 ∧ S 106 (S 96 (9 * i + 1)) = S 101 (S 96 (9 * i + 1)) := fun z => by
      have b := hf.2.2.2 1 (by omega) (by omega)
      exact ⟨b.1, b.2.1, (b.2.2.2.2.2.2 (by omega)).1⟩
    refine ⟨⟨fun z => ⟨by rw [hd z]; have := h1' z; omega, True.intro⟩, fun _ => True.intro⟩, fun v hv σ6 e6 => ?_⟩
    have z97 : zE1 i S 97 i = S 97 i - 1 := by rw [zdef, zMv_o _ _ _ _ _ _ (by omega), uS_eq]
    have z96 : ∀ j, 0 ≤ j → j < S 97 i - 1 → zE1 i S 96 (9 * i + j) = S 96 (9 * i + (j + 1)) := by
      intro j j0 j1
      rw [zdef, zMv_c, if_pos (by omega), uS_ne (by omega), uS_ne (by omega), uS_ne (by omega), uS_ne (by omega), show 9 * i + j + 1 = 9 * i + (j + 1) by omega]
    have z28 : zE1 i S 88 28 = S 88 28 + 1 := by rw [zdef, zMv_o _ _ _ _ _ _ (by omega), uS_ne (by omega), uS_eq]
    have z104 : ∀ k, zE1 i S 104 k = if k = S 96 (9 * i) then S 88 24 else S 104 k := fun k => by
      rw [zdef, zMv_o _ _ _ _ _ _ (by omega), uS_ne (by omega), uS_ne (by omega), uS_at]
      by_cases q : k = S 96 (9 * i)
      · rw [if_pos ⟨rfl, q⟩, if_pos q]
      · rw [if_neg (fun z => q z.2), if_neg q, uS_ne (by omega)]
    have z107 : ∀ k, zE1 i S 107 k = if k = S 96 (9 * i) then S 107 (S 96 (9 * i)) + 1 else S 107 k := fun k => by
      rw [zdef, zMv_o _ _ _ _ _ _ (by omega), uS_ne (by omega), uS_ne (by omega), uS_ne (by omega), uS_at]
      by_cases q : k = S 96 (9 * i)
      · rw [if_pos ⟨rfl, q⟩, if_pos q]
      · rw [if_neg (fun z => q z.2), if_neg q]
    have fr : ∀ c k, c ≠ 38 → c ≠ 40 → c ≠ 55 → c ≠ 56 → c ≠ 57 → ¬ (c = 32 ∧ k = 9) → gI σ6 c k = gI σ c k := fun c k c1 c2 c3 c4 c5 c6 => by rw [e6, sI_ne c5, m2 _ _ c4]; exact fr4 c k c1 c2 c3 c6
    refine h σ6 ?_ fr
    have hleft : v = zLeft (zE1 i S) i := by
      rw [hv]
      unfold zLeft
      rw [z97, o106]
      by_cases q : S 97 i - 1 = 0
      · rw [if_pos q, if_pos q]
      · have a := h1' q
        have b := z96 0 (by omega) (by omega)
        rw [Int.add_zero, show 9 * i + (0 + 1) = 9 * i + 1 by omega] at b
        rw [if_neg q, if_neg q, hd q, b, a.2.2, m2 _ _ (by omega), fr4 _ _ (by omega) (by omega) (by omega) (by omega)]
        exact (d6 _ a.1 a.2.1).2.1
    unfold CRb
    rw [hz88 10 (by omega), hz88 11 (by omega), hz88 12 (by omega), hz88 23 (by omega), hz88 24 (by omega), hz88 25 (by omega), hz88 26 (by omega), hz88 27 (by omega), z28, o92, o93, o94, o95, o98, o100, o101, o102, o103, o105]
    rw [fr 32 3 (by omega) (by omega) (by omega) (by omega) (by omega) (by omega), fr 32 4 (by omega) (by omega) (by omega) (by omega) (by omega) (by omega), fr 32 5 (by omega) (by omega) (by omega) (by omega) (by omega) (by omega), fr 45 0 (by omega) (by omega) (by omega) (by omega) (by omega) (by omega), fr 41 0 (by omega) (by omega) (by omega) (by omega) (by omega) (by omega), fr 33 0 (by omega) (by omega) (by omega) (by omega) (by omega) (by omega), fr 32 7 (by omega) (by omega) (by omega) (by omega) (by omega) (by omega), fr 32 8 (by omega) (by omega) (by omega) (by omega) (by omega) (by omega), fr 32 10 (by omega) (by omega) (by omega) (by omega) (by omega) (by omega)]
    refine ⟨p1, ⟨s1, s2, s3, s4, ?_, s6⟩, fun o o0 o1 => ?_, fun q q0 q1 => ?_, fun k k0 k1 j j0 j1 => ?_, fun k k0 k1 => ?_, fun o o0 o1 => ?_⟩
    · rw [e6, sI_ne (by omega), m2 _ _ (by omega), e4, sI_ne (by omega), e3, sI_eq]
    · rw [fr 51 _ (by omega) (by omega) (by omega) (by omega) (by omega) (by omega), fr 46 _ (by omega) (by omega) (by omega) (by omega) (by omega) (by omega), fr 47 _ (by omega) (by omega) (by omega) (by omega) (by omega) (by omega)]
      obtain ⟨c1, c2, c3, c4, c5⟩ := d3 o o0 o1
      refine ⟨c1, ?_, c3, c4, ?_⟩
      · rw [e6, sI_ne (by omega), m2 _ _ (by omega), e4, sI_at]
        by_cases q : o = i
        · rw [if_pos ⟨rfl, q⟩, q, z97]
        · rw [if_neg (fun z => q z.2), r97 o q, e3, sI_ne (by omega), e2, sI_ne (by omega), e1, sI_ne (by omega)]; exact c2
      · rw [e6, sI_at]
        by_cases q : o = i
        · rw [if_pos ⟨rfl, q⟩, q]; exact hleft
        · rw [if_neg (fun z => q z.2), rl o q o0 o1, m2 _ _ (by omega), fr4 _ _ (by omega) (by omega) (by omega) (by omega)]; exact c5
    · rw [fr 53 _ (by omega) (by omega) (by omega) (by omega) (by omega) (by omega)]
      refine ⟨(d4 q q0 q1).1, fun j j0 j1 => ?_⟩
      rw [fr 54 _ (by omega) (by omega) (by omega) (by omega) (by omega) (by omega)]; exact (d4 q q0 q1).2 j j0 j1
    · rw [e6, sI_ne (by omega)]
      by_cases q : k = i
      · subst q
        rw [z97] at j1
        rw [row j j0 j1, z96 j j0 j1]
      · rw [r97 k q] at j1
        have := (hF k k0 k1).2.1
        rw [m1, if_neg (by omega), fr4 _ _ (by omega) (by omega) (by omega) (by omega), r96 k j q k0 k1 j0 (by omega)]
        exact d5 k k0 k1 j j0 j1
    · rw [fr 34 _ (by omega) (by omega) (by omega) (by omega) (by omega) (by omega), fr 35 _ (by omega) (by omega) (by omega) (by omega) (by omega) (by omega), fr 36 _ (by omega) (by omega) (by omega) (by omega) (by omega) (by omega), fr 37 _ (by omega) (by omega) (by omega) (by omega) (by omega) (by omega), fr 39 _ (by omega) (by omega) (by omega) (by omega) (by omega) (by omega), z104, z107]
      obtain ⟨c1, c2, c3, c4, c5, c6, c7⟩ := d6 k k0 k1
      refine ⟨c1, c2, c3, c4, ?_, c6, ?_⟩
      · rw [e6, sI_ne (by omega), m2 _ _ (by omega), e4, sI_ne (by omega), e3, sI_ne (by omega), e2, sI_at]
        by_cases q : k = S 96 (9 * i)
        · rw [if_pos ⟨rfl, q⟩, if_pos q]
        · rw [if_neg (fun z => q z.2), if_neg q, e1, sI_ne (by omega)]; exact c5
      · rw [e6, sI_ne (by omega), m2 _ _ (by omega), e4, sI_ne (by omega), e3, sI_ne (by omega), e2, sI_ne (by omega), e1, sI_at]
        by_cases q : k = S 96 (9 * i)
        · rw [if_pos ⟨rfl, q⟩, if_pos q]
        · rw [if_neg (fun z => q z.2), if_neg q]; exact c7
    · rw [fr 48 _ (by omega) (by omega) (by omega) (by omega) (by omega) (by omega)]; exact d7 o o0 o1
theorem c_sendCell (i o : Int) (σ : gS) (S : RS) (hC : CRb σ S) (hS : OKS S) (hi : 0 ≤ i ∧ i < S 88 10) (ho : 0 ≤ o ∧ o < S 88 10) (h95 : 0 < S 95 (6 * i + o)) (hk : S 88 25 ≤ 360) (h27 : S 88 27 ≤ 1000000) (Q : gS → Prop)
    (h : ∀ τ, CRb τ (zSd (6 * i + o) S) → (∀ c k, c ≠ 38 → c ≠ 48 → c ≠ 53 → c ≠ 54 → ¬ (c = 32 ∧ k = 8) → gI τ c k = gI σ c k) → Q τ) : eX8_sendCell l G i o σ Q := by
  have hP := hS.1
  have h0 := hS.2.1
  obtain ⟨p1, ⟨s1, s2, s3, s4, s5, s6⟩, d3, d4, d5, d6, d7⟩ := hC
  have hq := hS.2.2.1 (6 * i + o) (by omega) (by omega)
  have hq0 := hq.2.2 0 (by omega) h95
  rw [Int.add_zero] at hq0
  refine vX8_sendCell i o ⟨by omega, by omega⟩ ⟨by omega, by omega⟩ σ Q ?_
  have hio : i * 6 + o = 6 * i + o := by omega
  have hqi : ∀ a b, 0 ≤ a → a < 6 → 0 ≤ b → b < 6 → 6 * a + b = 6 * i + o → a = i ∧ b = o := fun a b _ _ _ _ e => by omega
  rw [hio]
  have hqr : 0 ≤ 6 * i + o ∧ 6 * i + o < 36 := by omega
  have hz95 : ∀ k, zSd (6 * i + o) S 95 k = if k = 6 * i + o then S 95 (6 * i + o) - 1 else S 95 k := fun k => zSd_95 _ S k
  generalize hqq : 6 * i + o = q at *
  have e54 : gI σ 54 (q * 9) = S 94 (9 * q) := by
    have := (d4 q hqr.1 hqr.2).2 0 (by omega) h95
    rw [Int.add_zero] at this
    rw [show q * 9 = 9 * q by omega]; exact this
  rw [e54, s1]
  refine ⟨by omega, by omega, fun σ1 e1 => ?_⟩
  have k8 : gI σ1 32 8 = S 88 27 := by rw [e1, sI_ne (by omega)]; exact s4
  rw [k8]
  refine ⟨⟨by omega, by omega⟩, fun σ2 e2 => ?_⟩
  have k53 : gI σ2 53 q = S 95 q := by rw [e2, sI_ne (by omega), e1, sI_ne (by omega)]; exact (d4 q hqr.1 hqr.2).1
  rw [k53]
  refine ⟨hqr, ⟨by omega, by omega⟩, fun σ3 e3 => ?_⟩
  have k53' : gI σ3 53 q = S 95 q - 1 := by rw [e3, sI_eq]
  rw [k53']
  refine c_moveUp 54 324 (by decide) (q * 9) (S 95 q - 1) (by omega) (by omega) (by omega) (by omega) σ3 _ (fun σ4 m1 m2 => ?_)
  have k53'' : gI σ4 53 q = S 95 q - 1 := by rw [m2 _ _ (by omega)]; exact k53'
  have fr3 : ∀ c k, c ≠ 38 → c ≠ 53 → ¬ (c = 32 ∧ k = 8) → gI σ3 c k = gI σ c k := fun c k c1 c2 c3 => by rw [e3, sI_ne c2, e2, sI_at, if_neg c3, e1, sI_ne c1]
  have fr4 : ∀ c k, c ≠ 38 → c ≠ 53 → c ≠ 54 → ¬ (c = 32 ∧ k = 8) → gI σ4 c k = gI σ c k := fun c k c1 c2 c3 c4 => by rw [m2 _ _ c3]; exact fr3 c k c1 c2 c4
  rw [k53'']
  have z88 : ∀ k, k ≠ 27 → zSd q S 88 k = S 88 k := fun k hk => zSd_88 q S k hk
  have o92 : zSd q S 92 = S 92 := funext (fun k => zSd_o _ _ _ _ (by omega))
  have o93 : zSd q S 93 = S 93 := funext (fun k => zSd_o _ _ _ _ (by omega))
  have o96 : zSd q S 96 = S 96 := funext (fun k => zSd_o _ _ _ _ (by omega))
  have o97 : zSd q S 97 = S 97 := funext (fun k => zSd_o _ _ _ _ (by omega))
  have o98 : zSd q S 98 = S 98 := funext (fun k => zSd_o _ _ _ _ (by omega))
  have o100 : zSd q S 100 = S 100 := funext (fun k => zSd_o _ _ _ _ (by omega))
  have o101 : zSd q S 101 = S 101 := funext (fun k => zSd_o _ _ _ _ (by omega))
  have o102 : zSd q S 102 = S 102 := funext (fun k => zSd_o _ _ _ _ (by omega))
  have o103 : zSd q S 103 = S 103 := funext (fun k => zSd_o _ _ _ _ (by omega))
  have o105 : zSd q S 105 = S 105 := funext (fun k => zSd_o _ _ _ _ (by omega))
  have o106 : zSd q S 106 = S 106 := funext (fun k => zSd_o _ _ _ _ (by omega))
  have o107 : zSd q S 107 = S 107 := funext (fun k => zSd_o _ _ _ _ (by omega))
  have z104 : ∀ k, zSd q S 104 k = if k = S 94 (9 * q) then S 88 24 else S 104 k := fun k => by
    unfold zSd
    rw [zMv_o _ _ _ _ _ _ (by omega), uS_ne (by omega), uS_ne (by omega), uS_at]
    by_cases z : k = S 94 (9 * q)
    · rw [if_pos ⟨rfl, z⟩, if_pos z]
    · rw [if_neg (fun y => z y.2), if_neg z]
  have zl : ∀ k, zLeft (zSd q S) k = zLeft S k := fun k => by unfold zLeft; rw [o97, o96, o106]
  -- the masks of who wants apart
  have main : ∀ υ : gS, (∀ c k, c ≠ 48 → gI υ c k = gI σ4 c k) → (∀ k, 0 ≤ k → k < S 88 10 → isM (gI υ 48 k) (fun a => decide (a < S 88 10) && decide (0 < zSd q S 95 (6 * a + k)))) → Q υ := by
    intro υ hu hw
    have fr : ∀ c k, c ≠ 38 → c ≠ 48 → c ≠ 53 → c ≠ 54 → ¬ (c = 32 ∧ k = 8) → gI υ c k = gI σ c k := fun c k c1 c2 c3 c4 c5 => by rw [hu c k c2]; exact fr4 c k c1 c3 c4 c5
    refine h υ ?_ fr
    unfold CRb
    rw [z88 10 (by omega), z88 11 (by omega), z88 12 (by omega), z88 23 (by omega), z88 24 (by omega), z88 25 (by omega), z88 26 (by omega), z88 28 (by omega), zSd_27, o92, o93, o96, o97, o98, o100, o101, o102, o103, o105, o107]
    rw [fr 32 3 (by omega) (by omega) (by omega) (by omega) (by omega), fr 32 4 (by omega) (by omega) (by omega) (by omega) (by omega), fr 32 5 (by omega) (by omega) (by omega) (by omega) (by omega), fr 45 0 (by omega) (by omega) (by omega) (by omega) (by omega), fr 41 0 (by omega) (by omega) (by omega) (by omega) (by omega), fr 33 0 (by omega) (by omega) (by omega) (by omega) (by omega), fr 32 7 (by omega) (by omega) (by omega) (by omega) (by omega), fr 32 9 (by omega) (by omega) (by omega) (by omega) (by omega), fr 32 10 (by omega) (by omega) (by omega) (by omega) (by omega)]
    refine ⟨p1, ⟨s1, s2, s3, ?_, s5, s6⟩, fun k k0 k1 => ?_, fun p p0 p1 => ?_, fun k k0 k1 j j0 j1 => ?_, fun k k0 k1 => ?_, hw⟩
    · rw [hu _ _ (by omega), m2 _ _ (by omega), e3, sI_ne (by omega), e2, sI_eq]
    · rw [fr 51 _ (by omega) (by omega) (by omega) (by omega) (by omega), fr 55 _ (by omega) (by omega) (by omega) (by omega) (by omega), fr 46 _ (by omega) (by omega) (by omega) (by omega) (by omega), fr 47 _ (by omega) (by omega) (by omega) (by omega) (by omega), fr 57 _ (by omega) (by omega) (by omega) (by omega) (by omega), zl k]; exact d3 k k0 k1
    · rw [hu _ _ (by omega), m2 _ _ (by omega), e3, sI_at, hz95]
      by_cases z : p = q
      · rw [if_pos ⟨rfl, z⟩, if_pos z]
        refine ⟨rfl, fun j j0 j1 => ?_⟩
        rw [hu _ _ (by omega), m1, if_pos (by omega), fr3 _ _ (by omega) (by omega) (by omega), zSd_94, if_pos (by omega), z, show 9 * q + j + 1 = 9 * q + (j + 1) by omega]
        exact (d4 q hqr.1 hqr.2).2 (j + 1) (by omega) (by omega)
      · rw [if_neg (fun y => z y.2), if_neg z, e2, sI_ne (by omega), e1, sI_ne (by omega)]
        have hp := (hS.2.2.1 p p0 p1).2.1
        refine ⟨(d4 p p0 p1).1, fun j j0 j1 => ?_⟩
        rw [hu _ _ (by omega), m1, if_neg (by omega), fr3 _ _ (by omega) (by omega) (by omega), zSd_94, if_neg (by omega)]
        exact (d4 p p0 p1).2 j j0 j1
    · rw [fr 56 _ (by omega) (by omega) (by omega) (by omega) (by omega)]; exact d5 k k0 k1 j j0 j1
    · rw [fr 34 _ (by omega) (by omega) (by omega) (by omega) (by omega), fr 35 _ (by omega) (by omega) (by omega) (by omega) (by omega), fr 36 _ (by omega) (by omega) (by omega) (by omega) (by omega), fr 37 _ (by omega) (by omega) (by omega) (by omega) (by omega), fr 39 _ (by omega) (by omega) (by omega) (by omega) (by omega), fr 40 _ (by omega) (by omega) (by omega) (by omega) (by omega), z104]
      obtain ⟨c1, c2, c3, c4, c5, c6, c7⟩ := d6 k k0 k1
      refine ⟨c1, c2, c3, c4, ?_, c6, c7⟩
      rw [hu _ _ (by omega), m2 _ _ (by omega), e3, sI_ne (by omega), e2, sI_ne (by omega), e1, sI_at]
      by_cases z : k = S 94 (9 * q)
      · rw [if_pos ⟨rfl, z⟩, if_pos z]
      · rw [if_neg (fun y => z y.2), if_neg z]; exact c5
  have k48 : ∀ k, gI σ4 48 k = gI σ 48 k := fun k => fr4 _ _ (by omega) (by omega) (by omega) (by omega)
  refine ⟨fun hz => main σ4 (fun _ _ _ => rfl) (fun k k0 k1 => ?_), fun hz => ⟨by omega, fun υ eu => main υ (fun c k hc => by rw [eu, sI_ne hc]) (fun k k0 k1 => ?_)⟩⟩
  · rw [k48]
    refine isM_congr (d7 k k0 k1) (fun a a0 a1 => ?_)
    rw [hz95]
    by_cases z : 6 * a + k = q
    · rw [if_pos z, z, decide_eq_true h95, decide_eq_true (show 0 < S 95 q - 1 by omega)]
    · rw [if_neg z]
  · rw [eu, sI_at]
    by_cases z : k = o
    · rw [if_pos ⟨rfl, z⟩, k48]
      refine isM_congr (isM_clear (d7 o ho.1 ho.2) i (by omega)) (fun a a0 a1 => ?_)
      rw [hz95, z]
      by_cases y : a = i
      · rw [if_pos (by omega), y, decide_eq_false (show ¬ 0 < S 95 q - 1 by omega)]; simp
      · rw [if_neg (by omega), decide_eq_false (show ¬ i = a from fun w => y w.symm)]; simp
    · rw [if_neg (fun y => z y.2), k48]
      refine isM_congr (d7 k k0 k1) (fun a a0 a1 => ?_)
      rw [hz95, if_neg (by omega)]
end MS4
