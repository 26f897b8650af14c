section MTC
variable {l : Launch} {G : gG}
theorem tInv_text0 {σ ω : gS} {k f : Int} (hI : tInv σ) (A1 : ∀ c i, 2 ≤ c → c ≤ 26 → gI ω c i = gI σ c i) (A2 : gI ω 1 1 = 0 ∧ gI ω 1 2 = k ∧ gI ω 1 3 = f) (A3 : ∀ i, i ≠ 4 → i ≠ 5 → i ≠ 6 → gI ω 89 i = gI σ 89 i) (A4 : gI ω 89 4 = 0 ∧ gI ω 89 5 = k ∧ gI ω 89 6 = f) (A5 : ∀ i, gI ω 90 i = gI σ 90 i) : tInv ω := by
  obtain ⟨k2, k3, k4⟩ := tTp0 hI
  refine tInv.told hI (fun c c1 c2 i => A1 c i (by omega) (by omega)) (fun i i1 => A3 i (by omega) (by omega) (by omega)) A5 ⟨tTx.keep (fun c c1 c2 i => A1 c i (by omega) (by omega)) (fun i i1 i2 => A3 i (by omega) (by omega) (by omega)) (fun i i1 i2 => A3 i (by omega) (by omega) (by omega)) hI.1.1, tTp0.mk ⟨⟨by rw [A2.1, A4.1], by omega, by omega⟩, ⟨by rw [A2.2.1, A4.2.1], by rw [A2.2.2, A4.2.2]⟩, fun i i1 i2 => ?_⟩⟩
  rw [A1 _ _ (by omega) (by omega), A3 _ (by omega) (by omega) (by omega)]; exact k4 i i1 i2
theorem tInv_text1 {σ ω : gS} {x x2 y c' : Int} {V' : Int → Int → Int} {Z28 Z29 Y : Int → Int} (hI : tInv σ) (hx : x = 0 ∨ x = 1 ∨ x = 2) (hy : 0 ≤ y ∧ y < 2) (ey : (x2 = -1 ∧ y = gI σ 89 x) ∨ (¬ x2 = -1 ∧ 0 ≤ y ∧ y < gI σ 89 x))
    (A1 : ∀ c i, c = 2 ∨ (7 ≤ c ∧ c ≤ 26) → gI ω c i = gI σ c i) (A2 : gI ω 1 1 = 0 ∧ gI ω 1 2 = 0 ∧ gI ω 1 3 = gI ω 89 6) (A3 : ∀ i, (10 ≤ i ∧ i < 610) ∨ 926 ≤ i → gI ω 89 i = gI σ 89 i) (A4 : gI ω 89 4 = 0 ∧ gI ω 89 5 = 0) (A5 : ∀ i, gI ω 90 i = gI σ 90 i)
    (C3 : ∀ s, gI ω 3 s = if s = x ∧ x2 = -1 then gI σ 3 s + 1 else gI σ 3 s) (C4 : ∀ i, gI ω 4 i = if x = 0 ∧ y * 4 ≤ i ∧ i < y * 4 + 4 then Z28 (i - y * 4) else gI σ 4 i)
    (C5 : ∀ i, gI ω 5 i = if ¬ x = 0 ∧ ((x - 1) * 2 + y) * 160 ≤ i ∧ i < ((x - 1) * 2 + y) * 160 + 160 then Z29 (i - ((x - 1) * 2 + y) * 160) else gI σ 5 i) (C6 : ∀ i, gI ω 6 i = if ¬ x = 0 ∧ i = (x - 1) * 2 + y then c' else gI σ 6 i)
    (R1 : ∀ s, 0 ≤ s → s < 3 → gI ω 89 s = if s = x ∧ x2 = -1 then gI σ 89 s + 1 else gI σ 89 s) (R2 : ∀ i, 0 ≤ i → i < szT x → gI ω 89 (plT x y + i) = Y i) (R3 : ∀ i, 610 ≤ i → i < 926 → ¬ (plT x y ≤ i ∧ i < plT x y + szT x) → gI ω 89 i = gI σ 89 i)
    (D1 : x = 0 → ∀ w, 0 ≤ w → w < 4 → Z28 w = V' 0 w) (D2 : ¬ x = 0 → ∀ i w, 0 ≤ i → i < c' → 0 ≤ w → w < 4 → Z29 (i * 4 + w) = V' i w)
    (D3 : x = 0 → ∀ w, 0 ≤ w → w < 4 → Y w = V' 0 w) (D4 : x = 1 → ∀ i w, 0 ≤ i → i < c' → 0 ≤ w → w < 3 → Y (1 + 3 * i + w) = V' i w) (D5 : x = 2 → ∀ i w, 0 ≤ i → i < c' → 0 ≤ w → w < 4 → Y (1 + 4 * i + w) = V' i w) (D6 : ¬ x = 0 → Y 0 = c') (D7 : 0 ≤ c' ∧ c' ≤ liM x) (D8 : okR x c' V') : tInv ω := by
  obtain ⟨k1, k5, k6, k7⟩ := tTx0 hI
  obtain ⟨k2, k3, k4⟩ := tTp0 hI
  refine tInv.told hI (fun c c1 c2 i => A1 c i (by omega)) (fun i i1 => A3 i (by omega)) A5 ⟨tTx0.mk ⟨fun s s0 s1 => ?_, ?_, ?_, ?_⟩, tTp0.mk ⟨⟨by rw [A2.1, A4.1], by omega, by omega⟩, ⟨by rw [A2.2.1, A4.2], A2.2.2⟩, fun i i1 i2 => ?_⟩⟩
  · have b := k1 s s0 s1
    rw [C3, R1 s s0 s1]
    by_cases z : s = x ∧ x2 = -1
    · rw [if_pos z, if_pos z, b.1]
      refine ⟨rfl, by omega, ?_⟩
      have e1 := z.1
      rw [e1] at b ⊢
      omega
    · rw [if_neg z, if_neg z]; exact b
  · intro c c0 c1
    rw [R1 0 (by omega) (by omega)] at c1
    by_cases e : x = 0
    · subst e
      have pl : plT 0 y = 610 + 4 * y := rfl
      have sz : szT 0 = 4 := rfl
      by_cases z : c = y
      · subst z
        refine ⟨fun w w0 w1 => ?_, ?_⟩
        · have h1 := R2 w w0 (by omega)
          rw [pl] at h1
          rw [C4, if_pos ⟨rfl, by omega, by omega⟩, h1, show c * 4 + w - c * 4 = w by omega, D1 rfl w w0 w1, D3 rfl w w0 w1]
        · have ok := D8.1 rfl
          unfold tBar at ok ⊢
          have h0 := R2 0 (by omega) (by omega)
          have h1 := R2 1 (by omega) (by omega)
          have h2 := R2 2 (by omega) (by omega)
          have h3 := R2 3 (by omega) (by omega)
          rw [pl, D3 rfl _ (by omega) (by omega)] at h0 h1 h2 h3
          rw [show (610 + 4 * c + 0 : Int) = 610 + 4 * c by omega] at h0
          rw [h0, h1, h2, h3]; exact ok
      · have c2 : c < gI σ 89 0 := by
          rcases ey with ⟨y1, y2⟩ | ⟨y1, y2⟩
          · rw [if_pos ⟨rfl, y1⟩] at c1; omega
          · rw [if_neg (fun q => y1 q.2)] at c1; exact c1
        obtain ⟨q1, q2⟩ := k5 c c0 c2
        have cb : c < 2 := by have := k1 0 (by omega) (by omega); omega
        refine ⟨fun w w0 w1 => ?_, ?_⟩
        · rw [C4, if_neg (by omega), R3 _ (by omega) (by omega) (by omega)]; exact q1 w w0 w1
        · unfold tBar at q2 ⊢
          rw [R3 _ (by omega) (by omega) (by omega), R3 _ (by omega) (by omega) (by omega), R3 _ (by omega) (by omega) (by omega), R3 _ (by omega) (by omega) (by omega)]; exact q2
    · rw [if_neg (fun q => e q.1.symm)] at c1
      obtain ⟨q1, q2⟩ := k5 c c0 c1
      have cb : c < 2 := by have := k1 0 (by omega) (by omega); omega
      have pl : 618 ≤ plT x y := by
        unfold plT; rw [if_neg e]; split <;> omega
      refine ⟨fun w w0 w1 => ?_, ?_⟩
      · rw [C4, if_neg (fun q => e q.1), R3 _ (by omega) (by omega) (by omega)]; exact q1 w w0 w1
      · unfold tBar at q2 ⊢
        rw [R3 _ (by omega) (by omega) (by omega), R3 _ (by omega) (by omega) (by omega), R3 _ (by omega) (by omega) (by omega), R3 _ (by omega) (by omega) (by omega)]; exact q2
  · intro t t0 t1
    rw [R1 1 (by omega) (by omega)] at t1
    by_cases e : x = 1
    · subst e
      have pl : plT 1 y = 618 + 121 * y := rfl
      have sz : szT 1 = 121 := rfl
      have l1 : liM 1 = 40 := rfl
      by_cases z : t = y
      · subst z
        have h0 := R2 0 (by omega) (by omega)
        rw [pl, D6 (by decide), show (618 + 121 * t + 0 : Int) = 618 + 121 * t by omega] at h0
        rw [C6, if_pos ⟨by decide, by omega⟩, h0]
        refine ⟨rfl, D7.1, by omega, fun k kk0 kk1 => ⟨fun w w0 w1 => ?_, ?_⟩⟩
        · have h1 := R2 (1 + 3 * k + w) (by omega) (by omega)
          rw [pl, D4 rfl k w kk0 kk1 w0 w1] at h1
          rw [C5, if_pos ⟨by decide, by omega, by omega⟩, show (618 + 121 * t + 1 + 3 * k + w : Int) = 618 + 121 * t + (1 + 3 * k + w) by omega, h1, show (t * 40 + k) * 4 + w - ((1 - 1) * 2 + t) * 160 = k * 4 + w by omega]
          exact D2 (by decide) k w kk0 kk1 w0 (by omega)
        · have ok := D8.2.1 rfl k kk0 kk1
          have g0 := R2 (1 + 3 * k + 0) (by omega) (by omega)
          have g1 := R2 (1 + 3 * k + 1) (by omega) (by omega)
          have g2 := R2 (1 + 3 * k + 2) (by omega) (by omega)
          rw [pl, D4 rfl k _ kk0 kk1 (by omega) (by omega)] at g0 g1 g2
          rw [show (618 + 121 * t + (1 + 3 * k + 0) : Int) = 618 + 121 * t + 1 + 3 * k by omega] at g0
          rw [show (618 + 121 * t + (1 + 3 * k + 1) : Int) = 618 + 121 * t + 1 + 3 * k + 1 by omega] at g1
          rw [show (618 + 121 * t + (1 + 3 * k + 2) : Int) = 618 + 121 * t + 1 + 3 * k + 2 by omega] at g2
          unfold tDeed at ok ⊢
          rw [g0, g1, g2]; exact ok
      · have t2 : t < gI σ 89 1 := by
          rcases ey with ⟨y1, y2⟩ | ⟨y1, y2⟩
          · rw [if_pos ⟨rfl, y1⟩] at t1; omega
          · rw [if_neg (fun q => y1 q.2)] at t1; exact t1
        have tb : t < 2 := by have := k1 1 (by omega) (by omega); omega
        obtain ⟨q1, q2, q3, q4⟩ := k6 t t0 t2
        rw [C6, if_neg (by omega), R3 _ (by omega) (by omega) (by omega)]
        refine ⟨q1, q2, q3, fun k kk0 kk1 => ?_⟩
        obtain ⟨q5, q6⟩ := q4 k kk0 kk1
        refine ⟨fun w w0 w1 => ?_, ?_⟩
        · rw [C5, if_neg (by omega), R3 _ (by omega) (by omega) (by omega)]; exact q5 w w0 w1
        · unfold tDeed at q6 ⊢
          rw [R3 _ (by omega) (by omega) (by omega), R3 _ (by omega) (by omega) (by omega), R3 _ (by omega) (by omega) (by omega)]; exact q6
    · rw [if_neg (fun q => e q.1.symm)] at t1
      obtain ⟨q1, q2, q3, q4⟩ := k6 t t0 t1
      have tb : t < 2 := by have := k1 1 (by omega) (by omega); omega
      have pl : (x = 0 ∧ plT x y + szT x ≤ 618) ∨ (x = 2 ∧ 860 ≤ plT x y) := by
        rcases hx with h | h | h
        · subst h; exact Or.inl ⟨rfl, by have a : plT 0 y = 610 + 4 * y := rfl; have b : szT 0 = 4 := rfl; omega⟩
        · exact absurd h e
        · subst h; exact Or.inr ⟨rfl, by have a : plT 2 y = 860 + 33 * y := rfl; omega⟩
      have c6 : gI ω 6 t = gI σ 6 t := by rw [C6, if_neg (by omega)]
      rw [c6, R3 _ (by omega) (by omega) (by omega)]
      refine ⟨q1, q2, q3, fun k kk0 kk1 => ?_⟩
      obtain ⟨q5, q6⟩ := q4 k kk0 kk1
      refine ⟨fun w w0 w1 => ?_, ?_⟩
      · have c5 : gI ω 5 ((t * 40 + k) * 4 + w) = gI σ 5 ((t * 40 + k) * 4 + w) := by rw [C5, if_neg (by omega)]
        rw [c5, R3 _ (by omega) (by omega) (by omega)]; exact q5 w w0 w1
      · unfold tDeed at q6 ⊢
        rw [R3 _ (by omega) (by omega) (by omega), R3 _ (by omega) (by omega) (by omega), R3 _ (by omega) (by omega) (by omega)]; exact q6
  · intro t t0 t1
    rw [R1 2 (by omega) (by omega)] at t1
    by_cases e : x = 2
    · subst e
      have pl : plT 2 y = 860 + 33 * y := rfl
      have sz : szT 2 = 33 := rfl
      have l1 : liM 2 = 8 := rfl
      by_cases z : t = y
      · subst z
        have h0 := R2 0 (by omega) (by omega)
        rw [pl, D6 (by decide), show (860 + 33 * t + 0 : Int) = 860 + 33 * t by omega] at h0
        rw [C6, if_pos ⟨by decide, by omega⟩, h0]
        refine ⟨rfl, D7.1, by omega, fun k kk0 kk1 => ⟨fun w w0 w1 => ?_, ?_⟩⟩
        · have h1 := R2 (1 + 4 * k + w) (by omega) (by omega)
          rw [pl, D5 rfl k w kk0 kk1 w0 w1] at h1
          rw [C5, if_pos ⟨by decide, by omega, by omega⟩, show (860 + 33 * t + 1 + 4 * k + w : Int) = 860 + 33 * t + (1 + 4 * k + w) by omega, h1, show ((2 + t) * 40 + k) * 4 + w - ((2 - 1) * 2 + t) * 160 = k * 4 + w by omega]
          exact D2 (by decide) k w kk0 kk1 w0 w1
        · have ok := D8.2.2 rfl k kk0 kk1
          have g0 := R2 (1 + 4 * k + 0) (by omega) (by omega)
          have g1 := R2 (1 + 4 * k + 1) (by omega) (by omega)
          have g2 := R2 (1 + 4 * k + 2) (by omega) (by omega)
          have g3 := R2 (1 + 4 * k + 3) (by omega) (by omega)
          rw [pl, D5 rfl k _ kk0 kk1 (by omega) (by omega)] at g0 g1 g2 g3
          rw [show (860 + 33 * t + (1 + 4 * k + 0) : Int) = 860 + 33 * t + 1 + 4 * k by omega] at g0
          rw [show (860 + 33 * t + (1 + 4 * k + 1) : Int) = 860 + 33 * t + 1 + 4 * k + 1 by omega] at g1
          rw [show (860 + 33 * t + (1 + 4 * k + 2) : Int) = 860 + 33 * t + 1 + 4 * k + 2 by omega] at g2
          rw [show (860 + 33 * t + (1 + 4 * k + 3) : Int) = 860 + 33 * t + 1 + 4 * k + 3 by omega] at g3
          unfold tFact at ok ⊢
          rw [g0, g1, g2, g3]; exact ok
      · have t2 : t < gI σ 89 2 := by
          rcases ey with ⟨y1, y2⟩ | ⟨y1, y2⟩
          · rw [if_pos ⟨rfl, y1⟩] at t1; omega
          · rw [if_neg (fun q => y1 q.2)] at t1; exact t1
        have tb : t < 2 := by have := k1 2 (by omega) (by omega); omega
        obtain ⟨q1, q2, q3, q4⟩ := k7 t t0 t2
        rw [C6, if_neg (by omega), R3 _ (by omega) (by omega) (by omega)]
        refine ⟨q1, q2, q3, fun k kk0 kk1 => ?_⟩
        obtain ⟨q5, q6⟩ := q4 k kk0 kk1
        refine ⟨fun w w0 w1 => ?_, ?_⟩
        · rw [C5, if_neg (by omega), R3 _ (by omega) (by omega) (by omega)]; exact q5 w w0 w1
        · unfold tFact at q6 ⊢
          rw [R3 _ (by omega) (by omega) (by omega), R3 _ (by omega) (by omega) (by omega), R3 _ (by omega) (by omega) (by omega), R3 _ (by omega) (by omega) (by omega)]; exact q6
    · rw [if_neg (fun q => e q.1.symm)] at t1
      obtain ⟨q1, q2, q3, q4⟩ := k7 t t0 t1
      have tb : t < 2 := by have := k1 2 (by omega) (by omega); omega
      have pl : (x = 0 ∨ x = 1) ∧ plT x y + szT x ≤ 860 := by
        rcases hx with h | h | h
        · subst h; exact ⟨Or.inl rfl, by have a : plT 0 y = 610 + 4 * y := rfl; have b : szT 0 = 4 := rfl; omega⟩
        · subst h; exact ⟨Or.inr rfl, by have a : plT 1 y = 618 + 121 * y := rfl; have b : szT 1 = 121 := rfl; omega⟩
        · exact absurd h e
      have c6 : gI ω 6 (2 + t) = gI σ 6 (2 + t) := by rw [C6, if_neg (by omega)]
      rw [c6, R3 _ (by omega) (by omega) (by omega)]
      refine ⟨q1, q2, q3, fun k kk0 kk1 => ?_⟩
      obtain ⟨q5, q6⟩ := q4 k kk0 kk1
      refine ⟨fun w w0 w1 => ?_, ?_⟩
      · have c5 : gI ω 5 (((2 + t) * 40 + k) * 4 + w) = gI σ 5 (((2 + t) * 40 + k) * 4 + w) := by rw [C5, if_neg (by omega)]
        rw [c5, R3 _ (by omega) (by omega) (by omega)]; exact q5 w w0 w1
      · unfold tFact at q6 ⊢
        rw [R3 _ (by omega) (by omega) (by omega), R3 _ (by omega) (by omega) (by omega), R3 _ (by omega) (by omega) (by omega), R3 _ (by omega) (by omega) (by omega)]; exact q6
  · rw [A1 _ _ (by omega), A3 _ (by omega)]; exact k4 i i1 i2
end MTC
