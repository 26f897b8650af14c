/-- fits laid by the class -/
def CFt (τ : gS) (n24 : Int) (Z : RS) : Prop := gI τ 84 1 = Z 88 65 ∧ (Z 88 65 = 0 → gI τ 84 2 = 0) ∧ (0 < Z 88 65 → gI τ 84 2 = n24) ∧ (∀ k, 0 ≤ k → k < Z 88 65 → gI τ 85 k = Z 130 k) ∧
  ∀ k, 0 ≤ k → k < Z 88 65 → ∀ s, 0 ≤ s → s < n24 → (0 ≤ gI τ 86 (360 * k + s) ∧ gI τ 86 (360 * k + s) < 262144) ∧ ∀ o, 0 ≤ o → o < 6 → gI τ 86 (360 * k + s) / 8 ^ o.toNat % 8 = Z 131 (2520 * k + (6 * s + o)) + 1
theorem CFt.keep {τ υ : gS} {n24 : Int} {Z T : RS} (h : CFt τ n24 Z) (h1 : ∀ c i, 84 ≤ c → c ≤ 86 → gI υ c i = gI τ c i) (e65 : T 88 65 = Z 88 65) (e130 : ∀ k, T 130 k = Z 130 k) (e131 : ∀ k, T 131 k = Z 131 k) : CFt υ n24 T := by
  obtain ⟨a1, a2, a3, a4, a5⟩ := h
  refine ⟨by rw [h1 _ _ (by omega) (by omega), e65]; exact a1, fun z => by rw [h1 _ _ (by omega) (by omega)]; exact a2 (by rw [← e65]; exact z), fun z => by rw [h1 _ _ (by omega) (by omega)]; exact a3 (by rw [← e65]; exact z), fun k k0 k1 => ?_, fun k k0 k1 s s0 s1 => ?_⟩
  · rw [h1 _ _ (by omega) (by omega), e130]; exact a4 k k0 (by rw [← e65]; exact k1)
  · rw [h1 _ _ (by omega) (by omega)]
    refine ⟨(a5 k k0 (by rw [← e65]; exact k1) s s0 s1).1, fun o o0 o1 => ?_⟩
    rw [e131]; exact (a5 k k0 (by rw [← e65]; exact k1) s s0 s1).2 o o0 o1
section SJ
variable {l : Launch} {G : gG}
theorem c_lineL (t k w : Int) (ht : 0 ≤ t ∧ t < 2) (hk : 0 ≤ k ∧ k < 40) (hw : 0 ≤ w ∧ w < 4) (σ : gS) (Q : Int → gS → Prop) (h : Q (gI σ 5 (((2 + t) * 40 + k) * 4 + w)) σ) : eX10_line l G 2 t k w σ Q := by
  have rt : gR t := ⟨by omega, by omega⟩
  refine vX10_line 2 t k w (by decide) rt ⟨by omega, by omega⟩ ⟨by omega, by omega⟩ σ _ (vX10_placeOf 2 t (by decide) rt σ _ ⟨⟨by omega, by omega⟩, fun _ => ⟨by omega, ?_⟩⟩)
  rw [show ((2 : Int) - 1) * 2 + t = 2 + t by omega]; exact h
theorem c_lineCountL (t : Int) (ht : 0 ≤ t ∧ t < 2) (σ : gS) (Q : Int → gS → Prop) (h : Q (gI σ 6 (2 + t)) σ) : eX10_lineCount l G 2 t σ Q := by
  have rt : gR t := ⟨by omega, by omega⟩
  refine vX10_lineCount 2 t (by decide) rt σ _ (vX10_placeOf 2 t (by decide) rt σ _ ⟨⟨by omega, by omega⟩, fun _ => ⟨by omega, ?_⟩⟩)
  rw [show ((2 : Int) - 1) * 2 + t = 2 + t by omega]; exact h
theorem c_allSo (t : Int) (σ : gS) (hI : tInv σ) (ht : 0 ≤ t ∧ t < gI σ 89 2) (T : RS) (hC : CR σ T) (hM : OKM T) (Q : Int → gS → Prop) (h1 : fSo (gI σ 89) (860 + 33 * t) T → Q 1 σ) (h0 : ¬ fSo (gI σ 89) (860 + 33 * t) T → Q 0 σ) : eX1_allSo l G t σ Q := by
  obtain ⟨k1, k5, k6, k7⟩ := tTx0 hI
  have b2 := k1 2 (by omega) (by omega)
  obtain ⟨c6, d0, d8, dd⟩ := k7 t ht.1 ht.2
  have rt : gR t := ⟨by omega, by omega⟩
  refine vX1_allSo t rt σ Q (c_lineCountL t (by omega) σ _ (fun _ => ?_))
  rw [c6]
  refine gloopI (α := Unit) 0 (gI σ 89 (860 + 33 * t)) (fun k _ => k ≤ gI σ 89 (860 + 33 * t) ∧ ∀ j, 0 ≤ j → j < k → ((gI σ 89 (860 + 33 * t + 1 + 4 * j + 1) < T 88 24 ∧ T 109 (6 * gI σ 89 (860 + 33 * t + 1 + 4 * j + 1) + gI σ 89 (860 + 33 * t + 1 + 4 * j + 3)) = gI σ 89 (860 + 33 * t + 1 + 4 * j + 2)) ↔ gI σ 89 (860 + 33 * t + 1 + 4 * j) = 1)) (fun k _ => kX1_allSo_10 l G t (gI σ 89 (860 + 33 * t)) k σ Q) ?_ ?_ 0 () (by omega) ⟨by omega, fun j j0 j1 => by omega⟩
  · rintro k _ k0 k1 ⟨z0, z1⟩ ih
    obtain ⟨w, f⟩ := dd k k0 k1
    have w0 := w 0 (by omega) (by omega)
    have w1 := w 1 (by omega) (by omega)
    have w2 := w 2 (by omega) (by omega)
    have w3 := w 3 (by omega) (by omega)
    rw [Int.add_zero (860 + 33 * t + 1 + 4 * k)] at w0
    unfold tFact at f
    have step : ((gI σ 89 (860 + 33 * t + 1 + 4 * k + 1) < T 88 24 ∧ T 109 (6 * gI σ 89 (860 + 33 * t + 1 + 4 * k + 1) + gI σ 89 (860 + 33 * t + 1 + 4 * k + 3)) = gI σ 89 (860 + 33 * t + 1 + 4 * k + 2)) ↔ gI σ 89 (860 + 33 * t + 1 + 4 * k) = 1) → kX1_allSo_10 l G t (gI σ 89 (860 + 33 * t)) (k + 1) σ Q := fun y => ih () ⟨by omega, fun j j0 j1 => by
      by_cases e : j = k
      · rw [e]; exact y
      · exact z1 j j0 (by omega)⟩
    have stop : ¬ ((gI σ 89 (860 + 33 * t + 1 + 4 * k + 1) < T 88 24 ∧ T 109 (6 * gI σ 89 (860 + 33 * t + 1 + 4 * k + 1) + gI σ 89 (860 + 33 * t + 1 + 4 * k + 3)) = gI σ 89 (860 + 33 * t + 1 + 4 * k + 2)) ↔ gI σ 89 (860 + 33 * t + 1 + 4 * k) = 1) → Q 0 σ := fun y => h0 (fun z => y (z k k0 k1))
    refine vX1_allSo_10 t _ k rt ⟨by omega, by omega⟩ ⟨by omega, by omega⟩ σ Q ⟨fun z => by omega, fun _ => ?_⟩
    refine c_lineL t k 1 (by omega) (by omega) (by omega) σ _ (fun _ => c_lineL t k 2 (by omega) (by omega) (by omega) σ _ (fun _ => c_lineL t k 3 (by omega) (by omega) (by omega) σ _ (fun _ => c_lineL t k 0 (by omega) (by omega) (by omega) σ _ (fun _ v ev => ?_))))
    rw [w1, w2, w3]
    rw [w0] at ev
    generalize gI σ 89 (860 + 33 * t + 1 + 4 * k + 1) = fs at *
    generalize gI σ 89 (860 + 33 * t + 1 + 4 * k + 2) = fi at *
    generalize gI σ 89 (860 + 33 * t + 1 + 4 * k + 3) = fo at *
    generalize gI σ 89 (860 + 33 * t + 1 + 4 * k) = fk at *
    refine vX6_wereMatched fs fi fo ⟨by omega, by omega⟩ ⟨by omega, by omega⟩ ⟨by omega, by omega⟩ σ _ ?_
    rw [hC.2.1.1]
    refine ⟨fun z => by omega, fun _ => ⟨fun z _ => ⟨fun y => step ?_, fun y => stop ?_⟩, fun z => ⟨by have := hM.2.2; omega, ?_⟩⟩⟩
    · refine ⟨fun q => by omega, fun q => ?_⟩
      rw [if_pos q] at ev; omega
    · intro q
      by_cases e : fk = 1
      · have := (q.mpr e).1; omega
      · rw [if_neg e] at ev; omega
    · have hh := hC.2.2.2.2.2.2.2.1 fs (by omega) z
      refine c_inputOf _ fo (T 109 (6 * fs + fo)) hh.1 (by omega) (hh.2.1 fo (by omega) (by omega)) σ _ (fun _ u eu _ => ⟨fun y => step ?_, fun y => stop ?_⟩)
      · by_cases e : T 109 (6 * fs + fo) = fi
        · rw [if_pos e] at eu
          refine ⟨fun _ => ?_, fun _ => ⟨z, e⟩⟩
          by_cases e2 : fk = 1
          · exact e2
          · rw [if_neg e2] at ev; omega
        · rw [if_neg e] at eu
          refine ⟨fun q => absurd q.2 e, fun q => ?_⟩
          rw [if_pos q] at ev; omega
      · intro q
        by_cases e : T 109 (6 * fs + fo) = fi
        · rw [if_pos e] at eu
          rw [if_pos (q.mp ⟨z, e⟩)] at ev
          omega
        · rw [if_neg e] at eu
          by_cases e2 : fk = 1
          · exact e (q.mpr e2).2
          · rw [if_neg e2] at ev; omega
  · rintro k _ k0 ⟨z0, z1⟩
    have hk : k = gI σ 89 (860 + 33 * t) := by omega
    refine vX1_allSo_10 t _ k rt ⟨by omega, by omega⟩ ⟨by omega, by omega⟩ σ Q ⟨fun _ => h1 (fun j j0 j1 => z1 j j0 (by omega)), fun z => by omega⟩
theorem c_keepIfSo (t code : Int) (σ : gS) (hI : tInv σ) (ht : 0 ≤ t ∧ t < gI σ 89 2) (rc : gR code) (T : RS) (hC : CR σ T) (hM : OKM T) (n24 : Int) (hn : T 88 24 = n24) (hF : CFt σ n24 T) (h65 : 0 ≤ T 88 65 ∧ T 88 65 < 24) (Q : gS → Prop)
    (h : ∀ τ, CFt τ n24 (zFE (gI σ 89) (860 + 33 * t) code T) → gI τ 84 0 = gI σ 84 0 → (∀ c i, c ≠ 84 → c ≠ 85 → c ≠ 86 → gI τ c i = gI σ c i) → Q τ) : eX1_keepIfSo l G t code σ Q := by
  have rt : gR t := by
    obtain ⟨k1, k5, k6, k7⟩ := tTx0 hI
    have b2 := k1 2 (by omega) (by omega)
    exact ⟨by omega, by omega⟩
  have h24 := hM.2.2
  have h024 := hM.1.1.2.1.2.1
  refine vX1_keepIfSo t code rt rc σ Q ?_
  rw [hF.1]
  refine ⟨fun z => by omega, fun _ => c_allSo t σ hI ht T hC hM _ (fun y _ => ⟨fun _ => ?_, fun z => absurd z (by decide)⟩) (fun y _ => ⟨fun z => absurd rfl z, fun _ => h σ (by rw [zFE_n y]; exact hF) rfl (fun _ _ _ _ _ => rfl)⟩)⟩
  rw [hC.2.1.1]
  intro σ1 e1
  have a1 : gI σ1 84 1 = T 88 65 := by rw [e1, sI_nei (by omega)]; exact hF.1
  rw [a1]
  refine ⟨h65, fun σ2 e2 => ?_⟩
  have a2 : gI σ2 84 1 = T 88 65 := by rw [e2, sI_ne (by omega)]; exact a1
  have b2 : gI σ2 84 2 = n24 := by rw [e2, sI_ne (by omega), e1, sI_eq, hn]
  rw [a2, b2]
  refine ⟨⟨by omega, by omega, by omega, by omega, by omega⟩, fun σ3 e3 => ?_⟩
  have g3 : ∀ c i, c ≠ 86 → gI σ3 c i = gI σ2 c i := fun c i hc => by rw [e3]; exact if_neg (fun z : c = 86 ∧ _ => hc z.1)
  have r3 : ∀ i, gI σ3 86 i = if T 88 65 * 360 ≤ i ∧ i < T 88 65 * 360 + n24 then gI σ2 42 (0 + (i - T 88 65 * 360)) else gI σ2 86 i := fun i => by
    rw [e3]
    show (if (86 : Nat) = 86 ∧ T 88 65 * 360 ≤ i ∧ i < T 88 65 * 360 + n24 then _ else _) = _
    by_cases e : T 88 65 * 360 ≤ i ∧ i < T 88 65 * 360 + n24
    · rw [if_pos ⟨rfl, e⟩, if_pos e]
    · rw [if_neg (fun z => e z.2), if_neg e]
  have a3 : gI σ3 84 1 = T 88 65 := by rw [g3 _ _ (by omega)]; exact a2
  rw [a3]
  refine ⟨⟨by omega, by omega⟩, fun τ et => ?_⟩
  obtain ⟨f1, f2, f3, f4, f5⟩ := hF
  refine h τ ?_ (by rw [et, sI_nei (by omega), g3 _ _ (by omega), e2, sI_ne (by omega), e1, sI_nei (by omega)]) (fun c i c1 c2 c3 => by rw [et, sI_ne c1, g3 _ _ c3, e2, sI_ne c2, e1, sI_ne c1])
  rw [zFE_y y]
  refine ⟨by rw [et, sI_eq, zKeep_65], fun z => by rw [zKeep_65] at z; omega, fun _ => by rw [et, sI_nei (by omega), g3 _ _ (by omega)]; exact b2, fun k k0 k1 => ?_, fun k k0 k1 s s0 s1 => ?_⟩
  · rw [zKeep_65] at k1
    rw [zKeep_130, et, sI_ne (by omega), g3 _ _ (by omega), e2, sI_at]
    by_cases e : k = T 88 65
    · rw [if_pos ⟨rfl, e⟩, if_pos e]
    · rw [if_neg (fun z => e z.2), if_neg e, e1, sI_ne (by omega)]; exact f4 k k0 (by omega)
  · rw [zKeep_65] at k1
    have r : gI τ 86 (360 * k + s) = if k = T 88 65 then gI σ 42 s else gI σ 86 (360 * k + s) := by
      rw [et, sI_ne (by omega), r3]
      by_cases e : k = T 88 65
      · rw [if_pos (by omega), if_pos e, e2, sI_ne (by omega), e1, sI_ne (by omega), show 0 + (360 * k + s - T 88 65 * 360) = s by omega]
      · rw [if_neg (by omega), if_neg e, e2, sI_ne (by omega), e1, sI_ne (by omega)]
    rw [r]
    by_cases e : k = T 88 65
    · rw [if_pos e]
      have hh := hC.2.2.2.2.2.2.2.1 s s0 (by omega)
      refine ⟨hh.1, fun o o0 o1 => ?_⟩
      rw [hh.2.1 o o0 o1, zKeep_131, if_pos (by omega), show 2520 * k + (6 * s + o) - 2520 * T 88 65 = 6 * s + o by omega]
    · rw [if_neg e]
      have q := f5 k k0 (by omega) s s0 s1
      refine ⟨q.1, fun o o0 o1 => ?_⟩
      rw [q.2 o o0 o1, zKeep_131, if_neg (by omega)]
end SJ
/-- of those that fit how many say so -/
def cnt (Z : RS) (c v : Int) (n : Nat) : Int := sm (fun k => if Z 131 (2520 * k + c) = v then 1 else 0) n
def isMx (f : Int → Int) (x : Int) : Prop := (∀ a, 0 ≤ a → a < 7 → f a ≤ x) ∧ ∃ a, 0 ≤ a ∧ a < 7 ∧ f a = x
theorem isMx_eq {f : Int → Int} {x y : Int} (h : isMx f x) (k : isMx f y) : x = y := by
  obtain ⟨h1, a, a0, a1, a2⟩ := h
  obtain ⟨k1, b, b0, b1, b2⟩ := k
  have := h1 b b0 b1
  have := k1 a a0 a1
  omega
def zMost (Z : RS) (c : Int) : Int := gfold (fun a m => max m (cnt Z c (a - 1) (Z 88 65).toNat)) 0 7
theorem cnt_r (Z : RS) (c v : Int) (n : Nat) : 0 ≤ cnt Z c v n ∧ cnt Z c v n ≤ n := by
  have h := sm_r (f := fun k => if Z 131 (2520 * k + c) = v then 1 else 0) (a := 0) (b := 1) n (fun j _ _ => by split <;> omega)
  unfold cnt
  omega
theorem gfold_mx {f : Int → Int} (h0 : ∀ a, 0 ≤ f a) : ∀ n : Nat, (∀ a, 0 ≤ a → a < (n : Int) → f a ≤ gfold (fun a m => max m (f a)) 0 n) ∧ 0 ≤ gfold (fun a m => max m (f a)) 0 n ∧ (gfold (fun a m => max m (f a)) 0 n = 0 ∨ ∃ a, 0 ≤ a ∧ a < (n : Int) ∧ f a = gfold (fun a m => max m (f a)) 0 n)
  | 0 => ⟨fun a a0 a1 => by omega, Int.le_refl _, Or.inl rfl⟩
  | n + 1 => by
    obtain ⟨h1, h2, h3⟩ := gfold_mx h0 n
    have e : gfold (fun a m => max m (f a)) 0 (n + 1) = max (gfold (fun a m => max m (f a)) 0 n) (f n) := rfl
    rw [e]
    generalize gfold (fun a m => max m (f a)) 0 n = g at *
    refine ⟨fun a a0 a1 => ?_, by omega, Or.inr ?_⟩
    · by_cases z : a = n
      · rw [z]; omega
      · have := h1 a a0 (by omega); omega
    · by_cases z : g ≤ f n
      · exact ⟨n, by omega, by omega, by omega⟩
      · rcases h3 with h3 | ⟨a, a0, a1, a2⟩
        · have := h0 n
          omega
        · exact ⟨a, a0, by omega, by omega⟩
