/-- runs whose slots and arrivals are alike -/
def R24 (S T : RS) : Prop := S 88 29 = T 88 29 ∧ S 88 24 = T 88 24 ∧ S 88 10 = T 88 10 ∧ ∀ i, 0 ≤ i → i < 6 → S 99 i = T 99 i
theorem zSlots_99 {S : RS} (h : OKA S) : ∀ (n : Nat) (i : Int), 0 ≤ i → i < 6 → 1 ≤ n → zSlots n S 99 i = 0
  | 0, _, _, _, h1 => by omega
  | n + 1, i, i0, i1, _ => (zSlot_f (zSlots_ok n S h).1.1).2.2.2.2.2.2.2 i i0 i1
theorem R24_can {kind a b : Int} {S T : RS} (hS : OKS S) (h : R24 S T) : zCan kind a b S ↔ zCan kind a b T := by
  obtain ⟨h1, h2, h3, h4⟩ := h
  have hP := hS.1
  unfold zCan
  rw [← h3]
  constructor
  · rintro ⟨a0, a1, a2, a3⟩
    exact ⟨a0, a1, by rw [← h4 a a0 (by omega)]; exact a2, a3⟩
  · rintro ⟨a0, a1, a2, a3⟩
    exact ⟨a0, a1, by rw [h4 a a0 (by omega)]; exact a2, a3⟩
theorem R24_do {D : Int → Int} {q : Int} {S T : RS} (hS : OKA S) (hT : OKA T) (hd : tDeed D q) (hc : zCanD (D q) (D (q + 1)) (D (q + 2)) S) (hc' : zCanD (D q) (D (q + 1)) (D (q + 2)) T) (h : R24 S T) : R24 (zDo (D q) (D (q + 1)) (D (q + 2)) S) (zDo (D q) (D (q + 1)) (D (q + 2)) T) := by
  obtain ⟨h1, h2, h3, h4⟩ := h
  unfold tDeed at hd
  unfold zDo
  by_cases e0 : D q = 0
  · rw [if_pos e0, if_pos e0]
    obtain ⟨f88, f24, f27, f28, fc, f107, f104, f99⟩ := zSlot_f hS.1
    obtain ⟨g88, g24, g27, g28, gc, g107, g104, g99⟩ := zSlot_f hT.1
    exact ⟨by rw [f88 29 (by omega) (by omega) (by omega), g88 29 (by omega) (by omega) (by omega), h1], by rw [f24, g24, h2], by rw [f88 10 (by omega) (by omega) (by omega), g88 10 (by omega) (by omega) (by omega), h3], fun i i0 i1 => by rw [f99 i i0 i1, g99 i i0 i1]⟩
  · rw [if_neg e0, if_neg e0]
    by_cases e1 : D q = 1
    · rw [if_pos e1, if_pos e1]
      obtain ⟨a1, a2, a3, a4⟩ := zSlots_ok (D (q + 1)).toNat S hS
      obtain ⟨b1, b2, b3, b4⟩ := zSlots_ok (D (q + 1)).toNat T hT
      exact ⟨by rw [a2 29 (by omega) (by omega) (by omega), b2 29 (by omega) (by omega) (by omega), h1], by rw [a3, b3, h2], by rw [a2 10 (by omega) (by omega) (by omega), b2 10 (by omega) (by omega) (by omega), h3], fun i i0 i1 => by rw [zSlots_99 hS _ i i0 i1 (by omega), zSlots_99 hT _ i i0 i1 (by omega)]⟩
    · rw [if_neg e1, if_neg e1]
      have hz : zCan (D q) (D (q + 1)) (D (q + 2)) S := by
        rcases hc with z | z
        · omega
        · exact z
      have hz' : zCan (D q) (D (q + 1)) (D (q + 2)) T := by
        rcases hc' with z | z
        · omega
        · exact z
      obtain ⟨o1, o2, o3, o4, o5⟩ := zBring_ok hS.1 hz (by omega) (by omega)
      obtain ⟨p1, p2, p3, p4, p5⟩ := zBring_ok hT.1 hz' (by omega) (by omega)
      exact ⟨by rw [o2 29 (by omega) (by omega) (by omega), p2 29 (by omega) (by omega) (by omega), h1], by rw [o2 24 (by omega) (by omega) (by omega), p2 24 (by omega) (by omega) (by omega), h2], by rw [o2 10 (by omega) (by omega) (by omega), p2 10 (by omega) (by omega) (by omega), h3], fun i i0 i1 => by rw [zBring_99 hS.1 hz (by omega), zBring_99 hT.1 hz' (by omega), h4 i i0 i1]⟩
theorem R24_step {D : Int → Int} {p0 N : Int} {S T : RS} (hS : OKD S) (hT : OKD T) (hD : ∀ k, 0 ≤ k → k < D p0 → tDeed D (p0 + 1 + 3 * k)) (h : R24 S T) : R24 (zStep D p0 N S) (zStep D p0 N T) := by
  have h1 := h.1
  by_cases hc : S 88 29 < N ∧ S 88 29 < D p0 ∧ zCanD (D (p0 + 1 + 3 * S 88 29)) (D (p0 + 1 + 3 * S 88 29 + 1)) (D (p0 + 1 + 3 * S 88 29 + 2)) S
  · have cc : zCanD (D (p0 + 1 + 3 * S 88 29)) (D (p0 + 1 + 3 * S 88 29 + 1)) (D (p0 + 1 + 3 * S 88 29 + 2)) T := by
      rcases hc.2.2 with z | z
      · exact Or.inl z
      · exact Or.inr ((R24_can hS.1.1 h).mp z)
    have d := R24_do hS.1 hT.1 (hD _ hS.2.1 hc.2.1) hc.2.2 cc h
    rw [zStep_y hc, zStep_y (S := T) (by rw [← h1]; exact ⟨hc.1, hc.2.1, cc⟩), ← h1]
    obtain ⟨d1, d2, d3, d4⟩ := d
    exact ⟨by rw [uS_eq, uS_eq], by rw [uS_nei (by omega), uS_nei (by omega)]; exact d2, by rw [uS_nei (by omega), uS_nei (by omega)]; exact d3, fun i i0 i1 => by rw [uS_ne (by omega), uS_ne (by omega)]; exact d4 i i0 i1⟩
  · rw [zStep_n hc, zStep_n (S := T) (fun z => hc (by
      rw [← h1] at z
      refine ⟨z.1, z.2.1, ?_⟩
      rcases z.2.2 with y | y
      · exact Or.inl y
      · exact Or.inr ((R24_can hS.1.1 h).mpr y)))]
    exact h
theorem R24_fol {D : Int → Int} {p0 N : Int} (hD : ∀ k, 0 ≤ k → k < D p0 → tDeed D (p0 + 1 + 3 * k)) : ∀ (n : Nat) {S T : RS}, OKD S → OKD T → R24 S T → R24 (zFol D p0 N n S) (zFol D p0 N n T)
  | 0, _, _, _, _, h => h
  | n + 1, _, _, hS, hT, h => R24_fol hD n (zStep_ok hS hD).1 (zStep_ok hT hD).1 (R24_step hS hT hD h)
/-- what is told of ports, deeds, facts -/
def FC (D : Int → Int) (p0 l0 P d : Int) : Prop := (1 ≤ P ∧ P ≤ 6) ∧ (1 ≤ d ∧ d ≤ 9) ∧ (0 ≤ D p0 ∧ D p0 ≤ 40) ∧ (∀ k, 0 ≤ k → k < D p0 → tDeed D (p0 + 1 + 3 * k)) ∧ (0 ≤ D l0 ∧ D l0 ≤ 8) ∧ ∀ k, 0 ≤ k → k < D l0 → tFact D (l0 + 1 + 4 * k)
noncomputable def zFF (D : Int → Int) (p0 P d r p : Int) (Z : RS) : RS := zFol D p0 40 40 (zBeg P r d p Z)
theorem zFF_24 {D : Int → Int} {p0 l0 P d r p r' p' : Int} {Z Z' : RS} (h : FC D p0 l0 P d) (hr : 1 ≤ r ∧ r ≤ 4) (hp : 0 ≤ p ∧ p ≤ 5) (hr' : 1 ≤ r' ∧ r' ≤ 4) (hp' : 0 ≤ p' ∧ p' ≤ 5) : zFF D p0 P d r p Z 88 24 = zFF D p0 P d r' p' Z' 88 24 := by
  obtain ⟨hP, hd, _, hD, _⟩ := h
  refine (R24_fol hD 40 (OKD_beg hP hr hd hp Z) (OKD_beg hP hr' hd hp' Z') ⟨?_, ?_, rfl, fun i i0 i1 => ?_⟩).2.1
  · rw [zBeg_0 _ _ _ _ _ 29 (by omega), zBeg_0 _ _ _ _ _ 29 (by omega)]
  · rw [zBeg_0 _ _ _ _ _ 24 (by omega), zBeg_0 _ _ _ _ _ 24 (by omega)]
  · rw [zBeg_97 _ _ _ _ _ 99 (by omega) i ⟨i0, i1⟩, zBeg_97 _ _ _ _ _ 99 (by omega) i ⟨i0, i1⟩]
theorem zFF_ok {D : Int → Int} {p0 l0 P d r p : Int} {Z : RS} (h : FC D p0 l0 P d) (hr : 1 ≤ r ∧ r ≤ 4) (hp : 0 ≤ p ∧ p ≤ 5) : OKM (zFF D p0 P d r p Z) ∧ zFF D p0 P d r p Z 88 10 = P ∧ (∀ k, (30 ≤ k ∨ k = 12 ∨ k = 14) → zFF D p0 P d r p Z 88 k = (if k = 12 then d else Z 88 k)) ∧ ∀ c k, 110 < c → zFF D p0 P d r p Z c k = Z c k := by
  obtain ⟨hP, hd, h40, hD, _⟩ := h
  obtain ⟨a1, a2, a3, a4⟩ := zFol_ok (N := 40) hD 40 (OKD_beg hP hr hd hp Z)
  have z29 : zBeg P r d p Z 88 29 = 0 := zBeg_0 _ _ _ _ _ 29 (by omega)
  have b := a4 (by omega) (by omega)
  obtain ⟨hA, h29, h25, h24, h23⟩ := a1
  refine ⟨⟨hA, ?_, ?_⟩, a2 10 (by omega), fun k hk => ?_, fun c k hc => ?_⟩
  · show zFol D p0 40 40 (zBeg P r d p Z) 88 25 ≤ 360
    omega
  · show zFol D p0 40 40 (zBeg P r d p Z) 88 24 ≤ 360
    omega
  · show zFol D p0 40 40 (zBeg P r d p Z) 88 k = _
    rw [a2 k (by omega)]
    by_cases e : k = 12
    · rw [e]; rfl
    · rw [if_neg e]; exact zBeg_88 _ _ _ _ _ k (by omega)
  · show zFol D p0 40 40 (zBeg P r d p Z) c k = _
    rw [a3 c k hc]; exact zBeg_o _ _ _ _ _ c k (by omega)
/-- all facts of a log are so -/
def fSo (D : Int → Int) (l0 : Int) (T : RS) : Prop := ∀ k, 0 ≤ k → k < D l0 → ((D (l0 + 1 + 4 * k + 1) < T 88 24 ∧ T 109 (6 * D (l0 + 1 + 4 * k + 1) + D (l0 + 1 + 4 * k + 3)) = D (l0 + 1 + 4 * k + 2)) ↔ D (l0 + 1 + 4 * k) = 1)
def zKeep (code : Int) (T : RS) : RS := fun c i => if c = 88 ∧ i = 65 then T 88 65 + 1 else if c = 130 ∧ i = T 88 65 then code else if c = 131 ∧ 2520 * T 88 65 ≤ i ∧ i < 2520 * T 88 65 + 6 * T 88 24 then T 109 (i - 2520 * T 88 65) else T c i
noncomputable def zFE (D : Int → Int) (l0 code : Int) (T : RS) : RS := @ite _ (fSo D l0 T) (Classical.propDecidable _) (zKeep code T) T
theorem zFE_y {D : Int → Int} {l0 code : Int} {T : RS} (h : fSo D l0 T) : zFE D l0 code T = zKeep code T := by unfold zFE; exact @if_pos _ (Classical.propDecidable _) h _ _ _
theorem zFE_n {D : Int → Int} {l0 code : Int} {T : RS} (h : ¬ fSo D l0 T) : zFE D l0 code T = T := by unfold zFE; exact @if_neg _ (Classical.propDecidable _) h _ _ _
noncomputable def zFit (D : Int → Int) (p0 l0 P d r p : Int) (Z : RS) : RS := zFE D l0 (10 * r + p) (zFF D p0 P d r p Z)
noncomputable def zFitP (D : Int → Int) (p0 l0 P d r : Int) : Nat → RS → RS
  | 0, Z => Z
  | n + 1, Z => zFit D p0 l0 P d r n (zFitP D p0 l0 P d r n Z)
noncomputable def zFitR (D : Int → Int) (p0 l0 P d : Int) : Nat → RS → RS
  | 0, Z => Z
  | n + 1, Z => zFitP D p0 l0 P d (n + 1) P.toNat (zFitR D p0 l0 P d n Z)
theorem zKeep_65 (code : Int) (T : RS) : zKeep code T 88 65 = T 88 65 + 1 := by unfold zKeep; rw [if_pos ⟨rfl, rfl⟩]
theorem zKeep_88 (code : Int) (T : RS) (k : Int) (h : k ≠ 65) : zKeep code T 88 k = T 88 k := by unfold zKeep; rw [if_neg (by omega), if_neg (by omega), if_neg (by omega)]
theorem zKeep_130 (code : Int) (T : RS) (k : Int) : zKeep code T 130 k = if k = T 88 65 then code else T 130 k := by
  unfold zKeep
  rw [if_neg (by omega)]
  by_cases e : k = T 88 65
  · rw [if_pos ⟨rfl, e⟩, if_pos e]
  · rw [if_neg (fun z => e z.2), if_neg (by omega), if_neg e]
theorem zKeep_131 (code : Int) (T : RS) (i : Int) : zKeep code T 131 i = if 2520 * T 88 65 ≤ i ∧ i < 2520 * T 88 65 + 6 * T 88 24 then T 109 (i - 2520 * T 88 65) else T 131 i := by
  unfold zKeep
  rw [if_neg (by omega), if_neg (by omega)]
  by_cases e : 2520 * T 88 65 ≤ i ∧ i < 2520 * T 88 65 + 6 * T 88 24
  · rw [if_pos ⟨rfl, e⟩, if_pos e]
  · rw [if_neg (fun z => e z.2), if_neg e]
theorem zKeep_o (code : Int) (T : RS) (c : Nat) (i : Int) (h : c ≠ 88 ∧ c ≠ 130 ∧ c ≠ 131) : zKeep code T c i = T c i := by unfold zKeep; rw [if_neg (by omega), if_neg (by omega), if_neg (by omega)]
/-- fits laid so far, in bounds -/
def ZI (n24 m : Int) (Z : RS) : Prop := (0 ≤ Z 88 65 ∧ Z 88 65 ≤ m) ∧ (∀ k, 0 ≤ k → k < Z 88 65 → 10 ≤ Z 130 k ∧ Z 130 k ≤ 100) ∧ (∀ k, 0 ≤ k → k < Z 88 65 → ∀ c, 0 ≤ c → c < 6 * n24 → -1 ≤ Z 131 (2520 * k + c) ∧ Z 131 (2520 * k + c) ≤ 5) ∧ (m = 0 ∨ Z 88 24 = n24)
theorem ZI_up {n24 m m' : Int} {Z : RS} (h : ZI n24 m Z) (hm : m ≤ m') (h0 : m' = 0 ∨ Z 88 24 = n24) : ZI n24 m' Z := ⟨⟨h.1.1, by have := h.1.2; omega⟩, h.2.1, h.2.2.1, h0⟩
theorem ZI_fit {D : Int → Int} {p0 l0 P d r p n24 m : Int} {Z : RS} (h : FC D p0 l0 P d) (hr : 1 ≤ r ∧ r ≤ 4) (hp : 0 ≤ p ∧ p ≤ 5) (h24 : ∀ Z r p, (1 ≤ r ∧ r ≤ 4) → (0 ≤ p ∧ p ≤ 5) → zFF D p0 P d r p Z 88 24 = n24) (hm : 0 ≤ m) (hZ : ZI n24 m Z) : ZI n24 (m + 1) (zFit D p0 l0 P d r p Z) := by
  obtain ⟨a1, a2, a3, a4⟩ := zFF_ok (Z := Z) h hr hp
  have e24 := h24 Z r p hr hp
  obtain ⟨⟨z1, z2⟩, z3, z4, z5⟩ := hZ
  have e65 := a3 65 (by omega)
  rw [if_neg (by omega)] at e65
  have hn : n24 ≤ 360 := by rw [← e24]; exact a1.2.2
  have T0 : ZI n24 (m + 1) (zFF D p0 P d r p Z) := by
    refine ⟨by rw [e65]; omega, fun k k0 k1 => ?_, fun k k0 k1 c c0 c1 => ?_, Or.inr e24⟩
    · rw [e65] at k1
      rw [a4 130 k (by omega)]; exact z3 k k0 k1
    · rw [e65] at k1
      rw [a4 131 _ (by omega)]; exact z4 k k0 k1 c c0 c1
  unfold zFit
  by_cases e : fSo D l0 (zFF D p0 P d r p Z)
  · rw [zFE_y e]
    obtain ⟨⟨t1, t2⟩, t3, t4, t5⟩ := T0
    refine ⟨by rw [zKeep_65, e65]; omega, fun k k0 k1 => ?_, fun k k0 k1 c c0 c1 => ?_, Or.inr (by rw [zKeep_88 _ _ _ (by omega)]; exact e24)⟩
    · rw [zKeep_65] at k1
      rw [zKeep_130]
      split
      · omega
      · exact t3 k k0 (by omega)
    · rw [zKeep_65] at k1
      rw [zKeep_131, e24]
      by_cases e9 : k = zFF D p0 P d r p Z 88 65
      · rw [if_pos (by omega), show 2520 * k + c - 2520 * zFF D p0 P d r p Z 88 65 = c by omega]
        have := OKH_6 a1 c c0 (by rw [e24]; exact c1)
        omega
      · rw [if_neg (by omega)]; exact t4 k k0 (by omega) c c0 c1
  · rw [zFE_n e]; exact T0
