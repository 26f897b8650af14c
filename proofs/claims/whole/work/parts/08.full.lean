/-- what calls that only ask leave: told cells; the class' own cells when the reference runs, the reference's when the class runs -/
def frC (σ τ : gS) : Prop := (∀ c, c < 27 → ∀ i, gI τ c i = gI σ c i) ∧ ∀ c, 88 ≤ c → ∀ i, gI τ c i = gI σ c i
theorem frC.rfl' {σ : gS} : frC σ σ := ⟨fun _ _ _ => rfl, fun _ _ _ => rfl⟩
theorem frC.trans {σ τ υ : gS} (h : frC σ τ) (k : frC τ υ) : frC σ υ := ⟨fun c hc i => (k.1 c hc i).trans (h.1 c hc i), fun c hc i => (k.2 c hc i).trans (h.2 c hc i)⟩
theorem frC.set {σ : gS} {c : Nat} {i v : Int} (hc : 27 ≤ c ∧ c < 88) : frC σ (sI σ c i v) := ⟨fun c' h i' => sI_ne (by omega), fun c' h i' => sI_ne (by omega)⟩
theorem frC.of {σ τ : gS} {a z : Nat} (ha : 27 ≤ a ∧ z < 88) (h : ∀ c i, c < a ∨ z < c → gI τ c i = gI σ c i) : frC σ τ := ⟨fun c hc i => h c i (by omega), fun c hc i => h c i (by omega)⟩
theorem frC.same {σ τ : gS} (h : frC σ τ) : tSame σ τ := ⟨h.1, h.2 89 (by omega), h.2 90 (by omega)⟩
/-- the reference asks: told cells stay -/
def frQ (σ τ : gS) : Prop := (∀ c, c < 88 → ∀ i, gI τ c i = gI σ c i) ∧ (∀ i, gI τ 89 i = gI σ 89 i) ∧ ∀ i, gI τ 90 i = gI σ 90 i
theorem frQ.rfl' {σ : gS} : frQ σ σ := ⟨fun _ _ _ => rfl, fun _ => rfl, fun _ => rfl⟩
theorem frQ.trans {σ τ υ : gS} (h : frQ σ τ) (k : frQ τ υ) : frQ σ υ := ⟨fun c hc i => (k.1 c hc i).trans (h.1 c hc i), fun i => (k.2.1 i).trans (h.2.1 i), fun i => (k.2.2 i).trans (h.2.2 i)⟩
theorem frQ.set {σ : gS} {c : Nat} {i v : Int} (hc : 88 ≤ c ∧ c ≠ 89 ∧ c ≠ 90) : frQ σ (sI σ c i v) := ⟨fun c' h i' => sI_ne (by omega), fun i' => sI_ne (by omega), fun i' => sI_ne (by omega)⟩
theorem frQ.same {σ τ : gS} (h : frQ σ τ) : tSame σ τ := ⟨fun c hc i => h.1 c (by omega) i, h.2.1, h.2.2⟩
theorem frR.q {σ τ : gS} (h : frR σ τ) : frQ σ τ := ⟨fun c hc i => h c i (by omega) (by omega) (by omega) (by omega) (by omega), fun i => h 89 i (by omega) (by omega) (by omega) (by omega) (by omega), fun i => h 90 i (by omega) (by omega) (by omega) (by omega) (by omega)⟩
/-- full load: pointers and matches behind n slots -/
def fL (P r p : Int) : Nat → mX
  | 0 => bgX P p
  | n + 1 => sRnds P (fun _ _ => true) r.toNat (frX (fL P r p n))
theorem okX_fL {P r p : Int} (hP : 1 ≤ P) : ∀ n, okX P (fL P r p n)
  | 0 => okX_bg hP
  | n + 1 => okX_rnds hP (okX_fr (okX_fL hP n)) _
section MF
variable {l : Launch} {G : gG}
theorem c_isCrossbar (x : Int) (rx : gR x) (σ : gS) (hI : tInv σ) (Q : Int → gS → Prop)
    (h0 : ¬ (0 ≤ x ∧ x < gI σ 89 0) → Q 0 σ)
    (h1 : 0 ≤ x → x < gI σ 89 0 → ∀ τ, gI τ 88 10 = gI σ 89 (610 + 4 * x) → gI τ 88 11 = gI σ 89 (610 + 4 * x + 1) → gI τ 88 12 = gI σ 89 (610 + 4 * x + 2) → gI τ 88 13 = gI σ 89 (610 + 4 * x + 3) → (∀ c i, ¬ (c = 88 ∧ 10 ≤ i ∧ i ≤ 13) → gI τ c i = gI σ c i) → Q 1 τ) : eX12_isCrossbar l G x σ Q := by
  obtain ⟨k1, k5, k6, k7⟩ := tTx0 hI
  have b0 := k1 0 (by omega) (by omega)
  refine vX12_isCrossbar x rx σ Q (c_isOf 0 x (by decide) rx σ (by decide) b0.2 _ (fun r hr _ => ⟨fun e => ?_, fun e => h0 (by omega)⟩))
  refine c_placeOf 0 x (by decide) rx (by omega) σ _ (fun _ => ?_)
  rw [if_pos rfl]
  refine ⟨by omega, fun σ1 e1 => ⟨by omega, fun σ2 e2 => ⟨by omega, fun σ3 e3 => ⟨by omega, fun σ4 e4 => h1 (by omega) (by omega) σ4 ?_ ?_ ?_ ?_ (fun c i hc => ?_)⟩⟩⟩⟩
  · rw [e4, sI_nei (by omega), e3, sI_nei (by omega), e2, sI_nei (by omega), e1, sI_eq]
  · rw [e4, sI_nei (by omega), e3, sI_nei (by omega), e2, sI_eq, e1, sI_ne (by omega)]
  · rw [e4, sI_nei (by omega), e3, sI_eq, e2, sI_ne (by omega), e1, sI_ne (by omega)]
  · rw [e4, sI_eq, e3, sI_ne (by omega), e2, sI_ne (by omega), e1, sI_ne (by omega)]
  · rw [e4, sI_at, if_neg (by omega), e3, sI_at, if_neg (by omega), e2, sI_at, if_neg (by omega), e1, sI_at, if_neg (by omega)]
theorem c_isPort (x : Int) (rx : gR x) (σ : gS) (hP : 1 ≤ gI σ 88 10 ∧ gI σ 88 10 ≤ 6) (Q : Int → gS → Prop) (h : ∀ r, (r = 1 ∧ 0 ≤ x ∧ x < gI σ 88 10) ∨ (r = 0 ∧ ¬ (0 ≤ x ∧ x < gI σ 88 10)) → Q r σ) : eX12_isPort l G x σ Q :=
  vX12_isPort x rx σ Q (c_isIn x 0 _ rx (by decide) ⟨by omega, by omega⟩ σ _ (fun r hr _ => h r (by omega)))
/-- the reference begins -/
theorem c_begins (P p : Int) (hP : 1 ≤ P ∧ P ≤ 6) (hp : 0 ≤ p ∧ p ≤ 5) (σ : gS) (h10 : gI σ 88 10 = P) (h13 : gI σ 88 13 = p) (Q : gS → Prop)
    (h : ∀ τ, (∀ o, 0 ≤ o → o < 6 → gI τ 92 o = p % P ∧ gI τ 93 o = p % P ∧ gI τ 97 o = 0 ∧ gI τ 98 o = 0 ∧ gI τ 99 o = 0) → (∀ k, 0 ≤ k → k < 36 → gI τ 95 k = 0) → (∀ k, 23 ≤ k → k ≤ 29 → gI τ 88 k = 0) → (∀ c i, c ≠ 92 → c ≠ 93 → c ≠ 97 → c ≠ 98 → c ≠ 99 → c ≠ 95 → ¬ (c = 88 ∧ 23 ≤ i ∧ i ≤ 29) → gI τ c i = gI σ c i) → Q τ) : eX12_begins l G σ Q := by
  refine vX12_begins σ Q ?_
  refine gloopI (α := gS) 0 6 (fun j τ => j ≤ 6 ∧ (∀ o, 0 ≤ o → o < j → gI τ 92 o = p % P ∧ gI τ 93 o = p % P ∧ gI τ 97 o = 0 ∧ gI τ 98 o = 0 ∧ gI τ 99 o = 0) ∧ (∀ c i, c ≠ 92 → c ≠ 93 → c ≠ 97 → c ≠ 98 → c ≠ 99 → gI τ c i = gI σ c i)) (fun j τ => kX12_begins_2 l G j τ Q) ?_ ?_ 0 σ (by omega) ⟨by omega, fun o o0 o1 => by omega, fun _ _ _ _ _ _ _ => rfl⟩
  · rintro j τ j0 j1 ⟨z0, z1, z2⟩ ih
    have t10 : gI τ 88 10 = P := by rw [z2 _ _ (by omega) (by omega) (by omega) (by omega) (by omega)]; exact h10
    have t13 : gI τ 88 13 = p := by rw [z2 _ _ (by omega) (by omega) (by omega) (by omega) (by omega)]; exact h13
    refine vX12_begins_2 j ⟨by omega, by omega⟩ τ Q ?_
    rw [t10, t13]
    refine ⟨fun e => by omega, fun _ => ⟨by omega, by omega, fun τ1 e1 => ?_⟩⟩
    have u10 : gI τ1 88 10 = P := by rw [e1, sI_ne (by omega)]; exact t10
    have u13 : gI τ1 88 13 = p := by rw [e1, sI_ne (by omega)]; exact t13
    rw [u10, u13]
    refine ⟨by omega, fun τ2 e2 τ3 e3 τ4 e4 τ5 e5 => ih τ5 ⟨by omega, fun o o0 o1 => ?_, fun c i c1 c2 c3 c4 c5 => ?_⟩⟩
    · rw [grem_pos p P (by omega) (by omega)] at e1 e2
      have fr : ∀ c k, k ≠ j → gI τ5 c k = gI τ c k := fun c k hk => by rw [e5, sI_nei hk, e4, sI_nei hk, e3, sI_nei hk, e2, sI_nei hk, e1, sI_nei hk]
      by_cases ho : o = j
      · subst ho
        refine ⟨?_, ?_, ?_, ?_, ?_⟩
        · rw [e5, sI_ne (by omega), e4, sI_ne (by omega), e3, sI_ne (by omega), e2, sI_ne (by omega), e1, sI_eq]
        · rw [e5, sI_ne (by omega), e4, sI_ne (by omega), e3, sI_ne (by omega), e2, sI_eq]
        · rw [e5, sI_ne (by omega), e4, sI_ne (by omega), e3, sI_eq]
        · rw [e5, sI_ne (by omega), e4, sI_eq]
        · rw [e5, sI_eq]
      · rw [fr _ _ ho, fr _ _ ho, fr _ _ ho, fr _ _ ho, fr _ _ ho]; exact z1 o o0 (by omega)
    · rw [e5, sI_ne c5, e4, sI_ne c4, e3, sI_ne c3, e2, sI_ne c2, e1, sI_ne c1]; exact z2 c i c1 c2 c3 c4 c5
  · rintro j τ j0 ⟨z0, z1, z2⟩
    have hj : j = 6 := by omega
    subst hj
    refine vX12_begins_2 6 (by decide) τ Q ⟨fun _ => ?_, fun e => by omega⟩
    refine gloopI (α := gS) 0 36 (fun k υ => k ≤ 36 ∧ (∀ i, 0 ≤ i → i < k → gI υ 95 i = 0) ∧ (∀ c i, c ≠ 95 → gI υ c i = gI τ c i)) (fun k υ => kX12_begins_67 l G k υ Q) ?_ ?_ 0 τ (by omega) ⟨by omega, fun i i0 i1 => by omega, fun _ _ _ => rfl⟩
    · rintro k υ k0 k1 ⟨y0, y1, y2⟩ ih
      refine vX12_begins_67 k ⟨by omega, by omega⟩ υ Q ⟨fun e => by omega, fun _ => ⟨by omega, fun w ew => ih w ⟨by omega, fun i i0 i1 => ?_, fun c i hc => ?_⟩⟩⟩
      · rw [ew, sI_at]
        split
        · rfl
        · rename_i hq; exact y1 i i0 (by omega)
      · rw [ew, sI_ne hc]; exact y2 c i hc
    · rintro k υ k0 ⟨y0, y1, y2⟩
      have hk : k = 36 := by omega
      subst hk
      refine vX12_begins_67 36 (by decide) υ Q ⟨fun _ w1 e1 w2 e2 w3 e3 w4 e4 w5 e5 w6 e6 w7 e7 => ?_, fun e => by omega⟩
      have fr : ∀ c i, ¬ (c = 88 ∧ 23 ≤ i ∧ i ≤ 29) → gI w7 c i = gI υ c i := fun c i hc => by
        rw [e7, sI_at, if_neg (by omega), e6, sI_at, if_neg (by omega), e5, sI_at, if_neg (by omega), e4, sI_at, if_neg (by omega), e3, sI_at, if_neg (by omega), e2, sI_at, if_neg (by omega), e1, sI_at, if_neg (by omega)]
      refine h w7 (fun o o0 o1 => ?_) (fun i i0 i1 => ?_) (fun i i0 i1 => ?_) (fun c i c1 c2 c3 c4 c5 c6 c7 => ?_)
      · rw [fr _ _ (by omega), fr _ _ (by omega), fr _ _ (by omega), fr _ _ (by omega), fr _ _ (by omega), y2 _ _ (by omega), y2 _ _ (by omega), y2 _ _ (by omega), y2 _ _ (by omega), y2 _ _ (by omega)]
        exact z1 o o0 o1
      · rw [fr _ _ (by omega)]; exact y1 i i0 i1
      · have : i = 23 ∨ i = 24 ∨ i = 25 ∨ i = 26 ∨ i = 27 ∨ i = 28 ∨ i = 29 := by omega
        rw [e7, sI_at, e6, sI_at, e5, sI_at, e4, sI_at, e3, sI_at, e2, sI_at, e1, sI_at]
        rcases this with rfl | rfl | rfl | rfl | rfl | rfl | rfl <;> simp
      · rw [fr _ _ c7, y2 _ _ c6]; exact z2 c i c1 c2 c3 c4 c5
/-- a slot of full load, by the reference -/
theorem c_loads (P r : Int) (hP : 1 ≤ P ∧ P ≤ 6) (hr : 1 ≤ r ∧ r ≤ 4) (X : mX) (hX : okX P X) (σ : gS) (h10 : gI σ 88 10 = P) (h11 : gI σ 88 11 = r) (hg : ∀ o, 0 ≤ o → o < 6 → gI σ 92 o = X.2.2.1 o ∧ gI σ 93 o = X.2.2.2.1 o) (Q : gS → Prop)
    (h : ∀ τ, MM τ P 1 (fun _ _ => true) (sRnds P (fun _ _ => true) r.toNat (frX X)) → frR σ τ → Q τ) : eX12_loads l G σ Q := by
  refine vX12_loads σ Q (fun σ1 e1 σ2 e2 => ?_)
  have f11 : gI σ2 88 11 = r := by rw [e2, sI_nei (by omega), e1, sI_nei (by omega)]; exact h11
  rw [f11]
  have F : frR σ σ2 := by rw [e2, e1]; exact (frR.set (by omega)).trans (frR.set (by omega))
  refine c_matches P 1 hP (Or.inr rfl) (fun _ _ => true) (fun _ => false, fun _ => false, X.2.2.1, X.2.2.2.1, fun o => gI σ 111 o) hX r (by omega) σ2 ⟨?_, ?_, ?_, fun o o0 o1 => ?_, fun i o _ _ _ _ => by simp⟩ _ (fun τ tM tF => h τ tM (F.trans tF))
  · rw [e2, sI_nei (by omega), e1, sI_nei (by omega)]; exact h10
  · rw [e2, sI_nei (by omega), e1, sI_eq]; exact isM_congr isM_0 (fun k _ _ => by simp)
  · rw [e2, sI_eq]; exact isM_congr isM_0 (fun k _ _ => by simp)
  · rw [e2, sI_ne (by omega), sI_ne (by omega), sI_ne (by omega), e1, sI_ne (by omega), sI_ne (by omega), sI_ne (by omega)]
    exact ⟨(hg o o0 o1).1, (hg o o0 o1).2, rfl⟩
/-- full load, by the class: its beginning -/
theorem c_beginF (x P r p : Int) (hx : 0 ≤ x ∧ x < 2) (hP : 1 ≤ P ∧ P ≤ 6) (hr : 1 ≤ r ∧ r ≤ 4) (hp : 0 ≤ p ∧ p ≤ 5) (σ : gS) (h0 : gI σ 4 (x * 4 + 0) = P) (h1 : gI σ 4 (x * 4 + 1) = r) (h3 : gI σ 4 (x * 4 + 3) = p) (Q : gS → Prop)
    (h : ∀ τ, CM τ 59 P (fun _ _ => true) (bgX P p) → gI τ 58 1 = r → frC σ τ → Q τ) : eX2_begin l G x σ Q := by
  have rx : gR x := ⟨by omega, by omega⟩
  refine vX2_begin x rx σ Q (vX10_bar x 0 rx (by decide) σ _ ⟨by omega, fun _ => ?_⟩)
  refine vX10_bar x 3 rx (by decide) σ _ ⟨by omega, fun _ => ?_⟩
  rw [h0, h3]
  refine c_begin 59 (Or.inr rfl) P p hP hp σ _ (fun σ1 hC hW hF => ?_)
  refine vX10_bar x 1 rx (by decide) σ1 _ ⟨by omega, fun _ σ2 e2 => ?_⟩
  rw [hF 4 _ (by omega), h1] at e2
  have hm := isM_full P hP
  obtain ⟨c1, c2, c3, c4, c5⟩ := hC
  have F1 : frC σ σ1 := frC.of (a := 59) (z := 64) (by omega) hF
  have F2 : frC σ σ2 := by rw [e2]; exact F1.trans (frC.set (by omega))
  have s2 : ∀ c i, c ≠ 58 → gI σ2 c i = gI σ1 c i := fun c i hc => by rw [e2, sI_ne hc]
  refine gloopI (α := gS) 0 P (fun j τ => j ≤ P ∧ (∀ c i, c ≠ 62 → gI τ c i = gI σ2 c i) ∧ (∀ o, 0 ≤ o → o < j → gI τ 62 o = gshl 1 P - 1)) (fun j τ => kX2_begin_31 l G x j τ Q) ?_ ?_ 0 σ2 (by omega) ⟨by omega, fun _ _ _ => rfl, fun o o0 o1 => by omega⟩
  · rintro j τ j0 j1 ⟨z0, z1, z2⟩ ih
    have t0 : gI τ 59 0 = P := by rw [z1 _ _ (by omega), s2 _ _ (by omega)]; exact c1
    refine vX2_begin_31 x j rx ⟨by omega, by omega⟩ τ Q ?_
    rw [t0]
    refine ⟨fun e => by omega, fun _ => ⟨by omega, ⟨by have := hm.1; omega, by have := hm.2.1; omega⟩, fun υ eu => ih υ ⟨by omega, fun c i hc => ?_, fun o o0 o1 => ?_⟩⟩⟩
    · rw [eu, sI_ne hc]; exact z1 c i hc
    · rw [eu, sI_at]
      split
      · rfl
      · rename_i hq; exact z2 o o0 (by omega)
  · rintro j τ j0 ⟨z0, z1, z2⟩
    have hj : j = P := by omega
    subst hj
    refine vX2_begin_31 x j rx ⟨by omega, by omega⟩ τ Q ?_
    have t0 : gI τ 59 0 = j := by rw [z1 _ _ (by omega), s2 _ _ (by omega)]; exact c1
    rw [t0]
    have t : ∀ c i, c ≠ 62 → c ≠ 58 → gI τ c i = gI σ1 c i := fun c i hc hd => by rw [z1 _ _ hc, s2 _ _ hd]
    refine ⟨fun _ => h τ ⟨t0, by rw [t _ _ (by omega) (by omega)]; exact c2, by rw [t _ _ (by omega) (by omega)]; exact c3, fun o o0 o1 => ?_, fun o o0 o1 => ?_⟩ ?_ ?_, fun e => by omega⟩
    · rw [t _ _ (by omega) (by omega), t _ _ (by omega) (by omega), t _ _ (by omega) (by omega)]; exact c4 o o0 o1
    · rw [z2 o o0 o1]; exact isM_congr hm (fun k _ _ => by simp)
    · rw [z1 _ _ (by omega), e2, sI_eq]
    · exact ⟨fun c hc i => by rw [z1 _ _ (by omega)]; exact F2.1 c hc i, fun c hc i => by rw [z1 _ _ (by omega)]; exact F2.2 c hc i⟩
theorem c_passSlotF (P r : Int) (hP : 1 ≤ P ∧ P ≤ 6) (hr : 1 ≤ r ∧ r ≤ 4) (X : mX) (hX : okX P X) (σ : gS) (hC : CM σ 59 P (fun _ _ => true) X) (h1 : gI σ 58 1 = r) (Q : gS → Prop)
    (h : ∀ τ, CM τ 59 P (fun _ _ => true) (sRnds P (fun _ _ => true) r.toNat (frX X)) → frB 59 σ τ → τ.2 = σ.2 → Q τ) : eX2_passSlot l G σ Q := by
  refine vX2_passSlot σ Q (c_freeC 59 (Or.inr rfl) P hP _ X σ hC _ (fun σ1 hC1 hF1 => ?_))
  rw [hF1.1 58 1 (by omega), h1]
  exact c_passRounds 59 (Or.inr rfl) P hP _ _ (okX_fr hX) r (by omega) σ1 hC1 _ (fun τ tC tF => h τ tC (fun c i hc => (tF.1 c i hc).trans (hF1.1 c i hc)) (tF.2.2.2.trans hF1.2.2.2))
theorem p_full (x1 x2 x3 : Int) (r1 : gR x1) (r2 : gR x2) (r3 : gR x3) (σ : gS) (hI : tInv σ) : eX11_full l G x1 x2 x3 σ (fun r τ => gR r → eX12_full l G x1 x2 x3 τ (fun r' υ => gR r' → r = r' ∧ tInv υ)) := by
  obtain ⟨k1, k5, k6, k7⟩ := tTx0 hI
  have b0 := k1 0 (by omega) (by omega)
  -- the reference, from any store that has what is told
  have B : ∀ (v : Int) (τ : gS), frC σ τ → (¬ (0 ≤ x1 ∧ x1 < gI σ 89 0 ∧ 0 ≤ x2 ∧ x2 < 100 ∧ 0 ≤ x3 ∧ x3 < gI σ 89 (610 + 4 * x1)) → v = -1) → (0 ≤ x1 ∧ x1 < gI σ 89 0 ∧ 0 ≤ x2 ∧ x2 < 100 ∧ 0 ≤ x3 ∧ x3 < gI σ 89 (610 + 4 * x1) → v = (fL (gI σ 89 (610 + 4 * x1)) (gI σ 89 (610 + 4 * x1 + 1)) (gI σ 89 (610 + 4 * x1 + 3)) (x2 + 1).toNat).2.2.2.2 x3) → eX12_full l G x1 x2 x3 τ (fun r' υ => gR r' → v = r' ∧ tInv υ) := by
    intro v τ hF hn hy
    have hIt : tInv τ := tInv.same hF.same hI
    have q89 : ∀ i, gI τ 89 i = gI σ 89 i := hF.2 89 (by omega)
    refine vX12_full x1 x2 x3 r1 r2 r3 τ _ (c_isCrossbar x1 r1 τ hIt _ (fun e _ => ⟨fun _ _ => ⟨hn (by rw [q89] at e; omega), hIt⟩, fun e => absurd rfl e⟩) (fun e0 e1 τ1 t10 t11 t12 t13 tf _ => ⟨fun e => absurd e (by decide), fun _ => ?_⟩))
    rw [q89] at e1 t10 t11 t12 t13
    obtain ⟨kb, kt⟩ := k5 x1 e0 e1
    unfold tBar at kt
    have Q1 : frQ τ τ1 := ⟨fun c hc i => tf c i (by omega), fun i => tf 89 i (by omega), fun i => tf 90 i (by omega)⟩
    have I1 : tInv τ1 := tInv.same Q1.same hIt
    generalize hPe : gI σ 89 (610 + 4 * x1) = P at *
    generalize hre : gI σ 89 (610 + 4 * x1 + 1) = r at *
    generalize hpe : gI σ 89 (610 + 4 * x1 + 3) = p at *
    refine c_isIn x2 0 99 r2 (by decide) (by decide) τ1 _ (fun a ha _ => ⟨fun e _ => ⟨hn (by omega), I1⟩, fun e => ?_⟩)
    refine c_isPort x3 r3 τ1 (by omega) _ (fun c hc _ => ⟨fun e2 => ?_, fun e2 _ => ⟨hn (by omega), I1⟩⟩)
    refine c_begins P p (by omega) (by omega) τ1 t10 t13 _ (fun τ2 a1 a2 a3 a4 => ?_)
    have Q2 : frQ τ1 τ2 := ⟨fun c hc i => a4 c i (by omega) (by omega) (by omega) (by omega) (by omega) (by omega) (by omega), fun i => a4 89 i (by omega) (by omega) (by omega) (by omega) (by omega) (by omega) (by omega), fun i => a4 90 i (by omega) (by omega) (by omega) (by omega) (by omega) (by omega) (by omega)⟩
    refine gloopI (α := gS) 0 (x2 + 1) (fun j υ => j ≤ x2 + 1 ∧ gI υ 88 10 = P ∧ gI υ 88 11 = r ∧ (∀ o, 0 ≤ o → o < 6 → gI υ 92 o = (fL P r p j.toNat).2.2.1 o ∧ gI υ 93 o = (fL P r p j.toNat).2.2.2.1 o ∧ (1 ≤ j → gI υ 111 o = (fL P r p j.toNat).2.2.2.2 o)) ∧ frQ τ1 υ) (fun j υ => kX12_full_35 l G x1 x2 x3 j υ _) ?_ ?_ 0 τ2 (by omega) ⟨by omega, ?_, ?_, fun o o0 o1 => ⟨(a1 o o0 o1).1, (a1 o o0 o1).2.1, fun e => absurd e (by decide)⟩, Q2⟩
    · rintro j υ j0 j1 ⟨z0, z1, z2, z3, z4⟩ ih
      refine vX12_full_35 x1 x2 x3 j r1 r2 r3 ⟨by omega, by omega⟩ υ _ ⟨fun e => by omega, fun _ => ?_⟩
      refine c_loads P r (by omega) (by omega) (fL P r p j.toNat) (okX_fL (by omega) _) υ z1 z2 (fun o o0 o1 => ⟨(z3 o o0 o1).1, (z3 o o0 o1).2.1⟩) _ (fun w wM wF => ih w ⟨by omega, wM.1, ?_, fun o o0 o1 => ?_, z4.trans wF.q⟩)
      · rw [wF 88 11 (by omega) (by omega) (by omega) (by omega) (by omega)]; exact z2
      · rw [show (j + 1).toNat = j.toNat + 1 by omega]
        obtain ⟨m1, m2, m3⟩ := wM.2.2.2.1 o o0 o1
        exact ⟨m1, m2, fun _ => m3⟩
    · rintro j υ j0 ⟨z0, z1, z2, z3, z4⟩
      have hj : j = x2 + 1 := by omega
      subst hj
      refine vX12_full_35 x1 x2 x3 (x2 + 1) r1 r2 r3 ⟨by omega, by omega⟩ υ _ ⟨fun _ => ⟨by omega, fun _ => ⟨?_, tInv.same z4.same I1⟩⟩, fun e => by omega⟩
      rw [(z3 x3 (by omega) (by omega)).2.2 (by omega)]
      exact hy (by omega)
    · rw [a4 _ _ (by omega) (by omega) (by omega) (by omega) (by omega) (by omega) (by omega)]; exact t10
    · rw [a4 _ _ (by omega) (by omega) (by omega) (by omega) (by omega) (by omega) (by omega)]; exact t11
  refine vX11_full x1 x2 x3 r1 r2 r3 σ _ (c_has 0 x1 (by decide) r1 σ _ (fun a ha _ => ⟨fun e _ => B _ σ frC.rfl' (fun _ => rfl) (fun q => by omega), fun e => ⟨fun e1 _ => B _ σ frC.rfl' (fun _ => rfl) (fun q => by omega), fun e1 => ⟨fun e2 => ⟨fun e3 _ => B _ σ frC.rfl' (fun _ => rfl) (fun q => by omega), fun e3 => ?_⟩, fun e2 _ => B _ σ frC.rfl' (fun _ => rfl) (fun q => by omega)⟩⟩⟩))
  obtain ⟨kb, kt⟩ := k5 x1 (by omega) (by omega)
  have w0 := kb 0 (by omega) (by omega)
  have w1 := kb 1 (by omega) (by omega)
  have w3 := kb 3 (by omega) (by omega)
  rw [Int.add_zero (610 + 4 * x1)] at w0
  unfold tBar at kt
  refine vX10_bar x1 0 r1 (by decide) σ _ ⟨by omega, fun _ => ?_⟩
  rw [w0]
  refine ⟨fun e4 => ?_, fun e4 _ => B _ σ frC.rfl' (fun _ => rfl) (fun q => by omega)⟩
  generalize hPe : gI σ 89 (610 + 4 * x1) = P at *
  generalize hre : gI σ 89 (610 + 4 * x1 + 1) = r at *
  generalize hpe : gI σ 89 (610 + 4 * x1 + 3) = p at *
  refine vX2_inputAt x1 x2 x3 r1 r2 r3 σ _ (c_beginF x1 P r p (by omega) (by omega) (by omega) (by omega) σ w0 w1 w3 _ (fun σ1 hC hR hF => ?_))
  refine gloopI (α := gS) 0 (x2 + 1) (fun j υ => j ≤ x2 + 1 ∧ CM υ 59 P (fun _ _ => true) (fL P r p j.toNat) ∧ gI υ 58 1 = r ∧ frC σ υ) (fun j υ => kX2_inputAt_9 l G x1 x2 x3 j υ _) ?_ ?_ 0 σ1 (by omega) ⟨by omega, hC, hR, hF⟩
  · rintro j υ j0 j1 ⟨z0, z1, z2, z3⟩ ih
    refine vX2_inputAt_9 x1 x2 x3 j r1 r2 r3 ⟨by omega, by omega⟩ υ _ ⟨fun e => by omega, fun _ => ?_⟩
    refine c_passSlotF P r (by omega) (by omega) _ (okX_fL (by omega) _) υ z1 z2 _ (fun w wC wF _ => ih w ⟨by omega, ?_, ?_, z3.trans (frC.of (a := 59) (z := 64) (by omega) wF)⟩)
    · rw [show (j + 1).toNat = j.toNat + 1 by omega]; exact wC
    · rw [wF 58 1 (by omega)]; exact z2
  · rintro j υ j0 ⟨z0, z1, z2, z3⟩
    have hj : j = x2 + 1 := by omega
    subst hj
    refine vX2_inputAt_9 x1 x2 x3 (x2 + 1) r1 r2 r3 ⟨by omega, by omega⟩ υ _ ⟨fun _ => ⟨by omega, fun _ _ => B _ υ z3 (fun q => by omega) (fun _ => ?_)⟩, fun e => by omega⟩
    exact (z1.2.2.2.1 x3 (by omega) (by omega)).2.2
end MF
