def CT1 (τ : gS) (x : Tk) : Prop := gI τ 69 0 = x.1 ∧ ∀ k, 0 ≤ k → k < x.1 → gI τ 70 k = x.2.1 k ∧ gI τ 71 k = x.2.2.1 k ∧ gI τ 72 k = x.2.2.2 k
def CT (τ : gS) (x : Tk) (I : Int → Int) : Prop := CT1 τ x ∧ ∀ k, 0 ≤ k → k < x.1 → gI τ 73 k = I k
def cntI (x : Tk) (I : Int → Int) : Int := sm (fun j => if I j = -1 then 0 else 1) x.1.toNat
theorem cntI_full {x : Tk} {I : Int → Int} (h : cntI x I = x.1) (k : Int) (k0 : 0 ≤ k) (k1 : k < x.1) : I k ≠ -1 := by
  intro e
  have := sm_lt (f := fun j => if I j = -1 then 0 else 1) (g := fun _ => 1) x.1.toNat (fun j _ _ => by split <;> omega) ⟨k, k0, by omega, by simp [e]⟩
  rw [sm_one] at this
  unfold cntI at h
  omega
theorem cntI_r (x : Tk) (I : Int → Int) (h : 0 ≤ x.1) : 0 ≤ cntI x I ∧ cntI x I ≤ x.1 := by
  have := sm_r (f := fun j => if I j = -1 then 0 else 1) (a := 0) (b := 1) x.1.toNat (fun j _ _ => by split <;> omega)
  unfold cntI
  omega
theorem cntI_all {x : Tk} {I : Int → Int} (h0 : 0 ≤ x.1) (h : ∀ k, 0 ≤ k → k < x.1 → I k ≠ -1) : cntI x I = x.1 := by
  unfold cntI
  rw [sm_congr (g := fun _ => 1) x.1.toNat (fun j j0 j1 => by rw [if_neg (h j j0 (by omega))]), sm_one]
  omega
section SN
variable {l : Launch} {G : gG}
theorem c_comesBefore (a b : Int) (x : Tk) (P : Int) (hx : OKT P x) (hP : P ≤ 6) (ha : 0 ≤ a ∧ a < x.1) (hb : 0 ≤ b ∧ b < a) (σ : gS) (hC : CT1 σ x) (Q : Int → gS → Prop) (h0 : kyT x b < kyT x a → Q 0 σ) (h1 : kyT x a < kyT x b → Q 1 σ) : eX9_comesBefore l G a b σ Q := by
  have h40 := hx.2.1
  obtain ⟨a1, a2, a3⟩ := hC.2 a ha.1 ha.2
  obtain ⟨b1, b2, b3⟩ := hC.2 b hb.1 (by omega)
  have xa := hx.2.2 a ha.1 ha.2
  have xb := hx.2.2 b hb.1 (by omega)
  refine vX9_comesBefore a b ⟨by omega, by omega⟩ ⟨by omega, by omega⟩ σ Q ⟨by omega, by omega, fun v ev => ?_⟩
  rw [a1, a3, b1, b3] at ev
  unfold kyT at h0 h1
  rw [ev]
  split
  · split
    · exact h0 (by omega)
    · exact h1 (by omega)
  · split
    · exact h0 (by omega)
    · exact h1 (by omega)
theorem c_setNextIdeal (x : Tk) (P : Int) (hx : OKT P x) (hP : P ≤ 6) (I : Int → Int) (hI : PI x (fun _ _ => True) I) (σ : gS) (hC : CT σ x I) (Q : gS → Prop) (h0 : (∀ k, 0 ≤ k → k < x.1 → I k ≠ -1) → Q σ) (h1 : ∀ J υ, PI x (fun _ _ => True) J → cntI x J = cntI x I + 1 → CT υ x J → (∀ c i, c ≠ 73 → gI υ c i = gI σ c i) → Q υ) : eX9_setNextIdeal l G σ Q := by
  have h40 := hx.2.1
  have hx0 := hx.1
  have ci := cntI_r x I hx0
  refine vX9_setNextIdeal σ Q ?_
  refine gloopI (α := Int) 0 x.1 (fun k f => k ≤ x.1 ∧ ((f = -1 ∧ ∀ j, 0 ≤ j → j < k → I j ≠ -1) ∨ (0 ≤ f ∧ f < k ∧ I f = -1 ∧ ∀ j, 0 ≤ j → j < k → I j = -1 → j ≠ f → kyT x f < kyT x j))) (fun k f => kX9_setNextIdeal_4 l G f k σ Q) ?_ ?_ 0 (-1) (by omega) ⟨by omega, Or.inl ⟨rfl, fun j j0 j1 => by omega⟩⟩
  · rintro k f k0 k1 ⟨z0, z1⟩ ih
    refine vX9_setNextIdeal_4 f k ⟨by omega, by omega⟩ ⟨by omega, by omega⟩ σ Q ?_
    rw [hC.1.1, hC.2 k k0 k1]
    refine ⟨fun z => by omega, fun _ => ⟨by omega, fun e => ih f ⟨by omega, ?_⟩, fun e => ⟨fun e2 => ih k ⟨by omega, ?_⟩, fun e2 => ?_⟩⟩⟩
    · rcases z1 with ⟨y1, y2⟩ | ⟨y1, y2, y3, y4⟩
      · refine Or.inl ⟨y1, fun j j0 j1 => ?_⟩
        by_cases q : j = k
        · rw [q]; exact e
        · exact y2 j j0 (by omega)
      · refine Or.inr ⟨y1, by omega, y3, fun j j0 j1 j2 j3 => ?_⟩
        by_cases q : j = k
        · rw [q] at j2; exact absurd j2 e
        · exact y4 j j0 (by omega) j2 j3
    · rcases z1 with ⟨y1, y2⟩ | ⟨y1, y2, y3, y4⟩
      · refine Or.inr ⟨k0, by omega, e, fun j j0 j1 j2 j3 => ?_⟩
        exact absurd j2 (y2 j j0 (by omega))
      · omega
    · rcases z1 with ⟨y1, y2⟩ | ⟨y1, y2, y3, y4⟩
      · exact absurd y1 e2
      · refine c_comesBefore k f x P hx hP ⟨k0, k1⟩ ⟨y1, y2⟩ σ hC.1 _ (fun q _ => ⟨fun _ => ih f ⟨by omega, Or.inr ⟨y1, by omega, y3, fun j j0 j1 j2 j3 => ?_⟩⟩, fun z => absurd rfl z⟩) (fun q _ => ⟨fun z => absurd z (by decide), fun _ => ih k ⟨by omega, Or.inr ⟨k0, by omega, e, fun j j0 j1 j2 j3 => ?_⟩⟩⟩)
        · by_cases w : j = k
          · rw [w]; exact q
          · exact y4 j j0 (by omega) j2 j3
        · by_cases w : j = f
          · rw [w]; exact q
          · have := y4 j j0 (by omega) j2 w
            omega
  · rintro k f k0 ⟨z0, z1⟩
    have hk : k = x.1 := by omega
    subst hk
    refine vX9_setNextIdeal_4 f x.1 ⟨by omega, by omega⟩ ⟨by omega, by omega⟩ σ Q ?_
    rw [hC.1.1]
    refine ⟨fun _ => ⟨fun e => ?_, fun e => ?_⟩, fun z => by omega⟩
    · rcases z1 with ⟨y1, y2⟩ | ⟨y1, y2, y3, y4⟩
      · exact absurd y1 e
      · obtain ⟨c1, c2, c3⟩ := hC.1.2 f y1 y2
        have xf := hx.2.2 f y1 y2
        refine ⟨by omega, ?_⟩
        rw [c3]
        have bd : ∀ j, 0 ≤ j → j < x.1 → I j = -1 ∨ (0 ≤ I j ∧ I j ≤ 400) := fun j j0 j1 => by
          have := hI.1 j j0 j1
          have e9 : sm (fun j => if I j = -1 then 0 else 1) x.1.toNat = cntI x I := rfl
          omega
        refine gloopI (α := Int) 0 x.1 (fun k v => k ≤ x.1 ∧ v ≤ 500 ∧ x.2.2.2 f ≤ v ∧ (∀ j, 0 ≤ j → j < k → x.2.2.1 j = x.2.2.1 f → I j ≠ -1 → I j + 1 ≤ v) ∧ (v = x.2.2.2 f ∨ ∃ j, 0 ≤ j ∧ j < x.1 ∧ x.2.2.1 j = x.2.2.1 f ∧ I j ≠ -1 ∧ v = I j + 1)) (fun k v => kX9_setNextIdeal_59 l G f v k σ Q) ?_ ?_ 0 (x.2.2.2 f) (by omega) ⟨by omega, by omega, by omega, fun j j0 j1 => by omega, Or.inl rfl⟩
        · rintro k v k0 k1 ⟨w0, w5, w1, w2, w3⟩ ih
          obtain ⟨d1, d2, d3⟩ := hC.1.2 k k0 k1
          have bk := bd k k0 k1
          refine vX9_setNextIdeal_59 f v k ⟨by omega, by omega⟩ ⟨by omega, by omega⟩ ⟨by omega, by omega⟩ σ Q ?_
          rw [hC.1.1, hC.2 k k0 k1, d2, c2]
          refine ⟨fun z => by omega, fun _ => ⟨by omega, fun q => ih v ⟨by omega, w5, w1, fun j j0 j1 j2 j3 => ?_, w3⟩, fun q => ⟨by omega, fun q2 => ih v ⟨by omega, w5, w1, fun j j0 j1 j2 j3 => ?_, w3⟩, fun q2 => ⟨⟨by omega, by omega⟩, ih _ ⟨by omega, by omega, by omega, fun j j0 j1 j2 j3 => ?_, ?_⟩⟩⟩⟩⟩
          · by_cases u : j = k
            · rw [u] at j3; exact absurd q j3
            · exact w2 j j0 (by omega) j2 j3
          · by_cases u : j = k
            · rw [u] at j2; exact absurd j2 q2
            · exact w2 j j0 (by omega) j2 j3
          · by_cases u : j = k
            · rw [u]; omega
            · have := w2 j j0 (by omega) j2 j3; omega
          · by_cases u : v ≤ I k + 1
            · exact Or.inr ⟨k, k0, k1, q2, q, by omega⟩
            · rw [show max v (I k + 1) = v by omega]; exact w3
        · rintro k v k0 ⟨w0, w5, w1, w2, w3⟩
          have hk : k = x.1 := by omega
          subst hk
          refine vX9_setNextIdeal_59 f v x.1 ⟨by omega, by omega⟩ ⟨by omega, by omega⟩ ⟨by omega, by omega⟩ σ Q ?_
          rw [hC.1.1]
          refine ⟨fun _ => ⟨by omega, fun υ eu => ?_⟩, fun z => by omega⟩
          obtain ⟨s1, s2⟩ := PI_set hx hI y1 y2 y3 (fun _ _ _ _ => trivial) (fun j j0 j1 _ j2 j3 => y4 j j0 j1 j2 j3) (fun _ _ _ _ => trivial) w1 w2 w3
          refine h1 _ υ s1 s2 ⟨⟨by rw [eu, sI_ne (by omega)]; exact hC.1.1, fun k k0 k1 => by rw [eu, sI_ne (by omega), sI_ne (by omega), sI_ne (by omega)]; exact hC.1.2 k k0 k1⟩, fun k k0 k1 => ?_⟩ (fun c i hc => by rw [eu, sI_ne hc])
          rw [eu, sI_at]
          unfold fup
          by_cases u : k = f
          · rw [if_pos ⟨rfl, u⟩, if_pos u]
          · rw [if_neg (fun z => u z.2), if_neg u]; exact hC.2 k k0 k1
    · rcases z1 with ⟨y1, y2⟩ | ⟨y1, y2, y3, y4⟩
      · exact h0 y2
      · omega
theorem c_take (t stop : Int) (σ : gS) (hI : tInv σ) (ht : 0 ≤ t ∧ t < gI σ 89 1) (hs : 0 ≤ stop ∧ stop ≤ gI σ 89 (618 + 121 * t)) (x : Tk) (ex : (tkD (gI σ 89) (618 + 121 * t) stop.toNat).2 = x) (P : Int) (hP : P ≤ 6) (hx : OKT P x) (Q : gS → Prop) (h : ∀ I τ, isId x I → (∀ k, 0 ≤ k → k < x.1 → 0 ≤ I k ∧ I k ≤ 400) → CT τ x I → (∀ c i, c < 69 ∨ 73 < c → gI τ c i = gI σ c i) → Q τ) : eX9_take l G t stop σ Q := by
  obtain ⟨k1, k5, k6, k7⟩ := tTx0 hI
  have b1 := k1 1 (by omega) (by omega)
  obtain ⟨c6, d0, d40, dd⟩ := k6 t ht.1 ht.2
  have rt : gR t := ⟨by omega, by omega⟩
  have rs : gR stop := ⟨by omega, by omega⟩
  have h40 := hx.2.1
  have hx0 := hx.1
  have mono : ∀ k : Nat, (k : Int) ≤ stop → 0 ≤ (tkD (gI σ 89) (618 + 121 * t) k).2.1 ∧ (tkD (gI σ 89) (618 + 121 * t) k).2.1 ≤ k ∧ 0 ≤ (tkD (gI σ 89) (618 + 121 * t) k).1 ∧ (tkD (gI σ 89) (618 + 121 * t) k).1 ≤ 9 * k := by
    intro k
    induction k with
    | zero => intro _; exact ⟨Int.le_refl _, Int.le_refl _, Int.le_refl _, Int.le_refl _⟩
    | succ k ih =>
      intro hk
      have ih := ih (by omega)
      have f := (dd k (by omega) (by omega)).2
      unfold tDeed at f
      show 0 ≤ (fTD (gI σ 89) (618 + 121 * t) k (tkD (gI σ 89) (618 + 121 * t) k)).2.1 ∧ (fTD (gI σ 89) (618 + 121 * t) k (tkD (gI σ 89) (618 + 121 * t) k)).2.1 ≤ ((k + 1 : Nat) : Int) ∧ 0 ≤ (fTD (gI σ 89) (618 + 121 * t) k (tkD (gI σ 89) (618 + 121 * t) k)).1 ∧ (fTD (gI σ 89) (618 + 121 * t) k (tkD (gI σ 89) (618 + 121 * t) k)).1 ≤ 9 * ((k + 1 : Nat) : Int)
      unfold fTD dSl tPush
      dsimp only
      split
      · rename_i q
        dsimp only
        rw [if_neg (by omega), if_neg (by omega)]
        omega
      · split
        · omega
        · split <;> omega
  refine vX9_take t stop rt rs σ Q (fun σ1 e1 => ?_)
  refine gloopI (α := Int × gS) 0 stop (fun k y => k ≤ stop ∧ y.1 = (tkD (gI σ 89) (618 + 121 * t) k.toNat).1 ∧ CT1 y.2 (tkD (gI σ 89) (618 + 121 * t) k.toNat).2 ∧ ∀ c i, c < 69 ∨ 72 < c → gI y.2 c i = gI σ c i) (fun k y => kX9_take_11 l G t stop y.1 k y.2 Q) ?_ ?_ 0 (0, σ1) (by omega) ⟨by omega, rfl, ⟨by rw [e1]; exact sI_eq, fun k k0 k1 => absurd (show k < 0 from k1) (by omega)⟩, fun c i hc => by show gI σ1 c i = _; rw [e1, sI_ne (by omega)]⟩
  · rintro k ⟨sl, τ⟩ k0 k1' ⟨z0, z1, z2, z3⟩ ih
    dsimp only at z1 z2 z3 ⊢
    have mo := mono k.toNat (by omega)
    rw [← z1] at mo
    obtain ⟨w, f⟩ := dd k k0 (by omega)
    have w0 := w 0 (by omega) (by omega)
    have w1 := w 1 (by omega) (by omega)
    have w2 := w 2 (by omega) (by omega)
    rw [Int.add_zero (618 + 121 * t + 1 + 3 * k)] at w0
    unfold tDeed at f
    have ste : tkD (gI σ 89) (618 + 121 * t) (k + 1).toNat = fTD (gI σ 89) (618 + 121 * t) k (tkD (gI σ 89) (618 + 121 * t) k.toNat) := gfold_s k0
    rw [ste] at ih
    generalize tkD (gI σ 89) (618 + 121 * t) k.toNat = X at *
    unfold fTD at ih
    rw [← z1] at ih
    dsimp only at ih
    have g5 : ∀ w, gI τ 5 ((t * 40 + k) * 4 + w) = gI σ 5 ((t * 40 + k) * 4 + w) := fun w => z3 5 _ (by omega)
    refine vX9_take_11 t stop sl k rt rs ⟨by omega, by omega⟩ ⟨by omega, by omega⟩ τ Q ⟨fun z => by omega, fun _ => ?_⟩
    refine c_lineT t k 0 (by omega) (by omega) (by omega) τ _ (fun _ => c_lineT t k 1 (by omega) (by omega) (by omega) τ _ (fun _ => ?_))
    rw [g5, g5, w0, w1]
    have sd : ∀ K : Int → gS → Prop, K (dSl (gI σ 89) (618 + 121 * t + 1 + 3 * k)) τ → eX8_slotsOf l G (gI σ 89 (618 + 121 * t + 1 + 3 * k)) (gI σ 89 (618 + 121 * t + 1 + 3 * k + 1)) τ K := fun K hK => by
      unfold dSl at hK
      refine vX8_slotsOf _ _ ⟨by omega, by omega⟩ ⟨by omega, by omega⟩ τ K ⟨fun q v ev => ?_, fun q => ?_⟩
      · rw [if_neg q] at hK; rw [ev]; exact hK
      · rw [if_pos q] at hK; exact hK
    have ds : 0 ≤ dSl (gI σ 89) (618 + 121 * t + 1 + 3 * k) ∧ dSl (gI σ 89) (618 + 121 * t + 1 + 3 * k) ≤ 9 := by
      unfold dSl
      split
      · omega
      · split <;> omega
    refine sd _ (fun _ => ⟨fun q => ?_, fun q => ?_⟩)
    · rw [if_neg q] at ih
      exact ih (_, τ) ⟨by omega, rfl, z2, z3⟩
    · rw [if_pos q] at ih
      refine c_lineT t k 1 (by omega) (by omega) (by omega) τ _ (fun _ => ?_)
      rw [g5, w1, z2.1]
      refine ⟨by omega, fun τ1 f1 => ?_⟩
      refine c_lineT t k 2 (by omega) (by omega) (by omega) τ1 _ (fun _ => ?_)
      have a1 : gI τ1 69 0 = X.2.1 := by rw [f1, sI_ne (by omega)]; exact z2.1
      have a5 : gI τ1 5 ((t * 40 + k) * 4 + 2) = gI σ 89 (618 + 121 * t + 1 + 3 * k + 2) := by rw [f1, sI_ne (by omega), g5, w2]
      rw [a1, a5]
      refine ⟨by omega, fun τ2 f2 => ?_⟩
      have a2 : gI τ2 69 0 = X.2.1 := by rw [f2, sI_ne (by omega)]; exact a1
      rw [a2]
      refine ⟨by omega, ⟨by omega, by omega⟩, fun τ3 f3 => ?_⟩
      have a3 : gI τ3 69 0 = X.2.1 := by rw [f3, sI_ne (by omega)]; exact a2
      rw [a3]
      refine ⟨⟨by omega, by omega⟩, fun τ4 f4 => ih (_, τ4) ⟨by omega, rfl, ⟨?_, fun j j0 j1 => ?_⟩, fun c i hc => ?_⟩⟩
      · show gI τ4 69 0 = X.2.1 + 1
        rw [f4, sI_eq]
      · show gI τ4 70 j = fup X.2.2.1 X.2.1 _ j ∧ gI τ4 71 j = fup X.2.2.2.1 X.2.1 _ j ∧ gI τ4 72 j = fup X.2.2.2.2 X.2.1 _ j
        have j1 : j < X.2.1 + 1 := j1
        unfold fup
        by_cases u : j = X.2.1
        · rw [if_pos u, if_pos u, if_pos u, u]
          refine ⟨?_, ?_, ?_⟩
          · rw [f4, sI_ne (by omega), f3, sI_ne (by omega), f2, sI_ne (by omega), f1, sI_eq]
          · rw [f4, sI_ne (by omega), f3, sI_ne (by omega), f2, sI_eq]
          · rw [f4, sI_ne (by omega), f3, sI_eq]
        · rw [if_neg u, if_neg u, if_neg u]
          have fr : ∀ c, 70 ≤ c ∧ c ≤ 72 → gI τ4 c j = gI τ c j := fun c hc => by rw [f4, sI_ne (by omega), f3, sI_nei u, f2, sI_nei u, f1, sI_nei u]
          rw [fr 70 (by omega), fr 71 (by omega), fr 72 (by omega)]
          exact z2.2 j j0 (by omega)
      · show gI τ4 c i = _
        rw [f4, sI_ne (by omega), f3, sI_ne (by omega), f2, sI_ne (by omega), f1, sI_ne (by omega)]; exact z3 c i hc
  · rintro k ⟨sl, τ⟩ k0 ⟨z0, z1, z2, z3⟩
    dsimp only at z1 z2 z3 ⊢
    have hk : k = stop := by omega
    subst hk
    have mo := mono k.toNat (by omega)
    rw [← z1] at mo
    rw [ex] at z2
    have rsl : gR sl := ⟨by omega, by omega⟩
    refine vX9_take_11 t k sl k rt rs rsl rs τ Q ⟨fun _ => ?_, fun z => by omega⟩
    refine gloopI (α := gS) 0 x.1 (fun j υ => j ≤ x.1 ∧ (∀ i, 0 ≤ i → i < j → gI υ 73 i = -1) ∧ ∀ c i, c ≠ 73 → gI υ c i = gI τ c i) (fun j υ => kX9_take_119 l G t k sl j υ Q) ?_ ?_ 0 τ (by omega) ⟨by omega, fun i i0 i1 => by omega, fun _ _ _ => rfl⟩
    · rintro j υ j0 j1 ⟨y0, y1, y2⟩ ih
      refine vX9_take_119 t k sl j rt rs rsl ⟨by omega, by omega⟩ υ Q ?_
      rw [y2 69 0 (by omega), z2.1]
      refine ⟨fun z => by omega, fun _ => ⟨by omega, fun w ew => ih w ⟨by omega, fun i i0 i1 => ?_, fun c i hc => by rw [ew, sI_ne hc]; exact y2 c i hc⟩⟩⟩
      rw [ew, sI_at]
      split
      · rfl
      · rename_i q; exact y1 i i0 (by omega)
    · rintro j υ j0 ⟨y0, y1, y2⟩
      have hj : j = x.1 := by omega
      subst hj
      refine vX9_take_119 t k sl x.1 rt rs rsl ⟨by omega, by omega⟩ υ Q ?_
      rw [y2 69 0 (by omega), z2.1]
      refine ⟨fun _ => ?_, fun z => by omega⟩
      have cu : CT υ x (fun _ => -1) := ⟨⟨by rw [y2 _ _ (by omega)]; exact z2.1, fun i i0 i1 => by rw [y2 _ _ (by omega), y2 _ _ (by omega), y2 _ _ (by omega)]; exact z2.2 i i0 i1⟩, y1⟩
      have p0 : PI x (fun _ _ => True) (fun _ => -1) := ⟨fun _ _ _ => Or.inl rfl, fun _ _ _ q => absurd rfl q, fun _ _ _ _ _ _ _ q => absurd rfl q⟩
      have c0 : cntI x (fun _ => -1) = 0 := sm_zero _ (fun j _ _ => by rfl)
      refine gloopI (α := (Int → Int) × gS) 0 x.1 (fun m y => m ≤ x.1 ∧ PI x (fun _ _ => True) y.1 ∧ cntI x y.1 = m ∧ CT y.2 x y.1 ∧ ∀ c i, c < 69 ∨ 73 < c → gI y.2 c i = gI σ c i) (fun m y => kX9_take_145 l G t k sl m y.2 Q) ?_ ?_ 0 (fun _ => -1, υ) (by omega) ⟨by omega, p0, c0, cu, fun c i hc => by show gI υ c i = _; rw [y2 c i (by omega)]; exact z3 c i (by omega)⟩
      · rintro m ⟨I, w⟩ m0 m1 ⟨q0, q1, q2, q3, q4⟩ ih
        dsimp only at q1 q2 q3 q4 ⊢
        refine vX9_take_145 t k sl m rt rs rsl ⟨by omega, by omega⟩ w Q ?_
        rw [q3.1.1]
        refine ⟨fun z => by omega, fun _ => c_setNextIdeal x P hx hP I q1 w q3 _ (fun all => ?_) (fun J w' j1 j2 j3 j4 => ih (J, w') ⟨by omega, j1, by show cntI x J = m + 1; omega, j3, fun c i hc => by show gI w' c i = _; rw [j4 c i (by omega)]; exact q4 c i hc⟩)⟩
        have := cntI_all hx0 all
        omega
      · rintro m ⟨I, w⟩ m0 ⟨q0, q1, q2, q3, q4⟩
        dsimp only at q1 q2 q3 q4 ⊢
        have hm : m = x.1 := by omega
        have all := fun k k0 k1 => cntI_full (x := x) (I := I) (by omega) k k0 k1
        refine vX9_take_145 t k sl m rt rs rsl ⟨by omega, by omega⟩ w Q ?_
        rw [q3.1.1]
        refine ⟨fun _ => h I w (PI_all q1 all) (fun k k0 k1 => ?_) q3 q4, fun z => by omega⟩
        have a := q1.1 k k0 k1
        have b := all k k0 k1
        have e9 : sm (fun j => if I j = -1 then 0 else 1) x.1.toNat = cntI x I := rfl
        omega
end SN
