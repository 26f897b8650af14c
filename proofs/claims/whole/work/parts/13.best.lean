/-- the best sums: of the last n inputs, outputs of a set being paired -/
def wJ (q : Int → Int) (hv : Int) (k : Int) : Int := if hv = 0 then 1 else q k
def fJ (q : Int → Int) (hv i set : Int) (B : Int → Int) (o m : Int) : Int := if tb set o = true then m else if q (6 * i + o) ≤ 0 then m else max m (wJ q hv (6 * i + o) + B (gor set (gshl 1 o)))
def zRow (q : Int → Int) (P hv : Int) : Nat → Int → Int
  | 0, _ => 0
  | n + 1, set => gfold (fJ q hv (P - 1 - n) set (zRow q P hv n)) (zRow q P hv n set) P.toNat
theorem wJ_r {q : Int → Int} {hv k : Int} (hq : 0 ≤ q k ∧ q k ≤ 9) : 0 ≤ wJ q hv k ∧ wJ q hv k ≤ 9 := by
  unfold wJ
  split <;> omega
theorem zRow_r {q : Int → Int} {P hv : Int} (hP : 1 ≤ P ∧ P ≤ 6) (hq : ∀ k, 0 ≤ k → k < 36 → 0 ≤ q k ∧ q k ≤ 9) : ∀ (n : Nat), (n : Int) ≤ P → ∀ set, 0 ≤ zRow q P hv n set ∧ zRow q P hv n set ≤ 9 * n
  | 0, _, _ => ⟨Int.le_refl _, Int.le_refl _⟩
  | n + 1, hn, set => by
    have ih := zRow_r hP hq (hv := hv) n (by omega)
    have h := gfold_P (fJ q hv (P - 1 - n) set (zRow q P hv n)) (zRow q P hv n set) (fun _ m => 0 ≤ m ∧ m ≤ 9 * (n + 1)) (by have := ih set; omega) P (by omega) (fun o m o0 o1 hm => by
      unfold fJ
      split
      · exact hm
      · split
        · exact hm
        · have a := wJ_r (hv := hv) (hq (6 * (P - 1 - n) + o) (by omega) (by omega))
          have b := ih (gor set (gshl 1 o))
          omega)
    have h : 0 ≤ zRow q P hv (n + 1) set ∧ zRow q P hv (n + 1) set ≤ 9 * (n + 1) := h
    omega
/-- the row of an input, by the first of the heaviest -/
def zTst (q : Int → Int) (P i set o : Int) : Bool := !tb set o && decide (0 < q (6 * i + o)) && decide (q (6 * i + o) + zRow q P 1 (P - 1 - i).toNat (gor set (gshl 1 o)) = zRow q P 1 (P - i).toNat set)
def zPk (t : Int → Bool) : Nat → Int → Int
  | 0, c => c
  | n + 1, c => zPk t n (if t n = true then n else c)
theorem zPk_r (t : Int → Bool) : ∀ (n : Nat) (c : Int), zPk t n c = c ∨ (0 ≤ zPk t n c ∧ zPk t n c < n)
  | 0, _ => Or.inl rfl
  | n + 1, c => by
    show zPk t n (if t n = true then n else c) = c ∨ (0 ≤ zPk t n (if t n = true then n else c) ∧ zPk t n (if t n = true then n else c) < ((n + 1 : Nat) : Int))
    have h := zPk_r t n (if t n = true then n else c)
    by_cases e : t n = true
    · rw [if_pos e] at h ⊢; omega
    · rw [if_neg e] at h ⊢; omega
def fRo (q : Int → Int) (P i : Int) (x : Int × Int) : Int × Int := (if zPk (zTst q P i x.1) P.toNat 6 = 6 then x.1 else gor x.1 (gshl 1 (zPk (zTst q P i x.1) P.toNat 6)), zPk (zTst q P i x.1) P.toNat 6)
def zFirst (q : Int → Int) (P input : Int) : Int := (gfold (fRo q P) (0, 6) (input + 1).toNat).2
theorem gor_64 {P a o : Int} (hP : 1 ≤ P ∧ P ≤ 6) (ha : 0 ≤ a ∧ a < 2 ^ P.toNat) (ho : 0 ≤ o ∧ o < P) : 0 ≤ gor a (gshl 1 o) ∧ gor a (gshl 1 o) < 2 ^ P.toNat := by
  have h : ∀ P : Nat, P ≤ 6 → ∀ o : Nat, o < P → ∀ a : Nat, a < 2 ^ P → 0 ≤ gor (a : Int) (gshl 1 (o : Int)) ∧ gor (a : Int) (gshl 1 (o : Int)) < 2 ^ P := by decide +kernel
  have e2 : (((2 : Nat) ^ P.toNat : Nat) : Int) = 2 ^ P.toNat := by simp
  have := h P.toNat (by omega) o.toNat (by omega) a.toNat (by omega)
  rw [show ((a.toNat : Nat) : Int) = a by omega, show ((o.toNat : Nat) : Int) = o by omega] at this
  exact this
theorem fRo_r {q : Int → Int} {P i : Int} (hP : 1 ≤ P ∧ P ≤ 6) {x : Int × Int} (h : (0 ≤ x.1 ∧ x.1 < 2 ^ P.toNat) ∧ 0 ≤ x.2 ∧ x.2 ≤ 6) : (0 ≤ (fRo q P i x).1 ∧ (fRo q P i x).1 < 2 ^ P.toNat) ∧ 0 ≤ (fRo q P i x).2 ∧ (fRo q P i x).2 ≤ 6 := by
  have hc := zPk_r (zTst q P i x.1) P.toNat 6
  unfold fRo
  dsimp only
  generalize zPk (zTst q P i x.1) P.toNat 6 = c at *
  refine ⟨?_, by omega, by omega⟩
  by_cases e : c = 6
  · rw [if_pos e]; exact h.1
  · rw [if_neg e]; exact gor_64 hP h.1 (by omega)
section SD
variable {l : Launch} {G : gG}
theorem c_mayPair (i o set : Int) (hi : 0 ≤ i ∧ i < 6) (ho : 0 ≤ o ∧ o < 6) (hs : 0 ≤ set ∧ set < 64) (σ : gS) (Q : Int → gS → Prop) (h : Q (if tb set o = true then 0 else if gI σ 53 (6 * i + o) ≤ 0 then 0 else 1) σ) : eX3_mayPair l G i o set σ Q := by
  refine vX3_mayPair i o set ⟨by omega, by omega⟩ ⟨by omega, by omega⟩ ⟨by omega, by omega⟩ σ Q (c_holds set o hs ho σ _ (fun _ => ?_))
  rw [show i * 6 + o = 6 * i + o by omega]
  by_cases e : tb set o = true
  · rw [if_pos e] at h ⊢
    exact ⟨⟨fun _ => trivial, fun z => absurd z (by decide)⟩, fun v ev => by rw [ev, if_neg (by decide)]; exact h⟩
  · rw [if_neg e] at h ⊢
    exact ⟨⟨fun z => absurd rfl z, fun _ => ⟨by omega, fun _ => trivial, fun _ => trivial⟩⟩, fun v ev => by rw [ev, if_pos rfl]; exact h⟩
theorem c_sumWith (q : Int → Int) (P hv i o set : Int) (hP : 1 ≤ P ∧ P ≤ 6) (hh : hv = 0 ∨ hv = 1) (hi : 0 ≤ i ∧ i < P) (ho : 0 ≤ o ∧ o < P) (hs : 0 ≤ set ∧ set < 2 ^ P.toNat) (hq : ∀ k, 0 ≤ k → k < 36 → 0 ≤ q k ∧ q k ≤ 9) (σ : gS) (h67 : gI σ 67 1 = hv) (h53 : ∀ k, 0 ≤ k → k < 36 → gI σ 53 k = q k) (h68 : ∀ s, 0 ≤ s → s < 2 ^ P.toNat → gI σ 68 (64 * (i + 1) + s) = zRow q P hv (P - 1 - i).toNat s) (Q : Int → gS → Prop)
    (h : Q (wJ q hv (6 * i + o) + zRow q P hv (P - 1 - i).toNat (gor set (gshl 1 o))) σ) : eX3_sumWith l G i o set σ Q := by
  have g := gor_64 hP hs ho
  have t2 := two_pow_P hP
  have r := zRow_r (hv := hv) hP hq (P - 1 - i).toNat (by omega) (gor set (gshl 1 o))
  have w := wJ_r (hv := hv) (hq (6 * i + o) (by omega) (by omega))
  refine vX3_sumWith i o set ⟨by omega, by omega⟩ ⟨by omega, by omega⟩ ⟨by omega, by omega⟩ σ Q ⟨⟨fun _ => trivial, fun _ => ⟨by omega, trivial⟩⟩, fun v ev => ?_⟩
  have ev' : v = wJ q hv (6 * i + o) := by
    rw [ev, h67, show i * 6 + o = 6 * i + o by omega]
    unfold wJ
    rw [h53 _ (by omega) (by omega)]
  rw [ev', show (i + 1) * 64 + gor set (gshl 1 o) = 64 * (i + 1) + gor set (gshl 1 o) by omega, h68 _ g.1 g.2]
  exact ⟨by omega, ⟨by omega, by omega⟩, h⟩
theorem c_bestFrom (q : Int → Int) (P hv i set : Int) (hP : 1 ≤ P ∧ P ≤ 6) (hh : hv = 0 ∨ hv = 1) (hi : 0 ≤ i ∧ i < P) (hs : 0 ≤ set ∧ set < 2 ^ P.toNat) (hq : ∀ k, 0 ≤ k → k < 36 → 0 ≤ q k ∧ q k ≤ 9) (σ : gS) (h3 : gI σ 32 3 = P) (h67 : gI σ 67 1 = hv) (h53 : ∀ k, 0 ≤ k → k < 36 → gI σ 53 k = q k) (h68 : ∀ s, 0 ≤ s → s < 2 ^ P.toNat → gI σ 68 (64 * (i + 1) + s) = zRow q P hv (P - 1 - i).toNat s) (Q : Int → gS → Prop)
    (h : Q (zRow q P hv (P - i).toNat set) σ) : eX3_bestFrom l G i set σ Q := by
  have t2 := two_pow_P hP
  have ri : gR i := ⟨by omega, by omega⟩
  have rs : gR set := ⟨by omega, by omega⟩
  have rr := zRow_r (hv := hv) hP hq (P - 1 - i).toNat (by omega)
  refine vX3_bestFrom i set ri rs σ Q ⟨by omega, ?_⟩
  rw [show (i + 1) * 64 + set = 64 * (i + 1) + set by omega, h68 set hs.1 hs.2]
  have e : zRow q P hv (P - i).toNat set = gfold (fJ q hv i set (zRow q P hv (P - 1 - i).toNat)) (zRow q P hv (P - 1 - i).toNat set) P.toNat := by
    rw [show (P - i).toNat = (P - 1 - i).toNat + 1 by omega]
    show gfold (fJ q hv (P - 1 - ((P - 1 - i).toNat : Nat)) set _) _ _ = _
    rw [show P - 1 - (((P - 1 - i).toNat : Nat) : Int) = i by omega]
  rw [e] at h
  refine gloopF (fJ q hv i set (zRow q P hv (P - 1 - i).toNat)) _ P (by omega) (fun _ m => 0 ≤ m ∧ m ≤ 100) (fun o m => kX3_bestFrom_18 l G i set m o σ Q) (by have := rr set; omega) ?_ ?_
  · intro o m o0 o1 hp
    have b := rr (gor set (gshl 1 o))
    have w := wJ_r (hv := hv) (hq (6 * i + o) (by omega) (by omega))
    refine ⟨?_, fun ih => ?_⟩
    · unfold fJ
      split
      · exact hp
      · split <;> omega
    have ih : kX3_bestFrom_18 l G i set (fJ q hv i set (zRow q P hv (P - 1 - i).toNat) o m) (o + 1) σ Q := ih
    unfold fJ at ih
    refine vX3_bestFrom_18 i set m o ri rs ⟨by omega, by omega⟩ ⟨by omega, by omega⟩ σ Q ?_
    rw [h3]
    refine ⟨fun z => by omega, fun _ => c_mayPair i o set (by omega) (by omega) (by omega) σ _ (fun _ => ?_)⟩
    rw [h53 _ (by omega) (by omega)]
    by_cases e1 : tb set o = true
    · rw [if_pos e1] at ih ⊢
      exact ⟨fun _ => ih, fun z => absurd rfl z⟩
    · rw [if_neg e1] at ih ⊢
      by_cases e2 : q (6 * i + o) ≤ 0
      · rw [if_pos e2] at ih ⊢
        exact ⟨fun _ => ih, fun z => absurd rfl z⟩
      · rw [if_neg e2] at ih ⊢
        exact ⟨fun z => absurd z (by decide), fun _ => c_sumWith q P hv i o set hP hh hi (by omega) hs hq σ h67 h53 h68 _ (fun _ => ih)⟩
  · intro hp
    refine vX3_bestFrom_18 i set _ P ri rs ⟨by omega, by omega⟩ ⟨by omega, by omega⟩ σ Q ?_
    rw [h3]
    exact ⟨fun _ => h, fun z => by omega⟩
/-- all rows of best sums, by the class -/
theorem c_bestOf3 (q : Int → Int) (P hv : Int) (hP : 1 ≤ P ∧ P ≤ 6) (hh : hv = 0 ∨ hv = 1) (hq : ∀ k, 0 ≤ k → k < 36 → 0 ≤ q k ∧ q k ≤ 9) (σ : gS) (h3 : gI σ 32 3 = P) (h53 : ∀ k, 0 ≤ k → k < 36 → gI σ 53 k = q k) (Q : Int → gS → Prop)
    (h : ∀ τ, gI τ 67 1 = hv → (∀ i, 0 ≤ i → i ≤ P → ∀ s, 0 ≤ s → s < 2 ^ P.toNat → gI τ 68 (64 * i + s) = zRow q P hv (P - i).toNat s) → (∀ c k, c ≠ 67 → c ≠ 68 → gI τ c k = gI σ c k) → Q (zRow q P hv P.toNat 0) τ) : eX3_bestOf l G hv σ Q := by
  have t2 := two_pow_P hP
  have rh : gR hv := gR_01 hh
  have sh := (pow_full hP).2.2
  refine vX3_bestOf hv rh σ Q ⟨hh, fun σ1 e1 => ?_⟩
  have a1 : ∀ c k, c ≠ 67 → gI σ1 c k = gI σ c k := fun c k hc => by rw [e1, sI_ne hc]
  rw [a1 32 3 (by omega), h3, sh]
  have rp : gR (2 ^ P.toNat) := ⟨by omega, by omega⟩
  refine gloopI (α := gS) 0 (2 ^ P.toNat) (fun s τ => s ≤ 2 ^ P.toNat ∧ (∀ k, 0 ≤ k → k < s → gI τ 68 (64 * P + k) = 0) ∧ (∀ c k, c ≠ 68 → gI τ c k = gI σ1 c k)) (fun s τ => kX3_bestOf_15 l G hv (2 ^ P.toNat) s τ Q) ?_ ?_ 0 σ1 (by omega) ⟨by omega, fun k k0 k1 => by omega, fun _ _ _ => rfl⟩
  · rintro s τ s0 s1 ⟨z0, z1, z2⟩ ih
    refine vX3_bestOf_15 hv _ s rh rp ⟨by omega, by omega⟩ τ Q ?_
    rw [z2 32 3 (by omega), a1 32 3 (by omega), h3]
    refine ⟨fun z => by omega, fun _ => ⟨by omega, fun w ew => ih w ⟨by omega, fun k k0 k1 => ?_, fun c k hc => by rw [ew, sI_ne hc]; exact z2 c k hc⟩⟩⟩
    rw [ew, sI_at]
    split
    · rfl
    · rename_i z; exact z1 k k0 (by omega)
  · rintro s τ s0 ⟨z0, z1, z2⟩
    have hs : s = 2 ^ P.toNat := by omega
    subst hs
    refine vX3_bestOf_15 hv _ _ rh rp rp τ Q ?_
    rw [z2 32 3 (by omega), a1 32 3 (by omega), h3]
    refine ⟨fun _ => ?_, fun z => by omega⟩
    have L : ∀ (n : Nat) (υ : gS), (n : Int) ≤ P → (∀ i, (n : Int) ≤ i → i ≤ P → ∀ s, 0 ≤ s → s < 2 ^ P.toNat → gI υ 68 (64 * i + s) = zRow q P hv (P - i).toNat s) → (∀ c k, c ≠ 68 → gI υ c k = gI σ1 c k) → kX3_bestOf_51 l G hv (2 ^ P.toNat) ((n : Int) - 1) υ Q := by
      intro n
      induction n with
      | zero =>
        intro υ _ y1 y2
        refine vX3_bestOf_51 hv _ _ rh rp ⟨by omega, by omega⟩ υ Q ⟨fun _ => ?_, fun z => by omega⟩
        have e0 := y1 0 (by omega) (by omega) 0 (by omega) (by omega)
        rw [show (64 * 0 + 0 : Int) = 0 by decide, show (P - 0).toNat = P.toNat by omega] at e0
        rw [e0]
        exact h υ (by rw [y2 _ _ (by omega), e1, sI_eq]) (fun i i0 i1 s s0 s1 => y1 i (by omega) i1 s s0 s1) (fun c k c1 c2 => by rw [y2 _ _ c2]; exact a1 c k c1)
      | succ n ihn =>
        intro υ hn y1 y2
        refine vX3_bestOf_51 hv _ _ rh rp ⟨by omega, by omega⟩ υ Q ⟨fun z => by omega, fun _ => ?_⟩
        rw [show (((n + 1 : Nat) : Int) - 1) = (n : Int) by omega]
        refine gloopI (α := gS) 0 (2 ^ P.toNat) (fun s w => s ≤ 2 ^ P.toNat ∧ (∀ k, 0 ≤ k → k < s → gI w 68 (64 * n + k) = zRow q P hv (P - n).toNat k) ∧ (∀ i, (n : Int) + 1 ≤ i → i ≤ P → ∀ s, 0 ≤ s → s < 2 ^ P.toNat → gI w 68 (64 * i + s) = zRow q P hv (P - i).toNat s) ∧ (∀ c k, c ≠ 68 → gI w c k = gI σ1 c k)) (fun s w => kX3_bestOf_59 l G hv (2 ^ P.toNat) n s w Q) ?_ ?_ 0 υ (by omega) ⟨by omega, fun k k0 k1 => by omega, fun i i0 i1 => y1 i (by omega) i1, y2⟩
        · rintro s w s0 s1 ⟨x0, x1, x2, x3⟩ ih
          refine vX3_bestOf_59 hv _ n s rh rp ⟨by omega, by omega⟩ ⟨by omega, by omega⟩ w Q ⟨fun z => by omega, fun _ => ?_⟩
          refine c_bestFrom q P hv n s hP hh (by omega) (by omega) hq w (by rw [x3 _ _ (by omega), a1 _ _ (by omega)]; exact h3) (by rw [x3 _ _ (by omega), e1, sI_eq]) (fun k k0 k1 => by rw [x3 _ _ (by omega), a1 _ _ (by omega)]; exact h53 k k0 k1) (fun s' s0' s1' => by rw [x2 (n + 1) (by omega) (by omega) s' s0' s1', show P - (n + 1 : Int) = P - 1 - n by omega]) _ (fun _ => ⟨by omega, fun u eu => ih u ⟨by omega, fun k k0 k1 => ?_, fun i i0 i1 s' s0' s1' => ?_, fun c k hc => by rw [eu, sI_ne hc]; exact x3 c k hc⟩⟩)
          · rw [eu, sI_at]
            by_cases e : k = s
            · rw [if_pos ⟨rfl, by omega⟩, e]
            · rw [if_neg (by omega)]; exact x1 k k0 (by omega)
          · rw [eu, sI_at, if_neg (by omega)]; exact x2 i i0 i1 s' s0' s1'
        · rintro s w s0 ⟨x0, x1, x2, x3⟩
          have hs : s = 2 ^ P.toNat := by omega
          subst hs
          refine vX3_bestOf_59 hv _ n _ rh rp ⟨by omega, by omega⟩ rp w Q ⟨fun _ => ihn w (by omega) (fun i i0 i1 s s0 s1 => ?_) x3, fun z => by omega⟩
          by_cases e : i = n
          · rw [e]; exact x1 s s0 s1
          · exact x2 i (by omega) i1 s s0 s1
    have := L P.toNat τ (by omega) (fun i i0 i1 s s0 s1 => by
      have : i = P := by omega
      rw [this, z1 s s0 s1, show (P - P).toNat = 0 by omega]; rfl) z2
    rw [show ((P.toNat : Nat) : Int) = P by omega] at this
    exact this
theorem c_firstRow (q : Int → Int) (P input : Int) (hP : 1 ≤ P ∧ P ≤ 6) (hi : 0 ≤ input ∧ input < P) (hq : ∀ k, 0 ≤ k → k < 36 → 0 ≤ q k ∧ q k ≤ 9) (σ : gS) (h3 : gI σ 32 3 = P) (h67 : gI σ 67 1 = 1) (h53 : ∀ k, 0 ≤ k → k < 36 → gI σ 53 k = q k) (h68 : ∀ i, 0 ≤ i → i ≤ P → ∀ s, 0 ≤ s → s < 2 ^ P.toNat → gI σ 68 (64 * i + s) = zRow q P 1 (P - i).toNat s) (Q : Int → gS → Prop)
    (h : Q (zFirst q P input) σ) : eX3_firstRow l G input σ Q := by
  have t2 := two_pow_P hP
  have ri : gR input := ⟨by omega, by omega⟩
  refine vX3_firstRow input ri σ Q ?_
  refine gloopF (fRo q P) (0, 6) (input + 1) (by omega) (fun _ x => (0 ≤ x.1 ∧ x.1 < 2 ^ P.toNat) ∧ 0 ≤ x.2 ∧ x.2 ≤ 6) (fun i x => kX3_firstRow_9 l G input x.1 x.2 i σ Q) ⟨⟨by decide, by show (0 : Int) < 2 ^ P.toNat; omega⟩, by decide, by decide⟩ ?_ ?_
  · intro i x i0 i1 hp
    refine ⟨fRo_r hP hp, fun ih => ?_⟩
    have ih : kX3_firstRow_9 l G input (fRo q P i x).1 (fRo q P i x).2 (i + 1) σ Q := ih
    have ri9 : gR i := ⟨by omega, by omega⟩
    have rx : gR x.1 := ⟨by omega, by omega⟩
    refine vX3_firstRow_9 input x.1 x.2 i ri rx ⟨by omega, by omega⟩ ri9 σ Q ⟨fun z => by omega, fun _ => ?_⟩
    rw [h3]
    have L : ∀ (n : Nat) (c : Int), (n : Int) ≤ P → 0 ≤ c ∧ c ≤ 6 → zPk (zTst q P i x.1) n c = zPk (zTst q P i x.1) P.toNat 6 → kX3_firstRow_27 l G input x.1 c i ((n : Int) - 1) σ Q := by
      intro n
      induction n with
      | zero =>
        intro c _ hc e
        have e : c = zPk (zTst q P i x.1) P.toNat 6 := e
        unfold fRo at ih
        rw [← e] at ih
        dsimp only at ih
        refine vX3_firstRow_27 input x.1 c i _ ri rx ⟨by omega, by omega⟩ ri9 ⟨by omega, by omega⟩ σ Q ⟨fun _ => ⟨fun z => ?_, fun z => ?_⟩, fun z => by omega⟩
        · rw [if_pos z] at ih; exact ih
        · rw [if_neg z] at ih; exact ih
      | succ n ihn =>
        intro c hn hc e
        have e : zPk (zTst q P i x.1) n (if zTst q P i x.1 n = true then n else c) = zPk (zTst q P i x.1) P.toNat 6 := e
        rw [show (((n + 1 : Nat) : Int) - 1) = (n : Int) by omega]
        refine vX3_firstRow_27 input x.1 c i n ri rx ⟨by omega, by omega⟩ ri9 ⟨by omega, by omega⟩ σ Q ⟨fun z => by omega, fun _ => ?_⟩
        have ihn' := ihn (if zTst q P i x.1 n = true then n else c) (by omega) (by split <;> omega) e
        rw [show (n : Int) - 1 = n + (-1) by omega] at ihn'
        refine c_mayPair i n x.1 (by omega) (by omega) (by omega) σ _ (fun _ => ?_)
        rw [h53 _ (by omega) (by omega)]
        by_cases e1 : tb x.1 n = true
        · rw [if_pos e1]
          have f : zTst q P i x.1 n = false := by unfold zTst; rw [e1]; rfl
          rw [f, if_neg (by decide)] at ihn'
          exact ⟨fun _ => ihn', fun z => absurd rfl z⟩
        · rw [if_neg e1]
          by_cases e2 : q (6 * i + n) ≤ 0
          · rw [if_pos e2]
            have f : zTst q P i x.1 n = false := by
              unfold zTst
              rw [show decide (0 < q (6 * i + (n : Int))) = false by simp; omega]
              simp
            rw [f, if_neg (by decide)] at ihn'
            exact ⟨fun _ => ihn', fun z => absurd rfl z⟩
          · rw [if_neg e2]
            refine ⟨fun z => absurd z (by decide), fun _ => c_sumWith q P 1 i n x.1 hP (Or.inr rfl) (by omega) (by omega) hp.1 hq σ h67 h53 (fun s s0 s1 => by rw [h68 (i + 1) (by omega) (by omega) s s0 s1, show P - (i + 1) = P - 1 - i by omega]) _ (fun _ => ⟨by omega, fun z => ?_, fun z => ?_⟩)⟩
            · rw [show i * 64 + x.1 = 64 * i + x.1 by omega, h68 i (by omega) (by omega) x.1 hp.1.1 hp.1.2] at z
              have f : zTst q P i x.1 n = false := by
                unfold zTst
                have z' : ¬ (q (6 * i + n) + zRow q P 1 (P - 1 - i).toNat (gor x.1 (gshl 1 n)) = zRow q P 1 (P - i).toNat x.1) := z
                simp [z']
              rw [f, if_neg (by decide)] at ihn'; exact ihn'
            · rw [show i * 64 + x.1 = 64 * i + x.1 by omega, h68 i (by omega) (by omega) x.1 hp.1.1 hp.1.2] at z
              have f : zTst q P i x.1 n = true := by
                unfold zTst
                have z' : q (6 * i + n) + zRow q P 1 (P - 1 - i).toNat (gor x.1 (gshl 1 n)) = zRow q P 1 (P - i).toNat x.1 := z
                have e1' : tb x.1 n = false := by simpa using e1
                have e2' : 0 < q (6 * i + n) := by omega
                simp [z', e1', e2']
              rw [f, if_pos rfl] at ihn'; exact ihn'
    have := L P.toNat 6 (by omega) (by omega) rfl
    rw [show ((P.toNat : Nat) : Int) = P by omega] at this
    exact this
  · intro hp
    refine vX3_firstRow_9 input _ _ (input + 1) ri ⟨by omega, by omega⟩ ⟨by omega, by omega⟩ ⟨by omega, by omega⟩ σ Q ⟨fun _ => h, fun z => by omega⟩
end SD
