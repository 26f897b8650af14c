theorem i64_nat (a : Int) (ha : 0 ≤ a ∧ a < 9223372036854775808) : (i64 a).toBitVec.toNat = a.toNat := by
  show (BitVec.ofInt 64 a).toNat = _
  rw [BitVec.toNat_ofInt, show (2 ^ 64 : Nat) = 18446744073709551616 from rfl, Int.emod_eq_of_lt ha.1 (by omega)]
theorem i64_int (x : Int64) (h : x.toBitVec.toNat < 9223372036854775808) : x.toInt = (x.toBitVec.toNat : Int) := by
  show x.toBitVec.toInt = _
  exact BitVec.toInt_eq_toNat_of_lt (by show 2 * x.toBitVec.toNat < 18446744073709551616; omega)
theorem sh3_amt : (((i32 3).toInt64 &&& 63).toBitVec.smod 64).toNat = 3 := by decide +kernel
theorem glshl_3 (a : Int) (ha : 0 ≤ a ∧ a < 1152921504606846976) : glshl a 3 = a * 8 := by
  have h1 : (i64 a <<< ((i32 3).toInt64 &&& 63)).toBitVec.toNat = a.toNat * 8 := by
    show ((i64 a).toBitVec <<< (((i32 3).toInt64 &&& 63).toBitVec.smod 64)).toNat = _
    rw [BitVec.shiftLeft_eq', BitVec.toNat_shiftLeft, sh3_amt, i64_nat a (by omega), Nat.shiftLeft_eq]
    exact Nat.mod_eq_of_lt (by show a.toNat * 2 ^ 3 < 18446744073709551616; omega)
  unfold glshl
  rw [i64_int _ (by rw [h1]; omega), h1]
  omega
theorem glor_8 (x v : Int) (hx : 0 ≤ x ∧ x < 1152921504606846976) (hv : 0 ≤ v ∧ v < 8) : glor (x * 8) v = x * 8 + v := by
  have h1 : (i64 (x * 8) ||| i64 v).toBitVec.toNat = x.toNat * 8 + v.toNat := by
    rw [Int64.toBitVec_or, BitVec.toNat_or, i64_nat _ (by omega), i64_nat _ (by omega), show (x * 8).toNat = 2 ^ 3 * x.toNat by omega, ← Nat.two_pow_add_eq_or_of_lt (by show v.toNat < 2 ^ 3; omega)]
    omega
  unfold glor
  rw [i64_int _ (by rw [h1]; omega), h1]
  omega
theorem glcmp_0 {a b : Int} (ha : gRl a) (hb : gRl b) : glcmp a b = 0 ↔ a = b := by
  unfold glcmp lg_cmp
  constructor
  · intro h
    by_cases e : i64 a > i64 b
    · rw [if_pos e] at h; exact absurd h (by decide)
    · rw [if_neg e] at h
      by_cases z : i64 a = i64 b
      · rw [← i64_toInt ha, ← i64_toInt hb, z]
      · rw [if_neg z] at h; exact absurd h (by decide)
  · intro h
    rw [h, if_neg (Int64.lt_irrefl), if_pos rfl]; rfl
/-- all pointers in one number -/
def fCo (X : mX) (p x : Int) : Int := (x * 8 + X.2.2.1 p) * 8 + X.2.2.2.1 p
def cod (P : Int) (X : mX) : Int := gfold (fCo X) 0 P.toNat
theorem cod_r {P : Int} {X : mX} (hP : P ≤ 6) (hX : okX P X) : ∀ n : Nat, (n : Int) ≤ P → 0 ≤ gfold (fCo X) 0 n ∧ gfold (fCo X) 0 n < 64 ^ n
  | 0, _ => ⟨Int.le_refl _, by show (0 : Int) < 64 ^ 0; decide⟩
  | n + 1, hn => by
    have ih := cod_r hP hX n (by omega)
    have ok := hX n (by omega) (by omega)
    show 0 ≤ fCo X n (gfold (fCo X) 0 n) ∧ fCo X n (gfold (fCo X) 0 n) < 64 ^ (n + 1)
    rw [Int.pow_succ]
    generalize gfold (fCo X) 0 n = g at *
    generalize (64 : Int) ^ n = d at *
    unfold fCo
    omega
theorem cod_60 {P : Int} {X : mX} (hP : 1 ≤ P ∧ P ≤ 6) (hX : okX P X) (n : Nat) (hn : (n : Int) ≤ P) : 0 ≤ gfold (fCo X) 0 n ∧ gfold (fCo X) 0 n < 68719476736 := by
  have h := cod_r hP.2 hX n hn
  have : (64 : Int) ^ n ≤ 64 ^ 6 := by
    have : n = 0 ∨ n = 1 ∨ n = 2 ∨ n = 3 ∨ n = 4 ∨ n = 5 ∨ n = 6 := by omega
    rcases this with rfl | rfl | rfl | rfl | rfl | rfl | rfl <;> decide
  have e : (64 : Int) ^ 6 = 68719476736 := by decide
  omega
theorem cod_inj {P : Int} {X Y : mX} (hP : P ≤ 6) (hX : okX P X) (hY : okX P Y) : ∀ n : Nat, (n : Int) ≤ P → (gfold (fCo X) 0 n = gfold (fCo Y) 0 n ↔ ∀ o, 0 ≤ o → o < (n : Int) → X.2.2.1 o = Y.2.2.1 o ∧ X.2.2.2.1 o = Y.2.2.2.1 o)
  | 0, _ => ⟨fun _ o o0 o1 => by omega, fun _ => rfl⟩
  | n + 1, hn => by
    have ih := cod_inj hP hX hY n (by omega)
    have ox := hX n (by omega) (by omega)
    have oy := hY n (by omega) (by omega)
    show (fCo X n (gfold (fCo X) 0 n) = fCo Y n (gfold (fCo Y) 0 n) ↔ _)
    generalize gfold (fCo X) 0 n = gx at *
    generalize gfold (fCo Y) 0 n = gy at *
    unfold fCo
    constructor
    · intro h o o0 o1
      by_cases e : o = n
      · rw [e]; omega
      · exact ih.mp (by omega) o o0 (by omega)
    · intro h
      have a := ih.mpr (fun o o0 o1 => h o o0 (by omega))
      have b := h n (by omega) (by omega)
      omega
theorem cod_pe {P : Int} {X Y : mX} (hP : 1 ≤ P ∧ P ≤ 6) (hX : okX P X) (hY : okX P Y) : cod P X = cod P Y ↔ pe P X Y := by
  have h := cod_inj hP.2 hX hY P.toNat (by omega)
  rw [show ((P.toNat : Nat) : Int) = P by omega] at h
  exact h
/-- the first time that pointers come again -/
def isRh (P r p N K : Int) : Prop := 0 ≤ K ∧ K < N ∧ pe P (fL P r p N.toNat) (fL P r p K.toNat) ∧ ∀ a b : Nat, a < b → (b : Int) < N → ¬ pe P (fL P r p b) (fL P r p a)
theorem isRh_eq {P r p N K N' K' : Int} (h : isRh P r p N K) (k : isRh P r p N' K') : N = N' ∧ K = K' := by
  obtain ⟨h1, h2, h3, h4⟩ := h
  obtain ⟨k1, k2, k3, k4⟩ := k
  have e : N = N' := by
    by_cases e : N < N'
    · exact absurd h3 (k4 K.toNat N.toNat (by omega) (by omega))
    · by_cases e2 : N' < N
      · exact absurd k3 (h4 K'.toNat N'.toNat (by omega) (by omega))
      · omega
  subst e
  refine ⟨rfl, ?_⟩
  by_cases e : K < K'
  · exact absurd (fun o o0 o1 => ⟨(k3 o o0 o1).1.symm.trans (h3 o o0 o1).1, (k3 o o0 o1).2.symm.trans (h3 o o0 o1).2⟩) (h4 K.toNat K'.toNat (by omega) (by omega))
  · by_cases e2 : K' < K
    · exact absurd (fun o o0 o1 => ⟨(h3 o o0 o1).1.symm.trans (k3 o o0 o1).1, (h3 o o0 o1).2.symm.trans (k3 o o0 o1).2⟩) (h4 K'.toNat K.toNat (by omega) (by omega))
    · omega
/-- matched in a slot of full load -/
def mtF (P r p j : Int) : Int := zMc P (fL P r p (j + 1).toNat)
theorem mtF_r (P r p j : Int) (hP : 1 ≤ P) : 0 ≤ mtF P r p j ∧ mtF P r p j ≤ P := by
  have h := sm_r (f := fun o => if (fL P r p (j + 1).toNat).2.2.2.2 o = -1 then 0 else 1) (a := 0) (b := 1) P.toNat (fun j _ _ => by split <;> omega)
  unfold mtF zMc
  omega
/-- down to where the slots are whole -/
def sdn (m : Int → Int) (P : Int) : Nat → Int
  | 0 => 0
  | n + 1 => if m n = P then sdn m P n else n + 1
theorem sdn_r (m : Int → Int) (P : Int) : ∀ n : Nat, 0 ≤ sdn m P n ∧ sdn m P n ≤ n
  | 0 => ⟨Int.le_refl _, Int.le_refl _⟩
  | n + 1 => by
    have := sdn_r m P n
    unfold sdn
    split <;> omega
theorem sdn_all {m : Int → Int} {P : Int} (k : Nat) : ∀ d : Nat, (∀ j : Int, (k : Int) ≤ j → j < k + d → m j = P) → sdn m P (k + d) = sdn m P k
  | 0, _ => rfl
  | d + 1, h => by
    show (if m ((k + d : Nat) : Int) = P then sdn m P (k + d) else _) = _
    rw [if_pos (h _ (by omega) (by omega))]
    exact sdn_all k d (fun j j0 j1 => h j j0 (by omega))
theorem sdn_not {m : Int → Int} {P : Int} (k : Nat) : ∀ d : Nat, (∃ j : Int, (k : Int) ≤ j ∧ j < k + d ∧ m j ≠ P) → (k : Int) < sdn m P (k + d)
  | 0, ⟨j, j0, j1, _⟩ => by omega
  | d + 1, ⟨j, j0, j1, j2⟩ => by
    show (k : Int) < (if m ((k + d : Nat) : Int) = P then sdn m P (k + d) else ((k + d : Nat) : Int) + 1)
    by_cases e : m ((k + d : Nat) : Int) = P
    · rw [if_pos e]
      have : j ≠ ((k + d : Nat) : Int) := fun z => j2 (by rw [z]; exact e)
      exact sdn_not k d ⟨j, j0, by omega, j2⟩
    · rw [if_neg e]; omega
/-- the sum over the rhythm is full just where every slot is whole -/
theorem sm_full {m : Int → Int} {P : Int} (hm : ∀ j : Int, 0 ≤ j → m j ≤ P) (k : Nat) : ∀ d : Nat, sm m (k + d) - sm m k ≤ P * d ∧ (sm m (k + d) - sm m k = P * d ↔ ∀ j : Int, (k : Int) ≤ j → j < k + d → m j = P)
  | 0 => ⟨by rw [Nat.add_zero]; simp, ⟨fun _ j j0 j1 => by omega, fun _ => by rw [Nat.add_zero]; simp⟩⟩
  | d + 1 => by
    have ih := sm_full hm k d
    have hd := hm ((k + d : Nat) : Int) (by omega)
    have e : sm m (k + (d + 1)) = sm m (k + d) + m ((k + d : Nat) : Int) := rfl
    have e2 : P * ((d + 1 : Nat) : Int) = P * d + P := by rw [Int.natCast_add, Int.mul_add]; simp
    rw [e, e2]
    generalize P * (d : Int) = z at *
    refine ⟨by omega, fun h j j0 j1 => ?_, fun h => ?_⟩
    · by_cases q : j = ((k + d : Nat) : Int)
      · rw [q]; omega
      · exact ih.2.mp (by omega) j j0 (by omega)
    · have a := ih.2.mpr (fun j j0 j1 => h j j0 (by omega))
      have b := h ((k + d : Nat) : Int) (by omega) (by omega)
      omega
def zRh (P r p N K w : Int) : Int :=
  if w = 0 then N else if w = 1 then N - K else if w = 2 then sm (mtF P r p) N.toNat - sm (mtF P r p) K.toNat else if w = 3 then (if K < sdn (mtF P r p) P N.toNat then -1 else sdn (mtF P r p) P N.toNat) else -2
section SH
variable {l : Launch} {G : gG}
theorem c_pointersNow (P : Int) (hP : 1 ≤ P ∧ P ≤ 6) (X : mX) (hX : okX P X) (σ : gS) (h0 : gI σ 59 0 = P) (hg : ∀ o, 0 ≤ o → o < 6 → gI σ 60 o = X.2.2.1 o ∧ gI σ 61 o = X.2.2.2.1 o) (Q : Int → gS → Prop) (h : Q (cod P X) σ) : eX2_pointersNow l G σ Q := by
  refine vX2_pointersNow σ Q ?_
  refine gloopF (fCo X) 0 P (by omega) (fun j x => x = gfold (fCo X) 0 j.toNat) (fun j x => kX2_pointersNow_4 l G x j σ Q) rfl ?_ ?_
  · intro j x j0 j1 hp
    have b := cod_60 hP hX j.toNat (by omega)
    rw [← hp] at b
    have ok := hX j j0 j1
    refine ⟨by rw [gfold_s j0, ← hp], fun ih => ?_⟩
    refine vX2_pointersNow_4 x j ⟨by omega, by omega⟩ ⟨by omega, by omega⟩ σ Q ?_
    rw [h0, (hg j j0 (by omega)).1, (hg j j0 (by omega)).2, glshl_3 x (by omega), glor_8 x _ (by omega) (by omega), glshl_3 _ (by omega), glor_8 _ _ (by omega) (by omega)]
    exact ⟨fun z => by omega, fun _ => ⟨by omega, ih⟩⟩
  · intro hp
    have b := cod_60 hP hX P.toNat (by omega)
    refine vX2_pointersNow_4 _ P ⟨by omega, by omega⟩ ⟨by omega, by omega⟩ σ Q ?_
    rw [h0]
    exact ⟨fun _ => h, fun z => by omega⟩
theorem fL_b {P r p : Int} (hP : 1 ≤ P) (n : Nat) (o : Int) : (fL P r p (n + 1)).2.1 o = true ↔ (fL P r p (n + 1)).2.2.2.2 o ≠ -1 := by
  have h := (bmX_rnds (ask := fun _ _ => true) hP (okX_fr (okX_fL (r := r) (p := p) hP n)) (fun _ => rfl) r.toNat).2.1 o
  refine h.trans ⟨fun z => ?_, Or.inr⟩
  rcases z with z | z
  · exact absurd (show false = true from z) (by decide)
  · exact z
theorem c_findRhythm (P r p : Int) (hP : 1 ≤ P ∧ P ≤ 6) (hr : 1 ≤ r ∧ r ≤ 4) (hp : 0 ≤ p ∧ p ≤ 5) (σ : gS) (hC : CM σ 59 P (fun _ _ => true) (bgX P p)) (hR : gI σ 58 1 = r) (Q : gS → Prop)
    (h : ∀ N K τ, isRh P r p N K → N ≤ 60 → gI τ 58 4 = N → gI τ 58 5 = N - K → (∀ j, 0 ≤ j → j < N → gI τ 66 j = mtF P r p j) → gI τ 59 0 = P → frC σ τ → Q τ) : eX2_findRhythm l G σ Q := by
  have okf : ∀ n, okX P (fL P r p n) := okX_fL (by omega)
  refine vX2_findRhythm σ Q (fun σ1 e1 σ2 e2 => ?_)
  have F2 : frC σ σ2 := by rw [e2, e1]; exact (frC.set (by omega)).trans (frC.set (by omega))
  have s2 : ∀ c i, c ≠ 58 → gI σ2 c i = gI σ c i := fun c i hc => by rw [e2, sI_ne hc, e1, sI_ne hc]
  refine c_pointersNow P hP (bgX P p) (okf 0) σ2 (by rw [s2 _ _ (by omega)]; exact hC.1) (fun o o0 o1 => by rw [s2 _ _ (by omega), s2 _ _ (by omega)]; exact ⟨(hC.2.2.2.1 o o0 o1).1, (hC.2.2.2.1 o o0 o1).2.1⟩) _ (fun _ σ3 e3 => ?_)
  have C3 : CM σ3 59 P (fun _ _ => true) (fL P r p 0) := by
    rw [e3]
    refine CM.same (τ := sL σ2 0 (cod P (bgX P p))) hC (fun i => s2 59 i (by omega)) (fun k k1 k4 i => s2 (59 + k) i (by omega))
  refine gloopM (α := Int × gS) (fun q => (60 - q.1).toNat) (fun q => 0 ≤ q.1 ∧ q.1 ≤ 60 ∧ CM q.2 59 P (fun _ _ => true) (fL P r p q.1.toNat) ∧ gI q.2 58 1 = r ∧ gI q.2 58 4 = q.1 ∧ (∀ j, 0 ≤ j → j < q.1 → gI q.2 66 j = mtF P r p j) ∧ (∀ j : Nat, (j : Int) ≤ q.1 → q.2.2.1 j = cod P (fL P r p j)) ∧ frC σ q.2 ∧ ((gI q.2 58 5 = 0 ∧ ∀ a b : Nat, a < b → (b : Int) ≤ q.1 → ¬ pe P (fL P r p b) (fL P r p a)) ∨ ∃ K, isRh P r p q.1 K ∧ gI q.2 58 5 = q.1 - K)) (fun q => kX2_findRhythm_22 l G q.1 q.2 Q) ?_ (0, σ3) ⟨by show (0 : Int) ≤ 0; decide, by show (0 : Int) ≤ 60; decide, C3, ?_, ?_, fun j j0 j1 => absurd (show j < 0 from j1) (by omega), fun j hj => ?_, ?_, Or.inl ⟨?_, fun a b ab hb => absurd (show (b : Int) ≤ 0 from hb) (by omega)⟩⟩
  · rintro ⟨s, τ⟩ ⟨z1, z2, z3, z4, z5, z6, z7, z8, z9⟩ ih
    dsimp only at z1 z2 z3 z4 z5 z6 z7 z8 z9 ih ⊢
    have fin : ∀ K, isRh P r p s K → gI τ 58 5 = s - K → Q τ := fun K hK e => h s K τ hK z2 z5 e z6 z3.1 z8
    refine vX2_findRhythm_22 s ⟨by omega, by omega⟩ τ Q ⟨fun e => ?_, fun e => ⟨fun e5 => ?_, fun e5 => ?_⟩⟩
    · rcases z9 with ⟨_, y⟩ | ⟨K, hK, eK⟩
      · obtain ⟨a, b, ab, hb, y2⟩ := exRep hP hr hp
        exact absurd y2 (y a b ab (by omega))
      · exact fin K hK eK
    · rcases z9 with ⟨y, _⟩ | ⟨K, hK, eK⟩
      · exact absurd y e5
      · exact fin K hK eK
    · have no : ∀ a b : Nat, a < b → (b : Int) ≤ s → ¬ pe P (fL P r p b) (fL P r p a) := by
        rcases z9 with ⟨_, y⟩ | ⟨K, hK, eK⟩
        · exact y
        · have := hK.2.1; omega
      refine c_passSlotF P r hP hr _ (okf _) τ z3 z4 _ (fun υ uC uF uL => ?_)
      have uC : CM υ 59 P (fun _ _ => true) (fL P r p (s.toNat + 1)) := uC
      have m6 := uC.2.2.1
      have mc := zMc_bc hP m6 (fL_b hP.1 s.toNat)
      refine c_bitCount _ ⟨m6.1, m6.2.1⟩ υ _ (fun _ => ⟨by omega, ?_⟩)
      rw [uC.1, mc]
      have mr := mtF_r P r p s hP.1
      have em : zMc P (fL P r p (s.toNat + 1)) = mtF P r p s := by unfold mtF; rw [show (s + 1).toNat = s.toNat + 1 by omega]
      rw [em]
      refine ⟨⟨by omega, by omega⟩, fun υ1 f1 => ⟨⟨by omega, by omega⟩, fun υ2 f2 => ?_⟩⟩
      have g2 : ∀ c i, c ≠ 66 → ¬ (c = 58 ∧ i = 4) → gI υ2 c i = gI υ c i := fun c i hc hd => by rw [f2, sI_at, if_neg hd, f1, sI_ne hc]
      have d4 : gI υ2 58 4 = s + 1 := by rw [f2, sI_eq]
      have C2 : CM υ2 59 P (fun _ _ => true) (fL P r p (s.toNat + 1)) := CM.same uC (fun i => g2 59 i (by omega) (by omega)) (fun k k1 k4 i => g2 (59 + k) i (by omega) (by omega))
      refine c_pointersNow P hP _ (okf (s.toNat + 1)) υ2 C2.1 (fun o o0 o1 => ⟨(C2.2.2.2.1 o o0 o1).1, (C2.2.2.2.1 o o0 o1).2.1⟩) _ (fun _ => ?_)
      rw [d4]
      refine ⟨by omega, fun υ3 f3 => ?_⟩
      have l3 : ∀ j : Nat, (j : Int) ≤ s + 1 → υ3.2.1 j = cod P (fL P r p j) := fun j hj => by
        have e0 : υ3.2.1 j = if (j : Int) = s + 1 then cod P (fL P r p (s.toNat + 1)) else υ2.2.1 j := by rw [f3]; rfl
        rw [e0]
        by_cases e9 : (j : Int) = s + 1
        · rw [if_pos e9, show s.toNat + 1 = j by omega]
        · rw [if_neg e9]
          have : υ2.2 = τ.2 := by rw [f2, f1]; exact uL
          rw [this]; exact z7 j (by omega)
      have g3 : ∀ c i, gI υ3 c i = gI υ2 c i := fun c i => by rw [f3]; rfl
      have C3' : CM υ3 59 P (fun _ _ => true) (fL P r p (s.toNat + 1)) := CM.same C2 (fun i => g3 59 i) (fun k k1 k4 i => g3 (59 + k) i)
      have F3 : frC σ υ3 := ⟨fun c hc i => by rw [g3, g2 c i (by omega) (by omega), uF c i (by omega)]; exact z8.1 c hc i, fun c hc i => by rw [g3, g2 c i (by omega) (by omega), uF c i (by omega)]; exact z8.2 c hc i⟩
      have d1 : gI υ3 58 1 = r := by rw [g3, g2 _ _ (by omega) (by omega), uF _ _ (by omega)]; exact z4
      have d5 : gI υ3 58 5 = 0 := by rw [g3, g2 _ _ (by omega) (by omega), uF _ _ (by omega)]; exact e5
      have d66 : ∀ j, 0 ≤ j → j < s + 1 → gI υ3 66 j = mtF P r p j := fun j j0 j1 => by
        rw [g3, f2, sI_ne (by omega), f1, sI_at]
        by_cases e9 : j = s
        · rw [if_pos ⟨rfl, e9⟩, e9]
        · rw [if_neg (fun q => e9 q.2), uF _ _ (by omega)]; exact z6 j j0 (by omega)
      have d4' : gI υ3 58 4 = s + 1 := by rw [g3]; exact d4
      -- the inner loop
      have out : ∀ w, gI w 58 5 = gI w 58 5 → (∀ c i, ¬ (c = 58 ∧ i = 5) → gI w c i = gI υ3 c i) → w.2 = υ3.2 → ((gI w 58 5 = 0 ∧ ∀ a b : Nat, a < b → (b : Int) ≤ s + 1 → ¬ pe P (fL P r p b) (fL P r p a)) ∨ ∃ K, isRh P r p (s + 1) K ∧ gI w 58 5 = s + 1 - K) → kX2_findRhythm_22 l G (s + 1) w Q := by
        intro w _ wF wL wD
        refine ih (s + 1, w) ⟨by show 0 ≤ s + 1; omega, by show s + 1 ≤ 60; omega, ?_, ?_, ?_, fun j j0 j1 => ?_, fun j hj => ?_, ?_, wD⟩ (by show (60 - (s + 1)).toNat < (60 - s).toNat; omega)
        · show CM w 59 P (fun _ _ => true) (fL P r p (s + 1).toNat)
          rw [show (s + 1).toNat = s.toNat + 1 by omega]
          exact CM.same C3' (fun i => wF 59 i (by omega)) (fun k k1 k4 i => wF (59 + k) i (by omega))
        · show gI w 58 1 = r
          rw [wF _ _ (by omega)]; exact d1
        · show gI w 58 4 = s + 1
          rw [wF _ _ (by omega)]; exact d4'
        · show gI w 66 j = mtF P r p j
          rw [wF _ _ (by omega)]; exact d66 j j0 j1
        · show w.2.1 j = cod P (fL P r p j)
          rw [wL]; exact l3 j hj
        · exact ⟨fun c hc i => by rw [wF c i (by omega)]; exact F3.1 c hc i, fun c hc i => by rw [wF c i (by omega)]; exact F3.2 c hc i⟩
      rw [d4', show s + 1 - 1 = s by omega]
      have In : ∀ n : Nat, (n : Int) ≤ s + 1 → (∀ j : Nat, n ≤ j → (j : Int) ≤ s → ¬ pe P (fL P r p (s.toNat + 1)) (fL P r p j)) → kX2_findRhythm_90 l G s ((n : Int) - 1) υ3 Q := by
        intro n
        induction n with
        | zero =>
          intro _ nn
          refine vX2_findRhythm_90 s _ ⟨by omega, by omega⟩ ⟨by omega, by omega⟩ υ3 Q ⟨fun _ => out υ3 rfl (fun _ _ _ => rfl) rfl (Or.inl ⟨d5, fun a b ab hb => ?_⟩), fun e9 => by omega⟩
          by_cases e9 : b = s.toNat + 1
          · rw [e9]; exact nn a (by omega) (by omega)
          · exact no a b ab (by omega)
        | succ n ihn =>
          intro hn nn
          refine vX2_findRhythm_90 s _ ⟨by omega, by omega⟩ ⟨by omega, by omega⟩ υ3 Q ⟨fun e9 => by omega, fun _ => ⟨fun e9 => absurd d5 e9, fun _ => ?_⟩⟩
          rw [d4', show ((n + 1 : Nat) : Int) - 1 = (n : Int) by omega]
          have la := l3 n (by omega)
          have lb := l3 (s.toNat + 1) (by omega)
          rw [show ((s.toNat + 1 : Nat) : Int) = s + 1 by omega] at lb
          have ba := cod_60 hP (okf n) P.toNat (by omega)
          have bb := cod_60 hP (okf (s.toNat + 1)) P.toNat (by omega)
          have ba : 0 ≤ cod P (fL P r p n) ∧ cod P (fL P r p n) < 68719476736 := ba
          have bb : 0 ≤ cod P (fL P r p (s.toNat + 1)) ∧ cod P (fL P r p (s.toNat + 1)) < 68719476736 := bb
          rw [la, lb]
          have cc := glcmp_0 (a := cod P (fL P r p n)) (b := cod P (fL P r p (s.toNat + 1))) ⟨by omega, by omega⟩ ⟨by omega, by omega⟩
          have cp := cod_pe hP (okf (s.toNat + 1)) (okf n)
          refine ⟨by omega, by omega, fun e9 => ?_, fun e9 => ⟨⟨by omega, by omega⟩, fun w ew => ?_⟩⟩
          · refine ihn (by omega) (fun j j0 j1 => ?_)
            by_cases q : j = n
            · rw [q]
              intro y
              exact e9 (cc.mpr (cp.mpr y).symm)
            · exact nn j (by omega) j1
          · have K : isRh P r p (s + 1) n := ⟨by omega, by omega, by rw [show (s + 1).toNat = s.toNat + 1 by omega, show ((n : Int)).toNat = n by omega]; exact cp.mp (cc.mp e9).symm, fun a b ab hb => no a b ab (by omega)⟩
            have w5 : gI w 58 5 = s + 1 - n := by rw [ew, sI_eq]
            refine vX2_findRhythm_90 s _ ⟨by omega, by omega⟩ ⟨by omega, by omega⟩ w Q ?_
            have go : kX2_findRhythm_22 l G (s + 1) w Q := out w rfl (fun c i hc => by rw [ew, sI_at, if_neg hc]) (by rw [ew]; rfl) (Or.inr ⟨n, K, w5⟩)
            rw [w5]
            exact ⟨fun _ => go, fun _ => ⟨fun _ => go, fun q => by omega⟩⟩
      have := In (s.toNat + 1) (by omega) (fun j j0 j1 => by omega)
      rw [show ((s.toNat + 1 : Nat) : Int) - 1 = s by omega] at this
      exact this
  · show gI σ3 58 1 = r
    rw [e3]
    show gI σ2 58 1 = r
    rw [e2, sI_nei (by omega), e1, sI_nei (by omega)]; exact hR
  · show gI σ3 58 4 = 0
    rw [e3]
    show gI σ2 58 4 = 0
    rw [e2, sI_nei (by omega), e1, sI_eq]
  · show σ3.2.1 j = cod P (fL P r p j)
    have : j = 0 := by have : (j : Int) ≤ 0 := hj; omega
    subst this
    rw [e3]; rfl
  · show frC σ σ3
    rw [e3]; exact F2
  · show gI σ3 58 5 = 0
    rw [e3]
    show gI σ2 58 5 = 0
    rw [e2, sI_eq]
theorem c_tellRhythm (x w P r p : Int) (hx : 0 ≤ x ∧ x < 2) (rw0 : gR w) (hP : 1 ≤ P ∧ P ≤ 6) (hr : 1 ≤ r ∧ r ≤ 4) (hp : 0 ≤ p ∧ p ≤ 5) (σ : gS) (h0 : gI σ 4 (x * 4 + 0) = P) (h1 : gI σ 4 (x * 4 + 1) = r) (h3 : gI σ 4 (x * 4 + 3) = p) (Q : Int → gS → Prop)
    (h : ∀ N K τ, isRh P r p N K → frC σ τ → Q (zRh P r p N K w) τ) : eX2_tellRhythm l G x w σ Q := by
  refine vX2_tellRhythm x w ⟨by omega, by omega⟩ rw0 σ Q (c_beginF x P r p hx hP hr hp σ h0 h1 h3 _ (fun σ1 hC hR hF => c_findRhythm P r p hP hr hp σ1 hC hR _ (fun N K τ hK h60 t4 t5 t66 t0 tF => ?_)))
  have hq := h N K τ hK (hF.trans tF)
  unfold zRh at hq
  obtain ⟨k1, k2, k3, k4⟩ := hK
  rw [t4, t5]
  have mr := fun j => mtF_r P r p j hP.1
  refine ⟨fun e => ?_, fun e => ?_, fun e => ?_, fun e => ?_, fun e => ?_⟩
  · rw [if_pos e] at hq; exact hq
  · rw [if_neg (by omega), if_pos e] at hq; exact hq
  · rw [if_neg (by omega), if_neg (by omega), if_pos e] at hq
    rw [show N - (N - K) = K by omega]
    have rk : gR K := ⟨by omega, by omega⟩
    refine vX2_madeFrom K rk τ _ ?_
    have bnd : ∀ j : Int, K ≤ j → j ≤ N → 0 ≤ sm (mtF P r p) j.toNat - sm (mtF P r p) K.toNat ∧ sm (mtF P r p) j.toNat - sm (mtF P r p) K.toNat ≤ 1000 := fun j j0 j1 => by
      have a := sm_full (m := fun i => -mtF P r p i) (P := 0) (fun i _ => by have := mr i; omega) K.toNat (j - K).toNat
      have b := (sm_full (m := mtF P r p) (P := P) (fun i _ => (mr i).2) K.toNat (j - K).toNat).1
      rw [show K.toNat + (j - K).toNat = j.toNat by omega] at a b
      have neg : ∀ n : Nat, sm (fun i => -mtF P r p i) n = -sm (mtF P r p) n := fun n => by
        induction n with
        | zero => rfl
        | succ n ihn =>
          show sm (fun i => -mtF P r p i) n + -mtF P r p n = -(sm (mtF P r p) n + mtF P r p n)
          rw [ihn]; omega
      rw [neg, neg] at a
      have c : P * (((j - K).toNat : Nat) : Int) ≤ 6 * (((j - K).toNat : Nat) : Int) := Int.mul_le_mul_of_nonneg_right hP.2 (by omega)
      have := a.1
      omega
    refine gloopI (α := Int) K N (fun j y => j ≤ N ∧ y = sm (mtF P r p) j.toNat - sm (mtF P r p) K.toNat) (fun j y => kX2_madeFrom_4 l G K y j τ _) ?_ ?_ K 0 (by omega) ⟨by omega, by omega⟩
    · rintro j y j0 j1 ⟨z0, z1⟩ ih
      have b := bnd j j0 (by omega)
      refine vX2_madeFrom_4 K y j rk ⟨by omega, by omega⟩ ⟨by omega, by omega⟩ τ _ ?_
      rw [t4, t66 j (by omega) j1]
      exact ⟨fun z => by omega, fun _ => ⟨by omega, ih _ ⟨by omega, by rw [sm_s _ (by omega), z1]; omega⟩⟩⟩
    · rintro j y j0 ⟨z0, z1⟩
      have hj : j = N := by omega
      subst hj
      have b := bnd j (by omega) (by omega)
      refine vX2_madeFrom_4 K y j rk ⟨by omega, by omega⟩ ⟨by omega, by omega⟩ τ _ ?_
      rw [t4, z1]
      exact ⟨fun _ _ => hq, fun z => by omega⟩
  · rw [if_neg (by omega), if_neg (by omega), if_neg (by omega), if_pos e] at hq
    refine vX2_stepAt τ _ ?_
    rw [t4]
    have L : ∀ n : Nat, (n : Int) ≤ N → sdn (mtF P r p) P n = sdn (mtF P r p) P N.toNat → kX2_stepAt_5 l G n τ (fun v14 σ12 => gR v14 → Q v14 σ12) := by
      intro n
      induction n with
      | zero =>
        intro _ es
        have es : (0 : Int) = sdn (mtF P r p) P N.toNat := es
        refine vX2_stepAt_5 _ ⟨by omega, by omega⟩ τ _ ⟨fun _ => ?_, fun z => by omega⟩
        rw [t4, t5]
        refine ⟨⟨⟨by omega, by omega⟩, fun _ => trivial, fun _ => trivial⟩, fun v ev _ => ?_⟩
        rw [← es, if_neg (by omega)] at hq
        rw [ev, if_neg (by omega)]; exact hq
      | succ n ihn =>
        intro hn es
        refine vX2_stepAt_5 _ ⟨by omega, by omega⟩ τ _ ⟨fun z => by omega, fun _ => ?_⟩
        rw [show ((n + 1 : Nat) : Int) - 1 = n by omega, t66 n (by omega) (by omega), t0, t4, t5]
        have es : (if mtF P r p n = P then sdn (mtF P r p) P n else (n : Int) + 1) = sdn (mtF P r p) P N.toNat := es
        refine ⟨by omega, fun z => ?_, fun z => ?_⟩
        · rw [if_neg z] at es
          refine ⟨⟨⟨by omega, by omega⟩, fun _ => trivial, fun _ => trivial⟩, fun v ev _ => ?_⟩
          rw [← es] at hq
          rw [show N - (N - K) = K by omega, show ((n + 1 : Nat) : Int) = (n : Int) + 1 by omega] at ev
          rw [ev]; exact hq
        · rw [if_pos z] at es
          rw [show ((n + 1 : Nat) : Int) + -1 = n by omega]
          exact ihn (by omega) es
    have := L N.toNat (by omega) rfl
    rw [show ((N.toNat : Nat) : Int) = N by omega] at this
    exact this
  · rw [if_neg (by omega), if_neg (by omega), if_neg (by omega), if_neg (by omega)] at hq; exact hq
end SH
