def fHs (S : RS) (i o x : Int) : Int := if x = 0 then (if S 95 (6 * i + o) ≤ 0 then 0 else 1) else 1
def zHas (S : RS) (i : Int) : Int := gfold (fHs S i) (if S 97 i ≤ 0 then 0 else 1) (S 88 10).toNat
def snt (S : RS) (i k0 : Int) : Nat → Bool
  | 0 => false
  | n + 1 => snt S i k0 n || (decide (S 109 (k0 + n) = i) || decide (S 110 (k0 + n) = i))
theorem snt_iff (S : RS) (i k0 : Int) : ∀ n : Nat, snt S i k0 n = true ↔ ∃ k : Int, k0 ≤ k ∧ k < k0 + n ∧ (S 109 k = i ∨ S 110 k = i)
  | 0 => ⟨fun h => (by cases h), fun ⟨k, a, b, _⟩ => by omega⟩
  | n + 1 => by
    unfold snt
    rw [Bool.or_eq_true, Bool.or_eq_true, snt_iff S i k0 n, decide_eq_true_iff, decide_eq_true_iff]
    constructor
    · rintro (⟨k, a, b, c⟩ | z)
      · exact ⟨k, a, by omega, c⟩
      · exact ⟨k0 + n, by omega, by omega, z⟩
    · rintro ⟨k, a, b, c⟩
      by_cases q : k = k0 + n
      · rw [q] at c; exact Or.inr c
      · exact Or.inl ⟨k, a, by omega, c⟩
def fSv (S : RS) (i x : Int) : Int := gor x (if zHas S i = 0 then 0 else (if snt S i (6 * (S 88 24 - S 88 10)) (6 * S 88 10).toNat = true then 0 else gshl 1 i))
def zStarved (S : RS) : Int := if S 88 24 < S 88 10 then 0 else gfold (fSv S) 0 (S 88 10).toNat
theorem fHs_r (S : RS) (i o x : Int) (h : x = 0 ∨ x = 1) : fHs S i o x = 0 ∨ fHs S i o x = 1 := by
  unfold fHs
  split
  · split
    · exact Or.inl rfl
    · exact Or.inr rfl
  · exact Or.inr rfl
def pSv (S : RS) (j i : Int) : Bool := decide (i < j) && (decide (zHas S i ≠ 0) && !snt S i (6 * (S 88 24 - S 88 10)) (6 * S 88 10).toNat)
theorem fSv_m (S : RS) (j x : Int) (hj : 0 ≤ j ∧ j < 6) (h : isM x (pSv S j)) : isM (fSv S j x) (pSv S (j + 1)) := by
  have key : ∀ k, 0 ≤ k → k < 6 → k ≠ j → pSv S (j + 1) k = pSv S j k := fun k k0 k1 hk => by
    unfold pSv
    have e : (k < j + 1) = (k < j) := by simp only [eq_iff_iff]; omega
    simp only [e]
  have pj : pSv S j j = false := by unfold pSv; simp
  unfold fSv
  by_cases a : zHas S j = 0
  · rw [if_pos a, gor_0 x ⟨h.1, h.2.1⟩]
    refine isM_congr h (fun k k0 k1 => ?_)
    by_cases z : k = j
    · subst z
      rw [pj]; unfold pSv; simp [a]
    · exact (key k k0 k1 z).symm
  · rw [if_neg a]
    by_cases b : snt S j (6 * (S 88 24 - S 88 10)) (6 * S 88 10).toNat = true
    · rw [if_pos b, gor_0 x ⟨h.1, h.2.1⟩]
      refine isM_congr h (fun k k0 k1 => ?_)
      by_cases z : k = j
      · subst z
        rw [pj]; unfold pSv; simp [b]
      · exact (key k k0 k1 z).symm
    · rw [if_neg b]
      refine isM_congr (isM_set h j hj) (fun k k0 k1 => ?_)
      by_cases z : k = j
      · subst z
        rw [pj]
        unfold pSv
        rw [Bool.not_eq_true] at b
        have : k < k + 1 := by omega
        simp [a, b, this]
      · rw [key k k0 k1 z]
        have : ¬ j = k := fun e => z e.symm
        simp [this]
theorem zStarved_m (S : RS) (hP : 1 ≤ S 88 10 ∧ S 88 10 ≤ 6) (h : ¬ S 88 24 < S 88 10) : isM (zStarved S) (pSv S (S 88 10)) := by
  unfold zStarved
  rw [if_neg h]
  refine gfold_P (fSv S) 0 (fun j x => isM x (pSv S j)) ?_ (S 88 10) (by omega) (fun j x j0 j1 hp => fSv_m S j x ⟨j0, by omega⟩ hp)
  refine isM_congr isM_0 (fun k k0 k1 => ?_)
  unfold pSv
  rw [decide_eq_false (show ¬ k < 0 by omega)]; simp
section SA
variable {l : Launch} {G : gG}
theorem c_hasSomething (i : Int) (σ : gS) (S : RS) (hC : CR σ S) (hM : OKM S) (hi : 0 ≤ i ∧ i < S 88 10) (Q : Int → gS → Prop) (h : (zHas S i = 0 ∨ zHas S i = 1) → Q (zHas S i) σ) : eX5_hasSomething l G i σ Q := by
  have hP := hM.1.1.1
  have e3 := hC.1.1
  have d4 := hC.2.2.2.1
  have ri : gR i := ⟨by omega, by omega⟩
  refine vX5_hasSomething i ri σ Q ⟨by omega, fun v ev => ?_⟩
  rw [(hC.2.2.1 i hi.1 (by omega)).2.1] at ev
  rw [ev]
  refine gloopF (fHs S i) (if S 97 i ≤ 0 then 0 else 1) (S 88 10) (by omega) (fun j x => x = 0 ∨ x = 1) (fun j x => kX5_hasSomething_17 l G i x j σ Q) (by split; exact Or.inl rfl; exact Or.inr rfl) ?_ ?_
  · intro j x j0 j1 hx
    refine ⟨fHs_r S i j x hx, fun ih => ?_⟩
    have ih : kX5_hasSomething_17 l G i (fHs S i j x) (j + 1) σ Q := ih
    unfold fHs at ih
    refine vX5_hasSomething_17 i x j ri (gR_01 hx) ⟨by omega, by omega⟩ σ Q ?_
    rw [e3, show i * 6 + j = 6 * i + j by omega, (d4 (6 * i + j) (by omega) (by omega)).1]
    refine ⟨fun e => by omega, fun _ => ⟨⟨fun _ => trivial, fun _ => ⟨by omega, fun _ => trivial, fun _ => trivial⟩⟩, fun u eu => ?_⟩⟩
    rw [eu]; exact ih
  · intro hx
    refine vX5_hasSomething_17 i _ _ ri (gR_01 hx) ⟨by omega, by omega⟩ σ Q ?_
    rw [e3]
    exact ⟨fun _ => ⟨hx, h hx⟩, fun e => by omega⟩
theorem c_starved (σ : gS) (S : RS) (hC : CR σ S) (hM : OKM S) (Q : Int → gS → Prop) (h : Q (zStarved S) σ) : eX5_starved l G σ Q := by
  have hP := hM.1.1.1
  have h0 := hM.1.1.2.1
  have e3 := hC.1.1
  have e41 := hC.2.1.1
  have h24 := hM.2.2
  refine vX5_starved σ Q ?_
  rw [e41, e3]
  refine ⟨⟨by omega, by omega⟩, fun e => ?_, fun e => ?_⟩
  · have hz := zStarved_m S ⟨hP.1, hP.2.1⟩ (by omega)
    have rf : gR (S 88 24 - S 88 10) := ⟨by omega, by omega⟩
    obtain ⟨f, hf⟩ : ∃ f, S 88 24 - S 88 10 = f := ⟨_, rfl⟩
    rw [hf] at rf ⊢
    -- senders away
    have L2 : ∀ x, isM x (fun i => decide (i < S 88 10) && decide (zHas S i ≠ 0)) → kX5_starved_53 l G f x f σ Q := by
      intro x hx
      refine gloopI (α := Int) f (S 88 24) (fun s y => s ≤ S 88 24 ∧ isM y (fun i => decide (i < S 88 10) && (decide (zHas S i ≠ 0) && !snt S i (6 * f) (6 * (s - f)).toNat))) (fun s y => kX5_starved_53 l G f y s σ Q) ?_ ?_ f x (by omega) ⟨by omega, ?_⟩
      · rintro s y s0 s1 ⟨z0, z1⟩ ih
        have hh := (hC.2.2.2.2.2.2.2.1 s (by omega) s1).2.2.1
        obtain ⟨m0, m1, mb⟩ := hh
        refine vX5_starved_53 f y s rf ⟨by have := z1.1; omega, by have := z1.2.1; omega⟩ ⟨by omega, by omega⟩ σ Q ?_
        rw [e41]
        refine ⟨fun e9 => by omega, fun _ => ⟨by omega, ih _ ⟨by omega, ?_⟩⟩⟩
        refine isM_congr (isM_minus z1 ⟨m0, m1⟩) (fun i i0 i1 => ?_)
        have key : snt S i (6 * f) (6 * (s + 1 - f)).toNat = (snt S i (6 * f) (6 * (s - f)).toNat || tb (gI σ 43 s) i) := by
          rw [Bool.eq_iff_iff, Bool.or_eq_true, snt_iff, snt_iff, mb i i0 i1]
          constructor
          · rintro ⟨k, a, b, c⟩
            by_cases z : k < 6 * s
            · exact Or.inl ⟨k, a, by omega, c⟩
            · refine Or.inr ⟨k - 6 * s, by omega, by omega, ?_⟩
              rw [show 6 * s + (k - 6 * s) = k by omega]; exact c
          · rintro (⟨k, a, b, c⟩ | ⟨o, o0, o1, c⟩)
            · exact ⟨k, a, by omega, c⟩
            · exact ⟨6 * s + o, by omega, by omega, c⟩
        rw [key]
        cases decide (i < S 88 10) <;> cases decide (zHas S i ≠ 0) <;> cases snt S i (6 * f) (6 * (s - f)).toNat <;> cases tb (gI σ 43 s) i <;> rfl
      · rintro s y s0 ⟨z0, z1⟩
        have hs : s = S 88 24 := by omega
        subst hs
        refine vX5_starved_53 f y _ rf ⟨by have := z1.1; omega, by have := z1.2.1; omega⟩ ⟨by omega, by omega⟩ σ Q ?_
        rw [e41]
        refine ⟨fun _ => ?_, fun e9 => by omega⟩
        have : y = zStarved S := by
          refine isM_unique z1 (isM_congr hz (fun i _ _ => ?_))
          unfold pSv
          rw [hf, show (6 * (S 88 24 - f)).toNat = (6 * S 88 10).toNat by omega]
        rw [this]; exact h
      · refine isM_congr hx (fun i _ _ => ?_)
        rw [show (6 * (f - f)).toNat = 0 by omega]
        unfold snt
        simp
    refine gloopI (α := Int) 0 (S 88 10) (fun i x => i ≤ S 88 10 ∧ isM x (fun k => decide (k < i) && decide (zHas S k ≠ 0))) (fun i x => kX5_starved_23 l G f x i σ Q) ?_ ?_ 0 0 (by omega) ⟨by omega, ?_⟩
    · rintro i x i0 i1 ⟨z0, z1⟩ ih
      refine vX5_starved_23 f x i rf ⟨by have := z1.1; omega, by have := z1.2.1; omega⟩ ⟨by omega, by omega⟩ σ Q ?_
      rw [e3]
      refine ⟨fun e9 => by omega, fun _ => c_hasSomething i σ S hC hM ⟨i0, i1⟩ _ (fun r01 _ => ⟨fun e9 => ih _ ⟨by omega, ?_⟩, fun e9 => ih _ ⟨by omega, ?_⟩⟩)⟩
      · refine isM_congr z1 (fun k k0 k1 => ?_)
        by_cases z : k = i
        · subst z; simp [e9]
        · have e : (k < i + 1) = (k < i) := by simp only [eq_iff_iff]; omega
          simp only [e]
      · refine isM_congr (isM_set z1 i (by omega)) (fun k k0 k1 => ?_)
        by_cases z : k = i
        · subst z
          have : k < k + 1 := by omega
          simp [e9, this]
        · have e : (k < i + 1) = (k < i) := by simp only [eq_iff_iff]; omega
          have : ¬ i = k := fun q => z q.symm
          simp only [e, this, decide_false, Bool.or_false]
    · rintro i x i0 ⟨z0, z1⟩
      have hi : i = S 88 10 := by omega
      subst hi
      refine vX5_starved_23 f x _ rf ⟨by have := z1.1; omega, by have := z1.2.1; omega⟩ ⟨by omega, by omega⟩ σ Q ?_
      rw [e3]
      exact ⟨fun _ => L2 x z1, fun e9 => by omega⟩
    · refine isM_congr isM_0 (fun k k0 k1 => ?_)
      rw [decide_eq_false (show ¬ k < 0 by omega)]; simp
  · unfold zStarved at h
    rw [if_pos (by omega)] at h; exact h
theorem c_starvedOf (σ : gS) (hM : OKM (pS σ)) (Q : Int → gS → Prop) (h : Q (zStarved (pS σ)) σ) : eX12_starvedOf l G σ Q := by
  have hP := hM.1.1.1
  have h0 := hM.1.1.2.1
  have e3 : gI σ 88 10 = pS σ 88 10 := pS_at (by unfold okC; omega)
  have e41 : gI σ 88 24 = pS σ 88 24 := pS_at (by unfold okC; omega)
  have h24 := hM.2.2
  refine vX12_starvedOf σ Q ?_
  rw [e41, e3]
  refine ⟨fun e => ?_, fun e => ?_⟩
  · unfold zStarved at h
    rw [if_neg (by omega)] at h
    refine gloopF (fSv (pS σ)) 0 (pS σ 88 10) (by omega) (fun j x => isM x (pSv (pS σ) j)) (fun j x => kX12_starvedOf_17 l G x j σ Q) ?_ ?_ ?_
    · refine isM_congr isM_0 (fun k k0 k1 => ?_)
      unfold pSv
      rw [decide_eq_false (show ¬ k < 0 by omega)]; simp
    · intro i x i0 i1 hx
      refine ⟨fSv_m (pS σ) i x ⟨i0, by omega⟩ hx, fun ih => ?_⟩
      have ih : kX12_starvedOf_17 l G (fSv (pS σ) i x) (i + 1) σ Q := ih
      unfold fSv at ih
      have rx : gR x := ⟨by have := hx.1; omega, by have := hx.2.1; omega⟩
      have ri : gR i := ⟨by omega, by omega⟩
      refine vX12_starvedOf_17 x i rx ri σ Q ?_
      rw [e3]
      refine ⟨fun e9 => by omega, fun _ => ⟨by omega, fun v ev => ?_⟩⟩
      rw [pS_at (c := 97) (by unfold okC; omega)] at ev
      rw [ev]
      refine gloopF (fHs (pS σ) i) (if pS σ 97 i ≤ 0 then 0 else 1) (pS σ 88 10) (by omega) (fun j y => y = 0 ∨ y = 1) (fun j y => kX12_starvedOf_43 l G x i y j σ Q) (by split; exact Or.inl rfl; exact Or.inr rfl) ?_ ?_
      · intro j y j0 j1 hy
        refine ⟨fHs_r (pS σ) i j y hy, fun ih2 => ?_⟩
        have ih2 : kX12_starvedOf_43 l G x i (fHs (pS σ) i j y) (j + 1) σ Q := ih2
        unfold fHs at ih2
        refine vX12_starvedOf_43 x i y j rx ri (gR_01 hy) ⟨by omega, by omega⟩ σ Q ?_
        rw [e3]
        refine ⟨fun e9 => by omega, fun _ => ⟨fun e9 => ?_, fun e9 => ?_⟩⟩
        · rw [if_neg e9] at ih2; exact ih2
        · rw [if_pos e9] at ih2
          refine c_at i j (by omega) (by omega) σ _ (fun _ => ⟨by omega, fun u eu => ?_⟩)
          rw [pS_at (c := 95) (by unfold okC; omega)] at eu
          rw [eu]; exact ih2
      · intro hy
        have hz : gfold (fHs (pS σ) i) (if pS σ 97 i ≤ 0 then 0 else 1) (pS σ 88 10).toNat = zHas (pS σ) i := rfl
        rw [hz] at hy ⊢
        refine vX12_starvedOf_43 x i _ _ rx ri (gR_01 hy) ⟨by omega, by omega⟩ σ Q ?_
        rw [e3, e41]
        refine ⟨fun _ => ?_, fun e9 => by omega⟩
        obtain ⟨k0, hk0⟩ : ∃ k0, 6 * (pS σ 88 24 - pS σ 88 10) = k0 := ⟨_, rfl⟩
        rw [hk0] at ih ⊢
        refine gloopI (α := Int) k0 (6 * pS σ 88 24) (fun k y => k ≤ 6 * pS σ 88 24 ∧ y = if snt (pS σ) i k0 (k - k0).toNat = true then 1 else 0) (fun k y => kX12_starvedOf_99 l G x i (zHas (pS σ) i) y k σ Q) ?_ ?_ k0 0 (by omega) ⟨by omega, ?_⟩
        · rintro k y q0 q1 ⟨z0, z1⟩ ih2
          have y01 : y = 0 ∨ y = 1 := by rw [z1]; split; exact Or.inr rfl; exact Or.inl rfl
          refine vX12_starvedOf_99 x i _ y k rx ri (gR_01 hy) (gR_01 y01) ⟨by omega, by omega⟩ σ Q ?_
          rw [e41, pS_at (c := 109) (i := k) (by unfold okC; omega), pS_at (c := 110) (i := k) (by unfold okC; omega)]
          refine ⟨⟨by omega, by omega⟩, fun e9 => by omega, fun _ => ⟨⟨fun _ => trivial, fun _ => ⟨by omega, fun _ => trivial, fun _ => ⟨fun _ => trivial, fun _ => trivial⟩⟩⟩, fun u eu => ih2 u ⟨by omega, ?_⟩⟩⟩
          have st : snt (pS σ) i k0 (k + 1 - k0).toNat = (snt (pS σ) i k0 (k - k0).toNat || (decide (pS σ 109 k = i) || decide (pS σ 110 k = i))) := by
            rw [show (k + 1 - k0).toNat = (k - k0).toNat + 1 by omega]
            show (snt (pS σ) i k0 (k - k0).toNat || (decide (pS σ 109 (k0 + ((k - k0).toNat : Nat)) = i) || decide (pS σ 110 (k0 + ((k - k0).toNat : Nat)) = i))) = _
            rw [show k0 + (((k - k0).toNat : Nat) : Int) = k by omega]
          rw [st, eu, z1]
          by_cases a : snt (pS σ) i k0 (k - k0).toNat = true
          · simp [a]
          · rw [Bool.not_eq_true] at a
            rw [a]
            by_cases b : pS σ 109 k = i
            · simp [b]
            · by_cases c : pS σ 110 k = i
              · simp [b, c]
              · simp [b, c]
        · rintro k y q0 ⟨z0, z1⟩
          have hk : k = 6 * pS σ 88 24 := by omega
          have y01 : y = 0 ∨ y = 1 := by rw [z1]; split; exact Or.inr rfl; exact Or.inl rfl
          refine vX12_starvedOf_99 x i _ y k rx ri (gR_01 hy) (gR_01 y01) ⟨by omega, by omega⟩ σ Q ?_
          rw [e41]
          refine ⟨⟨by omega, by omega⟩, fun _ u eu => ?_, fun e9 => by omega⟩
          rw [show (k - k0).toNat = (6 * pS σ 88 10).toNat by omega] at z1
          rw [eu, z1]
          by_cases a : zHas (pS σ) i = 0
          · rw [if_pos a] at ih ⊢; exact ih
          · rw [if_neg a] at ih ⊢
            by_cases b : snt (pS σ) i k0 (6 * pS σ 88 10).toNat = true
            · rw [if_pos b] at ih ⊢
              rw [if_neg (by decide)]; exact ih
            · rw [if_neg b] at ih ⊢
              rw [if_pos rfl]; exact ih
        · rw [show (k0 - k0).toNat = 0 by omega]
          rfl
    · intro hx
      refine vX12_starvedOf_17 _ _ ⟨by have := hx.1; omega, by have := hx.2.1; omega⟩ ⟨by omega, by omega⟩ σ Q ?_
      rw [e3]
      exact ⟨fun _ => h, fun e9 => by omega⟩
  · unfold zStarved at h
    rw [if_pos (by omega)] at h; exact h
end SA
