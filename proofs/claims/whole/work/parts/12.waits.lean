/-- folds over numbers from 0 on -/
def gfold {α : Type} (f : Int → α → α) (a : α) : Nat → α
  | 0 => a
  | n + 1 => f n (gfold f a n)
theorem gfold_s {α : Type} {f : Int → α → α} {a : α} {j : Int} (h : 0 ≤ j) : gfold f a (j + 1).toNat = f j (gfold f a j.toNat) := by
  rw [show (j + 1).toNat = j.toNat + 1 by omega]
  show f ((j.toNat : Nat) : Int) (gfold f a j.toNat) = _
  rw [show ((j.toNat : Nat) : Int) = j by omega]
theorem gloopF {α : Type} (f : Int → α → α) (a : α) (n : Int) (hn : 0 ≤ n) (P k : Int → α → Prop) (p0 : P 0 a) (step : ∀ j x, 0 ≤ j → j < n → P j x → P (j + 1) (f j x) ∧ (k (j + 1) (f j x) → k j x)) (last : P n (gfold f a n.toNat) → k n (gfold f a n.toNat)) : k 0 a := by
  refine gloopI (α := α) 0 n (fun j x => j ≤ n ∧ x = gfold f a j.toNat ∧ P j x) k ?_ ?_ 0 a (by omega) ⟨hn, rfl, p0⟩
  · rintro j x j0 j1 ⟨z0, z1, z2⟩ ih
    obtain ⟨s1, s2⟩ := step j x j0 j1 z2
    exact s2 (ih (f j x) ⟨by omega, by rw [gfold_s j0, ← z1], s1⟩)
  · rintro j x j0 ⟨z0, z1, z2⟩
    have hj : j = n := by omega
    subst hj
    subst z1
    exact last z2
theorem gfold_P {α : Type} (f : Int → α → α) (a : α) (P : Int → α → Prop) (p0 : P 0 a) (n : Int) (hn : 0 ≤ n) (step : ∀ j x, 0 ≤ j → j < n → P j x → P (j + 1) (f j x)) : P n (gfold f a n.toNat) :=
  gloopF f a n hn P (fun _ _ => P n (gfold f a n.toNat)) p0 (fun j x j0 j1 h => ⟨step j x j0 j1 h, fun z => z⟩) (fun z => z)
def fWo (S : RS) (j w : Int) : Int := if S 104 j = -1 then w else if w = -1 then j else if S 104 w - S 103 w < S 104 j - S 103 j then j else w
def zWorst (S : RS) : Int := gfold (fWo S) (-1) (S 88 25).toNat
def fSu (S : RS) (j x : Int) : Int := if S 104 j = -1 then x else x + (S 104 j - S 103 j)
def zSum (S : RS) : Int := gfold (fSu S) 0 (S 88 25).toNat
def fSp (S : RS) (j x : Int) : Int := if S 107 j ≤ 1 then x else x + 1
def zSplits (S : RS) : Int := gfold (fSp S) 0 (S 88 25).toNat
theorem fWo_r (S : RS) (j w : Int) (j0 : 0 ≤ j) (h : w = -1 ∨ (0 ≤ w ∧ w < j)) : fWo S j w = -1 ∨ (0 ≤ fWo S j w ∧ fWo S j w < j + 1) := by
  unfold fWo
  split
  · omega
  · split
    · omega
    · split <;> omega
theorem zWorst_r (S : RS) (h : 0 ≤ S 88 25) : zWorst S = -1 ∨ (0 ≤ zWorst S ∧ zWorst S < S 88 25) :=
  gfold_P (fWo S) (-1) (fun j w => w = -1 ∨ (0 ≤ w ∧ w < j)) (Or.inl rfl) (S 88 25) h (fun j x j0 _ hp => fWo_r S j x j0 hp)
/-- what is asked of stores here: bounds -/
def OKM (S : RS) : Prop := OKA S ∧ S 88 25 ≤ 360 ∧ S 88 24 ≤ 360
section RW
variable {l : Launch} {G : gG}
theorem c_waitC (k : Int) (σ : gS) (S : RS) (hC : CR σ S) (hM : OKM S) (hk : 0 ≤ k ∧ k < S 88 25) (Q : Int → gS → Prop) (h : Q (S 104 k - S 103 k) σ) : eX0_waitOf l G k σ Q := by
  obtain ⟨hA, h25, h24⟩ := hM
  obtain ⟨w1, w2, w3, w4⟩ := hA.2.1 k hk.1 hk.2
  obtain ⟨d1, d2, d3, d4, d5, d6, d7⟩ := hC.2.2.2.2.2.1 k hk.1 hk.2
  refine vX0_waitOf k ⟨by omega, by omega⟩ σ Q ?_
  rw [d5, d4]
  exact ⟨by omega, ⟨by omega, by omega⟩, h⟩
theorem c_waitR (k : Int) (σ : gS) (hM : OKM (pS σ)) (hk : 0 ≤ k ∧ k < pS σ 88 25) (Q : Int → gS → Prop) (h : Q (pS σ 104 k - pS σ 103 k) σ) : eX12_waitOf l G k σ Q := by
  obtain ⟨hA, h25, h24⟩ := hM
  obtain ⟨w1, w2, w3, w4⟩ := hA.2.1 k hk.1 hk.2
  refine vX12_waitOf k ⟨by omega, by omega⟩ σ Q ?_
  rw [pS_at (c := 104) (by unfold okC; omega), pS_at (c := 103) (by unfold okC; omega)]
  exact ⟨by omega, ⟨by omega, by omega⟩, h⟩
theorem c_worst (σ : gS) (S : RS) (hC : CR σ S) (hM : OKM S) (Q : Int → gS → Prop) (h : Q (zWorst S) σ) : eX5_worst l G σ Q := by
  have h0 := hM.1.1.2.1
  have e33 := hC.2.1.2.1
  have h25 := hM.2.1
  refine vX5_worst σ Q ?_
  refine gloopF (fWo S) (-1) (S 88 25) (by omega) (fun j w => w = -1 ∨ (0 ≤ w ∧ w < j)) (fun j w => kX5_worst_4 l G w j σ Q) (Or.inl rfl) ?_ ?_
  · intro j w j0 j1 hp
    refine ⟨fWo_r S j w j0 hp, fun ih => ?_⟩
    have ih : kX5_worst_4 l G (fWo S j w) (j + 1) σ Q := ih
    obtain ⟨d1, d2, d3, d4, d5, d6, d7⟩ := hC.2.2.2.2.2.1 j j0 j1
    unfold fWo at ih
    refine vX5_worst_4 w j ⟨by omega, by omega⟩ ⟨by omega, by omega⟩ σ Q ?_
    rw [e33, d5]
    refine ⟨fun e => by omega, fun _ => ⟨by omega, fun e => ?_, fun e => ⟨fun e2 => ?_, fun e2 => ?_⟩⟩⟩
    · rw [if_pos e] at ih; exact ih
    · rw [if_neg e, if_pos e2] at ih; exact ih
    · rw [if_neg e, if_neg e2] at ih
      refine c_waitC j σ S hC hM ⟨j0, j1⟩ _ (fun _ => c_waitC w σ S hC hM (by omega) _ (fun _ => ⟨fun e3 => ?_, fun e3 => ?_⟩))
      · rw [if_neg (by omega)] at ih; exact ih
      · rw [if_pos e3] at ih; exact ih
  · intro hp
    refine vX5_worst_4 _ _ ⟨by omega, by omega⟩ ⟨by omega, by omega⟩ σ Q ?_
    rw [e33]
    exact ⟨fun _ => h, fun e => by omega⟩
theorem c_worstOf (σ : gS) (hM : OKM (pS σ)) (Q : Int → gS → Prop) (h : Q (zWorst (pS σ)) σ) : eX12_worstOf l G σ Q := by
  have h0 := hM.1.1.2.1
  have e33 : gI σ 88 25 = pS σ 88 25 := pS_at (by unfold okC; omega)
  have h25 := hM.2.1
  refine vX12_worstOf σ Q ?_
  refine gloopF (fWo (pS σ)) (-1) (pS σ 88 25) (by omega) (fun j w => w = -1 ∨ (0 ≤ w ∧ w < j)) (fun j w => kX12_worstOf_4 l G w j σ Q) (Or.inl rfl) ?_ ?_
  · intro j w j0 j1 hp
    refine ⟨fWo_r (pS σ) j w j0 hp, fun ih => ?_⟩
    have ih : kX12_worstOf_4 l G (fWo (pS σ) j w) (j + 1) σ Q := ih
    unfold fWo at ih
    refine vX12_worstOf_4 w j ⟨by omega, by omega⟩ ⟨by omega, by omega⟩ σ Q ?_
    rw [e33, pS_at (c := 104) (by unfold okC; omega)]
    refine ⟨fun e => by omega, fun _ => ⟨by omega, fun e => ?_, fun e => ⟨fun e2 => ?_, fun e2 => ?_⟩⟩⟩
    · rw [if_pos e] at ih; exact ih
    · rw [if_neg e, if_pos e2] at ih; exact ih
    · rw [if_neg e, if_neg e2] at ih
      refine c_waitR j σ hM ⟨j0, j1⟩ _ (fun _ => c_waitR w σ hM (by omega) _ (fun _ => ⟨fun e3 => ?_, fun e3 => ?_⟩))
      · rw [if_neg (by omega)] at ih; exact ih
      · rw [if_pos e3] at ih; exact ih
  · intro hp
    refine vX12_worstOf_4 _ _ ⟨by omega, by omega⟩ ⟨by omega, by omega⟩ σ Q ?_
    rw [e33]
    exact ⟨fun _ => h, fun e => by omega⟩
theorem fSu_r {S : RS} (hM : OKM S) (j x : Int) (j0 : 0 ≤ j) (j1 : j < S 88 25) (h : -(500 * j) ≤ x ∧ x ≤ 500 * j) : -(500 * (j + 1)) ≤ fSu S j x ∧ fSu S j x ≤ 500 * (j + 1) := by
  obtain ⟨hA, h25, h24⟩ := hM
  obtain ⟨w1, w2, w3, w4⟩ := hA.2.1 j j0 j1
  unfold fSu
  split <;> omega
theorem c_sum (σ : gS) (S : RS) (hC : CR σ S) (hM : OKM S) (Q : Int → gS → Prop) (h : Q (zSum S) σ) : eX5_sumOfWaits l G σ Q := by
  have h0 := hM.1.1.2.1
  have e33 := hC.2.1.2.1
  have h25 := hM.2.1
  refine vX5_sumOfWaits σ Q ?_
  refine gloopF (fSu S) 0 (S 88 25) (by omega) (fun j x => -(500 * j) ≤ x ∧ x ≤ 500 * j) (fun j w => kX5_sumOfWaits_4 l G w j σ Q) (by omega) ?_ ?_
  · intro j w j0 j1 hp
    refine ⟨fSu_r hM j w j0 j1 hp, fun ih => ?_⟩
    have ih : kX5_sumOfWaits_4 l G (fSu S j w) (j + 1) σ Q := ih
    obtain ⟨d1, d2, d3, d4, d5, d6, d7⟩ := hC.2.2.2.2.2.1 j j0 j1
    unfold fSu at ih
    refine vX5_sumOfWaits_4 w j ⟨by omega, by omega⟩ ⟨by omega, by omega⟩ σ Q ?_
    rw [e33, d5]
    refine ⟨fun e => by omega, fun _ => ⟨by omega, fun e => ?_, fun e => ?_⟩⟩
    · rw [if_pos e] at ih; exact ih
    · rw [if_neg e] at ih
      exact c_waitC j σ S hC hM ⟨j0, j1⟩ _ (fun _ => ih)
  · intro hp
    refine vX5_sumOfWaits_4 _ _ ⟨by omega, by omega⟩ ⟨by omega, by omega⟩ σ Q ?_
    rw [e33]
    exact ⟨fun _ => h, fun e => by omega⟩
theorem c_sumOf (σ : gS) (hM : OKM (pS σ)) (Q : Int → gS → Prop) (h : Q (zSum (pS σ)) σ) : eX12_sumOf l G σ Q := by
  have h0 := hM.1.1.2.1
  have e33 : gI σ 88 25 = pS σ 88 25 := pS_at (by unfold okC; omega)
  have h25 := hM.2.1
  refine vX12_sumOf σ Q ?_
  refine gloopF (fSu (pS σ)) 0 (pS σ 88 25) (by omega) (fun j x => -(500 * j) ≤ x ∧ x ≤ 500 * j) (fun j w => kX12_sumOf_4 l G w j σ Q) (by omega) ?_ ?_
  · intro j w j0 j1 hp
    refine ⟨fSu_r hM j w j0 j1 hp, fun ih => ?_⟩
    have ih : kX12_sumOf_4 l G (fSu (pS σ) j w) (j + 1) σ Q := ih
    unfold fSu at ih
    refine vX12_sumOf_4 w j ⟨by omega, by omega⟩ ⟨by omega, by omega⟩ σ Q ?_
    rw [e33, pS_at (c := 104) (by unfold okC; omega)]
    refine ⟨fun e => by omega, fun _ => ⟨by omega, fun e => ?_, fun e => ?_⟩⟩
    · rw [if_neg e] at ih
      exact c_waitR j σ hM ⟨j0, j1⟩ _ (fun _ => ih)
    · rw [if_pos e] at ih
      rw [Int.add_zero]; exact ih
  · intro hp
    refine vX12_sumOf_4 _ _ ⟨by omega, by omega⟩ ⟨by omega, by omega⟩ σ Q ?_
    rw [e33]
    exact ⟨fun _ => h, fun e => by omega⟩
theorem fSp_r (S : RS) (j x : Int) (h : 0 ≤ x ∧ x ≤ j) : 0 ≤ fSp S j x ∧ fSp S j x ≤ j + 1 := by
  unfold fSp
  split <;> omega
theorem c_splits (σ : gS) (S : RS) (hC : CR σ S) (hM : OKM S) (Q : Int → gS → Prop) (h : Q (zSplits S) σ) : eX5_splits l G σ Q := by
  have h0 := hM.1.1.2.1
  have e33 := hC.2.1.2.1
  have h25 := hM.2.1
  refine vX5_splits σ Q ?_
  refine gloopF (fSp S) 0 (S 88 25) (by omega) (fun j x => 0 ≤ x ∧ x ≤ j) (fun j w => kX5_splits_4 l G w j σ Q) (by omega) ?_ ?_
  · intro j w j0 j1 hp
    refine ⟨fSp_r S j w hp, fun ih => ?_⟩
    have ih : kX5_splits_4 l G (fSp S j w) (j + 1) σ Q := ih
    obtain ⟨d1, d2, d3, d4, d5, d6, d7⟩ := hC.2.2.2.2.2.1 j j0 j1
    unfold fSp at ih
    refine vX5_splits_4 w j ⟨by omega, by omega⟩ ⟨by omega, by omega⟩ σ Q ?_
    rw [e33, d7]
    refine ⟨fun e => by omega, fun _ => ⟨by omega, fun e => ?_, fun e => ?_⟩⟩
    · rw [if_pos e] at ih; exact ih
    · rw [if_neg (by omega)] at ih; exact ih
  · intro hp
    refine vX5_splits_4 _ _ ⟨by omega, by omega⟩ ⟨by omega, by omega⟩ σ Q ?_
    rw [e33]
    exact ⟨fun _ => h, fun e => by omega⟩
theorem c_splitsOf (σ : gS) (hM : OKM (pS σ)) (Q : Int → gS → Prop) (h : Q (zSplits (pS σ)) σ) : eX12_splitsOf l G σ Q := by
  have h0 := hM.1.1.2.1
  have e33 : gI σ 88 25 = pS σ 88 25 := pS_at (by unfold okC; omega)
  have h25 := hM.2.1
  refine vX12_splitsOf σ Q ?_
  refine gloopF (fSp (pS σ)) 0 (pS σ 88 25) (by omega) (fun j x => 0 ≤ x ∧ x ≤ j) (fun j w => kX12_splitsOf_4 l G w j σ Q) (by omega) ?_ ?_
  · intro j w j0 j1 hp
    refine ⟨fSp_r (pS σ) j w hp, fun ih => ?_⟩
    have ih : kX12_splitsOf_4 l G (fSp (pS σ) j w) (j + 1) σ Q := ih
    unfold fSp at ih
    refine vX12_splitsOf_4 w j ⟨by omega, by omega⟩ ⟨by omega, by omega⟩ σ Q ?_
    rw [e33, pS_at (c := 107) (by unfold okC; omega)]
    refine ⟨fun e => by omega, fun _ => ⟨by omega, fun v ev => ?_⟩⟩
    rw [ev]
    by_cases e : pS σ 107 j ≤ 1
    · rw [if_pos e] at ih ⊢
      rw [Int.add_zero]; exact ih
    · rw [if_neg e] at ih ⊢; exact ih
  · intro hp
    refine vX12_splitsOf_4 _ _ ⟨by omega, by omega⟩ ⟨by omega, by omega⟩ σ Q ?_
    rw [e33]
    exact ⟨fun _ => h, fun e => by omega⟩
end RW
/-- how many outputs a slot reached -/
def fTn (S : RS) (s o x : Int) : Int := x + ((if S 109 (6 * s + o) = -1 then 0 else 1) + (if S 110 (6 * s + o) = -1 then 0 else 1))
def zTkn (S : RS) (s : Int) : Int := gfold (fTn S s) 0 6
theorem bcS_0 : ∀ m : Nat, m < 64 → bcS m = 0 → m = 0 := by decide +kernel
theorem zTkn_bc {σ : gS} {S : RS} (hC : CR σ S) (hM : OKM S) {s : Int} (hs : 0 ≤ s ∧ s < S 88 24) : bcS (gI σ 44 s) = zTkn S s ∧ (0 ≤ gI σ 44 s ∧ gI σ 44 s < 64) ∧ (gI σ 44 s = 0 ↔ zTkn S s = 0) := by
  have hh := hC.2.2.2.2.2.2.2.1 s hs.1 hs.2
  obtain ⟨m0, m1, mb⟩ := hh.2.2.2
  have hH := hM.1.2.2.1 s hs.1 hs.2
  have one : ∀ o : Int, 0 ≤ o → o < 6 → (if tb (gI σ 44 s) o = true then (1 : Int) else 0) = (if S 109 (6 * s + o) = -1 then 0 else 1) + (if S 110 (6 * s + o) = -1 then 0 else 1) := by
    intro o o0 o1
    obtain ⟨q1, q2, q3⟩ := hH o o0 o1
    rw [mb o o0 o1]
    dsimp only
    by_cases a : S 109 (6 * s + o) = -1
    · by_cases b : S 110 (6 * s + o) = -1
      · simp [a, b]
      · have : o < S 88 10 := by omega
        simp [a, b, this]
    · have b : S 110 (6 * s + o) = -1 := by omega
      have : o < S 88 10 := by omega
      simp [a, b, this]
  have e : bcS (gI σ 44 s) = zTkn S s := by
    unfold bcS
    rw [one 0 (by omega) (by omega), one 1 (by omega) (by omega), one 2 (by omega) (by omega), one 3 (by omega) (by omega), one 4 (by omega) (by omega), one 5 (by omega) (by omega)]
    show _ = fTn S s 5 (fTn S s 4 (fTn S s 3 (fTn S s 2 (fTn S s 1 (fTn S s 0 0)))))
    unfold fTn
    omega
  refine ⟨e, ⟨m0, m1⟩, fun z => ?_, fun z => ?_⟩
  · rw [← e, z]; decide
  · rw [← e] at z
    have := bcS_0 (gI σ 44 s).toNat (by omega) (by rw [show (((gI σ 44 s).toNat : Nat) : Int) = gI σ 44 s by omega]; exact z)
    omega
theorem zTkn_r (S : RS) (s : Int) : 0 ≤ zTkn S s ∧ zTkn S s ≤ 12 := by
  have h := gfold_P (fTn S s) 0 (fun j x => 0 ≤ x ∧ x ≤ 2 * j) (by omega) 6 (by omega) (fun j x j0 j1 hp => by
    unfold fTn
    split <;> split <;> omega)
  have h' : 0 ≤ zTkn S s ∧ zTkn S s ≤ 2 * 6 := h
  omega
def fId (S : RS) (j x : Int) : Int := if zTkn S j = 0 then x + 1 else x
def zIdle (S : RS) : Int := gfold (fId S) 0 (S 88 24).toNat
def fBe (S : RS) (j b : Int) : Int := if b = -1 then j else if zTkn S b < zTkn S j then j else b
def zBest (S : RS) : Int := gfold (fBe S) (-1) (S 88 24).toNat
def fTu (S : RS) (o j : Int) (x : Int × Int) : Int × Int := if S 109 (6 * j + o) = -1 then x else (if x.2 = -1 then x.1 else if x.2 = S 109 (6 * j + o) then x.1 else x.1 + 1, S 109 (6 * j + o))
def zTurns (S : RS) (o : Int) : Int := (gfold (fTu S o) (0, -1) (S 88 24).toNat).1
section RX
variable {l : Launch} {G : gG}
theorem c_takenIn (s : Int) (σ : gS) (hM : OKM (pS σ)) (hs : 0 ≤ s ∧ s < pS σ 88 24) (Q : Int → gS → Prop) (h : Q (zTkn (pS σ) s) σ) : eX12_takenIn l G s σ Q := by
  have h24 := hM.2.2
  have rs : gR s := ⟨by omega, by omega⟩
  refine vX12_takenIn s rs σ Q ?_
  refine gloopF (fTn (pS σ) s) 0 6 (by omega) (fun j x => 0 ≤ x ∧ x ≤ 2 * j) (fun j w => kX12_takenIn_4 l G s w j σ Q) (by omega) ?_ ?_
  · intro j w j0 j1 hp
    refine ⟨?_, fun ih => ?_⟩
    · unfold fTn
      split <;> split <;> omega
    have ih : kX12_takenIn_4 l G s (fTn (pS σ) s j w) (j + 1) σ Q := ih
    unfold fTn at ih
    refine vX12_takenIn_4 s w j rs ⟨by omega, by omega⟩ ⟨by omega, by omega⟩ σ Q ?_
    rw [pS_at (c := 109) (by unfold okC; omega), pS_at (c := 110) (by unfold okC; omega)]
    refine ⟨fun e => by omega, fun _ => ⟨by omega, fun v ev u eu => ?_⟩⟩
    rw [ev, eu]; exact ih
  · intro hp
    exact vX12_takenIn_4 s _ 6 rs ⟨by omega, by omega⟩ (by decide) σ Q ⟨fun _ => h, fun e => by omega⟩
theorem fId_r (S : RS) (j x : Int) (h : 0 ≤ x ∧ x ≤ j) : 0 ≤ fId S j x ∧ fId S j x ≤ j + 1 := by
  unfold fId
  split <;> omega
theorem c_idle (σ : gS) (S : RS) (hC : CR σ S) (hM : OKM S) (Q : Int → gS → Prop) (h : Q (zIdle S) σ) : eX5_idleSlots l G σ Q := by
  have h0 := hM.1.1.2.1
  have e41 := hC.2.1.1
  have h24 := hM.2.2
  refine vX5_idleSlots σ Q ?_
  refine gloopF (fId S) 0 (S 88 24) (by omega) (fun j x => 0 ≤ x ∧ x ≤ j) (fun j w => kX5_idleSlots_4 l G w j σ Q) (by omega) ?_ ?_
  · intro j w j0 j1 hp
    refine ⟨fId_r S j w hp, fun ih => ?_⟩
    have ih : kX5_idleSlots_4 l G (fId S j w) (j + 1) σ Q := ih
    unfold fId at ih
    have t := (zTkn_bc hC hM ⟨j0, j1⟩).2.2
    refine vX5_idleSlots_4 w j ⟨by omega, by omega⟩ ⟨by omega, by omega⟩ σ Q ?_
    rw [e41]
    refine ⟨fun e => by omega, fun _ => ⟨by omega, fun e => ?_, fun e => ?_⟩⟩
    · rw [if_neg (fun z => e (t.mpr z))] at ih; exact ih
    · rw [if_pos (t.mp e)] at ih; exact ih
  · intro hp
    refine vX5_idleSlots_4 _ _ ⟨by omega, by omega⟩ ⟨by omega, by omega⟩ σ Q ?_
    rw [e41]
    exact ⟨fun _ => h, fun e => by omega⟩
theorem c_idleOf (σ : gS) (hM : OKM (pS σ)) (Q : Int → gS → Prop) (h : Q (zIdle (pS σ)) σ) : eX12_idleOf l G σ Q := by
  have h0 := hM.1.1.2.1
  have e41 : gI σ 88 24 = pS σ 88 24 := pS_at (by unfold okC; omega)
  have h24 := hM.2.2
  refine vX12_idleOf σ Q ?_
  refine gloopF (fId (pS σ)) 0 (pS σ 88 24) (by omega) (fun j x => 0 ≤ x ∧ x ≤ j) (fun j w => kX12_idleOf_4 l G w j σ Q) (by omega) ?_ ?_
  · intro j w j0 j1 hp
    refine ⟨fId_r (pS σ) j w hp, fun ih => ?_⟩
    have ih : kX12_idleOf_4 l G (fId (pS σ) j w) (j + 1) σ Q := ih
    unfold fId at ih
    refine vX12_idleOf_4 w j ⟨by omega, by omega⟩ ⟨by omega, by omega⟩ σ Q ?_
    rw [e41]
    refine ⟨fun e => by omega, fun _ => c_takenIn j σ hM ⟨j0, j1⟩ _ (fun _ v ev => ?_)⟩
    rw [ev]
    by_cases e : zTkn (pS σ) j = 0
    · rw [if_pos e] at ih ⊢; exact ih
    · rw [if_neg e] at ih ⊢; rw [Int.add_zero]; exact ih
  · intro hp
    refine vX12_idleOf_4 _ _ ⟨by omega, by omega⟩ ⟨by omega, by omega⟩ σ Q ?_
    rw [e41]
    exact ⟨fun _ => h, fun e => by omega⟩
theorem fBe_r (S : RS) (j w : Int) (j0 : 0 ≤ j) (h : w = -1 ∨ (0 ≤ w ∧ w < j)) : fBe S j w = -1 ∨ (0 ≤ fBe S j w ∧ fBe S j w < j + 1) := by
  unfold fBe
  split
  · omega
  · split <;> omega
theorem c_bestSlot (σ : gS) (S : RS) (hC : CR σ S) (hM : OKM S) (Q : Int → gS → Prop) (h : Q (zBest S) σ) : eX5_bestSlot l G σ Q := by
  have h0 := hM.1.1.2.1
  have e41 := hC.2.1.1
  have h24 := hM.2.2
  refine vX5_bestSlot σ Q ?_
  refine gloopF (fBe S) (-1) (S 88 24) (by omega) (fun j w => w = -1 ∨ (0 ≤ w ∧ w < j)) (fun j w => kX5_bestSlot_6 l G w (if w = -1 then -1 else zTkn S w) j σ Q) (Or.inl rfl) ?_ ?_
  · intro j w j0 j1 hp
    refine ⟨fBe_r S j w j0 hp, fun ih => ?_⟩
    have ih : kX5_bestSlot_6 l G (fBe S j w) (if fBe S j w = -1 then -1 else zTkn S (fBe S j w)) (j + 1) σ Q := ih
    obtain ⟨t1, t2, t3⟩ := zTkn_bc hC hM ⟨j0, j1⟩
    have rj := zTkn_r S j
    have rw9 := zTkn_r S w
    refine vX5_bestSlot_6 w _ j ⟨by omega, by omega⟩ ?_ ⟨by omega, by omega⟩ σ Q ?_
    · split
      · decide
      · exact ⟨by omega, by omega⟩
    rw [e41]
    refine ⟨fun e => by omega, fun _ => ⟨by omega, c_bitCount _ t2 σ _ (fun _ => ?_)⟩⟩
    rw [t1]
    by_cases e : w = -1
    · have f : fBe S j w = j := by unfold fBe; rw [if_pos e]
      rw [f, if_neg (by omega)] at ih
      rw [if_pos e]
      exact ⟨fun z => by omega, fun _ => ih⟩
    · rw [if_neg e]
      by_cases e2 : zTkn S w < zTkn S j
      · have f : fBe S j w = j := by unfold fBe; rw [if_neg e, if_pos e2]
        rw [f, if_neg (by omega)] at ih
        exact ⟨fun z => by omega, fun _ => ih⟩
      · have f : fBe S j w = w := by unfold fBe; rw [if_neg e, if_neg e2]
        rw [f, if_neg e] at ih
        exact ⟨fun _ => ih, fun z => by omega⟩
  · intro hp
    have rw9 := zTkn_r S (gfold (fBe S) (-1) (S 88 24).toNat)
    refine vX5_bestSlot_6 _ _ _ ⟨by omega, by omega⟩ ?_ ⟨by omega, by omega⟩ σ Q ?_
    · split
      · decide
      · exact ⟨by omega, by omega⟩
    rw [e41]
    exact ⟨fun _ => h, fun e => by omega⟩
theorem c_bestOf (σ : gS) (hM : OKM (pS σ)) (Q : Int → gS → Prop) (h : Q (zBest (pS σ)) σ) : eX12_bestOf l G σ Q := by
  have h0 := hM.1.1.2.1
  have e41 : gI σ 88 24 = pS σ 88 24 := pS_at (by unfold okC; omega)
  have h24 := hM.2.2
  refine vX12_bestOf σ Q ?_
  refine gloopF (fBe (pS σ)) (-1) (pS σ 88 24) (by omega) (fun j w => w = -1 ∨ (0 ≤ w ∧ w < j)) (fun j w => kX12_bestOf_4 l G w j σ Q) (Or.inl rfl) ?_ ?_
  · intro j w j0 j1 hp
    refine ⟨fBe_r (pS σ) j w j0 hp, fun ih => ?_⟩
    have ih : kX12_bestOf_4 l G (fBe (pS σ) j w) (j + 1) σ Q := ih
    unfold fBe at ih
    refine vX12_bestOf_4 w j ⟨by omega, by omega⟩ ⟨by omega, by omega⟩ σ Q ?_
    rw [e41]
    refine ⟨fun e => by omega, fun _ => ⟨fun e => ?_, fun e => ?_⟩⟩
    · rw [if_pos e] at ih; exact ih
    · rw [if_neg e] at ih
      refine c_takenIn j σ hM ⟨j0, j1⟩ _ (fun _ => c_takenIn w σ hM (by omega) _ (fun _ => ⟨fun e2 => ?_, fun e2 => ?_⟩))
      · rw [if_neg (by omega)] at ih; exact ih
      · rw [if_pos e2] at ih; exact ih
  · intro hp
    refine vX12_bestOf_4 _ _ ⟨by omega, by omega⟩ ⟨by omega, by omega⟩ σ Q ?_
    rw [e41]
    exact ⟨fun _ => h, fun e => by omega⟩
/-- whom an output was matched with, of a row -/
theorem c_inputOf (row o v : Int) (hr : 0 ≤ row ∧ row < 262144) (ho : 0 ≤ o ∧ o < 6) (hv : row / 8 ^ o.toNat % 8 = v + 1) (σ : gS) (Q : Int → gS → Prop) (h : Q v σ) : eX6_inputOf l G row o σ Q := by
  refine vX6_inputOf row o ⟨by omega, by omega⟩ ⟨by omega, by omega⟩ σ Q ?_
  have e : gand (gshr row (3 * o)) 7 - 1 = v := by
    rw [gshr_eq row (3 * o) ⟨by omega, by omega⟩ (by omega), gand_7]
    have e2 : (2 : Int) ^ (3 * o).toNat = 8 ^ o.toNat := by
      rw [show (3 * o).toNat = 3 * o.toNat by omega, Int.pow_mul]; rfl
    rw [e2, hv]; omega
  rw [e]
  refine ⟨?_, h⟩
  have := Int.emod_nonneg (row / 8 ^ o.toNat) (show (8 : Int) ≠ 0 by decide)
  have := Int.emod_lt_of_pos (row / 8 ^ o.toNat) (show (0 : Int) < 8 by decide)
  exact ⟨by omega, by omega⟩
theorem c_turns (o : Int) (σ : gS) (S : RS) (hC : CR σ S) (hM : OKM S) (ho : 0 ≤ o ∧ o < 6) (Q : Int → gS → Prop) (h : Q (zTurns S o) σ) : eX5_turns l G o σ Q := by
  have h0 := hM.1.1.2.1
  have hP := hM.1.1.1
  have e41 := hC.2.1.1
  have h24 := hM.2.2
  have ro : gR o := ⟨by omega, by omega⟩
  refine vX5_turns o ro σ Q ?_
  refine gloopF (fTu S o) (0, -1) (S 88 24) (by omega) (fun j x => 0 ≤ x.1 ∧ x.1 ≤ j ∧ -1 ≤ x.2 ∧ x.2 < 10) (fun j x => kX5_turns_7 l G o x.1 x.2 j σ Q) (by simp) ?_ ?_
  · intro j x j0 j1 hp
    have hH := (hM.1.2.2.1 j j0 j1 o ho.1 ho.2).1
    refine ⟨?_, fun ih => ?_⟩
    · unfold fTu
      split
      · exact ⟨hp.1, by omega, hp.2.2⟩
      · split
        · exact ⟨hp.1, by show x.1 ≤ j + 1; omega, by show -1 ≤ S 109 (6 * j + o); omega, by show S 109 (6 * j + o) < 10; omega⟩
        · split
          · exact ⟨hp.1, by show x.1 ≤ j + 1; omega, by show -1 ≤ S 109 (6 * j + o); omega, by show S 109 (6 * j + o) < 10; omega⟩
          · exact ⟨by show 0 ≤ x.1 + 1; omega, by show x.1 + 1 ≤ j + 1; omega, by show -1 ≤ S 109 (6 * j + o); omega, by show S 109 (6 * j + o) < 10; omega⟩
    have ih : kX5_turns_7 l G o (fTu S o j x).1 (fTu S o j x).2 (j + 1) σ Q := ih
    unfold fTu at ih
    have hh := hC.2.2.2.2.2.2.2.1 j j0 j1
    refine vX5_turns_7 o x.1 x.2 j ro ⟨by omega, by omega⟩ ⟨by omega, by omega⟩ ⟨by omega, by omega⟩ σ Q ?_
    rw [e41]
    refine ⟨fun e => by omega, fun _ => ⟨by omega, c_inputOf _ o (S 109 (6 * j + o)) hh.1 ho (hh.2.1 o ho.1 ho.2) σ _ (fun _ => ⟨fun e => ?_, fun e => ⟨fun e2 => ?_, fun e2 => ⟨fun e3 => ?_, fun e3 => ?_⟩⟩⟩)⟩⟩
    · rw [if_pos e] at ih; exact ih
    · rw [if_neg e, if_pos e2] at ih; exact ih
    · rw [if_neg e, if_neg e2, if_pos e3] at ih; exact ih
    · rw [if_neg e, if_neg e2, if_neg e3] at ih; exact ih
  · intro hp
    refine vX5_turns_7 o _ _ _ ro ⟨by omega, by omega⟩ ⟨by omega, by omega⟩ ⟨by omega, by omega⟩ σ Q ?_
    rw [e41]
    exact ⟨fun _ => h, fun e => by omega⟩
theorem c_turnsOf (o : Int) (σ : gS) (hM : OKM (pS σ)) (ho : 0 ≤ o ∧ o < 6) (Q : Int → gS → Prop) (h : Q (zTurns (pS σ) o) σ) : eX12_turnsOf l G o σ Q := by
  have h0 := hM.1.1.2.1
  have hP := hM.1.1.1
  have e41 : gI σ 88 24 = pS σ 88 24 := pS_at (by unfold okC; omega)
  have h24 := hM.2.2
  have ro : gR o := ⟨by omega, by omega⟩
  refine vX12_turnsOf o ro σ Q ?_
  refine gloopF (fTu (pS σ) o) (0, -1) (pS σ 88 24) (by omega) (fun j x => 0 ≤ x.1 ∧ x.1 ≤ j ∧ -1 ≤ x.2 ∧ x.2 < 10) (fun j x => kX12_turnsOf_7 l G o x.1 x.2 j σ Q) (by simp) ?_ ?_
  · intro j x j0 j1 hp
    have hH := (hM.1.2.2.1 j j0 j1 o ho.1 ho.2).1
    refine ⟨?_, fun ih => ?_⟩
    · unfold fTu
      split
      · exact ⟨hp.1, by omega, hp.2.2⟩
      · split
        · exact ⟨hp.1, by show x.1 ≤ j + 1; omega, by show -1 ≤ pS σ 109 (6 * j + o); omega, by show pS σ 109 (6 * j + o) < 10; omega⟩
        · split
          · exact ⟨hp.1, by show x.1 ≤ j + 1; omega, by show -1 ≤ pS σ 109 (6 * j + o); omega, by show pS σ 109 (6 * j + o) < 10; omega⟩
          · exact ⟨by show 0 ≤ x.1 + 1; omega, by show x.1 + 1 ≤ j + 1; omega, by show -1 ≤ pS σ 109 (6 * j + o); omega, by show pS σ 109 (6 * j + o) < 10; omega⟩
    have ih : kX12_turnsOf_7 l G o (fTu (pS σ) o j x).1 (fTu (pS σ) o j x).2 (j + 1) σ Q := ih
    unfold fTu at ih
    refine vX12_turnsOf_7 o x.1 x.2 j ro ⟨by omega, by omega⟩ ⟨by omega, by omega⟩ ⟨by omega, by omega⟩ σ Q ?_
    rw [e41, pS_at (c := 109) (by unfold okC; omega)]
    refine ⟨fun e => by omega, fun _ => ⟨by omega, fun e v ev => ?_, fun e => ?_⟩⟩
    · rw [if_neg e] at ih
      rw [ev]
      by_cases e2 : x.2 = -1
      · rw [if_pos e2] at ih ⊢; rw [Int.add_zero]; exact ih
      · rw [if_neg e2] at ih ⊢
        by_cases e3 : x.2 = pS σ 109 (6 * j + o)
        · rw [if_pos e3] at ih ⊢; rw [Int.add_zero]; exact ih
        · rw [if_neg e3] at ih ⊢; exact ih
    · rw [if_pos e] at ih; exact ih
  · intro hp
    refine vX12_turnsOf_7 o _ _ _ ro ⟨by omega, by omega⟩ ⟨by omega, by omega⟩ ⟨by omega, by omega⟩ σ Q ?_
    rw [e41]
    exact ⟨fun _ => h, fun e => by omega⟩
end RX
