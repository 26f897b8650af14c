/-- cells of the reference, of the class -/
def prS (σ : gS) : Nat → Int → Int := fun c i => if 88 ≤ c then σ.1 c i else 0
def clS (σ : gS) : Nat → Int → Int := fun c i => if c < 88 then σ.1 c i else 0
theorem sI_at (σ : gS) (c : Nat) (i v : Int) (c' : Nat) (i' : Int) : gI (sI σ c i v) c' i' = if c' = c ∧ i' = i then v else gI σ c' i' := rfl
theorem sI_ne {σ : gS} {c : Nat} {i v : Int} {c' : Nat} {i' : Int} (h : c' ≠ c) : gI (sI σ c i v) c' i' = gI σ c' i' := by rw [sI_at, if_neg (fun q => h q.1)]
theorem sI_nei {σ : gS} {c : Nat} {i v : Int} {c' : Nat} {i' : Int} (h : i' ≠ i) : gI (sI σ c i v) c' i' = gI σ c' i' := by rw [sI_at, if_neg (fun q => h q.2)]
theorem sI_eq {σ : gS} {c : Nat} {i v : Int} : gI (sI σ c i v) c i = v := by rw [sI_at, if_pos ⟨rfl, rfl⟩]
/-- what is told: the class' object at cell a, the reference's row from B on -/
def tDeed (S : Int → Int) (p : Int) : Prop :=
  (S p = 0 ∧ S (p + 1) = -1 ∧ S (p + 2) = -1) ∨ (S p = 1 ∧ 1 ≤ S (p + 1) ∧ S (p + 1) ≤ 9 ∧ S (p + 2) = -1) ∨
  (S p = 2 ∧ 0 ≤ S (p + 1) ∧ S (p + 1) ≤ 5 ∧ 0 ≤ S (p + 2) ∧ S (p + 2) ≤ 5) ∨
  ((S p = 3 ∨ S p = 4) ∧ 0 ≤ S (p + 1) ∧ S (p + 1) ≤ 5 ∧ 1 ≤ S (p + 2) ∧ S (p + 2) ≤ 63)
def tFact (S : Int → Int) (p : Int) : Prop :=
  (S p = 0 ∨ S p = 1) ∧ 0 ≤ S (p + 1) ∧ S (p + 1) ≤ 60 ∧ 0 ≤ S (p + 2) ∧ S (p + 2) ≤ 5 ∧ 0 ≤ S (p + 3) ∧ S (p + 3) ≤ 5
def tBar (S : Int → Int) (p : Int) : Prop :=
  1 ≤ S p ∧ S p ≤ 6 ∧ 1 ≤ S (p + 1) ∧ S (p + 1) ≤ 4 ∧ 1 ≤ S (p + 2) ∧ S (p + 2) ≤ 9 ∧ 0 ≤ S (p + 3) ∧ S (p + 3) ≤ 5
/-- the texts: the class' object at cell a, the reference's row from B on -/
def tTx (σ : gS) (a : Nat) (B : Int) : Prop :=
  (∀ s, 0 ≤ s → s < 3 → gI σ (a + 2) s = gI σ 89 (B + s) ∧ 0 ≤ gI σ 89 (B + s) ∧ gI σ 89 (B + s) ≤ 2) ∧
  (∀ c, 0 ≤ c → c < gI σ 89 (B + 0) → (∀ w, 0 ≤ w → w < 4 → gI σ (a + 3) (c * 4 + w) = gI σ 89 (B + 610 + 4 * c + w)) ∧ tBar (gI σ 89) (B + 610 + 4 * c)) ∧
  (∀ t, 0 ≤ t → t < gI σ 89 (B + 1) → gI σ (a + 5) t = gI σ 89 (B + 618 + 121 * t) ∧ 0 ≤ gI σ 89 (B + 618 + 121 * t) ∧ gI σ 89 (B + 618 + 121 * t) ≤ 40 ∧
    ∀ k, 0 ≤ k → k < gI σ 89 (B + 618 + 121 * t) → (∀ w, 0 ≤ w → w < 3 → gI σ (a + 4) ((t * 40 + k) * 4 + w) = gI σ 89 (B + 618 + 121 * t + 1 + 3 * k + w)) ∧ tDeed (gI σ 89) (B + 618 + 121 * t + 1 + 3 * k)) ∧
  (∀ t, 0 ≤ t → t < gI σ 89 (B + 2) → gI σ (a + 5) (2 + t) = gI σ 89 (B + 860 + 33 * t) ∧ 0 ≤ gI σ 89 (B + 860 + 33 * t) ∧ gI σ 89 (B + 860 + 33 * t) ≤ 8 ∧
    ∀ k, 0 ≤ k → k < gI σ 89 (B + 860 + 33 * t) → (∀ w, 0 ≤ w → w < 4 → gI σ (a + 4) (((2 + t) * 40 + k) * 4 + w) = gI σ 89 (B + 860 + 33 * t + 1 + 4 * k + w)) ∧ tFact (gI σ 89) (B + 860 + 33 * t + 1 + 4 * k))
/-- the tape, the fault -/
def tTp (σ : gS) (a : Nat) (B : Int) : Prop :=
  (gI σ a 1 = gI σ 89 (B + 4) ∧ 0 ≤ gI σ 89 (B + 4) ∧ gI σ 89 (B + 4) ≤ 600) ∧
  (gI σ a 2 = gI σ 89 (B + 5) ∧ gI σ a 3 = gI σ 89 (B + 6)) ∧
  (∀ i, 0 ≤ i → i < 600 → -128 ≤ gI σ (a + 1) i ∧ gI σ (a + 1) i < 128 ∧ gI σ 89 (B + 10 + i) = gI σ (a + 1) i % 256)
def tRel (σ : gS) (a : Nat) (B : Int) : Prop := tTx σ a B ∧ tTp σ a B
def tInv (σ : gS) : Prop := tRel σ 1 0 ∧ ∀ k : Nat, k < 3 → gI σ 26 k = gI σ 90 k ∧ (gI σ 90 k = 0 ∨ gI σ 90 k = 1) ∧ (gI σ 90 k = 1 → tRel σ (8 + 6 * k) (926 * (k + 1)))
/-- stores that have the same told cells -/
def tSame (σ τ : gS) : Prop := (∀ c, c < 27 → ∀ i, gI τ c i = gI σ c i) ∧ (∀ i, gI τ 89 i = gI σ 89 i) ∧ ∀ i, gI τ 90 i = gI σ 90 i
theorem tSame.rfl' {σ : gS} : tSame σ σ := ⟨fun _ _ _ => rfl, fun _ => rfl, fun _ => rfl⟩
theorem tSame.trans {σ τ υ : gS} (h : tSame σ τ) (k : tSame τ υ) : tSame σ υ := ⟨fun c hc i => (k.1 c hc i).trans (h.1 c hc i), fun i => (k.2.1 i).trans (h.2.1 i), fun i => (k.2.2 i).trans (h.2.2 i)⟩
theorem tSame.set {σ : gS} {c : Nat} {i v : Int} (h : 27 ≤ c) (h1 : c ≠ 89) (h2 : c ≠ 90) : tSame σ (sI σ c i v) :=
  ⟨fun c' hc' _ => sI_ne (by omega), fun _ => sI_ne (fun e => h1 e.symm), fun _ => sI_ne (fun e => h2 e.symm)⟩
theorem tTx.keep {σ τ : gS} {a : Nat} {B : Int} (h : ∀ c, a + 2 ≤ c → c ≤ a + 5 → ∀ i, gI τ c i = gI σ c i) (h1 : ∀ i, B ≤ i → i < B + 3 → gI τ 89 i = gI σ 89 i) (h2 : ∀ i, B + 610 ≤ i → i < B + 926 → gI τ 89 i = gI σ 89 i) (k : tTx σ a B) : tTx τ a B := by
  obtain ⟨k1, k5, k6, k7⟩ := k
  have b0 := (k1 0 (by omega) (by omega)).2
  have b1 := (k1 1 (by omega) (by omega)).2
  have b2 := (k1 2 (by omega) (by omega)).2
  refine ⟨fun s h0 h3 => ?_, fun c h0 h3 => ?_, fun t h0 h3 => ?_, fun t h0 h3 => ?_⟩
  · rw [h (a + 2) (by omega) (by omega), h1 (B + s) (by omega) (by omega)]; exact k1 s h0 h3
  · rw [h1 (B + 0) (by omega) (by omega)] at h3
    obtain ⟨q1, q2⟩ := k5 c h0 h3
    refine ⟨fun w w0 w1 => ?_, ?_⟩
    · rw [h (a + 3) (by omega) (by omega), h2 _ (by omega) (by omega)]; exact q1 w w0 w1
    · unfold tBar at *
      rw [h2 _ (by omega) (by omega), h2 _ (by omega) (by omega), h2 _ (by omega) (by omega), h2 _ (by omega) (by omega)]; exact q2
  · rw [h1 (B + 1) (by omega) (by omega)] at h3
    obtain ⟨q1, q2, q3, q4⟩ := k6 t h0 h3
    rw [h (a + 5) (by omega) (by omega), h2 (B + 618 + 121 * t) (by omega) (by omega)]
    refine ⟨q1, q2, q3, fun k w0 w1 => ?_⟩
    obtain ⟨q5, q6⟩ := q4 k w0 w1
    refine ⟨fun w z0 z1 => ?_, ?_⟩
    · rw [h (a + 4) (by omega) (by omega), h2 _ (by omega) (by omega)]; exact q5 w z0 z1
    · unfold tDeed at *
      rw [h2 _ (by omega) (by omega), h2 _ (by omega) (by omega), h2 _ (by omega) (by omega)]; exact q6
  · rw [h1 (B + 2) (by omega) (by omega)] at h3
    obtain ⟨q1, q2, q3, q4⟩ := k7 t h0 h3
    rw [h (a + 5) (by omega) (by omega), h2 (B + 860 + 33 * t) (by omega) (by omega)]
    refine ⟨q1, q2, q3, fun k w0 w1 => ?_⟩
    obtain ⟨q5, q6⟩ := q4 k w0 w1
    refine ⟨fun w z0 z1 => ?_, ?_⟩
    · rw [h (a + 4) (by omega) (by omega), h2 _ (by omega) (by omega)]; exact q5 w z0 z1
    · unfold tFact at *
      rw [h2 _ (by omega) (by omega), h2 _ (by omega) (by omega), h2 _ (by omega) (by omega), h2 _ (by omega) (by omega)]; exact q6
theorem tTp.keep {σ τ : gS} {a : Nat} {B : Int} (h : ∀ c, a ≤ c → c ≤ a + 1 → ∀ i, gI τ c i = gI σ c i) (h2 : ∀ i, B + 4 ≤ i → i < B + 610 → gI τ 89 i = gI σ 89 i) (k : tTp σ a B) : tTp τ a B := by
  obtain ⟨k2, k3, k4⟩ := k
  refine ⟨?_, ?_, fun i h0 h1 => ?_⟩
  · rw [h a (by omega) (by omega), h2 (B + 4) (by omega) (by omega)]; exact k2
  · rw [h a (by omega) (by omega), h a (by omega) (by omega), h2 (B + 5) (by omega) (by omega), h2 (B + 6) (by omega) (by omega)]; exact k3
  · rw [h (a + 1) (by omega) (by omega), h2 (B + 10 + i) (by omega) (by omega)]; exact k4 i h0 h1
theorem tRel.keep {σ τ : gS} {a : Nat} {B : Int} (h : ∀ c, a ≤ c → c ≤ a + 5 → ∀ i, gI τ c i = gI σ c i) (h2 : ∀ i, B ≤ i → i < B + 926 → gI τ 89 i = gI σ 89 i) (k : tRel σ a B) : tRel τ a B :=
  ⟨tTx.keep (fun c _ _ => h c (by omega) (by omega)) (fun i _ _ => h2 i (by omega) (by omega)) (fun i _ _ => h2 i (by omega) (by omega)) k.1, tTp.keep (fun c _ _ => h c (by omega) (by omega)) (fun i _ _ => h2 i (by omega) (by omega)) k.2⟩
/-- told anew: cells 1 to 6, the first 926 of the reference; images stay -/
theorem tInv.told {σ τ : gS} (hI : tInv σ) (h : ∀ c, 8 ≤ c → c ≤ 26 → ∀ i, gI τ c i = gI σ c i) (h2 : ∀ i, 926 ≤ i → gI τ 89 i = gI σ 89 i) (h3 : ∀ i, gI τ 90 i = gI σ 90 i) (k : tRel τ 1 0) : tInv τ := by
  refine ⟨k, fun j hj => ?_⟩
  obtain ⟨k1, k2, k3⟩ := hI.2 j hj
  rw [h 26 (by omega) (by omega), h3]
  exact ⟨k1, k2, fun e => tRel.keep (fun c c1 c2 => h c (by omega) (by omega)) (fun i i1 i2 => h2 i (by omega)) (k3 e)⟩
theorem tInv.same {σ τ : gS} (h : tSame σ τ) (k : tInv σ) : tInv τ :=
  tInv.told k (fun c _ _ => h.1 c (by omega)) (fun i _ => h.2.1 i) h.2.2 (tRel.keep (fun c _ _ => h.1 c (by omega)) (fun i _ _ => h.2.1 i) k.1)
/-- the told cells, written out -/
theorem tTx0 {σ : gS} (hI : tInv σ) :
  (∀ s, 0 ≤ s → s < 3 → gI σ 3 s = gI σ 89 (s) ∧ 0 ≤ gI σ 89 (s) ∧ gI σ 89 (s) ≤ 2) ∧
  (∀ c, 0 ≤ c → c < gI σ 89 (0) → (∀ w, 0 ≤ w → w < 4 → gI σ 4 (c * 4 + w) = gI σ 89 (610 + 4 * c + w)) ∧ tBar (gI σ 89) (610 + 4 * c)) ∧
  (∀ t, 0 ≤ t → t < gI σ 89 (1) → gI σ 6 t = gI σ 89 (618 + 121 * t) ∧ 0 ≤ gI σ 89 (618 + 121 * t) ∧ gI σ 89 (618 + 121 * t) ≤ 40 ∧
    ∀ k, 0 ≤ k → k < gI σ 89 (618 + 121 * t) → (∀ w, 0 ≤ w → w < 3 → gI σ 5 ((t * 40 + k) * 4 + w) = gI σ 89 (618 + 121 * t + 1 + 3 * k + w)) ∧ tDeed (gI σ 89) (618 + 121 * t + 1 + 3 * k)) ∧
  (∀ t, 0 ≤ t → t < gI σ 89 (2) → gI σ 6 (2 + t) = gI σ 89 (860 + 33 * t) ∧ 0 ≤ gI σ 89 (860 + 33 * t) ∧ gI σ 89 (860 + 33 * t) ≤ 8 ∧
    ∀ k, 0 ≤ k → k < gI σ 89 (860 + 33 * t) → (∀ w, 0 ≤ w → w < 4 → gI σ 5 (((2 + t) * 40 + k) * 4 + w) = gI σ 89 (860 + 33 * t + 1 + 4 * k + w)) ∧ tFact (gI σ 89) (860 + 33 * t + 1 + 4 * k)) := by
  have h := hI.1.1
  simp only [tTx, Int.zero_add, Nat.reduceAdd] at h
  exact h
theorem tTp0 {σ : gS} (hI : tInv σ) :
  (gI σ 1 1 = gI σ 89 (4) ∧ 0 ≤ gI σ 89 (4) ∧ gI σ 89 (4) ≤ 600) ∧
  (gI σ 1 2 = gI σ 89 (5) ∧ gI σ 1 3 = gI σ 89 (6)) ∧
  (∀ i, 0 ≤ i → i < 600 → -128 ≤ gI σ 2 i ∧ gI σ 2 i < 128 ∧ gI σ 89 (10 + i) = gI σ 2 i % 256) := by
  have h := hI.1.2
  simp only [tTp, Int.zero_add, Nat.reduceAdd] at h
  exact h
theorem tTx0.mk {σ : gS} (h : (∀ s, 0 ≤ s → s < 3 → gI σ 3 s = gI σ 89 (s) ∧ 0 ≤ gI σ 89 (s) ∧ gI σ 89 (s) ≤ 2) ∧
  (∀ c, 0 ≤ c → c < gI σ 89 (0) → (∀ w, 0 ≤ w → w < 4 → gI σ 4 (c * 4 + w) = gI σ 89 (610 + 4 * c + w)) ∧ tBar (gI σ 89) (610 + 4 * c)) ∧
  (∀ t, 0 ≤ t → t < gI σ 89 (1) → gI σ 6 t = gI σ 89 (618 + 121 * t) ∧ 0 ≤ gI σ 89 (618 + 121 * t) ∧ gI σ 89 (618 + 121 * t) ≤ 40 ∧
    ∀ k, 0 ≤ k → k < gI σ 89 (618 + 121 * t) → (∀ w, 0 ≤ w → w < 3 → gI σ 5 ((t * 40 + k) * 4 + w) = gI σ 89 (618 + 121 * t + 1 + 3 * k + w)) ∧ tDeed (gI σ 89) (618 + 121 * t + 1 + 3 * k)) ∧
  (∀ t, 0 ≤ t → t < gI σ 89 (2) → gI σ 6 (2 + t) = gI σ 89 (860 + 33 * t) ∧ 0 ≤ gI σ 89 (860 + 33 * t) ∧ gI σ 89 (860 + 33 * t) ≤ 8 ∧
    ∀ k, 0 ≤ k → k < gI σ 89 (860 + 33 * t) → (∀ w, 0 ≤ w → w < 4 → gI σ 5 (((2 + t) * 40 + k) * 4 + w) = gI σ 89 (860 + 33 * t + 1 + 4 * k + w)) ∧ tFact (gI σ 89) (860 + 33 * t + 1 + 4 * k))) : tTx σ 1 0 := by
  simp only [tTx, Int.zero_add, Nat.reduceAdd]
  exact h
theorem tTp0.mk {σ : gS} (h : (gI σ 1 1 = gI σ 89 (4) ∧ 0 ≤ gI σ 89 (4) ∧ gI σ 89 (4) ≤ 600) ∧
  (gI σ 1 2 = gI σ 89 (5) ∧ gI σ 1 3 = gI σ 89 (6)) ∧
  (∀ i, 0 ≤ i → i < 600 → -128 ≤ gI σ 2 i ∧ gI σ 2 i < 128 ∧ gI σ 89 (10 + i) = gI σ 2 i % 256)) : tTp σ 1 0 := by
  simp only [tTp, Int.zero_add, Nat.reduceAdd]
  exact h
section MB
variable {l : Launch} {G : gG}
theorem c_isIn (x0 x1 x2 : Int) (r0 : gR x0) (r1 : gR x1) (r2 : gR x2) (σ : gS) (Q : Int → gS → Prop) (h : ∀ r, (r = 1 ∧ x1 ≤ x0 ∧ x0 ≤ x2) ∨ (r = 0 ∧ ¬ (x1 ≤ x0 ∧ x0 ≤ x2)) → Q r σ) : eX12_isIn l G x0 x1 x2 σ Q := by
  refine vX12_isIn x0 x1 x2 r0 r1 r2 σ Q ?_
  intro v hv
  refine h v ?_
  rw [hv]
  split
  · omega
  · split <;> omega
theorem c_isOf (x1 x2 : Int) (r1 : gR x1) (r2 : gR x2) (σ : gS) (h1 : 0 ≤ x1 ∧ x1 < 3704) (h2 : 0 ≤ gI σ 89 x1 ∧ gI σ 89 x1 ≤ 2) (Q : Int → gS → Prop) (h : ∀ r, (r = 1 ∧ 0 ≤ x2 ∧ x2 < gI σ 89 x1) ∨ (r = 0 ∧ ¬ (0 ≤ x2 ∧ x2 < gI σ 89 x1)) → Q r σ) : eX12_isOf l G x1 x2 σ Q := by
  refine vX12_isOf x1 x2 r1 r2 σ Q ⟨h1, ?_⟩
  refine c_isIn _ _ _ r2 (by decide) ⟨by omega, by omega⟩ σ _ (fun r hr _ => h r (by omega))
theorem c_has (x1 x2 : Int) (r1 : gR x1) (r2 : gR x2) (σ : gS) (Q : Int → gS → Prop) (h : ∀ r, (r = 1 ∧ 0 ≤ x1 ∧ x1 < 3 ∧ 0 ≤ x2 ∧ x2 < gI σ 3 x1) ∨ (r = 0 ∧ ¬ (0 ≤ x1 ∧ x1 < 3 ∧ 0 ≤ x2 ∧ x2 < gI σ 3 x1)) → Q r σ) : eX10_has l G x1 x2 σ Q := by
  refine vX10_has x1 x2 r1 r2 σ Q ⟨?_, fun v hv => h v ?_⟩
  · repeat (first | exact True.intro | apply And.intro | intro _ | omega)
  · rw [hv]
    split
    · omega
    · split
      · omega
      · split
        · omega
        · split <;> omega
theorem p_end (x : Int) (rx : gR x) (σ : gS) (hI : tInv σ) : eX11_end l G x σ (fun r τ => gR r → eX12_end l G x τ (fun r' υ => gR r' → r = r' ∧ tInv υ)) := by
  obtain ⟨k1, k5, k6, k7⟩ := tTx0 hI
  obtain ⟨k2, k3, k4⟩ := tTp0 hI
  refine vX11_end x rx σ _ ⟨fun h1 _ => ?_, fun h1 => ⟨fun h2 σ1 e1 _ => ?_, fun h2 _ => ?_⟩⟩
  · exact vX12_end x rx σ _ ⟨fun _ _ => ⟨rfl, hI⟩, fun h2 => absurd h1 (by omega)⟩
  · have h3 : gI σ1 89 4 = gI σ 89 4 := by rw [e1]; exact sI_ne (by decide)
    refine vX12_end x rx σ1 _ ⟨fun h4 => absurd h1 (by omega), fun _ => ⟨fun h4 σ2 e2 _ => ⟨rfl, ?_⟩, fun h4 => ?_⟩⟩
    · have f1 : ∀ c j, (c ≠ 1 ∨ j ≠ 1) → (c ≠ 89 ∨ j ≠ 4) → gI σ2 c j = gI σ c j := by
        intro c j q1 q2
        rw [e2, sI_at, if_neg (by omega), e1, sI_at, if_neg (by omega)]
      have f2 : gI σ2 1 1 = x := by rw [e2, sI_ne (by omega), e1, sI_eq]
      have f3 : gI σ2 89 4 = x := by rw [e2, sI_eq]
      refine tInv.told hI (fun c c1 c2 i => f1 c i (by omega) (by omega)) (fun i i1 => f1 _ _ (by omega) (by omega)) (fun i => f1 _ _ (by omega) (by omega)) ?_
      refine ⟨tTx.keep (fun c c1 c2 i => f1 c i (by omega) (by omega)) (fun i i1 i2 => f1 _ _ (by omega) (by omega)) (fun i i1 i2 => f1 _ _ (by omega) (by omega)) hI.1.1, tTp0.mk ⟨⟨by rw [f2, f3], by omega, by omega⟩, ?_, fun i i1 i2 => ?_⟩⟩
      · rw [f1 _ _ (by omega) (by omega), f1 _ _ (by omega) (by omega), f1 _ _ (by omega) (by omega), f1 _ _ (by omega) (by omega)]; exact k3
      · rw [f1 _ _ (by omega) (by omega), f1 _ _ (by omega) (by omega)]; exact k4 i i1 i2
    · omega
  · have h3 : gI σ 89 4 < x := by omega
    exact vX12_end x rx σ _ ⟨fun h4 => absurd h1 (by omega), fun _ => ⟨fun h4 => absurd h4 (by omega), fun _ _ => ⟨rfl, hI⟩⟩⟩
theorem p_fault (x : Int) (rx : gR x) (σ : gS) (hI : tInv σ) : eX11_fault l G x σ (fun r τ => gR r → eX12_fault l G x τ (fun r' υ => gR r' → r = r' ∧ tInv υ)) := by
  obtain ⟨k1, k5, k6, k7⟩ := tTx0 hI
  obtain ⟨k2, k3, k4⟩ := tTp0 hI
  refine vX11_fault x rx σ _ ⟨fun h1 v hv _ => ?_, fun h1 _ => ?_⟩
  · refine vX12_fault x rx σ _ (fun w hw _ => ⟨?_, hI⟩)
    rw [hv, hw, if_neg h1]
    split
    · exact k3.2
    · rfl
  · refine vX12_fault x rx σ _ (fun w hw _ => ⟨?_, hI⟩)
    rw [hw, if_pos h1]
    exact k3.1
theorem p_count (x : Int) (rx : gR x) (σ : gS) (hI : tInv σ) : eX11_count l G x σ (fun r τ => gR r → eX12_count l G x τ (fun r' υ => gR r' → r = r' ∧ tInv υ)) := by
  obtain ⟨k1, k5, k6, k7⟩ := tTx0 hI
  obtain ⟨k2, k3, k4⟩ := tTp0 hI
  refine vX11_count x rx σ _ ⟨?_, fun v hv _ => ?_⟩
  · repeat (first | exact True.intro | apply And.intro | intro _ | omega)
  · refine vX12_count x rx σ _ (c_isIn _ _ _ rx (by decide) (by decide) σ _ (fun r hr _ => ⟨?_, fun w hw _ => ⟨?_, hI⟩⟩))
    · repeat (first | exact True.intro | apply And.intro | intro _ | omega)
    · rw [hv, hw]
      split
      · rw [if_pos (by omega)]
      · split
        · rw [if_neg (by omega), (k1 x (by omega) (by omega)).1]
        · rw [if_pos (by omega)]
end MB
