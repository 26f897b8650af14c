theorem tK_r (B : Int → Int) (L p : Int) : 0 ≤ tK B L p ∧ tK B L p ≤ 4 := by
  unfold tK eK
  repeat (first | decide | split)
theorem rK_0 {B : Int → Int} {L p : Int} : rK B L p = 0 ↔ tK B L p = 0 := by
  unfold rK
  split
  · split <;> omega
  · split
    · omega
    · split <;> omega
theorem rK_1 {B : Int → Int} {L p : Int} : rK B L p = 1 ↔ tK B L p = 2 := by
  unfold rK
  split
  · split <;> omega
  · split
    · omega
    · split <;> omega
theorem rK_2 {B : Int → Int} {L p : Int} : rK B L p = 2 ↔ tK B L p = 3 := by
  unfold rK
  split
  · split <;> omega
  · split
    · omega
    · split <;> omega
theorem rK_3 {B : Int → Int} {L p : Int} : rK B L p = 3 ↔ (tK B L p = 1 ∧ ¬ tW B L p = 99) := by
  unfold rK
  split
  · split <;> omega
  · split
    · omega
    · split <;> omega
theorem tN_r {B : Int → Int} {L p : Int} (h : tK B L p = 2) : 0 ≤ tN B L p ∧ tN B L p ≤ 99 := by
  have h0 : tS B L p < L := Decidable.byContradiction (fun q => by have := (tK_0 (B := B) p).2 q; omega)
  have hE := tE_gt (B := B) (L := L) p (by omega)
  unfold tK eK at h
  rw [if_pos h0] at h
  by_cases hl : lt (B (tS B L p)) = true
  · rw [if_pos hl] at h; exact absurd h (by decide)
  · rw [if_neg hl] at h
    by_cases hd : dgt (B (tS B L p)) = true
    · rw [if_pos hd] at h
      have d1 := dgt_t.1 hd
      have e1 : tE B L p = av dgt B L (tS B L p) := by unfold tE eE; rw [if_pos h0, if_neg hl, if_pos hd]
      have e2 : eE B L (tS B L p) = tE B L p := rfl
      rw [e2] at h
      have e3 : ¬ 2 < tE B L p - tS B L p := by intro q; rw [if_pos q] at h; exact absurd h (by decide)
      unfold tN dN
      rw [if_neg (by omega)]
      by_cases e4 : tE B L p = tS B L p + 1
      · rw [if_pos e4]; omega
      · rw [if_neg e4]
        have d2 := dgt_t.1 (av_all (f := dgt) (B := B) (L := L) (tS B L p) (tS B L p + 1) (by omega) (by omega))
        omega
    · rw [if_neg hd] at h
      exfalso; revert h; split <;> decide
/-- what numbers a word wants -/
def wR (w : Int) : List (Int × Int) :=
  if w = 1 then [(1, 6)] else if w = 2 then [(1, 4)] else if w = 3 then [(1, 9)] else if w = 4 then [(0, 5)] else if w = 5 then [] else if w = 6 then [(1, 9)]
  else if w = 7 then [(0, 5), (0, 5)] else if w = 8 then [(0, 5), (1, 63)] else if w = 9 then [(0, 5), (1, 63)] else [(0, 60), (0, 5), (0, 5)]
def nE (B : Int → Int) (L : Int) : List (Int × Int) → Int → Int
  | [], q => if tK B L q = 3 then -1 else tS B L q
  | _ :: rs, q => if tK B L q = 2 then nE B L rs (tE B L q) else tS B L q
def nP (B : Int → Int) (L : Int) : List (Int × Int) → Int → Int
  | [], q => tE B L q
  | _ :: rs, q => nP B L rs (tE B L q)
def nF (B : Int → Int) (L : Int) : List (Int × Int) → Int → Int
  | [], _ => -1
  | r :: rs, q => if tN B L q < r.1 ∨ r.2 < tN B L q then tS B L q else nF B L rs (tE B L q)
def nV (B : Int → Int) (L : Int) : List (Int × Int) → Int → Int → Int
  | [], _, _ => -1
  | _ :: rs, q, j => if j = 0 then tN B L q else nV B L rs (tE B L q) (j - 1)
def fK (B : Int → Int) (L : Int) (rs : List (Int × Int)) (q k : Int) : Int := if ¬ k = 0 then k else if nF B L rs q = -1 then 0 else 2
def fQ (B : Int → Int) (L : Int) (rs : List (Int × Int)) (q k f : Int) : Int := if ¬ k = 0 then f else if nF B L rs q = -1 then f else nF B L rs q
def loW (x : Int) : Int := if x = 0 then 1 else if x = 1 then 5 else 10
def hiW (x : Int) : Int := if x = 0 then 4 else if x = 1 then 9 else 11
def liM (x : Int) : Int := if x = 0 then 600 else if x = 1 then 40 else 8
def inS (B : Int → Int) (L x p : Int) : Prop := tK B L p = 1 ∧ loW x ≤ tW B L p ∧ tW B L p ≤ hiW x
def c1 (x c : Int) : Int := if x = 0 then c else if c < liM x then c + 1 else c
def k0 (x c k : Int) : Int := if ¬ k = 0 then k else if liM x ≤ c then 3 else 0
def f0 (x c k f s : Int) : Int := if ¬ k = 0 then f else if liM x ≤ c then s else f
def V1 (B : Int → Int) (L x c w : Int) (V : Int → Int → Int) (rs : List (Int × Int)) (q : Int) : Int → Int → Int :=
  fun i j => if x = 0 then (if j = w - 1 then nV B L rs q 0 else V i j) else if i = c ∧ c < liM x then (if j = 0 then (if x = 1 then w - 5 else 11 - w) else nV B L rs q (j - 1)) else V i j
/-- reading a text from p on, at most n lines: count, fault, rows before and after -/
def Par (B : Int → Int) (L x c' k' f' : Int) (V' : Int → Int → Int) : Nat → Int → Int → Int → Int → (Int → Int → Int) → Prop
  | 0, _, _, _, _, _ => False
  | n + 1, p, c, k, f, V => (tK B L p = 0 ∧ c' = c ∧ k' = k ∧ f' = f ∧ V' = V) ∨ (¬ tK B L p = 0 ∧ ¬ inS B L x p ∧ k' = 1 ∧ f' = tS B L p) ∨
    (inS B L x p ∧ ¬ nE B L (wR (tW B L p)) (tE B L p) = -1 ∧ k' = 1 ∧ f' = nE B L (wR (tW B L p)) (tE B L p)) ∨
    (inS B L x p ∧ nE B L (wR (tW B L p)) (tE B L p) = -1 ∧ Par B L x c' k' f' V' n (nP B L (wR (tW B L p)) (tE B L p)) (c1 x c) (fK B L (wR (tW B L p)) (tE B L p) (k0 x c k)) (fQ B L (wR (tW B L p)) (tE B L p) (k0 x c k) (f0 x c k f (tS B L p))) (V1 B L x c (tW B L p) V (wR (tW B L p)) (tE B L p)))
section MT3
variable {l : Launch} {G : gG}
/-- what a line of the reference may change -/
def fLn (σ τ : gS) : Prop := (∀ c i, c ≠ 91 → ¬ (c = 88 ∧ 3 ≤ i ∧ i ≤ 8) → ¬ (c = 89 ∧ (i = 5 ∨ i = 6)) → gI τ c i = gI σ c i)
theorem fLn.rfl' {σ : gS} : fLn σ σ := fun _ _ _ _ _ => rfl
theorem fLn.trans {σ τ υ : gS} (h : fLn σ τ) (k : fLn τ υ) : fLn σ υ := fun c i q1 q2 q3 => (k c i q1 q2 q3).trans (h c i q1 q2 q3)
theorem fLn.ofR {σ τ : gS} (h : fR σ τ) : fLn σ τ := fun c i _ q2 _ => h.1 c i (by omega)
theorem fLn.set {σ τ : gS} {c : Nat} {i v : Int} (e : τ = sI σ c i v) (h : c = 91 ∨ (c = 88 ∧ 3 ≤ i ∧ i ≤ 8) ∨ (c = 89 ∧ (i = 5 ∨ i = 6))) : fLn σ τ := fun c' j q1 q2 q3 => by rw [e, sI_at, if_neg (by omega)]
theorem rA.keepL {B : Int → Int} {L : Int} {σ τ : gS} (h : fLn σ τ) (k : rA B L σ) : rA B L τ :=
  ⟨(h _ _ (by decide) (by omega) (by omega)).trans k.1, k.2.1, k.2.2.1, fun i i0 i1 => ⟨(k.2.2.2 i i0 i1).1, (k.2.2.2 i i0 i1).2.1, (h _ _ (by decide) (by omega) (by omega)).trans (k.2.2.2 i i0 i1).2.2⟩⟩
theorem r_ends (σ : gS) (Q : gS → Prop) (h1 : ¬ gI σ 88 8 = 0 → Q σ) (h2 : gI σ 88 8 = 0 → ∀ τ, fLn σ τ → (∀ i, gI τ 91 i = gI σ 91 i) → gI τ 88 8 = 1 → gI τ 89 5 = 1 → gI τ 89 6 = gI σ 88 4 → Q τ) : eX12_ends l G σ Q := by
  refine vX12_ends σ Q ⟨fun z σ1 e1 σ2 e2 σ3 e3 => h2 z σ3 ?_ ?_ ?_ ?_ ?_, h1⟩
  · exact fLn.trans (fLn.trans (fLn.set e1 (by omega)) (fLn.set e2 (by omega))) (fLn.set e3 (by omega))
  · intro i; rw [e3, sI_ne (by decide), e2, sI_ne (by decide), e1, sI_ne (by decide)]
  · rw [e3, sI_ne (by decide), e2, sI_ne (by decide), e1, sI_eq]
  · rw [e3, sI_nei (by decide), e2, sI_eq]
  · rw [e3, sI_eq, e2, sI_ne (by decide), e1, sI_nei (by decide)]
/-- the reference amid a line: numbers rs are still to come -/
def NS (B : Int → Int) (L : Int) (rs : List (Int × Int)) (W : Int → Int) (E P FK FP : Int) (σ0 σ : gS) : Prop :=
  fLn σ0 σ ∧ rA B L σ ∧ ((¬ gI σ 88 8 = 0 ∧ gI σ 89 5 = 1 ∧ gI σ 89 6 = E ∧ ¬ E = -1) ∨
    (gI σ 88 8 = 0 ∧ ∃ q, (0 ≤ q ∧ q ≤ L) ∧ tR B L q σ ∧ (¬ gI σ 89 5 = 0 → gI σ 89 6 < tS B L q) ∧ nE B L rs q = E ∧ nP B L rs q = P ∧ fK B L rs q (gI σ 89 5) = FK ∧ fQ B L rs q (gI σ 89 5) (gI σ 89 6) = FP ∧ ∀ j, 0 ≤ j → nV B L rs q j = W j))
theorem tR.keep {B : Int → Int} {L p : Int} {σ τ : gS} (h : ∀ i, 3 ≤ i → i ≤ 7 → gI τ 88 i = gI σ 88 i) (k : tR B L p σ) : tR B L p τ := by
  unfold tR at *
  rw [h 3 (by omega) (by omega), h 4 (by omega) (by omega), h 5 (by omega) (by omega), h 6 (by omega) (by omega), h 7 (by omega) (by omega)]
  exact k
theorem NS.keep {B : Int → Int} {L : Int} {rs : List (Int × Int)} {W : Int → Int} {E P FK FP : Int} {σ0 σ τ : gS} (h : ∀ c i, c ≠ 91 → gI τ c i = gI σ c i) (k : NS B L rs W E P FK FP σ0 σ) : NS B L rs W E P FK FP σ0 τ := by
  have f1 : fLn σ τ := fun c i q1 _ _ => h c i q1
  obtain ⟨a1, a2, a3⟩ := k
  refine ⟨fLn.trans a1 f1, rA.keepL f1 a2, ?_⟩
  rw [h 88 8 (by decide), h 89 5 (by decide), h 89 6 (by decide)]
  rcases a3 with b | ⟨b, q, b1, b2, b3⟩
  · exact Or.inl b
  · exact Or.inr ⟨b, q, b1, tR.keep (fun i _ _ => h 88 i (by decide)) b2, b3⟩
theorem r_also (k s : Int) (rk : gR k) (rs : gR s) (σ : gS) (h8 : gI σ 88 8 = 0) (hf : ¬ gI σ 89 5 = 0 → gI σ 89 6 < s) (Q : gS → Prop)
    (h : ∀ τ, (∀ c i, ¬ (c = 89 ∧ (i = 5 ∨ i = 6)) → gI τ c i = gI σ c i) → gI τ 89 5 = (if ¬ gI σ 89 5 = 0 then gI σ 89 5 else k) → gI τ 89 6 = (if ¬ gI σ 89 5 = 0 then gI σ 89 6 else s) → Q τ) : eX12_also l G k s σ Q := by
  refine vX12_also k s rk rs σ Q ⟨fun z => absurd h8 z, fun _ => ⟨fun z σ1 e1 σ2 e2 => h σ2 ?_ ?_ ?_, fun z => ⟨fun _ => h σ (fun _ _ _ => rfl) (by rw [if_pos z]) (by rw [if_pos z]), fun g => absurd (hf z) (by omega)⟩⟩⟩
  · intro c i n; rw [e2, sI_at, if_neg (by omega), e1, sI_at, if_neg (by omega)]
  · rw [e2, sI_nei (by decide), e1, sI_eq, if_neg (fun n => n z)]
  · rw [e2, sI_eq, if_neg (fun n => n z)]
theorem r_numbered (B : Int → Int) (L lo hi : Int) (hr : 0 ≤ lo ∧ lo ≤ 99 ∧ 0 ≤ hi ∧ hi ≤ 99) (rs : List (Int × Int)) (W : Int → Int) (E P FK FP : Int) (σ0 σ : gS) (hN : NS B L ((lo, hi) :: rs) W E P FK FP σ0 σ) (Q : Int → gS → Prop)
    (h : ∀ v τ, NS B L rs (fun j => W (j + 1)) E P FK FP σ0 τ → (∀ i, gI τ 91 i = gI σ 91 i) → (gI τ 88 8 = 0 → gI σ 88 8 = 0) → (gI τ 88 8 = 0 → FK = 0 → v = W 0 ∧ lo ≤ v ∧ v ≤ hi) → Q v τ) : eX12_numbered l G lo hi σ Q := by
  obtain ⟨a1, a2, a3⟩ := hN
  have hL := a2.2.2.1
  refine vX12_numbered lo hi ⟨by omega, by omega⟩ ⟨by omega, by omega⟩ σ Q ⟨fun z => r_ends σ _ (fun _ => ?_) (fun z2 => absurd z2 z), fun z => ⟨fun z2 => ?_, fun z2 => ?_⟩⟩
  · rcases a3 with b | ⟨b, _⟩
    · exact h lo σ ⟨a1, a2, Or.inl b⟩ (fun _ => rfl) (fun e => e) (fun e => absurd e z)
    · exact absurd b z
  · rcases a3 with b | ⟨b, q, b1, b2, b3, b4, b5, b6, b7, b8⟩
    · exact absurd z b.1
    · have hK : tK B L q = 2 := by rw [← rK_1, ← b2.2.2.1]; exact z2
      have hN6 := b2.2.2.2.1 hK
      have nr := tN_r hK
      have s1 := tS_ge (B := B) (L := L) q
      have s2 := tE_gt (B := B) (L := L) q (by omega)
      have s3 := tE_le (B := B) (L := L) q b1.2
      have s4 := tS_ge (B := B) (L := L) (tE B L q)
      have d1 : nE B L rs (tE B L q) = E := by rw [← b4]; exact (if_pos hK).symm
      have d2 : nP B L rs (tE B L q) = P := b5
      have d8 : ∀ j, 0 ≤ j → nV B L rs (tE B L q) j = W (j + 1) := by
        intro j j0
        have := b8 (j + 1) (by omega)
        rw [← this]
        show _ = if j + 1 = 0 then _ else nV B L rs (tE B L q) (j + 1 - 1)
        rw [if_neg (by omega), show j + 1 - 1 = j by omega]
      have d0 : W 0 = tN B L q := by rw [← b8 0 (by omega)]; exact if_pos rfl
      rw [hN6]
      refine c_isIn _ lo hi ⟨by omega, by omega⟩ ⟨by omega, by omega⟩ ⟨by omega, by omega⟩ σ _ (fun v hv _ => ⟨fun g => ?_, fun g => ?_⟩)
      · have g1 : ¬ (tN B L q < lo ∨ hi < tN B L q) := by omega
        have d6 : nF B L ((lo, hi) :: rs) q = nF B L rs (tE B L q) := if_neg g1
        refine r_advance B L (tE B L q) ⟨by omega, s3⟩ σ a2 b2.1 _ (fun τ w1 w2 => ?_)
        refine c_isIn _ lo hi ⟨by omega, by omega⟩ ⟨by omega, by omega⟩ ⟨by omega, by omega⟩ τ _ (fun u hu _ u2 hu2 => ?_)
        have t8 : gI τ 88 8 = gI σ 88 8 := w1.1 _ _ (by omega)
        have t5 : gI τ 89 5 = gI σ 89 5 := w1.1 _ _ (by omega)
        have t6 : gI τ 89 6 = gI σ 89 6 := w1.1 _ _ (by omega)
        refine h u2 τ ⟨fLn.trans a1 (fLn.ofR w1), rA.keep w1 a2, Or.inr ⟨by rw [t8]; exact b, tE B L q, ⟨by omega, s3⟩, w2, ?_, d1, d2, ?_, ?_, d8⟩⟩ (fun i => w1.1 _ _ (by omega)) (fun _ => b) (fun _ _ => ?_)
        · rw [t5, t6]; intro y; have := b3 y; omega
        · rw [t5, ← b6]; unfold fK; rw [d6]
        · rw [t5, t6, ← b7]; unfold fQ; rw [d6]
        · rw [hu2, if_neg (by omega), d0]; omega
      · have g1 : tN B L q < lo ∨ hi < tN B L q := by omega
        have d6 : nF B L ((lo, hi) :: rs) q = tS B L q := if_pos g1
        rw [b2.2.1]
        refine r_also 2 (tS B L q) (by decide) ⟨by omega, by omega⟩ σ b b3 _ (fun τ1 w1 w5 w6 => ?_)
        have f1 : fLn σ τ1 := fun c i q1 q2 q3 => w1 c i q3
        have u3 : gI τ1 88 3 = tE B L q := by rw [w1 _ _ (by omega)]; exact b2.1
        refine r_advance B L (tE B L q) ⟨by omega, s3⟩ τ1 (rA.keepL f1 a2) u3 _ (fun τ y1 y2 => ?_)
        refine c_isIn _ lo hi ⟨by omega, by omega⟩ ⟨by omega, by omega⟩ ⟨by omega, by omega⟩ τ _ (fun u hu _ u2 hu2 => ?_)
        have t8 : gI τ 88 8 = gI σ 88 8 := (y1.1 _ _ (by omega)).trans (w1 _ _ (by omega))
        have t5 : gI τ 89 5 = gI τ1 89 5 := y1.1 _ _ (by omega)
        have t6 : gI τ 89 6 = gI τ1 89 6 := y1.1 _ _ (by omega)
        have n5 : ¬ gI τ1 89 5 = 0 := by
          rw [w5]
          by_cases e : gI σ 89 5 = 0
          · rw [if_neg (fun n => n e)]; decide
          · rw [if_pos e]; exact e
        have m5 : FK = gI τ1 89 5 := by
          rw [← b6, w5]; unfold fK
          by_cases e : gI σ 89 5 = 0
          · rw [if_neg (fun n => n e), d6, if_neg (show ¬ tS B L q = -1 by omega), if_neg (fun n => n e)]
          · rw [if_pos e, if_pos e]
        have m6 : FP = gI τ1 89 6 := by
          rw [← b7, w6]; unfold fQ
          by_cases e : gI σ 89 5 = 0
          · rw [if_neg (fun n => n e), d6, if_neg (show ¬ tS B L q = -1 by omega), if_neg (fun n => n e)]
          · rw [if_pos e, if_pos e]
        refine h u2 τ ⟨fLn.trans (fLn.trans a1 f1) (fLn.ofR y1), rA.keep y1 (rA.keepL f1 a2), Or.inr ⟨by rw [t8]; exact b, tE B L q, ⟨by omega, s3⟩, y2, ?_, d1, d2, ?_, ?_, d8⟩⟩ (fun i => (y1.1 _ _ (by omega)).trans (w1 _ _ (by omega))) (fun _ => b) (fun _ y => absurd y (by rw [m5]; exact n5))
        · rw [t5, t6, w5, w6]
          intro _
          by_cases e : gI σ 89 5 = 0
          · rw [if_neg (fun n => n e)]; omega
          · rw [if_pos e]; have := b3 e; omega
        · rw [t5, m5]; unfold fK; rw [if_pos n5]
        · rw [t5, t6, m6]; unfold fQ; rw [if_pos n5]
  · refine r_ends σ _ (fun y => absurd z y) (fun _ τ w1 w2 w3 w4 w5 => ?_)
    rcases a3 with b | ⟨b, q, b1, b2, b3, b4, b5, b6, b7, b8⟩
    · exact absurd z b.1
    · have hK : ¬ tK B L q = 2 := by rw [← rK_1, ← b2.2.2.1]; exact z2
      have s1 := tS_ge (B := B) (L := L) q
      have e1 : E = tS B L q := by rw [← b4]; exact if_neg hK
      refine h lo τ ⟨fLn.trans a1 w1, rA.keepL w1 a2, Or.inl ⟨by rw [w3]; decide, w4, by rw [w5, e1]; exact b2.2.1, by omega⟩⟩ w2 (fun _ => b) (fun y => absurd y (by rw [w3]; decide))
theorem r_endsLine (B : Int → Int) (L : Int) (W : Int → Int) (E P FK FP : Int) (σ0 σ : gS) (hN : NS B L [] W E P FK FP σ0 σ) (Q : gS → Prop)
    (h : ∀ τ, fLn σ0 τ → rA B L τ → (∀ i, gI τ 91 i = gI σ 91 i) → ((¬ E = -1 ∧ ¬ gI τ 88 8 = 0 ∧ gI τ 89 5 = 1 ∧ gI τ 89 6 = E) ∨ (E = -1 ∧ gI σ 88 8 = 0 ∧ gI τ 88 8 = 0 ∧ gI τ 89 5 = FK ∧ gI τ 89 6 = FP ∧ tR B L P τ ∧ (0 ≤ P ∧ P ≤ L) ∧ (¬ FK = 0 → FP < P))) → Q τ) : eX12_endsLine l G σ Q := by
  obtain ⟨a1, a2, a3⟩ := hN
  have hL := a2.2.2.1
  refine vX12_endsLine σ Q ⟨fun z => r_ends σ _ (fun _ => ?_) (fun z2 => absurd z2 z), fun z => ⟨fun z2 => r_ends σ _ (fun y => absurd z y) (fun _ τ w1 w2 w3 w4 w5 => ?_), fun z2 => ?_⟩⟩
  · rcases a3 with b | ⟨b, _⟩
    · exact h σ a1 a2 (fun _ => rfl) (Or.inl ⟨b.2.2.2, b.1, b.2.1, b.2.2.1⟩)
    · exact absurd b z
  · rcases a3 with b | ⟨b, q, b1, b2, b3, b4, b5, b6, b7, b8⟩
    · exact absurd z b.1
    · have hK : ¬ tK B L q = 3 := by rw [← rK_2, ← b2.2.2.1]; exact z2
      have s1 := tS_ge (B := B) (L := L) q
      have e1 : E = tS B L q := by rw [← b4]; exact if_neg hK
      exact h τ (fLn.trans a1 w1) (rA.keepL w1 a2) w2 (Or.inl ⟨by omega, by rw [w3]; decide, w4, by rw [w5, e1]; exact b2.2.1⟩)
  · rcases a3 with b | ⟨b, q, b1, b2, b3, b4, b5, b6, b7, b8⟩
    · exact absurd z b.1
    · have hK : tK B L q = 3 := by rw [← rK_2, ← b2.2.2.1]; exact z2
      have e1 : E = -1 := by rw [← b4]; exact if_pos hK
      have e2 : P = tE B L q := b5.symm
      have s1 := tS_ge (B := B) (L := L) q
      have s2 := tE_gt (B := B) (L := L) q (by omega)
      have s3 := tE_le (B := B) (L := L) q b1.2
      have k1 : FK = gI σ 89 5 := by
        rw [← b6]; unfold fK
        by_cases e : gI σ 89 5 = 0
        · rw [if_neg (fun n => n e), e]; exact if_pos rfl
        · rw [if_pos e]
      have k2 : FP = gI σ 89 6 := by
        rw [← b7]; unfold fQ
        by_cases e : gI σ 89 5 = 0
        · rw [if_neg (fun n => n e)]; exact if_pos rfl
        · rw [if_pos e]
      refine r_advance B L (tE B L q) ⟨by omega, s3⟩ σ a2 b2.1 _ (fun τ w1 w2 => ?_)
      refine h τ (fLn.trans a1 (fLn.ofR w1)) (rA.keep w1 a2) (fun i => w1.1 _ _ (by omega)) (Or.inr ⟨e1, b, ?_, ?_, ?_, ?_, ?_, ?_⟩)
      · rw [w1.1 _ _ (by omega)]; exact b
      · rw [w1.1 _ _ (by omega), k1]
      · rw [w1.1 _ _ (by omega), k2]
      · rw [e2]; exact w2
      · rw [e2]; omega
      · rw [e2, k1, k2]; intro y; have := b3 y; omega
end MT3
