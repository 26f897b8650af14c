section MT4
variable {l : Launch} {G : gG}
/-- the rows that the reference has read -/
def RW (x c : Int) (V : Int → Int → Int) (σ : gS) : Prop :=
  (x = 0 → ∀ w, 0 ≤ w → w < 4 → gI σ 91 w = V 0 w) ∧ (x = 1 → ∀ i w, 0 ≤ i → i < c → 0 ≤ w → w < 3 → gI σ 91 (1 + 3 * i + w) = V i w) ∧ (x = 2 → ∀ i w, 0 ≤ i → i < c → 0 ≤ w → w < 4 → gI σ 91 (1 + 4 * i + w) = V i w)
def RSt (B : Int → Int) (L x : Int) (σ0 : gS) (p c k f : Int) (V : Int → Int → Int) (σ : gS) : Prop :=
  fLn σ0 σ ∧ rA B L σ ∧ (gI σ 88 8 = 0 ∧ tR B L p σ ∧ gI σ 89 5 = k ∧ gI σ 89 6 = f) ∧ (0 ≤ p ∧ p ≤ L) ∧ (0 ≤ c ∧ c ≤ liM x ∧ (x = 0 → c = 0) ∧ (¬ x = 0 → gI σ 91 0 = c)) ∧ (¬ k = 0 → f < p) ∧ (k = 0 → RW x c V σ)
theorem fK_0 {B : Int → Int} {L : Int} {rs : List (Int × Int)} {q k : Int} (h : fK B L rs q k = 0) : k = 0 := by
  unfold fK at h
  by_cases e : k = 0
  · exact e
  · rw [if_pos e] at h; exact h
theorem r_wordIn (B : Int → Int) (L x p : Int) (hx : x = 0 ∨ x = 1 ∨ x = 2) (hp : 0 ≤ p ∧ p ≤ L) (σ : gS) (hA : rA B L σ) (h8 : gI σ 88 8 = 0) (hR : tR B L p σ) (Q : Int → gS → Prop)
    (h1 : inS B L x p → ∀ τ, fR σ τ → tR B L (tE B L p) τ → Q (tW B L p) τ) (h2 : ¬ inS B L x p → ∀ τ, fLn σ τ → (∀ i, gI τ 91 i = gI σ 91 i) → gI τ 88 8 = 1 → gI τ 89 5 = 1 → gI τ 89 6 = tS B L p → Q 0 τ)
    (lo hi : Int) (elo : lo = loW x) (ehi : hi = hiW x) : eX12_wordIn l G lo hi σ Q := by
  have b1 : 1 ≤ lo ∧ hi ≤ 11 ∧ lo ≤ 99 ∧ 0 ≤ hi := by
    rw [elo, ehi]; unfold loW hiW
    rcases hx with e | e | e <;> rw [e] <;> decide
  have hL := hA.2.2.1
  have wr := tW_r B L p
  have s1 := tS_ge (B := B) (L := L) p
  have s3 := tE_le (B := B) (L := L) p hp.2
  have s4 := tE_ge (B := B) (L := L) p
  refine vX12_wordIn lo hi ⟨by omega, by omega⟩ ⟨by omega, by omega⟩ σ Q ⟨fun z => absurd h8 z, fun _ => ⟨fun z => r_ends σ _ (fun y => absurd h8 y) (fun _ τ w1 w2 w3 w4 w5 => ?_), fun z => ?_⟩⟩
  · refine h2 (fun q => z ?_) τ w1 w2 w3 w4 (by rw [w5]; exact hR.2.1)
    rw [hR.2.2.1, rK_3]
    refine ⟨q.1, ?_⟩
    have := q.2.1; have := q.2.2
    omega
  · have hK := rK_3.1 (hR.2.2.1.symm.trans z)
    have h7 := hR.2.2.2.2 hK.1
    rw [h7]
    refine c_isIn _ lo hi ⟨by omega, by omega⟩ ⟨by omega, by omega⟩ ⟨by omega, by omega⟩ σ _ (fun v hv _ => ⟨fun y => ?_, fun y => ?_⟩)
    · refine r_advance B L (tE B L p) ⟨by omega, s3⟩ σ hA hR.1 _ (fun τ w1 w2 => ?_)
      show Q (gI σ 88 7) τ
      rw [h7]
      exact h1 ⟨hK.1, by omega, by omega⟩ τ w1 w2
    · refine r_ends σ _ (fun y => absurd h8 y) (fun _ τ w1 w2 w3 w4 w5 => ?_)
      exact h2 (fun q => by have := q.2.1; have := q.2.2; omega) τ w1 w2 w3 w4 (by rw [w5]; exact hR.2.1)
/-- after a word, and after a fault of the limit -/
theorem NS.start {B : Int → Int} {L x p c k f : Int} {V : Int → Int → Int} {σ0 σ τ : gS} (hS : RSt B L x σ0 p c k f V σ) (hK : ¬ tK B L p = 0) (h1 : fLn σ τ) (h2 : tR B L (tE B L p) τ) (h8 : gI τ 88 8 = 0) (h5 : gI τ 89 5 = k0 x c k) (h6 : gI τ 89 6 = f0 x c k f (tS B L p)) (rs : List (Int × Int)) :
    NS B L rs (nV B L rs (tE B L p)) (nE B L rs (tE B L p)) (nP B L rs (tE B L p)) (fK B L rs (tE B L p) (k0 x c k)) (fQ B L rs (tE B L p) (k0 x c k) (f0 x c k f (tS B L p))) σ0 τ := by
  obtain ⟨a1, a2, a3, a4, a5, a6, a7⟩ := hS
  have s1 := tS_ge (B := B) (L := L) p
  have s2 := tE_gt (B := B) (L := L) p hK
  have s3 := tE_le (B := B) (L := L) p a4.2
  have s4 := tS_ge (B := B) (L := L) (tE B L p)
  refine ⟨fLn.trans a1 h1, rA.keepL h1 a2, Or.inr ⟨h8, tE B L p, ⟨by omega, s3⟩, h2, ?_, rfl, rfl, by rw [h5], by rw [h5, h6], fun _ _ => rfl⟩⟩
  rw [h5, h6]
  unfold k0 f0
  by_cases e : k = 0
  · rw [if_neg (show ¬ ¬ k = 0 from fun n => n e), if_neg (show ¬ ¬ k = 0 from fun n => n e)]
    by_cases e2 : liM x ≤ c
    · rw [if_pos e2, if_pos e2]; omega
    · rw [if_neg e2, if_neg e2]; intro y; exact absurd rfl y
  · rw [if_pos e, if_pos e]; intro _; have := a6 e; omega
/-- after a word that is none -/
theorem NS.bad {B : Int → Int} {L x p c k f : Int} {V : Int → Int → Int} {σ0 σ τ : gS} (hS : RSt B L x σ0 p c k f V σ) (h1 : fLn σ τ) (h8 : gI τ 88 8 = 1) (h5 : gI τ 89 5 = 1) (h6 : gI τ 89 6 = tS B L p) (rs : List (Int × Int)) (W : Int → Int) (P FK FP : Int) :
    NS B L rs W (tS B L p) P FK FP σ0 τ := by
  obtain ⟨a1, a2, a3, a4, a5, a6, a7⟩ := hS
  have s1 := tS_ge (B := B) (L := L) p
  exact ⟨fLn.trans a1 h1, rA.keepL h1 a2, Or.inl ⟨by rw [h8]; decide, h5, h6, by omega⟩⟩
/-- what a line is asked for -/
def LQ (B : Int → Int) (L x : Int) (σ0 : gS) (p c k f : Int) (V : Int → Int → Int) (Q : gS → Prop) : Prop :=
  (∀ τ E, fLn σ0 τ → rA B L τ → ¬ gI τ 88 8 = 0 → gI τ 89 5 = 1 → gI τ 89 6 = E → (¬ inS B L x p ∧ E = tS B L p) ∨ (inS B L x p ∧ ¬ nE B L (wR (tW B L p)) (tE B L p) = -1 ∧ E = nE B L (wR (tW B L p)) (tE B L p)) → Q τ) ∧
  (inS B L x p → nE B L (wR (tW B L p)) (tE B L p) = -1 → ∀ τ, RSt B L x σ0 (nP B L (wR (tW B L p)) (tE B L p)) (c1 x c) (fK B L (wR (tW B L p)) (tE B L p) (k0 x c k)) (fQ B L (wR (tW B L p)) (tE B L p) (k0 x c k) (f0 x c k f (tS B L p))) (V1 B L x c (tW B L p) V (wR (tW B L p)) (tE B L p)) τ → Q τ)
theorem r_bar (B : Int → Int) (L p c k f : Int) (V : Int → Int → Int) (σ0 σ τ : gS) (hS : RSt B L 0 σ0 p c k f V σ) (hK : inS B L 0 p) (h1 : fR σ τ) (h2 : tR B L (tE B L p) τ) (w lo hi i : Int) (hw : tW B L p = w) (hi' : i = w - 1) (hr : 0 ≤ lo ∧ lo ≤ 99 ∧ 0 ≤ hi ∧ hi ≤ 99) (hwr : wR w = [(lo, hi)]) (hi0 : 0 ≤ i ∧ i < 4) (Q : gS → Prop)
    (h : LQ B L 0 σ0 p c k f V Q) : eX12_numbered l G lo hi τ (fun v υ => gR v → ∀ υ1, υ1 = sI υ 91 i v → eX12_endsLine l G υ1 (fun υ2 => Q υ2)) := by
  have hk0 : k0 0 c k = k := by
    unfold k0
    by_cases e : k = 0
    · rw [if_neg (fun n => n e), if_neg (by have := hS.2.2.2.2.1.2.2.1 rfl; rw [this]; decide), e]
    · rw [if_pos e]
  have hf0 : f0 0 c k f (tS B L p) = f := by
    unfold f0
    by_cases e : k = 0
    · rw [if_neg (fun n => n e), if_neg (by have := hS.2.2.2.2.1.2.2.1 rfl; rw [this]; decide)]
    · rw [if_pos e]
  have N0 := NS.start (τ := τ) hS (by have := hK.1; omega) (fLn.ofR h1) h2 ((h1.1 _ _ (by omega)).trans hS.2.2.1.1) ((h1.1 _ _ (by omega)).trans (hS.2.2.1.2.2.1.trans hk0.symm)) ((h1.1 _ _ (by omega)).trans (hS.2.2.1.2.2.2.trans hf0.symm)) (wR w)
  rw [hwr] at N0
  obtain ⟨hb, hg⟩ := h
  rw [hw, hwr] at hb hg
  refine r_numbered B L lo hi hr [] _ _ _ _ _ σ0 τ N0 _ (fun v υ y1 y2 y3 y4 _ υ1 e1 => ?_)
  have y5 := NS.keep (τ := υ1) (fun c i q => by rw [e1, sI_ne q]) y1
  refine r_endsLine B L _ _ _ _ _ σ0 υ1 y5 _ (fun υ2 z1 z2 z3 z4 => ?_)
  rcases z4 with ⟨u1, u2, u3, u4⟩ | ⟨u1, u2, u3, u4, u5, u6, u7, u8⟩
  · exact hb υ2 _ z1 z2 u2 u3 u4 (Or.inr ⟨hK, u1, rfl⟩)
  · refine hg hK u1 υ2 ⟨z1, z2, ⟨u3, u6, u4, u5⟩, u7, ⟨?_, ?_, ?_, fun y => absurd rfl y⟩, u8, fun fz => ⟨fun _ j j0 j1 => ?_, fun y => absurd y (by decide), fun y => absurd y (by decide)⟩⟩
    · exact hS.2.2.2.2.1.1
    · exact hS.2.2.2.2.1.2.1
    · exact hS.2.2.2.2.1.2.2.1
    · rw [z3, e1]
      show _ = if j = w - 1 then _ else V 0 j
      by_cases ej : j = i
      · rw [ej, sI_eq, if_pos hi', (y4 (by rw [e1, sI_ne (by decide)] at u2; exact u2) fz).1]
      · rw [sI_nei ej, if_neg (by omega), y2, h1.1 _ _ (by omega)]
        have k00 : k = 0 := by have := fK_0 fz; rw [hk0] at this; exact this
        exact (hS.2.2.2.2.2.2 k00).1 rfl j j0 j1
theorem r_crossbarLine (B : Int → Int) (L p c k f : Int) (V : Int → Int → Int) (σ0 σ : gS) (hS : RSt B L 0 σ0 p c k f V σ) (Q : gS → Prop) (h : LQ B L 0 σ0 p c k f V Q) : eX12_crossbarLine l G σ Q := by
  refine vX12_crossbarLine σ Q ?_
  refine r_wordIn B L 0 p (Or.inl rfl) hS.2.2.2.1 σ hS.2.1 hS.2.2.1.1 hS.2.2.1.2.1 _ (fun hi τ w1 w2 _ v hv => ?_) (fun hi τ w1 w2 w3 w4 w5 _ v hv => ?_) 1 4 rfl rfl
  · rw [if_pos ((w1.1 _ _ (by omega)).trans hS.2.2.1.1)] at hv
    have hb : 1 ≤ tW B L p ∧ tW B L p ≤ 4 := hi.2
    refine ⟨fun e => ?_, fun e => ?_, fun e => ?_, fun e => ?_, fun e => by omega⟩
    · exact r_bar B L p c k f V σ0 σ τ hS hi w1 w2 1 1 6 0 (by omega) (by omega) (by decide) rfl (by decide) Q h
    · exact r_bar B L p c k f V σ0 σ τ hS hi w1 w2 2 1 4 1 (by omega) (by omega) (by decide) rfl (by decide) Q h
    · exact r_bar B L p c k f V σ0 σ τ hS hi w1 w2 3 1 9 2 (by omega) (by omega) (by decide) rfl (by decide) Q h
    · exact r_bar B L p c k f V σ0 σ τ hS hi w1 w2 4 0 5 3 (by omega) (by omega) (by decide) rfl (by decide) Q h
  · rw [if_neg (by rw [w3]; decide)] at hv
    refine ⟨fun e => by omega, fun e => by omega, fun e => by omega, fun e => by omega, fun _ => ?_⟩
    refine r_endsLine B L (fun _ => 0) _ 0 0 0 σ0 τ (NS.bad hS w1 w3 w4 w5 [] _ _ _ _) _ (fun υ2 z1 z2 z3 z4 => ?_)
    rcases z4 with ⟨u1, u2, u3, u4⟩ | ⟨u1, u2, _⟩
    · exact h.1 υ2 _ z1 z2 u2 u3 u4 (Or.inl ⟨hi, rfl⟩)
    · rw [w3] at u2; exact absurd u2 (by decide)
end MT4
