def nxt (P i : Int) : Int := if i + 1 < P then i + 1 else 0
theorem nxt_r {P i : Int} (hP : 1 ≤ P) (h : 0 ≤ i) : 0 ≤ nxt P i ∧ nxt P i < P := by unfold nxt; split <;> omega
/-- the first from s on, behind the last one 0 again -/
def fstF (p : Int → Bool) (P : Int) : Nat → Int → Int
  | 0, _ => -1
  | k + 1, s => if p s = true then s else fstF p P k (nxt P s)
def fst (p : Int → Bool) (s P : Int) : Int := fstF p P P.toNat s
theorem fstF_congr {p q : Int → Bool} {P : Int} (hP : 1 ≤ P) (h : ∀ k, 0 ≤ k → k < P → p k = q k) : ∀ (n : Nat) (s : Int), 0 ≤ s → s < P → fstF p P n s = fstF q P n s
  | 0, _, _, _ => rfl
  | n + 1, s, h0, h1 => by
    unfold fstF
    rw [h s h0 h1, fstF_congr hP h n (nxt P s) (nxt_r hP h0).1 (nxt_r hP h0).2]
theorem fst_congr {p q : Int → Bool} {s P : Int} (hs : 0 ≤ s ∧ s < P) (h : ∀ k, 0 ≤ k → k < P → p k = q k) : fst p s P = fst q s P := fstF_congr (by omega) h _ s hs.1 hs.2
theorem fstF_none {p : Int → Bool} {P : Int} (hP : 1 ≤ P) (h : ∀ k, 0 ≤ k → k < P → p k = false) : ∀ (n : Nat) (s : Int), 0 ≤ s → s < P → fstF p P n s = -1
  | 0, _, _, _ => rfl
  | n + 1, s, h0, h1 => by
    unfold fstF
    rw [if_neg (by rw [h s h0 h1]; decide)]
    exact fstF_none hP h n (nxt P s) (nxt_r hP h0).1 (nxt_r hP h0).2
theorem fst_none {p : Int → Bool} {s P : Int} (hs : 0 ≤ s ∧ s < P) (h : ∀ k, 0 ≤ k → k < P → p k = false) : fst p s P = -1 := fstF_none (by omega) h _ s hs.1 hs.2
theorem fstF_in {p : Int → Bool} {P : Int} (hP : 1 ≤ P) : ∀ (n : Nat) (s : Int), 0 ≤ s → s < P → fstF p P n s = -1 ∨ (0 ≤ fstF p P n s ∧ fstF p P n s < P ∧ p (fstF p P n s) = true)
  | 0, _, _, _ => Or.inl rfl
  | n + 1, s, h0, h1 => by
    unfold fstF
    split
    · rename_i hp; exact Or.inr ⟨h0, h1, hp⟩
    · exact fstF_in hP n (nxt P s) (nxt_r hP h0).1 (nxt_r hP h0).2
theorem fst_in (p : Int → Bool) {s P : Int} (hs : 0 ≤ s ∧ s < P) : fst p s P = -1 ∨ (0 ≤ fst p s P ∧ fst p s P < P ∧ p (fst p s P) = true) := fstF_in (by omega) _ s hs.1 hs.2
def fup (f : Int → Int) (k v : Int) : Int → Int := fun j => if j = k then v else f j
/-- BUSY inputs, outputs; grants, accepts; matches -/
abbrev mX : Type := (Int → Bool) × (Int → Bool) × (Int → Int) × (Int → Int) × (Int → Int)
def sGd (P : Int) (ask : Int → Int → Bool) (X : mX) (o : Int) : Int := fst (fun i => !X.1 i && !X.2.1 o && ask i o) (X.2.2.1 o) P
def sPair (P : Int) (first : Bool) (i o : Int) (X : mX) : mX :=
  (fun k => X.1 k || decide (i = k), fun k => X.2.1 k || decide (o = k), (if first = true then fup X.2.2.1 o (nxt P i) else X.2.2.1), (if first = true then fup X.2.2.2.1 i (nxt P o) else X.2.2.2.1), fup X.2.2.2.2 o i)
def sBest (P : Int) (gd : Int → Int) (i : Int) (X : mX) : Int := fst (fun o => decide (gd o = i)) (X.2.2.2.1 i) P
def sAcc (P : Int) (first : Bool) (gd : Int → Int) (i : Int) (X : mX) : mX := if sBest P gd i X = -1 then X else sPair P first i (sBest P gd i X) X
def sAccs (P : Int) (first : Bool) (gd : Int → Int) : Nat → mX → mX
  | 0, X => X
  | n + 1, X => sAcc P first gd n (sAccs P first gd n X)
def sRound (P : Int) (first : Bool) (ask : Int → Int → Bool) (X : mX) : mX := sAccs P first (sGd P ask X) P.toNat X
def sRnds (P : Int) (ask : Int → Int → Bool) : Nat → mX → mX
  | 0, X => X
  | n + 1, X => sRound P (decide (n = 0)) ask (sRnds P ask n X)
def okX (P : Int) (X : mX) : Prop := ∀ o, 0 ≤ o → o < P → 0 ≤ X.2.2.1 o ∧ X.2.2.1 o < P ∧ 0 ≤ X.2.2.2.1 o ∧ X.2.2.2.1 o < P
theorem okX_pair {P : Int} {X : mX} {f : Bool} {i o : Int} (hP : 1 ≤ P) (h : okX P X) (hi : 0 ≤ i) (ho : 0 ≤ o) : okX P (sPair P f i o X) := by
  intro k k0 k1
  obtain ⟨h1, h2, h3, h4⟩ := h k k0 k1
  have n1 := nxt_r hP hi
  have n2 := nxt_r hP ho
  unfold sPair
  dsimp only
  cases f with
  | false => exact ⟨h1, h2, h3, h4⟩
  | true =>
    simp only [if_true, fup]
    refine ⟨?_, ?_, ?_, ?_⟩ <;> (split <;> omega)
theorem okX_acc {P : Int} {X : mX} {f : Bool} {gd : Int → Int} {i : Int} (h : okX P X) (hi : 0 ≤ i ∧ i < P) : okX P (sAcc P f gd i X) := by
  unfold sAcc
  split
  · exact h
  · rename_i hb
    have hin := fst_in (fun o => decide (gd o = i)) (s := X.2.2.2.1 i) (P := P) ⟨(h i hi.1 hi.2).2.2.1, (h i hi.1 hi.2).2.2.2⟩
    have hin' : sBest P gd i X = -1 ∨ _ := hin
    rcases hin' with e | ⟨e1, e2, e3⟩
    · exact absurd e hb
    · exact okX_pair (by omega) h hi.1 e1
theorem okX_accs {P : Int} {X : mX} {f : Bool} {gd : Int → Int} (h : okX P X) : ∀ n : Nat, (n : Int) ≤ P → okX P (sAccs P f gd n X)
  | 0, _ => h
  | n + 1, hn => okX_acc (okX_accs h n (by omega)) ⟨by omega, by omega⟩
theorem okX_round {P : Int} {X : mX} {f : Bool} {ask : Int → Int → Bool} (hP : 1 ≤ P) (h : okX P X) : okX P (sRound P f ask X) := okX_accs h _ (by omega)
theorem okX_rnds {P : Int} {X : mX} {ask : Int → Int → Bool} (hP : 1 ≤ P) (h : okX P X) : ∀ n : Nat, okX P (sRnds P ask n X)
  | 0 => h
  | n + 1 => okX_round hP (okX_rnds hP h n)
/-- a round in which no input finds one changes nothing, by whatever flag -/
theorem sAccs_none {P : Int} {X : mX} {f : Bool} {gd : Int → Int} (h : ∀ i, 0 ≤ i → i < P → sBest P gd i X = -1) : ∀ n : Nat, (n : Int) ≤ P → sAccs P f gd n X = X
  | 0, _ => rfl
  | n + 1, hn => by
    unfold sAccs
    rw [sAccs_none h n (by omega)]
    unfold sAcc
    rw [if_pos (h n (by omega) (by omega))]
theorem sRnds_done {P : Int} {ask : Int → Int → Bool} {X : mX} {n : Nat} (hP : 1 ≤ P) (h : ∀ i, 0 ≤ i → i < P → sBest P (sGd P ask (sRnds P ask n X)) i (sRnds P ask n X) = -1) : ∀ k : Nat, sRnds P ask (n + k) X = sRnds P ask n X
  | 0 => rfl
  | k + 1 => by
    show sRound P _ ask (sRnds P ask (n + k) X) = _
    rw [sRnds_done hP h k]
    exact sAccs_none h _ (by omega)
/-- the class' matcher at cell b -/
def CM (σ : gS) (b : Nat) (P : Int) (ask : Int → Int → Bool) (X : mX) : Prop :=
  gI σ b 0 = P ∧ isM (gI σ b 5) (fun i => decide (i < P) && !X.1 i) ∧ isM (gI σ b 6) (fun o => decide (o < P) && !X.2.1 o) ∧
  (∀ o, 0 ≤ o → o < 6 → gI σ (b + 1) o = X.2.2.1 o ∧ gI σ (b + 2) o = X.2.2.2.1 o ∧ gI σ (b + 4) o = X.2.2.2.2 o) ∧
  ∀ o, 0 ≤ o → o < P → isM (gI σ (b + 3) o) (fun i => decide (i < P) && ask i o)
/-- only these cells changed; what the matcher never writes in them -/
def frM (b : Nat) (σ τ : gS) : Prop := (∀ c i, c < b ∨ b + 5 < c → gI τ c i = gI σ c i) ∧ (∀ i, gI τ (b + 3) i = gI σ (b + 3) i) ∧ gI τ b 0 = gI σ b 0 ∧ τ.2 = σ.2
theorem frM.rfl' {b : Nat} {σ : gS} : frM b σ σ := ⟨fun _ _ _ => rfl, fun _ => rfl, rfl, rfl⟩
theorem frM.trans {b : Nat} {σ τ υ : gS} (h : frM b σ τ) (k : frM b τ υ) : frM b σ υ := ⟨fun c i hc => (k.1 c i hc).trans (h.1 c i hc), fun i => (k.2.1 i).trans (h.2.1 i), k.2.2.1.trans h.2.2.1, k.2.2.2.trans h.2.2.2⟩
theorem frM.set {b : Nat} {σ : gS} {c : Nat} {i v : Int} (hc : (c = b ∧ i ≠ 0) ∨ c = b + 1 ∨ c = b + 2 ∨ c = b + 4 ∨ c = b + 5) : frM b σ (sI σ c i v) :=
  ⟨fun c' i' h => sI_ne (by omega), fun i' => sI_ne (by omega), by rw [sI_at, if_neg (by omega)], rfl⟩
section MR
variable {l : Launch} {G : gG}
theorem c_holds (m k : Int) (hm : 0 ≤ m ∧ m < 64) (hk : 0 ≤ k ∧ k < 6) (σ : gS) (Q : Int → gS → Prop) (h : Q (if tb m k = true then 1 else 0) σ) : eX11_holds l G m k σ Q := by
  refine vX11_holds m k ⟨by omega, by omega⟩ ⟨by omega, by omega⟩ σ Q (fun v hv => ?_)
  rw [tb_eq m k (by omega) (by omega)] at hv
  rw [hv]
  by_cases ht : tb m k = true
  · rw [if_pos ht] at h ⊢
    rw [if_neg (by decide)]; exact h
  · rw [if_neg ht] at h ⊢
    rw [if_pos rfl]; exact h
theorem c_next (i P : Int) (hi : 0 ≤ i ∧ i < 6) (hP : 1 ≤ P ∧ P ≤ 6) (σ : gS) (Q : Int → gS → Prop) (h : Q (nxt P i) σ) : eX11_next l G i P σ Q := by
  refine vX11_next i P ⟨by omega, by omega⟩ ⟨by omega, by omega⟩ σ Q ⟨⟨⟨by omega, by omega⟩, fun _ => True.intro, fun _ => True.intro⟩, fun v hv => ?_⟩
  rw [hv]; exact h
theorem c_firstFrom (m s P : Int) (hm : 0 ≤ m ∧ m < 64) (hP : 1 ≤ P ∧ P ≤ 6) (hs : 0 ≤ s ∧ s < P) (σ : gS) (Q : Int → gS → Prop) (h : Q (fst (fun k => tb m k) s P) σ) : eX11_firstFrom l G m s P σ Q := by
  have rm : gR m := ⟨by omega, by omega⟩
  have rs : gR s := ⟨by omega, by omega⟩
  have rP : gR P := ⟨by omega, by omega⟩
  refine vX11_firstFrom m s P rm rs rP σ Q ?_
  have key : ∀ (n : Nat) (x3 x4 : Int), x4 + n = P → 0 ≤ x4 → 0 ≤ x3 → x3 < P → Q (fstF (fun k => tb m k) P n x3) σ → kX11_firstFrom_5 l G m s P x3 x4 σ Q := by
    intro n
    induction n with
    | zero =>
      intro x3 x4 e h0 h1 h2 hq
      exact vX11_firstFrom_5 m s P x3 x4 rm rs rP ⟨by omega, by omega⟩ ⟨by omega, by omega⟩ σ Q ⟨fun _ => hq, fun e => by omega⟩
    | succ n ih =>
      intro x3 x4 e h0 h1 h2 hq
      refine vX11_firstFrom_5 m s P x3 x4 rm rs rP ⟨by omega, by omega⟩ ⟨by omega, by omega⟩ σ Q ⟨fun e => by omega, fun _ => ?_⟩
      rw [tb_eq m x3 (by omega) (by omega)]
      unfold fstF at hq
      by_cases ht : tb m x3 = true
      · rw [if_pos ht] at hq ⊢
        exact ⟨fun e => absurd e (by decide), fun _ => hq⟩
      · rw [if_neg ht] at hq ⊢
        refine ⟨fun _ => ⟨⟨⟨by omega, by omega⟩, fun _ => True.intro, fun _ => True.intro⟩, fun v hv => ?_⟩, fun e => absurd rfl e⟩
        have hv' : v = nxt P x3 := hv
        rw [hv']
        exact ih _ _ (by omega) (by omega) (nxt_r hP.1 h1).1 (nxt_r hP.1 h1).2 hq
  exact key P.toNat s 0 (by omega) (by omega) hs.1 hs.2 h
theorem c_pair (b : Nat) (hb : b = 45 ∨ b = 59) (P : Int) (hP : 1 ≤ P ∧ P ≤ 6) (ask : Int → Int → Bool) (X : mX) (i o x3 : Int) (hi : 0 ≤ i ∧ i < P) (ho : 0 ≤ o ∧ o < P) (h3 : x3 = 0 ∨ x3 = 1) (σ : gS) (hC : CM σ b P ask X) (Q : gS → Prop)
    (h : ∀ τ, CM τ b P ask (sPair P (decide (x3 = 1)) i o X) → frM b σ τ → (∀ k, gI τ (b + 5) k = gI σ (b + 5) k) → Q τ) : eX4_pair l G b i o x3 σ Q := by
  obtain ⟨c1, c2, c3, c4, c5⟩ := hC
  refine vX4_pair b i o x3 hb ⟨by omega, by omega⟩ ⟨by omega, by omega⟩ (gR_01 h3) σ Q ⟨by omega, fun σ1 e1 σ2 e2 σ3 e3 => ?_⟩
  have hne : ∀ k : Nat, k ≤ 5 → k ≠ 0 → b + k ≠ b := by omega
  have a5 : gI σ1 b 5 = gI σ b 5 := by rw [e1, sI_ne (by omega)]
  have a6 : gI σ2 b 6 = gI σ b 6 := by rw [e2, sI_nei (by omega), e1, sI_ne (by omega)]
  rw [a5] at e2
  rw [a6] at e3
  have F3 : frM b σ σ3 := by
    rw [e3, e2, e1]
    exact ((frM.set (by omega)).trans (frM.set (by omega))).trans (frM.set (by omega))
  have b5 : gI σ3 b 5 = gand (gI σ b 5) (gxor (gshl 1 i) (-1)) := by rw [e3, sI_nei (by omega), e2, sI_eq]
  have b6 : gI σ3 b 6 = gand (gI σ b 6) (gxor (gshl 1 o) (-1)) := by rw [e3, sI_eq]
  have b0 : gI σ3 b 0 = P := by rw [F3.2.2.1]; exact c1
  have bs : ∀ k, 1 ≤ k → k ≤ 5 → k ≠ 4 → ∀ q, gI σ3 (b + k) q = gI σ (b + k) q := fun k k1 k2 k3 q => by rw [e3, sI_ne (by omega), e2, sI_ne (by omega), e1, sI_ne (by omega)]
  have b4 : ∀ q, gI σ3 (b + 4) q = if q = o then i else gI σ (b + 4) q := fun q => by
    rw [e3, sI_ne (by omega), e2, sI_ne (by omega), e1, sI_at]
    by_cases hq : q = o
    · rw [if_pos ⟨rfl, hq⟩, if_pos hq]
    · rw [if_neg (fun z => hq z.2), if_neg hq]
  have m5 := isM_congr (isM_clear c2 i (by omega)) (q := fun k => decide (k < P) && !(X.1 k || decide (i = k))) (fun k _ _ => by cases X.1 k <;> cases decide (k < P) <;> cases decide (i = k) <;> rfl)
  have m6 := isM_congr (isM_clear c3 o (by omega)) (q := fun k => decide (k < P) && !(X.2.1 k || decide (o = k))) (fun k _ _ => by cases X.2.1 k <;> cases decide (k < P) <;> cases decide (o = k) <;> rfl)
  rcases h3 with rfl | rfl
  · refine ⟨fun _ => h σ3 ⟨b0, by rw [b5]; exact m5, by rw [b6]; exact m6, fun k k0 k1 => ?_, fun k k0 k1 => ?_⟩ F3 (bs 5 (by omega) (by omega) (by omega)), fun e => absurd rfl e⟩
    · obtain ⟨q1, q2, q3⟩ := c4 k k0 k1
      rw [bs 1 (by omega) (by omega) (by omega), bs 2 (by omega) (by omega) (by omega), b4]
      refine ⟨q1, q2, ?_⟩
      show _ = (if k = o then i else X.2.2.2.2 k)
      split
      · rfl
      · exact q3
    · rw [bs 3 (by omega) (by omega) (by omega)]; exact c5 k k0 k1
  · refine ⟨fun e => absurd e (by decide), fun _ => ?_⟩
    rw [b0]
    refine c_next i P (by omega) hP σ3 _ (fun _ σ4 e4 => ?_)
    have d0 : gI σ4 b 0 = P := by rw [e4, sI_ne (by omega)]; exact b0
    rw [d0]
    refine c_next o P (by omega) hP σ4 _ (fun _ => ⟨by omega, fun σ5 e5 => h σ5 ⟨?_, ?_, ?_, fun k k0 k1 => ?_, fun k k0 k1 => ?_⟩ ?_ (fun k => ?_)⟩)
    · rw [e5, sI_ne (by omega)]; exact d0
    · rw [e5, sI_ne (by omega), e4, sI_ne (by omega), b5]; exact m5
    · rw [e5, sI_ne (by omega), e4, sI_ne (by omega), b6]; exact m6
    · obtain ⟨q1, q2, q3⟩ := c4 k k0 k1
      refine ⟨?_, ?_, ?_⟩
      · rw [e5, sI_ne (by omega), e4, sI_at]
        show _ = (if k = o then nxt P i else X.2.2.1 k)
        by_cases hk : k = o
        · rw [if_pos ⟨rfl, hk⟩, if_pos hk]
        · rw [if_neg (fun z => hk z.2), if_neg hk, bs 1 (by omega) (by omega) (by omega)]; exact q1
      · rw [e5, sI_at]
        show _ = (if k = i then nxt P o else X.2.2.2.1 k)
        by_cases hk : k = i
        · rw [if_pos ⟨rfl, hk⟩, if_pos hk]
        · rw [if_neg (fun z => hk z.2), if_neg hk, e4, sI_ne (by omega), bs 2 (by omega) (by omega) (by omega)]; exact q2
      · rw [e5, sI_ne (by omega), e4, sI_ne (by omega), b4]
        show _ = (if k = o then i else X.2.2.2.2 k)
        split
        · rfl
        · exact q3
    · rw [e5, sI_ne (by omega), e4, sI_ne (by omega), bs 3 (by omega) (by omega) (by omega)]; exact c5 k k0 k1
    · rw [e5, e4]; exact (F3.trans (frM.set (by omega))).trans (frM.set (by omega))
    · rw [e5, sI_ne (by omega), e4, sI_ne (by omega)]; exact bs 5 (by omega) (by omega) (by omega) k
end MR
