/-- reading a text: bytes B, length L; how far from p bytes of a kind go -/
def adv (f : Int → Bool) (B : Int → Int) (L : Int) : Nat → Int → Int
  | 0, p => p
  | n + 1, p => if p < L ∧ f (B p) = true then adv f B L n (p + 1) else p
def av (f : Int → Bool) (B : Int → Int) (L p : Int) : Int := adv f B L (L - p).toNat p
theorem av_go {f : Int → Bool} {B : Int → Int} {L p : Int} (h : p < L) (k : f (B p) = true) : av f B L p = av f B L (p + 1) := by
  unfold av
  have e : (L - p).toNat = (L - (p + 1)).toNat + 1 := by omega
  rw [e]
  exact if_pos ⟨h, k⟩
theorem av_no {f : Int → Bool} {B : Int → Int} {L p : Int} (h : ¬ (p < L ∧ f (B p) = true)) : av f B L p = p := by
  unfold av
  cases (L - p).toNat with
  | zero => rfl
  | succ n => exact if_neg h
theorem av_ind {f : Int → Bool} {B : Int → Int} {L : Int} (P : Int → Prop) (go : ∀ p, p < L → f (B p) = true → P (p + 1) → P p) (no : ∀ p, ¬ (p < L ∧ f (B p) = true) → P p) : ∀ p, P p := by
  have key : ∀ n : Nat, ∀ p, (L - p).toNat ≤ n → P p := by
    intro n
    induction n with
    | zero => intro p hp; exact no p (fun q => by omega)
    | succ n ih =>
      intro p hp
      by_cases h : p < L ∧ f (B p) = true
      · exact go p h.1 h.2 (ih (p + 1) (by omega))
      · exact no p h
  exact fun p => key _ p (Nat.le_refl _)
theorem av_ge {f : Int → Bool} {B : Int → Int} {L : Int} (p : Int) : p ≤ av f B L p := by
  refine av_ind (f := f) (B := B) (L := L) (fun p => p ≤ av f B L p) ?_ ?_ p
  · intro p h k ih; rw [av_go h k]; omega
  · intro p h; rw [av_no h]; omega
theorem av_le {f : Int → Bool} {B : Int → Int} {L : Int} (p : Int) (hp : p ≤ L) : av f B L p ≤ L := by
  revert hp
  refine av_ind (f := f) (B := B) (L := L) (fun p => p ≤ L → av f B L p ≤ L) ?_ ?_ p
  · intro p h k ih _; rw [av_go h k]; exact ih (by omega)
  · intro p h hp; rw [av_no h]; exact hp
theorem av_at {f : Int → Bool} {B : Int → Int} {L : Int} (p : Int) : ¬ (av f B L p < L ∧ f (B (av f B L p)) = true) := by
  refine av_ind (f := f) (B := B) (L := L) (fun p => ¬ (av f B L p < L ∧ f (B (av f B L p)) = true)) ?_ ?_ p
  · intro p h k ih; rw [av_go h k]; exact ih
  · intro p h; rw [av_no h]; exact h
theorem av_all {f : Int → Bool} {B : Int → Int} {L : Int} (p j : Int) (h0 : p ≤ j) (h1 : j < av f B L p) : f (B j) = true := by
  revert h0 h1
  refine av_ind (f := f) (B := B) (L := L) (fun p => p ≤ j → j < av f B L p → f (B j) = true) ?_ ?_ p
  · intro p h k ih h0 h1
    rw [av_go h k] at h1
    by_cases e : j = p
    · rw [e]; exact k
    · exact ih (by omega) h1
  · intro p h h0 h1; rw [av_no h] at h1; omega
def bk (x : Int) : Bool := decide (x = 10 ∨ x = 32)
def lt (x : Int) : Bool := decide (97 ≤ x ∧ x ≤ 122)
def dgt (x : Int) : Bool := decide (48 ≤ x ∧ x ≤ 57)
theorem bk_t {x : Int} : bk x = true ↔ (x = 10 ∨ x = 32) := by unfold bk; exact decide_eq_true_iff
theorem lt_t {x : Int} : lt x = true ↔ (97 ≤ x ∧ x ≤ 122) := by unfold lt; exact decide_eq_true_iff
theorem dgt_t {x : Int} : dgt x = true ↔ (48 ≤ x ∧ x ≤ 57) := by unfold dgt; exact decide_eq_true_iff
def tS (B : Int → Int) (L p : Int) : Int := av bk B L p
/-- the end of the sign at s -/
def eE (B : Int → Int) (L s : Int) : Int := if s < L then (if lt (B s) = true then av lt B L s else if dgt (B s) = true then av dgt B L s else s + 1) else s
def eK (B : Int → Int) (L s : Int) : Int := if s < L then (if lt (B s) = true then 1 else if dgt (B s) = true then (if 2 < eE B L s - s then 4 else 2) else if B s = 59 then 3 else 4) else 0
def dN (B : Int → Int) (s e : Int) : Int := if e = s then 0 else if e = s + 1 then B s - 48 else 10 * (B s - 48) + (B (s + 1) - 48)
def tE (B : Int → Int) (L p : Int) : Int := eE B L (tS B L p)
def tK (B : Int → Int) (L p : Int) : Int := eK B L (tS B L p)
def tN (B : Int → Int) (L p : Int) : Int := dN B (tS B L p) (tE B L p)
theorem tS_ge {B : Int → Int} {L : Int} (p : Int) : p ≤ tS B L p := av_ge p
theorem tS_le {B : Int → Int} {L : Int} (p : Int) (h : p ≤ L) : tS B L p ≤ L := av_le p h
theorem tS_at {B : Int → Int} {L : Int} (p : Int) (h : tS B L p < L) : ¬ (B (tS B L p) = 10 ∨ B (tS B L p) = 32) := fun q => av_at (f := bk) p ⟨h, bk_t.2 q⟩
theorem eE_le {B : Int → Int} {L : Int} (s : Int) (h : s ≤ L) : eE B L s ≤ L := by
  unfold eE
  split
  · split
    · exact av_le s h
    · split
      · exact av_le s h
      · omega
  · exact h
theorem eE_gt {B : Int → Int} {L : Int} (s : Int) (h : s < L) : s < eE B L s := by
  unfold eE
  rw [if_pos h]
  split
  · rename_i k
    rw [av_go h k]; have := av_ge (f := lt) (B := B) (L := L) (s + 1); omega
  · split
    · rename_i k
      rw [av_go h k]; have := av_ge (f := dgt) (B := B) (L := L) (s + 1); omega
    · omega
theorem tE_le {B : Int → Int} {L : Int} (p : Int) (h : p ≤ L) : tE B L p ≤ L := eE_le _ (tS_le p h)
theorem tE_ge {B : Int → Int} {L : Int} (p : Int) : tS B L p ≤ tE B L p := by
  unfold tE
  by_cases h : tS B L p < L
  · have := eE_gt (B := B) (L := L) _ h; omega
  · unfold eE; rw [if_neg h]; omega
theorem tK_0 {B : Int → Int} {L : Int} (p : Int) : tK B L p = 0 ↔ ¬ tS B L p < L := by
  unfold tK eK
  split
  · rename_i h
    constructor
    · intro e
      exfalso
      revert e
      split
      · decide
      · split
        · split <;> decide
        · split <;> decide
    · intro e; exact absurd h e
  · rename_i h; exact ⟨fun _ => h, fun _ => rfl⟩
theorem tE_gt {B : Int → Int} {L : Int} (p : Int) (h : ¬ tK B L p = 0) : tS B L p < tE B L p := by
  have h1 : tS B L p < L := Decidable.byContradiction (fun q => h ((tK_0 p).2 q))
  exact eE_gt _ h1
/-- codes of words -/
def cd (B : Int → Int) (s : Int) : Nat → Int
  | 0 => 0
  | n + 1 => 32 * cd B s n + (B (s + n) - 96)
def wdc (c : Int) : Int :=
  if c = 17287827 then 1 else if c = 620411027 then 2 else if c = 4375176 then 3 else if c = 17693102258 then 4 else if c = 635380 then 5 else if c = 299397 then 6 else if c = 103820 then 7 else if c = 6190 then 8 else if c = 2804340 then 9 else if c = 13684840 then 10 else if c = 1574484 then 11 else 99
/-- the word of the sign at s (1 .. 11), or 99 -/
def eW (B : Int → Int) (L s : Int) : Int := if eE B L s - s ≤ 8 then wdc (cd B s (eE B L s - s).toNat) else 99
def tW (B : Int → Int) (L p : Int) : Int := eW B L (tS B L p)
theorem wdc_r (c : Int) : (1 ≤ wdc c ∧ wdc c ≤ 11) ∨ wdc c = 99 := by
  unfold wdc
  repeat (first | decide | split)
theorem tW_r (B : Int → Int) (L p : Int) : (1 ≤ tW B L p ∧ tW B L p ≤ 11) ∨ tW B L p = 99 := by
  unfold tW eW
  split
  · exact wdc_r _
  · exact Or.inr rfl
section MT
variable {l : Launch} {G : gG}
theorem c_isLetter (x : Int) (r : gR x) (σ : gS) (Q : Int → gS → Prop) (h : ∀ v, (v = 0 → ¬ lt x = true) ∧ (¬ v = 0 → lt x = true) → Q v σ) : eX7_isLetter l G x σ Q := by
  refine vX7_isLetter x r σ Q (fun v hv => h v ?_)
  rw [lt_t, hv]
  split
  · omega
  · split <;> omega
theorem c_isDigit (x : Int) (r : gR x) (σ : gS) (Q : Int → gS → Prop) (h : ∀ v, (v = 0 → ¬ dgt x = true) ∧ (¬ v = 0 → dgt x = true) → Q v σ) : eX7_isDigit l G x σ Q := by
  refine vX7_isDigit x r σ Q (fun v hv => h v ?_)
  rw [dgt_t, hv]
  split
  · omega
  · split <;> omega
/-- the class' reader: tape and length -/
def tA (B : Int → Int) (L : Int) (σ : gS) : Prop := (∀ i, gI σ 2 i = B i) ∧ σ.2.2 = 2 ∧ gI σ 27 7 = L ∧ 0 ≤ L ∧ L ≤ 600 ∧ ∀ i, 0 ≤ i → i < 600 → -128 ≤ B i ∧ B i < 128
/-- only the reader's place has changed -/
def fP (σ τ : gS) : Prop := (∀ c i, ¬ (c = 27 ∧ 8 ≤ i ∧ i ≤ 11) → gI τ c i = gI σ c i) ∧ τ.2 = σ.2
theorem fP.rfl' {σ : gS} : fP σ σ := ⟨fun _ _ _ => rfl, rfl⟩
theorem fP.trans {σ τ υ : gS} (h : fP σ τ) (k : fP τ υ) : fP σ υ := ⟨fun c i q => (k.1 c i q).trans (h.1 c i q), k.2.trans h.2⟩
theorem fP.set {σ : gS} {i v : Int} (h : 8 ≤ i ∧ i ≤ 11) : fP σ (sI σ 27 i v) := ⟨fun c j q => by rw [sI_at, if_neg (by omega)], rfl⟩
theorem tA.keep {B : Int → Int} {L : Int} {σ τ : gS} (h : fP σ τ) (k : tA B L σ) : tA B L τ :=
  ⟨fun i => (h.1 _ _ (by omega)).trans (k.1 i), by rw [h.2]; exact k.2.1, (h.1 _ _ (by omega)).trans k.2.2.1, k.2.2.2⟩
theorem c_takeWord (B : Int → Int) (L s : Int) (hs : 0 ≤ s ∧ s ≤ L) (σ : gS) (hA : tA B L σ) (h8 : gI σ 27 8 = s) (Q : gS → Prop)
    (h : ∀ τ, fP σ τ → gI τ 27 8 = av lt B L s → gI τ 27 9 = 1 → gI τ 27 10 = gI σ 27 10 → Q τ) : eX7_takeWord l G σ Q := by
  refine vX7_takeWord σ Q (fun σ1 e1 => ?_)
  have A1 : fP σ σ1 := by rw [e1]; exact fP.set (by omega)
  have key : ∀ q : Int, ∀ τ : gS, 0 ≤ q → q ≤ L → fP σ τ → gI τ 27 8 = q → gI τ 27 9 = 1 → gI τ 27 10 = gI σ 27 10 → av lt B L q = av lt B L s → kX7_takeWord_5 l G τ Q := by
    refine av_ind (f := lt) (B := B) (L := L) _ ?_ ?_
    · intro q h1 h2 ih τ q0 q1 f1 f2 f3 f4 f5
      have a := tA.keep f1 hA
      have bq := hA.2.2.2.2.2 q q0 (by have := hA.2.2.2.2.1; omega)
      refine vX7_takeWord_5 τ Q ⟨fun g => absurd g (by rw [f2, a.2.2.1]; omega), fun g => ⟨a.2.1, by rw [f2]; have := hA.2.2.2.2.1; omega, ?_⟩⟩
      rw [f2, a.1 q]
      refine c_isLetter _ ⟨by omega, by omega⟩ τ _ (fun v hv _ => ⟨fun z => absurd h2 (hv.1 z), fun _ => ⟨by rw [f2]; have := hA.2.2.2.2.1; exact ⟨by omega, by omega⟩, fun τ1 e => ?_⟩⟩)
      rw [f2] at e
      refine ih τ1 (by omega) (by omega) (fP.trans f1 (by rw [e]; exact fP.set (by omega))) (by rw [e, sI_eq]) (by rw [e, sI_nei (by omega)]; exact f3) (by rw [e, sI_nei (by omega)]; exact f4) ?_
      rw [← f5, av_go h1 h2]
    · intro q h1 τ q0 q1 f1 f2 f3 f4 f5
      have a := tA.keep f1 hA
      rw [av_no h1] at f5
      refine vX7_takeWord_5 τ Q ⟨fun g => h τ f1 (by rw [f2, f5]) f3 f4, fun g => ⟨a.2.1, by rw [f2]; have := hA.2.2.2.2.1; rw [f2, a.2.2.1] at g; omega, ?_⟩⟩
      rw [f2, a.2.2.1] at g
      have bq := hA.2.2.2.2.2 q q0 (by have := hA.2.2.2.2.1; omega)
      rw [f2, a.1 q]
      refine c_isLetter _ ⟨by omega, by omega⟩ τ _ (fun v hv _ => ⟨fun z => h τ f1 (by rw [f2, f5]) f3 f4, fun z => ?_⟩)
      have : lt (B q) = true := hv.2 z
      exact absurd ⟨g, this⟩ h1
  refine key s σ1 hs.1 hs.2 A1 (by rw [e1, sI_nei (by omega)]; exact h8) (by rw [e1, sI_eq]) (by rw [e1, sI_nei (by omega)]) rfl
theorem c_takeDigits (B : Int → Int) (L s : Int) (hs : 0 ≤ s ∧ s ≤ L) (σ : gS) (hA : tA B L σ) (h8 : gI σ 27 8 = s) (h10 : gI σ 27 10 = s) (Q : gS → Prop)
    (h : ∀ τ, fP σ τ → gI τ 27 8 = av dgt B L s → gI τ 27 9 = (if 2 < av dgt B L s - s then 4 else 2) → gI τ 27 10 = s → gI τ 27 11 = dN B s (av dgt B L s) → Q τ) : eX7_takeDigits l G σ Q := by
  refine vX7_takeDigits σ Q (fun σ1 e1 => ?_)
  have A1 : fP σ σ1 := by rw [e1]; exact fP.set (by omega)
  have hL := hA.2.2.2.2.1
  have key : ∀ q : Int, ∀ τ : gS, s ≤ q → q ≤ L → (∀ j, s ≤ j → j < q → dgt (B j) = true) → fP σ τ → gI τ 27 8 = q → gI τ 27 11 = dN B s q → gI τ 27 10 = s → av dgt B L q = av dgt B L s → kX7_takeDigits_5 l G τ Q := by
    refine av_ind (f := dgt) (B := B) (L := L) _ ?_ ?_
    · intro q h1 h2 ih τ q0 q1 f0 f1 f2 f3 f4 f5
      have a := tA.keep f1 hA
      have bq := hA.2.2.2.2.2 q (by omega) (by omega)
      have dq := dgt_t.1 h2
      refine vX7_takeDigits_5 τ Q ⟨fun g => absurd g (by rw [f2, a.2.2.1]; omega), fun g => ⟨a.2.1, by rw [f2]; omega, ?_⟩⟩
      rw [f2, a.1 q]
      have fw : ∀ j, s ≤ j → j < q + 1 → dgt (B j) = true := by
        intro j j0 j1
        by_cases e : j = q
        · rw [e]; exact h2
        · exact f0 j j0 (by omega)
      refine c_isDigit _ ⟨by omega, by omega⟩ τ _ (fun v hv _ => ⟨fun z => absurd h2 (hv.1 z), fun _ => ⟨by rw [f2, f4]; exact ⟨by omega, by omega⟩, fun g2 => ⟨by rw [f2]; exact ⟨by omega, by omega⟩, fun τ1 e => ?_⟩, fun g2 => ⟨a.2.1, by rw [f2]; omega, ?_⟩⟩⟩)
      · rw [f2, f4] at g2
        rw [f2] at e
        refine ih τ1 (by omega) (by omega) fw (fP.trans f1 (by rw [e]; exact fP.set (by omega))) (by rw [e, sI_eq]) ?_ (by rw [e, sI_nei (by omega)]; exact f4) ?_
        · rw [e, sI_nei (by omega), f3]
          unfold dN
          rw [if_neg (by omega), if_neg (by omega), if_neg (by omega), if_neg (by omega)]
        · rw [← f5, av_go h1 h2]
      · rw [f2, f4] at g2
        rw [f2, a.1 q, f3]
        have dd : dN B s q * 10 + B q - 48 = dN B s (q + 1) ∧ 0 ≤ dN B s q ∧ dN B s q ≤ 99 := by
          unfold dN
          by_cases e : q = s
          · rw [if_pos e, if_neg (by omega), if_pos (by omega), e]; omega
          · have e2 : q = s + 1 := by omega
            have d1 := dgt_t.1 (f0 s (by omega) (by omega))
            rw [if_neg e, if_pos e2, if_neg (by omega), if_neg (by omega), e2]; omega
        refine ⟨⟨by omega, by omega⟩, fun τ1 e => ?_⟩
        have k8 : gI τ1 27 8 = q := by rw [e, sI_nei (by omega)]; exact f2
        rw [k8]
        refine ⟨⟨by omega, by omega⟩, fun τ2 e' => ?_⟩
        refine ih τ2 (by omega) (by omega) fw (fP.trans (fP.trans f1 (τ := τ) (υ := τ1) (by rw [e]; exact fP.set (by omega))) (by rw [e']; exact fP.set (by omega))) (by rw [e', sI_eq]) ?_ ?_ ?_
        · rw [e', sI_nei (by omega), e, sI_eq]; exact dd.1
        · rw [e', sI_nei (by omega), e, sI_nei (by omega)]; exact f4
        · rw [← f5, av_go h1 h2]
    · intro q h1 τ q0 q1 f0 f1 f2 f3 f4 f5
      have a := tA.keep f1 hA
      rw [av_no h1] at f5
      have fin : ∀ τ1 : gS, ∀ v : Int, v = (if 2 < (gI τ 27 8) - (gI τ 27 10) then 4 else 2) → τ1 = sI τ 27 9 v → Q τ1 := by
        intro τ1 v hv e
        rw [f2, f4, f5] at hv
        refine h τ1 (fP.trans f1 (by rw [e]; exact fP.set (by omega))) (by rw [e, sI_nei (by omega), f2, f5]) (by rw [e, sI_eq, hv]) (by rw [e, sI_nei (by omega)]; exact f4) (by rw [e, sI_nei (by omega), f3, f5])
      refine vX7_takeDigits_5 τ Q ⟨fun g => ⟨⟨by rw [f2, f4]; exact ⟨by omega, by omega⟩, fun _ => True.intro, fun _ => True.intro⟩, fun v hv τ1 e => fin τ1 v hv e⟩, fun g => ⟨a.2.1, by rw [f2]; rw [f2, a.2.2.1] at g; omega, ?_⟩⟩
      rw [f2, a.2.2.1] at g
      have bq := hA.2.2.2.2.2 q (by omega) (by omega)
      rw [f2, a.1 q]
      refine c_isDigit _ ⟨by omega, by omega⟩ τ _ (fun v hv _ => ⟨fun z => ?_, fun z => ?_⟩)
      · refine ⟨⟨by rw [f2, f4]; exact ⟨by omega, by omega⟩, fun _ => True.intro, fun _ => True.intro⟩, fun v hv τ1 e => fin τ1 v (by rw [f2] at *; exact hv) e⟩
      · have : dgt (B q) = true := hv.2 z
        exact absurd ⟨g, this⟩ h1
  refine key s σ1 (by omega) hs.2 (fun j j0 j1 => by omega) A1 (by rw [e1, sI_nei (by omega)]; exact h8) (by rw [e1, sI_eq]; unfold dN; rw [if_pos rfl]) (by rw [e1, sI_nei (by omega)]; exact h10) rfl
/-- the class' reader has the sign from p on -/
def tC (B : Int → Int) (L p : Int) (σ : gS) : Prop := gI σ 27 8 = tE B L p ∧ gI σ 27 9 = tK B L p ∧ gI σ 27 10 = tS B L p ∧ (tK B L p = 2 → gI σ 27 11 = tN B L p)
theorem c_nextToken (B : Int → Int) (L p : Int) (hp : 0 ≤ p ∧ p ≤ L) (σ : gS) (hA : tA B L σ) (h8 : gI σ 27 8 = p) (Q : gS → Prop)
    (h : ∀ τ, fP σ τ → tC B L p τ → Q τ) : eX7_nextToken l G σ Q := by
  refine vX7_nextToken σ Q ?_
  have hL := hA.2.2.2.2.1
  have key : ∀ q : Int, ∀ τ : gS, 0 ≤ q → q ≤ L → fP σ τ → gI τ 27 8 = q → tS B L q = tS B L p → kX7_nextToken_0 l G τ Q := by
    refine av_ind (f := bk) (B := B) (L := L) _ ?_ ?_
    · intro q h1 h2 ih τ q0 q1 f1 f2 f5
      have a := tA.keep f1 hA
      have go : ∀ τ1 : gS, τ1 = sI τ 27 8 (gI τ 27 8 + 1) → kX7_nextToken_0 l G τ1 Q := by
        intro τ1 e
        rw [f2] at e
        refine ih τ1 (by omega) (by omega) (fP.trans f1 (by rw [e]; exact fP.set (by omega))) (by rw [e, sI_eq]) ?_
        rw [← f5]; unfold tS; rw [av_go h1 h2]
      refine vX7_nextToken_0 τ Q ⟨fun g => absurd g (by rw [f2, a.2.2.1]; omega), fun g => ⟨a.2.1, by rw [f2]; omega, ?_⟩⟩
      rw [f2, a.1 q]
      refine ⟨fun _ => ⟨⟨by omega, by omega⟩, fun τ1 e => go τ1 (by rw [f2]; exact e)⟩, fun z => ⟨fun z2 => absurd (bk_t.1 h2) (by omega), fun _ => ⟨⟨by omega, by omega⟩, fun τ1 e => go τ1 (by rw [f2]; exact e)⟩⟩⟩
    · intro q h1 τ q0 q1 f1 f2 f5
      have a := tA.keep f1 hA
      have es : tS B L p = q := by rw [← f5]; unfold tS; rw [av_no h1]
      refine vX7_nextToken_0 τ Q ⟨fun g τ1 e => ?_, fun g => ⟨a.2.1, by rw [f2]; rw [f2, a.2.2.1] at g; omega, ?_⟩⟩
      · rw [f2] at e
        have k1 : fP σ τ1 := fP.trans f1 (by rw [e]; exact fP.set (by omega))
        have b := tA.keep k1 hA
        have k8 : gI τ1 27 8 = q := by rw [e, sI_nei (by omega)]; exact f2
        rw [f2, a.2.2.1] at g
        refine ⟨fun z => absurd z (by rw [k8, b.2.2.1]; omega), fun _ τ2 e2 => h τ2 (fP.trans k1 (by rw [e2]; exact fP.set (by omega))) ?_⟩
        have h0 : tK B L p = 0 := (tK_0 p).2 (by omega)
        refine ⟨?_, ?_, ?_, fun z => absurd z (by omega)⟩
        · rw [e2, sI_nei (by omega), k8]; unfold tE eE; rw [es, if_neg (by omega)]
        · rw [e2, sI_eq, h0]
        · rw [e2, sI_nei (by omega), e, sI_eq, es]
      · rw [f2, a.2.2.1] at g
        have bq := hA.2.2.2.2.2 q (by omega) (by omega)
        rw [f2, a.1 q]
        have nb : ¬ (B q = 10 ∨ B q = 32) := fun z => h1 ⟨g, bk_t.2 z⟩
        refine ⟨fun z => absurd z (by omega), fun _ => ⟨fun _ τ1 e => ?_, fun z => absurd z (by omega)⟩⟩
        have k1 : fP σ τ1 := fP.trans f1 (by rw [e]; exact fP.set (by omega))
        have b := tA.keep k1 hA
        have k8 : gI τ1 27 8 = q := by rw [e, sI_nei (by omega)]; exact f2
        have k10 : gI τ1 27 10 = q := by rw [e, sI_eq]
        refine ⟨fun _ => ⟨by rw [k8]; omega, ?_⟩, fun z => absurd z (by rw [k8, b.2.2.1]; omega)⟩
        rw [k8, b.1 q]
        refine c_isLetter _ ⟨by omega, by omega⟩ τ1 _ (fun v hv _ => ⟨fun z => ⟨b.2.1, by rw [k8]; omega, ?_⟩, fun z => ?_⟩)
        · rw [k8, b.1 q]
          have nl : ¬ lt (B q) = true := hv.1 z
          refine c_isDigit _ ⟨by omega, by omega⟩ τ1 _ (fun v' hv' _ => ⟨fun z => ⟨b.2.1, by rw [k8]; omega, fun v hv τ2 e2 => ?_⟩, fun z => ?_⟩)
          · have nd : ¬ dgt (B q) = true := hv'.1 z
            rw [k8, b.1 q] at hv
            have m8 : gI τ2 27 8 = q := by rw [e2, sI_nei (by omega)]; exact k8
            rw [m8]
            refine ⟨⟨by omega, by omega⟩, fun τ3 e3 => h τ3 (fP.trans (fP.trans k1 (υ := τ2) (by rw [e2]; exact fP.set (by omega))) (by rw [e3]; exact fP.set (by omega))) ?_⟩
            have hK : tK B L p = v := by unfold tK eK; rw [es, if_pos g, if_neg nl, if_neg nd, hv]
            have hE : tE B L p = q + 1 := by unfold tE eE; rw [es, if_pos g, if_neg nl, if_neg nd]
            refine ⟨?_, ?_, ?_, fun z => ?_⟩
            · rw [e3, sI_eq, hE]
            · rw [e3, sI_nei (by omega), e2, sI_eq, hK]
            · rw [e3, sI_nei (by omega), e2, sI_nei (by omega), k10, es]
            · rw [hK, hv] at z
              revert z
              split <;> intro z <;> exact absurd z (by decide)
          · have yd : dgt (B q) = true := hv'.2 z
            refine c_takeDigits B L q ⟨q0, q1⟩ τ1 b k8 k10 _ (fun τ2 w1 w2 w3 w4 w5 => h τ2 (fP.trans k1 w1) ?_)
            have hE : tE B L p = av dgt B L q := by unfold tE eE; rw [es, if_pos g, if_neg nl, if_pos yd]
            have hK : tK B L p = (if 2 < av dgt B L q - q then 4 else 2) := by
              rw [← hE]; unfold tK eK; rw [es, if_pos g, if_neg nl, if_pos yd]; unfold tE; rw [es]
            exact ⟨by rw [w2, hE], by rw [w3, hK], by rw [w4, es], fun _ => by unfold tN; rw [w5, es, hE]⟩
        · have yl : lt (B q) = true := hv.2 z
          refine c_takeWord B L q ⟨q0, q1⟩ τ1 b k8 _ (fun τ2 w1 w2 w3 w4 => h τ2 (fP.trans k1 w1) ?_)
          have hE : tE B L p = av lt B L q := by unfold tE eE; rw [es, if_pos g, if_pos yl]
          have hK : tK B L p = 1 := by unfold tK eK; rw [es, if_pos g, if_pos yl]
          exact ⟨by rw [w2, hE], by rw [w3, hK], by rw [w4, k10, es], fun z => absurd z (by rw [hK]; decide)⟩
  exact key p σ hp.1 hp.2 fP.rfl' h8 rfl
end MT
