section MT8
variable {l : Launch} {G : gG}
/-- what the class' reader may change -/
def fCr (σ τ : gS) : Prop := (∀ c i, c < 27 ∨ 30 < c → gI τ c i = gI σ c i) ∧ τ.2 = σ.2
theorem fCr.rfl' {σ : gS} : fCr σ σ := ⟨fun _ _ _ => rfl, rfl⟩
theorem fCr.trans {σ τ υ : gS} (h : fCr σ τ) (k : fCr τ υ) : fCr σ υ := ⟨fun c i q => (k.1 c i q).trans (h.1 c i q), k.2.trans h.2⟩
theorem fCr.ofP {σ τ : gS} (h : fP σ τ) : fCr σ τ := ⟨fun c i q => h.1 c i (by omega), h.2⟩
theorem fCr.set {σ τ : gS} {c : Nat} {i v : Int} (e : τ = sI σ c i v) (h : 27 ≤ c ∧ c ≤ 30) : fCr σ τ := ⟨fun c' j q => by rw [e, sI_at, if_neg (by omega)], by rw [e]; rfl⟩
theorem tA.keepC {B : Int → Int} {L : Int} {σ τ : gS} (h : fCr σ τ) (h7 : gI τ 27 7 = gI σ 27 7) (k : tA B L σ) : tA B L τ :=
  ⟨fun i => (h.1 _ _ (by omega)).trans (k.1 i), by rw [h.2]; exact k.2.1, h7.trans k.2.2.1, k.2.2.2⟩
theorem tC.keep {B : Int → Int} {L p : Int} {σ τ : gS} (h : ∀ i, 8 ≤ i → i ≤ 11 → gI τ 27 i = gI σ 27 i) (k : tC B L p σ) : tC B L p τ := by
  unfold tC at *
  rw [h 8 (by omega) (by omega), h 9 (by omega) (by omega), h 10 (by omega) (by omega), h 11 (by omega) (by omega)]
  exact k
/-- the class' word: what wordHere answers -/
def cW (B : Int → Int) (L x p : Int) (v : Int) : Prop := (inS B L x p → v = tW B L p - 1) ∧ (¬ inS B L x p → v = -1)
def wHere (l : Launch) (G : gG) : Prop := ∀ (B : Int → Int) (L x p : Int) (σ : gS) (Q : Int → gS → Prop), (x = 0 ∨ x = 1 ∨ x = 2) → (0 ≤ p ∧ p ≤ L) → tA B L σ → tC B L p σ → (∀ v, cW B L x p v → Q v σ) → eX7_wordHere l G x σ Q
def CWr (x c : Int) (V : Int → Int → Int) (σ : gS) : Prop :=
  (x = 0 → ∀ w, 0 ≤ w → w < 4 → gI σ 28 w = V 0 w) ∧ (¬ x = 0 → ∀ i w, 0 ≤ i → i < c → 0 ≤ w → w < 4 → gI σ 29 (i * 4 + w) = V i w)
def CSt (B : Int → Int) (L x : Int) (σ0 : gS) (p c k f : Int) (V : Int → Int → Int) (σ : gS) : Prop :=
  fCr σ0 σ ∧ tA B L σ ∧ tC B L p σ ∧ (gI σ 27 2 = c ∧ gI σ 27 3 = k ∧ gI σ 27 4 = f) ∧ (0 ≤ p ∧ p ≤ L) ∧ (0 ≤ c ∧ c ≤ liM x ∧ (x = 0 → c = 0)) ∧ CWr x c V σ
theorem c_noText (σ : gS) (Q : Int → gS → Prop) (h : ∀ τ, fCr σ τ → gI τ 27 3 = 1 → gI τ 27 4 = gI σ 27 10 → Q 0 τ) : eX7_noTextGoesOn l G σ Q := by
  refine vX7_noTextGoesOn σ Q (fun σ1 e1 σ2 e2 => h σ2 (fCr.trans (fCr.set e1 (by omega)) (fCr.set e2 (by omega))) ?_ ?_)
  · rw [e2, sI_nei (by decide), e1, sI_eq]
  · rw [e2, sI_eq, e1, sI_nei (by decide)]
theorem c_noteFault (k : Int) (rk : gR k) (σ : gS) (Q : gS → Prop)
    (h : ∀ τ, fCr σ τ → (∀ c i, ¬ (c = 27 ∧ (i = 3 ∨ i = 4)) → gI τ c i = gI σ c i) → gI τ 27 3 = (if ¬ gI σ 27 3 = 0 then gI σ 27 3 else k) → gI τ 27 4 = (if ¬ gI σ 27 3 = 0 then gI σ 27 4 else gI σ 27 10) → Q τ) : eX7_noteFault l G k σ Q := by
  refine vX7_noteFault k rk σ Q ⟨fun z => h σ fCr.rfl' (fun _ _ _ => rfl) (by rw [if_pos z]) (by rw [if_pos z]), fun z σ1 e1 σ2 e2 => h σ2 (fCr.trans (fCr.set e1 (by omega)) (fCr.set e2 (by omega))) ?_ ?_ ?_⟩
  · intro c i n; rw [e2, sI_at, if_neg (by omega), e1, sI_at, if_neg (by omega)]
  · rw [e2, sI_nei (by decide), e1, sI_eq, if_neg (fun n => n z)]
  · rw [e2, sI_eq, e1, sI_nei (by decide), if_neg (fun n => n z)]
theorem c_limitOf (x : Int) (rx : gR x) (hx : x = 0 ∨ x = 1 ∨ x = 2) (σ : gS) (Q : Int → gS → Prop) (h : Q (liM x) σ) : eX7_limitOf l G x σ Q := by
  unfold liM at h
  refine vX7_limitOf x rx σ Q ⟨fun n v hv => ?_, fun e => ?_⟩
  · rw [if_neg n] at h; rw [hv]; exact h
  · rw [if_pos e] at h; exact h
theorem c_takeNumber (B : Int → Int) (L q : Int) (w j lo hi : Int) (hw : 0 ≤ w ∧ w ≤ 10) (hj : 0 ≤ j ∧ j < 3) (elo : gst 2 (w * 3 + j) = lo) (ehi : gst 3 (w * 3 + j) = hi) (hr : gR lo ∧ gR hi) (σ : gS) (hC : tC B L q σ) (hK : tK B L q = 2) (Q : gS → Prop)
    (h : ∀ τ, fCr σ τ → (∀ c i, ¬ (c = 27 ∧ (i = 3 ∨ i = 4)) → ¬ (c = 30 ∧ i = j) → gI τ c i = gI σ c i) → gI τ 30 j = tN B L q →
      gI τ 27 3 = (if ¬ gI σ 27 3 = 0 then gI σ 27 3 else if tN B L q < lo ∨ hi < tN B L q then 2 else 0) → gI τ 27 4 = (if ¬ gI σ 27 3 = 0 then gI σ 27 4 else if tN B L q < lo ∨ hi < tN B L q then tS B L q else gI σ 27 4) → Q τ) : eX7_takeNumber l G w j σ Q := by
  have n11 := hC.2.2.2 hK
  have no : (tN B L q < lo ∨ hi < tN B L q) → eX7_noteFault l G 2 σ (fun σ5 => (0 ≤ j ∧ j < 3) ∧ ∀ σ9, σ9 = sI σ5 30 j (gI σ5 27 11) → Q σ9) := by
    intro g
    refine c_noteFault 2 (by decide) σ _ (fun τ t1 t2 t3 t4 => ⟨hj, fun τ1 e => ?_⟩)
    have m11 : gI τ 27 11 = tN B L q := (t2 _ _ (by omega)).trans n11
    rw [m11] at e
    refine h τ1 (fCr.trans t1 (fCr.set e (by omega))) ?_ (by rw [e, sI_eq]) ?_ ?_
    · intro c i q1 q2; rw [e, sI_at, if_neg (by omega), t2 c i q1]
    · rw [e, sI_ne (by decide), t3, if_pos g]
    · rw [e, sI_ne (by decide), t4, if_pos g, hC.2.2.1]
  have ye : ¬ (tN B L q < lo ∨ hi < tN B L q) → ∀ τ1, τ1 = sI σ 30 j (gI σ 27 11) → Q τ1 := by
    intro g τ1 e
    rw [n11] at e
    refine h τ1 (fCr.set e (by omega)) ?_ (by rw [e, sI_eq]) ?_ ?_
    · intro c i q1 q2; rw [e, sI_at, if_neg (by omega)]
    · rw [e, sI_ne (by decide), if_neg g]
      by_cases z : gI σ 27 3 = 0
      · rw [if_neg (fun n => n z)]; exact z
      · rw [if_pos z]
    · rw [e, sI_ne (by decide), if_neg g]
      split <;> rfl
  refine vX7_takeNumber w j ⟨by omega, by omega⟩ ⟨by omega, by omega⟩ σ Q ⟨by omega, ?_⟩
  rw [elo, ehi, n11]
  refine ⟨hr.1, fun g => no (Or.inl g), fun g => ⟨hr.2, fun g2 => ⟨hj, fun τ1 e => ye (by omega) τ1 (by rw [n11]; exact e)⟩, fun g2 => no (Or.inr g2)⟩⟩
/-- the numbers of a word, as the class' tables have them -/
def tabW (w : Int) : Int → List (Int × Int) → Prop
  | j, [] => gst 1 w ≤ j
  | j, r :: rs => j < gst 1 w ∧ gst 2 (w * 3 + j) = r.1 ∧ gst 3 (w * 3 + j) = r.2 ∧ (gR r.1 ∧ gR r.2) ∧ tabW w (j + 1) rs
theorem c_keepLine (x w c : Int) (hx : x = 0 ∨ x = 1 ∨ x = 2) (hw : loW x ≤ w + 1 ∧ w + 1 ≤ hiW x) (σ : gS) (hc : gI σ 27 2 = c ∧ 0 ≤ c ∧ c ≤ liM x) (Q : gS → Prop)
    (h : ∀ τ, fCr σ τ → (∀ i, ¬ i = 2 → gI τ 27 i = gI σ 27 i) → gI τ 27 2 = c1 x c → (x = 0 → ∀ j, gI τ 28 j = if j = w then gI σ 30 0 else gI σ 28 j) →
      (¬ x = 0 → ∀ i j, 0 ≤ i → i < c1 x c → 0 ≤ j → j < 4 → gI τ 29 (i * 4 + j) = if i = c ∧ c < liM x then (if j = 0 then (if x = 1 then w - 4 else 10 - w) else gI σ 30 (j - 1)) else gI σ 29 (i * 4 + j)) → Q τ) : eX7_keepLine l G x w σ Q := by
  have rx : gR x := by rcases hx with e | e | e <;> rw [e] <;> decide
  have bw : 0 ≤ w ∧ w ≤ 10 ∧ (x = 0 → w < 4) := by
    
    rcases hx with e | e | e <;> subst e
    · have h9 : (1 : Int) ≤ w + 1 ∧ w + 1 ≤ 4 := hw
      omega
    · have h9 : (5 : Int) ≤ w + 1 ∧ w + 1 ≤ 9 := hw
      omega
    · have h9 : (10 : Int) ≤ w + 1 ∧ w + 1 ≤ 11 := hw
      omega
  have bl : liM x ≤ 600 ∧ (¬ x = 0 → liM x ≤ 40) := by
    unfold liM
    rcases hx with e | e | e <;> subst e <;> decide
  refine vX7_keepLine x w rx ⟨by omega, by omega⟩ σ Q ⟨fun n => c_limitOf x rx hx σ _ (fun _ => ?_), fun e => ⟨⟨by omega, bw.2.2 e⟩, fun τ et => ?_⟩⟩
  · rw [hc.1]
    have e1 : c1 x c = if c < liM x then c + 1 else c := by unfold c1; rw [if_neg n]
    refine ⟨fun g => ⟨⟨fun _ => ⟨⟨by omega, by omega⟩, True.intro⟩, fun _ => ⟨⟨by omega, by omega⟩, True.intro⟩⟩, fun v hv => ⟨by have := bl.2 n; omega, fun τ1 t1 => ⟨by have := bl.2 n; omega, fun τ2 t2 => ?_⟩⟩⟩, fun g => ?_⟩
    · rw [if_pos g] at e1
      have q2 : gI τ2 27 2 = c := by rw [t2, cpI_at, if_neg (by omega), t1, sI_ne (by decide)]; exact hc.1
      rw [q2]
      refine ⟨⟨by omega, by omega⟩, fun τ3 t3 => h τ3 ?_ ?_ ?_ (fun y => absurd y n) (fun _ i j i0 i1 j0 j1 => ?_)⟩
      · refine ⟨fun c' i' q => ?_, ?_⟩
        · rw [t3, sI_at, if_neg (by omega), t2, cpI_at, if_neg (by omega), t1, sI_at, if_neg (by omega)]
        · rw [t3, t2, t1]; rfl
      · intro i ni; rw [t3, sI_nei ni, t2, cpI_at, if_neg (by omega), t1, sI_ne (by decide)]
      · rw [t3, sI_eq, e1]
      · rw [e1] at i1
        rw [t3, sI_ne (by decide), t2, cpI_at]
        by_cases ei : i = c
        · rw [if_pos (show i = c ∧ c < liM x from ⟨ei, g⟩)]
          by_cases ej : j = 0
          · rw [if_neg (by omega), if_pos ej, t1, sI_at, if_pos ⟨rfl, by omega⟩]; exact hv
          · rw [if_pos ⟨rfl, by omega, by omega⟩, if_neg ej, t1, sI_ne (by decide), show 0 + (i * 4 + j - (c * 4 + 1)) = j - 1 by omega]
        · rw [if_neg (by omega), if_neg (fun q => ei q.1), t1, sI_at, if_neg (by omega)]
    · rw [if_neg (by omega)] at e1
      refine h σ fCr.rfl' (fun _ _ => rfl) (by rw [e1]; exact hc.1) (fun y => absurd y n) (fun _ i j i0 i1 j0 j1 => by rw [if_neg (by omega)])
  · refine h τ (fCr.set et (by omega)) (fun i _ => by rw [et, sI_ne (by decide)]) ?_ (fun _ j => ?_) (fun n => absurd e n)
    · rw [et, sI_ne (by decide), hc.1]; unfold c1; rw [if_pos e]
    · rw [et]
      by_cases ej : j = w
      · rw [ej, sI_eq, if_pos rfl]
      · rw [sI_nei ej, if_neg ej]
end MT8
