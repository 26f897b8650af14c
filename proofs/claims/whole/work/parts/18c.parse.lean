section MTA
variable {l : Launch} {G : gG}
/-- the rows are in their ranges -/
def okR (x c : Int) (V : Int → Int → Int) : Prop := (x = 0 → tBar (V 0) 0) ∧ (x = 1 → ∀ i, 0 ≤ i → i < c → tDeed (V i) 0) ∧ (x = 2 → ∀ i, 0 ≤ i → i < c → tFact (V i) 0)
theorem nF_ok {B : Int → Int} {L lo hi q : Int} {rs : List (Int × Int)} (hq : 0 ≤ q) (h : nF B L ((lo, hi) :: rs) q = -1) : (lo ≤ tN B L q ∧ tN B L q ≤ hi) ∧ nF B L rs (tE B L q) = -1 ∧ 0 ≤ tE B L q := by
  have s1 := tS_ge (B := B) (L := L) q
  have s2 := tE_ge (B := B) (L := L) q
  have d : nF B L ((lo, hi) :: rs) q = if tN B L q < lo ∨ hi < tN B L q then tS B L q else nF B L rs (tE B L q) := rfl
  rw [d] at h
  by_cases e : tN B L q < lo ∨ hi < tN B L q
  · rw [if_pos e] at h; omega
  · rw [if_neg e] at h; exact ⟨by omega, h, by omega⟩
theorem fK_00 {B : Int → Int} {L : Int} {rs : List (Int × Int)} {q k : Int} (h : fK B L rs q k = 0) : k = 0 ∧ nF B L rs q = -1 := by
  have h0 := fK_0 h
  refine ⟨h0, Decidable.byContradiction (fun n => ?_)⟩
  unfold fK at h
  rw [if_neg (show ¬ ¬ k = 0 from fun m => m h0), if_neg n] at h
  exact absurd h (by decide)
theorem k0_0 {x c k : Int} (h : k0 x c k = 0) : k = 0 ∧ c < liM x := by
  unfold k0 at h
  by_cases e : k = 0
  · rw [if_neg (show ¬ ¬ k = 0 from fun m => m e)] at h
    refine ⟨e, Decidable.byContradiction (fun n => ?_)⟩
    rw [if_pos (by omega)] at h
    exact absurd h (by decide)
  · rw [if_pos e] at h; exact absurd h e
theorem par_ok (B : Int → Int) (L x c' k' f' : Int) (V' : Int → Int → Int) (hx : x = 0 ∨ x = 1 ∨ x = 2) (hk : k' = 0) : ∀ (n : Nat) (p c k f : Int) (V : Int → Int → Int), Par B L x c' k' f' V' n p c k f V → 0 ≤ p → 0 ≤ c → k = 0 ∧ (okR x c V → okR x c' V') := by
  intro n
  induction n with
  | zero => intro p c k f V h; exact absurd h (fun q => q)
  | succ n ih =>
    intro p c k f V h hp hc
    have h' : (tK B L p = 0 ∧ c' = c ∧ k' = k ∧ f' = f ∧ V' = V) ∨ (¬ tK B L p = 0 ∧ ¬ inS B L x p ∧ k' = 1 ∧ f' = tS B L p) ∨
      (inS B L x p ∧ ¬ nE B L (wR (tW B L p)) (tE B L p) = -1 ∧ k' = 1 ∧ f' = nE B L (wR (tW B L p)) (tE B L p)) ∨
      (inS B L x p ∧ nE B L (wR (tW B L p)) (tE B L p) = -1 ∧ Par B L x c' k' f' V' n (nP B L (wR (tW B L p)) (tE B L p)) (c1 x c) (fK B L (wR (tW B L p)) (tE B L p) (k0 x c k)) (fQ B L (wR (tW B L p)) (tE B L p) (k0 x c k) (f0 x c k f (tS B L p))) (V1 B L x c (tW B L p) V (wR (tW B L p)) (tE B L p))) := h
    rcases h' with ⟨d1, d2, d3, d4, d5⟩ | ⟨d1, d2, d3, d4⟩ | ⟨d1, d2, d3, d4⟩ | ⟨d1, d2, d3⟩
    · exact ⟨by rw [← d3]; exact hk, fun o => by rw [d2, d5]; exact o⟩
    · rw [hk] at d3; exact absurd d3 (by decide)
    · rw [hk] at d3; exact absurd d3 (by decide)
    · have s1 := tS_ge (B := B) (L := L) p
      have s2 := tE_ge (B := B) (L := L) p
      have np := nP_ge (B := B) (L := L) (wR (tW B L p)) (tE B L p)
      have hc1 : 0 ≤ c1 x c := by
        unfold c1
        split
        · exact hc
        · split <;> omega
      obtain ⟨q1, q2⟩ := ih _ _ _ _ _ d3 (by omega) hc1
      obtain ⟨q3, q4⟩ := fK_00 q1
      obtain ⟨q5, q6⟩ := k0_0 q3
      refine ⟨q5, fun o => q2 ?_⟩
      have hq : 0 ≤ tE B L p := by omega
      have wb := d1.2
      rcases hx with e | e | e
      · subst e
        have wb' : (1 : Int) ≤ tW B L p ∧ tW B L p ≤ 4 := wb
        have ob : tBar (V 0) 0 := o.1 rfl
        refine ⟨fun _ => ?_, fun y => absurd y (by decide), fun y => absurd y (by decide)⟩
        have hv : ∀ j, V1 B L 0 c (tW B L p) V (wR (tW B L p)) (tE B L p) 0 j = if j = tW B L p - 1 then nV B L (wR (tW B L p)) (tE B L p) 0 else V 0 j := fun j => rfl
        unfold tBar at ob ⊢
        rw [hv, hv, hv, hv]
        rcases (show tW B L p = 1 ∨ tW B L p = 2 ∨ tW B L p = 3 ∨ tW B L p = 4 by omega) with w | w | w | w
        · rw [w] at q4 ⊢
          obtain ⟨r1, _⟩ := nF_ok (rs := []) (lo := 1) (hi := 6) hq q4
          rw [if_pos (by omega), if_neg (by omega), if_neg (by omega), if_neg (by omega)]
          exact ⟨r1.1, r1.2, ob.2.2⟩
        · rw [w] at q4 ⊢
          obtain ⟨r1, _⟩ := nF_ok (rs := []) (lo := 1) (hi := 4) hq q4
          rw [if_neg (by omega), if_pos (by omega), if_neg (by omega), if_neg (by omega)]
          exact ⟨ob.1, ob.2.1, r1.1, r1.2, ob.2.2.2.2⟩
        · rw [w] at q4 ⊢
          obtain ⟨r1, _⟩ := nF_ok (rs := []) (lo := 1) (hi := 9) hq q4
          rw [if_neg (by omega), if_neg (by omega), if_pos (by omega), if_neg (by omega)]
          exact ⟨ob.1, ob.2.1, ob.2.2.1, ob.2.2.2.1, r1.1, r1.2, ob.2.2.2.2.2.2⟩
        · rw [w] at q4 ⊢
          obtain ⟨r1, _⟩ := nF_ok (rs := []) (lo := 0) (hi := 5) hq q4
          rw [if_neg (by omega), if_neg (by omega), if_neg (by omega), if_pos (by omega)]
          exact ⟨ob.1, ob.2.1, ob.2.2.1, ob.2.2.2.1, ob.2.2.2.2.1, ob.2.2.2.2.2.1, r1.1, r1.2⟩
      · subst e
        have wb' : (5 : Int) ≤ tW B L p ∧ tW B L p ≤ 9 := wb
        have ec : c1 1 c = c + 1 := by unfold c1; rw [if_neg (by decide), if_pos q6]
        refine ⟨fun y => absurd y (by decide), fun _ i i0 i1 => ?_, fun y => absurd y (by decide)⟩
        rw [ec] at i1
        have hv : ∀ j, V1 B L 1 c (tW B L p) V (wR (tW B L p)) (tE B L p) i j = if i = c ∧ c < liM 1 then (if j = 0 then tW B L p - 5 else nV B L (wR (tW B L p)) (tE B L p) (j - 1)) else V i j := fun j => rfl
        unfold tDeed
        rw [hv, hv, hv]
        by_cases ei : i = c
        · rw [if_pos (show i = c ∧ c < liM 1 from ⟨ei, q6⟩), if_pos (show i = c ∧ c < liM 1 from ⟨ei, q6⟩), if_pos (show i = c ∧ c < liM 1 from ⟨ei, q6⟩), if_pos (show (0 : Int) = 0 from rfl), if_neg (show ¬ (0 + 1 : Int) = 0 by decide), if_neg (show ¬ (0 + 2 : Int) = 0 by decide)]
          rcases (show tW B L p = 5 ∨ tW B L p = 6 ∨ tW B L p = 7 ∨ tW B L p = 8 ∨ tW B L p = 9 by omega) with w | w | w | w | w
          · rw [w]; exact Or.inl ⟨rfl, rfl, rfl⟩
          · rw [w] at q4 ⊢
            obtain ⟨r1, _⟩ := nF_ok (rs := []) (lo := 1) (hi := 9) hq q4
            exact Or.inr (Or.inl ⟨rfl, r1.1, r1.2, rfl⟩)
          · rw [w] at q4 ⊢
            obtain ⟨r1, r2, r3⟩ := nF_ok (rs := [(0, 5)]) (lo := 0) (hi := 5) hq q4
            obtain ⟨r4, _⟩ := nF_ok (rs := []) (lo := 0) (hi := 5) r3 r2
            exact Or.inr (Or.inr (Or.inl ⟨rfl, r1.1, r1.2, r4.1, r4.2⟩))
          · rw [w] at q4 ⊢
            obtain ⟨r1, r2, r3⟩ := nF_ok (rs := [(1, 63)]) (lo := 0) (hi := 5) hq q4
            obtain ⟨r4, _⟩ := nF_ok (rs := []) (lo := 1) (hi := 63) r3 r2
            exact Or.inr (Or.inr (Or.inr ⟨Or.inl rfl, r1.1, r1.2, r4.1, r4.2⟩))
          · rw [w] at q4 ⊢
            obtain ⟨r1, r2, r3⟩ := nF_ok (rs := [(1, 63)]) (lo := 0) (hi := 5) hq q4
            obtain ⟨r4, _⟩ := nF_ok (rs := []) (lo := 1) (hi := 63) r3 r2
            exact Or.inr (Or.inr (Or.inr ⟨Or.inr rfl, r1.1, r1.2, r4.1, r4.2⟩))
        · rw [if_neg (show ¬ (i = c ∧ c < liM 1) from fun y => ei y.1), if_neg (show ¬ (i = c ∧ c < liM 1) from fun y => ei y.1), if_neg (show ¬ (i = c ∧ c < liM 1) from fun y => ei y.1)]
          exact o.2.1 rfl i i0 (by omega)
      · subst e
        have wb' : (10 : Int) ≤ tW B L p ∧ tW B L p ≤ 11 := wb
        have ec : c1 2 c = c + 1 := by unfold c1; rw [if_neg (by decide), if_pos q6]
        have er : wR (tW B L p) = [(0, 60), (0, 5), (0, 5)] := by
          rcases (show tW B L p = 10 ∨ tW B L p = 11 by omega) with e | e <;> rw [e] <;> rfl
        rw [er] at q4 ⊢
        obtain ⟨r1, r2, r3⟩ := nF_ok hq q4
        obtain ⟨r4, r5, r6⟩ := nF_ok r3 r2
        obtain ⟨r7, _⟩ := nF_ok r6 r5
        refine ⟨fun y => absurd y (by decide), fun y => absurd y (by decide), fun _ i i0 i1 => ?_⟩
        rw [ec] at i1
        have hv : ∀ j, V1 B L 2 c (tW B L p) V [(0, 60), (0, 5), (0, 5)] (tE B L p) i j = if i = c ∧ c < liM 2 then (if j = 0 then 11 - tW B L p else nV B L [(0, 60), (0, 5), (0, 5)] (tE B L p) (j - 1)) else V i j := fun j => rfl
        unfold tFact
        rw [hv, hv, hv, hv]
        by_cases ei : i = c
        · rw [if_pos (show i = c ∧ c < liM 2 from ⟨ei, q6⟩), if_pos (show i = c ∧ c < liM 2 from ⟨ei, q6⟩), if_pos (show i = c ∧ c < liM 2 from ⟨ei, q6⟩), if_pos (show i = c ∧ c < liM 2 from ⟨ei, q6⟩), if_pos (show (0 : Int) = 0 from rfl), if_neg (show ¬ (0 + 1 : Int) = 0 by decide), if_neg (show ¬ (0 + 2 : Int) = 0 by decide), if_neg (show ¬ (0 + 3 : Int) = 0 by decide)]
          exact ⟨by omega, r1.1, r1.2, r4.1, r4.2, r7.1, r7.2⟩
        · rw [if_neg (show ¬ (i = c ∧ c < liM 2) from fun y => ei y.1), if_neg (show ¬ (i = c ∧ c < liM 2) from fun y => ei y.1), if_neg (show ¬ (i = c ∧ c < liM 2) from fun y => ei y.1), if_neg (show ¬ (i = c ∧ c < liM 2) from fun y => ei y.1)]
          exact o.2.2 rfl i i0 (by omega)
/-- what a text begins with -/
def V0 : Int → Int → Int := fun _ j => if j = 0 then 4 else if j = 1 then 2 else if j = 2 then 9 else 0
theorem c_read (hW : wHere l G) (x x2 : Int) (h2 : 0 ≤ x2 ∧ x2 ≤ 600) (hx : x = 0 ∨ x = 1 ∨ x = 2) (σ : gS) (hB : ∀ i, 0 ≤ i → i < 600 → -128 ≤ gI σ 2 i ∧ gI σ 2 i < 128) (Q : gS → Prop)
    (h : ∀ τ c' k' f' V' n, Par (gI σ 2) x2 x c' k' f' V' n 0 0 0 (-1) V0 → (∀ c i, c < 27 ∨ 30 < c → gI τ c i = gI σ c i) → gI τ 27 3 = k' → gI τ 27 4 = f' → (k' = 0 → gI τ 27 2 = c' ∧ 0 ≤ c' ∧ c' ≤ liM x ∧ CWr x c' V' τ) → Q τ) : eX7_read l G x2 x σ Q := by
  have rx : gR x := by rcases hx with e | e | e <;> rw [e] <;> decide
  refine vX7_read x2 x ⟨by omega, by omega⟩ rx σ Q ?_
  intro s1 e1 s2 e2 s3 e3 s4 e4 s5 e5 s6 e6 s7 e7 s8 e8 s9 e9 s10 e10
  have mn : min x2 600 = x2 := by omega
  rw [mn] at e2
  have g1 : ∀ c i, gI s1 c i = gI σ c i := fun c i => by rw [e1]; rfl
  have fr : ∀ c i, c < 27 ∨ 30 < c → gI s10 c i = gI σ c i := by
    intro c i q
    rw [e10, sI_ne (by omega), e9, sI_ne (by omega), e8, sI_ne (by omega), e7, sI_ne (by omega), e6, sI_ne (by omega), e5, sI_ne (by omega), e4, sI_ne (by omega), e3, sI_ne (by omega), e2, sI_ne (by omega), g1]
  have t2 : s10.2.2 = 2 := by rw [e10, e9, e8, e7, e6, e5, e4, e3, e2, e1]; rfl
  have g27 : ∀ i, gI s10 27 i = gI s6 27 i := fun i => by rw [e10, sI_ne (by decide), e9, sI_ne (by decide), e8, sI_ne (by decide), e7, sI_ne (by decide)]
  have p4 : gI s10 27 4 = -1 := by rw [g27, e6, sI_eq]
  have p3 : gI s10 27 3 = 0 := by rw [g27, e6, sI_nei (by decide), e5, sI_eq]
  have p2 : gI s10 27 2 = 0 := by rw [g27, e6, sI_nei (by decide), e5, sI_nei (by decide), e4, sI_eq]
  have p8 : gI s10 27 8 = 0 := by rw [g27, e6, sI_nei (by decide), e5, sI_nei (by decide), e4, sI_nei (by decide), e3, sI_eq]
  have p7 : gI s10 27 7 = x2 := by rw [g27, e6, sI_nei (by decide), e5, sI_nei (by decide), e4, sI_nei (by decide), e3, sI_nei (by decide), e2, sI_eq]
  have A : tA (gI σ 2) x2 s10 := ⟨fun i => fr 2 i (by omega), t2, p7, h2.1, h2.2, hB⟩
  refine c_nextToken (gI σ 2) x2 0 ⟨by omega, h2.1⟩ s10 A p8 _ (fun τ u1 u2 => ?_)
  have l0 : 0 ≤ liM x := by unfold liM; split; decide; split <;> decide
  refine c_loop hW (gI σ 2) x2 x x2 ⟨by omega, by omega⟩ hx s10 Q (x2 - 0).toNat 0 0 0 (-1) V0 τ 0 ⟨fCr.ofP u1, tA.keep u1 A, u2, ⟨(u1.1 _ _ (by omega)).trans p2, (u1.1 _ _ (by omega)).trans p3, (u1.1 _ _ (by omega)).trans p4⟩, ⟨by omega, h2.1⟩, ⟨by omega, l0, fun _ => rfl⟩, fun _ w w0 w1 => ?_, fun _ i w i0 i1 => by omega⟩ (Nat.le_refl _) (by omega) (by omega) (fun υ c' k' f' V' n z1 z2 => h υ c' k' f' V' n z1 (fun c i q => (z2.1.1 c i q).trans (fr c i q)) z2.2.1 z2.2.2.1 z2.2.2.2)
  rw [u1.1 _ _ (by omega), e10, sI_at, e9, sI_at, e8, sI_at, e7, sI_at]
  unfold V0
  rcases (show w = 0 ∨ w = 1 ∨ w = 2 ∨ w = 3 by omega) with e | e | e | e <;> subst e <;> rfl
end MTA
