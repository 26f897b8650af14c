/-- the mimic by the class -/
def CS (τ : gS) (x : Tk) (I : Int → Int) (M : MS) : Prop := CT τ x I ∧ (∀ i, 0 ≤ i → i < 6 → gI τ 77 i = M.2.1 i) ∧ (∀ i j, 0 ≤ i → i < 6 → 0 ≤ j → j < M.2.1 i → gI τ 76 (40 * i + j) = M.1 (40 * i + j)) ∧ (∀ k, 0 ≤ k → k < x.1 → gI τ 75 k = M.2.2.1 k) ∧ ∀ k, 0 ≤ k → k < x.1 → M.2.2.1 k = 3 → gI τ 74 k = M.2.2.2 k
def frS (σ τ : gS) : Prop := ∀ c i, c < 74 ∨ 80 < c → gI τ c i = gI σ c i
theorem frS.trans {σ τ υ : gS} (h : frS σ τ) (k : frS τ υ) : frS σ υ := fun c i hc => (k c i hc).trans (h c i hc)
theorem frS.rfl' {σ : gS} : frS σ σ := fun _ _ _ => rfl
theorem frS.set {σ : gS} {c : Nat} {i v : Int} (hc : 74 ≤ c ∧ c ≤ 80) : frS σ (sI σ c i v) := fun c' i' h => sI_ne (by omega)
theorem CT.s {σ τ : gS} {x : Tk} {I : Int → Int} (h : CT σ x I) (k : frS σ τ) : CT τ x I :=
  ⟨⟨by rw [k 69 0 (by omega)]; exact h.1.1, fun j j0 j1 => by rw [k 70 j (by omega), k 71 j (by omega), k 72 j (by omega)]; exact h.1.2 j j0 j1⟩, fun j j0 j1 => by rw [k 73 j (by omega)]; exact h.2 j j0 j1⟩
section SP
variable {l : Launch} {G : gG}
theorem c_putInRow (k P : Int) (x : Tk) (hx : OKT P x) (hP : P ≤ 6) (I : Int → Int) (hI : ∀ k, 0 ≤ k → k < x.1 → 0 ≤ I k ∧ I k ≤ 400) (M : MS) (hM : WM x M) (hk : 0 ≤ k ∧ k < x.1) (hw : M.2.2.1 k = 0) (σ : gS) (hC : CS σ x I M) (Q : gS → Prop)
    (h : ∀ τ, (∀ i, 0 ≤ i → i < 6 → gI τ 77 i = (zPut x I k M).2.1 i) → (∀ i j, 0 ≤ i → i < 6 → 0 ≤ j → j < (zPut x I k M).2.1 i → gI τ 76 (40 * i + j) = (zPut x I k M).1 (40 * i + j)) → (∀ c i, c ≠ 76 → c ≠ 77 → gI τ c i = gI σ c i) → Q τ) : eX9_putInRow l G k σ Q := by
  obtain ⟨hT, hL, hR, hW, _⟩ := hC
  have h40 := hx.2.1
  have hx0 := hx.1
  have xk := hx.2.2 k hk.1 hk.2
  have rk : gR k := ⟨by omega, by omega⟩
  obtain ⟨d1, d2, d3⟩ := hT.1.2 k hk.1 hk.2
  have dI := hT.2 k hk.1 hk.2
  have lr := WM_ld hx hM (i := x.2.1 k) (by omega) (by omega)
  have ll : M.2.1 (x.2.1 k) < 40 := by
    have := cn1_lt x M.2.2.1 (x.2.1 k) hk.1 hk.2 (by omega)
    rw [hM.2.1 (x.2.1 k) (by omega) (by omega)]; omega
  have pr := pAt_r (I := I) (M := M) (k := k) (x := x) lr.1
  refine vX9_putInRow k rk σ Q ?_
  refine gloopI (α := Int) 0 x.1 (fun c v => c ≤ x.1 ∧ v = sm (fun c => if M.2.2.1 c = 2 then (if x.2.2.1 c = x.2.2.1 k then (if I k ≤ I c then 0 else 1) else 0) else 0) c.toNat ∧ 0 ≤ v ∧ v ≤ c) (fun c v => kX9_putInRow_4 l G k v c σ Q) ?_ ?_ 0 0 (by omega) ⟨by omega, rfl, by omega, by omega⟩
  · rintro c v c0 c1 ⟨z0, z1, z2, z3⟩ ih
    obtain ⟨e1, e2, e3⟩ := hT.1.2 c c0 c1
    have eI := hT.2 c c0 c1
    have ih' : ∀ u, (u = 0 ∨ u = 1) → u = (if M.2.2.1 c = 2 then (if x.2.2.1 c = x.2.2.1 k then (if I k ≤ I c then 0 else 1) else 0) else 0) → kX9_putInRow_4 l G k (v + u) (c + 1) σ Q := fun u hu eu => ih (v + u) ⟨by omega, by rw [sm_s _ c0, ← z1, eu], by omega, by omega⟩
    refine vX9_putInRow_4 k v c rk ⟨by omega, by omega⟩ ⟨by omega, by omega⟩ σ Q ?_
    rw [hT.1.1, hW c c0 c1, e2, d2, eI, dI]
    refine ⟨fun z => by omega, fun _ => ⟨by omega, fun e => ?_, fun e => ⟨by omega, fun f => ?_, fun f => ⟨fun g => ?_, fun g => ?_⟩⟩⟩⟩
    · have := ih' 0 (Or.inl rfl) (by rw [if_neg e]); rw [Int.add_zero] at this; exact this
    · have := ih' 0 (Or.inl rfl) (by rw [if_pos e, if_neg f]); rw [Int.add_zero] at this; exact this
    · have := ih' 0 (Or.inl rfl) (by rw [if_pos e, if_pos f, if_pos g]); rw [Int.add_zero] at this; exact this
    · exact ih' 1 (Or.inr rfl) (by rw [if_pos e, if_pos f, if_neg (by omega)])
  · rintro c v c0 ⟨z0, z1, z2, z3⟩
    have hc : c = x.1 := by omega
    subst hc
    refine vX9_putInRow_4 k v x.1 rk ⟨by omega, by omega⟩ ⟨by omega, by omega⟩ σ Q ?_
    rw [hT.1.1, d1, hL (x.2.1 k) (by omega) (by omega)]
    refine ⟨fun _ => ⟨by omega, by omega, ?_⟩, fun z => by omega⟩
    have ea : min v (M.2.1 (x.2.1 k)) = pAt x I M k := by
      unfold pAt ahd
      rw [z1]
    rw [ea, show x.2.1 k * 40 = 40 * x.2.1 k by omega]
    generalize eat : pAt x I M k = a at *
    have L : ∀ (m : Nat) (τ : gS), a + m ≤ M.2.1 (x.2.1 k) → (∀ p, gI τ 76 p = if 40 * x.2.1 k + a + m < p ∧ p ≤ 40 * x.2.1 k + M.2.1 (x.2.1 k) then gI σ 76 (p - 1) else gI σ 76 p) → (∀ c i, c ≠ 76 → gI τ c i = gI σ c i) → kX9_putInRow_97 l G k v (x.2.1 k) (40 * x.2.1 k) a (40 * x.2.1 k + a + m) τ Q := by
      intro m
      induction m with
      | zero =>
        intro τ _ y1 y2
        refine vX9_putInRow_97 k v (x.2.1 k) (40 * x.2.1 k) a _ rk ⟨by omega, by omega⟩ ⟨by omega, by omega⟩ ⟨by omega, by omega⟩ ⟨by omega, by omega⟩ ⟨by omega, by omega⟩ τ Q ⟨⟨by omega, by omega⟩, fun _ => ⟨by omega, fun τ1 f1 => ⟨by omega, ?_⟩⟩, fun z => by omega⟩
        have e77 : gI τ1 77 (x.2.1 k) = M.2.1 (x.2.1 k) := by rw [f1, sI_ne (by omega), y2 _ _ (by omega)]; exact hL _ (by omega) (by omega)
        rw [e77]
        refine ⟨⟨by omega, by omega⟩, fun τ2 f2 => h τ2 (fun i i0 i1 => ?_) (fun i j i0 i1 j0 j1 => ?_) (fun c i c1 c2 => by rw [f2, sI_ne c2, f1, sI_ne c1]; exact y2 c i c1)⟩
        · show gI τ2 77 i = fup M.2.1 (x.2.1 k) (M.2.1 (x.2.1 k) + 1) i
          rw [f2, sI_at, fup_at]
          by_cases e : i = x.2.1 k
          · rw [if_pos ⟨rfl, e⟩, if_pos e]
          · rw [if_neg (fun z => e z.2), if_neg e, f1, sI_ne (by omega), y2 _ _ (by omega)]; exact hL i i0 i1
        · have j1 : j < fup M.2.1 (x.2.1 k) (M.2.1 (x.2.1 k) + 1) i := j1
          have li := WM_ld hx hM i0 i1
          show gI τ2 76 (40 * i + j) = (if 40 * i + j = 40 * x.2.1 k + pAt x I M k then k else if 40 * x.2.1 k + pAt x I M k < 40 * i + j ∧ 40 * i + j ≤ 40 * x.2.1 k + M.2.1 (x.2.1 k) then M.1 (40 * i + j - 1) else M.1 (40 * i + j))
          rw [eat, f2, sI_ne (by omega), f1, sI_at, y1]
          by_cases e : i = x.2.1 k
          · rw [e, fup_eq] at j1
            rw [e]
            by_cases e2 : j = a
            · rw [if_pos ⟨rfl, by omega⟩, if_pos (by omega)]
            · rw [if_neg (show ¬ ((76 : Nat) = 76 ∧ 40 * x.2.1 k + j = 40 * x.2.1 k + a) by omega), if_neg (show ¬ 40 * x.2.1 k + j = 40 * x.2.1 k + a by omega)]
              by_cases e3 : a < j
              · rw [if_pos (by omega), if_pos (by omega), show 40 * x.2.1 k + j - 1 = 40 * x.2.1 k + (j - 1) by omega]
                exact hR _ (j - 1) (by omega) (by omega) (by omega) (by omega)
              · rw [if_neg (by omega), if_neg (by omega)]
                exact hR _ j (by omega) (by omega) j0 (by omega)
          · rw [fup_ne e] at j1
            rw [if_neg (by omega), if_neg (by omega), if_neg (by omega), if_neg (by omega)]
            exact hR i j i0 i1 j0 j1
      | succ m ihm =>
        intro τ hm y1 y2
        refine vX9_putInRow_97 k v (x.2.1 k) (40 * x.2.1 k) a _ rk ⟨by omega, by omega⟩ ⟨by omega, by omega⟩ ⟨by omega, by omega⟩ ⟨by omega, by omega⟩ ⟨by omega, by omega⟩ τ Q ⟨⟨by omega, by omega⟩, fun z => by omega, fun _ => ⟨by omega, by omega, fun τ1 f1 => ?_⟩⟩
        rw [show 40 * x.2.1 k + a + ((m + 1 : Nat) : Int) + -1 = 40 * x.2.1 k + a + m by omega]
        refine ihm τ1 (by omega) (fun p => ?_) (fun c i hc => by rw [f1, sI_ne hc]; exact y2 c i hc)
        rw [f1, sI_at, y1 p, y1]
        by_cases e : p = 40 * x.2.1 k + a + ((m + 1 : Nat) : Int)
        · rw [if_pos ⟨rfl, e⟩, if_neg (by omega), if_pos (by omega), e]
        · rw [if_neg (fun z => e z.2)]
          by_cases e2 : 40 * x.2.1 k + a + ((m + 1 : Nat) : Int) < p ∧ p ≤ 40 * x.2.1 k + M.2.1 (x.2.1 k)
          · rw [if_pos e2, if_pos (by omega)]
          · rw [if_neg e2, if_neg (by omega)]
    have := L (M.2.1 (x.2.1 k) - a).toNat σ (by omega) (fun p => by rw [if_neg (by omega)]) (fun _ _ _ => rfl)
    rw [show 40 * x.2.1 k + a + (((M.2.1 (x.2.1 k) - a).toNat : Nat) : Int) = 40 * x.2.1 k + M.2.1 (x.2.1 k) by omega] at this
    exact this
theorem c_comeAll (s P : Int) (hs : 0 ≤ s ∧ s < 1000) (x : Tk) (hx : OKT P x) (hP : P ≤ 6) (I : Int → Int) (hI : ∀ k, 0 ≤ k → k < x.1 → 0 ≤ I k ∧ I k ≤ 400) (M : MS) (hM : WM x M) (h0 : ∀ k, 0 ≤ k → k < x.1 → (M.2.2.1 k = 0 ↔ s ≤ x.2.2.2 k)) (σ : gS) (hC : CS σ x I M) (Q : gS → Prop) (h : ∀ τ, CS τ x I (zCm x I s M) → frS σ τ → Q τ) : eX9_comeAll l G s σ Q := by
  have h40 := hx.2.1
  have hx0 := hx.1
  have rs : gR s := ⟨by omega, by omega⟩
  refine vX9_comeAll s rs σ Q ?_
  refine gloopI (α := gS) 0 x.1 (fun k τ => k ≤ x.1 ∧ CS τ x I (gfold (fCm x I s) M k.toNat) ∧ frS σ τ) (fun k τ => kX9_comeAll_2 l G s k τ Q) ?_ ?_ 0 σ (by omega) ⟨by omega, hC, frS.rfl'⟩
  · rintro k τ k0 k1 ⟨z0, z1, z2⟩ ih
    obtain ⟨a, b⟩ := zCm_at hx hP (I := I) hM h0 k.toNat (by omega)
    have ste : gfold (fCm x I s) M (k + 1).toNat = fCm x I s k (gfold (fCm x I s) M k.toNat) := gfold_s k0
    rw [ste] at ih
    have bk := b k k0 k1
    rw [if_neg (by omega)] at bk
    generalize gfold (fCm x I s) M k.toNat = Y at *
    unfold fCm at ih
    obtain ⟨d1, d2, d3⟩ := z1.1.1.2 k k0 k1
    refine vX9_comeAll_2 s k rs ⟨by omega, by omega⟩ τ Q ?_
    rw [z1.1.1.1, d3]
    refine ⟨fun z => by omega, fun _ => ⟨by omega, fun e => ?_, fun e => ?_⟩⟩
    · rw [if_neg e] at ih; exact ih τ ⟨by omega, z1, z2⟩
    · rw [if_pos e] at ih
      have w0 : Y.2.2.1 k = 0 := by rw [bk]; exact (h0 k k0 k1).mpr (by omega)
      refine c_putInRow k P x hx hP I hI Y a ⟨k0, k1⟩ w0 τ z1 _ (fun υ u1 u2 u3 υ1 f1 => ih υ1 ?_)
      have F : frS σ υ1 := z2.trans (fun c i hc => by rw [f1, sI_ne (by omega), u3 c i (by omega) (by omega)])
      have g : ∀ c i, c ≠ 75 → gI υ1 c i = gI υ c i := fun c i hc => by rw [f1, sI_ne hc]
      refine ⟨by omega, ⟨?_, fun i i0 i1 => by rw [g _ _ (by omega)]; exact u1 i i0 i1, fun i j i0 i1 j0 j1 => by rw [g _ _ (by omega)]; exact u2 i j i0 i1 j0 j1, fun c c0 c1 => ?_, fun c c0 c1 hc => ?_⟩, F⟩
      · exact CT.s hC.1 F
      · show gI υ1 75 c = fup Y.2.2.1 k 1 c
        rw [f1, sI_at, fup_at]
        by_cases q : c = k
        · rw [if_pos ⟨rfl, q⟩, if_pos q]
        · rw [if_neg (fun z => q z.2), if_neg q, u3 _ _ (by omega) (by omega)]; exact z1.2.2.2.1 c c0 c1
      · have hc : fup Y.2.2.1 k 1 c = 3 := hc
        have q : c ≠ k := fun z => by rw [z, fup_eq] at hc; omega
        rw [fup_ne q] at hc
        rw [g _ _ (by omega), u3 _ _ (by omega) (by omega)]; exact z1.2.2.2.2 c c0 c1 hc
  · rintro k τ k0 ⟨z0, z1, z2⟩
    have hk : k = x.1 := by omega
    subst hk
    refine vX9_comeAll_2 s x.1 rs ⟨by omega, by omega⟩ τ Q ?_
    rw [z1.1.1.1]
    exact ⟨fun _ => h τ z1 z2, fun z => by omega⟩
theorem c_leastIdeal (o st ab : Int) (ho : 0 ≤ o ∧ o < 6) (rst : gR st) (rab : gR ab) (x : Tk) (P : Int) (hx : OKT P x) (I : Int → Int) (wh : Int → Int) (σ : gS) (hT : CT σ x I) (hW : ∀ k, 0 ≤ k → k < x.1 → gI σ 75 k = wh k) (Q : Int → gS → Prop) (h : Q (zLst (fun k => decide (x.2.2.1 k = o) && decide (wh k = st) && decide (ab < I k)) I x.1.toNat) σ) : eX9_leastIdeal l G o st ab σ Q := by
  have h40 := hx.2.1
  have hx0 := hx.1
  have ro : gR o := ⟨by omega, by omega⟩
  refine vX9_leastIdeal o st ab ro rst rab σ Q ?_
  refine gloopF (fLst (fun k => decide (x.2.2.1 k = o) && decide (wh k = st) && decide (ab < I k)) I) (-1) x.1 hx0 (fun k b => b = -1 ∨ (0 ≤ b ∧ b < k)) (fun k b => kX9_leastIdeal_6 l G o st ab b k σ Q) (Or.inl rfl) ?_ ?_
  · intro k b k0 k1 hp
    refine ⟨fLst_r k0 hp, fun ih => ?_⟩
    have ih : kX9_leastIdeal_6 l G o st ab (fLst (fun k => decide (x.2.2.1 k = o) && decide (wh k = st) && decide (ab < I k)) I k b) (k + 1) σ Q := ih
    obtain ⟨d1, d2, d3⟩ := hT.1.2 k k0 k1
    have dI := hT.2 k k0 k1
    unfold fLst at ih
    refine vX9_leastIdeal_6 o st ab b k ro rst rab ⟨by omega, by omega⟩ ⟨by omega, by omega⟩ σ Q ?_
    rw [hT.1.1, hW k k0 k1, d2, dI]
    refine ⟨fun z => by omega, fun _ => ⟨by omega, fun e => ?_, fun e => ⟨fun f => ?_, fun f => ⟨fun g => ?_, fun g => ⟨fun e2 => ?_, fun e2 => ⟨by omega, fun e3 => ?_, fun e3 => ?_⟩⟩⟩⟩⟩⟩
    · rw [if_neg (by simp [e])] at ih; exact ih
    · rw [if_neg (by simp [f])] at ih; exact ih
    · rw [if_neg (by simp; omega)] at ih; exact ih
    · rw [if_pos (by simp [e, f, g]), if_pos e2] at ih; exact ih
    · rw [if_pos (by simp [e, f, g]), if_neg e2] at ih
      rw [hT.2 b (by omega) (by omega)] at e3
      rw [if_pos e3] at ih; exact ih
    · rw [if_pos (by simp [e, f, g]), if_neg e2] at ih
      rw [hT.2 b (by omega) (by omega)] at e3
      rw [if_neg (by omega)] at ih; exact ih
  · intro hp
    refine vX9_leastIdeal_6 o st ab _ x.1 ro rst rab ⟨by omega, by omega⟩ ⟨by omega, by omega⟩ σ Q ?_
    rw [hT.1.1]
    exact ⟨fun _ => h, fun z => by omega⟩
theorem c_isAhead (P : Int) (x : Tk) (hx : OKT P x) (hP : P ≤ 6) (I : Int → Int) (M : MS) (hM : WM x M) (k b : Int) (hk : (0 ≤ k ∧ k < x.1) ∧ M.2.2.1 k = 1) (hb : (0 ≤ b ∧ b < x.1) ∧ M.2.2.1 b = 1) (hi : x.2.1 b = x.2.1 k) (hn : k ≠ b) (σ : gS) (hC : CS σ x I M) (Q : Int → gS → Prop) (h : Q (if plc x M k < plc x M b then 1 else 0) σ) : eX9_isAhead l G (x.2.1 k) k b σ Q := by
  have h40 := hx.2.1
  obtain ⟨⟨p0, p1⟩, p2, p3⟩ := plc_at hx hP hM hk.1.1 hk.1.2 hk.2
  obtain ⟨⟨q0, q1⟩, q2, q3⟩ := plc_at hx hP hM hb.1.1 hb.1.2 hb.2
  rw [hi] at q1 q2 q3
  have xk := hx.2.2 k hk.1.1 hk.1.2
  have li := WM_ld hx hM (i := x.2.1 k) (by omega) (by omega)
  have ri : gR (x.2.1 k) := ⟨by omega, by omega⟩
  have rk : gR k := ⟨by omega, by omega⟩
  have rb : gR b := ⟨by omega, by omega⟩
  have hL := hC.2.1 (x.2.1 k) (by omega) (by omega)
  refine vX9_isAhead (x.2.1 k) k b ri rk rb σ Q ?_
  rw [show x.2.1 k * 40 = 40 * x.2.1 k by omega]
  have Lp : ∀ m : Nat, ∀ j : Int, 0 ≤ j → j ≤ plc x M k → j ≤ plc x M b → plc x M k ≤ j + m → kX9_isAhead_10 l G (x.2.1 k) k b (40 * x.2.1 k) (40 * x.2.1 k + j) σ Q := by
    intro m
    induction m with
    | zero =>
      intro j j0 j1 j2 j3
      have ej : j = plc x M k := by omega
      have hr := hC.2.2.1 (x.2.1 k) j (by omega) (by omega) j0 (by omega)
      refine vX9_isAhead_10 _ k b _ _ ri rk rb ⟨by omega, by omega⟩ ⟨by omega, by omega⟩ σ Q ?_
      rw [hL, hr, ej, p2]
      refine ⟨by omega, ⟨by omega, by omega⟩, fun z => by omega, fun _ => ⟨by omega, fun _ v ev => ?_, fun z => absurd rfl z⟩⟩
      rw [if_pos rfl] at ev
      have : plc x M k ≠ plc x M b := fun z => hn (by rw [← p2, z, q2])
      rw [if_pos (by omega)] at h
      rw [ev]; exact h
    | succ m ih =>
      intro j j0 j1 j2 j3
      have hr := hC.2.2.1 (x.2.1 k) j (by omega) (by omega) j0 (by omega)
      refine vX9_isAhead_10 _ k b _ _ ri rk rb ⟨by omega, by omega⟩ ⟨by omega, by omega⟩ σ Q ?_
      rw [hL, hr]
      refine ⟨by omega, ⟨by omega, by omega⟩, fun z => by omega, fun _ => ⟨by omega, fun z v ev => ?_, fun z => ⟨fun z2 => ?_, fun z2 v ev => ?_⟩⟩⟩
      · have ej : j = plc x M k := by
          by_cases w : j < plc x M k
          · exact absurd z (p3 j j0 w)
          · omega
        have : plc x M k ≠ plc x M b := fun y => hn (by rw [← p2, y, q2])
        rw [if_pos z] at ev
        rw [if_pos (by omega)] at h
        rw [ev]; exact h
      · have n1 : j ≠ plc x M k := fun y => z (by rw [y]; exact p2)
        have n2 : j ≠ plc x M b := fun y => z2 (by rw [y]; exact q2)
        rw [show 40 * x.2.1 k + j + 1 = 40 * x.2.1 k + (j + 1) by omega]
        exact ih (j + 1) (by omega) (by omega) (by omega) (by omega)
      · have ej : j = plc x M b := by
          by_cases w : j < plc x M b
          · exact absurd z2 (q3 j j0 w)
          · omega
        rw [if_neg z] at ev
        rw [if_neg (by omega)] at h
        rw [ev]; exact h
  have := Lp (plc x M k).toNat 0 (by omega) (by omega) (by omega) (by omega)
  rw [Int.add_zero] at this
  exact this
end SP
