/-- the mimic by the reference -/
def RMm (τ : gS) (x : Tk) (I : Int → Int) (P : Int) (M : MS) : Prop := (RT τ x I ∧ gI τ 88 10 = P) ∧ (∀ i, 0 ≤ i → i < 6 → gI τ 124 i = M.2.1 i) ∧ (∀ i j, 0 ≤ i → i < 6 → 0 ≤ j → j < M.2.1 i → gI τ 123 (40 * i + j) = M.1 (40 * i + j)) ∧ (∀ k, 0 ≤ k → k < x.1 → gI τ 125 k = M.2.2.1 k) ∧ ∀ k, 0 ≤ k → k < x.1 → M.2.2.1 k = 3 → gI τ 122 k = M.2.2.2 k
def frU (σ τ : gS) : Prop := ∀ c i, c < 122 ∨ 127 < c → gI τ c i = gI σ c i
theorem frU.trans {σ τ υ : gS} (h : frU σ τ) (k : frU τ υ) : frU σ υ := fun c i hc => (k c i hc).trans (h c i hc)
theorem frU.rfl' {σ : gS} : frU σ σ := fun _ _ _ => rfl
theorem frU.set {σ : gS} {c : Nat} {i v : Int} (hc : 122 ≤ c ∧ c ≤ 127) : frU σ (sI σ c i v) := fun c' i' h => sI_ne (by omega)
theorem RT.u {σ τ : gS} {x : Tk} {I : Int → Int} {P : Int} (h : RT σ x I ∧ gI σ 88 10 = P) (k : frU σ τ) : RT τ x I ∧ gI τ 88 10 = P :=
  ⟨⟨⟨by rw [k 88 50 (by omega)]; exact h.1.1.1, fun j j0 j1 => by rw [k 118 j (by omega), k 119 j (by omega), k 120 j (by omega)]; exact h.1.1.2 j j0 j1⟩, fun j j0 j1 => by rw [k 121 j (by omega)]; exact h.1.2 j j0 j1⟩, by rw [k 88 10 (by omega)]; exact h.2⟩
/-- asking, by the reference -/
def RA (τ : gS) (x : Tk) (I : Int → Int) (P : Int) (M : MS) (A : AS) : Prop := RMm τ x I P M ∧ (∀ i, 0 ≤ i → i < 6 → gI τ 127 i = A.1 i) ∧ ∀ k, 0 ≤ k → k < x.1 → gI τ 126 k = A.2.1 k
section SS
variable {l : Launch} {G : gG}
theorem c_putsIn (k P : Int) (x : Tk) (hx : OKT P x) (hP : P ≤ 6) (I : Int → Int) (M : MS) (hM : WM x M) (hk : 0 ≤ k ∧ k < x.1) (hw : M.2.2.1 k = 0) (σ : gS) (hC : RMm σ x I P M) (Q : gS → Prop)
    (h : ∀ τ, RMm τ x I P (zPut x I k M) → frU σ τ → Q τ) : eX12_putsIn l G k σ Q := by
  obtain ⟨hT, hL, hR, hW, hm⟩ := hC
  have h40 := hx.2.1
  have hx0 := hx.1
  have xk := hx.2.2 k hk.1 hk.2
  have rk : gR k := ⟨by omega, by omega⟩
  obtain ⟨d1, d2, d3⟩ := hT.1.1.2 k hk.1 hk.2
  have dI := hT.1.2 k hk.1 hk.2
  have lr := WM_ld hx hM (i := x.2.1 k) (by omega) (by omega)
  have ll : M.2.1 (x.2.1 k) < 40 := by
    have := cn1_lt x M.2.2.1 (x.2.1 k) hk.1 hk.2 (by omega)
    rw [hM.2.1 (x.2.1 k) (by omega) (by omega)]; omega
  have pr := pAt_r (I := I) (M := M) (k := k) (x := x) lr.1
  have ri : gR (x.2.1 k) := ⟨by omega, by omega⟩
  refine vX12_putsIn k rk σ Q ⟨by omega, ?_⟩
  rw [d1]
  refine gloopI (α := Int) 0 x.1 (fun c v => c ≤ x.1 ∧ v = sm (fun c => if M.2.2.1 c = 2 then (if x.2.2.1 c = x.2.2.1 k then (if I k ≤ I c then 0 else 1) else 0) else 0) c.toNat ∧ 0 ≤ v ∧ v ≤ c) (fun c v => kX12_putsIn_12 l G k (x.2.1 k) v c σ Q) ?_ ?_ 0 0 (by omega) ⟨by omega, rfl, by omega, by omega⟩
  · rintro c v c0 c1 ⟨z0, z1, z2, z3⟩ ih
    obtain ⟨e1, e2, e3⟩ := hT.1.1.2 c c0 c1
    have eI := hT.1.2 c c0 c1
    refine vX12_putsIn_12 k (x.2.1 k) v c rk ri ⟨by omega, by omega⟩ ⟨by omega, by omega⟩ σ Q ?_
    rw [hT.1.1.1, hW c c0 c1, e2, d2, eI, dI]
    refine ⟨fun z => by omega, fun _ => ⟨by omega, ⟨fun _ => trivial, fun _ => ⟨by omega, fun _ => trivial, fun _ => ⟨fun _ => trivial, fun _ => trivial⟩⟩⟩, fun u eu => ih (v + u) ⟨by omega, by rw [sm_s _ c0, ← z1, eu], ?_, ?_⟩⟩⟩
    · rw [eu]; split <;> (try split) <;> (try split) <;> omega
    · rw [eu]; split <;> (try split) <;> (try split) <;> omega
  · rintro c v c0 ⟨z0, z1, z2, z3⟩
    have hc : c = x.1 := by omega
    subst hc
    refine vX12_putsIn_12 k (x.2.1 k) v x.1 rk ri ⟨by omega, by omega⟩ ⟨by omega, by omega⟩ σ Q ?_
    rw [hT.1.1.1, hL (x.2.1 k) (by omega) (by omega)]
    refine ⟨fun _ => ⟨by omega, fun u eu => ?_⟩, fun z => by omega⟩
    have ea : u = pAt x I M k := by
      unfold pAt ahd
      rw [← z1, eu]
      split <;> omega
    rw [ea]
    generalize eat : pAt x I M k = a at *
    have L : ∀ (m : Nat) (τ : gS), a + m ≤ M.2.1 (x.2.1 k) → (∀ p, gI τ 123 p = if 40 * x.2.1 k + a + m < p ∧ p ≤ 40 * x.2.1 k + M.2.1 (x.2.1 k) then gI σ 123 (p - 1) else gI σ 123 p) → (∀ c i, c ≠ 123 → gI τ c i = gI σ c i) → kX12_putsIn_108 l G k (x.2.1 k) v a (a + m) τ Q := by
      intro m
      induction m with
      | zero =>
        intro τ _ y1 y2
        refine vX12_putsIn_108 k (x.2.1 k) v a _ rk ri ⟨by omega, by omega⟩ ⟨by omega, by omega⟩ ⟨by omega, by omega⟩ τ Q ⟨fun _ => ⟨by omega, fun τ1 f1 => ⟨by omega, ?_⟩⟩, fun z => by omega⟩
        have e77 : gI τ1 124 (x.2.1 k) = M.2.1 (x.2.1 k) := by rw [f1, sI_ne (by omega), y2 _ _ (by omega)]; exact hL _ (by omega) (by omega)
        rw [e77]
        refine ⟨⟨by omega, by omega⟩, fun τ2 f2 => ⟨by omega, fun τ3 f3 => ?_⟩⟩
        have F : frU σ τ3 := fun c i hc => by rw [f3, sI_ne (by omega), f2, sI_ne (by omega), f1, sI_ne (by omega)]; exact y2 c i (by omega)
        refine h τ3 ⟨RT.u hT F, fun i i0 i1 => ?_, fun i j i0 i1 j0 j1 => ?_, fun c c0 c1 => ?_, fun c c0 c1 hc => ?_⟩ F
        · show gI τ3 124 i = fup M.2.1 (x.2.1 k) (M.2.1 (x.2.1 k) + 1) i
          rw [f3, sI_ne (by omega), f2, sI_at, fup_at]
          by_cases e : i = x.2.1 k
          · rw [if_pos ⟨rfl, e⟩, if_pos e]
          · rw [if_neg (fun z => e z.2), if_neg e, f1, sI_ne (by omega), y2 _ _ (by omega)]; exact hL i i0 i1
        · have j1 : j < fup M.2.1 (x.2.1 k) (M.2.1 (x.2.1 k) + 1) i := j1
          have li := WM_ld hx hM i0 i1
          show gI τ3 123 (40 * i + j) = (if 40 * i + j = 40 * x.2.1 k + pAt x I M k then k else if 40 * x.2.1 k + pAt x I M k < 40 * i + j ∧ 40 * i + j ≤ 40 * x.2.1 k + M.2.1 (x.2.1 k) then M.1 (40 * i + j - 1) else M.1 (40 * i + j))
          rw [eat, f3, sI_ne (by omega), f2, sI_ne (by omega), f1, sI_at, y1]
          by_cases e : i = x.2.1 k
          · rw [e, fup_eq] at j1
            rw [e]
            by_cases e2 : j = a
            · rw [if_pos ⟨rfl, by omega⟩, if_pos (by omega)]
            · rw [if_neg (show ¬ ((123 : Nat) = 123 ∧ 40 * x.2.1 k + j = 40 * x.2.1 k + a) by omega), if_neg (show ¬ 40 * x.2.1 k + j = 40 * x.2.1 k + a by omega)]
              by_cases e3 : a < j
              · rw [if_pos (by omega), if_pos (by omega), show 40 * x.2.1 k + j - 1 = 40 * x.2.1 k + (j - 1) by omega]
                exact hR _ (j - 1) (by omega) (by omega) (by omega) (by omega)
              · rw [if_neg (by omega), if_neg (by omega)]
                exact hR _ j (by omega) (by omega) j0 (by omega)
          · rw [fup_ne e] at j1
            rw [if_neg (by omega), if_neg (by omega), if_neg (by omega), if_neg (by omega)]
            exact hR i j i0 i1 j0 j1
        · show gI τ3 125 c = fup M.2.2.1 k 1 c
          rw [f3, sI_at, fup_at]
          by_cases q : c = k
          · rw [if_pos ⟨rfl, q⟩, if_pos q]
          · rw [if_neg (fun z => q z.2), if_neg q, f2, sI_ne (by omega), f1, sI_ne (by omega), y2 _ _ (by omega)]; exact hW c c0 c1
        · have hc : fup M.2.2.1 k 1 c = 3 := hc
          have q : c ≠ k := fun z => by rw [z, fup_eq] at hc; omega
          rw [fup_ne q] at hc
          rw [f3, sI_ne (by omega), f2, sI_ne (by omega), f1, sI_ne (by omega), y2 _ _ (by omega)]; exact hm c c0 c1 hc
      | succ m ihm =>
        intro τ hm' y1 y2
        refine vX12_putsIn_108 k (x.2.1 k) v a _ rk ri ⟨by omega, by omega⟩ ⟨by omega, by omega⟩ ⟨by omega, by omega⟩ τ Q ⟨fun z => by omega, fun _ => ⟨by omega, by omega, fun τ1 f1 => ?_⟩⟩
        rw [show a + ((m + 1 : Nat) : Int) + -1 = a + m by omega]
        refine ihm τ1 (by omega) (fun p => ?_) (fun c i hc => by rw [f1, sI_ne hc]; exact y2 c i hc)
        rw [f1, sI_at, y1 p, y1]
        by_cases e : p = 40 * x.2.1 k + (a + ((m + 1 : Nat) : Int))
        · rw [if_pos ⟨rfl, e⟩, if_neg (by omega), if_pos (by omega), e]
        · rw [if_neg (fun z => e z.2)]
          by_cases e2 : 40 * x.2.1 k + a + ((m + 1 : Nat) : Int) < p ∧ p ≤ 40 * x.2.1 k + M.2.1 (x.2.1 k)
          · rw [if_pos e2, if_pos (by omega)]
          · rw [if_neg e2, if_neg (by omega)]
    have := L (M.2.1 (x.2.1 k) - a).toNat σ (by omega) (fun p => by rw [if_neg (by omega)]) (fun _ _ _ => rfl)
    rw [show a + (((M.2.1 (x.2.1 k) - a).toNat : Nat) : Int) = M.2.1 (x.2.1 k) by omega] at this
    exact this
theorem c_placeIn (P : Int) (x : Tk) (hx : OKT P x) (hP : P ≤ 6) (I : Int → Int) (M : MS) (hM : WM x M) (k : Int) (hk : (0 ≤ k ∧ k < x.1) ∧ M.2.2.1 k = 1) (σ : gS) (hC : RMm σ x I P M) (Q : Int → gS → Prop) (h : Q (plc x M k) σ) : eX12_placeIn l G k σ Q := by
  have h40 := hx.2.1
  obtain ⟨⟨p0, p1⟩, p2, p3⟩ := plc_at hx hP hM hk.1.1 hk.1.2 hk.2
  have xk := hx.2.2 k hk.1.1 hk.1.2
  have li := WM_ld hx hM (i := x.2.1 k) (by omega) (by omega)
  have rk : gR k := ⟨by omega, by omega⟩
  have d1 := (hC.1.1.1.2 k hk.1.1 hk.1.2).1
  have hR := hC.2.2.1
  refine vX12_placeIn k rk σ Q ?_
  refine gloopI (α := Unit) 0 (plc x M k) (fun j _ => j ≤ plc x M k) (fun j _ => kX12_placeIn_2 l G k j σ Q) ?_ ?_ 0 () (by omega) p0
  · rintro j _ j0 j1 z0 ih
    refine vX12_placeIn_2 k j rk ⟨by omega, by omega⟩ σ Q ?_
    rw [d1, hR _ j (by omega) (by omega) j0 (by omega)]
    exact ⟨by omega, by omega, fun z => absurd z (p3 j j0 j1), fun _ => ih () (by omega)⟩
  · rintro j _ j0 z0
    have hj : j = plc x M k := by omega
    subst hj
    refine vX12_placeIn_2 k _ rk ⟨by omega, by omega⟩ σ Q ?_
    rw [d1, hR _ _ (by omega) (by omega) (by omega) p1, p2]
    exact ⟨by omega, by omega, fun _ => h, fun z => absurd rfl z⟩
theorem c_nextAsk (o P : Int) (ho : 0 ≤ o ∧ o < 6) (x : Tk) (hx : OKT P x) (I : Int → Int) (M : MS) (A : AS) (hA : KI x M A) (σ : gS) (hC : RA σ x I P M A) (Q : Int → gS → Prop) (h : Q (zLst (cNx x M.2.2.1 A.2.1 o) I x.1.toNat) σ) : eX12_nextAsk l G o σ Q := by
  have h40 := hx.2.1
  have hx0 := hx.1
  have ro : gR o := ⟨by omega, by omega⟩
  have hT := hC.1.1.1
  refine vX12_nextAsk o ro σ Q ?_
  refine gloopF (fLst (cNx x M.2.2.1 A.2.1 o) I) (-1) x.1 hx0 (fun k b => b = -1 ∨ (0 ≤ b ∧ b < k)) (fun k b => kX12_nextAsk_4 l G o b k σ Q) (Or.inl rfl) ?_ ?_
  · intro k b k0 k1 hp
    refine ⟨fLst_r k0 hp, fun ih => ?_⟩
    have ih : kX12_nextAsk_4 l G o (fLst (cNx x M.2.2.1 A.2.1 o) I k b) (k + 1) σ Q := ih
    obtain ⟨d1, d2, d3⟩ := hT.1.2 k k0 k1
    have dI := hT.2 k k0 k1
    unfold fLst at ih
    have cn : cNx x M.2.2.1 A.2.1 o k = (decide (x.2.2.1 k = o) && decide (M.2.2.1 k = 1) && decide (A.2.1 k = 0)) := rfl
    rw [cn] at ih
    refine vX12_nextAsk_4 o b k ro ⟨by omega, by omega⟩ ⟨by omega, by omega⟩ σ Q ?_
    rw [hT.1.1, hC.1.2.2.2.1 k k0 k1, d2, dI, hC.2.2 k k0 k1]
    refine ⟨fun z => by omega, fun _ => ⟨by omega, fun e => ?_, fun e => ⟨fun f => ?_, fun f => ⟨fun g => ⟨fun e2 => ?_, fun e2 => ⟨by omega, fun e3 => ?_, fun e3 => ?_⟩⟩, fun g => ?_⟩⟩⟩⟩
    · rw [if_neg (by simp [e])] at ih; exact ih
    · rw [if_neg (by simp [f])] at ih; exact ih
    · rw [if_pos (by simp [e, f, g]), if_pos e2] at ih; exact ih
    · rw [if_pos (by simp [e, f, g]), if_neg e2] at ih
      rw [hT.2 b (by omega) (by omega)] at e3
      rw [if_pos e3] at ih; exact ih
    · rw [if_pos (by simp [e, f, g]), if_neg e2] at ih
      rw [hT.2 b (by omega) (by omega)] at e3
      rw [if_neg (by omega)] at ih; exact ih
    · rw [if_neg (by simp [g])] at ih; exact ih
  · intro hp
    refine vX12_nextAsk_4 o _ x.1 ro ⟨by omega, by omega⟩ ⟨by omega, by omega⟩ σ Q ?_
    rw [hT.1.1]
    exact ⟨fun _ => h, fun z => by omega⟩
theorem c_isKept (o P : Int) (hP : 1 ≤ P ∧ P ≤ 6) (ho : 0 ≤ o ∧ o < 6) (x : Tk) (hx : OKT P x) (I : Int → Int) (M : MS) (A : AS) (hA : KI x M A) (σ : gS) (hC : RA σ x I P M A) (Q : Int → gS → Prop) (h : Q (hK x P A.1 o) σ) : eX12_isKept l G o σ Q := by
  have h40 := hx.2.1
  have ro : gR o := ⟨by omega, by omega⟩
  have hT := hC.1.1.1
  refine vX12_isKept o ro σ Q ?_
  refine gloopF (fHk x A.1 o) 0 P (by omega) (fun _ b => b = 0 ∨ b = 1) (fun i b => kX12_isKept_4 l G o b i σ Q) (Or.inl rfl) ?_ ?_
  · intro i b i0 i1 hp
    refine ⟨?_, fun ih => ?_⟩
    · unfold fHk
      split
      · split
        · omega
        · split <;> omega
      · omega
    have ih : kX12_isKept_4 l G o (fHk x A.1 o i b) (i + 1) σ Q := ih
    unfold fHk at ih
    refine vX12_isKept_4 o b i ro (gR_01 hp) ⟨by omega, by omega⟩ σ Q ?_
    rw [hC.1.1.2, hC.2.1 i i0 (by omega)]
    refine ⟨fun z => by omega, fun _ => ⟨⟨fun _ => trivial, fun _ => ⟨by omega, fun _ => trivial, fun z => ?_⟩⟩, fun v ev => ?_⟩⟩
    · have := (hA.1 i i0 (by omega) z).1
      exact ⟨by omega, fun _ => trivial, fun _ => trivial⟩
    · have : v = (if b = 0 then (if A.1 i = -1 then 0 else (if x.2.2.1 (A.1 i) = o then 1 else 0)) else 1) := by
        rw [ev]
        by_cases e : A.1 i = -1
        · rw [if_pos e, if_pos e]
        · have a := (hA.1 i i0 (by omega) e).1
          rw [(hT.1.2 _ a.1 a.2).2.1]
      rw [this]; exact ih
  · intro hp
    refine vX12_isKept_4 o _ P ro (gR_01 hp) ⟨by omega, by omega⟩ σ Q ?_
    rw [hC.1.1.2]
    exact ⟨fun _ => ⟨hp, h⟩, fun z => by omega⟩
end SS
