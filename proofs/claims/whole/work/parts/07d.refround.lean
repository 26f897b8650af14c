def frX (X : mX) : mX := (fun _ => false, fun _ => false, X.2.2.1, X.2.2.2.1, fun _ => -1)
def frB (b : Nat) (σ τ : gS) : Prop := ∀ c i, c < b ∨ b + 5 < c → gI τ c i = gI σ c i
theorem okX_fr {P : Int} {X : mX} (h : okX P X) : okX P (frX X) := h
/-- the reference's matcher -/
def MM (σ : gS) (P full : Int) (ask : Int → Int → Bool) (X : mX) : Prop :=
  gI σ 88 10 = P ∧ isM (gI σ 88 41) (fun i => decide (i < P) && X.1 i) ∧ isM (gI σ 88 42) (fun o => decide (o < P) && X.2.1 o) ∧
  (∀ o, 0 ≤ o → o < 6 → gI σ 92 o = X.2.2.1 o ∧ gI σ 93 o = X.2.2.2.1 o ∧ gI σ 111 o = X.2.2.2.2 o) ∧
  ∀ i o, 0 ≤ i → i < P → 0 ≤ o → o < P → ask i o = decide (full = 1 ∨ 0 < gI σ 95 (6 * i + o))
def frR (σ τ : gS) : Prop := ∀ c i, c ≠ 92 → c ≠ 93 → c ≠ 111 → c ≠ 113 → ¬ (c = 88 ∧ (i = 41 ∨ i = 42)) → gI τ c i = gI σ c i
theorem frR.rfl' {σ : gS} : frR σ σ := fun _ _ _ _ _ _ _ => rfl
theorem frR.trans {σ τ υ : gS} (h : frR σ τ) (k : frR τ υ) : frR σ υ := fun c i a b d e f => (k c i a b d e f).trans (h c i a b d e f)
theorem frR.set {σ : gS} {c : Nat} {i v : Int} (hc : (c = 88 ∧ (i = 41 ∨ i = 42)) ∨ c = 92 ∨ c = 93 ∨ c = 111 ∨ c = 113) : frR σ (sI σ c i v) := fun c' i' a b d e f => by rw [sI_at, if_neg (by omega)]
theorem emod_nxt {P g : Int} (hP : 1 ≤ P) : (g + 1) % P = nxt P (g % P) := by
  have h1 := Int.emod_nonneg g (show P ≠ 0 by omega)
  have h2 := Int.emod_lt_of_pos g (show 0 < P by omega)
  have h3 : (g + 1) % P = (g % P + 1) % P := by rw [Int.emod_add_emod]
  unfold nxt
  rw [h3]
  split
  · exact Int.emod_eq_of_lt (by omega) (by omega)
  · rw [show g % P + 1 = P by omega, Int.emod_self]
section MT
variable {l : Launch} {G : gG}
theorem c_free (b : Nat) (hb : b = 45 ∨ b = 59) (P : Int) (hP : 1 ≤ P ∧ P ≤ 6) (σ : gS) (h0 : gI σ b 0 = P) (Q : gS → Prop)
    (h : ∀ τ, gI τ b 0 = P → isM (gI τ b 5) (fun i => decide (i < P)) → isM (gI τ b 6) (fun i => decide (i < P)) → (∀ o, 0 ≤ o → o < 6 → gI τ (b + 4) o = -1) → (∀ k, k ≠ 0 → k ≠ 4 → ∀ i, gI τ (b + k) i = gI σ (b + k) i) → (∀ c i, c < b ∨ b + 5 < c → gI τ c i = gI σ c i) → τ.2 = σ.2 → Q τ) : eX4_free l G b σ Q := by
  have hm := isM_full P hP
  refine vX4_free b hb σ Q ?_
  rw [h0]
  refine ⟨⟨by have := hm.1; omega, by have := hm.2.1; omega⟩, fun σ1 e1 σ2 e2 => ?_⟩
  have a5 : gI σ1 b 5 = gshl 1 P - 1 := by rw [e1, sI_eq]
  rw [a5] at e2
  refine gloopI (α := gS) 0 6 (fun j τ => j ≤ 6 ∧ gI τ b 0 = P ∧ gI τ b 5 = gshl 1 P - 1 ∧ gI τ b 6 = gshl 1 P - 1 ∧ (∀ o, 0 ≤ o → o < j → gI τ (b + 4) o = -1) ∧ (∀ k, k ≠ 0 → k ≠ 4 → ∀ i, gI τ (b + k) i = gI σ (b + k) i) ∧ (∀ c i, c < b ∨ b + 5 < c → gI τ c i = gI σ c i) ∧ τ.2 = σ.2) (fun j τ => kX4_free_22 l G b j τ Q) ?_ ?_ 0 σ2 (by omega) ⟨by omega, ?_, ?_, ?_, fun o o0 o1 => by omega, fun k k0 k4 i => ?_, fun c i hc => ?_, by rw [e2, e1]; rfl⟩
  · rintro j τ j0 j1 ⟨z0, z1, z2, z3, z4, z5, z6, z7⟩ ih
    refine vX4_free_22 b j hb ⟨by omega, by omega⟩ τ Q ⟨fun e => by omega, fun _ => ⟨by omega, fun υ eu => ih υ ⟨by omega, ?_, ?_, ?_, fun o o0 o1 => ?_, fun k k0 k4 i => ?_, fun c i hc => ?_, by rw [eu]; exact z7⟩⟩⟩
    · rw [eu, sI_ne (by omega)]; exact z1
    · rw [eu, sI_ne (by omega)]; exact z2
    · rw [eu, sI_ne (by omega)]; exact z3
    · rw [eu, sI_at]
      split
      · rfl
      · rename_i hq; exact z4 o o0 (by omega)
    · rw [eu, sI_ne (by omega)]; exact z5 k k0 k4 i
    · rw [eu, sI_ne (by omega)]; exact z6 c i hc
  · rintro j τ j0 ⟨z0, z1, z2, z3, z4, z5, z6, z7⟩
    have hj : j = 6 := by omega
    subst hj
    exact vX4_free_22 b 6 hb (by decide) τ Q ⟨fun _ => h τ z1 (by rw [z2]; exact hm) (by rw [z3]; exact hm) z4 z5 z6 z7, fun e => by omega⟩
  · rw [e2, sI_nei (by omega), e1, sI_nei (by omega)]; exact h0
  · rw [e2, sI_nei (by omega), e1, sI_eq]
  · rw [e2, sI_eq]
  · rw [e2, sI_ne (by omega), e1, sI_ne (by omega)]
  · rw [e2, sI_ne (by omega), e1, sI_ne (by omega)]
theorem c_freeC (b : Nat) (hb : b = 45 ∨ b = 59) (P : Int) (hP : 1 ≤ P ∧ P ≤ 6) (ask : Int → Int → Bool) (X : mX) (σ : gS) (hC : CM σ b P ask X) (Q : gS → Prop) (h : ∀ τ, CM τ b P ask (frX X) → frM b σ τ → Q τ) : eX4_free l G b σ Q := by
  obtain ⟨c1, c2, c3, c4, c5⟩ := hC
  refine c_free b hb P hP σ c1 Q (fun τ t0 t5 t6 t4 tk tf tl => h τ ⟨t0, isM_congr t5 (fun k _ _ => by simp [frX]), isM_congr t6 (fun k _ _ => by simp [frX]), fun o o0 o1 => ?_, fun o o0 o1 => ?_⟩ ⟨tf, tk 3 (by omega) (by omega), by rw [t0, c1], tl⟩)
  · rw [tk 1 (by omega) (by omega), tk 2 (by omega) (by omega), t4 o o0 o1]
    exact ⟨(c4 o o0 o1).1, (c4 o o0 o1).2.1, rfl⟩
  · rw [tk 3 (by omega) (by omega)]; exact c5 o o0 o1
/-- a matcher at its beginning -/
def bgX (P p : Int) : mX := (fun _ => false, fun _ => false, fun _ => p % P, fun _ => p % P, fun _ => -1)
theorem okX_bg {P p : Int} (hP : 1 ≤ P) : okX P (bgX P p) := fun o _ _ => by
  have h1 := Int.emod_nonneg p (show P ≠ 0 by omega)
  have h2 := Int.emod_lt_of_pos p (show 0 < P by omega)
  exact ⟨h1, h2, h1, h2⟩
theorem c_begin (b : Nat) (hb : b = 45 ∨ b = 59) (P p : Int) (hP : 1 ≤ P ∧ P ≤ 6) (hp : 0 ≤ p ∧ p ≤ 5) (σ : gS) (Q : gS → Prop) (h : ∀ τ, CM τ b P (fun _ _ => false) (bgX P p) → (∀ o, 0 ≤ o → o < 6 → gI τ (b + 3) o = 0) → frB b σ τ → Q τ) : eX4_begin l G b P p σ Q := by
  refine vX4_begin b P p hb ⟨by omega, by omega⟩ ⟨by omega, by omega⟩ σ Q (fun σ1 e1 => ?_)
  rw [show max 1 (min 6 P) = P by omega] at e1
  refine gloopI (α := gS) 0 6 (fun j τ => j ≤ 6 ∧ gI τ b 0 = P ∧ (∀ o, 0 ≤ o → o < j → gI τ (b + 1) o = p % P ∧ gI τ (b + 2) o = p % P ∧ gI τ (b + 3) o = 0) ∧ frB b σ τ) (fun j τ => kX4_begin_16 l G b P p j τ Q) ?_ ?_ 0 σ1 (by omega) ⟨by omega, ?_, fun o o0 o1 => by omega, fun c i hc => ?_⟩
  · rintro j τ j0 j1 ⟨z0, z1, z2, z3⟩ ih
    refine vX4_begin_16 b P p j hb ⟨by omega, by omega⟩ ⟨by omega, by omega⟩ ⟨by omega, by omega⟩ τ Q ⟨fun e => by omega, fun _ => ⟨by omega, by omega, fun τ1 t1 => ⟨?_, fun τ2 t2 τ3 t3 => ih τ3 ⟨by omega, ?_, fun o o0 o1 => ?_, fun c i hc => ?_⟩⟩⟩⟩
    · rw [t1, sI_ne (by omega)]; omega
    · rw [t3, sI_ne (by omega), t2, sI_ne (by omega), t1, sI_ne (by omega)]; exact z1
    · have q0 : gI τ1 b 0 = P := by rw [t1, sI_ne (by omega)]; exact z1
      rw [q0, grem_pos p P (by omega) (by omega)] at t2
      rw [z1, grem_pos p P (by omega) (by omega)] at t1
      by_cases ho : o = j
      · subst ho
        refine ⟨?_, ?_, ?_⟩
        · rw [t3, sI_ne (by omega), t2, sI_ne (by omega), t1, sI_eq]
        · rw [t3, sI_ne (by omega), t2, sI_eq]
        · rw [t3, sI_eq]
      · obtain ⟨w1, w2, w3⟩ := z2 o o0 (by omega)
        refine ⟨?_, ?_, ?_⟩
        · rw [t3, sI_ne (by omega), t2, sI_ne (by omega), t1, sI_nei ho]; exact w1
        · rw [t3, sI_ne (by omega), t2, sI_nei ho, t1, sI_ne (by omega)]; exact w2
        · rw [t3, sI_nei ho, t2, sI_ne (by omega), t1, sI_ne (by omega)]; exact w3
    · rw [t3, sI_ne (by omega), t2, sI_ne (by omega), t1, sI_ne (by omega)]; exact z3 c i hc
  · rintro j τ j0 ⟨z0, z1, z2, z3⟩
    have hj : j = 6 := by omega
    subst hj
    refine vX4_begin_16 b P p 6 hb ⟨by omega, by omega⟩ ⟨by omega, by omega⟩ (by decide) τ Q ⟨fun _ => ?_, fun e => by omega⟩
    refine c_free b hb P hP τ z1 _ (fun υ t0 t5 t6 t4 tk tf _ => h υ ⟨t0, isM_congr t5 (fun k _ _ => by simp [bgX]), isM_congr t6 (fun k _ _ => by simp [bgX]), fun o o0 o1 => ?_, fun o o0 o1 => ?_⟩ (fun o o0 o1 => ?_) (fun c i hc => ?_))
    · rw [tk 1 (by omega) (by omega), tk 2 (by omega) (by omega), t4 o o0 o1]
      exact ⟨(z2 o o0 o1).1, (z2 o o0 o1).2.1, rfl⟩
    · rw [tk 3 (by omega) (by omega), (z2 o o0 (by omega)).2.2]
      exact isM_congr isM_0 (fun k _ _ => by simp)
    · rw [tk 3 (by omega) (by omega)]; exact (z2 o o0 o1).2.2
    · rw [tf c i hc]; exact z3 c i hc
  · rw [e1, sI_eq]
  · rw [e1, sI_ne (by omega)]
theorem c_asks (P full : Int) (hP : 1 ≤ P ∧ P ≤ 6) (hf : full = 0 ∨ full = 1) (ask : Int → Int → Bool) (X : mX) (i o : Int) (hi : 0 ≤ i ∧ i < P) (ho : 0 ≤ o ∧ o < P) (σ : gS) (hM : MM σ P full ask X) (Q : Int → gS → Prop)
    (h : Q (if (!X.1 i && !X.2.1 o && ask i o) = true then 1 else 0) σ) : eX12_asks l G i o full σ Q := by
  obtain ⟨m1, m2, m3, m4, m5⟩ := hM
  have t1 : tb (gI σ 88 41) i = X.1 i := by rw [m2.2.2 i (by omega) (by omega)]; simp [hi.2]
  have t2 : tb (gI σ 88 42) o = X.2.1 o := by rw [m3.2.2 o (by omega) (by omega)]; simp [ho.2]
  have q1 := m2.1; have q2 := m2.2.1; have q3 := m3.1; have q4 := m3.2.1
  refine vX12_asks i o full ⟨by omega, by omega⟩ ⟨by omega, by omega⟩ (gR_01 hf) σ Q ?_
  rw [tb_eq _ i (by omega) (by omega), tb_eq _ o (by omega) (by omega), t1, t2]
  by_cases hb : X.1 i = true
  · rw [hb] at h
    refine ⟨fun _ => by simpa using h, fun e => absurd e (by simp [hb])⟩
  · have hb' : X.1 i = false := by simpa using hb
    rw [hb'] at h
    refine ⟨fun e => absurd (by simp [hb']) e, fun _ => ?_⟩
    by_cases hc : X.2.1 o = true
    · rw [hc] at h
      refine ⟨fun _ => by simpa using h, fun e => absurd e (by simp [hc])⟩
    · have hc' : X.2.1 o = false := by simpa using hc
      rw [hc', m5 i o hi.1 hi.2 ho.1 ho.2] at h
      refine ⟨fun e => absurd (by simp [hc']) e, fun _ => ⟨fun e => ?_, fun e => ?_⟩⟩
      · have hf1 : full = 1 := by omega
        simpa [hf1] using h
      · refine vX12_at i o ⟨by omega, by omega⟩ ⟨by omega, by omega⟩ σ _ ⟨⟨by omega, by omega⟩, fun _ => ⟨by omega, fun v hv => ?_⟩⟩
        rw [hv]
        by_cases hq : gI σ 95 (6 * i + o) ≤ 0
        · rw [if_pos hq]
          have h9 : ¬ (full = 1 ∨ 0 < gI σ 95 (6 * i + o)) := by omega
          simpa [h9] using h
        · rw [if_neg hq]
          have h9 : (full = 1 ∨ 0 < gI σ 95 (6 * i + o)) := by omega
          simpa [h9] using h
theorem MM.same {σ τ : gS} {P full : Int} {ask : Int → Int → Bool} {X : mX} (h : MM σ P full ask X) (h0 : gI τ 88 10 = gI σ 88 10) (h1 : gI τ 88 41 = gI σ 88 41) (h2 : gI τ 88 42 = gI σ 88 42) (h3 : ∀ i, gI τ 92 i = gI σ 92 i) (h4 : ∀ i, gI τ 93 i = gI σ 93 i) (h5 : ∀ i, gI τ 111 i = gI σ 111 i) (h6 : ∀ i, gI τ 95 i = gI σ 95 i) : MM τ P full ask X := by
  obtain ⟨m1, m2, m3, m4, m5⟩ := h
  refine ⟨by rw [h0]; exact m1, by rw [h1]; exact m2, by rw [h2]; exact m3, fun o o0 o1 => ?_, fun i o i0 i1 o0 o1 => ?_⟩
  · rw [h3, h4, h5]; exact m4 o o0 o1
  · rw [h6]; exact m5 i o i0 i1 o0 o1
/-- a round, by the reference -/
theorem c_roundR (P full : Int) (hP : 1 ≤ P ∧ P ≤ 6) (hf : full = 0 ∨ full = 1) (ask : Int → Int → Bool) (X : mX) (hX : okX P X) (x1 : Int) (h1 : x1 = 0 ∨ x1 = 1) (σ : gS) (hM : MM σ P full ask X) (Q : gS → Prop)
    (h : ∀ τ, MM τ P full ask (sRound P (decide (x1 = 1)) ask X) → frR σ τ → Q τ) : eX12_round l G x1 full σ Q := by
  have r1 : gR x1 := gR_01 h1
  have rf : gR full := gR_01 hf
  refine vX12_round x1 full r1 rf σ Q ?_
  -- accepting
  have L2 : ∀ τ, MM τ P full ask X → frR σ τ → (∀ o, 0 ≤ o → o < P → gI τ 113 o = sGd P ask X o) → kX12_round_92 l G x1 full 0 τ Q := by
    intro τ0 hM0 hF0 hG0
    refine gloopI (α := gS) 0 P (fun i τ => i ≤ P ∧ MM τ P full ask (sAccs P (decide (x1 = 1)) (sGd P ask X) i.toNat X) ∧ frR σ τ ∧ (∀ o, gI τ 113 o = gI τ0 113 o)) (fun i τ => kX12_round_92 l G x1 full i τ Q) ?_ ?_ 0 τ0 (by omega) ⟨by omega, hM0, hF0, fun _ => rfl⟩
    · rintro i τ i0 i1 ⟨z0, zM, zF, zG⟩ ih
      have hp : gI τ 88 10 = P := zM.1
      have okI := okX_accs (f := decide (x1 = 1)) (gd := sGd P ask X) hX i.toNat (by omega)
      have hok := okI i (by omega) (by omega)
      have hac : gI τ 93 i = (sAccs P (decide (x1 = 1)) (sGd P ask X) i.toNat X).2.2.2.1 i := (zM.2.2.2.1 i (by omega) (by omega)).2.1
      have hstep : sAccs P (decide (x1 = 1)) (sGd P ask X) (i + 1).toNat X = sAcc P (decide (x1 = 1)) (sGd P ask X) i (sAccs P (decide (x1 = 1)) (sGd P ask X) i.toNat X) := by
        rw [show (i + 1).toNat = i.toNat + 1 by omega]
        show sAcc _ _ _ ((i.toNat : Nat) : Int) _ = _
        rw [show ((i.toNat : Nat) : Int) = i by omega]
      refine vX12_round_92 x1 full i r1 rf ⟨by omega, by omega⟩ τ Q ?_
      rw [hp]
      refine ⟨fun e => by omega, fun _ => ?_⟩
      generalize hY : sAccs P (decide (x1 = 1)) (sGd P ask X) i.toNat X = Y at *
      -- found one
      have found : ∀ o, 0 ≤ o → o < P → o = sBest P (sGd P ask X) i Y → ∀ σ27, σ27 = sI τ 111 o i → ∀ σ31, σ31 = sI σ27 88 41 (gor (gI σ27 88 41) (gshl 1 i)) → ∀ σ35, σ35 = sI σ31 88 42 (gor (gI σ31 88 42) (gshl 1 o)) →
          (¬ x1 = 0 → ((gI σ35 88 10) ≠ 0) ∧ (0 ≤ i ∧ i < 6) ∧ ∀ σ41, σ41 = sI σ35 93 i (grem (o + 1) (gI σ35 88 10)) → ((gI σ41 88 10) ≠ 0) ∧ ∀ σ45, σ45 = sI σ41 92 o (grem (i + 1) (gI σ41 88 10)) → kX12_round_92 l G x1 full (i + 1) σ45 Q) ∧
          (x1 = 0 → kX12_round_92 l G x1 full (i + 1) σ35 Q) := by
        intro o o0 o1 hbo σ27 e27 σ31 e31 σ35 e35
        obtain ⟨m1, m2, m3, m4, m5⟩ := zM
        have a1 : gI σ27 88 41 = gI τ 88 41 := by rw [e27, sI_ne (by omega)]
        have a2 : gI σ31 88 42 = gI τ 88 42 := by rw [e31, sI_nei (by omega), e27, sI_ne (by omega)]
        rw [a1] at e31
        rw [a2] at e35
        have b41 : gI σ35 88 41 = gor (gI τ 88 41) (gshl 1 i) := by rw [e35, sI_nei (by omega), e31, sI_eq]
        have b42 : gI σ35 88 42 = gor (gI τ 88 42) (gshl 1 o) := by rw [e35, sI_eq]
        have b10 : gI σ35 88 10 = P := by rw [e35, sI_nei (by omega), e31, sI_nei (by omega), e27, sI_ne (by omega)]; exact hp
        have bo : ∀ c k, c ≠ 88 → c ≠ 111 → gI σ35 c k = gI τ c k := fun c k c1 c2 => by rw [e35, sI_ne c1, e31, sI_ne c1, e27, sI_ne c2]
        have b11 : ∀ k, gI σ35 111 k = if k = o then i else gI τ 111 k := fun k => by
          rw [e35, sI_ne (by omega), e31, sI_ne (by omega), e27, sI_at]
          by_cases hk : k = o
          · rw [if_pos ⟨rfl, hk⟩, if_pos hk]
          · rw [if_neg (fun z => hk z.2), if_neg hk]
        have n41 := isM_congr (isM_set m2 i (by omega)) (q := fun k => decide (k < P) && (Y.1 k || decide (i = k))) (fun k _ _ => by
          by_cases hk : i = k
          · subst hk; simp [i1]
          · simp [hk])
        have n42 := isM_congr (isM_set m3 o (by omega)) (q := fun k => decide (k < P) && (Y.2.1 k || decide (o = k))) (fun k _ _ => by
          by_cases hk : o = k
          · subst hk; simp [o1]
          · simp [hk])
        have F35 : frR τ σ35 := by
          rw [e35, e31, e27]
          exact ((frR.set (by omega)).trans (frR.set (by omega))).trans (frR.set (by omega))
        have hsp : sAcc P (decide (x1 = 1)) (sGd P ask X) i Y = sPair P (decide (x1 = 1)) i o Y := by
          unfold sAcc; rw [if_neg (by omega), ← hbo]
        rcases h1 with rfl | rfl
        · refine ⟨fun e => absurd rfl e, fun _ => ih σ35 ⟨by omega, ?_, zF.trans F35, fun k => by rw [bo 113 k (by omega) (by omega)]; exact zG k⟩⟩
          rw [hstep, hsp]
          refine ⟨b10, by rw [b41]; exact n41, by rw [b42]; exact n42, fun k k0 k1 => ?_, fun a c a0 a1 c0 c1 => ?_⟩
          · obtain ⟨q1, q2, q3⟩ := m4 k k0 k1
            rw [bo 92 k (by omega) (by omega), bo 93 k (by omega) (by omega), b11]
            refine ⟨q1, q2, ?_⟩
            show _ = (if k = o then i else Y.2.2.2.2 k)
            split
            · rfl
            · exact q3
          · rw [bo 95 _ (by omega) (by omega)]; exact m5 a c a0 a1 c0 c1
        · refine ⟨fun _ => ⟨by omega, by omega, fun σ41 e41 => ?_⟩, fun e => absurd e (by decide)⟩
          rw [b10, grem_pos (o + 1) P (by omega) (by omega), emod_nxt hP.1, Int.emod_eq_of_lt o0 o1] at e41
          have d10 : gI σ41 88 10 = P := by rw [e41, sI_ne (by omega)]; exact b10
          refine ⟨by omega, fun σ45 e45 => ih σ45 ⟨by omega, ?_, ?_, fun k => ?_⟩⟩
          · rw [d10, grem_pos (i + 1) P (by omega) (by omega), emod_nxt hP.1, Int.emod_eq_of_lt i0 i1] at e45
            rw [hstep, hsp]
            refine ⟨?_, ?_, ?_, fun k k0 k1 => ?_, fun a c a0 a1 c0 c1 => ?_⟩
            · rw [e45, sI_ne (by omega)]; exact d10
            · rw [e45, sI_ne (by omega), e41, sI_ne (by omega), b41]; exact n41
            · rw [e45, sI_ne (by omega), e41, sI_ne (by omega), b42]; exact n42
            · obtain ⟨q1, q2, q3⟩ := m4 k k0 k1
              refine ⟨?_, ?_, ?_⟩
              · rw [e45, sI_at]
                show _ = (if k = o then nxt P i else Y.2.2.1 k)
                by_cases hk : k = o
                · rw [if_pos ⟨rfl, hk⟩, if_pos hk]
                · rw [if_neg (fun z => hk z.2), if_neg hk, e41, sI_ne (by omega), bo 92 k (by omega) (by omega)]; exact q1
              · rw [e45, sI_ne (by omega), e41, sI_at]
                show _ = (if k = i then nxt P o else Y.2.2.2.1 k)
                by_cases hk : k = i
                · rw [if_pos ⟨rfl, hk⟩, if_pos hk]
                · rw [if_neg (fun z => hk z.2), if_neg hk, bo 93 k (by omega) (by omega)]; exact q2
              · rw [e45, sI_ne (by omega), e41, sI_ne (by omega), b11]
                show _ = (if k = o then i else Y.2.2.2.2 k)
                split
                · rfl
                · exact q3
            · rw [e45, sI_ne (by omega), e41, sI_ne (by omega), bo 95 _ (by omega) (by omega)]; exact m5 a c a0 a1 c0 c1
          · rw [e45, e41]; exact ((zF.trans F35).trans (frR.set (by omega))).trans (frR.set (by omega))
          · rw [e45, sI_ne (by omega), e41, sI_ne (by omega), bo 113 k (by omega) (by omega)]; exact zG k
      have none : sBest P (sGd P ask X) i Y = -1 → kX12_round_92 l G x1 full (i + 1) τ Q := by
        intro e
        refine ih τ ⟨by omega, ?_, zF, zG⟩
        rw [hstep]; unfold sAcc; rw [if_pos e]; exact zM
      -- the search
      have key : ∀ (n : Nat) (x4 x5 : Int), x5 + n = P → 0 ≤ x5 → ((x4 = -1 ∧ fstF (fun o => decide (sGd P ask X o = i)) P n ((gI τ 93 i + x5) % P) = sBest P (sGd P ask X) i Y) ∨ (0 ≤ x4 ∧ x4 < P ∧ x4 = sBest P (sGd P ask X) i Y)) → kX12_round_106 l G x1 full i x4 x5 τ Q := by
        intro n
        induction n with
        | zero =>
          intro x4 x5 e0 e1 hx
          refine vX12_round_106 x1 full i x4 x5 r1 rf ⟨by omega, by omega⟩ ⟨by omega, by omega⟩ ⟨by omega, by omega⟩ τ Q ?_
          rw [hp]
          refine ⟨fun _ => ?_, fun e => by omega⟩
          rcases hx with ⟨hx1, hx2⟩ | ⟨hx1, hx2, hx3⟩
          · exact ⟨fun e => absurd hx1 e, fun _ => none hx2.symm⟩
          · exact ⟨fun _ => ⟨by omega, found x4 hx1 hx2 hx3⟩, fun e => by omega⟩
        | succ n ihn =>
          intro x4 x5 e0 e1 hx
          refine vX12_round_106 x1 full i x4 x5 r1 rf ⟨by omega, by omega⟩ ⟨by omega, by omega⟩ ⟨by omega, by omega⟩ τ Q ?_
          rw [hp]
          refine ⟨fun e => by omega, fun _ => ?_⟩
          rcases hx with ⟨hx1, hx2⟩ | ⟨hx1, hx2, hx3⟩
          · refine ⟨fun e => absurd hx1 e, fun _ => ?_⟩
            have hpos : 0 ≤ gI τ 93 i := by rw [hac]; exact hok.2.2.1
            have hlt : gI τ 93 i < P := by rw [hac]; exact hok.2.2.2
            have s1 := Int.emod_nonneg (gI τ 93 i + x5) (show P ≠ 0 by omega)
            have s2 := Int.emod_lt_of_pos (gI τ 93 i + x5) (show 0 < P by omega)
            rw [grem_pos (gI τ 93 i + x5) P (by omega) (by omega)]
            refine ⟨by omega, by omega, by omega, fun v hv => ?_⟩
            have hgd : gI τ 113 ((gI τ 93 i + x5) % P) = sGd P ask X ((gI τ 93 i + x5) % P) := by rw [zG]; exact hG0 _ s1 s2
            rw [hgd] at hv
            unfold fstF at hx2
            refine ihn v (x5 + 1) (by omega) (by omega) ?_
            by_cases hq : sGd P ask X ((gI τ 93 i + x5) % P) = i
            · rw [if_pos (by simp [hq])] at hx2
              rw [if_pos hq] at hv
              exact Or.inr ⟨by omega, by omega, by rw [hv]; exact hx2⟩
            · rw [if_neg (by simp [hq])] at hx2
              rw [if_neg hq] at hv
              refine Or.inl ⟨hv, ?_⟩
              rw [show gI τ 93 i + (x5 + 1) = (gI τ 93 i + x5) + 1 by omega, emod_nxt hP.1]
              exact hx2
          · exact ⟨fun _ => ⟨fun _ => ⟨by omega, found x4 hx1 hx2 hx3⟩, fun e => by omega⟩, fun e => by omega⟩
      refine key P.toNat (-1) 0 (by omega) (by omega) (Or.inl ⟨rfl, ?_⟩)
      rw [Int.add_zero, Int.emod_eq_of_lt (by rw [hac]; exact hok.2.2.1) (by rw [hac]; exact hok.2.2.2), hac]
      rfl
    · rintro i τ i0 ⟨z0, zM, zF, zG⟩
      have hi : i = P := by omega
      subst hi
      refine vX12_round_92 x1 full i r1 rf ⟨by omega, by omega⟩ τ Q ?_
      rw [zM.1]
      exact ⟨fun _ => h τ zM zF, fun e => by omega⟩
  -- granting
  refine gloopI (α := gS) 0 P (fun o τ => o ≤ P ∧ MM τ P full ask X ∧ frR σ τ ∧ (∀ k, 0 ≤ k → k < o → gI τ 113 k = sGd P ask X k)) (fun o τ => kX12_round_2 l G x1 full o τ Q) ?_ ?_ 0 σ (by omega) ⟨by omega, hM, frR.rfl', fun k k0 k1 => by omega⟩
  · rintro o τ o0 o1 ⟨z0, zM, zF, zG⟩ ih
    have hok := hX o (by omega) (by omega)
    have hgr : gI τ 92 o = X.2.2.1 o := (zM.2.2.2.1 o (by omega) (by omega)).1
    refine vX12_round_2 x1 full o r1 rf ⟨by omega, by omega⟩ τ Q ?_
    rw [zM.1]
    refine ⟨fun e => by omega, fun _ => ⟨by omega, fun τ1 e1 => ?_⟩⟩
    have key : ∀ (n : Nat) (x4 : Int) (υ : gS), x4 + n = P → 0 ≤ x4 → (∀ c k, ¬ (c = 113 ∧ k = o) → gI υ c k = gI τ c k) → ((gI υ 113 o = -1 ∧ fstF (fun i => !X.1 i && !X.2.1 o && ask i o) P n ((gI τ 92 o + x4) % P) = sGd P ask X o) ∨ (gI υ 113 o ≠ -1 ∧ gI υ 113 o = sGd P ask X o)) → kX12_round_20 l G x1 full o x4 υ Q := by
      intro n
      have fin : ∀ υ : gS, (∀ c k, ¬ (c = 113 ∧ k = o) → gI υ c k = gI τ c k) → gI υ 113 o = sGd P ask X o → kX12_round_2 l G x1 full (o + 1) υ Q := by
        intro υ hu hg
        refine ih υ ⟨by omega, zM.same (hu _ _ (by omega)) (hu _ _ (by omega)) (hu _ _ (by omega)) (fun _ => hu _ _ (by omega)) (fun _ => hu _ _ (by omega)) (fun _ => hu _ _ (by omega)) (fun _ => hu _ _ (by omega)), fun c k a1 a2 a3 a4 a5 => by rw [hu c k (by omega)]; exact zF c k a1 a2 a3 a4 a5, fun k k0 k1 => ?_⟩
        by_cases hk : k = o
        · rw [hk]; exact hg
        · rw [hu _ _ (by omega)]; exact zG k k0 (by omega)
      induction n with
      | zero =>
        intro x4 υ e0 e1' hu hx
        refine vX12_round_20 x1 full o x4 r1 rf ⟨by omega, by omega⟩ ⟨by omega, by omega⟩ υ Q ?_
        have hp : gI υ 88 10 = P := by rw [hu _ _ (by omega)]; exact zM.1
        rw [hp]
        refine ⟨fun _ => fin υ hu ?_, fun e => by omega⟩
        rcases hx with ⟨hx1, hx2⟩ | ⟨hx1, hx2⟩
        · rw [hx1]; exact hx2
        · exact hx2
      | succ n ihn =>
        intro x4 υ e0 e1' hu hx
        refine vX12_round_20 x1 full o x4 r1 rf ⟨by omega, by omega⟩ ⟨by omega, by omega⟩ υ Q ?_
        have hp : gI υ 88 10 = P := by rw [hu _ _ (by omega)]; exact zM.1
        have uM : MM υ P full ask X := zM.same (hu _ _ (by omega)) (hu _ _ (by omega)) (hu _ _ (by omega)) (fun _ => hu _ _ (by omega)) (fun _ => hu _ _ (by omega)) (fun _ => hu _ _ (by omega)) (fun _ => hu _ _ (by omega))
        have u92 : gI υ 92 o = gI τ 92 o := hu _ _ (by omega)
        rw [hp, u92]
        refine ⟨fun e => by omega, fun _ => ⟨by omega, fun e => ?_, fun e => ?_⟩⟩
        · rcases hx with ⟨hx1, hx2⟩ | ⟨hx1, hx2⟩
          · exact absurd hx1 e
          · exact fin υ hu hx2
        · rcases hx with ⟨hx1, hx2⟩ | ⟨hx1, hx2⟩
          · have hpos : 0 ≤ gI τ 92 o := by rw [hgr]; exact hok.1
            have hlt : gI τ 92 o < P := by rw [hgr]; exact hok.2.1
            have s1 := Int.emod_nonneg (gI τ 92 o + x4) (show P ≠ 0 by omega)
            have s2 := Int.emod_lt_of_pos (gI τ 92 o + x4) (show 0 < P by omega)
            rw [grem_pos (gI τ 92 o + x4) P (by omega) (by omega)]
            refine ⟨by omega, c_asks P full hP hf ask X _ o ⟨s1, s2⟩ ⟨o0, o1⟩ υ uM _ (fun _ v hv υ1 ev => ?_)⟩
            have hu1 : ∀ c k, ¬ (c = 113 ∧ k = o) → gI υ1 c k = gI τ c k := fun c k hc => by rw [ev, sI_at, if_neg hc]; exact hu c k hc
            have hu2 : gI υ1 113 o = v := by rw [ev, sI_eq]
            refine ihn (x4 + 1) υ1 (by omega) (by omega) hu1 ?_
            rw [hu2]
            unfold fstF at hx2
            by_cases hq : (!X.1 ((gI τ 92 o + x4) % P) && !X.2.1 o && ask ((gI τ 92 o + x4) % P) o) = true
            · rw [if_pos hq] at hx2 hv
              rw [if_neg (by decide)] at hv
              exact Or.inr ⟨by omega, by rw [hv]; exact hx2⟩
            · rw [if_neg hq] at hx2 hv
              rw [if_pos rfl] at hv
              refine Or.inl ⟨hv, ?_⟩
              rw [show gI τ 92 o + (x4 + 1) = (gI τ 92 o + x4) + 1 by omega, emod_nxt hP.1]
              exact hx2
          · exact absurd e hx1
    refine key P.toNat 0 τ1 (by omega) (by omega) (fun c k hc => by rw [e1, sI_at, if_neg hc]) (Or.inl ⟨by rw [e1, sI_eq], ?_⟩)
    rw [Int.add_zero, Int.emod_eq_of_lt (by rw [hgr]; exact hok.1) (by rw [hgr]; exact hok.2.1), hgr]
    rfl
  · rintro o τ o0 ⟨z0, zM, zF, zG⟩
    have ho : o = P := by omega
    subst ho
    refine vX12_round_2 x1 full o r1 rf ⟨by omega, by omega⟩ τ Q ?_
    rw [zM.1]
    exact ⟨fun _ => L2 τ zM zF zG, fun e => by omega⟩
/-- the rounds, by the reference: from any matches -/
theorem c_matches (P full : Int) (hP : 1 ≤ P ∧ P ≤ 6) (hf : full = 0 ∨ full = 1) (ask : Int → Int → Bool) (X : mX) (hX : okX P X) (n : Int) (hn : 0 ≤ n ∧ n < 1000) (σ : gS) (hM : MM σ P full ask X) (Q : gS → Prop)
    (h : ∀ τ, MM τ P full ask (sRnds P ask n.toNat (X.1, X.2.1, X.2.2.1, X.2.2.2.1, fun _ => -1)) → frR σ τ → Q τ) : eX12_matches l G n full σ Q := by
  have rf : gR full := gR_01 hf
  have rn : gR n := ⟨by omega, by omega⟩
  have hX' : okX P (X.1, X.2.1, X.2.2.1, X.2.2.2.1, fun _ => -1) := hX
  refine vX12_matches n full rn rf σ Q ?_
  refine gloopI (α := gS) 0 6 (fun o τ => o ≤ 6 ∧ frR σ τ ∧ (∀ c k, c ≠ 111 → gI τ c k = gI σ c k) ∧ (∀ k, 0 ≤ k → k < o → gI τ 111 k = -1)) (fun o τ => kX12_matches_2 l G n full o τ Q) ?_ ?_ 0 σ (by omega) ⟨by omega, frR.rfl', fun _ _ _ => rfl, fun k k0 k1 => by omega⟩
  · rintro o τ o0 o1 ⟨z0, zF, zS, zG⟩ ih
    refine vX12_matches_2 n full o rn rf ⟨by omega, by omega⟩ τ Q ⟨fun e => by omega, fun _ => ⟨by omega, fun υ eu => ih υ ⟨by omega, ?_, fun c k hc => ?_, fun k k0 k1 => ?_⟩⟩⟩
    · rw [eu]; exact zF.trans (frR.set (by omega))
    · rw [eu, sI_ne hc]; exact zS c k hc
    · rw [eu, sI_at]
      split
      · rfl
      · rename_i hq; exact zG k k0 (by omega)
  · rintro o τ o0 ⟨z0, zF, zS, zG⟩
    have ho : o = 6 := by omega
    subst ho
    refine vX12_matches_2 n full 6 rn rf (by decide) τ Q ⟨fun _ => ?_, fun e => by omega⟩
    have M0 : MM τ P full ask (X.1, X.2.1, X.2.2.1, X.2.2.2.1, fun _ => -1) := by
      obtain ⟨m1, m2, m3, m4, m5⟩ := hM
      refine ⟨by rw [zS _ _ (by omega)]; exact m1, by rw [zS _ _ (by omega)]; exact m2, by rw [zS _ _ (by omega)]; exact m3, fun k k0 k1 => ?_, fun i o i0 i1 o0 o1 => ?_⟩
      · rw [zS _ _ (by omega), zS _ _ (by omega), zG k k0 k1]; exact ⟨(m4 k k0 k1).1, (m4 k k0 k1).2.1, rfl⟩
      · rw [zS _ _ (by omega)]; exact m5 i o i0 i1 o0 o1
    refine gloopI (α := gS) 0 n (fun r υ => r ≤ n ∧ MM υ P full ask (sRnds P ask r.toNat (X.1, X.2.1, X.2.2.1, X.2.2.2.1, fun _ => -1)) ∧ frR σ υ) (fun r υ => kX12_matches_23 l G n full r υ Q) ?_ ?_ 0 τ (by omega) ⟨by omega, M0, zF⟩
    · rintro r υ r0 r1 ⟨y0, yM, yF⟩ ih
      refine vX12_matches_23 n full r rn rf ⟨by omega, by omega⟩ υ Q ⟨fun e => by omega, fun _ v hv => ?_⟩
      have hv01 : v = 0 ∨ v = 1 := by rw [hv]; split <;> omega
      have hdec : decide (v = 1) = decide (r.toNat = 0) := by
        rw [hv]
        by_cases hr : r = 0
        · subst hr; rfl
        · rw [if_neg hr]
          have : ¬ r.toNat = 0 := by omega
          simp [this]
      refine c_roundR P full hP hf ask _ (okX_rnds hP.1 hX' r.toNat) v hv01 υ yM _ (fun w wM wF => ih w ⟨by omega, ?_, yF.trans wF⟩)
      rw [show (r + 1).toNat = r.toNat + 1 by omega]
      show MM w P full ask (sRound P (decide (r.toNat = 0)) ask _)
      rw [← hdec]; exact wM
    · rintro r υ r0 ⟨y0, yM, yF⟩
      have hr : r = n := by omega
      subst hr
      exact vX12_matches_23 r full r rn rf rn υ Q ⟨fun _ => h υ yM yF, fun e => by omega⟩
end MT
