section MTD
variable {l : Launch} {G : gG}
/-- there is room for a text -/
def room (a x x2 : Int) : Prop := (x = 0 ∨ x = 1 ∨ x = 2) ∧ ((x2 = -1 ∧ a < 2) ∨ (¬ x2 = -1 ∧ 0 ≤ x2 ∧ x2 < a))
theorem c_hasRoom (x x2 : Int) (r1 : gR x) (r2 : gR x2) (σ : gS) (Q : Int → gS → Prop) (h : ∀ v, (v = 0 → ¬ room (gI σ 3 x) x x2) ∧ (¬ v = 0 → room (gI σ 3 x) x x2) → Q v σ) : eX10_hasRoom l G x x2 σ Q := by
  refine vX10_hasRoom x x2 r1 r2 σ Q ⟨fun e => ⟨?_, fun v hv => h v ?_⟩, fun n => c_has x x2 r1 r2 σ _ (fun v hv _ => h v ?_)⟩
  · repeat (first | exact True.intro | apply And.intro | intro _ | omega)
  · unfold room
    rw [hv]
    by_cases z1 : x < 0
    · rw [if_pos z1]; omega
    · rw [if_neg z1]
      by_cases z2 : 3 ≤ x
      · rw [if_pos z2]; omega
      · rw [if_neg z2]
        by_cases z3 : 2 ≤ gI σ 3 x
        · rw [if_pos z3]; omega
        · rw [if_neg z3]; omega
  · unfold room; omega
theorem r_text (x x2 : Int) (r1 : gR x) (r2 : gR x2) (σ : gS) (hc : ∀ s, 0 ≤ s → s < 3 → 0 ≤ gI σ 89 s ∧ gI σ 89 s ≤ 2) (Q : Int → gS → Prop)
    (h1 : ¬ room (gI σ 89 x) x x2 → ∀ τ, (∀ c i, ¬ (c = 88 ∧ i = 2) → ¬ (c = 89 ∧ 4 ≤ i ∧ i ≤ 6) → gI τ c i = gI σ c i) → gI τ 89 4 = 0 → gI τ 89 5 = 0 → gI τ 89 6 = -1 → Q (-2) τ)
    (h2 : room (gI σ 89 x) x x2 → ∀ τ, (∀ c i, ¬ (c = 88 ∧ (i = 2 ∨ i = 3 ∨ i = 8)) → ¬ (c = 89 ∧ 4 ≤ i ∧ i ≤ 6) → gI τ c i = gI σ c i) → gI τ 88 2 = gI σ 89 4 → gI τ 88 3 = 0 → gI τ 88 8 = 0 → gI τ 89 4 = 0 → gI τ 89 5 = 0 → gI τ 89 6 = -1 → kX12_text_83 l G x x2 0 τ Q) : eX12_text l G x x2 σ Q := by
  refine vX12_text x x2 r1 r2 σ Q (fun s2 e2 s3 e3 s4 e4 s5 e5 => ?_)
  have fr : ∀ c i, ¬ (c = 88 ∧ i = 2) → ¬ (c = 89 ∧ 4 ≤ i ∧ i ≤ 6) → gI s5 c i = gI σ c i := by
    intro c i n1 n2
    rw [e5, sI_at, if_neg (by omega), e4, sI_at, if_neg (by omega), e3, sI_at, if_neg (by omega), e2, sI_at, if_neg (by omega)]
  have f4 : gI s5 89 4 = 0 := by rw [e5, sI_nei (by decide), e4, sI_nei (by decide), e3, sI_eq]
  have f5 : gI s5 89 5 = 0 := by rw [e5, sI_nei (by decide), e4, sI_eq]
  have f6 : gI s5 89 6 = -1 := by rw [e5, sI_eq]
  have f2 : gI s5 88 2 = gI σ 89 4 := by rw [e5, sI_ne (by decide), e4, sI_ne (by decide), e3, sI_ne (by decide), e2, sI_eq]
  have go : room (gI σ 89 x) x x2 → ∀ t1, t1 = sI s5 88 3 0 → ∀ t2, t2 = sI t1 88 8 0 → kX12_text_83 l G x x2 0 t2 Q := by
    intro rm t1 g1 t2 g2
    refine h2 rm t2 ?_ ?_ ?_ ?_ ?_ ?_ ?_
    · intro c i n1 n2; rw [g2, sI_at, if_neg (by omega), g1, sI_at, if_neg (by omega), fr c i (by omega) n2]
    · rw [g2, sI_nei (by decide), g1, sI_nei (by decide)]; exact f2
    · rw [g2, sI_nei (by decide), g1, sI_eq]
    · rw [g2, sI_eq]
    · rw [g2, sI_ne (by decide), g1, sI_ne (by decide)]; exact f4
    · rw [g2, sI_ne (by decide), g1, sI_ne (by decide)]; exact f5
    · rw [g2, sI_ne (by decide), g1, sI_ne (by decide)]; exact f6
  refine c_isIn x 0 2 r1 (by decide) (by decide) s5 _ (fun v hv _ => ⟨fun z => ?_, fun z => ⟨fun n => ?_, fun e => ?_⟩⟩)
  · exact h1 (fun q => by unfold room at q; omega) s5 fr f4 f5 f6
  · have xb : 0 ≤ x ∧ x < 3 := by omega
    have hb := hc x xb.1 xb.2
    have ex : gI s5 89 x = gI σ 89 x := fr _ _ (by omega) (by omega)
    refine c_isOf x x2 r1 r2 s5 (by omega) (by rw [ex]; exact hb) _ (fun u hu _ => ⟨fun y => go ?_, fun y => h1 ?_ s5 fr f4 f5 f6⟩)
    · rw [ex] at hu; unfold room; omega
    · rw [ex] at hu; intro q; unfold room at q; omega
  · have xb : 0 ≤ x ∧ x < 3 := by omega
    have ex : gI s5 89 x = gI σ 89 x := fr _ _ (by omega) (by omega)
    rw [ex]
    refine ⟨by omega, fun y => go (by unfold room; omega), fun y => h1 ?_ s5 fr f4 f5 f6⟩
    intro q; unfold room at q; omega
theorem p_text (hW : wHere l G) (x1 x2 : Int) (r1 : gR x1) (r2 : gR x2) (σ : gS) (hI : tInv σ) : eX11_text l G x1 x2 σ (fun r τ => gR r → eX12_text l G x1 x2 τ (fun r' υ => gR r' → r = r' ∧ tInv υ)) := by
  obtain ⟨k1, k5, k6, k7⟩ := tTx0 hI
  obtain ⟨k2, k3, k4⟩ := tTp0 hI
  refine vX11_text x1 x2 r1 r2 σ _ (fun s2 e2 s3 e3 s4 e4 => ?_)
  have g4 : ∀ c i, ¬ (c = 1 ∧ 1 ≤ i ∧ i ≤ 3) → gI s4 c i = gI σ c i := by
    intro c i n; rw [e4, sI_at, if_neg (by omega), e3, sI_at, if_neg (by omega), e2, sI_at, if_neg (by omega)]
  have q1 : gI s4 1 1 = 0 := by rw [e4, sI_nei (by decide), e3, sI_nei (by decide), e2, sI_eq]
  have q2 : gI s4 1 2 = 0 := by rw [e4, sI_nei (by decide), e3, sI_eq]
  have q3 : gI s4 1 3 = -1 := by rw [e4, sI_eq]
  refine c_hasRoom x1 x2 r1 r2 s4 _ (fun v hv _ => ⟨fun nz => ?_, fun z _ => ?_⟩)
  · have rm := hv.2 nz
    rw [g4 3 x1 (by omega)] at rm
    have hx := rm.1
    have xb : 0 ≤ x1 ∧ x1 < 3 := by omega
    have cx := k1 x1 xb.1 xb.2
    have rm' : room (gI σ 89 x1) x1 x2 := by rw [← cx.1]; exact rm
    refine c_read hW x1 (gI σ 1 1) ⟨by omega, by omega⟩ hx s4 (fun i i0 i1 => by rw [g4 _ _ (by omega)]; have := k4 i i0 i1; omega) _ (fun τ c' k' f' V' n hP u1 u3 u4 u5 s12 e12 s14 e14 => ?_)
    have eB : gI s4 2 = gI σ 2 := funext (fun i => g4 2 i (by omega))
    rw [eB] at hP
    rw [u3] at e12
    have h4' : gI s12 27 4 = f' := by rw [e12, sI_ne (by decide)]; exact u4
    rw [h4'] at e14
    have g14 : ∀ c i, c ≠ 1 → gI s14 c i = gI τ c i := fun c i nc => by rw [e14, sI_ne nc, e12, sI_ne nc]
    have w1 : gI s14 1 1 = 0 := by rw [e14, sI_nei (by decide), e12, sI_nei (by decide), u1 _ _ (by omega)]; exact q1
    have w2 : gI s14 1 2 = k' := by rw [e14, sI_nei (by decide), e12, sI_eq]
    have w3 : gI s14 1 3 = f' := by rw [e14, sI_eq]
    have G14 : ∀ c i, c ≠ 1 → c < 27 ∨ 30 < c → gI s14 c i = gI σ c i := fun c i n1 n2 => ((g14 c i n1).trans (u1 c i n2)).trans (g4 c i (by omega))
    -- the reference, from a store that has the reference's cells as before
    have ref : ∀ (χ : gS) (r : Int), (∀ c i, 30 < c → gI χ c i = gI σ c i) → (∀ ω, (∀ c i, c < 88 → gI ω c i = gI χ c i) → (∀ i, gI ω 90 i = gI σ 90 i) → (k' ≠ 0 → (∀ i, i ≠ 4 → i ≠ 5 → i ≠ 6 → gI ω 89 i = gI σ 89 i) → gI ω 89 4 = 0 → gI ω 89 5 = k' → gI ω 89 6 = f' → r = -1 ∧ tInv ω) ∧
        (k' = 0 → ∀ (y : Int) (Y : Int → Int), y = (if x2 = -1 then gI σ 89 x1 else x2) → (∀ i, (10 ≤ i ∧ i < 610) ∨ 926 ≤ i → gI ω 89 i = gI σ 89 i) → gI ω 89 4 = 0 → gI ω 89 5 = 0 → gI ω 89 6 = f' → (∀ s, 0 ≤ s → s < 3 → gI ω 89 s = if s = x1 ∧ x2 = -1 then gI σ 89 s + 1 else gI σ 89 s) → (∀ i, 0 ≤ i → i < szT x1 → gI ω 89 (plT x1 y + i) = Y i) → (∀ i, 610 ≤ i → i < 926 → ¬ (plT x1 y ≤ i ∧ i < plT x1 y + szT x1) → gI ω 89 i = gI σ 89 i) → (x1 = 0 → ∀ w, 0 ≤ w → w < 4 → Y w = V' 0 w) → (x1 = 1 → ∀ i w, 0 ≤ i → i < c' → 0 ≤ w → w < 3 → Y (1 + 3 * i + w) = V' i w) → (x1 = 2 → ∀ i w, 0 ≤ i → i < c' → 0 ≤ w → w < 4 → Y (1 + 4 * i + w) = V' i w) → (¬ x1 = 0 → Y 0 = c') → r = y ∧ tInv ω)) → eX12_text l G x1 x2 χ (fun r' υ => gR r' → r = r' ∧ tInv υ) := by
      intro χ r hχ hω
      have hx89 : ∀ i, gI χ 89 i = gI σ 89 i := fun i => hχ 89 i (by decide)
      refine r_text x1 x2 r1 r2 χ (fun s s0 s1 => by rw [hx89]; exact (k1 s s0 s1).2) _ (fun nr => absurd rm' (by rw [hx89] at nr; exact nr)) (fun _ υ0 a1 a2 a3 a4 a5 a6 a7 => ?_)
      have A : rA (gI σ 2) (gI σ 1 1) υ0 := by
        refine ⟨by rw [a2, hx89]; exact k2.1.symm, by omega, by omega, fun i i0 i1 => ?_⟩
        have := k4 i i0 i1
        refine ⟨this.1, this.2.1, ?_⟩
        rw [a1 _ _ (by omega) (by omega), hx89]; exact this.2.2
      refine r_begin (gI σ 2) (gI σ 1 1) x1 x2 hx r2 υ0 A a3 a4 a6 a7 _ (fun x3 υ1 r3 hR => ?_)
      refine r_text132 (gI σ 2) (gI σ 1 1) x1 c' k' f' V' hx x2 x3 r2 r3 υ0 _ (fun ω0 b1 b2 b3 b4 => ?_) n 0 0 0 (-1) V0 υ1 hR hP
      have c88 : ∀ c i, c < 88 → gI ω0 c i = gI χ c i := fun c i nc => (b1 c i (by omega) (by omega) (by omega)).trans (a1 c i (by omega) (by omega))
      have c90 : ∀ i, gI ω0 90 i = gI σ 90 i := fun i => ((b1 90 i (by decide) (by omega) (by omega)).trans (a1 90 i (by omega) (by omega))).trans (hχ 90 i (by decide))
      have c89 : ∀ i, i ≠ 4 → i ≠ 5 → i ≠ 6 → gI ω0 89 i = gI σ 89 i := fun i n4 n5 n6 => ((b1 89 i (by decide) (by omega) (by omega)).trans (a1 89 i (by omega) (by omega))).trans (hx89 i)
      have c894 : gI ω0 89 4 = 0 := (b1 89 4 (by decide) (by omega) (by omega)).trans a5
      refine ⟨fun zk => ⟨⟨fun _ => True.intro, fun _ => ⟨by omega, True.intro⟩⟩, fun y hy => ?_⟩, fun nk _ => ?_⟩
      · have kz : k' = 0 := b2.symm.trans zk
        obtain ⟨d1, d2, d3, d4⟩ := b4 kz
        rw [c89 x1 (by omega) (by omega) (by omega)] at hy ⊢
        have yb : 0 ≤ y ∧ y < 2 := by
          rcases rm'.2 with ⟨y1, y2⟩ | ⟨y1, y2⟩
          · rw [if_pos y1] at hy; omega
          · rw [if_neg y1] at hy; omega
        have pr := plT_r hx yb
        have fin : ∀ ω1 : gS, (∀ c i, ¬ (c = 89 ∧ i = x1) → gI ω1 c i = gI ω0 c i) → gI ω1 89 x1 = (if x2 = -1 then gI σ 89 x1 + 1 else gI σ 89 x1) → kX12_text_238 l G x1 x2 y 0 ω1 (fun r' υ => gR r' → r = r' ∧ tInv υ) := by
          intro ω1 m1 m2
          refine r_copy x1 x2 y hx r2 yb ω1 _ (fun ω2 o1 o2 _ => ?_)
          have hq := (hω ω2 (fun c i nc => ((o1 c i (by omega)).trans (m1 c i (by omega))).trans (c88 c i nc)) (fun i => ((o1 90 i (by omega)).trans (m1 90 i (by omega))).trans (c90 i))).2 kz y (gI ω1 91) hy ?_ ?_ ?_ ?_ ?_ o2 ?_ ?_ ?_ ?_ ?_
          · exact hq
          · intro i hi; rw [o1 _ _ (by omega), m1 _ _ (by omega)]; exact c89 i (by omega) (by omega) (by omega)
          · rw [o1 _ _ (by omega), m1 _ _ (by omega)]; exact c894
          · rw [o1 _ _ (by omega), m1 _ _ (by omega)]; exact zk
          · rw [o1 _ _ (by omega), m1 _ _ (by omega)]; exact b3
          · intro s s0 s1
            rw [o1 _ _ (by omega)]
            by_cases zs : s = x1
            · rw [zs, m2]
              by_cases z2 : x2 = -1
              · rw [if_pos z2, if_pos ⟨rfl, z2⟩]
              · rw [if_neg z2, if_neg (fun q => z2 q.2)]
            · rw [m1 _ _ (by omega), if_neg (fun q => zs q.1)]; exact c89 s (by omega) (by omega) (by omega)
          · intro i i0 i1 ni; rw [o1 _ _ (by omega), m1 _ _ (by omega)]; exact c89 i (by omega) (by omega) (by omega)
          · intro e w w0 w1; rw [m1 _ _ (by omega)]; exact d2.1 e w w0 w1
          · intro e i w i0 i1 w0 w1; rw [m1 _ _ (by omega)]; exact d2.2.1 e i w i0 i1 w0 w1
          · intro e i w i0 i1 w0 w1; rw [m1 _ _ (by omega)]; exact d2.2.2 e i w i0 i1 w0 w1
          · intro e; rw [m1 _ _ (by omega)]; exact d1 e
        refine ⟨fun n2 => fin ω0 (fun _ _ _ => rfl) (by rw [if_neg n2]; exact c89 x1 (by omega) (by omega) (by omega)), fun z2 => ⟨by omega, ⟨by omega, by omega⟩, fun ω1 e1 => fin ω1 (fun c i nn => by rw [e1, sI_at, if_neg nn]) (by rw [e1, sI_eq, if_pos z2])⟩⟩
      · exact (hω ω0 c88 c90).1 (fun e => nk (b2.trans e)) c89 c894 b2 b3
    refine ⟨fun zk => ?_, fun nk _ => ?_⟩
    · have k27 : gI s14 27 3 = k' := (g14 27 3 (by decide)).trans u3
      have kz : k' = 0 := k27.symm.trans zk
      obtain ⟨v2, v3, v4, v5⟩ := u5 kz
      have s3' : gI s14 3 x1 = gI σ 89 x1 := (G14 3 x1 (by decide) (by omega)).trans cx.1
      have yb : 0 ≤ (if x2 = -1 then gI σ 89 x1 else x2) ∧ (if x2 = -1 then gI σ 89 x1 else x2) < 2 := by
        rcases rm'.2 with ⟨y1, y2⟩ | ⟨y1, y2⟩
        · rw [if_pos y1]; omega
        · rw [if_neg y1]; omega
      refine c_keep x1 x2 (if x2 = -1 then gI σ 89 x1 else x2) hx r2 s14 yb (by rw [s3']) _ (fun χ m1 m3 m4 m5 m6 _ _ => ?_)
      refine ref χ _ (fun c i nc => (m1 c i (by omega)).trans (G14 c i (by omega) (by omega))) (fun ω n1 n2 => ⟨fun nk => absurd kz nk, fun _ y Y ey o1 o2 o3 o4 o5 o6 o7 o8 o9 o10 o11 => ⟨ey.symm, ?_⟩⟩)
      rw [← ey] at m4 m5 m6 yb
      refine tInv_text1 (x := x1) (x2 := x2) (y := y) (c' := c') (V' := V') (Z28 := gI s14 28) (Z29 := gI s14 29) (Y := Y) hI hx yb ?_ ?_ ⟨?_, ?_, ?_⟩ o1 ⟨o2, o3⟩ n2 ?_ ?_ ?_ ?_ o5 o6 o7 ?_ ?_ o8 o9 o10 o11 ⟨v3, v4⟩ ?_
      · rcases rm'.2 with ⟨y1, y2⟩ | ⟨y1, y2⟩
        · rw [if_pos y1] at ey; exact Or.inl ⟨y1, ey⟩
        · rw [if_neg y1] at ey; exact Or.inr ⟨y1, by omega, by omega⟩
      · intro c i hc; rw [n1 c i (by omega), m1 c i (by omega)]; exact G14 c i (by omega) (by omega)
      · rw [n1 _ _ (by decide), m1 _ _ (by omega)]; exact w1
      · rw [n1 _ _ (by decide), m1 _ _ (by omega), w2]; exact kz
      · rw [n1 _ _ (by decide), m1 _ _ (by omega), w3, o4]
      · intro s; rw [n1 _ _ (by decide), m3, G14 3 s (by decide) (by omega)]
      · intro i; rw [n1 _ _ (by decide), m4, G14 4 i (by decide) (by omega)]
      · intro i; rw [n1 _ _ (by decide), m5, G14 5 i (by decide) (by omega)]
      · intro i; rw [n1 _ _ (by decide), m6, G14 6 i (by decide) (by omega), g14 _ _ (by decide), v2]
      · intro e w a b; rw [g14 _ _ (by decide)]; exact v5.1 e w a b
      · intro e i w a b a' b'; rw [g14 _ _ (by decide)]; exact v5.2 e i w a b a' b'
      · refine (par_ok (gI σ 2) (gI σ 1 1) x1 c' k' f' V' hx kz n 0 0 0 (-1) V0 hP (by omega) (by omega)).2 ⟨fun _ => ?_, fun _ i i0 i1 => by omega, fun _ i i0 i1 => by omega⟩
        unfold tBar V0
        decide
    · refine ref s14 (-1) (fun c i nc => G14 c i (by omega) (by omega)) (fun ω n1 n2 => ⟨fun _ o1 o2 o3 o4 => ⟨rfl, ?_⟩, fun kz => absurd ((g14 27 3 (by decide)).trans (u3.trans kz)) nk⟩)
      refine tInv_text0 (k := k') (f := f') hI (fun c i a b => ?_) ⟨?_, ?_, ?_⟩ o1 ⟨o2, o3, o4⟩ n2
      · rw [n1 c i (by omega)]; exact G14 c i (by omega) (by omega)
      · rw [n1 _ _ (by decide)]; exact w1
      · rw [n1 _ _ (by decide)]; exact w2
      · rw [n1 _ _ (by decide)]; exact w3
  · have nr := hv.1 z
    have h89 : ∀ i, gI s4 89 i = gI σ 89 i := fun i => g4 89 i (by omega)
    have nr' : ¬ room (gI s4 89 x1) x1 x2 := by
      intro q
      apply nr
      have hx := q.1
      rw [h89] at q
      rw [g4 3 x1 (by omega), (k1 x1 (by omega) (by omega)).1]
      exact q
    refine r_text x1 x2 r1 r2 s4 (fun s s0 s1 => by rw [h89]; exact (k1 s s0 s1).2) _ (fun _ υ a1 a4 a5 a6 _ => ⟨rfl, ?_⟩) (fun rm => absurd rm nr')
    refine tInv_text0 (k := 0) (f := -1) hI (fun c i a b => ?_) ⟨?_, ?_, ?_⟩ (fun i n4 n5 n6 => ?_) ⟨a4, a5, a6⟩ (fun i => ?_)
    · rw [a1 _ _ (by omega) (by omega)]; exact g4 c i (by omega)
    · rw [a1 _ _ (by omega) (by omega)]; exact q1
    · rw [a1 _ _ (by omega) (by omega)]; exact q2
    · rw [a1 _ _ (by omega) (by omega)]; exact q3
    · rw [a1 _ _ (by omega) (by omega)]; exact h89 i
    · rw [a1 _ _ (by omega) (by omega)]; exact g4 90 i (by omega)
end MTD
