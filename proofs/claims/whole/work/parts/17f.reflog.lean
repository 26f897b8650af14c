section MT6
variable {l : Launch} {G : gG}
theorem r_log (B : Int → Int) (L : Int) (W : Int → Int) (E P FK FP c v4 : Int) (σ0 σ υ : gS) (hc : 0 ≤ c ∧ c ≤ 8 ∧ gI σ 91 0 = c) (hN : NS B L [(0, 60), (0, 5), (0, 5)] W E P FK FP σ0 υ) (h91 : ∀ i, gI υ 91 i = gI σ 91 i) (Q : gS → Prop)
    (h : ∀ τ n0 n1 n2, fLn σ0 τ → rA B L τ → gI τ 91 0 = c1 2 c → (∀ i w, 0 ≤ i → i < c1 2 c → 0 ≤ w → w < 4 → gI τ 91 (1 + 4 * i + w) = if i = c then (if w = 0 then (if v4 = 11 then 0 else 1) else if w = 1 then n0 else if w = 2 then n1 else n2) else gI σ 91 (1 + 4 * i + w)) → ((¬ E = -1 ∧ ¬ gI τ 88 8 = 0 ∧ gI τ 89 5 = 1 ∧ gI τ 89 6 = E) ∨ (E = -1 ∧ gI υ 88 8 = 0 ∧ gI τ 88 8 = 0 ∧ gI τ 89 5 = FK ∧ gI τ 89 6 = FP ∧ tR B L P τ ∧ (0 ≤ P ∧ P ≤ L) ∧ (¬ FK = 0 → FP < P) ∧ (FK = 0 → n0 = W 0 ∧ n1 = W 1 ∧ n2 = W 2))) → Q τ) :
    eX12_numbered l G 0 60 υ (fun v9 σ7 => gR v9 →
      eX12_numbered l G 0 5 σ7 (fun v12 σ10 => gR v12 →
      eX12_numbered l G 0 5 σ10 (fun v15 σ13 => gR v15 →
      (8 ≤ (gI σ13 91 0) → eX12_endsLine l G  σ13 (fun σ18 =>
        Q σ18)) ∧
      ((gI σ13 91 0) < 8 → (∀ v23 : Int, v23 = (if v4 = 11 then 0 else 1) →
        (0 ≤ (1 + (4 * (gI σ13 91 0))) ∧ (1 + (4 * (gI σ13 91 0))) < 121) ∧ ∀ σ25, σ25 = sI σ13 91 (1 + (4 * (gI σ13 91 0))) v23 →
          (0 ≤ ((1 + (4 * (gI σ13 91 0))) + 1) ∧ ((1 + (4 * (gI σ13 91 0))) + 1) < 121) ∧ ∀ σ27, σ27 = sI σ25 91 ((1 + (4 * (gI σ13 91 0))) + 1) v9 →
          (0 ≤ ((1 + (4 * (gI σ13 91 0))) + 2) ∧ ((1 + (4 * (gI σ13 91 0))) + 2) < 121) ∧ ∀ σ29, σ29 = sI σ27 91 ((1 + (4 * (gI σ13 91 0))) + 2) v12 →
          (0 ≤ ((1 + (4 * (gI σ13 91 0))) + 3) ∧ ((1 + (4 * (gI σ13 91 0))) + 3) < 121) ∧ ∀ σ31, σ31 = sI σ29 91 ((1 + (4 * (gI σ13 91 0))) + 3) v15 →
          (gR ((gI σ31 91 0) + 1)) ∧ ∀ σ33, σ33 = sI σ31 91 0 ((gI σ31 91 0) + 1) →
          eX12_endsLine l G  σ33 (fun σ35 =>
          Q σ35)))))) := by
  have l1 : liM 2 = 8 := rfl
  refine r_numbered B L 0 60 (by decide) [(0, 5), (0, 5)] _ _ _ _ _ σ0 υ hN _ (fun n0 υ1 a1 a2 a3 a4 _ => ?_)
  refine r_numbered B L 0 5 (by decide) [(0, 5)] _ _ _ _ _ σ0 υ1 a1 _ (fun n1 υ2 b1 b2 b3 b4 _ => ?_)
  refine r_numbered B L 0 5 (by decide) [] _ _ _ _ _ σ0 υ2 b1 _ (fun n2 υ3 d1 d2 d3 d4 _ => ?_)
  have g91 : ∀ i, gI υ3 91 i = gI σ 91 i := fun i => (((d2 i).trans (b2 i)).trans (a2 i)).trans (h91 i)
  have e0 : gI υ3 91 0 = c := (g91 0).trans hc.2.2
  have vals : gI υ3 88 8 = 0 → FK = 0 → n0 = W 0 ∧ n1 = W 1 ∧ n2 = W 2 := fun q1 q2 => ⟨(a4 (b3 (d3 q1)) q2).1, (b4 (d3 q1) q2).1, (d4 q1 q2).1⟩
  have back : gI υ3 88 8 = 0 → gI υ 88 8 = 0 := fun q1 => a3 (b3 (d3 q1))
  rw [e0]
  refine ⟨fun g => ?_, fun g v hv => ?_⟩
  · have ec : c1 2 c = c := by unfold c1; rw [if_neg (by decide), if_neg (by omega)]
    refine r_endsLine B L _ E P FK FP σ0 υ3 d1 _ (fun τ z1 z2 z3 z4 => h τ n0 n1 n2 z1 z2 (by rw [z3, e0, ec]) (fun i w i0 i1 w0 w1 => ?_) ?_)
    · rw [ec] at i1
      rw [if_neg (by omega), z3, g91]
    · rcases z4 with u | ⟨u1, u2, u3, u4, u5, u6, u7, u8⟩
      · exact Or.inl u
      · exact Or.inr ⟨u1, back u2, u3, u4, u5, u6, u7, u8, vals u2⟩
  · have ec : c1 2 c = c + 1 := by unfold c1; rw [if_neg (by decide), if_pos (by omega)]
    refine ⟨by omega, fun m1 e1 => ⟨by omega, fun m2 e2 => ⟨by omega, fun m3 e3 => ⟨by omega, fun m4 e4 => ?_⟩⟩⟩⟩
    have q0 : gI m4 91 0 = c := by rw [e4, sI_nei (by omega), e3, sI_nei (by omega), e2, sI_nei (by omega), e1, sI_nei (by omega)]; exact e0
    rw [q0]
    refine ⟨⟨by omega, by omega⟩, fun m5 e5 => ?_⟩
    have N4 := NS.keep (τ := m5) (fun c i q => by rw [e5, sI_ne q, e4, sI_ne q, e3, sI_ne q, e2, sI_ne q, e1, sI_ne q]) d1
    have e8 : gI m5 88 8 = gI υ3 88 8 := by rw [e5, sI_ne (by decide), e4, sI_ne (by decide), e3, sI_ne (by decide), e2, sI_ne (by decide), e1, sI_ne (by decide)]
    refine r_endsLine B L _ E P FK FP σ0 m5 N4 _ (fun τ z1 z2 z3 z4 => h τ n0 n1 n2 z1 z2 (by rw [z3, e5, sI_eq, ec]) (fun i w i0 i1 w0 w1 => ?_) ?_)
    · rw [ec] at i1
      rw [z3, e5, sI_nei (by omega), e4, sI_at, e3, sI_at, e2, sI_at, e1, sI_at]
      by_cases ei : i = c
      · rw [if_pos ei]
        by_cases w2 : w = 0
        · rw [if_neg (by omega), if_neg (by omega), if_neg (by omega), if_pos (by omega), if_pos w2, hv]
        · by_cases w3 : w = 1
          · rw [if_neg (by omega), if_neg (by omega), if_pos (by omega), if_neg w2, if_pos w3]
          · by_cases w4 : w = 2
            · rw [if_neg (by omega), if_pos (by omega), if_neg w2, if_neg w3, if_pos w4]
            · rw [if_pos (by omega), if_neg w2, if_neg w3, if_neg w4]
      · rw [if_neg (by omega), if_neg (by omega), if_neg (by omega), if_neg (by omega), if_neg ei, g91]
    · rcases z4 with u | ⟨u1, u2, u3, u4, u5, u6, u7, u8⟩
      · exact Or.inl u
      · rw [e8] at u2
        exact Or.inr ⟨u1, back u2, u3, u4, u5, u6, u7, u8, vals u2⟩
theorem r_logLine (B : Int → Int) (L p c k f : Int) (V : Int → Int → Int) (σ0 σ : gS) (hS : RSt B L 2 σ0 p c k f V σ) (Q : gS → Prop) (h : LQ B L 2 σ0 p c k f V Q) : eX12_logLine l G σ Q := by
  have l1 : liM 2 = 8 := rfl
  have hc : 0 ≤ c ∧ c ≤ 8 ∧ gI σ 91 0 = c := ⟨hS.2.2.2.2.1.1, hS.2.2.2.2.1.2.1, hS.2.2.2.2.1.2.2.2 (by decide)⟩
  have hL := hS.2.1.2.2.1
  have s1 := tS_ge (B := B) (L := L) p
  have s2 := tS_le (B := B) (L := L) p hS.2.2.2.1.2
  have hp := hS.2.2.2.1
  have es : gI σ 88 4 = tS B L p := hS.2.2.1.2.1.2.1
  have rs : gR (tS B L p) := ⟨by omega, by omega⟩
  refine vX12_logLine σ Q ?_
  rw [es]
  refine r_wordIn B L 2 p (Or.inr (Or.inr rfl)) hS.2.2.2.1 σ hS.2.1 hS.2.2.1.1 hS.2.2.1.2.1 _ (fun hi τ w1 w2 _ => ?_) (fun hi τ w1 w2 w3 w4 w5 _ => ⟨fun _ => ?_, fun y => absurd y (by rw [w3]; decide)⟩) 10 11 rfl rfl
  · have hb : 10 ≤ tW B L p ∧ tW B L p ≤ 11 := hi.2
    have er : wR (tW B L p) = [(0, 60), (0, 5), (0, 5)] := by
      rcases (show tW B L p = 10 ∨ tW B L p = 11 by omega) with e | e <;> rw [e] <;> rfl
    obtain ⟨hb', hg⟩ := h
    rw [er] at hb' hg
    have N0 : ∀ τ1 : gS, fLn σ τ1 → tR B L (tE B L p) τ1 → gI τ1 88 8 = 0 → gI τ1 89 5 = k0 2 c k → gI τ1 89 6 = f0 2 c k f (tS B L p) → (∀ i, gI τ1 91 i = gI σ 91 i) → _ := fun τ1 t1 t2 t3 t4 t5 t6 => NS.start (τ := τ1) hS (by have := hi.1; omega) t1 t2 t3 t4 t5 [(0, 60), (0, 5), (0, 5)]
    have T : ∀ τ n0 n1 n2, fLn σ0 τ → rA B L τ → gI τ 91 0 = c1 2 c → (∀ i w, 0 ≤ i → i < c1 2 c → 0 ≤ w → w < 4 → gI τ 91 (1 + 4 * i + w) = if i = c then (if w = 0 then (if tW B L p = 11 then 0 else 1) else if w = 1 then n0 else if w = 2 then n1 else n2) else gI σ 91 (1 + 4 * i + w)) →
        (∃ υ : gS, (¬ nE B L [(0, 60), (0, 5), (0, 5)] (tE B L p) = -1 ∧ ¬ gI τ 88 8 = 0 ∧ gI τ 89 5 = 1 ∧ gI τ 89 6 = nE B L [(0, 60), (0, 5), (0, 5)] (tE B L p)) ∨ (nE B L [(0, 60), (0, 5), (0, 5)] (tE B L p) = -1 ∧ gI υ 88 8 = 0 ∧ gI τ 88 8 = 0 ∧ gI τ 89 5 = fK B L [(0, 60), (0, 5), (0, 5)] (tE B L p) (k0 2 c k) ∧ gI τ 89 6 = fQ B L [(0, 60), (0, 5), (0, 5)] (tE B L p) (k0 2 c k) (f0 2 c k f (tS B L p)) ∧ tR B L (nP B L [(0, 60), (0, 5), (0, 5)] (tE B L p)) τ ∧ (0 ≤ nP B L [(0, 60), (0, 5), (0, 5)] (tE B L p) ∧ nP B L [(0, 60), (0, 5), (0, 5)] (tE B L p) ≤ L) ∧ (¬ fK B L [(0, 60), (0, 5), (0, 5)] (tE B L p) (k0 2 c k) = 0 → fQ B L [(0, 60), (0, 5), (0, 5)] (tE B L p) (k0 2 c k) (f0 2 c k f (tS B L p)) < nP B L [(0, 60), (0, 5), (0, 5)] (tE B L p)) ∧ (fK B L [(0, 60), (0, 5), (0, 5)] (tE B L p) (k0 2 c k) = 0 → n0 = nV B L [(0, 60), (0, 5), (0, 5)] (tE B L p) 0 ∧ n1 = nV B L [(0, 60), (0, 5), (0, 5)] (tE B L p) 1 ∧ n2 = nV B L [(0, 60), (0, 5), (0, 5)] (tE B L p) 2))) → Q τ := by
      intro τ n0 n1 n2 z1 z2 z5 z3 ⟨υ, z4⟩
      rcases z4 with ⟨u1, u2, u3, u4⟩ | ⟨u1, u2, u3, u4, u5, u6, u7, u8, u9⟩
      · exact hb' τ _ z1 z2 u2 u3 u4 (Or.inr ⟨hi, u1, rfl⟩)
      · refine hg hi u1 τ ⟨z1, z2, ⟨u3, u6, u4, u5⟩, u7, ⟨?_, ?_, fun y => absurd y (by decide), fun _ => z5⟩, u8, fun fz => ⟨fun y => absurd y (by decide), fun y => absurd y (by decide), fun _ i w i0 i1 w0 w1 => ?_⟩⟩
        · unfold c1; rw [if_neg (by decide)]; split <;> omega
        · unfold c1; rw [if_neg (by decide), l1]; split <;> omega
        · obtain ⟨v0, v1, v2⟩ := u9 fz
          have k00 : k = 0 := by
            have h9 := fK_0 fz
            unfold k0 at h9
            by_cases e : k = 0
            · exact e
            · rw [if_pos e] at h9; exact h9
          rw [z3 i w i0 i1 w0 w1]
          show _ = if (2 : Int) = 0 then _ else if i = c ∧ c < liM 2 then _ else V i w
          rw [if_neg (show ¬ (2 : Int) = 0 by decide)]
          by_cases ei : i = c
          · have c40 : c < liM 2 := by
              rw [ei] at i1
              unfold c1 at i1
              rw [if_neg (by decide)] at i1
              exact Decidable.byContradiction (fun n => by rw [if_neg n] at i1; omega)
            rw [if_pos ei, if_pos (show i = c ∧ c < liM 2 from ⟨ei, c40⟩)]
            by_cases w2 : w = 0
            · rw [if_pos w2, if_pos w2, if_neg (show ¬ (2 : Int) = 1 by decide)]
              rcases (show tW B L p = 10 ∨ tW B L p = 11 by omega) with e | e <;> rw [e] <;> rfl
            · rw [if_neg w2, if_neg w2]
              by_cases w3 : w = 1
              · rw [if_pos w3, v0, w3]; rfl
              · rw [if_neg w3]
                by_cases w4 : w = 2
                · rw [if_pos w4, v1, w4]; rfl
                · rw [if_neg w4, v2, show w - 1 = 2 by omega]
          · rw [if_neg ei, if_neg (show ¬ (i = c ∧ c < liM 2) from fun q => ei q.1)]
            have ic : i < c := by
              unfold c1 at i1; rw [if_neg (by decide)] at i1
              revert i1; split <;> intro i1 <;> omega
            exact (hS.2.2.2.2.2.2 k00).2.2 rfl i w i0 ic w0 w1
    have t0 : gI τ 91 0 = c := (w1.1 _ _ (by omega)).trans hc.2.2
    have t8 : gI τ 88 8 = 0 := (w1.1 _ _ (by omega)).trans hS.2.2.1.1
    have t5 : gI τ 89 5 = k := (w1.1 _ _ (by omega)).trans hS.2.2.1.2.2.1
    have t6 : gI τ 89 6 = f := (w1.1 _ _ (by omega)).trans hS.2.2.1.2.2.2
    have t91 : ∀ i, gI τ 91 i = gI σ 91 i := fun i => w1.1 _ _ (by omega)
    rw [t0]
    refine ⟨fun y => absurd t8 y, fun _ => ⟨fun g => ?_, fun g => r_also 3 _ (by decide) rs τ t8 ?_ _ (fun τ1 y1 y2 y3 => ?_)⟩⟩
    · refine r_log B L _ _ _ _ _ c (tW B L p) σ0 σ τ hc (N0 τ (fLn.ofR w1) w2 t8 ?_ ?_ t91) t91 Q (fun τ' n0 n1 n2 z1 z2 z5 z3 z4 => T τ' n0 n1 n2 z1 z2 z5 z3 ⟨τ, z4⟩)
      · rw [t5]; unfold k0
        by_cases e : k = 0
        · rw [if_neg (fun n => n e), if_neg (by omega), e]
        · rw [if_pos e]
      · rw [t6]; unfold f0
        by_cases e : k = 0
        · rw [if_neg (fun n => n e), if_neg (by omega)]
        · rw [if_pos e]
    · rw [t5, t6]; intro y; have := hS.2.2.2.2.2.1 y; omega
    · have t91' : ∀ i, gI τ1 91 i = gI σ 91 i := fun i => (y1 _ _ (by omega)).trans (t91 i)
      refine r_log B L _ _ _ _ _ c (tW B L p) σ0 σ τ1 hc (N0 τ1 (fun c i q1 q2 q3 => (y1 c i q3).trans (w1.1 c i (by omega))) (tR.keep (fun i _ _ => y1 _ _ (by omega)) w2) ((y1 _ _ (by omega)).trans t8) ?_ ?_ t91') t91' Q (fun τ' n0 n1 n2 z1 z2 z5 z3 z4 => T τ' n0 n1 n2 z1 z2 z5 z3 ⟨τ1, z4⟩)
      · rw [y2, t5]; unfold k0
        by_cases e : k = 0
        · rw [if_neg (fun n => n e), if_neg (fun n => n e), if_pos (by omega)]
        · rw [if_pos e, if_pos e]
      · rw [y3, t5, t6]; unfold f0
        by_cases e : k = 0
        · rw [if_neg (fun n => n e), if_neg (fun n => n e), if_pos (by omega)]
        · rw [if_pos e, if_pos e]
  · refine r_log B L (fun _ => 0) _ 0 0 0 c 0 σ0 σ τ hc (NS.bad hS w1 w3 w4 w5 _ _ _ _ _) w2 Q (fun υ n0 n1 n2 z1 z2 z5 z3 z4 => ?_)
    rcases z4 with ⟨u1, u2, u3, u4⟩ | ⟨u1, u2, _⟩
    · exact h.1 υ _ z1 z2 u2 u3 u4 (Or.inl ⟨hi, rfl⟩)
    · rw [w3] at u2; exact absurd u2 (by decide)
end MT6
