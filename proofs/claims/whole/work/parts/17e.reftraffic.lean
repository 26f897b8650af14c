section MT5
variable {l : Launch} {G : gG}
theorem r_t100 (B : Int → Int) (L : Int) (W : Int → Int) (E P FK FP c s x2 x3 y0 : Int) (σ0 σ υ : gS) (hc : 0 ≤ c ∧ c ≤ 40 ∧ gI σ 91 0 = c) (rs : gR s) (r2 : gR x2) (r3 : gR x3) (ry : gR y0) (hN : NS B L [] W E P FK FP σ0 υ) (h91 : ∀ i, gI υ 91 i = gI σ 91 i) (Q : gS → Prop)
    (h : ∀ τ, fLn σ0 τ → rA B L τ → gI τ 91 0 = c1 1 c → (∀ i w, 0 ≤ i → i < c1 1 c → 0 ≤ w → w < 3 → gI τ 91 (1 + 3 * i + w) = if i = c then (if w = 0 then x2 else if w = 1 then x3 else y0) else gI σ 91 (1 + 3 * i + w)) → ((¬ E = -1 ∧ ¬ gI τ 88 8 = 0 ∧ gI τ 89 5 = 1 ∧ gI τ 89 6 = E) ∨ (E = -1 ∧ gI υ 88 8 = 0 ∧ gI τ 88 8 = 0 ∧ gI τ 89 5 = FK ∧ gI τ 89 6 = FP ∧ tR B L P τ ∧ (0 ≤ P ∧ P ≤ L) ∧ (¬ FK = 0 → FP < P))) → Q τ) : kX12_trafficLine_100 l G s x2 x3 y0 υ Q := by
  have e0 : gI υ 91 0 = c := (h91 0).trans hc.2.2
  have l1 : liM 1 = 40 := rfl
  refine vX12_trafficLine_100 s x2 x3 y0 rs r2 r3 ry υ Q ⟨fun g => ?_, fun g => ?_⟩
  · rw [e0] at g
    have ec : c1 1 c = c := by unfold c1; rw [if_neg (by decide), if_neg (by omega)]
    refine r_endsLine B L W E P FK FP σ0 υ hN _ (fun τ z1 z2 z3 z4 => h τ z1 z2 (by rw [z3, e0, ec]) (fun i w i0 i1 w0 w1 => ?_) z4)
    rw [ec] at i1
    rw [if_neg (by omega), z3, h91]
  · rw [e0] at g ⊢
    have ec : c1 1 c = c + 1 := by unfold c1; rw [if_neg (by decide), if_pos (by omega)]
    refine ⟨by omega, fun υ1 e1 => ⟨by omega, fun υ2 e2 => ⟨by omega, fun υ3 e3 => ?_⟩⟩⟩
    have q0 : gI υ3 91 0 = c := by rw [e3, sI_nei (by omega), e2, sI_nei (by omega), e1, sI_nei (by omega)]; exact e0
    rw [q0]
    refine ⟨⟨by omega, by omega⟩, fun υ4 e4 => ?_⟩
    have N4 := NS.keep (τ := υ4) (fun c i q => by rw [e4, sI_ne q, e3, sI_ne q, e2, sI_ne q, e1, sI_ne q]) hN
    have e8 : gI υ4 88 8 = gI υ 88 8 := by rw [e4, sI_ne (by decide), e3, sI_ne (by decide), e2, sI_ne (by decide), e1, sI_ne (by decide)]
    refine r_endsLine B L W E P FK FP σ0 υ4 N4 _ (fun τ z1 z2 z3 z4 => h τ z1 z2 (by rw [z3, e4, sI_eq, ec]) (fun i w i0 i1 w0 w1 => ?_) (by rw [e8] at z4; exact z4))
    rw [ec] at i1
    rw [z3, e4, sI_nei (by omega), e3, sI_at, e2, sI_at, e1, sI_at]
    by_cases ei : i = c
    · rw [if_pos ei]
      by_cases w2 : w = 0
      · rw [if_neg (by omega), if_neg (by omega), if_pos (by omega), if_pos w2]
      · by_cases w3 : w = 1
        · rw [if_neg (by omega), if_pos (by omega), if_neg w2, if_pos w3]
        · rw [if_pos (by omega), if_neg w2, if_neg w3]
    · rw [if_neg (by omega), if_neg (by omega), if_neg (by omega), if_neg ei, h91]
theorem r_trafficLine (B : Int → Int) (L p c k f : Int) (V : Int → Int → Int) (σ0 σ : gS) (hS : RSt B L 1 σ0 p c k f V σ) (Q : gS → Prop) (h : LQ B L 1 σ0 p c k f V Q) : eX12_trafficLine l G σ Q := by
  have l1 : liM 1 = 40 := rfl
  have hc : 0 ≤ c ∧ c ≤ 40 ∧ gI σ 91 0 = c := ⟨hS.2.2.2.2.1.1, hS.2.2.2.2.1.2.1, hS.2.2.2.2.1.2.2.2 (by decide)⟩
  have hL := hS.2.1.2.2.1
  have s1 := tS_ge (B := B) (L := L) p
  have s2 := tS_le (B := B) (L := L) p hS.2.2.2.1.2
  have hp := hS.2.2.2.1
  have es : gI σ 88 4 = tS B L p := hS.2.2.1.2.1.2.1
  have rs : gR (tS B L p) := ⟨by omega, by omega⟩
  refine vX12_trafficLine σ Q ?_
  rw [es]
  refine r_wordIn B L 1 p (Or.inr (Or.inl rfl)) hS.2.2.2.1 σ hS.2.1 hS.2.2.1.1 hS.2.2.1.2.1 _ (fun hi τ w1 w2 _ => ?_) (fun hi τ w1 w2 w3 w4 w5 _ => ⟨fun _ => ?_, fun y => absurd y (by rw [w3]; decide)⟩) 5 9 rfl rfl
  · have hb : 5 ≤ tW B L p ∧ tW B L p ≤ 9 := hi.2
    have T : ∀ τ1 : gS, fLn σ τ1 → tR B L (tE B L p) τ1 → gI τ1 88 8 = 0 → gI τ1 89 5 = k0 1 c k → gI τ1 89 6 = f0 1 c k f (tS B L p) → (∀ i, gI τ1 91 i = gI σ 91 i) → kX12_trafficLine_39 l G (tS B L p) (tW B L p - 5) τ1 Q := by
      intro τ1 t1 t2 t3 t4 t5 t6
      have N0 := NS.start (τ := τ1) hS (by have := hi.1; omega) t1 t2 t3 t4 t5 (wR (tW B L p))
      obtain ⟨hb', hg⟩ := h
      have fin : ∀ W x3 y0 υ, NS B L [] W (nE B L (wR (tW B L p)) (tE B L p)) (nP B L (wR (tW B L p)) (tE B L p)) (fK B L (wR (tW B L p)) (tE B L p) (k0 1 c k)) (fQ B L (wR (tW B L p)) (tE B L p) (k0 1 c k) (f0 1 c k f (tS B L p))) σ0 υ → (∀ i, gI υ 91 i = gI σ 91 i) → gR x3 → gR y0 → (gI υ 88 8 = 0 → fK B L (wR (tW B L p)) (tE B L p) (k0 1 c k) = 0 → x3 = nV B L (wR (tW B L p)) (tE B L p) 0 ∧ y0 = nV B L (wR (tW B L p)) (tE B L p) 1) → kX12_trafficLine_100 l G (tS B L p) (tW B L p - 5) x3 y0 υ Q := by
        intro W x3 y0 υ n1 n2 r3 ry n3
        refine r_t100 B L W _ _ _ _ c (tS B L p) (tW B L p - 5) x3 y0 σ0 σ υ hc rs ⟨by omega, by omega⟩ r3 ry n1 n2 Q (fun τ z1 z2 z5 z3 z4 => ?_)
        rcases z4 with ⟨u1, u2, u3, u4⟩ | ⟨u1, u2, u3, u4, u5, u6, u7, u8⟩
        · exact hb' τ _ z1 z2 u2 u3 u4 (Or.inr ⟨hi, u1, rfl⟩)
        · refine hg hi u1 τ ⟨z1, z2, ⟨u3, u6, u4, u5⟩, u7, ⟨?_, ?_, fun y => absurd y (by decide), fun _ => z5⟩, u8, fun fz => ⟨fun y => absurd y (by decide), fun _ i w i0 i1 w0 w1 => ?_, fun y => absurd y (by decide)⟩⟩
          · unfold c1; rw [if_neg (by decide)]; split <;> omega
          · unfold c1; rw [if_neg (by decide), l1]; split <;> omega
          · obtain ⟨v1, v2⟩ := n3 u2 fz
            have k00 : k = 0 := by
              have h9 := fK_0 fz
              unfold k0 at h9
              by_cases e : k = 0
              · exact e
              · rw [if_pos e] at h9; exact h9
            rw [z3 i w i0 i1 w0 w1]
            show _ = if (1 : Int) = 0 then _ else if i = c ∧ c < liM 1 then _ else V i w
            rw [if_neg (show ¬ (1 : Int) = 0 by decide)]
            by_cases ei : i = c
            · have c40 : c < liM 1 := by
                rw [ei] at i1
                unfold c1 at i1
                rw [if_neg (by decide)] at i1
                exact Decidable.byContradiction (fun n => by rw [if_neg n] at i1; omega)
              rw [if_pos ei, if_pos (show i = c ∧ c < liM 1 from ⟨ei, c40⟩)]
              by_cases w2 : w = 0
              · rw [if_pos w2, if_pos w2]; exact (if_pos rfl).symm
              · rw [if_neg w2, if_neg w2]
                by_cases w3 : w = 1
                · rw [if_pos w3, v1, w3]; rfl
                · rw [if_neg w3, v2, show w - 1 = 1 by omega]
            · rw [if_neg ei, if_neg (show ¬ (i = c ∧ c < liM 1) from fun q => ei q.1)]
              have ic : i < c := by
                unfold c1 at i1; rw [if_neg (by decide)] at i1
                revert i1; split <;> intro i1 <;> omega
              exact (hS.2.2.2.2.2.2 k00).2.1 rfl i w i0 ic w0 w1
      have F5 : tW B L p = 5 ∨ tW B L p = 6 ∨ tW B L p = 7 ∨ tW B L p = 8 ∨ tW B L p = 9 := by omega
      have r2 : gR (tW B L p - 5) := ⟨by omega, by omega⟩
      rcases F5 with e | e | e | e | e
      · have er : wR (tW B L p) = [] := by rw [e]; rfl
        rw [er] at N0 fin
        refine vX12_trafficLine_39 _ _ rs r2 τ1 Q ⟨fun _ => ⟨fun _ => ?_, fun y => by omega⟩, fun y => by omega⟩
        refine vX12_trafficLine_69 _ _ _ rs r2 (by decide) τ1 Q ⟨fun _ => ⟨fun _ => ?_, fun y => by omega⟩, fun y => by omega⟩
        exact fin _ _ _ τ1 N0 t6 (by decide) (by decide) (fun _ _ => ⟨rfl, rfl⟩)
      · have er : wR (tW B L p) = [(1, 9)] := by rw [e]; rfl
        rw [er] at N0 fin
        refine vX12_trafficLine_39 _ _ rs r2 τ1 Q ⟨fun y => by omega, fun _ => ?_⟩
        refine r_numbered B L 1 9 (by decide) [] _ _ _ _ _ σ0 τ1 N0 _ (fun v υ y1 y2 y3 y4 rv => ?_)
        refine vX12_trafficLine_69 _ _ _ rs r2 rv υ Q ⟨fun _ => ⟨fun _ => ?_, fun y => by omega⟩, fun y => by omega⟩
        exact fin _ _ _ υ y1 (fun i => (y2 i).trans (t6 i)) rv (by decide) (fun q1 q2 => ⟨(y4 q1 q2).1, rfl⟩)
      · have er : wR (tW B L p) = [(0, 5), (0, 5)] := by rw [e]; rfl
        rw [er] at N0 fin
        refine vX12_trafficLine_39 _ _ rs r2 τ1 Q ⟨fun _ => ⟨fun y => by omega, fun _ => ?_⟩, fun y => by omega⟩
        refine r_numbered B L 0 5 (by decide) [(0, 5)] _ _ _ _ _ σ0 τ1 N0 _ (fun v υ y1 y2 y3 y4 rv => ?_)
        refine vX12_trafficLine_69 _ _ _ rs r2 rv υ Q ⟨fun y => by omega, fun _ => ?_⟩
        refine r_numbered B L 0 5 (by decide) [] _ _ _ _ _ σ0 υ y1 _ (fun v' υ' y1' y2' y3' y4' rv' => ?_)
        exact fin _ _ _ υ' y1' (fun i => ((y2' i).trans (y2 i)).trans (t6 i)) rv rv' (fun q1 q2 => ⟨(y4 (y3' q1) q2).1, (y4' q1 q2).1⟩)
      · have er : wR (tW B L p) = [(0, 5), (1, 63)] := by rw [e]; rfl
        rw [er] at N0 fin
        refine vX12_trafficLine_39 _ _ rs r2 τ1 Q ⟨fun _ => ⟨fun y => by omega, fun _ => ?_⟩, fun y => by omega⟩
        refine r_numbered B L 0 5 (by decide) [(1, 63)] _ _ _ _ _ σ0 τ1 N0 _ (fun v υ y1 y2 y3 y4 rv => ?_)
        refine vX12_trafficLine_69 _ _ _ rs r2 rv υ Q ⟨fun _ => ⟨fun y => by omega, fun _ => ?_⟩, fun y => by omega⟩
        refine r_numbered B L 1 63 (by decide) [] _ _ _ _ _ σ0 υ y1 _ (fun v' υ' y1' y2' y3' y4' rv' => ?_)
        exact fin _ _ _ υ' y1' (fun i => ((y2' i).trans (y2 i)).trans (t6 i)) rv rv' (fun q1 q2 => ⟨(y4 (y3' q1) q2).1, (y4' q1 q2).1⟩)
      · have er : wR (tW B L p) = [(0, 5), (1, 63)] := by rw [e]; rfl
        rw [er] at N0 fin
        refine vX12_trafficLine_39 _ _ rs r2 τ1 Q ⟨fun _ => ⟨fun y => by omega, fun _ => ?_⟩, fun y => by omega⟩
        refine r_numbered B L 0 5 (by decide) [(1, 63)] _ _ _ _ _ σ0 τ1 N0 _ (fun v υ y1 y2 y3 y4 rv => ?_)
        refine vX12_trafficLine_69 _ _ _ rs r2 rv υ Q ⟨fun _ => ⟨fun y => by omega, fun _ => ?_⟩, fun y => by omega⟩
        refine r_numbered B L 1 63 (by decide) [] _ _ _ _ _ σ0 υ y1 _ (fun v' υ' y1' y2' y3' y4' rv' => ?_)
        exact fin _ _ _ υ' y1' (fun i => ((y2' i).trans (y2 i)).trans (t6 i)) rv rv' (fun q1 q2 => ⟨(y4 (y3' q1) q2).1, (y4' q1 q2).1⟩)
    have t0 : gI τ 91 0 = c := (w1.1 _ _ (by omega)).trans hc.2.2
    have t8 : gI τ 88 8 = 0 := (w1.1 _ _ (by omega)).trans hS.2.2.1.1
    have t5 : gI τ 89 5 = k := (w1.1 _ _ (by omega)).trans hS.2.2.1.2.2.1
    have t6 : gI τ 89 6 = f := (w1.1 _ _ (by omega)).trans hS.2.2.1.2.2.2
    rw [t0]
    refine ⟨fun y => absurd t8 y, fun _ => ⟨fun g => T τ (fLn.ofR w1) w2 t8 ?_ ?_ (fun i => w1.1 _ _ (by omega)), fun g => r_also 3 _ (by decide) rs τ t8 ?_ _ (fun τ1 y1 y2 y3 => T τ1 (fun c i q1 q2 q3 => (y1 c i q3).trans (w1.1 c i (by omega))) (tR.keep (fun i _ _ => y1 _ _ (by omega)) w2) ((y1 _ _ (by omega)).trans t8) ?_ ?_ (fun i => (y1 _ _ (by omega)).trans (w1.1 _ _ (by omega))))⟩⟩
    · rw [t5]; unfold k0
      by_cases e : k = 0
      · rw [if_neg (fun n => n e), if_neg (by omega), e]
      · rw [if_pos e]
    · rw [t6]; unfold f0
      by_cases e : k = 0
      · rw [if_neg (fun n => n e), if_neg (by omega)]
      · rw [if_pos e]
    · rw [t5, t6]; intro y; have := hS.2.2.2.2.2.1 y; omega
    · rw [y2, t5]; unfold k0
      by_cases e : k = 0
      · rw [if_neg (fun n => n e), if_neg (fun n => n e), if_pos (by omega)]
      · rw [if_pos e, if_pos e]
    · rw [y3, t5, t6]; unfold f0
      by_cases e : k = 0
      · rw [if_neg (fun n => n e), if_neg (fun n => n e), if_pos (by omega)]
      · rw [if_pos e, if_pos e]
  · have r2 : gR (0 - 5 : Int) := by decide
    refine vX12_trafficLine_39 _ _ rs r2 τ Q ⟨fun _ => ⟨fun _ => ?_, fun y => by omega⟩, fun y => by omega⟩
    refine vX12_trafficLine_69 _ _ _ rs r2 (by decide) τ Q ⟨fun _ => ⟨fun _ => ?_, fun y => by omega⟩, fun y => by omega⟩
    refine r_t100 B L (fun _ => 0) _ 0 0 0 c (tS B L p) _ _ _ σ0 σ τ hc rs r2 (by decide) (by decide) (NS.bad hS w1 w3 w4 w5 [] _ _ _ _) w2 Q (fun υ z1 z2 z5 z3 z4 => ?_)
    rcases z4 with ⟨u1, u2, u3, u4⟩ | ⟨u1, u2, _⟩
    · exact h.1 υ _ z1 z2 u2 u3 u4 (Or.inl ⟨hi, rfl⟩)
    · rw [w3] at u2; exact absurd u2 (by decide)
end MT5
