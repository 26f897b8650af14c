theorem okX_S {S : RS} (hS : OKS S) (a b : Int → Bool) (m : Int → Int) : okX (S 88 10) (a, b, S 92, S 93, m) := fun o o0 o1 => hS.2.2.2.2.2.1 o o0 o1
theorem zX_gd {S : RS} (hS : OKS S) : gdX (S 88 10) (fun i o => decide (0 < S 95 (6 * i + o))) (fun i => bz (zTk S) (S 88 10).toNat i, fun o => decide (zTk S o ≠ -1), S 92, S 93, fun _ => -1) (zX S) :=
  gdX_rnds hS.1.1 (okX_S hS _ _ _) _
theorem zX_m {S : RS} (hS : OKS S) (o : Int) : (zX S).2.2.2.2 o = -1 ∨ (0 ≤ o ∧ o < S 88 10 ∧ 0 ≤ (zX S).2.2.2.2 o ∧ (zX S).2.2.2.2 o < S 88 10 ∧ 0 < S 95 (6 * (zX S).2.2.2.2 o + o)) := by
  rcases (zX_gd hS).2 o with e | ⟨e1, e2, e3, e4, e5⟩
  · exact Or.inl e
  · exact Or.inr ⟨e1, e2, e3, e4, by simpa using e5⟩
section MS1
variable {l : Launch} {G : gG}
theorem c_goesSlot (σ : gS) (hS : OKS (pS σ)) (hk : pS σ 88 25 ≤ 400) (h107 : ∀ k, 0 ≤ k → k < pS σ 88 25 → 0 ≤ pS σ 107 k ∧ pS σ 107 k ≤ 1000000) (h28 : pS σ 88 28 ≤ 1000000) (h27 : pS σ 88 27 ≤ 1000000) (hsl : pS σ 88 24 < 420) (Q : gS → Prop)
    (h : ∀ τ, pS τ = zSlot (pS σ) → frQ σ τ → Q τ) : eX12_goesSlot l G σ Q := by
  have hP := hS.1
  have hgd := zX_gd hS
  have hmt := zX_m hS
  have hTk := zTk_r (pS σ) hP.1
  obtain ⟨sf1, sf2⟩ := zSendF_o (pS σ) hS
  refine vX12_goesSlot σ Q (c_sendsFans σ hS hk h107 h28 _ (fun σ1 p1 t1 b41 b42 f1 => ?_))
  have e10 : gI σ1 88 10 = pS σ 88 10 := by rw [pS_at (by unfold okC; omega), p1, sf1 10 (by omega)]
  have e11 : gI σ1 88 11 = pS σ 88 11 := by rw [pS_at (by unfold okC; omega), p1, sf1 11 (by omega)]
  rw [e11]
  have hM : MM σ1 (pS σ 88 10) 0 (fun i o => decide (0 < pS σ 95 (6 * i + o))) (fun i => bz (zTk (pS σ)) (pS σ 88 10).toNat i, fun o => decide (zTk (pS σ) o ≠ -1), pS σ 92, pS σ 93, gI σ1 111) := by
    refine ⟨e10, isM_congr b41 (fun i i0 i1 => ?_), b42, fun o o0 o1 => ⟨?_, ?_, rfl⟩, fun i o i0 i1 o0 o1 => ?_⟩
    · dsimp only
      by_cases hb : bz (zTk (pS σ)) (pS σ 88 10).toNat i = true
      · obtain ⟨o, o0, o1, o2⟩ := bz_of _ _ _ hb
        rw [hb]
        have : i < pS σ 88 10 := by
          rcases hTk o with e | e
          · omega
          · omega
        simp [this]
      · rw [Bool.not_eq_true] at hb
        rw [hb, Bool.and_false]
    · rw [pS_at (by unfold okC; omega), p1, sf2 92 o (by omega) (by omega) (by omega) (by omega) (by omega) (by omega)]
    · rw [pS_at (by unfold okC; omega), p1, sf2 93 o (by omega) (by omega) (by omega) (by omega) (by omega) (by omega)]
    · rw [pS_at (by unfold okC; omega), p1, sf2 95 _ (by omega) (by omega) (by omega) (by omega) (by omega) (by omega)]
      simp
  refine c_matches (pS σ 88 10) 0 ⟨hP.1, hP.2.1⟩ (Or.inl rfl) _ _ (okX_S hS _ _ _) _ ⟨by omega, by omega⟩ σ1 hM _ (fun τ0 m0 fr0 => ?_)
  obtain ⟨m10, m41, m42, mp, _⟩ := m0
  have hzX : (sRnds (pS σ 88 10) (fun i o => decide (0 < pS σ 95 (6 * i + o))) (pS σ 88 11).toNat (fun i => bz (zTk (pS σ)) (pS σ 88 10).toNat i, fun o => decide (zTk (pS σ) o ≠ -1), pS σ 92, pS σ 93, fun _ => -1)) = zX (pS σ) := rfl
  have mp' : ∀ o, 0 ≤ o → o < 6 → gI τ0 92 o = (zX (pS σ)).2.2.1 o ∧ gI τ0 93 o = (zX (pS σ)).2.2.2.1 o ∧ gI τ0 111 o = (zX (pS σ)).2.2.2.2 o := mp
  clear mp m41 m42 hzX
  have hz0 : pS τ0 = zM (pS σ) := by
    funext c k
    unfold zM
    by_cases hc : okC c k
    · rw [pS_y hc]
      by_cases c1 : c = 92
      · subst c1; rw [if_pos rfl]; exact (mp' k (by unfold okC at hc; omega) (by unfold okC at hc; omega)).1
      · rw [if_neg c1]
        by_cases c2 : c = 93
        · subst c2; rw [if_pos rfl]; exact (mp' k (by unfold okC at hc; omega) (by unfold okC at hc; omega)).2.1
        · rw [if_neg c2, fr0 c k c1 c2 (by unfold okC at hc; omega) (by unfold okC at hc; omega) (by unfold okC at hc; omega), ← p1, pS_y hc]
    · rw [pS_n hc]
      by_cases c1 : c = 92
      · subst c1; rw [if_pos rfl, (hgd.1 k (by unfold okC at hc; omega)).1]; exact (pS_n hc).symm
      · rw [if_neg c1]
        by_cases c2 : c = 93
        · subst c2; rw [if_pos rfl, (hgd.1 k (by unfold okC at hc; omega)).2]; exact (pS_n hc).symm
        · rw [if_neg c2, ← p1, pS_n hc]
  have h112 : ∀ o, 0 ≤ o → o < 6 → gI τ0 112 o = zTk (pS σ) o := fun o o0 o1 => by rw [fr0 112 o (by omega) (by omega) (by omega) (by omega) (by omega)]; exact t1 o o0 o1
  have F0 : frQ σ τ0 := f1.trans fr0.q
  have hdef : zSlot (pS σ) = uS (zClr 6 (zG (zX (pS σ)).2.2.2.2 (zTk (pS σ)) (pS σ 88 10) (pS σ 88 24) 6 (zM (pS σ)))) 88 24 (pS σ 88 24 + 1) := rfl
  rw [hdef] at h
  have Z88 : ∀ k, k ≠ 28 → zM (pS σ) 88 k = pS σ 88 k := fun k hk => by unfold zM; rw [if_neg (by omega), if_neg (by omega), sf1 k hk]
  have Z95 : ∀ k, zM (pS σ) 95 k = pS σ 95 k := fun k => by unfold zM; rw [if_neg (by omega), if_neg (by omega), sf2 95 k (by omega) (by omega) (by omega) (by omega) (by omega) (by omega)]
  have Z94 : ∀ k, zM (pS σ) 94 k = pS σ 94 k := fun k => by unfold zM; rw [if_neg (by omega), if_neg (by omega), sf2 94 k (by omega) (by omega) (by omega) (by omega) (by omega) (by omega)]
  have h9 : ∀ q, 0 ≤ q → q < 36 → zM (pS σ) 95 q ≤ 9 := fun q q0 q1 => by rw [Z95]; have := (hS.2.2.1 q q0 q1).2.1; omega
  have hgt : ∀ o, 0 ≤ o → o < 6 → gI τ0 111 o = (zX (pS σ)).2.2.2.2 o := fun o o0 o1 => (mp' o o0 o1).2.2
  generalize (zX (pS σ)).2.2.2.2 = mt at *
  generalize zTk (pS σ) = tk at *
  generalize zM (pS σ) = Z at *
  clear mp' hgd hM fr0 m10 t1 b41 b42 e10 e11 p1 sf1 sf2 f1
  have q3 := hS.2.2.1
  have q24 := hS.2.1
  generalize hsl' : pS σ 88 24 = sl at *
  generalize hPe : pS σ 88 10 = P at *
  have hmt' : ∀ o, mt o = -1 ∨ (0 ≤ o ∧ o < P ∧ 0 ≤ mt o ∧ mt o < P) := fun o => by
    rcases hmt o with e | ⟨e1, e2, e3, e4, e5⟩
    · exact Or.inl e
    · exact Or.inr ⟨e1, e2, e3, e4⟩
  -- flags are cleared
  have L2 : ∀ τ, pS τ = zG mt tk P sl 6 Z → frQ σ τ → kX12_goesSlot_205 l G 0 τ Q := by
    intro τ1 z1 F1
    obtain ⟨a1, a2, a3, a4⟩ := zG_keep mt tk P sl Z (by omega) hmt' h9 6 (by omega)
    refine gloopI (α := gS) 0 6 (fun x τ => x ≤ 6 ∧ pS τ = zClr x.toNat (zG mt tk P sl 6 Z) ∧ gI τ 88 24 = sl ∧ frQ σ τ) (fun x τ => kX12_goesSlot_205 l G x τ Q) ?_ ?_ 0 τ1 (by omega) ⟨by omega, z1, by rw [pS_at (by unfold okC; omega), z1, a1 24 (by omega), Z88 24 (by omega)]; exact hsl', F1⟩
    · rintro x τ x0 x1 ⟨y0, y1, y2, y3⟩ ih
      refine vX12_goesSlot_205 x ⟨by omega, by omega⟩ τ Q ⟨fun e => by omega, fun _ => ⟨by omega, fun υ eu => ih υ ⟨by omega, ?_, ?_, ?_⟩⟩⟩
      · rw [eu, pS_sI (by unfold okC; omega), y1, show (x + 1).toNat = x.toNat + 1 by omega]
        show _ = uS (zClr x.toNat _) 99 ((x.toNat : Nat) : Int) 0
        rw [show ((x.toNat : Nat) : Int) = x by omega]
      · rw [eu, sI_ne (by omega)]; exact y2
      · rw [eu]; exact y3.trans (frQ.set (by omega))
    · rintro x τ x0 ⟨y0, y1, y2, y3⟩
      have hx : x = 6 := by omega
      subst hx
      refine vX12_goesSlot_205 6 ⟨by omega, by omega⟩ τ Q ⟨fun _ => ?_, fun e => by omega⟩
      rw [y2]
      refine ⟨⟨by omega, by omega⟩, fun υ eu => h υ ?_ ?_⟩
      · rw [eu, pS_sI (by unfold okC; omega), y1]; rfl
      · rw [eu]; exact y3.trans (frQ.set (by omega))
  refine gloopI (α := gS) 0 6 (fun x τ => x ≤ 6 ∧ pS τ = zG mt tk P sl x.toNat Z ∧ (∀ o, gI τ 111 o = gI τ0 111 o) ∧ (∀ o, gI τ 112 o = gI τ0 112 o) ∧ frQ σ τ) (fun x τ => kX12_goesSlot_15 l G x τ Q) ?_ ?_ 0 τ0 (by omega) ⟨by omega, hz0, fun _ => rfl, fun _ => rfl, F0⟩
  · rintro x τ x0 x1 ⟨y0, y1, y2, y3, y4⟩ ih
    obtain ⟨a1, a2, a3, a4⟩ := zG_keep mt tk P sl Z (by omega) hmt' h9 x.toNat (by omega)
    have e10 : gI τ 88 10 = P := by rw [pS_at (by unfold okC; omega), y1, a1 10 (by omega), Z88 10 (by omega)]; exact hPe
    have e24 : gI τ 88 24 = sl := by rw [pS_at (by unfold okC; omega), y1, a1 24 (by omega), Z88 24 (by omega)]; exact hsl'
    have e27 : gI τ 88 27 = pS τ 88 27 := pS_at (by unfold okC; omega)
    rw [y1] at e27
    rw [Z88 27 (by omega)] at a2
    have stp : zG mt tk P sl (x + 1).toNat Z = if x < P ∧ mt x ≠ -1 then zSd (6 * mt x + x) (uS (uS (zG mt tk P sl x.toNat Z) 109 (6 * sl + x) (if P ≤ x then -1 else mt x)) 110 (6 * sl + x) (if P ≤ x then -1 else tk x)) else uS (uS (zG mt tk P sl x.toNat Z) 109 (6 * sl + x) (if P ≤ x then -1 else mt x)) 110 (6 * sl + x) (if P ≤ x then -1 else tk x) := by
      rw [show (x + 1).toNat = x.toNat + 1 by omega]
      show (if ((x.toNat : Nat) : Int) < P ∧ mt ((x.toNat : Nat) : Int) ≠ -1 then zSd (6 * mt ((x.toNat : Nat) : Int) + ((x.toNat : Nat) : Int)) (uS (uS (zG mt tk P sl x.toNat Z) 109 (6 * sl + ((x.toNat : Nat) : Int)) (if P ≤ ((x.toNat : Nat) : Int) then -1 else mt ((x.toNat : Nat) : Int))) 110 (6 * sl + ((x.toNat : Nat) : Int)) (if P ≤ ((x.toNat : Nat) : Int) then -1 else tk ((x.toNat : Nat) : Int))) else uS (uS (zG mt tk P sl x.toNat Z) 109 (6 * sl + ((x.toNat : Nat) : Int)) (if P ≤ ((x.toNat : Nat) : Int) then -1 else mt ((x.toNat : Nat) : Int))) 110 (6 * sl + ((x.toNat : Nat) : Int)) (if P ≤ ((x.toNat : Nat) : Int) then -1 else tk ((x.toNat : Nat) : Int))) = _
      rw [show ((x.toNat : Nat) : Int) = x by omega]
    refine vX12_goesSlot_15 x ⟨by omega, by omega⟩ τ Q ⟨fun e => by omega, fun _ => ?_⟩
    rw [e10, e24, y2 x, hgt x (by omega) (by omega)]
    refine ⟨⟨fun _ => trivial, fun _ => ⟨by omega, trivial⟩⟩, fun v ev => ⟨by omega, fun τ1 e1 => ?_⟩⟩
    have g10 : gI τ1 88 10 = P := by rw [e1, sI_ne (by omega)]; exact e10
    have g24 : gI τ1 88 24 = sl := by rw [e1, sI_ne (by omega)]; exact e24
    have g112 : gI τ1 112 x = tk x := by rw [e1, sI_ne (by omega), y3]; exact h112 x (by omega) (by omega)
    rw [g10, g24, g112]
    refine ⟨⟨fun _ => trivial, fun _ => ⟨by omega, trivial⟩⟩, fun w ew => ⟨by omega, fun τ2 e2 => ?_⟩⟩
    have p2 : pS τ2 = uS (uS (zG mt tk P sl x.toNat Z) 109 (6 * sl + x) v) 110 (6 * sl + x) w := by
      rw [e2, pS_sI (by unfold okC; omega), e1, pS_sI (by unfold okC; omega), y1]
    rw [← ev, ← ew, ← p2] at stp
    have k10 : gI τ2 88 10 = P := by rw [e2, sI_ne (by omega)]; exact g10
    have k24 : gI τ2 88 24 = sl := by rw [e2, sI_ne (by omega)]; exact g24
    have k27 : gI τ2 88 27 = zG mt tk P sl x.toNat Z 88 27 := by rw [e2, sI_ne (by omega), e1, sI_ne (by omega)]; exact e27
    have T1 : ∀ o, gI τ2 111 o = gI τ0 111 o := fun o => by rw [e2, sI_ne (by omega), e1, sI_ne (by omega)]; exact y2 o
    have T2 : ∀ o, gI τ2 112 o = gI τ0 112 o := fun o => by rw [e2, sI_ne (by omega), e1, sI_ne (by omega)]; exact y3 o
    have F2 : frQ σ τ2 := by rw [e2, e1]; exact (y4.trans (frQ.set (by omega))).trans (frQ.set (by omega))
    rw [k10, T1 x, hgt x (by omega) (by omega)]
    refine ⟨fun e => ih τ2 ⟨by omega, by rw [stp, if_neg (by omega)], T1, T2, F2⟩, fun e => ⟨by omega, fun e9 => ?_, fun e9 => ih τ2 ⟨by omega, by rw [stp, if_neg (fun z => z.2 e9)], T1, T2, F2⟩⟩⟩
    obtain ⟨_, _, m2, m3, m4⟩ : 0 ≤ x ∧ x < P ∧ 0 ≤ mt x ∧ mt x < P ∧ 0 < pS σ 95 (6 * mt x + x) := by
      rcases hmt x with e | e
      · exact absurd e e9
      · exact e
    rw [if_pos ⟨e, e9⟩] at stp
    refine c_at (mt x) x (by omega) (by omega) τ2 _ (fun _ => ?_)
    have b3 := a3 (mt x) x m2 (by omega) (by omega) (by omega)
    have hq := q3 (6 * mt x + x) (by omega) (by omega)
    have hq0 := hq.2.2 0 (by omega) (by omega)
    have b30 := b3.2 0 (by omega) (by omega)
    rw [Int.add_zero] at hq0 b30
    rw [Z94] at b30
    have b31 := b3.1
    rw [Z95] at b31
    generalize hqq : 6 * mt x + x = q at *
    have r94 : pS τ2 94 (9 * q) = pS σ 94 (9 * q) := by rw [p2, uS_ne (by omega), uS_ne (by omega)]; exact b30
    have r95 : pS τ2 95 q = pS σ 95 q := by rw [p2, uS_ne (by omega), uS_ne (by omega)]; exact b31
    have f94 : gI τ2 94 (9 * q) = pS σ 94 (9 * q) := by rw [pS_at (by unfold okC; omega)]; exact r94
    rw [f94, k24]
    refine ⟨by omega, by omega, fun τ3 e3 => ?_⟩
    have k3 : gI τ3 88 27 = zG mt tk P sl x.toNat Z 88 27 := by rw [e3, sI_ne (by omega)]; exact k27
    rw [k3]
    refine ⟨⟨by omega, by omega⟩, fun τ4 e4 => ?_⟩
    have k4 : gI τ4 95 q = pS σ 95 q := by rw [e4, sI_ne (by omega), e3, sI_ne (by omega), pS_at (by unfold okC; omega)]; exact r95
    rw [k4]
    refine ⟨by omega, ⟨by omega, by omega⟩, fun τ5 e5 => ?_⟩
    have p5 : pS τ5 = uS (uS (uS (pS τ2) 104 (pS τ2 94 (9 * q)) (pS τ2 88 24)) 88 27 (pS τ2 88 27 + 1)) 95 q (pS τ2 95 q - 1) := by
      rw [e5, pS_sI (by unfold okC; omega), e4, pS_sI (by unfold okC; omega), e3, pS_sI (by unfold okC; omega), r94, r95, ← pS_at (show okC 88 24 by unfold okC; omega), k24, ← pS_at (show okC 88 27 by unfold okC; omega), k27]
    have d5 : zSd q (pS τ2) = zMv 94 (9 * q) (pS σ 95 q - 1).toNat (pS τ5) := by
      unfold zSd
      rw [← p5, r95]
    have S1 : ∀ o, gI τ5 111 o = gI τ0 111 o := fun o => by rw [e5, sI_ne (by omega), e4, sI_ne (by omega), e3, sI_ne (by omega)]; exact T1 o
    have S2 : ∀ o, gI τ5 112 o = gI τ0 112 o := fun o => by rw [e5, sI_ne (by omega), e4, sI_ne (by omega), e3, sI_ne (by omega)]; exact T2 o
    have F5 : frQ σ τ5 := by rw [e5, e4, e3]; exact ((F2.trans (frQ.set (by omega))).trans (frQ.set (by omega))).trans (frQ.set (by omega))
    have g95 : pS τ5 95 q = pS σ 95 q - 1 := by rw [p5, uS_eq, r95]
    refine gloopI (α := gS) 0 (pS σ 95 q - 1) (fun m υ => m ≤ pS σ 95 q - 1 ∧ pS υ = zMv 94 (9 * q) m.toNat (pS τ5) ∧ (∀ o, gI υ 111 o = gI τ0 111 o) ∧ (∀ o, gI υ 112 o = gI τ0 112 o) ∧ frQ σ υ) (fun m υ => kX12_goesSlot_157 l G x q m υ Q) ?_ ?_ 0 τ5 (by omega) ⟨by omega, rfl, S1, S2, F5⟩
    · rintro m υ w0 w1 ⟨v0, v1, v2, v3, v4⟩ ih2
      have u95 : gI υ 95 q = pS σ 95 q - 1 := by rw [pS_at (by unfold okC; omega), v1, zMv_o _ _ _ _ _ _ (by omega)]; exact g95
      refine vX12_goesSlot_157 x q m ⟨by omega, by omega⟩ ⟨by omega, by omega⟩ ⟨by omega, by omega⟩ υ Q ?_
      rw [u95]
      refine ⟨by omega, fun e => by omega, fun _ => ⟨by omega, by omega, fun ω ew => ih2 ω ⟨by omega, ?_, fun o => ?_, fun o => ?_, ?_⟩⟩⟩
      · have u94 : gI υ 94 (9 * q + m + 1) = pS τ5 94 (9 * q + m + 1) := by rw [pS_at (by unfold okC; omega), v1, zMv_c, if_neg (by omega)]
        rw [ew, pS_sI (by unfold okC; omega), v1, u94, show (m + 1).toNat = m.toNat + 1 by omega]
        show _ = uS (zMv 94 (9 * q) m.toNat (pS τ5)) 94 (9 * q + ((m.toNat : Nat) : Int)) (pS τ5 94 (9 * q + ((m.toNat : Nat) : Int) + 1))
        rw [show ((m.toNat : Nat) : Int) = m by omega]
      · rw [ew, sI_ne (by omega)]; exact v2 o
      · rw [ew, sI_ne (by omega)]; exact v3 o
      · rw [ew]; exact v4.trans (frQ.set (by omega))
    · rintro m υ w0 ⟨v0, v1, v2, v3, v4⟩
      have hm : m = pS σ 95 q - 1 := by omega
      have u95 : gI υ 95 q = pS σ 95 q - 1 := by rw [pS_at (by unfold okC; omega), v1, zMv_o _ _ _ _ _ _ (by omega)]; exact g95
      refine vX12_goesSlot_157 x q m ⟨by omega, by omega⟩ ⟨by omega, by omega⟩ ⟨by omega, by omega⟩ υ Q ?_
      rw [u95]
      refine ⟨by omega, fun _ => ih υ ⟨by omega, ?_, v2, v3, v4⟩, fun e => by omega⟩
      rw [stp, d5, v1, hm]
  · rintro x τ x0 ⟨y0, y1, y2, y3, y4⟩
    have hx : x = 6 := by omega
    subst hx
    exact vX12_goesSlot_15 6 ⟨by omega, by omega⟩ τ Q ⟨fun _ => L2 τ y1 y4, fun e => by omega⟩
end MS1
