theorem CRb_hist {σ : gS} {S T : RS} (h : CRb σ S) (hT : ∀ c k, c ≠ 109 → c ≠ 110 → T c k = S c k) : CRb σ T :=
  h.move (fun _ _ _ => rfl) (fun k _ => hT 88 k (by omega) (by omega)) (fun c k _ _ _ _ c5 c6 => hT c k c5 c6) (by rw [hT 88 24 (by omega) (by omega)]; exact h.2.1.1) (fun o o0 o1 => by rw [hT 92 o (by omega) (by omega), hT 93 o (by omega) (by omega)]; exact ⟨(h.2.2.1 o o0 o1).2.2.1, (h.2.2.1 o o0 o1).2.2.2.1⟩)
section MS7
variable {l : Launch} {G : gG}
/-- behind the fans: rounds, cells, what is written down -/
theorem c_slot2 (v6 : Int) (r6 : gR v6) (S : RS) (hS : OKS S) (hk : S 88 25 ≤ 360) (h27 : S 88 27 ≤ 900000) (hsl : S 88 24 < 360) (σ τ : gS) (hR : CRh σ S) (hC : CRb τ (zSendF S)) (h5 : isM (gI τ 45 5) (fun i => decide (i < S 88 10) && !bz (zTk S) (S 88 10).toNat i)) (h6 : isM (gI τ 45 6) (fun o => decide (o < S 88 10) && decide (zTk S o = -1))) (h52 : ∀ o, 0 ≤ o → o < 6 → gI τ 52 o = zTk S o) (h49 : ∀ o, 0 ≤ o → o < 6 → gI τ 49 o = -1) (hfr : ∀ c k, c < 32 ∨ 57 < c ∨ (c = 32 ∧ k = 18) ∨ (42 ≤ c ∧ c ≤ 44) → gI τ c k = gI σ c k) (Q : gS → Prop)
    (h : ∀ υ, CR υ (zSlot S) → gI υ 32 6 = 0 → (∀ c k, c < 32 ∨ 57 < c ∨ (c = 32 ∧ k = 18) → gI υ c k = gI σ c k) → Q υ) : eX4_passRounds l G 45 (gI τ 32 4) τ (fun σ9 => kX8_passSlot_55 l G v6 0 σ9 Q) := by
  have hP := hS.1
  have hZ := hS.2.1
  obtain ⟨sf1, sf2⟩ := zSendF_o S hS
  have e4 : gI τ 32 4 = S 88 11 := by rw [hC.1.2.1, sf1 11 (by omega)]
  have e95 : zSendF S 95 = S 95 := funext (fun k => sf2 95 k (by omega) (by omega) (by omega) (by omega) (by omega) (by omega))
  have e92 : zSendF S 92 = S 92 := funext (fun k => sf2 92 k (by omega) (by omega) (by omega) (by omega) (by omega) (by omega))
  have e93 : zSendF S 93 = S 93 := funext (fun k => sf2 93 k (by omega) (by omega) (by omega) (by omega) (by omega) (by omega))
  have hCM : CM τ 45 (S 88 10) (fun i o => decide (0 < S 95 (6 * i + o))) (fun i => bz (zTk S) (S 88 10).toNat i, fun o => decide (zTk S o ≠ -1), S 92, S 93, fun _ => -1) := by
    refine ⟨by rw [hC.1.2.2.2, sf1 10 (by omega)], h5, isM_congr h6 (fun o o0 o1 => ?_), fun o o0 o1 => ?_, fun o o0 o1 => ?_⟩
    · by_cases q : zTk S o = -1
      · rw [decide_eq_true q]; simp [q]
      · rw [decide_eq_false q]; simp [q]
    · obtain ⟨_, _, c1, c2, _⟩ := hC.2.2.1 o o0 o1
      rw [e92] at c1
      rw [e93] at c2
      exact ⟨c1, c2, h49 o o0 o1⟩
    · have := hC.2.2.2.2.2.2 o o0 (by rw [sf1 10 (by omega)]; exact o1)
      rw [sf1 10 (by omega), e95] at this
      exact this
  rw [e4]
  refine c_passRounds 45 (Or.inl rfl) (S 88 10) ⟨hP.1, hP.2.1⟩ _ _ (okX_S hS _ _ _) (S 88 11) ⟨by omega, by omega⟩ τ hCM _ (fun τ1 hM1 hF1 => ?_)
  have hM1' : CM τ1 45 (S 88 10) (fun i o => decide (0 < S 95 (6 * i + o))) (zX S) := hM1
  clear hM1 hCM
  obtain ⟨m0, m5, m6, mp, _⟩ := hM1'
  have C1 : CRb τ1 (zM S) := by
    refine hC.move (fun c k hc => ?_) (fun k hk => ?_) (fun c k c1 c2 c3 c4 c5 c6 => ?_) ?_ (fun o o0 o1 => ?_)
    · rcases hc with z | z | z | z | z | z | z
      · exact hF1.1 c k (by omega)
      · exact hF1.1 c k (by omega)
      · exact hF1.1 c k (by omega)
      · rw [z.1, z.2]; exact hF1.2.2.1
      · rw [z]; exact hF1.2.1 k
      · exact hF1.1 c k (by omega)
      · exact hF1.1 c k (by omega)
    · unfold zM; rw [if_neg (by omega), if_neg (by omega)]
    · unfold zM; rw [if_neg c2, if_neg c3]
    · rw [hF1.1 41 0 (by omega), hC.2.1.1]; unfold zM; rw [if_neg (by omega), if_neg (by omega)]
    · obtain ⟨c1, c2, _⟩ := mp o o0 o1
      refine ⟨?_, ?_⟩
      · unfold zM; rw [if_pos rfl]; exact c1
      · unfold zM; rw [if_neg (by omega), if_pos rfl]; exact c2
  have hmt := zX_m hS
  have hbu := zX_busy hS
  have hTr := zTk_r S hP.1
  have O1 := OKS_m hS
  have Z88 := zM_88 S hS
  have Z95 : ∀ k, zM S 95 k = S 95 k := fun k => zM_o S hS 95 k (by omega)
  have h9 : ∀ q, 0 ≤ q → q < 36 → zM S 95 q ≤ 9 := fun q q0 q1 => by rw [Z95]; have := (hS.2.2.1 q q0 q1).2.1; omega
  have m49 : ∀ o, 0 ≤ o → o < 6 → gI τ1 49 o = (zX S).2.2.2.2 o := fun o o0 o1 => (mp o o0 o1).2.2
  have k52 : ∀ o, 0 ≤ o → o < 6 → gI τ1 52 o = zTk S o := fun o o0 o1 => by rw [hF1.1 52 o (by omega)]; exact h52 o o0 o1
  have fr1 : ∀ c k, c < 32 ∨ 57 < c ∨ (c = 32 ∧ k = 18) ∨ (42 ≤ c ∧ c ≤ 44) → gI τ1 c k = gI σ c k := fun c k hc => by rw [hF1.1 c k (by omega)]; exact hfr c k hc
  have hsh := fun k => zSlot_h hS k
  have hdef : zSlot S = uS (zClr 6 (zG (zX S).2.2.2.2 (zTk S) (S 88 10) (S 88 24) 6 (zM S))) 88 24 (S 88 24 + 1) := rfl
  generalize hT : zSlot S = T at *
  generalize hmtd : (zX S).2.2.2.2 = mt at *
  generalize htkd : zTk S = tk at *
  generalize hbid : (zX S).1 = bi at *
  generalize hbod : (zX S).2.1 = bo at *
  generalize hZd : zM S = Z at *
  have hmt' : ∀ o, mt o = -1 ∨ (0 ≤ o ∧ o < S 88 10 ∧ 0 ≤ mt o ∧ mt o < S 88 10) := fun o => by
    rcases hmt o with e | e
    · exact Or.inl e
    · exact Or.inr ⟨e.1, e.2.1, e.2.2.1, e.2.2.2.1⟩
  have stp : ∀ x : Int, 0 ≤ x → zG mt tk (S 88 10) (S 88 24) (x + 1).toNat Z = if x < S 88 10 ∧ mt x ≠ -1 then zSd (6 * mt x + x) (uS (uS (zG mt tk (S 88 10) (S 88 24) x.toNat Z) 109 (6 * S 88 24 + x) (if S 88 10 ≤ x then -1 else mt x)) 110 (6 * S 88 24 + x) (if S 88 10 ≤ x then -1 else tk x)) else uS (uS (zG mt tk (S 88 10) (S 88 24) x.toNat Z) 109 (6 * S 88 24 + x) (if S 88 10 ≤ x then -1 else mt x)) 110 (6 * S 88 24 + x) (if S 88 10 ≤ x then -1 else tk x) := by
    intro x x0
    rw [show (x + 1).toNat = x.toNat + 1 by omega]
    show (if ((x.toNat : Nat) : Int) < S 88 10 ∧ mt ((x.toNat : Nat) : Int) ≠ -1 then zSd (6 * mt ((x.toNat : Nat) : Int) + ((x.toNat : Nat) : Int)) (uS (uS (zG mt tk (S 88 10) (S 88 24) x.toNat Z) 109 (6 * S 88 24 + ((x.toNat : Nat) : Int)) (if S 88 10 ≤ ((x.toNat : Nat) : Int) then -1 else mt ((x.toNat : Nat) : Int))) 110 (6 * S 88 24 + ((x.toNat : Nat) : Int)) (if S 88 10 ≤ ((x.toNat : Nat) : Int) then -1 else tk ((x.toNat : Nat) : Int))) else uS (uS (zG mt tk (S 88 10) (S 88 24) x.toNat Z) 109 (6 * S 88 24 + ((x.toNat : Nat) : Int)) (if S 88 10 ≤ ((x.toNat : Nat) : Int) then -1 else mt ((x.toNat : Nat) : Int))) 110 (6 * S 88 24 + ((x.toNat : Nat) : Int)) (if S 88 10 ≤ ((x.toNat : Nat) : Int) then -1 else tk ((x.toNat : Nat) : Int))) = _
    rw [show ((x.toNat : Nat) : Int) = x by omega]
  have keepF : ∀ (A : RS) (a b v w : Int) (c : Nat) (k : Int), c ≠ 109 → c ≠ 110 → uS (uS A 109 a v) 110 b w c k = A c k := fun A a b v w c k c1 c2 => by rw [uS_ne c2, uS_ne c1]
  refine gloopI (α := gS) 0 (S 88 10) (fun x υ => x ≤ S 88 10 ∧ CRb υ (zG mt tk (S 88 10) (S 88 24) x.toNat Z) ∧ ∀ c k, c ≠ 38 → c ≠ 48 → c ≠ 53 → c ≠ 54 → ¬ (c = 32 ∧ k = 8) → gI υ c k = gI τ1 c k) (fun x υ => kX8_passSlot_55 l G v6 x υ Q) ?_ ?_ 0 τ1 (by omega) ⟨by omega, C1, fun _ _ _ _ _ _ _ => rfl⟩
  · rintro x υ x0 x1 ⟨y0, y1, y2⟩ ih
    obtain ⟨a1, a2, a3, a4⟩ := zG_keep mt tk (S 88 10) (S 88 24) Z (by omega) hmt' h9 x.toNat (by omega)
    have e3 : gI υ 32 3 = S 88 10 := by rw [y1.1.1, a1 10 (by omega), Z88 10 (by omega)]
    have e49 : gI υ 49 x = mt x := by rw [y2 49 x (by omega) (by omega) (by omega) (by omega) (by omega)]; exact m49 x (by omega) (by omega)
    refine vX8_passSlot_55 v6 x r6 ⟨by omega, by omega⟩ υ Q ?_
    rw [e3, e49]
    refine ⟨fun e => by omega, fun _ => ⟨by omega, fun e => ih υ ⟨by omega, ?_, y2⟩, fun e => ?_⟩⟩
    · rw [stp x x0, if_neg (fun z => z.2 e)]
      exact CRb_hist y1 (fun c k c1 c2 => keepF _ _ _ _ _ c k c1 c2)
    · have s := stp x x0
      rw [if_pos ⟨x1, e⟩] at s
      obtain ⟨_, _, m2, m3, m4⟩ : 0 ≤ x ∧ x < S 88 10 ∧ 0 ≤ mt x ∧ mt x < S 88 10 ∧ 0 < S 95 (6 * mt x + x) := by
        rcases hmt x with z | z
        · exact absurd z e
        · exact z
      have oG := OKS_g mt tk (S 88 10) (S 88 24) Z (by omega) (fun o => by rw [Z95]; exact hmt o) O1 x.toNat (by omega)
      have C2 := CRb_hist y1 (T := uS (uS (zG mt tk (S 88 10) (S 88 24) x.toNat Z) 109 (6 * S 88 24 + x) (if S 88 10 ≤ x then -1 else mt x)) 110 (6 * S 88 24 + x) (if S 88 10 ≤ x then -1 else tk x)) (fun c k c1 c2 => keepF _ _ _ _ _ c k c1 c2)
      have O2 : OKS (uS (uS (zG mt tk (S 88 10) (S 88 24) x.toNat Z) 109 (6 * S 88 24 + x) (if S 88 10 ≤ x then -1 else mt x)) 110 (6 * S 88 24 + x) (if S 88 10 ≤ x then -1 else tk x)) := OKS_same oG (fun k _ _ => keepF _ _ _ _ _ 88 k (by omega) (by omega)) (fun c k _ _ c3 c4 => keepF _ _ _ _ _ c k c3 c4) (by rw [keepF _ _ _ _ _ _ _ (by omega) (by omega), keepF _ _ _ _ _ _ _ (by omega) (by omega)]; exact ⟨oG.2.1.2.1, oG.2.1.2.2.2.2.2.1⟩)
      have b3 := (a3 (mt x) x m2 (by omega) (by omega) (by omega)).1
      refine c_sendCell (mt x) x υ _ C2 O2 ?_ ?_ ?_ ?_ ?_ _ (fun ω w1 w2 => ih ω ⟨by omega, by rw [s]; exact w1, fun c k c1 c2 c3 c4 c5 => by rw [w2 c k c1 c2 c3 c4 c5]; exact y2 c k c1 c2 c3 c4 c5⟩)
      · rw [keepF _ _ _ _ _ _ _ (by omega) (by omega), a1 10 (by omega), Z88 10 (by omega)]; exact ⟨m2, m3⟩
      · rw [keepF _ _ _ _ _ _ _ (by omega) (by omega), a1 10 (by omega), Z88 10 (by omega)]; exact ⟨x0, x1⟩
      · rw [keepF _ _ _ _ _ _ _ (by omega) (by omega), b3, Z95]; exact m4
      · rw [keepF _ _ _ _ _ _ _ (by omega) (by omega), a1 25 (by omega), Z88 25 (by omega)]; exact hk
      · rw [keepF _ _ _ _ _ _ _ (by omega) (by omega)]
        rw [Z88 27 (by omega)] at a2
        omega
  · rintro x υ x0 ⟨y0, y1, y2⟩
    have hx : x = S 88 10 := by omega
    obtain ⟨a1, a2, a3, a4⟩ := zG_keep mt tk (S 88 10) (S 88 24) Z (by omega) hmt' h9 x.toNat (by omega)
    obtain ⟨b1, b2, b3, b4⟩ := zG_keep mt tk (S 88 10) (S 88 24) Z (by omega) hmt' h9 6 (by omega)
    have e3 : gI υ 32 3 = S 88 10 := by rw [y1.1.1, a1 10 (by omega), Z88 10 (by omega)]
    have C6 : ∀ n : Nat, x.toNat + n ≤ 6 → CRb υ (zG mt tk (S 88 10) (S 88 24) (x.toNat + n) Z) := by
      intro n
      induction n with
      | zero => intro _; exact y1
      | succ n ihn =>
        intro hn
        have s := stp ((x.toNat + n : Nat) : Int) (by omega)
        rw [show (((x.toNat + n : Nat) : Int) + 1).toNat = x.toNat + (n + 1) by omega, if_neg (by omega), show ((x.toNat + n : Nat) : Int).toNat = x.toNat + n by omega] at s
        rw [s]
        exact CRb_hist (ihn (by omega)) (fun c k c1 c2 => keepF _ _ _ _ _ c k c1 c2)
    have C7 := C6 (6 - x.toNat) (by omega)
    rw [show x.toNat + (6 - x.toNat) = 6 by omega] at C7
    have fr : ∀ c k, c ≠ 38 → c ≠ 48 → c ≠ 53 → c ≠ 54 → ¬ (c = 32 ∧ k = 8) → gI υ c k = gI τ1 c k := y2
    have g41 : gI υ 41 0 = S 88 24 := by rw [C7.2.1.1, b1 24 (by omega), Z88 24 (by omega)]
    refine vX8_passSlot_55 v6 x r6 ⟨by omega, by omega⟩ υ Q ?_
    rw [e3]
    have hm6 : ∀ o, 0 ≤ o → o < 6 → -1 ≤ mt o ∧ mt o ≤ 6 := fun o _ _ => by
      rcases hmt' o with e | e <;> omega
    refine ⟨fun _ => c_note (S 88 10) (S 88 24) ⟨hP.1, hP.2.1⟩ mt bi bo hm6 υ g41 ⟨by omega, hsl⟩ ?_ (fun o o0 o1 => ?_) ?_ ?_ _ (fun ω n1 n2 n3 n4 n5 => ?_), fun e => by omega⟩
    · rw [fr 45 0 (by omega) (by omega) (by omega) (by omega) (by omega)]; exact m0
    · rw [fr 49 o (by omega) (by omega) (by omega) (by omega) (by omega)]; exact m49 o o0 o1
    · rw [fr 45 5 (by omega) (by omega) (by omega) (by omega) (by omega)]; exact m5
    · rw [fr 45 6 (by omega) (by omega) (by omega) (by omega) (by omega)]; exact m6
    intro φ eφ
    have T88 : ∀ k, k ≠ 24 → T 88 k = zG mt tk (S 88 10) (S 88 24) 6 Z 88 k := fun k hk => by rw [hdef, uS_nei hk, zClr_o _ _ _ _ (by omega)]
    have T24 : T 88 24 = S 88 24 + 1 := by rw [hdef, uS_eq]
    have To : ∀ c k, c ≠ 88 → c ≠ 99 → T c k = zG mt tk (S 88 10) (S 88 24) 6 Z c k := fun c k c1 c2 => by rw [hdef, uS_ne c1, zClr_o _ _ _ _ c2]
    have T10 : T 88 10 = S 88 10 := by rw [T88 10 (by omega), b1 10 (by omega), Z88 10 (by omega)]
    have gφ : ∀ c k, ¬ (c = 41 ∧ k = 0) → ¬ ((c = 42 ∨ c = 43 ∨ c = 44) ∧ k = S 88 24) → ¬ (c = 32 ∧ k = 6) → gI φ c k = gI υ c k := fun c k c1 c2 c3 => by rw [eφ, sI_at, if_neg c3]; exact n5 c k c1 c2
    refine h φ (CR_b.mpr ⟨?_, ?_⟩) (by rw [eφ, sI_eq]) (fun c k hc => ?_)
    · refine C7.move (fun c k hc => gφ c k (by omega) (by omega) (by omega)) T88 (fun c k c1 c2 c3 c4 c5 c6 => To c k c1 c4) ?_ (fun o o0 o1 => ?_)
      · rw [eφ, sI_ne (by omega), n1, T24]
      · rw [gφ 46 o (by omega) (by omega) (by omega), gφ 47 o (by omega) (by omega) (by omega), To 92 o (by omega) (by omega), To 93 o (by omega) (by omega)]
        exact ⟨(C7.2.2.1 o o0 o1).2.2.1, (C7.2.2.1 o o0 o1).2.2.2.1⟩
    · obtain ⟨hR1, hR2⟩ := hR
      refine ⟨fun s s0 s1 => ?_, fun o o0 o1 => ?_⟩
      · rw [T24] at s1
        rw [T10]
        by_cases q : s = S 88 24
        · have e109 : ∀ o, 0 ≤ o → o < 6 → T 109 (6 * s + o) = mt o := fun o o0 o1 => by
            rw [(hsh _).1, if_pos (by omega), show 6 * s + o - 6 * S 88 24 = o by omega]
          have e110 : ∀ o, 0 ≤ o → o < 6 → T 110 (6 * s + o) = tk o := fun o o0 o1 => by
            rw [(hsh _).2, if_pos (by omega), show 6 * s + o - 6 * S 88 24 = o by omega]
          have v42 : gI φ 42 s = pk mt 6 := by rw [eφ, sI_ne (by omega), q]; exact n2
          have v43 : gI φ 43 s = gI ω 43 (S 88 24) := by rw [eφ, sI_ne (by omega), q]
          have v44 : gI φ 44 s = gI ω 44 (S 88 24) := by rw [eφ, sI_ne (by omega), q]
          have hr := pk_r hm6 6 (by omega)
          have h8 : (8 : Int) ^ 6 = 262144 := by decide
          rw [v42, v43, v44]
          refine ⟨by omega, fun o o0 o1 => ?_, ⟨n3.1, n3.2.1, fun i i0 i1 => ?_⟩, isM_congr n4 (fun o o0 o1 => ?_)⟩
          · rw [e109 o o0 o1]; exact pk_digit hm6 o ⟨o0, o1⟩
          · rw [n3.2.2 i i0 i1, Bool.and_eq_true, decide_eq_true_iff, hbu.1 i i0]
            constructor
            · rintro ⟨_, o, o0, o1, o2⟩
              exact ⟨o, o0, by omega, by rw [e109 o o0 (by omega), e110 o o0 (by omega)]; exact o2⟩
            · rintro ⟨o, o0, o1, o2⟩
              rw [e109 o o0 o1, e110 o o0 o1] at o2
              rcases o2 with z | z
              · rcases hmt' o with y | y
                · omega
                · exact ⟨by omega, o, o0, y.2.1, Or.inl z⟩
              · rcases hTr o with y | y
                · omega
                · exact ⟨by omega, o, o0, y.2.2.1, Or.inr z⟩
          · rw [e109 o o0 o1, e110 o o0 o1]
            congr 1
            rw [Bool.eq_iff_iff, hbu.2.1 o, Bool.or_eq_true, decide_eq_true_iff, decide_eq_true_iff]
        · have w : ∀ c, c = 42 ∨ c = 43 ∨ c = 44 → gI φ c s = gI σ c s := fun c hc => by
            rw [gφ c s (by omega) (by omega) (by omega), fr c s (by omega) (by omega) (by omega) (by omega) (by omega)]; exact fr1 c s (by omega)
          have e109 : ∀ o, 0 ≤ o → o < 6 → T 109 (6 * s + o) = S 109 (6 * s + o) := fun o o0 o1 => by rw [(hsh _).1, if_neg (by omega)]
          have e110 : ∀ o, 0 ≤ o → o < 6 → T 110 (6 * s + o) = S 110 (6 * s + o) := fun o o0 o1 => by rw [(hsh _).2, if_neg (by omega)]
          obtain ⟨r1, r2, r3, r4⟩ := hR1 s s0 (by omega)
          rw [w 42 (by omega), w 43 (by omega), w 44 (by omega)]
          refine ⟨r1, fun o o0 o1 => by rw [e109 o o0 o1]; exact r2 o o0 o1, ⟨r3.1, r3.2.1, fun i i0 i1 => ?_⟩, isM_congr r4 (fun o o0 o1 => by rw [e109 o o0 o1, e110 o o0 o1])⟩
          rw [r3.2.2 i i0 i1]
          constructor
          · rintro ⟨o, o0, o1, o2⟩; exact ⟨o, o0, o1, by rw [e109 o o0 o1, e110 o o0 o1]; exact o2⟩
          · rintro ⟨o, o0, o1, o2⟩; exact ⟨o, o0, o1, by rw [e109 o o0 o1, e110 o o0 o1] at o2; exact o2⟩
      · rw [T24, if_neg (by omega), if_neg (by omega), (hsh _).1, (hsh _).2, if_pos (by omega), if_pos (by omega), show 6 * (S 88 24 + 1 - 1) + o - 6 * S 88 24 = o by omega, gφ 49 o (by omega) (by omega) (by omega), gφ 52 o (by omega) (by omega) (by omega), fr 49 o (by omega) (by omega) (by omega) (by omega) (by omega), fr 52 o (by omega) (by omega) (by omega) (by omega) (by omega)]
        exact ⟨m49 o o0 o1, k52 o o0 o1⟩
    · rw [gφ c k (by omega) (by omega) (by omega), fr c k (by omega) (by omega) (by omega) (by omega) (by omega)]; exact fr1 c k (by omega)
/-- a slot, by the class -/
theorem c_passSlot (σ : gS) (S : RS) (hC : CR σ S) (hS : OKS S) (hk : S 88 25 ≤ 360) (h107 : ∀ k, 0 ≤ k → k < S 88 25 → 0 ≤ S 107 k ∧ S 107 k ≤ 900000) (h28 : S 88 28 ≤ 900000) (h27 : S 88 27 ≤ 900000) (hsl : S 88 24 < 360) (Q : gS → Prop)
    (h : ∀ τ, CR τ (zSlot S) → gI τ 32 6 = 0 → (∀ c k, c < 32 ∨ 57 < c ∨ (c = 32 ∧ k = 18) → gI τ c k = gI σ c k) → Q τ) : eX8_passSlot l G σ Q := by
  have hP := hS.1
  obtain ⟨hB, hH⟩ := CR_b.mp hC
  refine vX8_passSlot σ Q (c_free 45 (Or.inl rfl) (S 88 10) ⟨hP.1, hP.2.1⟩ σ hB.1.2.2.2 _ (fun τ0 t0 t5 t6 t4 tk tf _ => ?_))
  have fr0 : ∀ c k, c < 45 ∨ c = 46 ∨ c = 47 ∨ c = 48 ∨ c = 50 ∨ 50 < c → gI τ0 c k = gI σ c k := by
    intro c k hc
    by_cases q : c < 45 ∨ 50 < c
    · exact tf c k q
    · have : c = 45 + 1 ∨ c = 45 + 2 ∨ c = 45 + 3 ∨ c = 45 + 5 := by omega
      rcases this with z | z | z | z
      · rw [z]; exact tk 1 (by omega) (by omega) k
      · rw [z]; exact tk 2 (by omega) (by omega) k
      · rw [z]; exact tk 3 (by omega) (by omega) k
      · rw [z]; exact tk 5 (by omega) (by omega) k
  refine gloopI (α := gS) 0 6 (fun x τ => x ≤ 6 ∧ (∀ c k, c ≠ 52 → gI τ c k = gI τ0 c k) ∧ ∀ o, 0 ≤ o → o < x → gI τ 52 o = -1) (fun x τ => kX8_passSlot_9 l G x τ Q) ?_ ?_ 0 τ0 (by omega) ⟨by omega, fun _ _ _ => rfl, fun o o0 o1 => by omega⟩
  · rintro x τ x0 x1 ⟨y0, y1, y2⟩ ih
    refine vX8_passSlot_9 x ⟨by omega, by omega⟩ τ Q ⟨fun e => by omega, fun _ => ⟨by omega, fun υ eu => ih υ ⟨by omega, fun c k hc => by rw [eu, sI_ne hc]; exact y1 c k hc, fun o o0 o1 => ?_⟩⟩⟩
    rw [eu, sI_at]
    by_cases q : o = x
    · rw [if_pos ⟨rfl, q⟩]
    · rw [if_neg (fun z => q z.2)]; exact y2 o o0 (by omega)
  · rintro x τ x0 ⟨y0, y1, y2⟩
    have hx : x = 6 := by omega
    subst hx
    have f0 : ∀ c k, c ≠ 52 → (c < 45 ∨ c = 46 ∨ c = 47 ∨ c = 48 ∨ c = 50 ∨ 50 < c) → gI τ c k = gI σ c k := fun c k c1 c2 => by rw [y1 c k c1]; exact fr0 c k c2
    have B0 : CRb τ S := by
      refine hB.move (fun c k hc => ?_) (fun _ _ => rfl) (fun _ _ _ _ _ _ _ _ => rfl) ?_ (fun o o0 o1 => ?_)
      · by_cases q : c = 45
        · have : k = 0 := by omega
          rw [q, this, y1 _ _ (by omega), t0]; exact hB.1.2.2.2.symm
        · exact f0 c k (by omega) (by omega)
      · rw [f0 41 0 (by omega) (by omega)]; exact hB.2.1.1
      · rw [f0 46 o (by omega) (by omega), f0 47 o (by omega) (by omega)]; exact ⟨(hB.2.2.1 o o0 o1).2.2.1, (hB.2.2.1 o o0 o1).2.2.2.1⟩
    have e3 : gI τ 32 3 = S 88 10 := B0.1.1
    have g5 : isM (gI τ 45 5) (fun i => decide (i < S 88 10)) := by rw [y1 _ _ (by omega)]; exact t5
    have g6 : isM (gI τ 45 6) (fun i => decide (i < S 88 10)) := by rw [y1 _ _ (by omega)]; exact t6
    have g49 : ∀ o, 0 ≤ o → o < 6 → gI τ 49 o = -1 := fun o o0 o1 => by rw [y1 _ _ (by omega)]; exact t4 o o0 o1
    have g52 : ∀ o, 0 ≤ o → o < 6 → gI τ 52 o = -1 := y2
    have gfr : ∀ c k, c < 32 ∨ 57 < c ∨ (c = 32 ∧ k = 18) ∨ (42 ≤ c ∧ c ≤ 44) → gI τ c k = gI σ c k := fun c k hc => f0 c k (by omega) (by omega)
    refine vX8_passSlot_9 6 ⟨by omega, by omega⟩ τ Q ⟨fun _ => ?_, fun e => by omega⟩
    refine vX8_inputsWithFans τ _ ?_
    refine gloopI (α := Int) 0 (S 88 10) (fun i m => i ≤ S 88 10 ∧ isM m (fun k => decide (k < i) && decide (0 < S 97 k))) (fun i m => kX8_inputsWithFans_4 l G m i τ _) ?_ ?_ 0 0 (by omega) ⟨by omega, isM_congr isM_0 (fun k k0 k1 => by rw [decide_eq_false (show ¬ k < 0 by omega)]; rfl)⟩
    · rintro i m i0 i1 ⟨z0, z1⟩ ih
      have e55 : gI τ 55 i = S 97 i := (B0.2.2.1 i (by omega) (by omega)).2.1
      refine vX8_inputsWithFans_4 m i ⟨by have := z1.1; omega, by have := z1.2.1; omega⟩ ⟨by omega, by omega⟩ τ _ ?_
      rw [e3, e55]
      refine ⟨fun e => by omega, fun _ => ⟨by omega, fun e => ih m ⟨by omega, isM_congr z1 (fun k k0 k1 => ?_)⟩, fun e => ih _ ⟨by omega, isM_congr (isM_set z1 i (by omega)) (fun k k0 k1 => ?_)⟩⟩⟩
      · by_cases q : k = i
        · rw [q, decide_eq_false (show ¬ 0 < S 97 i by omega)]; simp
        · have e1 : (k < i) = (k < i + 1) := by simp only [eq_iff_iff]; omega
          simp only [e1]
      · by_cases q : k = i
        · rw [q, decide_eq_true e, decide_eq_true (show i < i + 1 by omega)]; simp
        · have e1 : (k < i) = (k < i + 1) := by simp only [eq_iff_iff]; omega
          simp only [e1, decide_eq_false (show ¬ i = k from fun y => q y.symm), Bool.or_false]
    · rintro i m i0 ⟨z0, z1⟩
      have hi : i = S 88 10 := by omega
      rw [hi] at z1
      refine vX8_inputsWithFans_4 m i ⟨by have := z1.1; omega, by have := z1.2.1; omega⟩ ⟨by omega, by omega⟩ τ _ ?_
      rw [e3]
      refine ⟨fun _ rm => ⟨fun e => ?_, fun e => ?_⟩, fun e => by omega⟩
      · have hno : ∀ k, 0 ≤ k → k < S 88 10 → S 97 k = 0 := fun k k0 k1 => by
          have := (isM_zero z1).mp e k k0 (by omega)
          rw [decide_eq_true k1, Bool.true_and, decide_eq_false_iff_not] at this
          have := (hS.2.2.2.1 k k0 (by omega)).1
          omega
        obtain ⟨n1, n2⟩ := noHeads hS hno
        refine c_slot2 m rm S hS hk h27 hsl σ τ hH (by rw [n2]; exact B0) (isM_congr g5 (fun k k0 k1 => ?_)) (isM_congr g6 (fun k k0 k1 => by rw [n1, decide_eq_true rfl, Bool.and_true])) (fun o o0 o1 => by rw [n1]; exact g52 o o0 o1) g49 gfr Q h
        have : bz (zTk S) (S 88 10).toNat k = false := by
          cases z : bz (zTk S) (S 88 10).toNat k
          · rfl
          · obtain ⟨o, _, _, o2⟩ := bz_of _ _ _ z
            rw [n1] at o2; omega
        rw [this]; simp
      · refine c_sendFansC m τ S B0 hS z1 hk h107 h28 g5 g6 g52 _ (fun υ u1 u2 u3 u4 u5 => ?_)
        refine c_slot2 m rm S hS hk h27 hsl σ υ hH u1 u2 u3 u4 (fun o o0 o1 => ?_) (fun c k hc => ?_) Q h
        · rw [u5 49 o (by omega) (by omega) (by omega) (by omega) (by omega)]; exact g49 o o0 o1
        · rw [u5 c k (by omega) (by omega) (by omega) (by omega) (by omega)]; exact gfr c k hc
end MS7
