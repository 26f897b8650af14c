/-- no heads: nothing of fans -/
theorem noHeads {S : RS} (hS : OKS S) (h : ∀ i, 0 ≤ i → i < S 88 10 → S 97 i = 0) : (∀ o, zTk S o = -1) ∧ zSendF S = S := by
  have ht : ∀ o, zTk S o = -1 := fun o => by
    rcases zTk_r S hS.1.1 o with e | ⟨e1, e2, e3, e4⟩
    · exact e
    · have : zLeft S (zTk S o) = 0 := by unfold zLeft; rw [if_pos (h _ e1 e2)]
      rw [this, tb0] at e4; cases e4
  refine ⟨ht, ?_⟩
  have hw : ∀ n : Nat, zW (zTk S) n S = S := by
    intro n
    induction n with
    | zero => rfl
    | succ n ih => unfold zW; rw [if_pos (ht n)]; exact ih
  have he : ∀ n : Nat, zE (bz (zTk S) (S 88 10).toNat) n S = S := by
    intro n
    induction n with
    | zero => rfl
    | succ n ih =>
      unfold zE
      rw [if_neg]
      · exact ih
      · intro z
        obtain ⟨o, _, _, o2⟩ := bz_of _ _ _ z
        rw [ht] at o2; omega
  unfold zSendF
  rw [hw, he]
/-- what is left of a head behind all takings, as a set -/
theorem zW_left {S : RS} (hS : OKS S) (tk : Int → Int) (htk : ∀ o, tk o = -1 ∨ (0 ≤ tk o ∧ tk o < 6 ∧ 0 < S 97 (tk o))) (i : Int) (hi : 0 ≤ i ∧ i < 6) (h97 : 0 < S 97 i) : ∀ n : Nat, n ≤ 6 → isM (zW tk n S 106 (S 96 (9 * i))) (fun o => tb (zLeft S i) o && !(decide (o < (n : Int)) && decide (tk o = i)))
  | 0, _ => by
    have a := zLeft_64 hS i hi
    have e : zW tk 0 S 106 (S 96 (9 * i)) = zLeft S i := by unfold zLeft; rw [if_neg (by omega)]; rfl
    rw [e]
    refine ⟨a.1, a.2, fun o o0 o1 => ?_⟩
    dsimp only
    rw [decide_eq_false (show ¬ o < ((0 : Nat) : Int) by omega)]; simp
  | n + 1, hn => by
    have ih := zW_left hS tk htk i hi h97 n (by omega)
    have hF := OKF_of hS
    unfold zW
    by_cases e : tk n = -1
    · rw [if_pos e]
      refine isM_congr ih (fun o o0 o1 => ?_)
      by_cases q : o = n
      · rw [q, e, decide_eq_false (show ¬ (-1 : Int) = i by omega)]; simp
      · have e1 : (o < (n : Int)) = (o < ((n + 1 : Nat) : Int)) := by simp only [eq_iff_iff]; omega
        simp only [e1]
    · rw [if_neg e]
      obtain ⟨t0, t1, t2⟩ : 0 ≤ tk n ∧ tk n < 6 ∧ 0 < S 97 (tk n) := by
        rcases htk n with z | z
        · exact absurd z e
        · exact z
      by_cases q : tk n = i
      · rw [q, uS_eq]
        refine isM_congr (isM_clear ih n (by omega)) (fun o o0 o1 => ?_)
        by_cases z : o = n
        · rw [z, q, decide_eq_true (show (n : Int) < ((n + 1 : Nat) : Int) by omega)]; simp
        · have e1 : (o < (n : Int)) = (o < ((n + 1 : Nat) : Int)) := by simp only [eq_iff_iff]; omega
          simp only [e1, decide_eq_false (show ¬ (n : Int) = o from fun y => z y.symm), Bool.not_false, Bool.and_true]
      · have hne := OKF_ne hF (t := tk n) (i := i) (j := 0) t0 t1 t2 hi.1 hi.2 (by omega) h97 (fun z => q z.1.symm)
        rw [Int.add_zero] at hne
        rw [uS_nei hne]
        refine isM_congr ih (fun o o0 o1 => ?_)
        by_cases z : o = n
        · rw [z, decide_eq_false q]; simp
        · have e1 : (o < (n : Int)) = (o < ((n + 1 : Nat) : Int)) := by simp only [eq_iff_iff]; omega
          simp only [e1]
theorem CRb_fan {σ τ : gS} {S T : RS} (h : CRb σ S) (hc : ∀ c k, c ≠ 57 → c ≠ 52 → ¬ (c = 45 ∧ (k = 5 ∨ k = 6)) → gI τ c k = gI σ c k) (hT : ∀ c k, c ≠ 106 → T c k = S c k) (hl : ∀ o, 0 ≤ o → o < 6 → gI τ 57 o = zLeft T o) : CRb τ T := by
  obtain ⟨p1, s, d3, d4, d5, d6, d7⟩ := h
  have f : ∀ c, c ≠ 106 → T c = S c := fun c a1 => funext (fun k => hT c k a1)
  unfold CRb
  rw [f 88 (by omega), f 92 (by omega), f 93 (by omega), f 94 (by omega), f 95 (by omega), f 96 (by omega), f 97 (by omega), f 98 (by omega), f 100 (by omega), f 101 (by omega), f 102 (by omega), f 103 (by omega), f 104 (by omega), f 105 (by omega), f 107 (by omega)]
  have g : ∀ c, c ≠ 57 → c ≠ 52 → c ≠ 45 → gI τ c = gI σ c := fun c a b d => funext (fun k => hc c k a b (by omega))
  rw [g 32 (by omega) (by omega) (by omega), g 41 (by omega) (by omega) (by omega), g 33 (by omega) (by omega) (by omega), g 51 (by omega) (by omega) (by omega), g 55 (by omega) (by omega) (by omega), g 46 (by omega) (by omega) (by omega), g 47 (by omega) (by omega) (by omega), g 53 (by omega) (by omega) (by omega), g 54 (by omega) (by omega) (by omega), g 56 (by omega) (by omega) (by omega), g 34 (by omega) (by omega) (by omega), g 35 (by omega) (by omega) (by omega), g 36 (by omega) (by omega) (by omega), g 37 (by omega) (by omega) (by omega), g 38 (by omega) (by omega) (by omega), g 39 (by omega) (by omega) (by omega), g 40 (by omega) (by omega) (by omega), g 48 (by omega) (by omega) (by omega), hc 45 0 (by omega) (by omega) (by omega)]
  exact ⟨p1, s, fun o o0 o1 => ⟨(d3 o o0 o1).1, (d3 o o0 o1).2.1, (d3 o o0 o1).2.2.1, (d3 o o0 o1).2.2.2.1, hl o o0 o1⟩, d4, d5, d6, d7⟩
section MS6
variable {l : Launch} {G : gG}
/-- fans are sent, by the class -/
theorem c_sendFansC (heads : Int) (σ : gS) (S : RS) (hC : CRb σ S) (hS : OKS S) (hh : isM heads (fun i => decide (i < S 88 10) && decide (0 < S 97 i))) (hk : S 88 25 ≤ 360) (h107 : ∀ k, 0 ≤ k → k < S 88 25 → 0 ≤ S 107 k ∧ S 107 k ≤ 900000) (h28 : S 88 28 ≤ 900000) (h5 : isM (gI σ 45 5) (fun i => decide (i < S 88 10))) (h6 : isM (gI σ 45 6) (fun i => decide (i < S 88 10))) (h52 : ∀ o, 0 ≤ o → o < 6 → gI σ 52 o = -1) (Q : gS → Prop)
    (h : ∀ τ, CRb τ (zSendF S) → isM (gI τ 45 5) (fun i => decide (i < S 88 10) && !bz (zTk S) (S 88 10).toNat i) → isM (gI τ 45 6) (fun o => decide (o < S 88 10) && decide (zTk S o = -1)) → (∀ o, 0 ≤ o → o < 6 → gI τ 52 o = zTk S o) → (∀ c k, ¬ (38 ≤ c ∧ c ≤ 40) → c ≠ 52 → ¬ (55 ≤ c ∧ c ≤ 57) → ¬ (c = 45 ∧ (k = 5 ∨ k = 6)) → ¬ (c = 32 ∧ k = 9) → gI τ c k = gI σ c k) → Q τ) : eX8_sendFans l G heads σ Q := by
  have hP := hS.1
  have hZ := hS.2.1
  have rh : gR heads := ⟨by have := hh.1; omega, by have := hh.2.1; omega⟩
  refine vX8_sendFans heads rh σ Q (c_mostApart heads σ S hC.1.1 (fun i i0 i1 => (hC.2.2.1 i i0 i1).2.2.2.2) hS hh _ (fun _ => ?_))
  refine c_takes heads rh S hS σ hC.1.1 (fun i i0 i1 => (hC.2.2.1 i i0 i1).2.2.2.2) h5 h6 h52 Q (fun τ0 hF => ?_)
  have rsv : gR (zServed S) := by
    have := svF_r (zLeft S) (S 88 10) ((2 : Int) ^ (S 88 10).toNat - 1).toNat
    have hpw := two_pow_P (P := S 88 10) ⟨hP.1, hP.2.1⟩
    unfold zServed
    exact ⟨by omega, by omega⟩
  obtain ⟨f1, f2, f3, f4, f5⟩ := hF
  have hWl : ∀ i, 0 ≤ i → i < 6 → gI τ0 57 i = zLeft (zW (zTk S) (S 88 10).toNat S) i := by
    intro i i0 i1
    unfold zLeft
    rw [zW_o _ _ _ 97 _ (by omega), zW_o _ _ _ 96 _ (by omega)]
    by_cases e : S 97 i = 0
    · rw [if_pos e]
      have hb := f1 i i0 i1
      rw [isM_zero hb]
      intro o o0 o1
      have : zLeft S i = 0 := by unfold zLeft; rw [if_pos e]
      rw [this, tb0]; rfl
    · rw [if_neg e]
      have h97 : 0 < S 97 i := by have := (hS.2.2.2.1 i i0 i1).1; omega
      refine isM_unique (f1 i i0 i1) (isM_congr (zW_left hS (zTk S) (zTk_97 hS) i ⟨i0, i1⟩ h97 (S 88 10).toNat (by omega)) (fun o o0 o1 => ?_))
      by_cases q : o < S 88 10
      · rw [decide_eq_true (show o < ((S 88 10).toNat : Int) by omega)]; simp
      · have : zTk S o = -1 := by
          rcases zTk_r S hP.1 o with z | z
          · exact z
          · omega
        rw [this, decide_eq_false (show ¬ (-1 : Int) = i by omega)]; simp
  have hCW : CRb τ0 (zW (zTk S) (S 88 10).toNat S) := CRb_fan hC f5 (fun c k hc => zW_o _ _ _ _ _ hc) hWl
  have hFW := OKF_zW hS (zTk S) (zTk_97 hS) (S 88 10).toNat (by omega)
  have W88 : ∀ k, zW (zTk S) (S 88 10).toNat S 88 k = S 88 k := fun k => zW_o _ _ _ _ _ (by omega)
  have W107 : ∀ k, zW (zTk S) (S 88 10).toNat S 107 k = S 107 k := fun k => zW_o _ _ _ _ _ (by omega)
  have hdef : zSendF S = zE (bz (zTk S) (S 88 10).toNat) (S 88 10).toNat (zW (zTk S) (S 88 10).toNat S) := rfl
  rw [hdef] at h
  generalize zW (zTk S) (S 88 10).toNat S = W at *
  have hW9 : ∀ i, 0 ≤ i → i < 6 → W 97 i ≤ 9 := fun i i0 i1 => by have := (hFW i i0 i1).2.1; rw [W88] at this; omega
  refine gloopI (α := gS) 0 (S 88 10) (fun x τ => x ≤ S 88 10 ∧ CRb τ (zE (bz (zTk S) (S 88 10).toNat) x.toNat W) ∧ (∀ c k, ¬ (38 ≤ c ∧ c ≤ 40) → ¬ (55 ≤ c ∧ c ≤ 57) → ¬ (c = 32 ∧ k = 9) → gI τ c k = gI τ0 c k)) (fun x τ => kX8_sendFans_121 l G heads (zServed S) x τ Q) ?_ ?_ 0 τ0 (by omega) ⟨by omega, hCW, fun _ _ _ _ _ => rfl⟩
  · rintro x τ x0 x1 ⟨y0, y1, y2⟩ ih
    obtain ⟨a1, a2, a3, a4, a5, a6, a7⟩ := zE_keep (bz (zTk S) (S 88 10).toNat) x.toNat W (by omega) hW9
    have e3 : gI τ 32 3 = S 88 10 := by rw [y1.1.1, a1 10 (by omega)]; exact W88 10
    have stp : zE (bz (zTk S) (S 88 10).toNat) (x + 1).toNat W = if bz (zTk S) (S 88 10).toNat x = true then zE1 x (zE (bz (zTk S) (S 88 10).toNat) x.toNat W) else zE (bz (zTk S) (S 88 10).toNat) x.toNat W := by
      rw [show (x + 1).toNat = x.toNat + 1 by omega]
      show (if bz (zTk S) (S 88 10).toNat ((x.toNat : Nat) : Int) = true then zE1 ((x.toNat : Nat) : Int) _ else _) = _
      rw [show ((x.toNat : Nat) : Int) = x by omega]
    have t5 : gI τ 45 5 = gI τ0 45 5 := y2 _ _ (by omega) (by omega) (by omega)
    refine vX8_sendFans_121 heads (zServed S) x rh rsv ⟨by omega, by omega⟩ τ Q ⟨fun e => by omega, fun _ => c_holds _ x (by rw [t5]; exact ⟨f2.1, f2.2.1⟩) (by omega) τ _ (fun _ => ?_)⟩
    have f2x : tb (gI τ0 45 5) x = (decide (x < S 88 10) && !bz (zTk S) (S 88 10).toNat x) := f2.2.2 x (by omega) (by omega)
    rw [t5, f2x, decide_eq_true x1]
    by_cases hb : bz (zTk S) (S 88 10).toNat x = true
    · rw [if_pos hb] at stp
      rw [hb, if_neg (by decide)]
      refine ⟨fun e => absurd rfl e, fun _ => ?_⟩
      have hFx := OKF_zE (W := bz (zTk S) (S 88 10).toNat) x.toNat W (by omega) hFW (by rw [W88]; omega)
      have hx97 := (hFx x (by omega) (by omega)).2.2.1 (by
        have : ¬ x < ((x.toNat : Nat) : Int) := by omega
        dsimp only
        rw [decide_eq_false this, hb]; rfl)
      refine c_endSending x (by omega) τ _ _ y1 hFx hx97 (by rw [a1 12 (by omega), W88]; omega) (by rw [a1 25 (by omega), W88]; exact hk) (fun k k0 k1 => ?_) ?_ _ (fun υ u1 u2 => ih υ ⟨by omega, by rw [stp]; exact u1, fun c k c1 c2 c3 => ?_⟩)
      · rw [a1 25 (by omega), W88] at k1
        have := h107 k k0 k1
        have b := a6 k
        rw [W107] at b
        omega
      · rw [W88] at a7; omega
      · rw [u2 c k (by omega) (by omega) (by omega) (by omega) (by omega) c3]; exact y2 c k c1 c2 c3
    · rw [if_neg hb] at stp
      rw [Bool.not_eq_true] at hb
      rw [hb]
      exact ⟨fun _ => ih τ ⟨by omega, by rw [stp]; exact y1, y2⟩, fun e => absurd e (by decide)⟩
  · rintro x τ x0 ⟨y0, y1, y2⟩
    have hx : x = S 88 10 := by omega
    obtain ⟨a1, a2, a3, a4, a5, a6, a7⟩ := zE_keep (bz (zTk S) (S 88 10).toNat) x.toNat W (by omega) hW9
    have e3 : gI τ 32 3 = S 88 10 := by rw [y1.1.1, a1 10 (by omega)]; exact W88 10
    refine vX8_sendFans_121 heads (zServed S) x rh rsv ⟨by omega, by omega⟩ τ Q ⟨fun _ => h τ (by rw [← hx]; rw [hx] at y1 ⊢; exact y1) ?_ ?_ (fun o o0 o1 => ?_) (fun c k c1 c2 c3 c4 c5 => ?_), fun e => by omega⟩
    · rw [y2 _ _ (by omega) (by omega) (by omega)]; exact f2
    · rw [y2 _ _ (by omega) (by omega) (by omega)]; exact f3
    · rw [y2 _ _ (by omega) (by omega) (by omega)]; exact f4 o o0 o1
    · rw [y2 c k c1 c3 c5]; exact f5 c k (by omega) c2 c4
end MS6
