/-- rows of fans in the midst of a slot; W: whose head may have nothing left -/
def OKF (W : Int → Bool) (S : RS) : Prop := ∀ i, 0 ≤ i → i < 6 → 0 ≤ S 97 i ∧ S 97 i ≤ S 88 12 ∧ (W i = true → 0 < S 97 i) ∧ ∀ j, 0 ≤ j → j < S 97 i → 0 ≤ S 96 (9 * i + j) ∧ S 96 (9 * i + j) < S 88 25 ∧ S 100 (S 96 (9 * i + j)) = i ∧ 0 ≤ S 106 (S 96 (9 * i + j)) ∧ (1 ≤ S 106 (S 96 (9 * i + j)) ∨ (j = 0 ∧ W i = true)) ∧ S 106 (S 96 (9 * i + j)) < 2 ^ (S 88 10).toNat ∧ (1 ≤ j → S 106 (S 96 (9 * i + j)) = S 101 (S 96 (9 * i + j)) ∧ S 96 (9 * i + (j - 1)) < S 96 (9 * i + j))
theorem OKF_of {S : RS} (h : OKS S) : OKF (fun _ => false) S := fun i i0 i1 => by
  obtain ⟨a1, a2, a3⟩ := h.2.2.2.1 i i0 i1
  refine ⟨a1, a2, (fun (z : false = true) => by cases z), fun j j0 j1 => ?_⟩
  obtain ⟨b1, b2, b3, b4, b5, b6⟩ := a3 j j0 j1
  exact ⟨b1, b2, b3, by omega, Or.inl b4, b5, b6⟩
theorem OKF_row {W : Int → Bool} {S : RS} (h : OKF W S) {i : Int} (i0 : 0 ≤ i) (i1 : i < 6) : ∀ n : Nat, (n : Int) + 1 < S 97 i → S 96 (9 * i) < S 96 (9 * i + ((n : Int) + 1))
  | 0, hn => by
    have := (((h i i0 i1).2.2.2 1 (by omega) (by omega)).2.2.2.2.2.2 (by omega)).2
    rw [show (1 : Int) - 1 = 0 by omega, Int.add_zero] at this
    exact this
  | n + 1, hn => by
    have a := OKF_row h i0 i1 n (by omega)
    have b := (((h i i0 i1).2.2.2 ((n : Int) + 1 + 1) (by omega) (by omega)).2.2.2.2.2.2 (by omega)).2
    rw [show (n : Int) + 1 + 1 - 1 = (n : Int) + 1 by omega] at b
    have e : (((n + 1 : Nat) : Int) + 1) = (n : Int) + 1 + 1 := by omega
    rw [e]
    omega
/-- heads are none of the others in rows -/
theorem OKF_ne {W : Int → Bool} {S : RS} (h : OKF W S) {t i j : Int} (t0 : 0 ≤ t) (t1 : t < 6) (ht : 0 < S 97 t) (i0 : 0 ≤ i) (i1 : i < 6) (j0 : 0 ≤ j) (j1 : j < S 97 i) (hne : ¬ (i = t ∧ j = 0)) : S 96 (9 * i + j) ≠ S 96 (9 * t) := by
  intro e
  have a := ((h i i0 i1).2.2.2 j j0 j1).2.2.1
  have b := ((h t t0 t1).2.2.2 0 (by omega) (by omega)).2.2.1
  rw [Int.add_zero, ← e] at b
  have hit : i = t := by omega
  subst hit
  have := OKF_row h t0 t1 (j - 1).toNat (by omega)
  rw [show (((j - 1).toNat : Nat) : Int) + 1 = j by omega] at this
  omega
theorem OKF_w {W : Int → Bool} {S : RS} (h : OKF W S) (hP : 1 ≤ S 88 10 ∧ S 88 10 ≤ 6) {t o : Int} (t0 : 0 ≤ t) (t1 : t < 6) (ht : 0 < S 97 t) (o0 : 0 ≤ o ∧ o < 6) : OKF (fun i => W i || decide (t = i)) (uS S 106 (S 96 (9 * t)) (gand (S 106 (S 96 (9 * t))) (gxor (gshl 1 o) (-1)))) := by
  have hp := two_pow_P hP
  have hh := (h t t0 t1).2.2.2 0 (by omega) (by omega)
  rw [Int.add_zero] at hh
  have hm : isM (S 106 (S 96 (9 * t))) (fun k => tb (S 106 (S 96 (9 * t))) k) := ⟨by omega, by omega, fun _ _ _ => rfl⟩
  have hc := isM_clear hm o o0
  have hle : gand (S 106 (S 96 (9 * t))) (gxor (gshl 1 o) (-1)) ≤ S 106 (S 96 (9 * t)) := sub_le ⟨hc.1, hc.2.1⟩ ⟨hm.1, hm.2.1⟩ (fun k k0 k1 hk => by
    rw [hc.2.2 k k0 k1] at hk
    simp only [Bool.and_eq_true] at hk
    exact hk.1)
  have hc0 := hc.1
  intro i i0 i1
  rw [uS_ne (show (97 : Nat) ≠ 106 by omega), uS_ne (show (88 : Nat) ≠ 106 by omega), uS_ne (show (88 : Nat) ≠ 106 by omega), uS_ne (show (88 : Nat) ≠ 106 by omega)]
  obtain ⟨a1, a2, a3, a4⟩ := h i i0 i1
  refine ⟨a1, a2, fun z => ?_, fun j j0 j1 => ?_⟩
  · rw [Bool.or_eq_true, decide_eq_true_iff] at z
    rcases z with z | z
    · exact a3 z
    · rw [← z]; exact ht
  · rw [uS_ne (show (96 : Nat) ≠ 106 by omega), uS_ne (show (96 : Nat) ≠ 106 by omega), uS_ne (show (100 : Nat) ≠ 106 by omega), uS_ne (show (101 : Nat) ≠ 106 by omega)]
    obtain ⟨b1, b2, b3, b4, b5, b6, b7⟩ := a4 j j0 j1
    by_cases hne : i = t ∧ j = 0
    · obtain ⟨e1, e2⟩ := hne
      subst e1; subst e2
      rw [Int.add_zero] at *
      rw [uS_eq]
      refine ⟨b1, b2, b3, hc0, Or.inr ⟨rfl, ?_⟩, by omega, fun z => by omega⟩
      rw [Bool.or_eq_true, decide_eq_true_iff]; exact Or.inr rfl
    · have hd := OKF_ne h t0 t1 ht i0 i1 j0 j1 hne
      rw [uS_nei hd]
      refine ⟨b1, b2, b3, b4, ?_, b6, b7⟩
      rcases b5 with z | ⟨z1, z2⟩
      · exact Or.inl z
      · exact Or.inr ⟨z1, by show (W i || decide (t = i)) = true; rw [z2]; rfl⟩
theorem OKF_e {W : Int → Bool} {S : RS} (h : OKF W S) {t : Int} (t0 : 0 ≤ t) (t1 : t < 6) (ht : W t = true) (h12 : S 88 12 ≤ 9) : OKF (fun i => W i && !decide (t = i)) (zE1 t S) := by
  intro i i0 i1
  have c12 := zE1_88 t S 12 (by omega)
  have c10 := zE1_88 t S 10 (by omega)
  have c25 := zE1_88 t S 25 (by omega)
  have hT := h t t0 t1
  obtain ⟨a1, a2, a3, a4⟩ := h i i0 i1
  have ht97 := hT.2.2.1 ht
  rw [c12, c10, c25]
  have o100 : zE1 t S 100 = S 100 := funext (fun k => zE1_o _ _ _ _ (by omega))
  have o101 : zE1 t S 101 = S 101 := funext (fun k => zE1_o _ _ _ _ (by omega))
  have o106 : zE1 t S 106 = S 106 := funext (fun k => zE1_o _ _ _ _ (by omega))
  rw [o100, o101, o106]
  by_cases hit : i = t
  · subst hit
    have hW : (W i && !decide (i = i)) = false := by simp
    by_cases hz : S 106 (S 96 (9 * i)) = 0
    · have e97 : zE1 i S 97 i = S 97 i - 1 := by unfold zE1; rw [if_pos hz, zMv_o _ _ _ _ _ _ (by omega), uS_eq]
      have e96 : ∀ j, 0 ≤ j → j < S 97 i - 1 → zE1 i S 96 (9 * i + j) = S 96 (9 * i + (j + 1)) := by
        intro j j0 j1
        unfold zE1
        rw [if_pos hz, zMv_c, if_pos (by omega), uS_ne (by omega), uS_ne (by omega), uS_ne (by omega), uS_ne (by omega), show 9 * i + j + 1 = 9 * i + (j + 1) by omega]
      rw [e97]
      refine ⟨by omega, by omega, fun z => ?_, fun j j0 j1 => ?_⟩
      · have z' : (W i && !decide (i = i)) = true := z
        rw [hW] at z'; cases z'
      · rw [e96 j j0 j1]
        obtain ⟨b1, b2, b3, b4, b5, b6, b7⟩ := a4 (j + 1) (by omega) (by omega)
        refine ⟨b1, b2, b3, b4, ?_, b6, fun z => ?_⟩
        · rcases b5 with z | ⟨z1, z2⟩
          · exact Or.inl z
          · omega
        · rw [e96 (j - 1) (by omega) (by omega)]
          obtain ⟨y1, y2⟩ := b7 (by omega)
          refine ⟨y1, ?_⟩
          rw [show j - 1 + 1 = j by omega]
          rw [show j + 1 - 1 = j by omega] at y2
          exact y2
    · have e97 : zE1 i S 97 i = S 97 i := by unfold zE1; rw [if_neg hz, uS_ne (by omega)]
      have e96 : ∀ j, zE1 i S 96 j = S 96 j := by intro j; unfold zE1; rw [if_neg hz, uS_ne (by omega)]
      rw [e97]
      refine ⟨a1, a2, fun z => ?_, fun j j0 j1 => ?_⟩
      · have z' : (W i && !decide (i = i)) = true := z
        rw [hW] at z'; cases z'
      · rw [e96, e96]
        obtain ⟨b1, b2, b3, b4, b5, b6, b7⟩ := a4 j j0 j1
        refine ⟨b1, b2, b3, b4, Or.inl ?_, b6, b7⟩
        rcases b5 with z | ⟨z1, z2⟩
        · exact z
        · subst z1
          rw [Int.add_zero] at *
          omega
  · have hW : (W i && !decide (t = i)) = W i := by
      have : ¬ t = i := fun z => hit z.symm
      simp [this]
    show 0 ≤ zE1 t S 97 i ∧ zE1 t S 97 i ≤ S 88 12 ∧ ((W i && !decide (t = i)) = true → 0 < zE1 t S 97 i) ∧ ∀ j, 0 ≤ j → j < zE1 t S 97 i → 0 ≤ zE1 t S 96 (9 * i + j) ∧ zE1 t S 96 (9 * i + j) < S 88 25 ∧ S 100 (zE1 t S 96 (9 * i + j)) = i ∧ 0 ≤ S 106 (zE1 t S 96 (9 * i + j)) ∧ (1 ≤ S 106 (zE1 t S 96 (9 * i + j)) ∨ (j = 0 ∧ (W i && !decide (t = i)) = true)) ∧ S 106 (zE1 t S 96 (9 * i + j)) < 2 ^ (S 88 10).toNat ∧ (1 ≤ j → S 106 (zE1 t S 96 (9 * i + j)) = S 101 (zE1 t S 96 (9 * i + j)) ∧ zE1 t S 96 (9 * i + (j - 1)) < zE1 t S 96 (9 * i + j))
    rw [hW, zE1_97 _ _ _ hit]
    refine ⟨a1, a2, a3, fun j j0 j1 => ?_⟩
    rw [zE1_96 _ _ (by omega) _ (by omega)]
    obtain ⟨b1, b2, b3, b4, b5, b6, b7⟩ := a4 j j0 j1
    refine ⟨b1, b2, b3, b4, b5, b6, fun z => ?_⟩
    rw [zE1_96 _ _ (by omega) _ (by omega)]
    exact b7 z
theorem OKF_congrW {W V : Int → Bool} {S : RS} (h : OKF W S) (e : ∀ i, 0 ≤ i → i < 6 → W i = V i) : OKF V S := fun i i0 i1 => by
  rw [← e i i0 i1]; exact h i i0 i1
theorem OKF_zW {S : RS} (hS : OKS S) (tk : Int → Int) (htk : ∀ o, tk o = -1 ∨ (0 ≤ tk o ∧ tk o < 6 ∧ 0 < S 97 (tk o))) : ∀ n : Nat, n ≤ 6 → OKF (bz tk n) (zW tk n S)
  | 0, _ => OKF_of hS
  | n + 1, hn => by
    have ih := OKF_zW hS tk htk n (by omega)
    have hP : zW tk n S 88 10 = S 88 10 := zW_o _ _ _ _ _ (by omega)
    unfold zW
    split
    · rename_i e
      refine OKF_congrW ih (fun i i0 i1 => ?_)
      show bz tk n i = (bz tk n i || decide (tk n = i))
      have : ¬ tk n = i := by omega
      simp [this]
    · rename_i e
      rcases htk n with z | ⟨z1, z2, z3⟩
      · exact absurd z e
      · have := OKF_w ih (by rw [hP]; exact ⟨hS.1.1, hS.1.2.1⟩) z1 z2 (by rw [zW_o _ _ _ _ _ (by omega)]; exact z3) (o := n) ⟨by omega, by omega⟩
        rw [zW_o tk n S 96 _ (by omega)] at this
        exact this
theorem OKF_zE {W : Int → Bool} : ∀ (n : Nat) (S : RS), n ≤ 6 → OKF W S → S 88 12 ≤ 9 → OKF (fun i => W i && !decide (i < n)) (zE W n S)
  | 0, S, _, h, _ => OKF_congrW h (fun i i0 i1 => by
    have : ¬ i < ((0 : Nat) : Int) := by omega
    rw [decide_eq_false this]; simp)
  | n + 1, S, hn, h, h12 => by
    have ih := OKF_zE n S (by omega) h h12
    have c12 : zE W n S 88 12 = S 88 12 := (zE_keep W n S (by omega) (fun i i0 i1 => by have := (h i i0 i1).2.1; omega)).1 12 (by omega)
    unfold zE
    split
    · rename_i hb
      refine OKF_congrW (OKF_e ih (t := n) (by omega) (by omega) (by
        have : ¬ (n : Int) < n := by omega
        simp [hb]) (by omega)) (fun i i0 i1 => ?_)
      by_cases q : i = n
      · subst q
        have : (n : Int) < ((n + 1 : Nat) : Int) := by omega
        rw [decide_eq_true this]; simp
      · have e1 : (i < (n : Int)) = (i < ((n + 1 : Nat) : Int)) := by simp only [eq_iff_iff]; omega
        have e2 : ¬ (n : Int) = i := fun z => q z.symm
        simp only [e1, e2, decide_false, Bool.not_false, Bool.and_true]
    · rename_i hb
      refine OKF_congrW ih (fun i i0 i1 => ?_)
      by_cases q : i = n
      · subst q
        rw [Bool.not_eq_true] at hb
        simp [hb]
      · have e1 : (i < (n : Int)) = (i < ((n + 1 : Nat) : Int)) := by simp only [eq_iff_iff]; omega
        simp only [e1]
theorem zTk_97 {S : RS} (hS : OKS S) (o : Int) : zTk S o = -1 ∨ (0 ≤ zTk S o ∧ zTk S o < 6 ∧ 0 < S 97 (zTk S o)) := by
  rcases zTk_r S hS.1.1 o with e | ⟨e1, e2, e3, e4⟩
  · exact Or.inl e
  · have hP := hS.1
    refine Or.inr ⟨e1, by omega, ?_⟩
    have a := zLeft_r hS (zTk S o) ⟨e1, by omega⟩
    have b := (hS.2.2.2.1 (zTk S o) e1 (by omega)).1
    by_cases z : S 97 (zTk S o) = 0
    · rw [a.2.2.mpr z, tb0] at e4; cases e4
    · omega
theorem OKS_sendF {S : RS} (hS : OKS S) : OKS (zSendF S) := by
  obtain ⟨sf1, sf2⟩ := zSendF_o S hS
  obtain ⟨h1, h2, h3, h4, h5, h6, h7⟩ := id hS
  have hWk : ∀ i, 0 ≤ i → i < 6 → zW (zTk S) (S 88 10).toNat S 97 i ≤ 9 := fun i i0 i1 => by rw [zW_o _ _ _ _ _ (by omega)]; have := (h4 i i0 i1).2.1; omega
  obtain ⟨k1, k2, k3, k4, k5, k6, k7⟩ := zE_keep (bz (zTk S) (S 88 10).toNat) (S 88 10).toNat (zW (zTk S) (S 88 10).toNat S) (by omega) hWk
  have hF := OKF_zE (W := bz (zTk S) (S 88 10).toNat) (S 88 10).toNat _ (by omega) (OKF_zW hS (zTk S) (zTk_97 hS) (S 88 10).toNat (by omega)) (by rw [zW_o _ _ _ _ _ (by omega)]; omega)
  have hF' : OKF (fun i => bz (zTk S) (S 88 10).toNat i && !decide (i < ((S 88 10).toNat : Int))) (zSendF S) := hF
  have hbz : ∀ i, bz (zTk S) (S 88 10).toNat i = true → i < S 88 10 ∨ i = -1 := fun i hi => by
    obtain ⟨o, o0, o1, o2⟩ := bz_of _ _ _ hi
    rcases zTk_r S h1.1 o with e | e
    · omega
    · omega
  have hz28 : S 88 28 ≤ zSendF S 88 28 := by
    have := k7.1
    rw [zW_o _ _ _ _ _ (by omega)] at this
    exact this
  refine ⟨?_, ?_, fun q q0 q1 => ?_, fun i i0 i1 => ?_, fun i i0 i1 => ?_, fun o o0 o1 => ?_, fun i i0 i1 => ?_⟩
  · rw [sf1 10 (by omega), sf1 11 (by omega), sf1 12 (by omega)]; exact h1
  · rw [sf1 23 (by omega), sf1 24 (by omega), sf1 25 (by omega), sf1 26 (by omega), sf1 27 (by omega)]
    exact ⟨h2.1, h2.2.1, h2.2.2.1, h2.2.2.2.1, h2.2.2.2.2.1, h2.2.2.2.2.2.1, by omega⟩
  · have e95 : zSendF S 95 = S 95 := funext (fun k => sf2 95 k (by omega) (by omega) (by omega) (by omega) (by omega) (by omega))
    have e94 : zSendF S 94 = S 94 := funext (fun k => sf2 94 k (by omega) (by omega) (by omega) (by omega) (by omega) (by omega))
    rw [e95, e94, sf1 12 (by omega), sf1 25 (by omega)]; exact h3 q q0 q1
  · obtain ⟨a1, a2, a3, a4⟩ := hF' i i0 i1
    refine ⟨a1, a2, fun j j0 j1 => ?_⟩
    obtain ⟨b1, b2, b3, b4, b5, b6, b7⟩ := a4 j j0 j1
    refine ⟨b1, b2, b3, ?_, b6, b7⟩
    rcases b5 with z | ⟨z1, z2⟩
    · exact z
    · rw [Bool.and_eq_true] at z2
      have := hbz i z2.1
      have z3 := z2.2
      rw [Bool.not_eq_true', decide_eq_false_iff_not] at z3
      omega
  · rw [sf2 99 i (by omega) (by omega) (by omega) (by omega) (by omega) (by omega)]; exact h5 i i0 i1
  · rw [sf1 10 (by omega)] at o1
    rw [sf2 92 o (by omega) (by omega) (by omega) (by omega) (by omega) (by omega), sf2 93 o (by omega) (by omega) (by omega) (by omega) (by omega) (by omega), sf1 10 (by omega)]; exact h6 o o0 o1
  · rw [sf1 10 (by omega)] at i0
    have : zSendF S 97 i = S 97 i := by
      show zE _ _ _ 97 i = _
      rw [k2 i (by omega), zW_o _ _ _ _ _ (by omega)]
    rw [this]; exact h7 i i0 i1
/-- what doesn't count -/
theorem OKS_same {S T : RS} (h : OKS S) (h1 : ∀ k, k ≠ 24 → k ≠ 27 → T 88 k = S 88 k) (h2 : ∀ c k, c ≠ 88 → c ≠ 104 → c ≠ 109 → c ≠ 110 → T c k = S c k) (h3 : 0 ≤ T 88 24 ∧ 0 ≤ T 88 27) : OKS T := by
  obtain ⟨a1, a2, a3, a4, a5, a6, a7⟩ := h
  refine ⟨by rw [h1 10 (by omega) (by omega), h1 11 (by omega) (by omega), h1 12 (by omega) (by omega)]; exact a1, ?_, fun q q0 q1 => ?_, fun k k0 k1 => ?_, fun k k0 k1 => ?_, fun k k0 k1 => ?_, fun k k0 k1 => ?_⟩
  · rw [h1 23 (by omega) (by omega), h1 25 (by omega) (by omega), h1 26 (by omega) (by omega), h1 28 (by omega) (by omega)]; exact ⟨a2.1, h3.1, a2.2.2.1, a2.2.2.2.1, a2.2.2.2.2.1, h3.2, a2.2.2.2.2.2.2⟩
  · rw [h2 95 _ (by omega) (by omega) (by omega) (by omega), h1 12 (by omega) (by omega), h1 25 (by omega) (by omega)]
    refine ⟨(a3 q q0 q1).1, (a3 q q0 q1).2.1, fun j j0 j1 => ?_⟩
    rw [h2 94 _ (by omega) (by omega) (by omega) (by omega)]; exact (a3 q q0 q1).2.2 j j0 j1
  · rw [h2 97 _ (by omega) (by omega) (by omega) (by omega), h1 12 (by omega) (by omega), h1 25 (by omega) (by omega), h1 10 (by omega) (by omega)]
    refine ⟨(a4 k k0 k1).1, (a4 k k0 k1).2.1, fun j j0 j1 => ?_⟩
    rw [h2 96 _ (by omega) (by omega) (by omega) (by omega), h2 96 _ (by omega) (by omega) (by omega) (by omega), h2 100 _ (by omega) (by omega) (by omega) (by omega), h2 106 _ (by omega) (by omega) (by omega) (by omega), h2 101 _ (by omega) (by omega) (by omega) (by omega)]
    exact (a4 k k0 k1).2.2 j j0 j1
  · rw [h2 99 _ (by omega) (by omega) (by omega) (by omega)]; exact a5 k k0 k1
  · rw [h1 10 (by omega) (by omega)] at k1
    rw [h2 92 _ (by omega) (by omega) (by omega) (by omega), h2 93 _ (by omega) (by omega) (by omega) (by omega), h1 10 (by omega) (by omega)]; exact a6 k k0 k1
  · rw [h1 10 (by omega) (by omega)] at k0
    rw [h2 97 _ (by omega) (by omega) (by omega) (by omega)]; exact a7 k k0 k1
theorem OKS_sd {S : RS} (h : OKS S) {q : Int} (hq : 0 ≤ q ∧ q < 36) (h1 : 1 ≤ S 95 q) : OKS (zSd q S) := by
  obtain ⟨a1, a2, a3, a4, a5, a6, a7⟩ := id h
  have c : ∀ k, k ≠ 27 → zSd q S 88 k = S 88 k := fun k hk => zSd_88 q S k hk
  have e96 : zSd q S 96 = S 96 := funext (fun k => zSd_o q S 96 k (by omega))
  have e97 : zSd q S 97 = S 97 := funext (fun k => zSd_o q S 97 k (by omega))
  have e99 : zSd q S 99 = S 99 := funext (fun k => zSd_o q S 99 k (by omega))
  have e92 : zSd q S 92 = S 92 := funext (fun k => zSd_o q S 92 k (by omega))
  have e93 : zSd q S 93 = S 93 := funext (fun k => zSd_o q S 93 k (by omega))
  have e100 : zSd q S 100 = S 100 := funext (fun k => zSd_o q S 100 k (by omega))
  have e101 : zSd q S 101 = S 101 := funext (fun k => zSd_o q S 101 k (by omega))
  have e106 : zSd q S 106 = S 106 := funext (fun k => zSd_o q S 106 k (by omega))
  unfold OKS
  rw [c 10 (by omega), c 11 (by omega), c 12 (by omega), c 23 (by omega), c 24 (by omega), c 25 (by omega), c 26 (by omega), c 28 (by omega), zSd_27, e96, e97, e99, e92, e93, e100, e101, e106]
  refine ⟨a1, ⟨a2.1, a2.2.1, a2.2.2.1, a2.2.2.2.1, a2.2.2.2.2.1, by omega, a2.2.2.2.2.2.2⟩, fun p p0 p1 => ?_, a4, a5, a6, a7⟩
  rw [zSd_95]
  have hp := a3 p p0 p1
  by_cases e : p = q
  · rw [if_pos e, ← e]
    rw [← e] at h1
    refine ⟨by omega, by omega, fun j j0 j1 => ?_⟩
    rw [zSd_94, if_pos (by omega), show 9 * p + j + 1 = 9 * p + (j + 1) by omega]
    exact hp.2.2 (j + 1) (by omega) (by omega)
  · rw [if_neg e]
    refine ⟨hp.1, hp.2.1, fun j j0 j1 => ?_⟩
    have := (a3 q hq.1 hq.2).2.1
    rw [zSd_94, if_neg (by omega)]
    exact hp.2.2 j j0 j1
theorem OKS_m {S : RS} (hS : OKS S) : OKS (zM S) := by
  have h := OKS_sendF hS
  have ok := okX_rnds (ask := fun i o => decide (0 < S 95 (6 * i + o))) hS.1.1 (okX_S hS (fun i => bz (zTk S) (S 88 10).toNat i) (fun o => decide (zTk S o ≠ -1)) (fun _ => -1)) (S 88 11).toNat
  have ok' : okX (S 88 10) (zX S) := ok
  obtain ⟨a1, a2, a3, a4, a5, a6, a7⟩ := h
  have e : ∀ c k, c ≠ 92 → c ≠ 93 → zM S c k = zSendF S c k := fun c k h1 h2 => by unfold zM; rw [if_neg h1, if_neg h2]
  have e' : ∀ c, c ≠ 92 → c ≠ 93 → zM S c = zSendF S c := fun c h1 h2 => funext (fun k => e c k h1 h2)
  unfold OKS
  rw [e' 88 (by omega) (by omega), e' 95 (by omega) (by omega), e' 94 (by omega) (by omega), e' 96 (by omega) (by omega), e' 97 (by omega) (by omega), e' 99 (by omega) (by omega), e' 100 (by omega) (by omega), e' 101 (by omega) (by omega), e' 106 (by omega) (by omega)]
  refine ⟨a1, a2, a3, a4, a5, fun o o0 o1 => ?_, a7⟩
  rw [(zSendF_o S hS).1 10 (by omega)] at o1 ⊢
  have z92 : zM S 92 o = (zX S).2.2.1 o := by unfold zM; rw [if_pos rfl]
  have z93 : zM S 93 o = (zX S).2.2.2.1 o := by unfold zM; rw [if_neg (by omega), if_pos rfl]
  rw [z92, z93]; exact ok' o o0 o1
theorem OKS_g (mt tk : Int → Int) (P sl : Int) (S : RS) (hP : P ≤ 6) (hmt : ∀ o, mt o = -1 ∨ (0 ≤ o ∧ o < P ∧ 0 ≤ mt o ∧ mt o < P ∧ 0 < S 95 (6 * mt o + o))) (h : OKS S) : ∀ n : Nat, n ≤ 6 → OKS (zG mt tk P sl n S)
  | 0, _ => h
  | n + 1, hn => by
    have ih := OKS_g mt tk P sl S hP hmt h n (by omega)
    obtain ⟨a1, a2, a3, a4⟩ := zG_keep mt tk P sl S hP (fun o => by rcases hmt o with e | e; exact Or.inl e; exact Or.inr ⟨e.1, e.2.1, e.2.2.1, e.2.2.2.1⟩) (fun q q0 q1 => by have := (h.2.2.1 q q0 q1).2.1; have := h.1; omega) n (by omega)
    have u : OKS (uS (uS (zG mt tk P sl n S) 109 (6 * sl + n) (if P ≤ n then -1 else mt n)) 110 (6 * sl + n) (if P ≤ n then -1 else tk n)) :=
      OKS_same ih (fun k _ _ => by rw [uS_ne (by omega), uS_ne (by omega)]) (fun c k _ _ c3 c4 => by rw [uS_ne c4, uS_ne c3]) (by rw [uS_ne (by omega), uS_ne (by omega), uS_ne (by omega), uS_ne (by omega)]; exact ⟨ih.2.1.2.1, ih.2.1.2.2.2.2.2.1⟩)
    unfold zG
    split
    · rename_i hc
      rcases hmt n with e | ⟨e1, e2, e3, e4, e5⟩
      · exact absurd e hc.2
      · refine OKS_sd u (by omega) ?_
        rw [uS_ne (by omega), uS_ne (by omega), (a3 (mt n) n e3 (by omega) (by omega) (by omega)).1]
        omega
    · exact u
theorem zClr_o : ∀ (n : Nat) (S : RS) (c : Nat) (k : Int), c ≠ 99 → zClr n S c k = S c k
  | 0, _, _, _, _ => rfl
  | n + 1, S, c, k, h => by unfold zClr; rw [uS_ne h]; exact zClr_o n S c k h
theorem zClr_99 : ∀ (n : Nat) (S : RS) (k : Int), zClr n S 99 k = if 0 ≤ k ∧ k < n then 0 else S 99 k
  | 0, S, k => by rw [if_neg (by omega)]; rfl
  | n + 1, S, k => by
    unfold zClr
    rw [uS_at, zClr_99 n S k]
    by_cases e : k = n
    · rw [if_pos ⟨rfl, e⟩, if_pos (by omega)]
    · rw [if_neg (fun z => e z.2)]
      by_cases q : 0 ≤ k ∧ k < n
      · rw [if_pos q, if_pos (by omega)]
      · rw [if_neg q, if_neg (by omega)]
theorem OKS_slot {S : RS} (hS : OKS S) : OKS (zSlot S) := by
  have hP := hS.1
  have e95 : zM S 95 = S 95 := funext (fun k => by unfold zM; rw [if_neg (by omega), if_neg (by omega), (zSendF_o S hS).2 95 k (by omega) (by omega) (by omega) (by omega) (by omega) (by omega)])
  have hg := OKS_g (zX S).2.2.2.2 (zTk S) (S 88 10) (S 88 24) (zM S) (by omega) (fun o => by rw [e95]; exact zX_m hS o) (OKS_m hS) 6 (by omega)
  obtain ⟨a1, a2, a3, a4, a5, a6, a7⟩ := hg
  have hc : OKS (zClr 6 (zG (zX S).2.2.2.2 (zTk S) (S 88 10) (S 88 24) 6 (zM S))) := by
    have e : ∀ c, c ≠ 99 → zClr 6 (zG (zX S).2.2.2.2 (zTk S) (S 88 10) (S 88 24) 6 (zM S)) c = zG (zX S).2.2.2.2 (zTk S) (S 88 10) (S 88 24) 6 (zM S) c := fun c h => funext (fun k => zClr_o _ _ _ _ h)
    unfold OKS
    rw [e 88 (by omega), e 95 (by omega), e 94 (by omega), e 96 (by omega), e 97 (by omega), e 100 (by omega), e 101 (by omega), e 106 (by omega), e 92 (by omega), e 93 (by omega)]
    refine ⟨a1, a2, a3, a4, fun i i0 i1 => ?_, a6, a7⟩
    rw [zClr_99, if_pos (by omega)]; exact Or.inl rfl
  unfold zSlot
  refine OKS_same hc (fun k h _ => uS_nei h) (fun c k h1 _ _ _ => uS_ne h1) ⟨by rw [uS_eq]; have := hS.2.1; omega, by rw [uS_nei (by omega)]; exact hc.2.1.2.2.2.2.2.1⟩
