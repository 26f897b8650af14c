theorem zSd_104 (q : Int) (T : RS) (k : Int) : zSd q T 104 k = T 104 k ∨ zSd q T 104 k = T 88 24 := by
  unfold zSd
  rw [zMv_o _ _ _ _ _ _ (by omega), uS_ne (by omega), uS_ne (by omega), uS_at]
  by_cases z : (104 : Nat) = 104 ∧ k = T 94 (9 * q)
  · rw [if_pos z]; exact Or.inr rfl
  · rw [if_neg z]; exact Or.inl rfl
theorem zE1_104 (i : Int) (S : RS) (k : Int) : zE1 i S 104 k = S 104 k ∨ zE1 i S 104 k = S 88 24 := by
  unfold zE1
  split
  · rw [zMv_o _ _ _ _ _ _ (by omega), uS_ne (by omega), uS_ne (by omega), uS_at]
    by_cases z : (104 : Nat) = 104 ∧ k = S 96 (9 * i)
    · rw [if_pos z]; exact Or.inr rfl
    · rw [if_neg z, uS_ne (by omega)]; exact Or.inl rfl
  · rw [uS_ne (by omega)]; exact Or.inl rfl
theorem zE_104 (busy : Int → Bool) (k : Int) : ∀ (n : Nat) (S : RS), n ≤ 6 → (∀ i, 0 ≤ i → i < 6 → S 97 i ≤ 9) → zE busy n S 104 k = S 104 k ∨ zE busy n S 104 k = S 88 24
  | 0, _, _, _ => Or.inl rfl
  | n + 1, S, hn, h => by
    have ih := zE_104 busy k n S (by omega) h
    have e24 := (zE_keep busy n S (by omega) h).1 24 (by omega)
    unfold zE
    split
    · rcases zE1_104 n (zE busy n S) k with e | e
      · rw [e]; exact ih
      · rw [e, e24]; exact Or.inr rfl
    · exact ih
theorem zG_104 (mt tk : Int → Int) (P sl : Int) (S : RS) (hP : P ≤ 6) (hmt : ∀ o, mt o = -1 ∨ (0 ≤ o ∧ o < P ∧ 0 ≤ mt o ∧ mt o < P)) (h9 : ∀ q, 0 ≤ q → q < 36 → S 95 q ≤ 9) (k : Int) : ∀ n : Nat, n ≤ 6 → zG mt tk P sl n S 104 k = S 104 k ∨ zG mt tk P sl n S 104 k = S 88 24
  | 0, _ => Or.inl rfl
  | n + 1, hn => by
    have ih := zG_104 mt tk P sl S hP hmt h9 k n (by omega)
    have e24 := (zG_keep mt tk P sl S hP hmt h9 n (by omega)).1 24 (by omega)
    unfold zG
    split
    · have z := zSd_104 (6 * mt n + n) (uS (uS (zG mt tk P sl n S) 109 (6 * sl + n) (if P ≤ n then -1 else mt n)) 110 (6 * sl + n) (if P ≤ n then -1 else tk n)) k
      rw [uS_ne (c' := 104) (by omega), uS_ne (c' := 104) (by omega), uS_ne (c' := 88) (by omega), uS_ne (c' := 88) (by omega), e24] at z
      rcases z with e | e
      · rw [e]; exact ih
      · rw [e]; exact Or.inr rfl
    · rw [uS_ne (by omega), uS_ne (by omega)]; exact ih
theorem zSendF_f {S : RS} (hS : OKS S) : (S 88 28 ≤ zSendF S 88 28 ∧ zSendF S 88 28 ≤ S 88 28 + 6) ∧ (∀ k, S 107 k ≤ zSendF S 107 k ∧ zSendF S 107 k ≤ S 107 k + 6) ∧ ∀ k, zSendF S 104 k = S 104 k ∨ zSendF S 104 k = S 88 24 := by
  have hP := hS.1
  have h97 : ∀ i, 0 ≤ i → i < 6 → zW (zTk S) (S 88 10).toNat S 97 i ≤ 9 := fun i i0 i1 => by
    rw [zW_o _ _ _ _ _ (by omega)]
    have := (hS.2.2.2.1 i i0 i1).2.1
    omega
  obtain ⟨a1, a2, a3, a4, a5, a6, a7⟩ := zE_keep (bz (zTk S) (S 88 10).toNat) (S 88 10).toNat (zW (zTk S) (S 88 10).toNat S) (by omega) h97
  unfold zSendF
  refine ⟨?_, fun k => ?_, fun k => ?_⟩
  · have e : zW (zTk S) (S 88 10).toNat S 88 28 = S 88 28 := zW_o _ _ _ _ _ (by omega)
    rw [e] at a7; omega
  · have e : zW (zTk S) (S 88 10).toNat S 107 k = S 107 k := zW_o _ _ _ _ _ (by omega)
    have a := a6 k
    rw [e] at a; omega
  · have e : zW (zTk S) (S 88 10).toNat S 104 k = S 104 k := zW_o _ _ _ _ _ (by omega)
    have e2 : zW (zTk S) (S 88 10).toNat S 88 24 = S 88 24 := zW_o _ _ _ _ _ (by omega)
    have z := zE_104 (bz (zTk S) (S 88 10).toNat) k (S 88 10).toNat (zW (zTk S) (S 88 10).toNat S) (by omega) h97
    rw [e, e2] at z
    exact z
theorem zSlot_f {S : RS} (hS : OKS S) :
    (∀ k, k ≠ 24 → k ≠ 27 → k ≠ 28 → zSlot S 88 k = S 88 k) ∧ zSlot S 88 24 = S 88 24 + 1 ∧ (S 88 27 ≤ zSlot S 88 27 ∧ zSlot S 88 27 ≤ S 88 27 + 6) ∧ (S 88 28 ≤ zSlot S 88 28 ∧ zSlot S 88 28 ≤ S 88 28 + 6) ∧
    (∀ c k, (c = 98 ∨ c = 100 ∨ c = 101 ∨ c = 102 ∨ c = 103 ∨ c = 105 ∨ c = 108 ∨ 110 < c) → zSlot S c k = S c k) ∧ (∀ k, S 107 k ≤ zSlot S 107 k ∧ zSlot S 107 k ≤ S 107 k + 6) ∧ (∀ k, zSlot S 104 k = S 104 k ∨ zSlot S 104 k = S 88 24) ∧ (∀ k, 0 ≤ k → k < 6 → zSlot S 99 k = 0) := by
  have hP := hS.1
  obtain ⟨f1, f2, f3⟩ := zSendF_f hS
  have m88 := zM_88 S hS
  have m28 : zM S 88 28 = zSendF S 88 28 := by unfold zM; rw [if_neg (by omega), if_neg (by omega)]
  have m107 : ∀ k, zM S 107 k = zSendF S 107 k := fun k => by unfold zM; rw [if_neg (by omega), if_neg (by omega)]
  have m104 : ∀ k, zM S 104 k = zSendF S 104 k := fun k => by unfold zM; rw [if_neg (by omega), if_neg (by omega)]
  have e95 : ∀ k, zM S 95 k = S 95 k := fun k => zM_o S hS 95 k (by omega)
  have hmt : ∀ o, (zX S).2.2.2.2 o = -1 ∨ (0 ≤ o ∧ o < S 88 10 ∧ 0 ≤ (zX S).2.2.2.2 o ∧ (zX S).2.2.2.2 o < S 88 10) := fun o => by
    rcases zX_m hS o with e | ⟨e1, e2, e3, e4, _⟩
    · exact Or.inl e
    · exact Or.inr ⟨e1, e2, e3, e4⟩
  have h9 : ∀ q, 0 ≤ q → q < 36 → zM S 95 q ≤ 9 := fun q q0 q1 => by rw [e95]; have := (hS.2.2.1 q q0 q1).2.1; omega
  obtain ⟨a1, a2, a3, a4⟩ := zG_keep (zX S).2.2.2.2 (zTk S) (S 88 10) (S 88 24) (zM S) (by omega) hmt h9 6 (by omega)
  have g104 := fun k => zG_104 (zX S).2.2.2.2 (zTk S) (S 88 10) (S 88 24) (zM S) (by omega) hmt h9 k 6 (by omega)
  have sl : ∀ c k, ¬ (c = 88 ∧ k = 24) → c ≠ 99 → zSlot S c k = zG (zX S).2.2.2.2 (zTk S) (S 88 10) (S 88 24) 6 (zM S) c k := fun c k h1 h2 => by
    unfold zSlot
    rw [uS_at, if_neg h1, zClr_o _ _ _ _ h2]
  refine ⟨fun k k1 k2 k3 => ?_, ?_, ?_, ?_, fun c k hc => ?_, fun k => ?_, fun k => ?_, fun k k0 k1 => ?_⟩
  · rw [sl _ _ (by omega) (by omega), a1 k k2, m88 k k3]
  · unfold zSlot; rw [uS_eq]
  · rw [sl _ _ (by omega) (by omega)]
    rw [m88 27 (by omega)] at a2
    omega
  · rw [sl _ _ (by omega) (by omega), a1 28 (by omega), m28]; exact f1
  · rw [sl _ _ (by omega) (by omega), a4 c k (by omega) (by omega) (by omega) (by omega) (by omega) (by omega), zM_o S hS c k (by omega)]
  · rw [sl _ _ (by omega) (by omega), a4 107 k (by omega) (by omega) (by omega) (by omega) (by omega) (by omega), m107]; exact f2 k
  · rw [sl _ _ (by omega) (by omega)]
    rcases g104 k with e | e
    · rw [e, m104]; exact f3 k
    · rw [e, m88 24 (by omega)]; exact Or.inr rfl
  · unfold zSlot
    rw [uS_ne (by omega), zClr_99, if_pos (by omega)]
/-- what came, in bounds -/
def OKW (S : RS) : Prop := ∀ j, 0 ≤ j → j < S 88 25 → (0 ≤ S 103 j ∧ S 103 j ≤ S 88 24) ∧ (-1 ≤ S 104 j ∧ S 104 j < S 88 24) ∧ (0 ≤ S 107 j ∧ S 107 j ≤ 6 * S 88 24) ∧ (0 ≤ S 100 j ∧ S 100 j < S 88 10) ∧ (S 102 j = 0 ∨ S 102 j = 1) ∧ (S 105 j = 0 ∨ S 105 j = 1) ∧ (S 108 j = 0 ∨ S 108 j = 1)
/-- what went by, in bounds -/
def OKH (S : RS) : Prop := ∀ s, 0 ≤ s → s < S 88 24 → ∀ o, 0 ≤ o → o < 6 → (S 109 (6 * s + o) = -1 ∨ (o < S 88 10 ∧ 0 ≤ S 109 (6 * s + o) ∧ S 109 (6 * s + o) < S 88 10)) ∧ (S 110 (6 * s + o) = -1 ∨ (o < S 88 10 ∧ 0 ≤ S 110 (6 * s + o) ∧ S 110 (6 * s + o) < S 88 10)) ∧ (S 109 (6 * s + o) = -1 ∨ S 110 (6 * s + o) = -1)
def OKA (S : RS) : Prop := OKS S ∧ OKW S ∧ OKH S ∧ S 88 27 ≤ 6 * S 88 24 ∧ S 88 28 ≤ 6 * S 88 24
theorem OKA_slot {S : RS} (h : OKA S) : OKA (zSlot S) := by
  obtain ⟨hS, hW, hH, b27, b28⟩ := h
  obtain ⟨f88, f24, f27, f28, fc, f107, f104, f99⟩ := zSlot_f hS
  have h0 := hS.2.1
  refine ⟨OKS_slot hS, fun j j0 j1 => ?_, fun s s0 s1 o o0 o1 => ?_, by rw [f24]; omega, by rw [f24]; omega⟩
  · rw [f88 25 (by omega) (by omega) (by omega)] at j1
    obtain ⟨w1, w2, w3, w4, w5, w6, w7⟩ := hW j j0 j1
    rw [fc 103 j (by omega), f24, fc 100 j (by omega), fc 102 j (by omega), fc 105 j (by omega), fc 108 j (by omega), f88 10 (by omega) (by omega) (by omega)]
    have a := f104 j
    have b := f107 j
    exact ⟨by omega, by omega, by omega, w4, w5, w6, w7⟩
  · rw [f24] at s1
    obtain ⟨a, b⟩ := zSlot_h hS (6 * s + o)
    rw [a, b, f88 10 (by omega) (by omega) (by omega)]
    by_cases e : s = S 88 24
    · subst e
      rw [if_pos (by omega), if_pos (by omega), show 6 * S 88 24 + o - 6 * S 88 24 = o by omega]
      have m := zX_m hS o
      have t := zTk_r S hS.1.1 o
      refine ⟨?_, ?_, (zX_busy hS).2.2 o⟩
      · rcases m with m | m
        · exact Or.inl m
        · exact Or.inr ⟨m.2.1, m.2.2.1, m.2.2.2.1⟩
      · rcases t with t | t
        · exact Or.inl t
        · exact Or.inr ⟨t.2.2.1, t.1, t.2.1⟩
    · rw [if_neg (by omega), if_neg (by omega)]; exact hH s s0 (by omega) o o0 o1
theorem OKW_cell {S : RS} (hS : OKS S) (hW : OKW S) {i o alone : Int} (hi : 0 ≤ i ∧ i < S 88 10) (ha : alone = 0 ∨ alone = 1) : OKW (zCell i o alone S) := by
  intro j j0 j1
  have h0 := hS.2.1
  rw [zCell_25] at j1
  rw [zCell_88 i o alone S 24 (by omega) (by omega), zCell_88 i o alone S 10 (by omega) (by omega)]
  by_cases e : j = S 88 25
  · obtain ⟨n0, n1, n2, n3, n4, n5, n6, n7, n8⟩ := zCell_new i o alone S
    rw [e, n0, n2, n3, n4, n5, n7, n8]
    refine ⟨by omega, by omega, by omega, hi, Or.inl rfl, ?_, ha⟩
    split
    · exact Or.inl rfl
    · exact Or.inr rfl
  · rw [zCell_k i o alone S 100 j (by omega) e, zCell_k i o alone S 102 j (by omega) e, zCell_k i o alone S 103 j (by omega) e, zCell_k i o alone S 104 j (by omega) e, zCell_k i o alone S 105 j (by omega) e, zCell_k i o alone S 107 j (by omega) e, zCell_k i o alone S 108 j (by omega) e]
    exact hW j j0 (by omega)
theorem OKW_fan {S : RS} (hS : OKS S) (hW : OKW S) {i outs : Int} (hi : 0 ≤ i ∧ i < S 88 10) : OKW (zFan i outs S) := by
  intro j j0 j1
  have h0 := hS.2.1
  rw [zFan_25] at j1
  rw [zFan_88 i S outs 24 (by omega) (by omega), zFan_88 i S outs 10 (by omega) (by omega)]
  by_cases e : j = S 88 25
  · obtain ⟨n0, n1, n2, n3, n4, n5, n6, n7, n8⟩ := zFan_new i S outs
    rw [e, n0, n2, n3, n4, n5, n7, n8]
    refine ⟨by omega, by omega, by omega, hi, Or.inr rfl, ?_, Or.inl rfl⟩
    split
    · exact Or.inl rfl
    · exact Or.inr rfl
  · rw [zFan_k i S outs 100 j (by omega) e, zFan_k i S outs 102 j (by omega) e, zFan_k i S outs 103 j (by omega) e, zFan_k i S outs 104 j (by omega) e, zFan_k i S outs 105 j (by omega) e, zFan_k i S outs 107 j (by omega) e, zFan_k i S outs 108 j (by omega) e]
    exact hW j j0 (by omega)
theorem zBo_ind (K : RS → Prop) (i outs : Int) (hK : ∀ S o, K S → 0 ≤ o → o < S 88 10 → K (zCell i o 0 S)) : ∀ (n : Nat) (o op : Int) (S : RS), K S → 0 ≤ o → o + n ≤ S 88 10 → K (zBo i outs n o op S).2
  | 0, _, _, _, h, _, _ => h
  | n + 1, o, op, S, h, h0, h1 => by
    have c10 := zCell_88 i o 0 S 10 (by omega) (by omega)
    unfold zBo
    split
    · split
      · exact zBo_ind K i outs hK n (o + 1) _ _ (hK S o h h0 (by omega)) (by omega) (by rw [c10]; omega)
      · exact hK S o h h0 (by omega)
    · exact zBo_ind K i outs hK n (o + 1) op S h (by omega) (by omega)
/-- a burst, by its cells -/
theorem zBurst_ind (K L : RS → Prop) {S : RS} {i outs : Int} (hP : 1 ≤ S 88 10) (h : K S) (hK : ∀ T o, K T → 0 ≤ o → o < T 88 10 → K (zCell i o 0 T)) (hs : ∀ T U, K T → (∀ k, k ≠ 23 → U 88 k = T 88 k) → (∀ c k, c ≠ 88 → c ≠ 98 → U c k = T c k) → L U) : L (zBurst i outs S) := by
  have h1 := zBo_ind K i outs hK (S 88 10).toNat 0 0 S h (by omega) (by omega)
  unfold zBurst
  exact hs _ _ h1 (fun k hk => zSh_88 _ _ _ k hk) (fun c k h1 h2 => zSh_o _ _ _ c k h1 h2)
theorem zBring_frame {kind a b : Int} {S : RS} (hP : 1 ≤ S 88 10) (c : Nat) (k : Int) (hc : c = 92 ∨ c = 93 ∨ 108 < c) : zBring kind a b S c k = S c k := by
  unfold zBring
  split
  · exact zCell_o _ _ _ _ c k (by omega)
  · split
    · exact zFan_o _ _ _ c k (by omega)
    · refine zBurst_ind (fun T => T c k = S c k) (fun T => T c k = S c k) hP rfl (fun T o hT _ _ => ?_) (fun T U hT _ h2 => ?_)
      · rw [zCell_o _ _ _ _ c k (by omega)]; exact hT
      · rw [h2 c k (by omega) (by omega)]; exact hT
theorem OKA_bring {kind a b : Int} {S : RS} (h : OKA S) (hc : zCan kind a b S) (hb : 0 ≤ b) (hb1 : kind ≠ 2 → 1 ≤ b) : OKA (zBring kind a b S) := by
  obtain ⟨hS, hW, hH, b27, b28⟩ := h
  obtain ⟨o1, o2, o3, o4, o5⟩ := zBring_ok hS hc hb hb1
  have e24 := o2 24 (by omega) (by omega) (by omega)
  have e10 := o2 10 (by omega) (by omega) (by omega)
  refine ⟨o1, ?_, fun s s0 s1 o p0 p1 => ?_, by rw [e24, o2 27 (by omega) (by omega) (by omega)]; exact b27, by rw [e24, o2 28 (by omega) (by omega) (by omega)]; exact b28⟩
  · unfold zBring
    split
    · exact OKW_cell hS hW ⟨hc.1, hc.2.1⟩ (Or.inr rfl)
    · split
      · exact OKW_fan hS hW ⟨hc.1, hc.2.1⟩
      · refine zBurst_ind (fun T => T 88 10 = S 88 10 ∧ OKS T ∧ OKW T) OKW (i := a) (outs := b) hS.1.1 ⟨rfl, hS, hW⟩ (fun T o hT h0 h1 => ?_) (fun T U hT h1 h2 j j0 j1 => ?_)
        · obtain ⟨t1, t2, t3⟩ := hT
          exact ⟨by rw [zCell_88 _ _ _ _ _ (by omega) (by omega)]; exact t1, OKS_cell t2 ⟨hc.1, by rw [t1]; exact hc.2.1⟩ ⟨h0, h1⟩, OKW_cell t2 t3 ⟨hc.1, by rw [t1]; exact hc.2.1⟩ (Or.inl rfl)⟩
        · obtain ⟨t1, t2, t3⟩ := hT
          rw [h1 25 (by omega)] at j1
          rw [h1 24 (by omega), h1 10 (by omega), h2 100 _ (by omega) (by omega), h2 102 _ (by omega) (by omega), h2 103 _ (by omega) (by omega), h2 104 _ (by omega) (by omega), h2 105 _ (by omega) (by omega), h2 107 _ (by omega) (by omega), h2 108 _ (by omega) (by omega)]
          exact t3 j j0 j1
  · rw [e24] at s1
    rw [zBring_frame hS.1.1 109 _ (by omega), zBring_frame hS.1.1 110 _ (by omega), e10]
    exact hH s s0 s1 o p0 p1
/-- a run's beginning -/
def zBeg (P r d p : Int) (S : RS) : RS := fun c i =>
  if c = 88 then (if i = 10 then P else if i = 11 then r else if i = 12 then d else if i = 13 then p else if 23 ≤ i ∧ i ≤ 29 then 0 else S c i)
  else if (c = 92 ∨ c = 93) ∧ 0 ≤ i ∧ i < 6 then p % P
  else if (c = 97 ∨ c = 98 ∨ c = 99) ∧ 0 ≤ i ∧ i < 6 then 0
  else if c = 95 ∧ 0 ≤ i ∧ i < 36 then 0 else S c i
section ZB
variable (P r d p : Int) (S : RS)
theorem zBeg_10 : zBeg P r d p S 88 10 = P ∧ zBeg P r d p S 88 11 = r ∧ zBeg P r d p S 88 12 = d ∧ zBeg P r d p S 88 13 = p := ⟨rfl, rfl, rfl, rfl⟩
theorem zBeg_0 (k : Int) (hk : 23 ≤ k ∧ k ≤ 29) : zBeg P r d p S 88 k = 0 := by
  unfold zBeg
  rw [if_pos rfl, if_neg (by omega), if_neg (by omega), if_neg (by omega), if_neg (by omega), if_pos hk]
theorem zBeg_88 (k : Int) (hk : k < 10 ∨ (13 < k ∧ k < 23) ∨ 29 < k) : zBeg P r d p S 88 k = S 88 k := by
  unfold zBeg
  rw [if_pos rfl, if_neg (by omega), if_neg (by omega), if_neg (by omega), if_neg (by omega), if_neg (by omega)]
theorem zBeg_92 (c : Nat) (hc : c = 92 ∨ c = 93) (k : Int) (hk : 0 ≤ k ∧ k < 6) : zBeg P r d p S c k = p % P := by
  unfold zBeg
  rw [if_neg (by omega), if_pos (by omega)]
theorem zBeg_97 (c : Nat) (hc : c = 97 ∨ c = 98 ∨ c = 99) (k : Int) (hk : 0 ≤ k ∧ k < 6) : zBeg P r d p S c k = 0 := by
  unfold zBeg
  rw [if_neg (by omega), if_neg (by omega), if_pos (by omega)]
theorem zBeg_95 (k : Int) (hk : 0 ≤ k ∧ k < 36) : zBeg P r d p S 95 k = 0 := by
  unfold zBeg
  rw [if_neg (by omega), if_neg (by omega), if_neg (by omega), if_pos ⟨rfl, hk⟩]
theorem zBeg_o (c : Nat) (k : Int) (hc : c ≠ 88 ∧ c ≠ 92 ∧ c ≠ 93 ∧ c ≠ 95 ∧ c ≠ 97 ∧ c ≠ 98 ∧ c ≠ 99) : zBeg P r d p S c k = S c k := by
  unfold zBeg
  rw [if_neg (by omega), if_neg (by omega), if_neg (by omega), if_neg (by omega)]
end ZB
theorem OKA_beg {P r d p : Int} (hP : 1 ≤ P ∧ P ≤ 6) (hr : 1 ≤ r ∧ r ≤ 4) (hd : 1 ≤ d ∧ d ≤ 9) (hp : 0 ≤ p ∧ p ≤ 5) (S : RS) : OKA (zBeg P r d p S) := by
  have z := zBeg_0 P r d p S
  obtain ⟨z10, z11, z12, z13⟩ := zBeg_10 P r d p S
  refine ⟨⟨by rw [z10, z11, z12]; omega, by rw [z 23 (by omega), z 24 (by omega), z 25 (by omega), z 26 (by omega), z 27 (by omega), z 28 (by omega)]; omega, fun q q0 q1 => ?_, fun i i0 i1 => ?_, fun i i0 i1 => ?_, fun o o0 o1 => ?_, fun i i0 i1 => ?_⟩, fun j j0 j1 => ?_, fun s s0 s1 => ?_, by rw [z 27 (by omega), z 24 (by omega)]; omega, by rw [z 28 (by omega), z 24 (by omega)]; omega⟩
  · rw [zBeg_95 P r d p S q ⟨q0, q1⟩, z12]
    exact ⟨by omega, by omega, fun j j0 j1 => by omega⟩
  · rw [zBeg_97 P r d p S 97 (by omega) i ⟨i0, i1⟩, z12]
    exact ⟨by omega, by omega, fun j j0 j1 => by omega⟩
  · rw [zBeg_97 P r d p S 99 (by omega) i ⟨i0, i1⟩]; exact Or.inl rfl
  · rw [z10] at o1
    rw [zBeg_92 P r d p S 92 (by omega) o (by omega), zBeg_92 P r d p S 93 (by omega) o (by omega), z10]
    have h7 := Int.emod_nonneg p (show P ≠ 0 by omega)
    have h8 := Int.emod_lt_of_pos p (show 0 < P by omega)
    omega
  · rw [z10] at i0
    rw [zBeg_97 P r d p S 97 (by omega) i (by omega)]
  · rw [z 25 (by omega)] at j1; omega
  · rw [z 24 (by omega)] at s1; omega
def zSlots : Nat → RS → RS
  | 0, S => S
  | n + 1, S => zSlot (zSlots n S)
theorem zSlots_ok : ∀ (n : Nat) (S : RS), OKA S → OKA (zSlots n S) ∧ (∀ k, k ≠ 24 → k ≠ 27 → k ≠ 28 → zSlots n S 88 k = S 88 k) ∧ zSlots n S 88 24 = S 88 24 + n ∧ (∀ c k, 110 < c → zSlots n S c k = S c k)
  | 0, S, h => ⟨h, fun _ _ _ _ => rfl, by show S 88 24 = S 88 24 + 0; omega, fun _ _ _ => rfl⟩
  | n + 1, S, h => by
    obtain ⟨a1, a2, a3, a4⟩ := zSlots_ok n S h
    obtain ⟨f88, f24, f27, f28, fc, f107, f104, f99⟩ := zSlot_f a1.1
    refine ⟨OKA_slot a1, fun k k1 k2 k3 => ?_, ?_, fun c k hc => ?_⟩
    · show zSlot (zSlots n S) 88 k = _
      rw [f88 k k1 k2 k3]; exact a2 k k1 k2 k3
    · show zSlot (zSlots n S) 88 24 = _
      rw [f24, a3]; omega
    · show zSlot (zSlots n S) c k = _
      rw [fc c k (by omega)]; exact a4 c k hc
/-- a deed -/
def zDo (kind a b : Int) (S : RS) : RS := if kind = 0 then zSlot S else if kind = 1 then zSlots a.toNat S else zBring kind a b S
def zCanD (kind a b : Int) (S : RS) : Prop := kind < 2 ∨ zCan kind a b S
noncomputable def zStep (D : Int → Int) (p0 N : Int) (S : RS) : RS :=
  @ite _ (S 88 29 < N ∧ S 88 29 < D p0 ∧ zCanD (D (p0 + 1 + 3 * S 88 29)) (D (p0 + 1 + 3 * S 88 29 + 1)) (D (p0 + 1 + 3 * S 88 29 + 2)) S) (Classical.propDecidable _)
    (uS (zDo (D (p0 + 1 + 3 * S 88 29)) (D (p0 + 1 + 3 * S 88 29 + 1)) (D (p0 + 1 + 3 * S 88 29 + 2)) S) 88 29 (S 88 29 + 1)) S
theorem zStep_y {D : Int → Int} {p0 N : Int} {S : RS} (h : S 88 29 < N ∧ S 88 29 < D p0 ∧ zCanD (D (p0 + 1 + 3 * S 88 29)) (D (p0 + 1 + 3 * S 88 29 + 1)) (D (p0 + 1 + 3 * S 88 29 + 2)) S) : zStep D p0 N S = uS (zDo (D (p0 + 1 + 3 * S 88 29)) (D (p0 + 1 + 3 * S 88 29 + 1)) (D (p0 + 1 + 3 * S 88 29 + 2)) S) 88 29 (S 88 29 + 1) := by
  unfold zStep; exact @if_pos _ (Classical.propDecidable _) h _ _ _
theorem zStep_n {D : Int → Int} {p0 N : Int} {S : RS} (h : ¬ (S 88 29 < N ∧ S 88 29 < D p0 ∧ zCanD (D (p0 + 1 + 3 * S 88 29)) (D (p0 + 1 + 3 * S 88 29 + 1)) (D (p0 + 1 + 3 * S 88 29 + 2)) S)) : zStep D p0 N S = S := by
  unfold zStep; exact @if_neg _ (Classical.propDecidable _) h _ _ _
noncomputable def zFol (D : Int → Int) (p0 N : Int) : Nat → RS → RS
  | 0, S => S
  | n + 1, S => zFol D p0 N n (zStep D p0 N S)
theorem zFol_n {D : Int → Int} {p0 N : Int} : ∀ (n : Nat) {S : RS}, zStep D p0 N S = S → zFol D p0 N n S = S
  | 0, _, _ => rfl
  | n + 1, S, h => by
    show zFol D p0 N n (zStep D p0 N S) = S
    rw [h]; exact zFol_n n h
/-- stores alike but for the number of deeds done -/
theorem OKA_29 {S : RS} {v : Int} (h : OKA S) : OKA (uS S 88 29 v) := h
theorem CR_29 {σ : gS} {S : RS} {v : Int} (h : CR σ S) : CR σ (uS S 88 29 v) := h
/-- a run's state, by how many deeds were done -/
def OKD (S : RS) : Prop := OKA S ∧ 0 ≤ S 88 29 ∧ S 88 25 ≤ 6 * S 88 29 ∧ S 88 24 ≤ 9 * S 88 29 ∧ S 88 23 ≤ 6 * S 88 29
theorem zDo_ok {D : Int → Int} {q : Int} {S : RS} (h : OKA S) (hd : tDeed D q) (hc : zCanD (D q) (D (q + 1)) (D (q + 2)) S) :
    OKA (zDo (D q) (D (q + 1)) (D (q + 2)) S) ∧ (∀ k, ¬ (23 ≤ k ∧ k ≤ 28) → zDo (D q) (D (q + 1)) (D (q + 2)) S 88 k = S 88 k) ∧ zDo (D q) (D (q + 1)) (D (q + 2)) S 88 25 ≤ S 88 25 + 6 ∧ zDo (D q) (D (q + 1)) (D (q + 2)) S 88 24 ≤ S 88 24 + 9 ∧ zDo (D q) (D (q + 1)) (D (q + 2)) S 88 23 ≤ S 88 23 + 6 ∧ (∀ c k, 110 < c → zDo (D q) (D (q + 1)) (D (q + 2)) S c k = S c k) := by
  unfold tDeed at hd
  unfold zDo
  by_cases e0 : D q = 0
  · rw [if_pos e0]
    obtain ⟨f88, f24, f27, f28, fc, f107, f104, f99⟩ := zSlot_f h.1
    exact ⟨OKA_slot h, fun k hk => f88 k (by omega) (by omega) (by omega), by rw [f88 25 (by omega) (by omega) (by omega)]; omega, by omega, by rw [f88 23 (by omega) (by omega) (by omega)]; omega, fun c k hk => fc c k (by omega)⟩
  · rw [if_neg e0]
    by_cases e1 : D q = 1
    · rw [if_pos e1]
      obtain ⟨a1, a2, a3, a4⟩ := zSlots_ok (D (q + 1)).toNat S h
      exact ⟨a1, fun k hk => a2 k (by omega) (by omega) (by omega), by rw [a2 25 (by omega) (by omega) (by omega)]; omega, by omega, by rw [a2 23 (by omega) (by omega) (by omega)]; omega, a4⟩
    · rw [if_neg e1]
      have hz : zCan (D q) (D (q + 1)) (D (q + 2)) S := by
        rcases hc with z | z
        · omega
        · exact z
      obtain ⟨o1, o2, o3, o4, o5⟩ := zBring_ok h.1 hz (by omega) (by omega)
      exact ⟨OKA_bring h hz (by omega) (by omega), fun k hk => o2 k (by omega) (by omega) (by omega), o4, by rw [o2 24 (by omega) (by omega) (by omega)]; omega, o5, fun c k hk => zBring_frame h.1.1.1 c k (by omega)⟩
theorem zStep_ok {D : Int → Int} {p0 N : Int} {S : RS} (h : OKD S) (hD : ∀ k, 0 ≤ k → k < D p0 → tDeed D (p0 + 1 + 3 * k)) :
    OKD (zStep D p0 N S) ∧ (∀ k, ¬ (23 ≤ k ∧ k ≤ 29) → zStep D p0 N S 88 k = S 88 k) ∧ (∀ c k, 110 < c → zStep D p0 N S c k = S c k) ∧ (S 88 29 ≤ N → S 88 29 ≤ D p0 → zStep D p0 N S 88 29 ≤ N ∧ zStep D p0 N S 88 29 ≤ D p0) := by
  by_cases hc : S 88 29 < N ∧ S 88 29 < D p0 ∧ zCanD (D (p0 + 1 + 3 * S 88 29)) (D (p0 + 1 + 3 * S 88 29 + 1)) (D (p0 + 1 + 3 * S 88 29 + 2)) S
  · rw [zStep_y hc]
    obtain ⟨hA, h29, h25, h24, h23⟩ := h
    obtain ⟨a1, a2, a3, a4, a5, a6⟩ := zDo_ok hA (hD _ h29 hc.2.1) hc.2.2
    refine ⟨⟨OKA_29 a1, ?_, ?_, ?_, ?_⟩, fun k hk => ?_, fun c k hk => ?_, fun _ _ => ?_⟩
    · rw [uS_eq]; omega
    · rw [uS_eq, uS_nei (by omega)]; omega
    · rw [uS_eq, uS_nei (by omega)]; omega
    · rw [uS_eq, uS_nei (by omega)]; omega
    · rw [uS_nei (by omega)]; exact a2 k (by omega)
    · rw [uS_ne (by omega)]; exact a6 c k hk
    · rw [uS_eq]; omega
  · rw [zStep_n hc]
    exact ⟨h, fun _ _ => rfl, fun _ _ _ => rfl, fun h1 h2 => ⟨h1, h2⟩⟩
theorem zFol_ok {D : Int → Int} {p0 N : Int} (hD : ∀ k, 0 ≤ k → k < D p0 → tDeed D (p0 + 1 + 3 * k)) : ∀ (n : Nat) {S : RS}, OKD S →
    OKD (zFol D p0 N n S) ∧ (∀ k, ¬ (23 ≤ k ∧ k ≤ 29) → zFol D p0 N n S 88 k = S 88 k) ∧ (∀ c k, 110 < c → zFol D p0 N n S c k = S c k) ∧ (S 88 29 ≤ N → S 88 29 ≤ D p0 → zFol D p0 N n S 88 29 ≤ N ∧ zFol D p0 N n S 88 29 ≤ D p0)
  | 0, S, h => ⟨h, fun _ _ => rfl, fun _ _ _ => rfl, fun h1 h2 => ⟨h1, h2⟩⟩
  | n + 1, S, h => by
    obtain ⟨a1, a2, a3, a4⟩ := zStep_ok (N := N) h hD
    obtain ⟨b1, b2, b3, b4⟩ := zFol_ok hD n a1
    exact ⟨b1, fun k hk => (b2 k hk).trans (a2 k hk), fun c k hk => (b3 c k hk).trans (a3 c k hk), fun h1 h2 => b4 (a4 h1 h2).1 (a4 h1 h2).2⟩
