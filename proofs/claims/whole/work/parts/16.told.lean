/-- cells told one by one: how many; inputs, outputs, slots -/
abbrev Tk : Type := Int × (Int → Int) × (Int → Int) × (Int → Int)
def tPush (i o s : Int) (x : Tk) : Tk := (x.1 + 1, fup x.2.1 x.1 i, fup x.2.2.1 x.1 o, fup x.2.2.2 x.1 s)
def tk0 : Tk := (0, fun _ => 0, fun _ => 0, fun _ => 0)
def dSl (D : Int → Int) (q : Int) : Int := if D q = 0 then 1 else if D q = 1 then D (q + 1) else 0
def fTD (D : Int → Int) (p0 k : Int) (x : Int × Tk) : Int × Tk := (x.1 + dSl D (p0 + 1 + 3 * k), if D (p0 + 1 + 3 * k) = 2 then tPush (D (p0 + 1 + 3 * k + 1)) (D (p0 + 1 + 3 * k + 2)) (x.1 + dSl D (p0 + 1 + 3 * k)) x.2 else x.2)
def tkD (D : Int → Int) (p0 : Int) (n : Nat) : Int × Tk := gfold (fTD D p0) (0, tk0) n
def oOf (m : Int) : Int := if m = 1 then 0 else if m = 2 then 1 else if m = 4 then 2 else if m = 8 then 3 else if m = 16 then 4 else 5
theorem oOf_pow (o : Int) (ho : 0 ≤ o ∧ o < 6) : oOf (2 ^ o.toNat) = o := by
  have : o = 0 ∨ o = 1 ∨ o = 2 ∨ o = 3 ∨ o = 4 ∨ o = 5 := by omega
  rcases this with rfl | rfl | rfl | rfl | rfl | rfl <;> decide
def fTS (S : RS) (j : Int) (x : Tk) : Tk := if S 108 j = 0 then x else tPush (S 100 j) (oOf (S 101 j)) (S 103 j) x
def tkS (S : RS) (n : Nat) : Tk := gfold (fTS S) tk0 n
theorem tkS_congr {S T : RS} : ∀ n : Nat, (∀ j, 0 ≤ j → j < (n : Int) → T 100 j = S 100 j ∧ T 101 j = S 101 j ∧ T 103 j = S 103 j ∧ T 108 j = S 108 j) → tkS T n = tkS S n
  | 0, _ => rfl
  | n + 1, h => by
    show fTS T n (tkS T n) = fTS S n (tkS S n)
    obtain ⟨a, b, c, d⟩ := h n (by omega) (by omega)
    rw [tkS_congr n (fun j j0 j1 => h j j0 (by omega))]
    unfold fTS
    rw [a, b, c, d]
/-- the cells that came alone, as deeds told them -/
def JT (D : Int → Int) (p0 : Int) (S : RS) : Prop := tkD D p0 (S 88 29).toNat = (S 88 24, tkS S (S 88 25).toNat)
theorem zSlots_c {S : RS} (h : OKA S) : ∀ (n : Nat) (c : Nat) (k : Int), (c = 100 ∨ c = 101 ∨ c = 103 ∨ c = 108) → zSlots n S c k = S c k
  | 0, _, _, _ => rfl
  | n + 1, c, k, hc => by
    show zSlot (zSlots n S) c k = _
    rw [(zSlot_f (zSlots_ok n S h).1.1).2.2.2.2.1 c k (by omega)]
    exact zSlots_c h n c k hc
theorem tkS_cell0 {S : RS} {i o : Int} (h : 0 ≤ S 88 25) : tkS (zCell i o 0 S) (zCell i o 0 S 88 25).toNat = tkS S (S 88 25).toNat := by
  rw [zCell_25, show (S 88 25 + 1).toNat = (S 88 25).toNat + 1 by omega]
  show fTS (zCell i o 0 S) ((S 88 25).toNat : Nat) (tkS (zCell i o 0 S) (S 88 25).toNat) = _
  rw [show (((S 88 25).toNat : Nat) : Int) = S 88 25 by omega, tkS_congr (S := S) (T := zCell i o 0 S) (S 88 25).toNat (fun j j0 j1 => ⟨zCell_k i o 0 S 100 j (by omega) (by omega), zCell_k i o 0 S 101 j (by omega) (by omega), zCell_k i o 0 S 103 j (by omega) (by omega), zCell_k i o 0 S 108 j (by omega) (by omega)⟩)]
  have n := zCell_new i o 0 S
  unfold fTS
  rw [n.2.2.2.2.2.2.2.2, if_pos rfl]
theorem JT_do {D : Int → Int} {p0 : Int} {S : RS} (hA : OKA S) (h29 : 0 ≤ S 88 29) (hd : tDeed D (p0 + 1 + 3 * S 88 29)) (hc : zCanD (D (p0 + 1 + 3 * S 88 29)) (D (p0 + 1 + 3 * S 88 29 + 1)) (D (p0 + 1 + 3 * S 88 29 + 2)) S) (h : JT D p0 S) : JT D p0 (uS (zDo (D (p0 + 1 + 3 * S 88 29)) (D (p0 + 1 + 3 * S 88 29 + 1)) (D (p0 + 1 + 3 * S 88 29 + 2)) S) 88 29 (S 88 29 + 1)) := by
  unfold JT at h ⊢
  have h25 : 0 ≤ S 88 25 := hA.1.2.1.2.2.1
  have uT : ∀ T : RS, ∀ n, tkS (uS T 88 29 (S 88 29 + 1)) n = tkS T n := fun T n => tkS_congr n (fun j _ _ => ⟨uS_ne (by omega), uS_ne (by omega), uS_ne (by omega), uS_ne (by omega)⟩)
  rw [uS_eq, uS_nei (show (24 : Int) ≠ 29 by decide), uS_nei (show (25 : Int) ≠ 29 by decide), uT]
  have ste : tkD D p0 (S 88 29 + 1).toNat = fTD D p0 (S 88 29) (tkD D p0 (S 88 29).toNat) := gfold_s h29
  rw [ste, h]
  unfold tDeed at hd
  unfold fTD dSl zDo
  dsimp only
  generalize p0 + 1 + 3 * S 88 29 = q at *
  by_cases e0 : D q = 0
  · obtain ⟨f88, f24, f27, f28, fc, f107, f104, f99⟩ := zSlot_f hA.1
    rw [if_pos e0, if_pos e0, if_neg (by omega), f24, f88 25 (by omega) (by omega) (by omega), tkS_congr (S := S) (T := zSlot S) _ (fun j _ _ => ⟨fc _ _ (by omega), fc _ _ (by omega), fc _ _ (by omega), fc _ _ (by omega)⟩)]
  · rw [if_neg e0, if_neg e0]
    by_cases e1 : D q = 1
    · obtain ⟨a1, a2, a3, a4⟩ := zSlots_ok (D (q + 1)).toNat S hA
      rw [if_pos e1, if_pos e1, if_neg (by omega), a3, a2 25 (by omega) (by omega) (by omega), tkS_congr (S := S) (T := zSlots (D (q + 1)).toNat S) _ (fun j _ _ => ⟨zSlots_c hA _ _ _ (by omega), zSlots_c hA _ _ _ (by omega), zSlots_c hA _ _ _ (by omega), zSlots_c hA _ _ _ (by omega)⟩), show (((D (q + 1)).toNat : Nat) : Int) = D (q + 1) by omega]
    · rw [if_neg e1, if_neg e1]
      have hz : zCan (D q) (D (q + 1)) (D (q + 2)) S := by
        rcases hc with z | z
        · omega
        · exact z
      have hP := hA.1.1
      by_cases e2 : D q = 2
      · rw [if_pos e2, e2]
        unfold zBring
        rw [if_pos rfl, zCell_88 _ _ _ _ 24 (by omega) (by omega), zCell_25, show (S 88 25 + 1).toNat = (S 88 25).toNat + 1 by omega]
        have n := zCell_new (D (q + 1)) (D (q + 2)) 1 S
        have e : tkS (zCell (D (q + 1)) (D (q + 2)) 1 S) ((S 88 25).toNat + 1) = fTS (zCell (D (q + 1)) (D (q + 2)) 1 S) (S 88 25) (tkS S (S 88 25).toNat) := by
          show fTS (zCell (D (q + 1)) (D (q + 2)) 1 S) ((S 88 25).toNat : Nat) (tkS (zCell (D (q + 1)) (D (q + 2)) 1 S) (S 88 25).toNat) = _
          rw [show (((S 88 25).toNat : Nat) : Int) = S 88 25 by omega, tkS_congr (S := S) (T := zCell (D (q + 1)) (D (q + 2)) 1 S) (S 88 25).toNat (fun j j0 j1 => ⟨zCell_k _ _ 1 S 100 j (by omega) (by omega), zCell_k _ _ 1 S 101 j (by omega) (by omega), zCell_k _ _ 1 S 103 j (by omega) (by omega), zCell_k _ _ 1 S 108 j (by omega) (by omega)⟩)]
        rw [e]
        unfold fTS
        rw [n.2.2.2.2.2.2.2.2, if_neg (by decide), n.1, n.2.1, n.2.2.2.1, oOf_pow _ (by omega), Int.add_zero]
      · rw [if_neg e2]
        by_cases e3 : D q = 3
        · rw [e3]
          unfold zBring
          rw [if_neg (by decide), if_pos rfl, zFan_88 _ _ _ 24 (by omega) (by omega), zFan_25, show (S 88 25 + 1).toNat = (S 88 25).toNat + 1 by omega, Int.add_zero]
          have n := zFan_new (D (q + 1)) S (D (q + 2))
          have e : tkS (zFan (D (q + 1)) (D (q + 2)) S) ((S 88 25).toNat + 1) = fTS (zFan (D (q + 1)) (D (q + 2)) S) (S 88 25) (tkS S (S 88 25).toNat) := by
            show fTS (zFan (D (q + 1)) (D (q + 2)) S) ((S 88 25).toNat : Nat) (tkS (zFan (D (q + 1)) (D (q + 2)) S) (S 88 25).toNat) = _
            rw [show (((S 88 25).toNat : Nat) : Int) = S 88 25 by omega, tkS_congr (S := S) (T := zFan (D (q + 1)) (D (q + 2)) S) (S 88 25).toNat (fun j j0 j1 => ⟨zFan_k _ S _ 100 j (by omega) (by omega), zFan_k _ S _ 101 j (by omega) (by omega), zFan_k _ S _ 103 j (by omega) (by omega), zFan_k _ S _ 108 j (by omega) (by omega)⟩)]
          rw [e]
          unfold fTS
          rw [n.2.2.2.2.2.2.2.2, if_pos rfl]
        · have e4 : D q = 4 := by omega
          rw [e4]
          unfold zBring
          rw [if_neg (by decide), if_neg (by decide), Int.add_zero]
          have b : zBurst (D (q + 1)) (D (q + 2)) S 88 24 = S 88 24 ∧ tkS (zBurst (D (q + 1)) (D (q + 2)) S) (zBurst (D (q + 1)) (D (q + 2)) S 88 25).toNat = tkS S (S 88 25).toNat := by
            refine zBurst_ind (fun T => 0 ≤ T 88 25 ∧ T 88 24 = S 88 24 ∧ tkS T (T 88 25).toNat = tkS S (S 88 25).toNat) (fun T => T 88 24 = S 88 24 ∧ tkS T (T 88 25).toNat = tkS S (S 88 25).toNat) hP.1 ⟨h25, rfl, rfl⟩ (fun T o hK _ _ => ?_) (fun T U hK u1 u2 => ?_)
            · exact ⟨by rw [zCell_25]; omega, by rw [zCell_88 _ _ _ _ 24 (by omega) (by omega)]; exact hK.2.1, by rw [tkS_cell0 hK.1]; exact hK.2.2⟩
            · rw [u1 24 (by omega), u1 25 (by omega), tkS_congr (S := T) (T := U) _ (fun j _ _ => ⟨u2 _ _ (by omega) (by omega), u2 _ _ (by omega) (by omega), u2 _ _ (by omega) (by omega), u2 _ _ (by omega) (by omega)⟩)]
              exact hK.2
          rw [b.1, b.2]
theorem JT_step {D : Int → Int} {p0 N : Int} {S : RS} (h : OKD S) (hD : ∀ k, 0 ≤ k → k < D p0 → tDeed D (p0 + 1 + 3 * k)) (hJ : JT D p0 S) : JT D p0 (zStep D p0 N S) := by
  by_cases hc : S 88 29 < N ∧ S 88 29 < D p0 ∧ zCanD (D (p0 + 1 + 3 * S 88 29)) (D (p0 + 1 + 3 * S 88 29 + 1)) (D (p0 + 1 + 3 * S 88 29 + 2)) S
  · rw [zStep_y hc]; exact JT_do h.1 h.2.1 (hD _ h.2.1 hc.2.1) hc.2.2 hJ
  · rw [zStep_n hc]; exact hJ
theorem JT_fol {D : Int → Int} {p0 N : Int} (hD : ∀ k, 0 ≤ k → k < D p0 → tDeed D (p0 + 1 + 3 * k)) : ∀ (n : Nat) {S : RS}, OKD S → JT D p0 S → JT D p0 (zFol D p0 N n S)
  | 0, _, _, h => h
  | n + 1, _, hS, h => JT_fol hD n (zStep_ok hS hD).1 (JT_step hS hD h)
theorem JT_run {σ : gS} (hI : tInv σ) {x1 x2 : Int} (h0 : 0 ≤ x1) (h1 : x1 < gI σ 89 0) (h2 : 0 ≤ x2) (h3 : x2 < gI σ 89 1) : JT (gI σ 89) (618 + 121 * x2) (zRun σ x1 x2 40) := by
  obtain ⟨t1, t2, t3, t4⟩ := tTraf hI h2 h3
  refine JT_fol t4 40 (zB0_d hI h0 h1 _) ?_
  unfold JT
  have z : ∀ k, 23 ≤ k ∧ k ≤ 29 → zB0 σ x1 (uS (pS σ) 88 14 (618 + 121 * x2)) 88 k = 0 := fun k hk => zBeg_0 _ _ _ _ _ k hk
  rw [z 29 (by omega), z 24 (by omega), z 25 (by omega)]
  rfl
/-- cells told, in bounds -/
def OKT (P : Int) (x : Tk) : Prop := 0 ≤ x.1 ∧ x.1 ≤ 40 ∧ ∀ k, 0 ≤ k → k < x.1 → (0 ≤ x.2.1 k ∧ x.2.1 k < P) ∧ (0 ≤ x.2.2.1 k ∧ x.2.2.1 k < P) ∧ (0 ≤ x.2.2.2 k ∧ x.2.2.2 k ≤ 360)
