theorem zMost_mx (Z : RS) (c : Int) : isMx (fun a => cnt Z c (a - 1) (Z 88 65).toNat) (zMost Z c) := by
  obtain ⟨h1, h2, h3⟩ := gfold_mx (f := fun a => cnt Z c (a - 1) (Z 88 65).toNat) (fun a => (cnt_r Z c _ _).1) 7
  refine ⟨h1, ?_⟩
  rcases h3 with h3 | h3
  · have := h1 0 (by omega) (by omega)
    have := (cnt_r Z c (0 - 1) (Z 88 65).toNat).1
    exact ⟨0, by omega, by omega, by show cnt Z c (0 - 1) (Z 88 65).toNat = gfold _ 0 7; rw [h3] at *; omega⟩
  · exact h3
theorem zMost_r (Z : RS) (c : Int) (h : 0 ≤ Z 88 65) : 0 ≤ zMost Z c ∧ zMost Z c ≤ Z 88 65 := by
  obtain ⟨h1, a, a0, a1, a2⟩ := zMost_mx Z c
  have := cnt_r Z c (a - 1) (Z 88 65).toNat
  have a2 : cnt Z c (a - 1) (Z 88 65).toNat = zMost Z c := a2
  omega
def fAsk (Z : RS) (P c : Int) (x : Int × Int) : Int × Int := if P ≤ c % 6 then x else if zMost Z c < x.2 then (10 * (c / 6) + c % 6, zMost Z c) else x
def zAsk (Z : RS) (P n24 : Int) : Int := if Z 88 65 ≤ 0 then -1 else (gfold (fAsk Z P) (-1, 999) (6 * n24).toNat).1
def fSure (v x : Int) : Int := if x = -2 then v else if x = v then v else -1
def prt (rd v : Int) : Int := if rd = 0 then v % 10 else v / 10
def zSureN (Z : RS) (rd : Int) (n : Nat) : Int := gfold (fun k x => fSure (prt rd (Z 130 k)) x) (-2) n
def zSure (Z : RS) (rd : Int) : Int := if zSureN Z rd (Z 88 65).toNat = -2 then -1 else zSureN Z rd (Z 88 65).toNat
theorem zSureN_m1 {Z : RS} {rd : Int} (m : Nat) (h : zSureN Z rd m = -1) : ∀ d : Nat, (∀ k, (m : Int) ≤ k → k < m + d → 0 ≤ prt rd (Z 130 k)) → zSureN Z rd (m + d) = -1
  | 0, _ => h
  | d + 1, hp => by
    have ih := zSureN_m1 m h d (fun k k0 k1 => hp k k0 (by omega))
    show fSure (prt rd (Z 130 ((m + d : Nat) : Int))) (zSureN Z rd (m + d)) = -1
    rw [ih]
    unfold fSure
    have := hp ((m + d : Nat) : Int) (by omega) (by omega)
    rw [if_neg (by omega), if_neg (by omega)]
def zFitsT (Z : RS) (P n24 w : Int) : Int := if w = 0 then Z 88 65 else if w = 1 then zSure Z 1 else if w = 2 then zSure Z 0 else if w = 3 then zAsk Z P n24 else if w < 10 then -2 else if w < 10 + Z 88 65 then Z 130 (w - 10) else -2
theorem prt_r {rd v : Int} (h : 10 ≤ v ∧ v ≤ 100) : 0 ≤ prt rd v ∧ prt rd v ≤ 100 := by
  unfold prt
  split <;> omega
theorem fAsk_r {Z : RS} {P c : Int} {x : Int × Int} (h0 : 0 ≤ Z 88 65 ∧ Z 88 65 ≤ 24) (hc : 0 ≤ c ∧ c < 3000) (h : (x.1 = -1 ∧ x.2 = 999) ∨ (0 ≤ x.1 ∧ x.1 < 6000 ∧ 0 ≤ x.2 ∧ x.2 ≤ 24)) : ((fAsk Z P c x).1 = -1 ∧ (fAsk Z P c x).2 = 999) ∨ (0 ≤ (fAsk Z P c x).1 ∧ (fAsk Z P c x).1 < 6000 ∧ 0 ≤ (fAsk Z P c x).2 ∧ (fAsk Z P c x).2 ≤ 24) := by
  have m := zMost_r Z c h0.1
  unfold fAsk
  split
  · exact h
  · split
    · exact Or.inr ⟨by show 0 ≤ 10 * (c / 6) + c % 6; omega, by show 10 * (c / 6) + c % 6 < 6000; omega, by show 0 ≤ zMost Z c; omega, by show zMost Z c ≤ 24; omega⟩
    · exact h
section SK
variable {l : Launch} {G : gG}
theorem c_mostAlike (s o n24 : Int) (σ : gS) (Z : RS) (hF : CFt σ n24 Z) (hZ : ZI n24 24 Z) (hs : 0 ≤ s ∧ s < n24) (hn : n24 ≤ 360) (ho : 0 ≤ o ∧ o < 6) (Q : Int → gS → Prop) (h : ∀ τ, (∀ c i, c ≠ 87 → gI τ c i = gI σ c i) → Q (zMost Z (6 * s + o)) τ) : eX1_mostAlike l G s o σ Q := by
  obtain ⟨⟨z65, z24⟩, zc, zv, _⟩ := hZ
  obtain ⟨f1, f2, f3, f4, f5⟩ := hF
  have rs : gR s := ⟨by omega, by omega⟩
  have ro : gR o := ⟨by omega, by omega⟩
  refine vX1_mostAlike s o rs ro σ Q ?_
  refine gloopI (α := gS) 0 7 (fun a τ => a ≤ 7 ∧ (∀ j, 0 ≤ j → j < a → gI τ 87 j = 0) ∧ ∀ c i, c ≠ 87 → gI τ c i = gI σ c i) (fun a τ => kX1_mostAlike_2 l G s o a τ Q) ?_ ?_ 0 σ (by omega) ⟨by omega, fun j j0 j1 => by omega, fun _ _ _ => rfl⟩
  · rintro a τ a0 a1 ⟨y0, y1, y2⟩ ih
    refine vX1_mostAlike_2 s o a rs ro ⟨by omega, by omega⟩ τ Q ⟨fun z => by omega, fun _ => ⟨by omega, fun w ew => ih w ⟨by omega, fun j j0 j1 => ?_, fun c i hc => by rw [ew, sI_ne hc]; exact y2 c i hc⟩⟩⟩
    rw [ew, sI_at]
    split
    · rfl
    · rename_i q; exact y1 j j0 (by omega)
  · rintro a τ a0 ⟨y0, y1, y2⟩
    have ha : a = 7 := by omega
    subst ha
    refine vX1_mostAlike_2 s o 7 rs ro (by decide) τ Q ⟨fun _ => ?_, fun z => by omega⟩
    refine gloopI (α := Int × gS) 0 (Z 88 65) (fun k x => k ≤ Z 88 65 ∧ (∀ a, 0 ≤ a → a < 7 → gI x.2 87 a = cnt Z (6 * s + o) (a - 1) k.toNat) ∧ isMx (fun a => cnt Z (6 * s + o) (a - 1) k.toNat) x.1 ∧ (0 ≤ x.1 ∧ x.1 ≤ k) ∧ ∀ c i, c ≠ 87 → gI x.2 c i = gI σ c i) (fun k x => kX1_mostAlike_26 l G s o x.1 k x.2 Q) ?_ ?_ 0 (0, τ) (by omega) ⟨by omega, fun a a0 a1 => y1 a a0 a1, ⟨fun a _ _ => Int.le_refl _, 0, by omega, by omega, rfl⟩, by show (0 : Int) ≤ 0 ∧ (0 : Int) ≤ 0; omega, y2⟩
    · rintro k ⟨x, υ⟩ k0 k1 ⟨x0, x1, x2, x3, x4⟩ ih
      dsimp only at x1 x2 x3 x4 ⊢
      have q := f5 k k0 k1 s hs.1 hs.2
      have v := zv k k0 k1 (6 * s + o) (by omega) (by omega)
      refine vX1_mostAlike_26 s o x k rs ro ⟨by omega, by omega⟩ ⟨by omega, by omega⟩ υ Q ?_
      rw [x4 84 1 (by omega), f1, show k * 360 + s = 360 * k + s by omega, x4 86 _ (by omega)]
      refine ⟨fun z => by omega, fun _ => ⟨by omega, c_inputOf _ o (Z 131 (2520 * k + (6 * s + o))) q.1 ho (q.2 o ho.1 ho.2) υ _ (fun _ => ⟨⟨by omega, by omega⟩, fun z => by omega, fun _ => ⟨fun z => by omega, fun _ => ?_⟩⟩)⟩⟩
      have c1 := cnt_r Z (6 * s + o) (Z 131 (2520 * k + (6 * s + o))) k.toNat
      have ex : gI υ 87 (Z 131 (2520 * k + (6 * s + o)) + 1) = cnt Z (6 * s + o) (Z 131 (2520 * k + (6 * s + o))) k.toNat := by
        rw [x1 _ (by omega) (by omega), show Z 131 (2520 * k + (6 * s + o)) + 1 - 1 = Z 131 (2520 * k + (6 * s + o)) by omega]
      rw [ex]
      refine ⟨by omega, ⟨by omega, by omega⟩, fun w ew => ?_⟩
      have ewv : gI w 87 (Z 131 (2520 * k + (6 * s + o)) + 1) = cnt Z (6 * s + o) (Z 131 (2520 * k + (6 * s + o))) k.toNat + 1 := by rw [ew, sI_eq]
      rw [ewv]
      have cs : ∀ v, cnt Z (6 * s + o) v (k + 1).toNat = cnt Z (6 * s + o) v k.toNat + (if Z 131 (2520 * k + (6 * s + o)) = v then 1 else 0) := fun v => by
        unfold cnt
        rw [sm_s _ k0]
      generalize Z 131 (2520 * k + (6 * s + o)) = v0 at *
      refine ih (_, w) ⟨by omega, fun a a0 a1 => ?_, ?_, ?_, fun c i hc => by rw [show ((max x (cnt Z (6 * s + o) v0 k.toNat + 1), w) : Int × gS).2 = w from rfl, ew, sI_ne hc]; exact x4 c i hc⟩
      · show gI w 87 a = _
        rw [cs, ew, sI_at]
        by_cases e : a = v0 + 1
        · rw [if_pos ⟨rfl, e⟩, if_pos (by omega), show a - 1 = v0 by omega]
        · rw [if_neg (fun z => e z.2), if_neg (by omega), Int.add_zero]; exact x1 a a0 a1
      · show isMx _ (max x (cnt Z (6 * s + o) v0 k.toNat + 1))
        obtain ⟨m1, b, b0, b1, b2⟩ := x2
        have b2 : cnt Z (6 * s + o) (b - 1) k.toNat = x := b2
        refine ⟨fun a a0 a1 => ?_, ?_⟩
        · show cnt Z (6 * s + o) (a - 1) (k + 1).toNat ≤ _
          have := m1 a a0 a1
          have : cnt Z (6 * s + o) (a - 1) k.toNat ≤ x := this
          rw [cs]
          by_cases e : v0 = a - 1
          · rw [if_pos e, ← e]; omega
          · rw [if_neg e]; omega
        · by_cases e : x ≤ cnt Z (6 * s + o) v0 k.toNat + 1
          · refine ⟨v0 + 1, by omega, by omega, ?_⟩
            show cnt Z (6 * s + o) (v0 + 1 - 1) (k + 1).toNat = _
            rw [cs, show v0 + 1 - 1 = v0 by omega, if_pos rfl]; omega
          · refine ⟨b, b0, b1, ?_⟩
            show cnt Z (6 * s + o) (b - 1) (k + 1).toNat = _
            rw [cs]
            by_cases e2 : v0 = b - 1
            · rw [← e2] at b2; omega
            · rw [if_neg e2]; omega
      · show 0 ≤ max x (cnt Z (6 * s + o) v0 k.toNat + 1) ∧ max x (cnt Z (6 * s + o) v0 k.toNat + 1) ≤ k + 1
        omega
    · rintro k ⟨x, υ⟩ k0 ⟨x0, x1, x2, x3, x4⟩
      dsimp only at x1 x2 x3 x4 ⊢
      have hk : k = Z 88 65 := by omega
      subst hk
      have := isMx_eq x2 (zMost_mx Z (6 * s + o))
      refine vX1_mostAlike_26 s o x _ rs ro ⟨by omega, by omega⟩ ⟨by omega, by omega⟩ υ Q ?_
      rw [x4 84 1 (by omega), f1, this]
      exact ⟨fun _ => h υ x4, fun z => by omega⟩
theorem c_bestToAsk (P n24 : Int) (hP : 1 ≤ P ∧ P ≤ 6) (σ : gS) (Z : RS) (h0 : gI σ 84 0 = P) (hF : CFt σ n24 Z) (hZ : ZI n24 24 Z) (hn : 0 ≤ n24 ∧ n24 ≤ 360) (Q : Int → gS → Prop) (h : ∀ τ, (∀ c i, c ≠ 87 → gI τ c i = gI σ c i) → Q (zAsk Z P n24) τ) : eX1_bestToAsk l G σ Q := by
  have hz := hZ.1
  refine vX1_bestToAsk σ Q ?_
  rw [hF.1]
  by_cases e0 : Z 88 65 = 0
  · have h' := h σ (fun _ _ _ => rfl)
    unfold zAsk at h'
    rw [if_pos (by omega)] at h'
    refine vX1_bestToAsk_9 (-1) _ 0 (by decide) ⟨by omega, by omega⟩ (by decide) σ Q ⟨fun _ => h', fun z => ?_⟩
    rw [hF.2.1 e0] at z
    omega
  · have f84 : gI σ 84 2 = n24 := hF.2.2.1 (by omega)
    unfold zAsk at h
    rw [if_neg (by omega)] at h
    have inv : ∀ n : Int, 0 ≤ n → n ≤ 6 * n24 → ((gfold (fAsk Z P) (-1, 999) n.toNat).1 = -1 ∧ (gfold (fAsk Z P) (-1, 999) n.toNat).2 = 999) ∨ (0 ≤ (gfold (fAsk Z P) (-1, 999) n.toNat).1 ∧ (gfold (fAsk Z P) (-1, 999) n.toNat).1 < 6000 ∧ 0 ≤ (gfold (fAsk Z P) (-1, 999) n.toNat).2 ∧ (gfold (fAsk Z P) (-1, 999) n.toNat).2 ≤ 24) := fun n n0 n1 =>
      gfold_P (fAsk Z P) (-1, 999) (fun _ x => (x.1 = -1 ∧ x.2 = 999) ∨ (0 ≤ x.1 ∧ x.1 < 6000 ∧ 0 ≤ x.2 ∧ x.2 ≤ 24)) (Or.inl ⟨rfl, rfl⟩) n n0 (fun j x j0 j1 hx => fAsk_r hz (by omega) hx)
    refine gloopI (α := Int × Int × gS) 0 n24 (fun s x => s ≤ n24 ∧ x.1 = (gfold (fAsk Z P) (-1, 999) (6 * s).toNat).1 ∧ (x.1 ≠ -1 → x.2.1 = (gfold (fAsk Z P) (-1, 999) (6 * s).toNat).2) ∧ (0 ≤ x.2.1 ∧ x.2.1 ≤ 24) ∧ ∀ c i, c ≠ 87 → gI x.2.2 c i = gI σ c i) (fun s x => kX1_bestToAsk_9 l G x.1 x.2.1 s x.2.2 Q) ?_ ?_ 0 (-1, Z 88 65, σ) (by omega) ⟨by omega, rfl, fun z => absurd rfl z, by show 0 ≤ Z 88 65 ∧ Z 88 65 ≤ 24; omega, fun _ _ _ => rfl⟩
    · rintro s ⟨b, le, τ⟩ s0 s1 ⟨y0, y1, y2, y3, y4⟩ ih
      dsimp only at y1 y2 y3 y4 ⊢
      have iv := inv (6 * s) (by omega) (by omega)
      have f0 : gI τ 84 0 = P := by rw [y4 _ _ (by omega)]; exact h0
      refine vX1_bestToAsk_9 b le s ⟨by omega, by omega⟩ ⟨by omega, by omega⟩ ⟨by omega, by omega⟩ τ Q ?_
      rw [y4 84 2 (by omega), y4 84 1 (by omega), f84, hF.1]
      refine ⟨fun z => by omega, fun _ => ⟨fun z => by omega, fun _ => ?_⟩⟩
      refine gloopI (α := Int × Int × gS) 0 P (fun o x => o ≤ P ∧ x.1 = (gfold (fAsk Z P) (-1, 999) (6 * s + o).toNat).1 ∧ (x.1 ≠ -1 → x.2.1 = (gfold (fAsk Z P) (-1, 999) (6 * s + o).toNat).2) ∧ (0 ≤ x.2.1 ∧ x.2.1 ≤ 24) ∧ ∀ c i, c ≠ 87 → gI x.2.2 c i = gI σ c i) (fun o x => kX1_bestToAsk_27 l G x.1 x.2.1 s o x.2.2 Q) ?_ ?_ 0 (b, le, τ) (by omega) ⟨by omega, by rw [Int.add_zero]; exact y1, by rw [Int.add_zero]; exact y2, y3, y4⟩
      · rintro o ⟨b, le, υ⟩ o0 o1 ⟨x0, x1, x2, x3, x4⟩ ih2
        dsimp only at x1 x2 x3 x4 ⊢
        have iv := inv (6 * s + o) (by omega) (by omega)
        have mr := zMost_r Z (6 * s + o) hz.1
        have ste : gfold (fAsk Z P) (-1, 999) (6 * s + (o + 1)).toNat = fAsk Z P (6 * s + o) (gfold (fAsk Z P) (-1, 999) (6 * s + o).toNat) := by
          rw [show 6 * s + (o + 1) = 6 * s + o + 1 by omega, gfold_s (by omega)]
        rw [ste] at ih2
        generalize gfold (fAsk Z P) (-1, 999) (6 * s + o).toNat = X at *
        have co : (6 * s + o) % 6 = o ∧ (6 * s + o) / 6 = s := by omega
        unfold fAsk at ih2
        rw [if_neg (by omega), co.1, co.2] at ih2
        refine vX1_bestToAsk_27 b le s o ⟨by omega, by omega⟩ ⟨by omega, by omega⟩ ⟨by omega, by omega⟩ ⟨by omega, by omega⟩ υ Q ?_
        rw [x4 84 0 (by omega), h0]
        refine ⟨fun z => by omega, fun _ => c_mostAlike s o n24 υ Z (CFt.keep hF (fun c i c1 c2 => x4 c i (by omega)) rfl (fun _ => rfl) (fun _ => rfl)) hZ ⟨s0, s1⟩ hn.2 (by omega) _ (fun w wF _ => ?_)⟩
        have w4 : ∀ c i, c ≠ 87 → gI w c i = gI σ c i := fun c i hc => (wF c i hc).trans (x4 c i hc)
        refine ⟨fun z => ?_, fun z => ⟨fun z2 => ?_, fun z2 => ?_⟩⟩
        · rw [if_pos (by omega)] at ih2
          exact ih2 (10 * s + o, zMost Z (6 * s + o), w) ⟨by omega, rfl, fun _ => rfl, by show 0 ≤ zMost Z (6 * s + o) ∧ zMost Z (6 * s + o) ≤ 24; omega, w4⟩
        · have := x2 z
          rw [if_neg (by omega)] at ih2
          exact ih2 (b, le, w) ⟨by omega, x1, x2, x3, w4⟩
        · have := x2 z
          rw [if_pos (by omega)] at ih2
          exact ih2 (10 * s + o, zMost Z (6 * s + o), w) ⟨by omega, rfl, fun _ => rfl, by show 0 ≤ zMost Z (6 * s + o) ∧ zMost Z (6 * s + o) ≤ 24; omega, w4⟩
      · rintro o ⟨b, le, υ⟩ o0 ⟨x0, x1, x2, x3, x4⟩
        dsimp only at x1 x2 x3 x4 ⊢
        have ho : o = P := by omega
        have iv := inv (6 * s + o) (by omega) (by omega)
        have nn := gfold_noop (f := fAsk Z P) (a := (-1, 999)) (6 * s + o).toNat (6 - o).toNat (fun j x j0 j1 => by
          unfold fAsk
          rw [if_pos (by omega)])
        rw [show (6 * s + o).toNat + (6 - o).toNat = (6 * (s + 1)).toNat by omega] at nn
        refine vX1_bestToAsk_27 b le s o ⟨by omega, by omega⟩ ⟨by omega, by omega⟩ ⟨by omega, by omega⟩ ⟨by omega, by omega⟩ υ Q ?_
        rw [x4 84 0 (by omega), h0]
        refine ⟨fun _ => ih (b, le, υ) ⟨by omega, ?_, ?_, x3, x4⟩, fun z => by omega⟩
        · rw [nn]; exact x1
        · rw [nn]; exact x2
    · rintro s ⟨b, le, τ⟩ s0 ⟨y0, y1, y2, y3, y4⟩
      dsimp only at y1 y2 y3 y4 ⊢
      have hs : s = n24 := by omega
      subst hs
      have iv := inv (6 * s) (by omega) (by omega)
      refine vX1_bestToAsk_9 b le s ⟨by omega, by omega⟩ ⟨by omega, by omega⟩ ⟨by omega, by omega⟩ τ Q ?_
      rw [y4 84 2 (by omega), f84, y1]
      exact ⟨fun _ => h τ y4, fun z => by omega⟩
theorem c_sure (rd : Int) (hr : rd = 0 ∨ rd = 1) (σ : gS) (Z : RS) (n24 : Int) (hF : CFt σ n24 Z) (hZ : ZI n24 24 Z) (Q : Int → gS → Prop) (h : Q (zSure Z rd) σ) : eX1_sureOf l G rd σ Q := by
  obtain ⟨⟨z65, z24⟩, zc, zv, _⟩ := hZ
  have rr : gR rd := gR_01 hr
  refine vX1_sureOf rd rr σ Q ?_
  unfold zSure at h
  refine gloopI (α := Int) 0 (Z 88 65) (fun k x => k ≤ Z 88 65 ∧ (k = 0 → x = -1) ∧ (0 < k → x = zSureN Z rd k.toNat ∧ 0 ≤ x ∧ x ≤ 100)) (fun k x => kX1_sureOf_4 l G rd x k σ Q) ?_ ?_ 0 (-1) (by omega) ⟨by omega, fun _ => rfl, fun z => by omega⟩
  · rintro k x k0 k1 ⟨y0, y1, y2⟩ ih
    have c := zc k k0 k1
    have pr := prt_r (rd := rd) c
    have ste : zSureN Z rd (k + 1).toNat = fSure (prt rd (Z 130 k)) (zSureN Z rd k.toNat) := gfold_s k0
    refine vX1_sureOf_4 rd x k rr ⟨by omega, by omega⟩ ⟨by omega, by omega⟩ σ Q ?_
    rw [hF.1, hF.2.2.2.1 k k0 k1, grem_pos _ 10 (by omega) (by decide), gdiv_pos _ 10 (by omega) (by decide)]
    refine ⟨fun z => by omega, fun _ => ⟨⟨fun _ => ⟨by omega, trivial⟩, fun _ => ⟨by omega, trivial⟩⟩, fun v ev => ?_⟩⟩
    have ev : v = prt rd (Z 130 k) := ev
    rw [ev]
    refine ⟨fun z => ih _ ⟨by omega, fun q => by omega, fun _ => ⟨?_, by omega, by omega⟩⟩, fun z => ⟨fun e => ih _ ⟨by omega, fun q => by omega, fun _ => ⟨?_, by omega, by omega⟩⟩, fun e => ?_⟩⟩
    · have : k = 0 := by omega
      rw [ste, this]
      show _ = fSure _ (-2)
      unfold fSure
      rw [if_pos rfl]
    · obtain ⟨a1, a2, a3⟩ := y2 z
      rw [ste, ← a1]
      unfold fSure
      rw [if_neg (by omega), if_pos (by omega)]
    · obtain ⟨a1, a2, a3⟩ := y2 z
      have m1 : zSureN Z rd (k.toNat + 1) = -1 := by
        rw [show k.toNat + 1 = (k + 1).toNat by omega, ste, ← a1]
        unfold fSure
        rw [if_neg (by omega), if_neg (by omega)]
      have := zSureN_m1 (k.toNat + 1) m1 ((Z 88 65).toNat - (k.toNat + 1)) (fun j j0 j1 => (prt_r (zc j (by omega) (by omega))).1)
      rw [show k.toNat + 1 + ((Z 88 65).toNat - (k.toNat + 1)) = (Z 88 65).toNat by omega] at this
      rw [this, if_neg (by decide)] at h
      exact h
  · rintro k x k0 ⟨y0, y1, y2⟩
    have hk : k = Z 88 65 := by omega
    refine vX1_sureOf_4 rd x k rr ?_ ⟨by omega, by omega⟩ σ Q ?_
    · by_cases e : k = 0
      · rw [y1 e]; decide
      · have := (y2 (by omega)).2; exact ⟨by omega, by omega⟩
    rw [hF.1]
    refine ⟨fun _ => ?_, fun z => by omega⟩
    by_cases e : k = 0
    · rw [← hk, e, show zSureN Z rd (0 : Int).toNat = -2 from rfl, if_pos rfl] at h
      rw [y1 e]; exact h
    · obtain ⟨a1, a2, a3⟩ := y2 (by omega)
      rw [← hk, ← a1, if_neg (by omega)] at h
      exact h
theorem c_tellF (P n24 w : Int) (hP : 1 ≤ P ∧ P ≤ 6) (rw0 : gR w) (σ : gS) (Z : RS) (h0 : gI σ 84 0 = P) (hF : CFt σ n24 Z) (hZ : ZI n24 24 Z) (hn : 0 ≤ n24 ∧ n24 ≤ 360) (Q : Int → gS → Prop) (h : ∀ τ, (∀ c i, c ≠ 87 → gI τ c i = gI σ c i) → Q (zFitsT Z P n24 w) τ) : eX1_tell l G w σ Q := by
  have hz := hZ.1
  have h9 := h σ (fun _ _ _ => rfl)
  unfold zFitsT at h h9
  refine vX1_tell w rw0 σ Q ?_
  rw [hF.1]
  refine ⟨fun e => ?_, fun e => ?_, fun e => ?_, fun e => ?_, fun e => ⟨⟨fun _ => trivial, fun z => ⟨⟨by omega, by omega⟩, fun y => ⟨by omega, trivial⟩, fun _ => trivial⟩⟩, fun v ev => ?_⟩⟩
  · rw [if_pos e] at h9; exact h9
  · rw [if_neg (by omega), if_pos e] at h9
    exact c_sure 1 (Or.inr rfl) σ Z n24 hF hZ _ (fun _ => h9)
  · rw [if_neg (by omega), if_neg (by omega), if_pos e] at h9
    exact c_sure 0 (Or.inl rfl) σ Z n24 hF hZ _ (fun _ => h9)
  · rw [if_neg (by omega), if_neg (by omega), if_neg (by omega), if_pos e] at h
    exact c_bestToAsk P n24 hP σ Z h0 hF hZ hn _ (fun τ tF _ => h τ tF)
  · rw [if_neg (by omega), if_neg (by omega), if_neg (by omega), if_neg (by omega)] at h9
    rw [ev]
    by_cases e1 : w < 10
    · rw [if_pos e1] at h9 ⊢; exact h9
    · rw [if_neg e1] at h9 ⊢
      by_cases e2 : w < 10 + Z 88 65
      · rw [if_pos e2] at h9 ⊢
        rw [hF.2.2.2.1 (w - 10) (by omega) (by omega)]; exact h9
      · rw [if_neg e2] at h9 ⊢; exact h9
end SK
