/-- cells that came alone have one output -/
def JP (S : RS) : Prop := ∀ j, 0 ≤ j → j < S 88 25 → S 108 j ≠ 0 → ∃ o : Int, 0 ≤ o ∧ o < 6 ∧ S 101 j = 2 ^ o.toNat
theorem JP_same {S T : RS} (h : JP S) (h25 : T 88 25 = S 88 25) (hc : ∀ j, T 101 j = S 101 j ∧ T 108 j = S 108 j) : JP T := fun j j0 j1 j2 => by
  rw [(hc j).1]
  rw [(hc j).2] at j2
  exact h j j0 (by omega) j2
theorem JP_cell {S : RS} {i o alone : Int} (ho : 0 ≤ o ∧ o < 6) (h : JP S) : JP (zCell i o alone S) := fun j j0 j1 j2 => by
  rw [zCell_25] at j1
  by_cases e : j = S 88 25
  · exact ⟨o, ho.1, ho.2, by rw [e]; exact (zCell_new i o alone S).2.1⟩
  · rw [zCell_k i o alone S 108 j (by omega) e] at j2
    rw [zCell_k i o alone S 101 j (by omega) e]
    exact h j j0 (by omega) j2
theorem JP_fan {S : RS} {i outs : Int} (h : JP S) : JP (zFan i outs S) := fun j j0 j1 j2 => by
  rw [zFan_25] at j1
  by_cases e : j = S 88 25
  · rw [e] at j2
    exact absurd (zFan_new i S outs).2.2.2.2.2.2.2.2 j2
  · rw [zFan_k i S outs 108 j (by omega) e] at j2
    rw [zFan_k i S outs 101 j (by omega) e]
    exact h j j0 (by omega) j2
theorem JP_do {D : Int → Int} {q : Int} {S : RS} (hA : OKA S) (hd : tDeed D q) (h : JP S) : JP (zDo (D q) (D (q + 1)) (D (q + 2)) S) := by
  unfold tDeed at hd
  unfold zDo
  by_cases e0 : D q = 0
  · obtain ⟨f88, f24, f27, f28, fc, f107, f104, f99⟩ := zSlot_f hA.1
    rw [if_pos e0]
    exact JP_same h (f88 25 (by omega) (by omega) (by omega)) (fun j => ⟨fc _ _ (by omega), fc _ _ (by omega)⟩)
  · rw [if_neg e0]
    by_cases e1 : D q = 1
    · rw [if_pos e1]
      exact JP_same h ((zSlots_ok (D (q + 1)).toNat S hA).2.1 25 (by omega) (by omega) (by omega)) (fun j => ⟨zSlots_c hA _ _ _ (by omega), zSlots_c hA _ _ _ (by omega)⟩)
    · rw [if_neg e1]
      unfold zBring
      by_cases e2 : D q = 2
      · rw [if_pos e2]; exact JP_cell (by omega) h
      · rw [if_neg e2]
        by_cases e3 : D q = 3
        · rw [if_pos e3]; exact JP_fan h
        · rw [if_neg e3]
          have hP := hA.1.1
          refine zBurst_ind (fun T => T 88 10 = S 88 10 ∧ JP T) JP hP.1 ⟨rfl, h⟩ (fun T o hK o0 o1 => ⟨by rw [zCell_88 _ _ _ _ 10 (by omega) (by omega)]; exact hK.1, JP_cell (by rw [hK.1] at o1; omega) hK.2⟩) (fun T U hK u1 u2 => JP_same hK.2 (u1 25 (by omega)) (fun j => ⟨u2 _ _ (by omega) (by omega), u2 _ _ (by omega) (by omega)⟩))
theorem JP_fol {D : Int → Int} {p0 N : Int} (hD : ∀ k, 0 ≤ k → k < D p0 → tDeed D (p0 + 1 + 3 * k)) : ∀ (n : Nat) {S : RS}, OKD S → JP S → JP (zFol D p0 N n S)
  | 0, _, _, h => h
  | n + 1, S, hS, h => JP_fol hD n (zStep_ok hS hD).1 (by
      by_cases hc : S 88 29 < N ∧ S 88 29 < D p0 ∧ zCanD (D (p0 + 1 + 3 * S 88 29)) (D (p0 + 1 + 3 * S 88 29 + 1)) (D (p0 + 1 + 3 * S 88 29 + 2)) S
      · rw [zStep_y hc]
        exact JP_same (JP_do hS.1 (hD _ hS.2.1 hc.2.1) h) (uS_nei (by decide)) (fun j => ⟨uS_ne (by decide), uS_ne (by decide)⟩)
      · rw [zStep_n hc]; exact h)
theorem JP_run {σ : gS} (hI : tInv σ) {x1 x2 : Int} (h0 : 0 ≤ x1) (h1 : x1 < gI σ 89 0) (h2 : 0 ≤ x2) (h3 : x2 < gI σ 89 1) : JP (zRun σ x1 x2 40) := by
  obtain ⟨t1, t2, t3, t4⟩ := tTraf hI h2 h3
  refine JP_fol t4 40 (zB0_d hI h0 h1 _) (fun j j0 j1 => ?_)
  have z : zB0 σ x1 (uS (pS σ) 88 14 (618 + 121 * x2)) 88 25 = 0 := zBeg_0 _ _ _ _ _ 25 (by omega)
  omega
def RT1 (τ : gS) (x : Tk) : Prop := gI τ 88 50 = x.1 ∧ ∀ k, 0 ≤ k → k < x.1 → gI τ 118 k = x.2.1 k ∧ gI τ 119 k = x.2.2.1 k ∧ gI τ 120 k = x.2.2.2 k
def RT (τ : gS) (x : Tk) (I : Int → Int) : Prop := RT1 τ x ∧ ∀ k, 0 ≤ k → k < x.1 → gI τ 121 k = I k
section SO
variable {l : Launch} {G : gG}
theorem c_outputOf (o : Int) (ho : 0 ≤ o ∧ o < 6) (σ : gS) (Q : Int → gS → Prop) (h : Q o σ) : eX12_outputOf l G (2 ^ o.toNat) σ Q := by
  have p6 := pow6 o ho
  have rm : gR (2 ^ o.toNat) := ⟨by omega, by omega⟩
  refine vX12_outputOf _ rm σ Q ?_
  refine gloopI (α := Unit) 0 o (fun j _ => j ≤ o) (fun j _ => kX12_outputOf_2 l G (2 ^ o.toNat) j σ Q) ?_ ?_ 0 () (by omega) (by omega)
  · rintro j _ j0 j1 z0 ih
    refine vX12_outputOf_2 _ j rm ⟨by omega, by omega⟩ σ Q ?_
    rw [tb_eq _ j (by omega) (by omega), tb_pow o j (by omega) j0, if_neg (by simp; omega)]
    exact ⟨fun z => absurd rfl z, fun _ => ih () (by omega)⟩
  · rintro j _ j0 z0
    have hj : j = o := by omega
    subst hj
    refine vX12_outputOf_2 _ j rm ⟨by omega, by omega⟩ σ Q ?_
    rw [tb_eq _ j (by omega) (by omega), tb_pow j j (by omega) (by omega), if_pos (by simp)]
    exact ⟨fun _ => h, fun z => absurd z (by decide)⟩
theorem c_firstOf (o : Int) (ho : 0 ≤ o ∧ o < 6) (x : Tk) (P : Int) (hx : OKT P x) (hP : P ≤ 6) (I : Int → Int) (σ : gS) (hC : RT σ x I) (Q : Int → gS → Prop) (h0 : (∀ j, 0 ≤ j → j < x.1 → x.2.2.1 j = o → I j ≠ -1) → Q (-1) σ)
    (h1 : ∀ f, 0 ≤ f → f < x.1 → x.2.2.1 f = o → I f = -1 → (∀ j, 0 ≤ j → j < x.1 → x.2.2.1 j = o → I j = -1 → j ≠ f → kyT x f < kyT x j) → Q f σ) : eX12_firstOf l G o σ Q := by
  have h40 := hx.2.1
  have hx0 := hx.1
  have ro : gR o := ⟨by omega, by omega⟩
  refine vX12_firstOf o ro σ Q ?_
  refine gloopI (α := Int) 0 x.1 (fun k f => k ≤ x.1 ∧ ((f = -1 ∧ ∀ j, 0 ≤ j → j < k → x.2.2.1 j = o → I j ≠ -1) ∨ (0 ≤ f ∧ f < k ∧ x.2.2.1 f = o ∧ I f = -1 ∧ ∀ j, 0 ≤ j → j < k → x.2.2.1 j = o → I j = -1 → j ≠ f → kyT x f < kyT x j))) (fun k f => kX12_firstOf_4 l G o f k σ Q) ?_ ?_ 0 (-1) (by omega) ⟨by omega, Or.inl ⟨rfl, fun j j0 j1 => by omega⟩⟩
  · rintro k f k0 k1 ⟨z0, z1⟩ ih
    obtain ⟨d1, d2, d3⟩ := hC.1.2 k k0 k1
    have xk := hx.2.2 k k0 k1
    have skip : (x.2.2.1 k = o → I k ≠ -1) → kX12_firstOf_4 l G o f (k + 1) σ Q := fun n => ih f ⟨by omega, by
      rcases z1 with ⟨y1, y2⟩ | ⟨y1, y2, y3, y4, y5⟩
      · refine Or.inl ⟨y1, fun j j0 j1 j2 => ?_⟩
        by_cases q : j = k
        · rw [q] at j2 ⊢; exact n j2
        · exact y2 j j0 (by omega) j2
      · refine Or.inr ⟨y1, by omega, y3, y4, fun j j0 j1 j2 j3 j4 => ?_⟩
        by_cases q : j = k
        · rw [q] at j2 j3; exact absurd j3 (n j2)
        · exact y5 j j0 (by omega) j2 j3 j4⟩
    refine vX12_firstOf_4 o f k ro ⟨by omega, by omega⟩ ⟨by omega, by omega⟩ σ Q ?_
    rw [hC.1.1, hC.2 k k0 k1, d1, d2, d3]
    refine ⟨fun z => by omega, fun _ => ⟨by omega, fun e => skip (fun q => absurd q e), fun e => ⟨fun e2 => ⟨fun e3 => ?_, fun e3 => ?_⟩, fun e2 => skip (fun _ => e2)⟩⟩⟩
    · rcases z1 with ⟨y1, y2⟩ | ⟨y1, y2, y3, y4, y5⟩
      · exact ih k ⟨by omega, Or.inr ⟨k0, by omega, e, e2, fun j j0 j1 j2 j3 j4 => absurd j3 (y2 j j0 (by omega) j2)⟩⟩
      · omega
    · rcases z1 with ⟨y1, y2⟩ | ⟨y1, y2, y3, y4, y5⟩
      · exact absurd y1 e3
      · obtain ⟨c1, c2, c3⟩ := hC.1.2 f y1 (by omega)
        have xf := hx.2.2 f y1 (by omega)
        have new : kyT x k < kyT x f → kX12_firstOf_4 l G o k (k + 1) σ Q := fun q => ih k ⟨by omega, Or.inr ⟨k0, by omega, e, e2, fun j j0 j1 j2 j3 j4 => by
          by_cases w : j = f
          · rw [w]; exact q
          · have := y5 j j0 (by omega) j2 j3 w
            omega⟩⟩
        have old : kyT x f < kyT x k → kX12_firstOf_4 l G o f (k + 1) σ Q := fun q => ih f ⟨by omega, Or.inr ⟨y1, by omega, y3, y4, fun j j0 j1 j2 j3 j4 => by
          by_cases w : j = k
          · rw [w]; exact q
          · exact y5 j j0 (by omega) j2 j3 j4⟩⟩
        unfold kyT at new old
        rw [c1, c3]
        exact ⟨by omega, fun q => new (by omega), fun q => ⟨fun q2 => old (by omega), fun q2 => ⟨fun q3 => old (by omega), fun q3 => new (by omega)⟩⟩⟩
  · rintro k f k0 ⟨z0, z1⟩
    have hk : k = x.1 := by omega
    subst hk
    refine vX12_firstOf_4 o f x.1 ro ⟨by omega, by omega⟩ ⟨by omega, by omega⟩ σ Q ?_
    rw [hC.1.1]
    refine ⟨fun _ => ?_, fun z => by omega⟩
    rcases z1 with ⟨y1, y2⟩ | ⟨y1, y2, y3, y4, y5⟩
    · rw [y1]; exact h0 y2
    · exact h1 f y1 y2 y3 y4 y5
theorem c_shadows (σ : gS) (hM : OKM (pS σ)) (hJ : JP (pS σ)) (x : Tk) (ex : tkS (pS σ) (pS σ 88 25).toNat = x) (hx : OKT (pS σ 88 10) x) (Q : gS → Prop) (h : ∀ I τ, isId x I → (∀ k, 0 ≤ k → k < x.1 → 0 ≤ I k ∧ I k ≤ 400) → RT τ x I → (∀ c i, (c < 118 ∨ 121 < c) → ¬ (c = 88 ∧ i = 50) → gI τ c i = gI σ c i) → Q τ) : eX12_shadows l G σ Q := by
  have hP := hM.1.1.1
  have h25 := hM.2.1
  have h024 := hM.1.1.2.1
  have h40 := hx.2.1
  have hx0 := hx.1
  have e25 : gI σ 88 25 = pS σ 88 25 := pS_at (by unfold okC; omega)
  have e10 : gI σ 88 10 = pS σ 88 10 := pS_at (by unfold okC; omega)
  have mono : ∀ (d k : Nat), (tkS (pS σ) k).1 ≤ (tkS (pS σ) (k + d)).1 := by
    intro d k
    induction d with
    | zero => exact Int.le_refl _
    | succ d ih =>
      have : (tkS (pS σ) (k + d)).1 ≤ (fTS (pS σ) ((k + d : Nat) : Int) (tkS (pS σ) (k + d))).1 := by
        unfold fTS
        split
        · exact Int.le_refl _
        · show (tkS (pS σ) (k + d)).1 ≤ (tkS (pS σ) (k + d)).1 + 1
          omega
      exact Int.le_trans ih this
  have ge0 : ∀ k : Nat, 0 ≤ (tkS (pS σ) k).1 := fun k => by
    have := mono k 0
    rw [Nat.zero_add] at this
    exact this
  refine vX12_shadows σ Q (fun σ1 e1 => ?_)
  refine gloopI (α := gS) 0 (pS σ 88 25) (fun k τ => k ≤ pS σ 88 25 ∧ RT1 τ (tkS (pS σ) k.toNat) ∧ ∀ c i, (c < 118 ∨ 120 < c) → ¬ (c = 88 ∧ i = 50) → gI τ c i = gI σ c i) (fun k τ => kX12_shadows_7 l G k τ Q) ?_ ?_ 0 σ1 (by omega) ⟨by omega, ⟨by rw [e1, sI_eq]; rfl, fun k k0 k1 => absurd (show k < 0 from k1) (by omega)⟩, fun c i _ hn => by rw [e1, sI_at, if_neg hn]⟩
  · rintro k τ k0 k1 ⟨z0, z1, z2⟩ ih
    have ste : tkS (pS σ) (k + 1).toNat = fTS (pS σ) k (tkS (pS σ) k.toNat) := gfold_s k0
    have gk := ge0 k.toNat
    have mk := mono ((pS σ 88 25).toNat - (k + 1).toNat) (k + 1).toNat
    rw [show (k + 1).toNat + ((pS σ 88 25).toNat - (k + 1).toNat) = (pS σ 88 25).toNat by omega, ex, ste] at mk
    rw [ste] at ih
    generalize tkS (pS σ) k.toNat = X at *
    have a : ∀ c, 100 ≤ c ∧ c ≤ 108 → gI τ c k = pS σ c k := fun c hc => by rw [z2 c k (by omega) (by omega)]; exact pS_at (by unfold okC; omega)
    have t25 : gI τ 88 25 = pS σ 88 25 := by rw [z2 _ _ (by omega) (by omega)]; exact e25
    unfold fTS at ih mk
    refine vX12_shadows_7 k ⟨by omega, by omega⟩ τ Q ?_
    rw [t25, a 108 (by omega), a 100 (by omega), z1.1]
    refine ⟨fun z => by omega, fun _ => ⟨by omega, fun e => ?_, fun e => ?_⟩⟩
    · rw [if_neg e] at ih mk
      have mk : X.1 + 1 ≤ x.1 := mk
      obtain ⟨o, o0, o1, o2⟩ := hJ k k0 k1 e
      refine ⟨by omega, fun τ1 f1 => ?_⟩
      have b101 : gI τ1 101 k = 2 ^ o.toNat := by rw [f1, sI_ne (by omega), a 101 (by omega), o2]
      have b50 : gI τ1 88 50 = X.1 := by rw [f1, sI_ne (by omega)]; exact z1.1
      rw [b101, b50]
      refine c_outputOf o ⟨o0, o1⟩ τ1 _ (fun _ => ⟨by omega, fun τ2 f2 => ?_⟩)
      have c50 : gI τ2 88 50 = X.1 := by rw [f2, sI_ne (by omega)]; exact b50
      have c103 : gI τ2 103 k = pS σ 103 k := by rw [f2, sI_ne (by omega), f1, sI_ne (by omega), a 103 (by omega)]
      rw [c50, c103]
      refine ⟨by omega, fun τ3 f3 => ?_⟩
      have d50 : gI τ3 88 50 = X.1 := by rw [f3, sI_ne (by omega)]; exact c50
      rw [d50]
      rw [o2, oOf_pow o ⟨o0, o1⟩] at ih
      refine ⟨⟨by omega, by omega⟩, fun τ4 f4 => ih τ4 ⟨by omega, ⟨?_, fun j j0 j1 => ?_⟩, fun c i hc hn => ?_⟩⟩
      · show gI τ4 88 50 = X.1 + 1
        rw [f4, sI_eq]
      · show gI τ4 118 j = fup X.2.1 X.1 _ j ∧ gI τ4 119 j = fup X.2.2.1 X.1 _ j ∧ gI τ4 120 j = fup X.2.2.2 X.1 _ j
        have j1 : j < X.1 + 1 := j1
        unfold fup
        by_cases u : j = X.1
        · rw [if_pos u, if_pos u, if_pos u, u]
          refine ⟨?_, ?_, ?_⟩
          · rw [f4, sI_ne (by omega), f3, sI_ne (by omega), f2, sI_ne (by omega), f1, sI_eq]
          · rw [f4, sI_ne (by omega), f3, sI_ne (by omega), f2, sI_eq]
          · rw [f4, sI_ne (by omega), f3, sI_eq]
        · rw [if_neg u, if_neg u, if_neg u]
          have fr : ∀ c, 118 ≤ c ∧ c ≤ 120 → gI τ4 c j = gI τ c j := fun c hc => by rw [f4, sI_ne (by omega), f3, sI_nei u, f2, sI_nei u, f1, sI_nei u]
          rw [fr 118 (by omega), fr 119 (by omega), fr 120 (by omega)]
          exact z1.2 j j0 (by omega)
      · rw [f4, sI_at, if_neg hn, f3, sI_ne (by omega), f2, sI_ne (by omega), f1, sI_ne (by omega)]; exact z2 c i hc hn
    · rw [if_pos e] at ih
      exact ih τ ⟨by omega, z1, z2⟩
  · rintro k τ k0 ⟨z0, z1, z2⟩
    have hk : k = pS σ 88 25 := by omega
    subst hk
    rw [ex] at z1
    have t25 : gI τ 88 25 = pS σ 88 25 := by rw [z2 _ _ (by omega) (by omega)]; exact e25
    refine vX12_shadows_7 _ ⟨by omega, by omega⟩ τ Q ?_
    rw [t25]
    refine ⟨fun _ => ?_, fun z => by omega⟩
    refine gloopI (α := gS) 0 x.1 (fun j υ => j ≤ x.1 ∧ (∀ i, 0 ≤ i → i < j → gI υ 121 i = -1) ∧ ∀ c i, c ≠ 121 → gI υ c i = gI τ c i) (fun j υ => kX12_shadows_93 l G j υ Q) ?_ ?_ 0 τ (by omega) ⟨by omega, fun i i0 i1 => by omega, fun _ _ _ => rfl⟩
    · rintro j υ j0 j1 ⟨y0, y1, y2⟩ ih
      refine vX12_shadows_93 j ⟨by omega, by omega⟩ υ Q ?_
      rw [y2 88 50 (by omega), z1.1]
      refine ⟨fun z => by omega, fun _ => ⟨by omega, fun w ew => ih w ⟨by omega, fun i i0 i1 => ?_, fun c i hc => by rw [ew, sI_ne hc]; exact y2 c i hc⟩⟩⟩
      rw [ew, sI_at]
      split
      · rfl
      · rename_i q; exact y1 i i0 (by omega)
    · rintro j υ j0 ⟨y0, y1, y2⟩
      have hj : j = x.1 := by omega
      subst hj
      refine vX12_shadows_93 x.1 ⟨by omega, by omega⟩ υ Q ?_
      rw [y2 88 50 (by omega), z1.1]
      refine ⟨fun _ => ?_, fun z => by omega⟩
      have cu : RT υ x (fun _ => -1) := ⟨⟨by rw [y2 _ _ (by omega)]; exact z1.1, fun i i0 i1 => by rw [y2 _ _ (by omega), y2 _ _ (by omega), y2 _ _ (by omega)]; exact z1.2 i i0 i1⟩, y1⟩
      have p0 : PI x (fun j k => x.2.2.1 j = x.2.2.1 k) (fun _ => -1) := ⟨fun _ _ _ => Or.inl rfl, fun _ _ _ q => absurd rfl q, fun _ _ _ _ _ _ _ q => absurd rfl q⟩
      refine gloopI (α := (Int → Int) × gS) 0 (pS σ 88 10) (fun o y => o ≤ pS σ 88 10 ∧ PI x (fun j k => x.2.2.1 j = x.2.2.1 k) y.1 ∧ (∀ j, 0 ≤ j → j < x.1 → x.2.2.1 j < o → y.1 j ≠ -1) ∧ (∀ j, 0 ≤ j → j < x.1 → o ≤ x.2.2.1 j → y.1 j = -1) ∧ RT y.2 x y.1 ∧ ∀ c i, (c < 118 ∨ 121 < c) → ¬ (c = 88 ∧ i = 50) → gI y.2 c i = gI σ c i) (fun o y => kX12_shadows_116 l G o y.2 Q) ?_ ?_ 0 (fun _ => -1, υ) (by omega) ⟨by omega, p0, fun j j0 j1 j2 => by have := (hx.2.2 j j0 j1).2.1; omega, fun _ _ _ _ => rfl, cu, fun c i hc hn => by show gI υ c i = _; rw [y2 c i (by omega)]; exact z2 c i (by omega) hn⟩
      · rintro o ⟨I, w⟩ o0 o1 ⟨q0, q1, q2, q3, q4, q5⟩ ih
        dsimp only at q1 q2 q3 q4 q5 ⊢
        have w10 : gI w 88 10 = pS σ 88 10 := by rw [q5 _ _ (by omega) (by omega)]; exact e10
        refine vX12_shadows_116 o ⟨by omega, by omega⟩ w Q ?_
        rw [w10]
        refine ⟨fun z => by omega, fun _ => ?_⟩
        -- the loop over an output's cells
        have ro : gR o := ⟨by omega, by omega⟩
        have L : ∀ (m : Nat) (I : Int → Int) (w : gS) (free : Int), x.1 - cntI x I ≤ m → PI x (fun j k => x.2.2.1 j = x.2.2.1 k) I → (∀ j, 0 ≤ j → j < x.1 → x.2.2.1 j < o → I j ≠ -1) → (∀ j, 0 ≤ j → j < x.1 → o < x.2.2.1 j → I j = -1) → RT w x I → (∀ c i, (c < 118 ∨ 121 < c) → ¬ (c = 88 ∧ i = 50) → gI w c i = gI σ c i) → (0 ≤ free ∧ free ≤ 500) → (∀ j, 0 ≤ j → j < x.1 → x.2.2.1 j = o → I j ≠ -1 → I j + 1 ≤ free) → (free = 0 ∨ ∃ j, 0 ≤ j ∧ j < x.1 ∧ x.2.2.1 j = o ∧ I j ≠ -1 ∧ free = I j + 1) →
            ∀ f, ((f = -1 ∧ ∀ j, 0 ≤ j → j < x.1 → x.2.2.1 j = o → I j ≠ -1) ∨ (0 ≤ f ∧ f < x.1 ∧ x.2.2.1 f = o ∧ I f = -1 ∧ ∀ j, 0 ≤ j → j < x.1 → x.2.2.1 j = o → I j = -1 → j ≠ f → kyT x f < kyT x j)) → kX12_shadows_132 l G o free f w Q := by
          intro m
          induction m with
          | zero =>
            intro I w free hm i1 i2 i3 i4 i5 i6 i7 i8 f hf
            rcases hf with ⟨f1, f2⟩ | ⟨f1, f2, f3, f4, f5⟩
            · refine vX12_shadows_132 o free f ro ⟨by omega, by omega⟩ ⟨by omega, by omega⟩ w Q ⟨fun _ => ih (I, w) ⟨by omega, i1, fun j j0 j1 j2 => ?_, fun j j0 j1 j2 => i3 j j0 j1 (by omega), i4, i5⟩, fun z => absurd f1 z⟩
              by_cases e : x.2.2.1 j = o
              · exact f2 j j0 j1 e
              · exact i2 j j0 j1 (by omega)
            · have := cntI_r x I hx0
              exact absurd f4 (cntI_full (x := x) (I := I) (by omega) f f1 f2)
          | succ m ihm =>
            intro I w free hm i1 i2 i3 i4 i5 i6 i7 i8 f hf
            rcases hf with ⟨f1, f2⟩ | ⟨f1, f2, f3, f4, f5⟩
            · refine vX12_shadows_132 o free f ro ⟨by omega, by omega⟩ ⟨by omega, by omega⟩ w Q ⟨fun _ => ih (I, w) ⟨by omega, i1, fun j j0 j1 j2 => ?_, fun j j0 j1 j2 => i3 j j0 j1 (by omega), i4, i5⟩, fun z => absurd f1 z⟩
              by_cases e : x.2.2.1 j = o
              · exact f2 j j0 j1 e
              · exact i2 j j0 j1 (by omega)
            · obtain ⟨c1, c2, c3⟩ := i4.1.2 f f1 f2
              have xf := hx.2.2 f f1 f2
              refine vX12_shadows_132 o free f ro ⟨by omega, by omega⟩ ⟨by omega, by omega⟩ w Q ⟨fun z => by omega, fun _ => ⟨by omega, fun v ev w1 e1' => ?_⟩⟩
              rw [c3] at ev
              have hv : v = max (x.2.2.2 f) free := by rw [ev]; split <;> omega
              obtain ⟨s1, s2⟩ := PI_set hx i1 f1 f2 f4 (v := v) (fun j j0 j1 j2 => j2.symm) (fun j j0 j1 j2 j3 j4 => f5 j j0 j1 (by rw [j2, f3]) j3 j4) (fun j j0 j1 j2 => j2) (by omega) (fun j j0 j1 j2 j3 => by have := i7 j j0 j1 (by rw [j2, f3]) j3; omega) (by
                by_cases q : x.2.2.2 f < free
                · rcases i8 with i8 | ⟨j, j0, j1, j2, j3, j4⟩
                  · omega
                  · exact Or.inr ⟨j, j0, j1, by rw [j2, f3], j3, by omega⟩
                · exact Or.inl (by omega))
              have s2 : cntI x (fup I f v) = cntI x I + 1 := s2
              have ef : fup I f v f = v := by unfold fup; rw [if_pos rfl]
              have en : ∀ j, j ≠ f → fup I f v j = I j := fun j hj => by unfold fup; rw [if_neg hj]
              have RT' : RT w1 x (fup I f v) := ⟨⟨by rw [e1', sI_ne (by omega)]; exact i4.1.1, fun k k0 k1 => by rw [e1', sI_ne (by omega), sI_ne (by omega), sI_ne (by omega)]; exact i4.1.2 k k0 k1⟩, fun k k0 k1 => by
                rw [e1', sI_at]
                by_cases u : k = f
                · rw [if_pos ⟨rfl, u⟩, u, ef]
                · rw [if_neg (fun z => u z.2), en k u]; exact i4.2 k k0 k1⟩
              have v121 : gI w1 121 f = v := by rw [e1', sI_eq]
              rw [v121]
              have bv := s1.1 f f1 f2
              rw [ef] at bv
              have e9 : sm (fun j => if fup I f v j = -1 then 0 else 1) x.1.toNat = cntI x (fup I f v) := rfl
              have cr := cntI_r x (fup I f v) hx0
              have j2 : ∀ j, 0 ≤ j → j < x.1 → x.2.2.1 j < o → fup I f v j ≠ -1 := fun j j0 j1 jo => by rw [en j (fun z => by rw [z] at jo; omega)]; exact i2 j j0 j1 jo
              have j3 : ∀ j, 0 ≤ j → j < x.1 → o < x.2.2.1 j → fup I f v j = -1 := fun j j0 j1 jo => by rw [en j (fun z => by rw [z] at jo; omega)]; exact i3 j j0 j1 jo
              have j5 : ∀ c i, (c < 118 ∨ 121 < c) → ¬ (c = 88 ∧ i = 50) → gI w1 c i = gI σ c i := fun c i hc hn => by rw [e1', sI_ne (by omega)]; exact i5 c i hc hn
              have go := ihm (fup I f v) w1 (v + 1) (by omega) s1 j2 j3 RT' j5 (by omega) (fun j j0 j1 jo ji => by
                by_cases u : j = f
                · rw [u, ef]; omega
                · rw [en j u] at ji ⊢
                  have := i7 j j0 j1 jo ji; omega) (Or.inr ⟨f, f1, f2, f3, by rw [ef]; omega, by rw [ef]⟩)
              exact c_firstOf o (by omega) x _ hx (by omega) (fup I f v) w1 RT' _ (fun n _ => go (-1) (Or.inl ⟨rfl, n⟩)) (fun g g0 g1 g2 g3 g4 _ => go g (Or.inr ⟨g0, g1, g2, g3, g4⟩))
        have go := L x.1.toNat I w 0 (by have := cntI_r x I hx0; omega) q1 q2 (fun j j0 j1 j2 => q3 j j0 j1 (by omega)) q4 q5 (by omega) (fun j j0 j1 j2 j3 => absurd (q3 j j0 j1 (by omega)) j3) (Or.inl rfl)
        exact c_firstOf o (by omega) x _ hx (by omega) I w q4 _ (fun n _ => go (-1) (Or.inl ⟨rfl, n⟩)) (fun g g0 g1 g2 g3 g4 _ => go g (Or.inr ⟨g0, g1, g2, g3, g4⟩))
      · rintro o ⟨I, w⟩ o0 ⟨q0, q1, q2, q3, q4, q5⟩
        dsimp only at q1 q2 q3 q4 q5 ⊢
        have ho : o = pS σ 88 10 := by omega
        have w10 : gI w 88 10 = pS σ 88 10 := by rw [q5 _ _ (by omega) (by omega)]; exact e10
        have all : ∀ k, 0 ≤ k → k < x.1 → I k ≠ -1 := fun k k0 k1 => q2 k k0 k1 (by have := (hx.2.2 k k0 k1).2.1; omega)
        refine vX12_shadows_116 o ⟨by omega, by omega⟩ w Q ?_
        rw [w10]
        refine ⟨fun _ => h I w (PI_all q1 all) (fun k k0 k1 => ?_) q4 q5, fun z => by omega⟩
        have a := q1.1 k k0 k1
        have b := all k k0 k1
        have e9 : sm (fun j => if I j = -1 then 0 else 1) x.1.toNat = cntI x I := rfl
        have cr := cntI_r x I hx0
        omega
end SO
