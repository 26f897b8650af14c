theorem isM_minus {m s : Int} {p : Int → Bool} (h : isM m p) (hs : 0 ≤ s ∧ s < 64) : isM (gand m (gxor s (-1))) (fun k => p k && !tb s k) := by
  obtain ⟨h0, h1, h2⟩ := h
  have r := gand_r m (gxor s (-1)) ⟨h0, h1⟩
  refine ⟨r.1, r.2, fun k k0 k1 => ?_⟩
  rw [tb_clear m s k (by omega) (by omega) (by omega), h2 k k0 k1]
theorem apF_bits {L : Int → Int} {set : Int} (hL : ∀ i, 0 ≤ i → i < 6 → 0 ≤ L i ∧ L i < 64) : ∀ n : Nat, n ≤ 6 → ∀ o, tb (apF L set n).2 o = true ↔ ∃ i : Int, 0 ≤ i ∧ i < n ∧ tb set i = true ∧ tb (L i) o = true
  | 0, _, o => ⟨fun h => (by have h' : tb 0 o = true := h; rw [tb0] at h'; cases h'), fun ⟨i, i0, i1, _⟩ => by omega⟩
  | n + 1, hn, o => by
    have ih := apF_bits (set := set) hL n (by omega) o
    have r := apF_r L set hL n (by omega)
    have rn := hL n (by omega) (by omega)
    unfold apF
    split
    · rename_i hs
      show tb (gor (apF L set n).2 (L n)) o = true ↔ _
      rw [tb_or _ _ _ (by omega) (by omega), Bool.or_eq_true, ih]
      constructor
      · rintro (⟨i, i0, i1, i2, i3⟩ | z)
        · exact ⟨i, i0, by omega, i2, i3⟩
        · exact ⟨n, by omega, by omega, hs, z⟩
      · rintro ⟨i, i0, i1, i2, i3⟩
        by_cases q : i = n
        · rw [q] at i3; exact Or.inr i3
        · exact Or.inl ⟨i, i0, by omega, i2, i3⟩
    · rename_i hs
      rw [ih]
      constructor
      · rintro ⟨i, i0, i1, i2, i3⟩; exact ⟨i, i0, by omega, i2, i3⟩
      · rintro ⟨i, i0, i1, i2, i3⟩
        by_cases q : i = n
        · rw [q] at i2; exact absurd i2 hs
        · exact ⟨i, i0, by omega, i2, i3⟩
theorem apF_dis {L : Int → Int} {set : Int} (hL : ∀ i, 0 ≤ i → i < 6 → 0 ≤ L i ∧ L i < 64) : ∀ n : Nat, n ≤ 6 → (apF L set n).1 = true → (∀ i : Int, 0 ≤ i → i < n → tb set i = true → L i ≠ 0) ∧ ∀ i j o : Int, 0 ≤ i → i < j → j < n → tb set i = true → tb set j = true → tb (L i) o = true → tb (L j) o = true → False
  | 0, _, _ => ⟨fun i i0 i1 => by omega, fun i j o i0 i1 i2 => by omega⟩
  | n + 1, hn, h => by
    have r := apF_r L set hL n (by omega)
    have rn := hL n (by omega) (by omega)
    have hb := apF_bits (set := set) hL n (by omega)
    unfold apF at h
    split at h
    · rename_i hs
      have h' : ((apF L set n).1 && decide (L n ≠ 0) && decide (gand (apF L set n).2 (L n) = 0)) = true := h
      rw [Bool.and_eq_true, Bool.and_eq_true, decide_eq_true_iff, decide_eq_true_iff] at h'
      obtain ⟨⟨h1, h2⟩, h3⟩ := h'
      obtain ⟨a1, a2⟩ := apF_dis hL n (by omega) h1
      refine ⟨fun i i0 i1 i2 => ?_, fun i j o i0 i1 i2 i3 i4 i5 i6 => ?_⟩
      · by_cases q : i = n
        · rw [q]; exact h2
        · exact a1 i i0 (by omega) i2
      · by_cases q : j = n
        · have t1 : tb (apF L set n).2 o = true := (hb o).mpr ⟨i, i0, by omega, i3, i5⟩
          rw [q] at i6
          have t2 : tb (gand (apF L set n).2 (L n)) o = true := by rw [tb_and _ _ _ (by omega) (by omega), t1, i6]; rfl
          rw [h3, tb0] at t2; cases t2
        · exact a2 i j o i0 i1 (by omega) i3 i4 i5 i6
    · rename_i hs
      obtain ⟨a1, a2⟩ := apF_dis hL n (by omega) h
      refine ⟨fun i i0 i1 i2 => ?_, fun i j o i0 i1 i2 i3 i4 i5 i6 => ?_⟩
      · by_cases q : i = n
        · rw [q] at i2; exact absurd i2 hs
        · exact a1 i i0 (by omega) i2
      · by_cases q : j = n
        · rw [q] at i4; exact absurd i4 hs
        · exact a2 i j o i0 i1 (by omega) i3 i4 i5 i6
theorem sv_ap (L : Int → Int) (P : Int) : ∀ n : Nat, svF L P n = 0 ∨ (apF L (svF L P n) P.toNat).1 = true
  | 0 => Or.inl rfl
  | n + 1 => by
    unfold svF
    split
    · rename_i h; exact Or.inr h.1
    · exact sv_ap L P n
/-- the served heads are there, and apart -/
theorem zServed_ap {S : RS} (hS : OKS S) : (∀ i : Int, 0 ≤ i → i < S 88 10 → tb (zServed S) i = true → zLeft S i ≠ 0) ∧ ∀ i j o : Int, 0 ≤ i → i < S 88 10 → 0 ≤ j → j < S 88 10 → tb (zServed S) i = true → tb (zServed S) j = true → tb (zLeft S i) o = true → tb (zLeft S j) o = true → i = j := by
  have hP := hS.1
  have hL : ∀ i, 0 ≤ i → i < 6 → 0 ≤ zLeft S i ∧ zLeft S i < 64 := fun i i0 i1 => zLeft_64 hS i ⟨i0, i1⟩
  rcases sv_ap (zLeft S) (S 88 10) ((2 : Int) ^ (S 88 10).toNat - 1).toNat with e | e
  · have e' : zServed S = 0 := e
    rw [e']
    exact ⟨fun i _ _ h => (by rw [tb0] at h; cases h), fun i j o _ _ _ _ h => (by rw [tb0] at h; cases h)⟩
  · have e' : (apF (zLeft S) (zServed S) (S 88 10).toNat).1 = true := e
    obtain ⟨a1, a2⟩ := apF_dis hL (S 88 10).toNat (by omega) e'
    refine ⟨fun i i0 i1 h => a1 i i0 (by omega) h, fun i j o i0 i1 j0 j1 h1 h2 h3 h4 => ?_⟩
    by_cases q : i = j
    · exact q
    · by_cases q2 : i < j
      · exact (a2 i j o i0 q2 (by omega) h1 h2 h3 h4).elim
      · exact (a2 j i o j0 (by omega) (by omega) h2 h1 h4 h3).elim
theorem bz_congr {tk tk' : Int → Int} (i : Int) : ∀ n : Nat, (∀ o : Int, 0 ≤ o → o < n → tk o = tk' o) → bz tk n i = bz tk' n i
  | 0, _ => rfl
  | n + 1, h => by
    unfold bz
    rw [bz_congr i n (fun o o0 o1 => h o o0 (by omega)), h n (by omega) (by omega)]
/-- fans in the midst of being sent, by the class: who took what so far -/
def FA (σ0 σ : gS) (L : Int → Int) (P : Int) (tk : Int → Int) : Prop :=
  (∀ i, 0 ≤ i → i < 6 → isM (gI σ 57 i) (fun o => tb (L i) o && !decide (tk o = i))) ∧ isM (gI σ 45 5) (fun i => decide (i < P) && !bz tk P.toNat i) ∧ isM (gI σ 45 6) (fun o => decide (o < P) && decide (tk o = -1)) ∧ (∀ o, 0 ≤ o → o < 6 → gI σ 52 o = tk o) ∧
  (∀ c k, c ≠ 57 → c ≠ 52 → ¬ (c = 45 ∧ (k = 5 ∨ k = 6)) → gI σ c k = gI σ0 c k)
theorem FA.congr {σ0 σ : gS} {L : Int → Int} {P : Int} {tk tk' : Int → Int} (h : FA σ0 σ L P tk) (hP : P ≤ 6) (e : ∀ o, 0 ≤ o → o < 6 → tk o = tk' o) : FA σ0 σ L P tk' := by
  obtain ⟨a1, a2, a3, a4, a5⟩ := h
  refine ⟨fun i i0 i1 => isM_congr (a1 i i0 i1) (fun o o0 o1 => by rw [e o o0 o1]), isM_congr a2 (fun i _ _ => by rw [bz_congr i P.toNat (fun o o0 o1 => e o o0 (by omega))]), isM_congr a3 (fun o o0 o1 => by rw [e o o0 o1]), fun o o0 o1 => by rw [a4 o o0 o1]; exact e o o0 o1, a5⟩
section MS2
variable {l : Launch} {G : gG}
theorem c_sendFan (i outs P : Int) (hi : 0 ≤ i ∧ i < 6) (ho : 0 ≤ outs ∧ outs < 64) (hP : 1 ≤ P ∧ P ≤ 6) (σ : gS) (h3 : gI σ 32 3 = P) (Q : gS → Prop)
    (h : ∀ τ, gI τ 57 i = gand (gI σ 57 i) (gxor outs (-1)) → gI τ 45 5 = gand (gI σ 45 5) (gxor (gshl 1 i) (-1)) → gI τ 45 6 = gand (gI σ 45 6) (gxor outs (-1)) → (∀ o, gI τ 52 o = if 0 ≤ o ∧ o < P ∧ tb outs o = true then i else gI σ 52 o) → (∀ k, k ≠ i → gI τ 57 k = gI σ 57 k) → (∀ c k, c ≠ 57 → c ≠ 52 → ¬ (c = 45 ∧ (k = 5 ∨ k = 6)) → gI τ c k = gI σ c k) → Q τ) : eX8_sendFan l G i outs σ Q := by
  refine vX8_sendFan i outs ⟨by omega, by omega⟩ ⟨by omega, by omega⟩ σ Q ⟨hi, fun σ1 e1 σ2 e2 σ3 e3 => ?_⟩
  have a5 : gI σ1 45 5 = gI σ 45 5 := by rw [e1, sI_ne (by omega)]
  have a6 : gI σ2 45 6 = gI σ 45 6 := by rw [e2, sI_nei (by omega), e1, sI_ne (by omega)]
  rw [a5] at e2
  rw [a6] at e3
  refine gloopI (α := gS) 0 P (fun x τ => x ≤ P ∧ (∀ o, gI τ 52 o = if 0 ≤ o ∧ o < x ∧ tb outs o = true then i else gI σ 52 o) ∧ ∀ c k, c ≠ 52 → gI τ c k = gI σ3 c k) (fun x τ => kX8_sendFan_46 l G i outs x τ Q) ?_ ?_ 0 σ3 (by omega) ⟨by omega, fun o => ?_, fun _ _ _ => rfl⟩
  · rintro x τ x0 x1 ⟨y0, y1, y2⟩ ih
    have t3 : gI τ 32 3 = P := by rw [y2 _ _ (by omega), e3, sI_ne (by omega), e2, sI_ne (by omega), e1, sI_ne (by omega)]; exact h3
    refine vX8_sendFan_46 i outs x ⟨by omega, by omega⟩ ⟨by omega, by omega⟩ ⟨by omega, by omega⟩ τ Q ⟨fun e => by omega, fun _ => c_holds outs x ho (by omega) τ _ (fun _ => ?_)⟩
    by_cases hb : tb outs x = true
    · rw [if_pos hb]
      refine ⟨fun e => absurd e (by decide), fun _ => ⟨by omega, fun υ eu => ih υ ⟨by omega, fun o => ?_, fun c k hc => by rw [eu, sI_ne hc]; exact y2 c k hc⟩⟩⟩
      rw [eu, sI_at]
      by_cases q : o = x
      · rw [if_pos ⟨rfl, q⟩, if_pos ⟨by omega, by omega, by rw [q]; exact hb⟩]
      · rw [if_neg (fun z => q z.2), y1 o]
        by_cases q2 : 0 ≤ o ∧ o < x ∧ tb outs o = true
        · rw [if_pos q2, if_pos ⟨q2.1, by omega, q2.2.2⟩]
        · rw [if_neg q2, if_neg (fun z => q2 ⟨z.1, by omega, z.2.2⟩)]
    · rw [if_neg hb]
      refine ⟨fun _ => ih τ ⟨by omega, fun o => ?_, y2⟩, fun e => absurd rfl e⟩
      rw [y1 o]
      by_cases q2 : 0 ≤ o ∧ o < x ∧ tb outs o = true
      · rw [if_pos q2, if_pos ⟨q2.1, by omega, q2.2.2⟩]
      · rw [if_neg q2, if_neg (fun z => q2 ⟨z.1, by have := z.2.1; by_cases q : o = x; rw [q] at z; exact absurd z.2.2 hb; omega, z.2.2⟩)]
  · rintro x τ x0 ⟨y0, y1, y2⟩
    have hx : x = P := by omega
    have t3 : gI τ 32 3 = P := by rw [y2 _ _ (by omega), e3, sI_ne (by omega), e2, sI_ne (by omega), e1, sI_ne (by omega)]; exact h3
    refine vX8_sendFan_46 i outs x ⟨by omega, by omega⟩ ⟨by omega, by omega⟩ ⟨by omega, by omega⟩ τ Q ⟨fun _ => h τ ?_ ?_ ?_ (fun o => by rw [y1 o, hx]) (fun k hk => ?_) (fun c k c1 c2 c3 => ?_), fun e => by omega⟩
    · rw [y2 _ _ (by omega), e3, sI_ne (by omega), e2, sI_ne (by omega), e1, sI_eq]
    · rw [y2 _ _ (by omega), e3, sI_nei (by omega), e2, sI_eq]
    · rw [y2 _ _ (by omega), e3, sI_eq]
    · rw [y2 _ _ (by omega), e3, sI_ne (by omega), e2, sI_ne (by omega), e1, sI_nei hk]
    · rw [y2 _ _ c2, e3, sI_at, if_neg (by omega), e2, sI_at, if_neg (by omega), e1, sI_ne c1]
  · rw [if_neg (by omega), e3, sI_ne (by omega), e2, sI_ne (by omega), e1, sI_ne (by omega)]
/-- one more fan is sent -/
theorem c_sendFA (i outs P : Int) (hi : 0 ≤ i ∧ i < P) (hP : 1 ≤ P ∧ P ≤ 6) (ho : 1 ≤ outs ∧ outs < 2 ^ P.toNat) (L tk : Int → Int) (σ0 σ : gS) (h3 : gI σ0 32 3 = P) (hF : FA σ0 σ L P tk) (hsub : ∀ o, 0 ≤ o → o < P → tb outs o = true → tb (L i) o = true) (hfr : ∀ o, 0 ≤ o → o < P → tb outs o = true → tk o = -1) (Q : gS → Prop)
    (h : ∀ τ, FA σ0 τ L P (fun o => if 0 ≤ o ∧ o < P ∧ tb outs o = true then i else tk o) → Q τ) : eX8_sendFan l G i outs σ Q := by
  have hp := two_pow_P hP
  obtain ⟨tk', htk⟩ : ∃ f : Int → Int, f = fun o => if 0 ≤ o ∧ o < P ∧ tb outs o = true then i else tk o := ⟨_, rfl⟩
  rw [← htk] at h
  have ht : ∀ o, tk' o = if 0 ≤ o ∧ o < P ∧ tb outs o = true then i else tk o := fun o => by rw [htk]
  clear htk
  obtain ⟨a1, a2, a3, a4, a5⟩ := hF
  have hhigh : ∀ o, P ≤ o → tb outs o = false := fun o h1 => tb_high ⟨by omega, ho.2⟩ ⟨by omega, h1⟩ (by omega)
  refine c_sendFan i outs P (by omega) (by omega) hP σ (by rw [a5 32 3 (by omega) (by omega) (by omega)]; exact h3) Q (fun τ t1 t2 t3 t4 t5 t6 => h τ ⟨fun k k0 k1 => ?_, ?_, ?_, fun o o0 o1 => ?_, fun c k c1 c2 c3 => by rw [t6 c k c1 c2 c3]; exact a5 c k c1 c2 c3⟩)
  · by_cases q : k = i
    · subst q
      rw [t1]
      refine isM_congr (isM_minus (a1 k k0 k1) (by omega)) (fun o o0 o1 => ?_)
      rw [ht]
      by_cases b : 0 ≤ o ∧ o < P ∧ tb outs o = true
      · rw [if_pos b, b.2.2]; simp
      · rw [if_neg b]
        have : tb outs o = false := by
          by_cases q : o < P
          · cases z : tb outs o
            · rfl
            · exact absurd ⟨o0, q, z⟩ b
          · exact hhigh o (by omega)
        rw [this]; simp
    · rw [t5 k q]
      refine isM_congr (a1 k k0 k1) (fun o o0 o1 => ?_)
      rw [ht]
      by_cases b : 0 ≤ o ∧ o < P ∧ tb outs o = true
      · rw [if_pos b, hfr o b.1 b.2.1 b.2.2, decide_eq_false (show ¬ i = k from fun z => q z.symm), decide_eq_false (show ¬ (-1 : Int) = k by omega)]
      · rw [if_neg b]
  · rw [t2]
    refine isM_congr (isM_clear a2 i (by omega)) (fun k k0 k1 => ?_)
    have e : bz tk' P.toNat k = (bz tk P.toNat k || decide (i = k)) := by
      rw [Bool.eq_iff_iff, Bool.or_eq_true, bz_iff, bz_iff, decide_eq_true_iff]
      constructor
      · rintro ⟨o, o0, o1, o2⟩
        rw [ht] at o2
        by_cases b : 0 ≤ o ∧ o < P ∧ tb outs o = true
        · rw [if_pos b] at o2; exact Or.inr o2
        · rw [if_neg b] at o2; exact Or.inl ⟨o, o0, o1, o2⟩
      · rintro (⟨o, o0, o1, o2⟩ | z)
        · refine ⟨o, o0, o1, ?_⟩
          rw [ht, if_neg]
          · exact o2
          · intro b
            rw [hfr o b.1 b.2.1 b.2.2] at o2; omega
        · obtain ⟨o, o0, o1, o2⟩ := tb_some ho.1 hP ho.2
          exact ⟨o, o0, by omega, by rw [ht, if_pos ⟨o0, o1, o2⟩]; exact z⟩
    rw [e]
    cases decide (k < P) <;> cases bz tk P.toNat k <;> rfl
  · rw [t3]
    refine isM_congr (isM_minus a3 (by omega)) (fun o o0 o1 => ?_)
    rw [ht]
    by_cases b : 0 ≤ o ∧ o < P ∧ tb outs o = true
    · rw [if_pos b, b.2.2, decide_eq_false (show ¬ i = -1 by omega)]; simp
    · rw [if_neg b]
      have : tb outs o = false := by
        by_cases q : o < P
        · cases z : tb outs o
          · rfl
          · exact absurd ⟨o0, q, z⟩ b
        · exact hhigh o (by omega)
      rw [this]; simp
  · rw [t4 o, ht]
    by_cases b : 0 ≤ o ∧ o < P ∧ tb outs o = true
    · rw [if_pos b, if_pos b]
    · rw [if_neg b, if_neg b]; exact a4 o o0 o1
end MS2
