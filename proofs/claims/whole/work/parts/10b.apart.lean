theorem gand_0 (x : Int) : gand x 0 = 0 := by
  rw [gand_nat x 0 (by decide)]
  have : (x % 4294967296).toNat &&& (0 : Int).toNat = 0 := Nat.and_zero _
  rw [this]; rfl
theorem gor_0 (x : Int) (h : 0 ≤ x ∧ x < 64) : gor x 0 = x := by
  rw [gor_nat x 0 (by omega) (by decide)]
  have : x.toNat ||| (0 : Int).toNat = x.toNat := Nat.or_zero _
  rw [this]; omega
theorem apF_false {L : Int → Int} {set : Int} : ∀ n : Nat, (∃ i : Int, 0 ≤ i ∧ i < n ∧ tb set i = true ∧ L i = 0) → (apF L set n).1 = false
  | 0, h => by obtain ⟨i, h0, h1, _⟩ := h; exact absurd h1 (by omega)
  | n + 1, h => by
    obtain ⟨i, h0, h1, h2, h3⟩ := h
    unfold apF
    by_cases hi : i < n
    · have := apF_false n ⟨i, h0, hi, h2, h3⟩
      split
      · show ((apF L set n).1 && _ && _) = false
        rw [this]; rfl
      · exact this
    · have e : i = n := by omega
      subst e
      rw [if_pos h2]
      show ((apF L set n).1 && _ && _) = false
      simp [h3]
theorem apF_low {L M : Int → Int} {set : Int} : ∀ n : Nat, (∀ i : Int, 0 ≤ i → i < n → L i = M i) → apF L set n = apF M set n
  | 0, _ => rfl
  | n + 1, h => by
    unfold apF
    rw [apF_low n (fun i i0 i1 => h i i0 (by omega)), h n (by omega) (by omega)]
theorem sub_le {s h : Int} (hs : 0 ≤ s ∧ s < 64) (hh : 0 ≤ h ∧ h < 64) (k : ∀ i, 0 ≤ i → i < 6 → tb s i = true → tb h i = true) : s ≤ h := by
  have : s.toNat &&& h.toNat = s.toNat := by
    apply Nat.eq_of_testBit_eq
    intro i
    rw [Nat.testBit_and]
    by_cases hi : i < 6
    · have := k i (by omega) (by omega)
      unfold tb at this
      simp only [Int.toNat_natCast] at this
      cases ht : s.toNat.testBit i with
      | false => rfl
      | true => rw [this ht]; rfl
    · rw [Nat.testBit_lt_two_pow (Nat.lt_of_lt_of_le (show s.toNat < 2 ^ 6 by omega) (Nat.pow_le_pow_right (by decide) (by omega)))]
      rfl
  have := Nat.and_le_right (n := s.toNat) (m := h.toNat)
  omega
theorem two_pow_P {P : Int} (hP : 1 ≤ P ∧ P ≤ 6) : 2 ≤ (2 : Int) ^ P.toNat ∧ (2 : Int) ^ P.toNat ≤ 64 := by
  have : P = 1 ∨ P = 2 ∨ P = 3 ∨ P = 4 ∨ P = 5 ∨ P = 6 := by omega
  rcases this with rfl | rfl | rfl | rfl | rfl | rfl <;> decide
theorem tb_high {m P k : Int} (hm : 0 ≤ m ∧ m < 2 ^ P.toNat) (hk : 0 ≤ k ∧ P ≤ k) (hP : 0 ≤ P) : tb m k = false := by
  unfold tb
  refine Nat.testBit_lt_two_pow (Nat.lt_of_lt_of_le (m := 2 ^ P.toNat) ?_ (Nat.pow_le_pow_right (by decide) (by omega)))
  have : m.toNat < ((2 : Int) ^ P.toNat).toNat := by omega
  rw [pow2_nat] at this
  exact this
theorem zLeft_r {S : RS} (hS : OKS S) (i : Int) (hi : 0 ≤ i ∧ i < 6) : 0 ≤ zLeft S i ∧ zLeft S i < 2 ^ (S 88 10).toNat ∧ (zLeft S i = 0 ↔ S 97 i = 0) := by
  have h4 := hS.2.2.2.1 i hi.1 hi.2
  have hP := two_pow_P (P := S 88 10) ⟨hS.1.1, hS.1.2.1⟩
  unfold zLeft
  split
  · rename_i e; exact ⟨by decide, by omega, ⟨fun _ => e, fun _ => rfl⟩⟩
  · rename_i e
    have b := h4.2.2 0 (by omega) (by omega)
    rw [Int.add_zero] at b
    exact ⟨by omega, by omega, ⟨fun z => by omega, fun z => absurd z e⟩⟩
theorem zLeft_64 {S : RS} (hS : OKS S) (i : Int) (hi : 0 ≤ i ∧ i < 6) : 0 ≤ zLeft S i ∧ zLeft S i < 64 := by
  have a := zLeft_r hS i hi
  have hP := two_pow_P (P := S 88 10) ⟨hS.1.1, hS.1.2.1⟩
  omega
def zServed (S : RS) : Int := svF (zLeft S) (S 88 10) ((2 : Int) ^ (S 88 10).toNat - 1).toNat
section NC
variable {l : Launch} {G : gG}
theorem c_leftOf (i : Int) (hi : 0 ≤ i ∧ i < 6) (σ : gS) (hS : OKS (pS σ)) (hk : pS σ 88 25 ≤ 400) (Q : Int → gS → Prop) (h : Q (zLeft (pS σ) i) σ) : eX12_leftOf l G i σ Q := by
  have h4 := hS.2.2.2.1 i hi.1 hi.2
  have e97 : gI σ 97 i = pS σ 97 i := pS_at (by unfold okC; omega)
  have e96 : gI σ 96 (9 * i) = pS σ 96 (9 * i) := pS_at (by unfold okC; omega)
  refine vX12_leftOf i ⟨by omega, by omega⟩ σ Q ⟨hi, ⟨fun e => ?_, fun _ => True.intro⟩, fun v hv => ?_⟩
  · rw [e97] at e
    have b := h4.2.2 0 (by omega) (by omega)
    rw [Int.add_zero] at b
    rw [e96]
    exact ⟨by omega, by omega, True.intro⟩
  · rw [e97, e96] at hv
    have : v = zLeft (pS σ) i := by
      rw [hv]
      unfold zLeft
      split
      · rfl
      · rename_i e
        have b := h4.2.2 0 (by omega) (by omega)
        rw [Int.add_zero] at b
        exact pS_at (by unfold okC; omega)
    rw [this]; exact h
theorem c_servedSet (σ : gS) (hS : OKS (pS σ)) (hk : pS σ 88 25 ≤ 400) (Q : Int → gS → Prop) (h : Q (zServed (pS σ)) σ) : eX12_servedSet l G σ Q := by
  have hP := hS.1
  have hpw := two_pow_P (P := pS σ 88 10) ⟨hP.1, hP.2.1⟩
  have e10 : gI σ 88 10 = pS σ 88 10 := pS_at (by unfold okC; omega)
  have hsh : gshl 1 (pS σ 88 10) = 2 ^ (pS σ 88 10).toNat := gshl_1 _ (by omega)
  have hL : ∀ i, 0 ≤ i → i < 6 → 0 ≤ zLeft (pS σ) i ∧ zLeft (pS σ) i < 64 := fun i i0 i1 => zLeft_64 hS i ⟨i0, i1⟩
  unfold zServed at h
  generalize hPe : pS σ 88 10 = P at *
  generalize hN : (2 : Int) ^ P.toNat = N at *
  refine vX12_servedSet σ Q ?_
  refine gloopI (α := Int) 1 N (fun set best => set ≤ N ∧ best = svF (zLeft (pS σ)) P (set - 1).toNat) (fun set best => kX12_servedSet_4 l G best set σ Q) ?_ ?_ 1 0 (by omega) ⟨by omega, rfl⟩
  · rintro set best s0 s1 ⟨z0, z1⟩ ih
    have hb := svF_r (zLeft (pS σ)) P (set - 1).toNat
    have rb : gR best := ⟨by omega, by omega⟩
    have rs : gR set := ⟨by omega, by omega⟩
    refine vX12_servedSet_4 best set rb rs σ Q ?_
    rw [e10, hsh]
    refine ⟨fun e => by omega, fun _ => ?_⟩
    have nx : svF (zLeft (pS σ)) P (set + 1 - 1).toNat = if (apF (zLeft (pS σ)) set P.toNat).1 = true ∧ bcS best < bcS set then set else best := by
      rw [show (set + 1 - 1).toNat = (set - 1).toNat + 1 by omega]
      show (if (apF _ ((((set - 1).toNat : Nat) : Int) + 1) P.toNat).1 = true ∧ bcS (svF _ P (set - 1).toNat) < bcS ((((set - 1).toNat : Nat) : Int) + 1) then (((set - 1).toNat : Nat) : Int) + 1 else svF _ P (set - 1).toNat) = _
      rw [show (((set - 1).toNat : Nat) : Int) + 1 = set by omega, ← z1]
    refine gloopI (α := Int × Int) 0 P (fun i q => i ≤ P ∧ q.1 = (apF (zLeft (pS σ)) set i.toNat).2 ∧ ((q.2 = 1 ∧ (apF (zLeft (pS σ)) set i.toNat).1 = true) ∨ (q.2 = 0 ∧ (apF (zLeft (pS σ)) set i.toNat).1 = false))) (fun i q => kX12_servedSet_22 l G best set q.1 q.2 i σ Q) ?_ ?_ 0 (0, 1) (by omega) ⟨by omega, rfl, Or.inl ⟨rfl, rfl⟩⟩
    · rintro i ⟨u, ok⟩ i0 i1 ⟨y0, y1, y2⟩ ih2
      dsimp only at y1 y2 ih2 ⊢
      have hu := apF_r (zLeft (pS σ)) set hL i.toNat (by omega)
      have hLi := hL i (by omega) (by omega)
      have rok : gR ok := by rcases y2 with ⟨e, _⟩ | ⟨e, _⟩ <;> (rw [e]; decide)
      have stp : apF (zLeft (pS σ)) set (i + 1).toNat = if tb set i = true then ((apF (zLeft (pS σ)) set i.toNat).1 && decide (zLeft (pS σ) i ≠ 0) && decide (gand (apF (zLeft (pS σ)) set i.toNat).2 (zLeft (pS σ) i) = 0), gor (apF (zLeft (pS σ)) set i.toNat).2 (zLeft (pS σ) i)) else apF (zLeft (pS σ)) set i.toNat := by
        rw [show (i + 1).toNat = i.toNat + 1 by omega]
        show (if tb set ((i.toNat : Nat) : Int) = true then _ else _) = _
        rw [show ((i.toNat : Nat) : Int) = i by omega]
      refine vX12_servedSet_22 best set u ok i rb rs ⟨by omega, by omega⟩ rok ⟨by omega, by omega⟩ σ Q ?_
      rw [e10, tb_eq set i (by omega) (by omega)]
      refine ⟨fun e => by omega, fun _ => ?_⟩
      by_cases ht : tb set i = true
      · rw [if_pos ht]
        rw [if_pos ht] at stp
        refine ⟨fun _ => ⟨fun e => ?_, fun e => ?_⟩, fun e => absurd e (by decide)⟩
        · have hf : (apF (zLeft (pS σ)) set i.toNat).1 = false := by
            rcases y2 with ⟨w, _⟩ | ⟨_, w⟩
            · omega
            · exact w
          refine c_leftOf i (by omega) σ hS hk _ (fun _ => ih2 (gor u (zLeft (pS σ) i), 0) ⟨by omega, ?_, Or.inr ⟨rfl, ?_⟩⟩)
          · rw [stp]; show gor u _ = gor _ _; rw [y1]
          · rw [stp]; show ((apF _ set i.toNat).1 && _ && _) = false; rw [hf]; rfl
        · have hf : (apF (zLeft (pS σ)) set i.toNat).1 = true := by
            rcases y2 with ⟨_, w⟩ | ⟨w, _⟩
            · exact w
            · exact absurd w e
          refine c_leftOf i (by omega) σ hS hk _ (fun _ => ⟨fun e0 => ?_, fun e0 => ?_⟩)
          · refine c_leftOf i (by omega) σ hS hk _ (fun _ => ih2 (gor u (zLeft (pS σ) i), 0) ⟨by omega, ?_, Or.inr ⟨rfl, ?_⟩⟩)
            · rw [stp]; show gor u _ = gor _ _; rw [y1]
            · rw [stp]; show ((apF _ set i.toNat).1 && _ && _) = false; simp [e0]
          · refine c_leftOf i (by omega) σ hS hk _ (fun _ w hw => ?_)
            refine c_leftOf i (by omega) σ hS hk _ (fun _ => ih2 (gor u (zLeft (pS σ) i), w) ⟨by omega, ?_, ?_⟩)
            · rw [stp]; show gor u _ = gor _ _; rw [y1]
            · rw [stp]
              show (w = 1 ∧ ((apF _ set i.toNat).1 && _ && _) = true) ∨ (w = 0 ∧ ((apF _ set i.toNat).1 && _ && _) = false)
              rw [hf, ← y1]
              by_cases hg : gand u (zLeft (pS σ) i) = 0
              · rw [if_pos hg] at hw
                exact Or.inl ⟨hw, by simp [e0, hg]⟩
              · rw [if_neg hg] at hw
                exact Or.inr ⟨hw, by simp [hg]⟩
      · rw [if_neg ht]
        rw [if_neg ht] at stp
        exact ⟨fun e => absurd rfl e, fun _ => ih2 (u, ok) ⟨by omega, by rw [stp]; exact y1, by rw [stp]; exact y2⟩⟩
    · rintro i ⟨u, ok⟩ i0 ⟨y0, y1, y2⟩
      dsimp only at y1 y2 ⊢
      have hi : i = P := by omega
      subst hi
      have hu := apF_r (zLeft (pS σ)) set hL i.toNat (by omega)
      have rok : gR ok := by rcases y2 with ⟨e, _⟩ | ⟨e, _⟩ <;> (rw [e]; decide)
      refine vX12_servedSet_22 best set u ok i rb rs ⟨by omega, by omega⟩ rok ⟨by omega, by omega⟩ σ Q ?_
      rw [e10]
      refine ⟨fun _ => ⟨fun e => ih best ⟨by omega, ?_⟩, fun e => ?_⟩, fun e => by omega⟩
      · rw [nx, if_neg]
        rintro ⟨w, _⟩
        rcases y2 with ⟨w2, _⟩ | ⟨_, w2⟩
        · omega
        · rw [w2] at w; cases w
      · have hf : (apF (zLeft (pS σ)) set i.toNat).1 = true := by
          rcases y2 with ⟨_, w⟩ | ⟨w, _⟩
          · exact w
          · exact absurd w e
        refine c_bitsOf set (by omega) σ _ (fun _ => c_bitsOf best (by omega) σ _ (fun _ => ⟨fun e1 => ih best ⟨by omega, ?_⟩, fun e1 => ih set ⟨by omega, ?_⟩⟩))
        · rw [nx, if_neg (fun w => by omega)]
        · rw [nx, if_pos ⟨hf, e1⟩]
  · rintro set best s0 ⟨z0, z1⟩
    have hs : set = N := by omega
    subst hs
    have hb := svF_r (zLeft (pS σ)) P (set - 1).toNat
    refine vX12_servedSet_4 best set ⟨by omega, by omega⟩ ⟨by omega, by omega⟩ σ Q ?_
    rw [e10, hsh]
    exact ⟨fun _ => by rw [z1]; exact h, fun e => by omega⟩
/-- the same set, by the class -/
theorem c_mostApart (heads : Int) (σ : gS) (S : RS) (p3 : gI σ 32 3 = S 88 10) (h57 : ∀ i, 0 ≤ i → i < 6 → gI σ 57 i = zLeft S i) (hS : OKS S) (hh : isM heads (fun i => decide (i < S 88 10) && decide (0 < S 97 i))) (Q : Int → gS → Prop) (h : Q (zServed S) σ) : eX8_mostApart l G heads σ Q := by
  have hP := hS.1
  have hpw := two_pow_P (P := S 88 10) ⟨hP.1, hP.2.1⟩
  have hL : ∀ i, 0 ≤ i → i < 6 → 0 ≤ zLeft S i ∧ zLeft S i < 64 := fun i i0 i1 => zLeft_64 hS i ⟨i0, i1⟩
  have hz : ∀ i, 0 ≤ i → i < 6 → (zLeft S i = 0 ↔ S 97 i = 0) := fun i i0 i1 => (zLeft_r hS i ⟨i0, i1⟩).2.2
  have h97 : ∀ i, 0 ≤ i → i < 6 → 0 ≤ S 97 i := fun i i0 i1 => (hS.2.2.2.1 i i0 i1).1
  obtain ⟨hh0, hh1, hh2⟩ := hh
  have rh : gR heads := ⟨by omega, by omega⟩
  -- a set that isn't among the heads
  have notin : ∀ set, 0 ≤ set → set < 2 ^ (S 88 10).toNat → (∃ i, 0 ≤ i ∧ i < 6 ∧ tb set i = true ∧ tb heads i = false) → (apF (zLeft S) set (S 88 10).toNat).1 = false := by
    rintro set s0 s1 ⟨i, i0, i1, i2, i3⟩
    have hiP : i < S 88 10 := by
      rcases Int.lt_or_le i (S 88 10) with z | z
      · exact z
      · rw [tb_high (P := S 88 10) ⟨s0, s1⟩ ⟨i0, z⟩ (by omega)] at i2; cases i2
    refine apF_false _ ⟨i, i0, by omega, i2, ?_⟩
    rw [hz i i0 i1]
    rw [hh2 i i0 i1] at i3
    have hn := h97 i i0 i1
    have : ¬ 0 < S 97 i := by simpa [hiP] using i3
    omega
  have heads_lt : heads < 2 ^ (S 88 10).toNat := by
    have hm := isM_full (S 88 10) ⟨hP.1, hP.2.1⟩
    have hle := sub_le (s := heads) (h := gshl 1 (S 88 10) - 1) ⟨hh0, hh1⟩ ⟨hm.1, hm.2.1⟩ (fun i i0 i1 hi => by
      rw [hh2 i i0 i1] at hi
      rw [hm.2.2 i i0 i1]
      simp only [Bool.and_eq_true] at hi
      exact hi.1)
    rw [gshl_1 _ (by omega)] at hle
    omega
  have gsub : ∀ set, 0 ≤ set ∧ set < 64 → isM (gand set (gxor heads (-1))) (fun k => tb set k && !tb heads k) := by
    intro set hs
    have r := gand_r set (gxor heads (-1)) hs
    exact ⟨r.1, r.2, fun k k0 k1 => tb_clear set heads k (by omega) (by omega) (by omega)⟩
  have above : ∀ set, heads < set → set < 2 ^ (S 88 10).toNat → (apF (zLeft S) set (S 88 10).toNat).1 = false := by
    intro set s0 s1
    apply notin set (by omega) s1
    apply Classical.byContradiction
    intro hn
    have := sub_le (s := set) (h := heads) ⟨by omega, by omega⟩ ⟨hh0, hh1⟩ (fun i i0 i1 hi => by
      cases ht : tb heads i with
      | true => rfl
      | false => exact absurd ⟨i, i0, i1, hi, ht⟩ hn)
    omega
  have tail : ∀ k : Nat, heads + k ≤ 2 ^ (S 88 10).toNat - 1 → svF (zLeft S) (S 88 10) (heads.toNat + k) = svF (zLeft S) (S 88 10) heads.toNat := by
    intro k
    induction k with
    | zero => intro _; rfl
    | succ k ih =>
      intro hk
      show (if (apF _ (((heads.toNat + k : Nat) : Int) + 1) _).1 = true ∧ _ then _ else svF _ _ (heads.toNat + k)) = _
      rw [if_neg, ih (by omega)]
      rintro ⟨w, _⟩
      rw [above _ (by omega) (by omega)] at w
      cases w
  have hfin : svF (zLeft S) (S 88 10) heads.toNat = zServed S := by
    unfold zServed
    have := tail ((2 : Int) ^ (S 88 10).toNat - 1 - heads).toNat (by omega)
    rw [show heads.toNat + ((2 : Int) ^ (S 88 10).toNat - 1 - heads).toNat = ((2 : Int) ^ (S 88 10).toNat - 1).toNat by omega] at this
    exact this.symm
  refine vX8_mostApart heads rh σ Q ?_
  refine gloopI (α := Int) 1 (heads + 1) (fun set best => set ≤ heads + 1 ∧ best = svF (zLeft S) (S 88 10) (set - 1).toNat) (fun set best => kX8_mostApart_4 l G heads best set σ Q) ?_ ?_ 1 0 (by omega) ⟨by omega, rfl⟩
  · rintro set best s0 s1 ⟨z0, z1⟩ ih
    have hb := svF_r (zLeft S) (S 88 10) (set - 1).toNat
    have nx : svF (zLeft S) (S 88 10) (set + 1 - 1).toNat = if (apF (zLeft S) set (S 88 10).toNat).1 = true ∧ bcS best < bcS set then set else best := by
      rw [show (set + 1 - 1).toNat = (set - 1).toNat + 1 by omega]
      show (if (apF _ ((((set - 1).toNat : Nat) : Int) + 1) _).1 = true ∧ bcS (svF _ _ (set - 1).toNat) < bcS ((((set - 1).toNat : Nat) : Int) + 1) then (((set - 1).toNat : Nat) : Int) + 1 else svF _ _ (set - 1).toNat) = _
      rw [show (((set - 1).toNat : Nat) : Int) + 1 = set by omega, ← z1]
    have hM := gsub set (by omega)
    refine vX8_mostApart_4 heads best set rh ⟨by omega, by omega⟩ ⟨by omega, by omega⟩ σ Q ⟨fun e => by omega, fun _ => ⟨fun e => ih best ⟨by omega, ?_⟩, fun e => ?_⟩⟩
    · rw [nx, if_neg]
      rintro ⟨w, _⟩
      have hex : ∃ i, 0 ≤ i ∧ i < 6 ∧ tb set i = true ∧ tb heads i = false := by
        apply Classical.byContradiction
        intro hn
        apply e
        refine (isM_zero hM).mpr (fun k k0 k1 => ?_)
        cases ha : tb set k with
        | false => rfl
        | true =>
          cases hb9 : tb heads k with
          | true => rfl
          | false => exact absurd ⟨k, k0, k1, ha, hb9⟩ hn
      rw [notin set (by omega) (by omega) hex] at w
      cases w
    · have hsub : ∀ i, 0 ≤ i → i < 6 → tb set i = true → zLeft S i ≠ 0 := by
        intro i i0 i1 hi
        have := (isM_zero hM).mp e i i0 i1
        rw [hi] at this
        have ht : tb heads i = true := by simpa using this
        rw [hh2 i i0 i1] at ht
        simp only [Bool.and_eq_true, decide_eq_true_eq] at ht
        intro z
        rw [hz i i0 i1] at z
        omega
      refine c_bitCount set (by omega) σ _ (fun _ => c_bitCount best (by omega) σ _ (fun _ => ⟨fun e1 => ih best ⟨by omega, by rw [nx, if_neg (fun w => by omega)]⟩, fun e1 => ?_⟩))
      refine vX8_areApart set ⟨by omega, by omega⟩ σ _ ?_
      have yes : (apF (zLeft S) set (S 88 10).toNat).1 = true → kX8_mostApart_4 l G heads set (set + 1) σ Q := fun w => ih set ⟨by omega, by rw [nx, if_pos ⟨w, e1⟩]⟩
      have no : (apF (zLeft S) set (S 88 10).toNat).1 = false → kX8_mostApart_4 l G heads best (set + 1) σ Q := fun w => ih best ⟨by omega, by rw [nx, if_neg (fun q => by rw [w] at q; cases q.1)]⟩
      refine gloopI (α := Int) 0 (S 88 10) (fun i u => i ≤ S 88 10 ∧ u = (apF (zLeft S) set i.toNat).2 ∧ (apF (zLeft S) set i.toNat).1 = true) (fun i u => kX8_areApart_4 l G set u i σ _) ?_ ?_ 0 0 (by omega) ⟨by omega, rfl, rfl⟩
      · rintro i u i0 i1 ⟨y0, y1, y2⟩ ih2
        have hu := apF_r (zLeft S) set hL i.toNat (by omega)
        have hLi := hL i (by omega) (by omega)
        have stp : apF (zLeft S) set (i + 1).toNat = if tb set i = true then ((apF (zLeft S) set i.toNat).1 && decide (zLeft S i ≠ 0) && decide (gand (apF (zLeft S) set i.toNat).2 (zLeft S i) = 0), gor (apF (zLeft S) set i.toNat).2 (zLeft S i)) else apF (zLeft S) set i.toNat := by
          rw [show (i + 1).toNat = i.toNat + 1 by omega]
          show (if tb set ((i.toNat : Nat) : Int) = true then _ else _) = _
          rw [show ((i.toNat : Nat) : Int) = i by omega]
        refine vX8_areApart_4 set u i ⟨by omega, by omega⟩ ⟨by omega, by omega⟩ ⟨by omega, by omega⟩ σ _ ?_
        rw [p3, tb_eq set i (by omega) (by omega), h57 i (by omega) (by omega)]
        refine ⟨fun e => by omega, fun _ => ⟨⟨fun _ => True.intro, fun _ => ⟨by omega, True.intro⟩⟩, fun v hv => ?_⟩⟩
        by_cases ht : tb set i = true
        · rw [if_pos ht, if_neg (by decide)] at hv
          rw [if_pos ht] at stp
          have hl := hsub i (by omega) (by omega) ht
          rw [hv]
          refine ⟨fun e0 => ih2 _ ⟨by omega, ?_, ?_⟩, fun e0 _ => ⟨fun _ => no ?_, fun e9 => absurd rfl e9⟩⟩
          · rw [stp, y1]
          · rw [stp]
            show ((apF _ set i.toNat).1 && _ && _) = true
            rw [y2, ← y1]; simp [hl, e0]
          · -- apart fails here, and so later
            have here : (apF (zLeft S) set (i + 1).toNat).1 = false := by
              rw [stp]
              show ((apF _ set i.toNat).1 && _ && _) = false
              rw [← y1]; simp [e0]
            have later : ∀ k : Nat, (apF (zLeft S) set ((i + 1).toNat + k)).1 = false := by
              intro k
              induction k with
              | zero => exact here
              | succ k ihk =>
                show (apF (zLeft S) set (((i + 1).toNat + k) + 1)).1 = false
                unfold apF
                split
                · show ((apF _ set ((i + 1).toNat + k)).1 && _ && _) = false
                  rw [ihk]; rfl
                · exact ihk
            have := later ((S 88 10).toNat - (i + 1).toNat)
            rw [show (i + 1).toNat + ((S 88 10).toNat - (i + 1).toNat) = (S 88 10).toNat by omega] at this
            exact this
        · rw [if_neg ht, if_pos rfl] at hv
          rw [if_neg ht] at stp
          rw [hv, gand_0, gor_0 u (by omega)]
          exact ⟨fun _ => ih2 u ⟨by omega, by rw [stp]; exact y1, by rw [stp]; exact y2⟩, fun e0 => absurd rfl e0⟩
      · rintro i u i0 ⟨y0, y1, y2⟩
        have hi : i = S 88 10 := by omega
        subst hi
        have hu := apF_r (zLeft S) set hL (S 88 10).toNat (by omega)
        refine vX8_areApart_4 set u (S 88 10) ⟨by omega, by omega⟩ ⟨by omega, by omega⟩ ⟨by omega, by omega⟩ σ _ ?_
        rw [p3]
        exact ⟨fun _ _ => ⟨fun e9 => absurd e9 (by decide), fun _ => yes y2⟩, fun e => by omega⟩
  · rintro set best s0 ⟨z0, z1⟩
    have hs : set = heads + 1 := by omega
    subst hs
    have hb := svF_r (zLeft S) (S 88 10) (heads + 1 - 1).toNat
    refine vX8_mostApart_4 heads best (heads + 1) rh ⟨by omega, by omega⟩ ⟨by omega, by omega⟩ σ Q ⟨fun _ => ?_, fun e => by omega⟩
    rw [z1, show (heads + 1 - 1).toNat = heads.toNat by omega, hfin]
    exact h
end NC
