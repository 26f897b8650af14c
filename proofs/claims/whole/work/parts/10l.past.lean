/-- a row of matches in one number -/
def pk (m : Int → Int) : Nat → Int
  | 0 => 0
  | n + 1 => pk m n + (m n + 1) * 8 ^ n
theorem pk_r {m : Int → Int} (hm : ∀ o, 0 ≤ o → o < 6 → -1 ≤ m o ∧ m o ≤ 6) : ∀ n : Nat, n ≤ 6 → 0 ≤ pk m n ∧ pk m n < 8 ^ n
  | 0, _ => by unfold pk; decide
  | n + 1, hn => by
    have ih := pk_r hm n (by omega)
    have h := hm n (by omega) (by omega)
    have e : (8 : Int) ^ (n + 1) = 8 * 8 ^ n := by rw [Int.pow_succ]; omega
    unfold pk
    rw [e]
    have p0 : (0 : Int) < 8 ^ n := Int.pow_pos (by decide)
    generalize (8 : Int) ^ n = p at *
    have h1 : (m n + 1) * p ≤ 7 * p := Int.mul_le_mul_of_nonneg_right (by omega) (by omega)
    have h2 : 0 ≤ (m n + 1) * p := Int.mul_nonneg (by omega) (by omega)
    omega
theorem pk_digit {m : Int → Int} (hm : ∀ o, 0 ≤ o → o < 6 → -1 ≤ m o ∧ m o ≤ 6) (o : Int) (ho : 0 ≤ o ∧ o < 6) : pk m 6 / 8 ^ o.toNat % 8 = m o + 1 := by
  have e : pk m 6 = (m 0 + 1) + (m 1 + 1) * 8 + (m 2 + 1) * 64 + (m 3 + 1) * 512 + (m 4 + 1) * 4096 + (m 5 + 1) * 32768 := by
    show 0 + (m 0 + 1) * 1 + (m 1 + 1) * 8 + (m 2 + 1) * 64 + (m 3 + 1) * 512 + (m 4 + 1) * 4096 + (m 5 + 1) * 32768 = _
    omega
  have h0 := hm 0 (by omega) (by omega)
  have h1 := hm 1 (by omega) (by omega)
  have h2 := hm 2 (by omega) (by omega)
  have h3 := hm 3 (by omega) (by omega)
  have h4 := hm 4 (by omega) (by omega)
  have h5 := hm 5 (by omega) (by omega)
  rw [e]
  have hc : o = 0 ∨ o = 1 ∨ o = 2 ∨ o = 3 ∨ o = 4 ∨ o = 5 := by omega
  rcases hc with z | z | z | z | z | z <;> subst z
  · show _ / (1 : Int) % 8 = _; omega
  · show _ / (8 : Int) % 8 = _; omega
  · show _ / (64 : Int) % 8 = _; omega
  · show _ / (512 : Int) % 8 = _; omega
  · show _ / (4096 : Int) % 8 = _; omega
  · show _ / (32768 : Int) % 8 = _; omega
theorem pow8 (n : Nat) : (2 : Nat) ^ (3 * n) = 8 ^ n := by rw [Nat.pow_mul]
theorem gor_pk (x d : Int) (n : Nat) (hn : n ≤ 5) (hx : 0 ≤ x ∧ x < 8 ^ n) (hd : 0 ≤ d ∧ d ≤ 7) : gor x (gshl d (3 * (n : Int))) = x + d * 8 ^ n := by
  have hc : n = 0 ∨ n = 1 ∨ n = 2 ∨ n = 3 ∨ n = 4 ∨ n = 5 := by omega
  have p8 : (8 : Int) ^ n ≤ 32768 := by rcases hc with z | z | z | z | z | z <;> subst z <;> decide
  have p1 : (1 : Int) ≤ 8 ^ n := by rcases hc with z | z | z | z | z | z <;> subst z <;> decide
  have e2 : (2 : Int) ^ (3 * (n : Int)).toNat = 8 ^ n := by
    rcases hc with z | z | z | z | z | z <;> subst z <;> decide
  have en : ((8 ^ n : Nat) : Int) = (8 : Int) ^ n := by rw [Int.natCast_pow]; rfl
  have h1 : d * 8 ^ n ≤ 7 * 8 ^ n := Int.mul_le_mul_of_nonneg_right hd.2 (by omega)
  have h0 : 0 ≤ d * 8 ^ n := Int.mul_nonneg hd.1 (by omega)
  rw [gshl_eq d _ (by omega) hd.1 (by rw [e2]; omega), e2, gor_nat _ _ (by omega) (by omega)]
  have e3 : (d * 8 ^ n).toNat = 2 ^ (3 * n) * d.toNat := by
    rw [pow8]
    have : ((8 ^ n * d.toNat : Nat) : Int) = d * 8 ^ n := by
      rw [Int.natCast_mul, en, show ((d.toNat : Nat) : Int) = d by omega, Int.mul_comm]
    omega
  rw [e3, Nat.or_comm, ← Nat.two_pow_add_eq_or_of_lt (by rw [pow8]; omega), ← e3]
  omega
/-- what a slot writes down -/
theorem zG_109 (mt tk : Int → Int) (P sl : Int) (S : RS) : ∀ (n : Nat) (k : Int), (zG mt tk P sl n S 109 k = if 6 * sl ≤ k ∧ k < 6 * sl + n then (if P ≤ k - 6 * sl then -1 else mt (k - 6 * sl)) else S 109 k) ∧ (zG mt tk P sl n S 110 k = if 6 * sl ≤ k ∧ k < 6 * sl + n then (if P ≤ k - 6 * sl then -1 else tk (k - 6 * sl)) else S 110 k)
  | 0, k => by rw [if_neg (by omega), if_neg (by omega)]; exact ⟨rfl, rfl⟩
  | n + 1, k => by
    obtain ⟨a, b⟩ := zG_109 mt tk P sl S n k
    have key : ∀ T : RS, T = uS (uS (zG mt tk P sl n S) 109 (6 * sl + n) (if P ≤ n then -1 else mt n)) 110 (6 * sl + n) (if P ≤ n then -1 else tk n) → (T 109 k = if 6 * sl ≤ k ∧ k < 6 * sl + ((n + 1 : Nat) : Int) then (if P ≤ k - 6 * sl then -1 else mt (k - 6 * sl)) else S 109 k) ∧ (T 110 k = if 6 * sl ≤ k ∧ k < 6 * sl + ((n + 1 : Nat) : Int) then (if P ≤ k - 6 * sl then -1 else tk (k - 6 * sl)) else S 110 k) := by
      intro T hT
      rw [hT]
      by_cases q : k = 6 * sl + n
      · have hA : 6 * sl ≤ k ∧ k < 6 * sl + ((n + 1 : Nat) : Int) := by omega
        have hk : k - 6 * sl = n := by omega
        rw [if_pos hA, if_pos hA, hk]
        refine ⟨?_, ?_⟩
        · rw [uS_ne (by omega), uS_at, if_pos ⟨rfl, q⟩]
        · rw [uS_at, if_pos ⟨rfl, q⟩]
      · have hA : (6 * sl ≤ k ∧ k < 6 * sl + ((n + 1 : Nat) : Int)) ↔ (6 * sl ≤ k ∧ k < 6 * sl + (n : Int)) := by omega
        refine ⟨?_, ?_⟩
        · rw [uS_ne (by omega), uS_nei q, a]
          by_cases z : 6 * sl ≤ k ∧ k < 6 * sl + (n : Int)
          · rw [if_pos z, if_pos (hA.mpr z)]
          · rw [if_neg z, if_neg (fun y => z (hA.mp y))]
        · rw [uS_nei q, uS_ne (by omega), b]
          by_cases z : 6 * sl ≤ k ∧ k < 6 * sl + (n : Int)
          · rw [if_pos z, if_pos (hA.mpr z)]
          · rw [if_neg z, if_neg (fun y => z (hA.mp y))]
    unfold zG
    split
    · rw [zSd_o _ _ _ _ (by omega), zSd_o _ _ _ _ (by omega)]; exact key _ rfl
    · exact key _ rfl
theorem zM_o (S : RS) (hS : OKS S) (c : Nat) (k : Int) (h : c ≠ 92 ∧ c ≠ 93 ∧ c ≠ 88 ∧ c ≠ 96 ∧ c ≠ 97 ∧ c ≠ 104 ∧ c ≠ 106 ∧ c ≠ 107) : zM S c k = S c k := by
  unfold zM
  rw [if_neg h.1, if_neg h.2.1, (zSendF_o S hS).2 c k h.2.2.1 h.2.2.2.1 h.2.2.2.2.1 h.2.2.2.2.2.1 h.2.2.2.2.2.2.1 h.2.2.2.2.2.2.2]
theorem zM_88 (S : RS) (hS : OKS S) (k : Int) (h : k ≠ 28) : zM S 88 k = S 88 k := by
  unfold zM
  rw [if_neg (by omega), if_neg (by omega), (zSendF_o S hS).1 k h]
theorem zSlot_h {S : RS} (hS : OKS S) (k : Int) : (zSlot S 109 k = if 6 * S 88 24 ≤ k ∧ k < 6 * S 88 24 + 6 then (zX S).2.2.2.2 (k - 6 * S 88 24) else S 109 k) ∧ (zSlot S 110 k = if 6 * S 88 24 ≤ k ∧ k < 6 * S 88 24 + 6 then zTk S (k - 6 * S 88 24) else S 110 k) := by
  obtain ⟨a, b⟩ := zG_109 (zX S).2.2.2.2 (zTk S) (S 88 10) (S 88 24) (zM S) 6 k
  unfold zSlot
  rw [uS_ne (by omega), uS_ne (by omega), zClr_o _ _ _ _ (by omega), zClr_o _ _ _ _ (by omega), a, b, zM_o S hS 109 k (by omega), zM_o S hS 110 k (by omega)]
  by_cases z : 6 * S 88 24 ≤ k ∧ k < 6 * S 88 24 + ((6 : Nat) : Int)
  · have z' : 6 * S 88 24 ≤ k ∧ k < 6 * S 88 24 + 6 := z
    rw [if_pos z, if_pos z, if_pos z', if_pos z']
    by_cases q : S 88 10 ≤ k - 6 * S 88 24
    · rw [if_pos q, if_pos q]
      refine ⟨?_, ?_⟩
      · rcases zX_m hS (k - 6 * S 88 24) with e | e
        · exact e.symm
        · omega
      · rcases zTk_r S hS.1.1 (k - 6 * S 88 24) with e | e
        · exact e.symm
        · omega
    · rw [if_neg q, if_neg q]; exact ⟨rfl, rfl⟩
  · have z' : ¬ (6 * S 88 24 ≤ k ∧ k < 6 * S 88 24 + 6) := z
    rw [if_neg z, if_neg z, if_neg z', if_neg z']; exact ⟨rfl, rfl⟩
theorem CRb.move {σ τ : gS} {S T : RS} (h : CRb σ S) (hc : ∀ c k, (c = 32 ∧ k ≠ 6) ∨ c = 33 ∨ (34 ≤ c ∧ c ≤ 40) ∨ (c = 45 ∧ k = 0) ∨ c = 48 ∨ c = 51 ∨ (53 ≤ c ∧ c ≤ 57) → gI τ c k = gI σ c k) (h1 : ∀ k, k ≠ 24 → T 88 k = S 88 k) (h2 : ∀ c k, c ≠ 88 → c ≠ 92 → c ≠ 93 → c ≠ 99 → c ≠ 109 → c ≠ 110 → T c k = S c k) (h24 : gI τ 41 0 = T 88 24) (hp : ∀ o, 0 ≤ o → o < 6 → gI τ 46 o = T 92 o ∧ gI τ 47 o = T 93 o) : CRb τ T := by
  obtain ⟨p1, ⟨s1, s2, s3, s4, s5, s6⟩, d3, d4, d5, d6, d7⟩ := h
  have f : ∀ c, c ≠ 88 → c ≠ 92 → c ≠ 93 → c ≠ 99 → c ≠ 109 → c ≠ 110 → T c = S c := fun c a1 a2 a3 a4 a5 a6 => funext (fun k => h2 c k a1 a2 a3 a4 a5 a6)
  have zl : ∀ k, zLeft T k = zLeft S k := fun k => by
    unfold zLeft
    rw [f 97 (by omega) (by omega) (by omega) (by omega) (by omega) (by omega), f 96 (by omega) (by omega) (by omega) (by omega) (by omega) (by omega), f 106 (by omega) (by omega) (by omega) (by omega) (by omega) (by omega)]
  unfold CRb
  rw [h1 10 (by omega), h1 11 (by omega), h1 12 (by omega), h1 23 (by omega), h1 25 (by omega), h1 26 (by omega), h1 27 (by omega), h1 28 (by omega), f 94 (by omega) (by omega) (by omega) (by omega) (by omega) (by omega), f 95 (by omega) (by omega) (by omega) (by omega) (by omega) (by omega), f 96 (by omega) (by omega) (by omega) (by omega) (by omega) (by omega), f 97 (by omega) (by omega) (by omega) (by omega) (by omega) (by omega), f 98 (by omega) (by omega) (by omega) (by omega) (by omega) (by omega), f 100 (by omega) (by omega) (by omega) (by omega) (by omega) (by omega), f 101 (by omega) (by omega) (by omega) (by omega) (by omega) (by omega), f 102 (by omega) (by omega) (by omega) (by omega) (by omega) (by omega), f 103 (by omega) (by omega) (by omega) (by omega) (by omega) (by omega), f 104 (by omega) (by omega) (by omega) (by omega) (by omega) (by omega), f 105 (by omega) (by omega) (by omega) (by omega) (by omega) (by omega), f 107 (by omega) (by omega) (by omega) (by omega) (by omega) (by omega)]
  rw [hc 32 3 (by omega), hc 32 4 (by omega), hc 32 5 (by omega), hc 45 0 (by omega), hc 33 0 (by omega), hc 32 7 (by omega), hc 32 8 (by omega), hc 32 9 (by omega), hc 32 10 (by omega)]
  refine ⟨p1, ⟨h24, s2, s3, s4, s5, s6⟩, fun o o0 o1 => ?_, fun q q0 q1 => ?_, fun k k0 k1 j j0 j1 => ?_, fun k k0 k1 => ?_, fun o o0 o1 => ?_⟩
  · rw [hc 51 _ (by omega), hc 55 _ (by omega), hc 57 _ (by omega), zl]
    exact ⟨(d3 o o0 o1).1, (d3 o o0 o1).2.1, (hp o o0 o1).1, (hp o o0 o1).2, (d3 o o0 o1).2.2.2.2⟩
  · rw [hc 53 _ (by omega)]
    refine ⟨(d4 q q0 q1).1, fun j j0 j1 => ?_⟩
    rw [hc 54 _ (by omega)]; exact (d4 q q0 q1).2 j j0 j1
  · rw [hc 56 _ (by omega)]; exact d5 k k0 k1 j j0 j1
  · rw [hc 34 _ (by omega), hc 35 _ (by omega), hc 36 _ (by omega), hc 37 _ (by omega), hc 38 _ (by omega), hc 39 _ (by omega), hc 40 _ (by omega)]; exact d6 k k0 k1
  · rw [hc 48 _ (by omega)]; exact d7 o o0 o1
section MS5
variable {l : Launch} {G : gG}
/-- a slot is written down -/
theorem c_note (P sl : Int) (hP : 1 ≤ P ∧ P ≤ 6) (m : Int → Int) (bi bo : Int → Bool) (hm : ∀ o, 0 ≤ o → o < 6 → -1 ≤ m o ∧ m o ≤ 6) (σ : gS) (h41 : gI σ 41 0 = sl) (hsl : 0 ≤ sl ∧ sl < 360) (h45 : gI σ 45 0 = P) (h49 : ∀ o, 0 ≤ o → o < 6 → gI σ 49 o = m o) (h5 : isM (gI σ 45 5) (fun i => decide (i < P) && !bi i)) (h6 : isM (gI σ 45 6) (fun o => decide (o < P) && !bo o)) (Q : gS → Prop)
    (h : ∀ τ, gI τ 41 0 = sl + 1 → gI τ 42 sl = pk m 6 → isM (gI τ 43 sl) (fun i => decide (i < P) && bi i) → isM (gI τ 44 sl) (fun o => decide (o < P) && bo o) → (∀ c k, ¬ (c = 41 ∧ k = 0) → ¬ ((c = 42 ∨ c = 43 ∨ c = 44) ∧ k = sl) → gI τ c k = gI σ c k) → Q τ) : eX6_note l G σ Q := by
  refine vX6_note σ Q ⟨fun _ => ?_, fun e => by omega⟩
  refine gloopI (α := Int) 0 6 (fun x r => x ≤ 6 ∧ r = pk m x.toNat) (fun x r => kX6_note_15 l G r x σ Q) ?_ ?_ 0 0 (by omega) ⟨by omega, rfl⟩
  · rintro x r x0 x1 ⟨y0, y1⟩ ih
    have hr := pk_r hm x.toNat (by omega)
    have hr6 : (8 : Int) ^ x.toNat ≤ 8 ^ 6 := by
      have hc : x = 0 ∨ x = 1 ∨ x = 2 ∨ x = 3 ∨ x = 4 ∨ x = 5 := by omega
      rcases hc with z | z | z | z | z | z <;> subst z <;> decide
    refine vX6_note_15 r x ⟨by omega, by omega⟩ ⟨by omega, by omega⟩ σ Q ⟨fun e => by omega, fun _ => ⟨by omega, ih _ ⟨by omega, ?_⟩⟩⟩
    have hmx := hm x (by omega) (by omega)
    have e := gor_pk (pk m x.toNat) (m x + 1) x.toNat (by omega) hr (by omega)
    rw [show ((x.toNat : Nat) : Int) = x by omega] at e
    rw [h49 x (by omega) (by omega), y1, e, show (x + 1).toNat = x.toNat + 1 by omega]
    show _ = pk m x.toNat + (m ((x.toNat : Nat) : Int) + 1) * 8 ^ x.toNat
    rw [show ((x.toNat : Nat) : Int) = x by omega]
  · rintro x r x0 ⟨y0, y1⟩
    have hx : x = 6 := by omega
    subst hx
    have hr := pk_r hm 6 (by omega)
    have y1' : r = pk m 6 := y1
    subst y1'
    have h8 : (8 : Int) ^ 6 = 262144 := by decide
    have hfull := isM_full P hP
    refine vX6_note_15 _ 6 ⟨by omega, by omega⟩ ⟨by omega, by omega⟩ σ Q ⟨fun _ => ?_, fun e => by omega⟩
    rw [h41, h45]
    refine ⟨by omega, fun σ1 e1 => ?_⟩
    have k1 : gI σ1 41 0 = sl := by rw [e1, sI_ne (by omega)]; exact h41
    have k5 : gI σ1 45 5 = gI σ 45 5 := by rw [e1, sI_ne (by omega)]
    rw [k1, k5]
    refine ⟨by omega, fun σ2 e2 => ?_⟩
    have k2 : gI σ2 41 0 = sl := by rw [e2, sI_ne (by omega)]; exact k1
    have k6 : gI σ2 45 6 = gI σ 45 6 := by rw [e2, sI_ne (by omega), e1, sI_ne (by omega)]
    rw [k2, k6]
    refine ⟨by omega, fun σ3 e3 => ?_⟩
    have k3 : gI σ3 41 0 = sl := by rw [e3, sI_ne (by omega)]; exact k2
    rw [k3]
    refine ⟨⟨by omega, by omega⟩, fun σ4 e4 => h σ4 ?_ ?_ ?_ ?_ (fun c k c1 c2 => ?_)⟩
    · rw [e4, sI_eq]
    · rw [e4, sI_ne (by omega), e3, sI_ne (by omega), e2, sI_ne (by omega), e1, sI_eq]
    · rw [e4, sI_ne (by omega), e3, sI_ne (by omega), e2, sI_eq]
      refine isM_congr (isM_minus hfull ⟨h5.1, h5.2.1⟩) (fun i i0 i1 => ?_)
      rw [h5.2.2 i i0 i1]
      dsimp only
      cases decide (i < P) <;> cases bi i <;> rfl
    · rw [e4, sI_ne (by omega), e3, sI_eq]
      refine isM_congr (isM_minus hfull ⟨h6.1, h6.2.1⟩) (fun i i0 i1 => ?_)
      rw [h6.2.2 i i0 i1]
      dsimp only
      cases decide (i < P) <;> cases bo i <;> rfl
    · rw [e4, sI_at, if_neg c1, e3, sI_at, if_neg (by omega), e2, sI_at, if_neg (by omega), e1, sI_at, if_neg (by omega)]
end MS5
