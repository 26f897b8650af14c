/-- what rounds leave alone, what they match -/
def gdX (P : Int) (ask : Int → Int → Bool) (X0 X : mX) : Prop :=
  (∀ k, ¬ (0 ≤ k ∧ k < P) → X.2.2.1 k = X0.2.2.1 k ∧ X.2.2.2.1 k = X0.2.2.2.1 k) ∧
  ∀ o, X.2.2.2.2 o = X0.2.2.2.2 o ∨ (0 ≤ o ∧ o < P ∧ 0 ≤ X.2.2.2.2 o ∧ X.2.2.2.2 o < P ∧ ask (X.2.2.2.2 o) o = true)
theorem gdX_accs {P : Int} {ask : Int → Int → Bool} {X0 X : mX} {f : Bool} (hX : okX P X) (h : gdX P ask X0 X) : ∀ n : Nat, (n : Int) ≤ P → gdX P ask X0 (sAccs P f (sGd P ask X) n X)
  | 0, _ => h
  | n + 1, hn => by
    have ih := gdX_accs (f := f) hX h n (by omega)
    have okn := okX_accs (f := f) (gd := sGd P ask X) hX n (by omega)
    unfold sAccs sAcc
    split
    · exact ih
    · rename_i hb
      have hin : sBest P (sGd P ask X) n (sAccs P f (sGd P ask X) n X) = -1 ∨ _ := fst_in (fun o => decide (sGd P ask X o = n)) (s := (sAccs P f (sGd P ask X) n X).2.2.2.1 n) (P := P) ⟨(okn n (by omega) (by omega)).2.2.1, (okn n (by omega) (by omega)).2.2.2⟩
      rcases hin with e | ⟨e1, e2, e3⟩
      · exact absurd e hb
      · have hgd : sGd P ask X (sBest P (sGd P ask X) n (sAccs P f (sGd P ask X) n X)) = n := by
          have : decide (sGd P ask X (sBest P (sGd P ask X) n (sAccs P f (sGd P ask X) n X)) = n) = true := e3
          simpa using this
        have hask : ask n (sBest P (sGd P ask X) n (sAccs P f (sGd P ask X) n X)) = true := by
          have hx := hX (sBest P (sGd P ask X) n (sAccs P f (sGd P ask X) n X)) e1 e2
          have hi2 := fst_in (fun i => !X.1 i && !X.2.1 (sBest P (sGd P ask X) n (sAccs P f (sGd P ask X) n X)) && ask i (sBest P (sGd P ask X) n (sAccs P f (sGd P ask X) n X))) (s := X.2.2.1 (sBest P (sGd P ask X) n (sAccs P f (sGd P ask X) n X))) (P := P) ⟨hx.1, hx.2.1⟩
          have hgd' : fst (fun i => !X.1 i && !X.2.1 (sBest P (sGd P ask X) n (sAccs P f (sGd P ask X) n X)) && ask i (sBest P (sGd P ask X) n (sAccs P f (sGd P ask X) n X))) (X.2.2.1 (sBest P (sGd P ask X) n (sAccs P f (sGd P ask X) n X))) P = n := hgd
          rcases hi2 with e | ⟨_, _, e⟩
          · omega
          · rw [hgd'] at e
            simp only [Bool.and_eq_true] at e
            exact e.2
        have d1 : 0 ≤ sBest P (sGd P ask X) n (sAccs P f (sGd P ask X) n X) := e1
        have d2 : sBest P (sGd P ask X) n (sAccs P f (sGd P ask X) n X) < P := e2
        clear e1 e2 e3 hgd hb okn
        generalize sBest P (sGd P ask X) n (sAccs P f (sGd P ask X) n X) = o9 at *
        generalize sAccs P f (sGd P ask X) n X = Y at *
        refine ⟨fun k hk => ?_, fun o => ?_⟩
        · obtain ⟨i1, i2⟩ := ih.1 k hk
          unfold sPair
          dsimp only
          cases f with
          | false => exact ⟨i1, i2⟩
          | true =>
            simp only [if_true, fup]
            rw [if_neg (by omega), if_neg (by omega)]
            exact ⟨i1, i2⟩
        · have hm : (sPair P f n o9 Y).2.2.2.2 o = if o = o9 then (n : Int) else Y.2.2.2.2 o := rfl
          rw [hm]
          by_cases ho : o = o9
          · rw [if_pos ho, ho]
            exact Or.inr ⟨d1, d2, by omega, by omega, hask⟩
          · rw [if_neg ho]; exact ih.2 o
theorem gdX_rnds {P : Int} {ask : Int → Int → Bool} {X0 : mX} (hP : 1 ≤ P) (hX : okX P X0) : ∀ n : Nat, gdX P ask X0 (sRnds P ask n X0)
  | 0 => ⟨fun _ _ => ⟨rfl, rfl⟩, fun _ => Or.inl rfl⟩
  | n + 1 => gdX_accs (okX_rnds hP hX n) (gdX_rnds hP hX n) _ (by omega)
/-- the match of a slot -/
def zX (S : RS) : mX := sRnds (S 88 10) (fun i o => decide (0 < S 95 (6 * i + o))) (S 88 11).toNat (fun i => bz (zTk S) (S 88 10).toNat i, fun o => decide (zTk S o ≠ -1), S 92, S 93, fun _ => -1)
def zM (S : RS) : RS := fun c k => if c = 92 then (zX S).2.2.1 k else if c = 93 then (zX S).2.2.2.1 k else zSendF S c k
/-- the first cell of a queue goes -/
def zSd (q : Int) (T : RS) : RS := zMv 94 (9 * q) (T 95 q - 1).toNat (uS (uS (uS T 104 (T 94 (9 * q)) (T 88 24)) 88 27 (T 88 27 + 1)) 95 q (T 95 q - 1))
def zG (mt tk : Int → Int) (P sl : Int) : Nat → RS → RS
  | 0, S => S
  | n + 1, S => if (n : Int) < P ∧ mt n ≠ -1 then zSd (6 * mt n + n) (uS (uS (zG mt tk P sl n S) 109 (6 * sl + n) (if P ≤ n then -1 else mt n)) 110 (6 * sl + n) (if P ≤ n then -1 else tk n))
    else uS (uS (zG mt tk P sl n S) 109 (6 * sl + n) (if P ≤ n then -1 else mt n)) 110 (6 * sl + n) (if P ≤ n then -1 else tk n)
def zClr : Nat → RS → RS
  | 0, S => S
  | n + 1, S => uS (zClr n S) 99 n 0
def zSlot (S : RS) : RS := uS (zClr 6 (zG (zX S).2.2.2.2 (zTk S) (S 88 10) (S 88 24) 6 (zM S))) 88 24 (S 88 24 + 1)
theorem zSd_88 (q : Int) (T : RS) (k : Int) (h : k ≠ 27) : zSd q T 88 k = T 88 k := by
  unfold zSd
  rw [zMv_o _ _ _ _ _ _ (by omega), uS_ne (by omega), uS_nei h, uS_ne (by omega)]
theorem zSd_27 (q : Int) (T : RS) : zSd q T 88 27 = T 88 27 + 1 := by
  unfold zSd
  rw [zMv_o _ _ _ _ _ _ (by omega), uS_ne (by omega), uS_eq]
theorem zSd_95 (q : Int) (T : RS) (k : Int) : zSd q T 95 k = if k = q then T 95 q - 1 else T 95 k := by
  unfold zSd
  rw [zMv_o _ _ _ _ _ _ (by omega), uS_at]
  by_cases h : k = q
  · rw [if_pos ⟨rfl, h⟩, if_pos h]
  · rw [if_neg (fun z => h z.2), if_neg h, uS_ne (by omega), uS_ne (by omega)]
theorem zSd_94 (q : Int) (T : RS) (k : Int) : zSd q T 94 k = if 9 * q ≤ k ∧ k < 9 * q + (T 95 q - 1).toNat then T 94 (k + 1) else T 94 k := by
  unfold zSd
  rw [zMv_c, uS_ne (by omega), uS_ne (by omega), uS_ne (by omega), uS_ne (by omega), uS_ne (by omega), uS_ne (by omega)]
theorem zSd_o (q : Int) (T : RS) (c : Nat) (k : Int) (h : c ≠ 88 ∧ c ≠ 94 ∧ c ≠ 95 ∧ c ≠ 104) : zSd q T c k = T c k := by
  unfold zSd
  rw [zMv_o _ _ _ _ _ _ (by omega), uS_ne (by omega), uS_ne (by omega), uS_ne (by omega)]
/-- behind some outputs: the queues of the others are as they were -/
theorem zG_keep (mt tk : Int → Int) (P sl : Int) (S : RS) (hP : P ≤ 6) (hmt : ∀ o, mt o = -1 ∨ (0 ≤ o ∧ o < P ∧ 0 ≤ mt o ∧ mt o < P)) (h9 : ∀ q, 0 ≤ q → q < 36 → S 95 q ≤ 9) : ∀ n : Nat, n ≤ 6 →
    (∀ k, k ≠ 27 → zG mt tk P sl n S 88 k = S 88 k) ∧ (S 88 27 ≤ zG mt tk P sl n S 88 27 ∧ zG mt tk P sl n S 88 27 ≤ S 88 27 + n) ∧ (∀ i o, 0 ≤ i → i < 6 → (n : Int) ≤ o → o < 6 → zG mt tk P sl n S 95 (6 * i + o) = S 95 (6 * i + o) ∧ ∀ j, 0 ≤ j → j < 9 → zG mt tk P sl n S 94 (9 * (6 * i + o) + j) = S 94 (9 * (6 * i + o) + j)) ∧ (∀ c k, c ≠ 88 → c ≠ 94 → c ≠ 95 → c ≠ 104 → c ≠ 109 → c ≠ 110 → zG mt tk P sl n S c k = S c k)
  | 0, _ => ⟨fun _ _ => rfl, ⟨Int.le_refl _, by show S 88 27 ≤ S 88 27 + 0; omega⟩, fun i o _ _ _ _ => ⟨rfl, fun _ _ _ => rfl⟩, fun _ _ _ _ _ _ _ _ => rfl⟩
  | n + 1, hn => by
    obtain ⟨a1, a2, a3, a4⟩ := zG_keep mt tk P sl S hP hmt h9 n (by omega)
    unfold zG
    split
    · rename_i hc
      obtain ⟨m0, m1, m2, m3⟩ : 0 ≤ (n : Int) ∧ (n : Int) < P ∧ 0 ≤ mt n ∧ mt n < P := by
        rcases hmt n with e | e
        · exact absurd e hc.2
        · exact e
      have b3 := a3 (mt n) n m2 (by omega) (by omega) (by omega)
      have c9 := h9 (6 * mt n + n) (by omega) (by omega)
      refine ⟨fun k hk => by rw [zSd_88 _ _ _ hk, uS_ne (by omega), uS_ne (by omega)]; exact a1 k hk, ?_, fun i o i0 i1 o0 o1 => ?_, fun c k c1 c2 c3 c4 c5 c6 => by rw [zSd_o _ _ _ _ ⟨c1, c2, c3, c4⟩, uS_ne c6, uS_ne c5]; exact a4 c k c1 c2 c3 c4 c5 c6⟩
      · rw [zSd_27, uS_ne (by omega), uS_ne (by omega)]; omega
      · have b := a3 i o i0 i1 (by omega) o1
        refine ⟨?_, fun j j0 j1 => ?_⟩
        · rw [zSd_95, if_neg (by omega), uS_ne (by omega), uS_ne (by omega)]; exact b.1
        · rw [zSd_94, uS_ne (by omega), uS_ne (by omega), uS_ne (by omega), uS_ne (by omega), uS_ne (by omega), uS_ne (by omega), b3.1, if_neg]
          · exact b.2 j j0 j1
          · have := Int.toNat_of_nonneg (a := S 95 (6 * mt n + n) - 1)
            omega
    · refine ⟨fun k hk => by rw [uS_ne (by omega), uS_ne (by omega)]; exact a1 k hk, by rw [uS_ne (by omega), uS_ne (by omega)]; omega, fun i o i0 i1 o0 o1 => ?_, fun c k c1 c2 c3 c4 c5 c6 => by rw [uS_ne c6, uS_ne c5]; exact a4 c k c1 c2 c3 c4 c5 c6⟩
      have b := a3 i o i0 i1 (by omega) o1
      exact ⟨by rw [uS_ne (by omega), uS_ne (by omega)]; exact b.1, fun j j0 j1 => by rw [uS_ne (by omega), uS_ne (by omega)]; exact b.2 j j0 j1⟩
theorem zSendF_o (S : RS) (hS : OKS S) : (∀ k, k ≠ 28 → zSendF S 88 k = S 88 k) ∧ ∀ c k, c ≠ 88 → c ≠ 96 → c ≠ 97 → c ≠ 104 → c ≠ 106 → c ≠ 107 → zSendF S c k = S c k := by
  have hP := hS.1
  obtain ⟨a1, a2, a3, a4, a5, a6, a7⟩ := zE_keep (bz (zTk S) (S 88 10).toNat) (S 88 10).toNat (zW (zTk S) (S 88 10).toNat S) (by omega) (fun i i0 i1 => by rw [zW_o _ _ _ _ _ (by omega)]; have := (hS.2.2.2.1 i i0 i1).2.1; omega)
  unfold zSendF
  exact ⟨fun k hk => by rw [a1 k hk, zW_o _ _ _ _ _ (by omega)], fun c k c1 c2 c3 c4 c5 c6 => by rw [a5 c k c1 c2 c3 c4 c6, zW_o _ _ _ _ _ c5]⟩
