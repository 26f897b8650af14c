section MT2
variable {l : Launch} {G : gG}
theorem r_isLetter (x : Int) (r : gR x) (σ : gS) (Q : Int → gS → Prop) (h : ∀ v, (v = 0 → ¬ (97 ≤ x ∧ x ≤ 122)) ∧ (¬ v = 0 → (97 ≤ x ∧ x ≤ 122)) → Q v σ) : eX12_isLetter l G x σ Q := by
  refine vX12_isLetter x r σ Q (fun v hv => h v ?_)
  rw [hv]
  split
  · omega
  · split <;> omega
theorem r_isDigit (x : Int) (r : gR x) (σ : gS) (Q : Int → gS → Prop) (h : ∀ v, (v = 0 → ¬ (48 ≤ x ∧ x ≤ 57)) ∧ (¬ v = 0 → (48 ≤ x ∧ x ≤ 57)) → Q v σ) : eX12_isDigit l G x σ Q := by
  refine vX12_isDigit x r σ Q (fun v hv => h v ?_)
  rw [hv]
  split
  · omega
  · split <;> omega
theorem r_four (a b c d : Int) (h1 : (0 ≤ a ∧ a ≤ 26) ∧ (0 ≤ b ∧ b ≤ 26) ∧ (0 ≤ c ∧ c ≤ 26) ∧ (0 ≤ d ∧ d ≤ 26)) (σ : gS) (Q : Int → gS → Prop) (h : Q (((a * 32 + b) * 32 + c) * 32 + d) σ) : eX12_four l G a b c d σ Q :=
  vX12_four a b c d ⟨by omega, by omega⟩ ⟨by omega, by omega⟩ ⟨by omega, by omega⟩ ⟨by omega, by omega⟩ σ Q ⟨⟨by omega, by omega⟩, h⟩
theorem r_eight (a b c d a' b' c' d' : Int) (h1 : (0 ≤ a ∧ a ≤ 26) ∧ (0 ≤ b ∧ b ≤ 26) ∧ (0 ≤ c ∧ c ≤ 26) ∧ (0 ≤ d ∧ d ≤ 26)) (h2 : (0 ≤ a' ∧ a' ≤ 26) ∧ (0 ≤ b' ∧ b' ≤ 26) ∧ (0 ≤ c' ∧ c' ≤ 26) ∧ (0 ≤ d' ∧ d' ≤ 26)) (σ : gS) (Q : Int → gS → Prop) (h : Q ((((a * 32 + b) * 32 + c) * 32 + d) * 1048576 + (((a' * 32 + b') * 32 + c') * 32 + d')) σ) : eX12_eight l G a b c d a' b' c' d' σ Q := by
  refine vX12_eight a b c d a' b' c' d' ⟨by omega, by omega⟩ ⟨by omega, by omega⟩ ⟨by omega, by omega⟩ ⟨by omega, by omega⟩ ⟨by omega, by omega⟩ ⟨by omega, by omega⟩ ⟨by omega, by omega⟩ ⟨by omega, by omega⟩ σ Q ?_
  refine r_four a b c d h1 σ _ (fun _ => ?_)
  refine r_four a' b' c' d' h2 σ _ (fun _ => ⟨⟨by omega, by omega⟩, h⟩)
theorem r_wordOf (x : Int) (r : gRl x) (σ : gS) (Q : Int → gS → Prop) (h : Q (wdc x) σ) : eX12_wordOf l G x σ Q := by
  refine vX12_wordOf x r σ Q ?_
  refine r_eight 0 0 0 16 15 18 20 19 (by decide) (by decide) σ _ (fun _ => ⟨fun z0 => ?_, fun z => ?_⟩)
  rotate_left
  · have e : x = 17287827 := (glcmp_0 r (by decide)).1 z
    unfold wdc at h; rw [if_pos e] at h; exact h
  have n0 : ¬ x = 17287827 := fun e => z0 ((glcmp_0 r (by decide)).2 e)
  refine r_eight 0 0 18 15 21 14 4 19 (by decide) (by decide) σ _ (fun _ => ⟨fun z1 => ?_, fun z => ?_⟩)
  rotate_left
  · have e : x = 620411027 := (glcmp_0 r (by decide)).1 z
    unfold wdc at h; rw [if_neg n0, if_pos e] at h; exact h
  have n1 : ¬ x = 620411027 := fun e => z1 ((glcmp_0 r (by decide)).2 e)
  refine r_eight 0 0 0 4 5 16 20 8 (by decide) (by decide) σ _ (fun _ => ⟨fun z2 => ?_, fun z => ?_⟩)
  rotate_left
  · have e : x = 4375176 := (glcmp_0 r (by decide)).1 z
    unfold wdc at h; rw [if_neg n0, if_neg n1, if_pos e] at h; exact h
  have n2 : ¬ x = 4375176 := fun e => z2 ((glcmp_0 r (by decide)).2 e)
  refine r_eight 0 16 15 9 14 20 5 18 (by decide) (by decide) σ _ (fun _ => ⟨fun z3 => ?_, fun z => ?_⟩)
  rotate_left
  · have e : x = 17693102258 := (glcmp_0 r (by decide)).1 z
    unfold wdc at h; rw [if_neg n0, if_neg n1, if_neg n2, if_pos e] at h; exact h
  have n3 : ¬ x = 17693102258 := fun e => z3 ((glcmp_0 r (by decide)).2 e)
  refine r_four 19 12 15 20 (by decide) σ _ (fun _ => ⟨fun z4 => ?_, fun z => ?_⟩)
  rotate_left
  · have e : x = 635380 := (glcmp_0 r (by decide)).1 z
    unfold wdc at h; rw [if_neg n0, if_neg n1, if_neg n2, if_neg n3, if_pos e] at h; exact h
  have n4 : ¬ x = 635380 := fun e => z4 ((glcmp_0 r (by decide)).2 e)
  refine r_four 9 4 12 5 (by decide) σ _ (fun _ => ⟨fun z5 => ?_, fun z => ?_⟩)
  rotate_left
  · have e : x = 299397 := (glcmp_0 r (by decide)).1 z
    unfold wdc at h; rw [if_neg n0, if_neg n1, if_neg n2, if_neg n3, if_neg n4, if_pos e] at h; exact h
  have n5 : ¬ x = 299397 := fun e => z5 ((glcmp_0 r (by decide)).2 e)
  refine r_four 3 5 12 12 (by decide) σ _ (fun _ => ⟨fun z6 => ?_, fun z => ?_⟩)
  rotate_left
  · have e : x = 103820 := (glcmp_0 r (by decide)).1 z
    unfold wdc at h; rw [if_neg n0, if_neg n1, if_neg n2, if_neg n3, if_neg n4, if_neg n5, if_pos e] at h; exact h
  have n6 : ¬ x = 103820 := fun e => z6 ((glcmp_0 r (by decide)).2 e)
  refine r_four 0 6 1 14 (by decide) σ _ (fun _ => ⟨fun z7 => ?_, fun z => ?_⟩)
  rotate_left
  · have e : x = 6190 := (glcmp_0 r (by decide)).1 z
    unfold wdc at h; rw [if_neg n0, if_neg n1, if_neg n2, if_neg n3, if_neg n4, if_neg n5, if_neg n6, if_pos e] at h; exact h
  have n7 : ¬ x = 6190 := fun e => z7 ((glcmp_0 r (by decide)).2 e)
  refine r_eight 0 0 0 2 21 18 19 20 (by decide) (by decide) σ _ (fun _ => ⟨fun z8 => ?_, fun z => ?_⟩)
  rotate_left
  · have e : x = 2804340 := (glcmp_0 r (by decide)).1 z
    unfold wdc at h; rw [if_neg n0, if_neg n1, if_neg n2, if_neg n3, if_neg n4, if_neg n5, if_neg n6, if_neg n7, if_pos e] at h; exact h
  have n8 : ¬ x = 2804340 := fun e => z8 ((glcmp_0 r (by decide)).2 e)
  refine r_eight 0 0 0 13 1 20 3 8 (by decide) (by decide) σ _ (fun _ => ⟨fun z9 => ?_, fun z => ?_⟩)
  rotate_left
  · have e : x = 13684840 := (glcmp_0 r (by decide)).1 z
    unfold wdc at h; rw [if_neg n0, if_neg n1, if_neg n2, if_neg n3, if_neg n4, if_neg n5, if_neg n6, if_neg n7, if_neg n8, if_pos e] at h; exact h
  have n9 : ¬ x = 13684840 := fun e => z9 ((glcmp_0 r (by decide)).2 e)
  refine r_eight 0 0 0 1 16 1 18 20 (by decide) (by decide) σ _ (fun _ v hv => ?_)
  have e1 : v = wdc x := by
    unfold wdc
    rw [hv, if_neg n0, if_neg n1, if_neg n2, if_neg n3, if_neg n4, if_neg n5, if_neg n6, if_neg n7, if_neg n8, if_neg n9]
    by_cases e : x = 1574484
    · rw [if_pos e]; exact if_pos ((glcmp_0 r (by decide)).2 e)
    · rw [if_neg e]; exact if_neg (fun z => e ((glcmp_0 r (by decide)).1 z))
  rw [e1]; exact h
/-- the reference's reader: bytes and length -/
def rA (B : Int → Int) (L : Int) (σ : gS) : Prop := gI σ 88 2 = L ∧ 0 ≤ L ∧ L ≤ 600 ∧ ∀ i, 0 ≤ i → i < 600 → -128 ≤ B i ∧ B i < 128 ∧ gI σ 89 (10 + i) = B i % 256
def fR (σ τ : gS) : Prop := (∀ c i, ¬ (c = 88 ∧ 3 ≤ i ∧ i ≤ 7) → gI τ c i = gI σ c i) ∧ τ.2 = σ.2
theorem fR.rfl' {σ : gS} : fR σ σ := ⟨fun _ _ _ => rfl, rfl⟩
theorem fR.trans {σ τ υ : gS} (h : fR σ τ) (k : fR τ υ) : fR σ υ := ⟨fun c i q => (k.1 c i q).trans (h.1 c i q), k.2.trans h.2⟩
theorem fR.set {σ τ : gS} {i v : Int} (e : τ = sI σ 88 i v) (h : 3 ≤ i ∧ i ≤ 7) : fR σ τ := ⟨fun c j q => by rw [e, sI_at, if_neg (by omega)], by rw [e]; rfl⟩
theorem rA.keep {B : Int → Int} {L : Int} {σ τ : gS} (h : fR σ τ) (k : rA B L σ) : rA B L τ :=
  ⟨(h.1 _ _ (by omega)).trans k.1, k.2.1, k.2.2.1, fun i i0 i1 => ⟨(k.2.2.2 i i0 i1).1, (k.2.2.2 i i0 i1).2.1, (h.1 _ _ (by omega)).trans (k.2.2.2 i i0 i1).2.2⟩⟩
theorem r_byteAt (B : Int → Int) (L q : Int) (σ : gS) (hA : rA B L σ) (hq : 0 ≤ q ∧ q ≤ L) (x : Int) (ex : x = q) (Q : Int → gS → Prop)
    (h : ∀ v, (q < L → v = B q % 256 ∧ -128 ≤ B q ∧ B q < 128) → (¬ q < L → v = -1) → Q v σ) : eX12_byteAt l G x σ Q := by
  subst ex
  have hL := hA.2.2.1
  refine vX12_byteAt x ⟨by omega, by omega⟩ σ Q ⟨⟨fun _ => True.intro, fun _ => ⟨by omega, True.intro⟩⟩, fun v hv => h v ?_ ?_⟩
  · intro g
    have b := hA.2.2.2 x hq.1 (by omega)
    rw [hv, hA.1, if_neg (by omega)]
    exact ⟨b.2.2, b.1, b.2.1⟩
  · intro g
    rw [hv, hA.1, if_pos (by omega)]
/-- the reference's kind of the sign -/
def rK (B : Int → Int) (L p : Int) : Int := if tK B L p = 1 then (if tW B L p = 99 then 4 else 3) else if tK B L p = 2 then 1 else if tK B L p = 3 then 2 else tK B L p
def tR (B : Int → Int) (L p : Int) (σ : gS) : Prop := gI σ 88 3 = tE B L p ∧ gI σ 88 4 = tS B L p ∧ gI σ 88 5 = rK B L p ∧ (tK B L p = 2 → gI σ 88 6 = tN B L p) ∧ (tK B L p = 1 → gI σ 88 7 = tW B L p)
theorem r_word (B : Int → Int) (L s x1 : Int) (r1 : gR x1) (hs : 0 ≤ s ∧ s ≤ L) (σ : gS) (hA : rA B L σ) (h3 : gI σ 88 3 = s) (h4 : gI σ 88 4 = s) (Q : gS → Prop)
    (h : ∀ τ, fR σ τ → gI τ 88 3 = av lt B L s → gI τ 88 4 = s → gI τ 88 7 = (if av lt B L s - s ≤ 8 then wdc (cd B s (av lt B L s - s).toNat) else 99) → gI τ 88 5 = (if gI τ 88 7 = 99 then 4 else 3) → Q τ) : kX12_advance_77 l G x1 0 σ Q := by
  have hL := hA.2.2.1
  have key : ∀ q : Int, ∀ x2 : Int, ∀ τ : gS, s ≤ q → q ≤ L → fR σ τ → gI τ 88 3 = q → gI τ 88 4 = s → (q - s ≤ 8 → x2 = cd B s (q - s).toNat ∧ 0 ≤ x2 ∧ x2 < 32 ^ (q - s).toNat) → gRl x2 → av lt B L q = av lt B L s → kX12_advance_77 l G x1 x2 τ Q := by
    refine av_ind (f := lt) (B := B) (L := L) _ ?_ ?_
    · intro q g1 g2 ih x2 τ q0 q1 f1 f2 f3 f4 f5 f6
      have a := rA.keep f1 hA
      have lq := lt_t.1 g2
      refine vX12_advance_77 x1 x2 r1 f5 τ Q (r_byteAt B L q τ a ⟨by omega, q1⟩ _ f2 _ (fun v hv1 hv2 rv => ?_))
      have v1 := (hv1 g1).1
      refine r_isLetter v rv τ _ (fun w hw _ => ⟨fun z => absurd (hw.1 z) (by omega), fun _ => ?_⟩)
      rw [f2, f3]
      refine ⟨⟨by omega, by omega⟩, fun g3 => ⟨⟨by omega, by omega⟩, fun τ1 e => ?_⟩, fun g3 => r_byteAt B L q τ a ⟨by omega, q1⟩ _ rfl _ (fun v hv1 hv2 rv => ?_)⟩
      · exact ih x2 τ1 (by omega) (by omega) (fR.trans f1 (fR.set e (by omega))) (by rw [e, sI_eq]) (by rw [e, sI_nei (by omega)]; exact f3) (fun z => by omega) f5 (by rw [← f6, av_go g1 g2])
      · rw [f2]
        refine ⟨⟨by omega, by omega⟩, fun τ1 e => ?_⟩
        have v1 := (hv1 g1).1
        have x1' := f4 (by omega)
        have en : (q + 1 - s).toNat = (q - s).toNat + 1 := by omega
        have es : s + ((q - s).toNat : Int) = q := by omega
        have pw : (32 : Int) ^ (q - s).toNat ≤ 32 ^ 7 := by
          have : (32 : Nat) ^ (q - s).toNat ≤ 32 ^ 7 := Nat.pow_le_pow_right (by decide) (by omega)
          exact_mod_cast this
        have p7 : (32 : Int) ^ 7 = 34359738368 := by decide
        refine ih _ τ1 (by omega) (by omega) (fR.trans f1 (fR.set e (by omega))) (by rw [e, sI_eq]) (by rw [e, sI_nei (by omega)]; exact f3) (fun _ => ?_) ⟨by omega, by omega⟩ (by rw [← f6, av_go g1 g2])
        rw [en]
        refine ⟨?_, by omega, ?_⟩
        · show _ = 32 * cd B s (q - s).toNat + (B (s + ((q - s).toNat : Int)) - 96)
          rw [es, ← x1'.1]; omega
        · rw [Int.pow_succ]; omega
    · intro q g1 x2 τ q0 q1 f1 f2 f3 f4 f5 f6
      have a := rA.keep f1 hA
      rw [av_no g1] at f6
      refine vX12_advance_77 x1 x2 r1 f5 τ Q (r_byteAt B L q τ a ⟨by omega, q1⟩ _ f2 _ (fun v hv1 hv2 rv => ?_))
      refine r_isLetter v rv τ _ (fun w hw _ => ⟨fun _ => ?_, fun z => ?_⟩)
      · rw [f2, f3]
        refine ⟨⟨by omega, by omega⟩, fun g3 => r_wordOf x2 f5 τ _ (fun _ τ1 e v hv τ2 e2 => ?_), fun g3 τ1 e v hv τ2 e2 => ?_⟩
        · refine h τ2 (fR.trans (fR.trans f1 (fR.set e (by omega))) (fR.set e2 (by omega))) ?_ ?_ ?_ ?_
          · rw [e2, sI_nei (by omega), e, sI_nei (by omega), f2, f6]
          · rw [e2, sI_nei (by omega), e, sI_nei (by omega), f3]
          · rw [e2, sI_nei (by omega), e, sI_eq, ← f6, if_pos g3, ← (f4 g3).1]
          · have e7 : gI τ2 88 7 = gI τ1 88 7 := by rw [e2, sI_nei (by omega)]
            rw [e7, e2, sI_eq, hv]
        · refine h τ2 (fR.trans (fR.trans f1 (fR.set e (by omega))) (fR.set e2 (by omega))) ?_ ?_ ?_ ?_
          · rw [e2, sI_nei (by omega), e, sI_nei (by omega), f2, f6]
          · rw [e2, sI_nei (by omega), e, sI_nei (by omega), f3]
          · rw [e2, sI_nei (by omega), e, sI_eq, ← f6, if_neg (by omega)]
          · have e7 : gI τ2 88 7 = gI τ1 88 7 := by rw [e2, sI_nei (by omega)]
            rw [e7, e2, sI_eq, hv]
      · exfalso
        have z2 := hw.2 z
        by_cases g : q < L
        · have := hv1 g
          exact g1 ⟨g, lt_t.2 (by omega)⟩
        · have := hv2 g
          omega
  exact key s 0 σ (by omega) hs.2 fR.rfl' h3 h4 (fun _ => ⟨by rw [show s - s = 0 by omega]; rfl, by omega, by rw [show s - s = 0 by omega]; decide⟩) (by decide) rfl
theorem r_digits (B : Int → Int) (L s x1 : Int) (r1 : gR x1) (hs : 0 ≤ s ∧ s ≤ L) (σ : gS) (hA : rA B L σ) (h3 : gI σ 88 3 = s) (h4 : gI σ 88 4 = s) (h6 : gI σ 88 6 = 0) (Q : gS → Prop)
    (h : ∀ τ, fR σ τ → gI τ 88 3 = av dgt B L s → gI τ 88 4 = s → gI τ 88 5 = (if av dgt B L s - s ≤ 2 then 1 else 4) → gI τ 88 6 = dN B s (av dgt B L s) → Q τ) : kX12_advance_198 l G x1 σ Q := by
  have hL := hA.2.2.1
  have key : ∀ q : Int, ∀ τ : gS, s ≤ q → q ≤ L → (∀ j, s ≤ j → j < q → dgt (B j) = true) → fR σ τ → gI τ 88 3 = q → gI τ 88 4 = s → gI τ 88 6 = dN B s q → av dgt B L q = av dgt B L s → kX12_advance_198 l G x1 τ Q := by
    refine av_ind (f := dgt) (B := B) (L := L) _ ?_ ?_
    · intro q g1 g2 ih τ q0 q1 f0 f1 f2 f3 f4 f6
      have a := rA.keep f1 hA
      have lq := dgt_t.1 g2
      have fw : ∀ j, s ≤ j → j < q + 1 → dgt (B j) = true := by
        intro j j0 j1
        by_cases e : j = q
        · rw [e]; exact g2
        · exact f0 j j0 (by omega)
      refine vX12_advance_198 x1 r1 τ Q (r_byteAt B L q τ a ⟨by omega, q1⟩ _ f2 _ (fun v hv1 hv2 rv => ?_))
      have v1 := (hv1 g1).1
      refine r_isDigit v rv τ _ (fun w hw _ => ⟨fun z => absurd (hw.1 z) (by omega), fun _ => ?_⟩)
      rw [f2, f3]
      refine ⟨⟨by omega, by omega⟩, fun g3 => ⟨⟨by omega, by omega⟩, fun τ1 e => ?_⟩, fun g3 => r_byteAt B L q τ a ⟨by omega, q1⟩ _ rfl _ (fun v hv1 hv2 rv => ?_)⟩
      · refine ih τ1 (by omega) (by omega) fw (fR.trans f1 (fR.set e (by omega))) (by rw [e, sI_eq]) (by rw [e, sI_nei (by omega)]; exact f3) ?_ (by rw [← f6, av_go g1 g2])
        rw [e, sI_nei (by omega), f4]
        unfold dN
        rw [if_neg (by omega), if_neg (by omega), if_neg (by omega), if_neg (by omega)]
      · have v1 := (hv1 g1).1
        have dd : 10 * dN B s q + v - 48 = dN B s (q + 1) ∧ 0 ≤ dN B s q ∧ dN B s q ≤ 99 := by
          have vq : v = B q := by omega
          rw [vq]
          unfold dN
          by_cases e : q = s
          · rw [if_pos e, if_neg (by omega), if_pos (by omega), e]; omega
          · have e2 : q = s + 1 := by omega
            have d1 := dgt_t.1 (f0 s (by omega) (by omega))
            rw [if_neg e, if_pos e2, if_neg (by omega), if_neg (by omega), e2]; omega
        rw [f4]
        refine ⟨⟨by omega, by omega⟩, fun τ1 e => ?_⟩
        have k3 : gI τ1 88 3 = q := by rw [e, sI_nei (by omega)]; exact f2
        rw [k3]
        refine ⟨⟨by omega, by omega⟩, fun τ2 e2 => ?_⟩
        exact ih τ2 (by omega) (by omega) fw (fR.trans (fR.trans f1 (fR.set e (by omega))) (fR.set e2 (by omega))) (by rw [e2, sI_eq]) (by rw [e2, sI_nei (by omega), e, sI_nei (by omega)]; exact f3) (by rw [e2, sI_nei (by omega), e, sI_eq]; exact dd.1) (by rw [← f6, av_go g1 g2])
    · intro q g1 τ q0 q1 f0 f1 f2 f3 f4 f6
      have a := rA.keep f1 hA
      rw [av_no g1] at f6
      refine vX12_advance_198 x1 r1 τ Q (r_byteAt B L q τ a ⟨by omega, q1⟩ _ f2 _ (fun v hv1 hv2 rv => ?_))
      refine r_isDigit v rv τ _ (fun w hw _ => ⟨fun _ => ?_, fun z => ?_⟩)
      · rw [f2, f3]
        refine ⟨⟨⟨by omega, by omega⟩, fun _ => True.intro, fun _ => True.intro⟩, fun v hv τ1 e => ?_⟩
        refine h τ1 (fR.trans f1 (fR.set e (by omega))) ?_ ?_ ?_ ?_
        · rw [e, sI_nei (by omega), f2, f6]
        · rw [e, sI_nei (by omega), f3]
        · rw [e, sI_eq, hv, f6]
        · rw [e, sI_nei (by omega), f4, f6]
      · exfalso
        have z2 := hw.2 z
        by_cases g : q < L
        · have := hv1 g
          exact g1 ⟨g, dgt_t.2 (by omega)⟩
        · have := hv2 g
          omega
  exact key s σ (by omega) hs.2 (fun j j0 j1 => by omega) fR.rfl' h3 h4 (by rw [h6]; unfold dN; rw [if_pos rfl]) rfl
theorem r_advance (B : Int → Int) (L p : Int) (hp : 0 ≤ p ∧ p ≤ L) (σ : gS) (hA : rA B L σ) (h3 : gI σ 88 3 = p) (Q : gS → Prop)
    (h : ∀ τ, fR σ τ → tR B L p τ → Q τ) : eX12_advance l G σ Q := by
  refine vX12_advance σ Q ?_
  have hL := hA.2.2.1
  have key : ∀ q : Int, ∀ τ : gS, 0 ≤ q → q ≤ L → fR σ τ → gI τ 88 3 = q → tS B L q = tS B L p → kX12_advance_0 l G τ Q := by
    refine av_ind (f := bk) (B := B) (L := L) _ ?_ ?_
    · intro q h1 h2 ih τ q0 q1 f1 f2 f5
      have a := rA.keep f1 hA
      have lq := bk_t.1 h2
      have go : ∀ τ1 : gS, τ1 = sI τ 88 3 (gI τ 88 3 + 1) → kX12_advance_0 l G τ1 Q := by
        intro τ1 e
        rw [f2] at e
        refine ih τ1 (by omega) (by omega) (fR.trans f1 (fR.set e (by omega))) (by rw [e, sI_eq]) ?_
        rw [← f5]; unfold tS; rw [av_go h1 h2]
      refine vX12_advance_0 τ Q (r_byteAt B L q τ a ⟨q0, q1⟩ _ f2 _ (fun v hv1 hv2 rv => ⟨fun _ => ⟨by rw [f2]; exact ⟨by omega, by omega⟩, go⟩, fun z => r_byteAt B L q τ a ⟨q0, q1⟩ _ f2 _ (fun v' hv1' hv2' rv' => ⟨fun z' => ?_, fun _ => ⟨by rw [f2]; exact ⟨by omega, by omega⟩, go⟩⟩)⟩))
      have := hv1 h1
      have := hv1' h1
      omega
    · intro q h1 τ q0 q1 f1 f2 f5
      have a := rA.keep f1 hA
      have es : tS B L p = q := by rw [← f5]; unfold tS; rw [av_no h1]
      have nb : q < L → ¬ (B q = 10 ∨ B q = 32) := fun g z => h1 ⟨g, bk_t.2 z⟩
      refine vX12_advance_0 τ Q (r_byteAt B L q τ a ⟨q0, q1⟩ _ f2 _ (fun v hv1 hv2 rv => ⟨fun z => ?_, fun z => r_byteAt B L q τ a ⟨q0, q1⟩ _ f2 _ (fun v' hv1' hv2' rv' => ⟨fun z' τ1 e => ?_, fun z' => ?_⟩)⟩))
      · exfalso
        by_cases g : q < L
        · have := hv1 g; have := nb g; omega
        · have := hv2 g; omega
      · rw [f2] at e
        have k1 : fR σ τ1 := fR.trans f1 (fR.set e (by omega))
        have b := rA.keep k1 hA
        have k3 : gI τ1 88 3 = q := by rw [e, sI_nei (by omega)]; exact f2
        have k4 : gI τ1 88 4 = q := by rw [e, sI_eq]
        refine r_byteAt B L q τ1 b ⟨q0, q1⟩ _ k3 _ (fun u hu1 hu2 ru => ⟨fun g0 => ?_, fun g0 τ2 e2 => ?_⟩)
        · have g : q < L := Decidable.byContradiction (fun n => by have := hu2 n; omega)
          have hu := hu1 g
          refine r_isLetter u ru τ1 _ (fun w hw _ => ⟨fun zw => ?_, fun zw => ?_⟩)
          · have nl : ¬ lt (B q) = true := fun n => by have := lt_t.1 n; have := hw.1 zw; omega
            refine r_isDigit u ru τ1 _ (fun w hw _ => ⟨fun zw => ?_, fun zw τ2 e2 => ?_⟩)
            · have nd : ¬ dgt (B q) = true := fun n => by have := dgt_t.1 n; have := hw.1 zw; omega
              rw [k3]
              refine ⟨⟨by omega, by omega⟩, fun τ2 e2 v hv τ3 e3 => h τ3 (fR.trans (fR.trans k1 (fR.set e2 (by omega))) (fR.set e3 (by omega))) ?_⟩
              have hK : tK B L p = (if B q = 59 then 3 else 4) := by unfold tK eK; rw [es, if_pos g, if_neg nl, if_neg nd]
              have hE : tE B L p = q + 1 := by unfold tE eE; rw [es, if_pos g, if_neg nl, if_neg nd]
              refine ⟨?_, ?_, ?_, fun z => ?_, fun z => ?_⟩
              · rw [e3, sI_nei (by omega), e2, sI_eq, hE]
              · rw [e3, sI_nei (by omega), e2, sI_nei (by omega), k4, es]
              · rw [e3, sI_eq, hv]
                unfold rK
                rw [hK]
                by_cases e59 : B q = 59
                · rw [if_pos (by omega), if_pos e59]; rfl
                · rw [if_neg (by omega), if_neg e59]; rfl
              · exfalso; rw [hK] at z; revert z; split <;> decide
              · exfalso; rw [hK] at z; revert z; split <;> decide
            · have yd : dgt (B q) = true := dgt_t.2 (by have := hw.2 zw; omega)
              have k2 : fR σ τ2 := fR.trans k1 (fR.set e2 (by omega))
              refine r_digits B L q u ru ⟨q0, q1⟩ τ2 (rA.keep k2 hA) (by rw [e2, sI_nei (by omega)]; exact k3) (by rw [e2, sI_nei (by omega)]; exact k4) (by rw [e2, sI_eq]) _ (fun τ3 w1 w2 w3 w4 w5 => h τ3 (fR.trans k2 w1) ?_)
              have hE : tE B L p = av dgt B L q := by unfold tE eE; rw [es, if_pos g, if_neg nl, if_pos yd]
              have hK : tK B L p = (if 2 < av dgt B L q - q then 4 else 2) := by
                rw [← hE]; unfold tK eK; rw [es, if_pos g, if_neg nl, if_pos yd]; unfold tE; rw [es]
              refine ⟨by rw [w2, hE], by rw [w3, es], ?_, fun _ => by unfold tN; rw [w5, es, hE], fun z => ?_⟩
              · rw [w4]
                unfold rK
                rw [hK]
                by_cases e2 : 2 < av dgt B L q - q
                · rw [if_neg (by omega), if_pos e2]; rfl
                · rw [if_pos (by omega), if_neg e2]; rfl
              · exfalso; rw [hK] at z; revert z; split <;> decide
          · have yl : lt (B q) = true := lt_t.2 (by have := hw.2 zw; omega)
            refine r_word B L q u ru ⟨q0, q1⟩ τ1 b k3 k4 _ (fun τ2 w1 w2 w3 w4 w5 => h τ2 (fR.trans k1 w1) ?_)
            have hE : tE B L p = av lt B L q := by unfold tE eE; rw [es, if_pos g, if_pos yl]
            have hK : tK B L p = 1 := by unfold tK eK; rw [es, if_pos g, if_pos yl]
            have hW : tW B L p = gI τ2 88 7 := by
              rw [w4, ← hE]; unfold tW eW tE; rw [es]
            refine ⟨by rw [w2, hE], by rw [w3, es], ?_, fun z => ?_, fun _ => hW.symm⟩
            · rw [w5]; unfold rK; rw [if_pos hK, hW]
            · rw [hK] at z; exact absurd z (by decide)
        · have g : ¬ q < L := fun n => by have := hu1 n; omega
          have h0 : tK B L p = 0 := (tK_0 p).2 (by omega)
          refine h τ2 (fR.trans k1 (fR.set e2 (by omega))) ⟨?_, ?_, ?_, fun z => by omega, fun z => by omega⟩
          · rw [e2, sI_nei (by omega), k3]; unfold tE eE; rw [es, if_neg g]
          · rw [e2, sI_nei (by omega), k4, es]
          · rw [e2, sI_eq]; unfold rK; rw [h0]; rfl
      · exfalso
        by_cases g : q < L
        · have := hv1' g; have := nb g; omega
        · have := hv2' g; omega
  exact key p σ hp.1 hp.2 fR.rfl' h3 rfl
end MT2
