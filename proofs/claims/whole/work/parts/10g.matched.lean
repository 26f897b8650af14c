/-- who is busy behind rounds -/
def bmX (P : Int) (X0 X : mX) : Prop :=
  (∀ i, 0 ≤ i → (X.1 i = true ↔ X0.1 i = true ∨ ∃ o, 0 ≤ o ∧ o < P ∧ X.2.2.2.2 o = i)) ∧
  (∀ o, X.2.1 o = true ↔ X0.2.1 o = true ∨ X.2.2.2.2 o ≠ -1) ∧ (∀ o, X.2.2.2.2 o ≠ -1 → X0.2.1 o = false)
theorem sGd_in {P : Int} {ask : Int → Int → Bool} {X : mX} (hX : okX P X) (o : Int) (ho : 0 ≤ o ∧ o < P) : sGd P ask X o = -1 ∨ (0 ≤ sGd P ask X o ∧ sGd P ask X o < P ∧ X.1 (sGd P ask X o) = false ∧ X.2.1 o = false ∧ ask (sGd P ask X o) o = true) := by
  have hx := hX o ho.1 ho.2
  have h := fst_in (fun i => !X.1 i && !X.2.1 o && ask i o) (s := X.2.2.1 o) (P := P) ⟨hx.1, hx.2.1⟩
  have h' : sGd P ask X o = -1 ∨ (0 ≤ sGd P ask X o ∧ sGd P ask X o < P ∧ (!X.1 (sGd P ask X o) && !X.2.1 o && ask (sGd P ask X o) o) = true) := h
  rcases h' with e | ⟨e1, e2, e3⟩
  · exact Or.inl e
  · simp only [Bool.and_eq_true, Bool.not_eq_true'] at e3
    exact Or.inr ⟨e1, e2, e3.1.1, e3.1.2, e3.2⟩
theorem sBest_in {P : Int} {gd : Int → Int} {X : mX} (hX : okX P X) (i : Int) (hi : 0 ≤ i ∧ i < P) : sBest P gd i X = -1 ∨ (0 ≤ sBest P gd i X ∧ sBest P gd i X < P ∧ gd (sBest P gd i X) = i) := by
  have hx := hX i hi.1 hi.2
  have h := fst_in (fun o => decide (gd o = i)) (s := X.2.2.2.1 i) (P := P) ⟨hx.2.2.1, hx.2.2.2⟩
  have h' : sBest P gd i X = -1 ∨ (0 ≤ sBest P gd i X ∧ sBest P gd i X < P ∧ decide (gd (sBest P gd i X) = i) = true) := h
  rcases h' with e | ⟨e1, e2, e3⟩
  · exact Or.inl e
  · exact Or.inr ⟨e1, e2, by simpa using e3⟩
theorem bmX_accs {P : Int} {ask : Int → Int → Bool} {X0 X : mX} {f : Bool} (hX : okX P X) (h : bmX P X0 X) : ∀ n : Nat, (n : Int) ≤ P → bmX P X0 (sAccs P f (sGd P ask X) n X) ∧ ∀ o, (n : Int) ≤ sGd P ask X o → (sAccs P f (sGd P ask X) n X).2.2.2.2 o = X.2.2.2.2 o
  | 0, _ => ⟨h, fun _ _ => rfl⟩
  | n + 1, hn => by
    obtain ⟨ih, ih2⟩ := bmX_accs (f := f) hX h n (by omega)
    have okn := okX_accs (f := f) (gd := sGd P ask X) hX n (by omega)
    have hin := sBest_in (gd := sGd P ask X) okn n ⟨by omega, by omega⟩
    unfold sAccs sAcc
    split
    · exact ⟨ih, fun o ho => ih2 o (by omega)⟩
    · rename_i hb
      generalize hY : sAccs P f (sGd P ask X) n X = Y at *
      rcases hin with e | ⟨e1, e2, e3⟩
      · exact absurd e hb
      · generalize sBest P (sGd P ask X) n Y = o9 at *
        have hg := sGd_in (ask := ask) hX o9 ⟨e1, e2⟩
        rw [e3] at hg
        obtain ⟨_, _, g1, g2, g3⟩ : 0 ≤ (n : Int) ∧ (n : Int) < P ∧ X.1 n = false ∧ X.2.1 o9 = false ∧ ask n o9 = true := by
          rcases hg with e | e
          · omega
          · exact e
        have xm : X.2.2.2.2 o9 = -1 := by
          by_cases z : X.2.2.2.2 o9 = -1
          · exact z
          · have := (h.2.1 o9).mpr (Or.inr z)
            rw [g2] at this; cases this
        have x0 : X0.2.1 o9 = false := by
          cases z : X0.2.1 o9
          · rfl
          · have := (h.2.1 o9).mpr (Or.inl z)
            rw [g2] at this; cases this
        have ym : Y.2.2.2.2 o9 = -1 := by rw [ih2 o9 (by omega)]; exact xm
        have hm : ∀ o, (sPair P f n o9 Y).2.2.2.2 o = if o = o9 then (n : Int) else Y.2.2.2.2 o := fun o => rfl
        have h1 : ∀ i, (sPair P f n o9 Y).1 i = (Y.1 i || decide ((n : Int) = i)) := fun i => rfl
        have h2 : ∀ o, (sPair P f n o9 Y).2.1 o = (Y.2.1 o || decide (o9 = o)) := fun i => rfl
        refine ⟨⟨fun i i0 => ?_, fun o => ?_, fun o => ?_⟩, fun o ho => ?_⟩
        · rw [h1, Bool.or_eq_true, ih.1 i i0, decide_eq_true_iff]
          constructor
          · rintro ((z | ⟨o, o0, o1, o2⟩) | z)
            · exact Or.inl z
            · exact Or.inr ⟨o, o0, o1, by rw [hm, if_neg]; exact o2; intro q; subst q; omega⟩
            · exact Or.inr ⟨o9, e1, e2, by rw [hm, if_pos rfl]; exact z⟩
          · rintro (z | ⟨o, o0, o1, o2⟩)
            · exact Or.inl (Or.inl z)
            · rw [hm] at o2
              by_cases q : o = o9
              · rw [if_pos q] at o2; exact Or.inr o2
              · rw [if_neg q] at o2; exact Or.inl (Or.inr ⟨o, o0, o1, o2⟩)
        · rw [h2, Bool.or_eq_true, ih.2.1 o, decide_eq_true_iff, hm]
          by_cases q : o = o9
          · rw [if_pos q]
            constructor
            · intro _; exact Or.inr (by omega)
            · intro _; exact Or.inr q.symm
          · rw [if_neg q]
            constructor
            · rintro (z | z)
              · exact z
              · exact absurd z.symm q
            · intro z; exact Or.inl z
        · rw [hm]
          by_cases q : o = o9
          · intro _; rw [q]; exact x0
          · rw [if_neg q]; exact ih.2.2 o
        · rw [hm, if_neg (by intro q; subst q; omega)]
          exact ih2 o (by omega)
theorem bmX_rnds {P : Int} {ask : Int → Int → Bool} {X0 : mX} (hP : 1 ≤ P) (hX : okX P X0) (hm : ∀ o, X0.2.2.2.2 o = -1) : ∀ n : Nat, bmX P X0 (sRnds P ask n X0)
  | 0 => ⟨fun i i0 => ⟨Or.inl, fun z => by rcases z with z | ⟨o, _, _, o2⟩; exact z; have : X0.2.2.2.2 o = i := o2; rw [hm] at this; omega⟩, fun o => ⟨Or.inl, fun z => by rcases z with z | z; exact z; exact absurd (hm o) z⟩, fun o z => absurd (hm o) z⟩
  | n + 1 => (bmX_accs (okX_rnds hP hX n) (bmX_rnds hP hX hm n) _ (by omega)).1
theorem bz_iff (tk : Int → Int) (i : Int) : ∀ n : Nat, bz tk n i = true ↔ ∃ o : Int, 0 ≤ o ∧ o < n ∧ tk o = i
  | 0 => ⟨fun h => (by cases h), fun ⟨o, o0, o1, _⟩ => by omega⟩
  | n + 1 => by
    unfold bz
    rw [Bool.or_eq_true, bz_iff tk i n, decide_eq_true_iff]
    constructor
    · rintro (⟨o, o0, o1, o2⟩ | z)
      · exact ⟨o, o0, by omega, o2⟩
      · exact ⟨n, by omega, by omega, z⟩
    · rintro ⟨o, o0, o1, o2⟩
      by_cases q : o = n
      · rw [q] at o2; exact Or.inr o2
      · exact Or.inl ⟨o, o0, by omega, o2⟩
/-- who sent, what was reached in a slot -/
theorem zX_busy {S : RS} (hS : OKS S) : (∀ i, 0 ≤ i → ((zX S).1 i = true ↔ ∃ o, 0 ≤ o ∧ o < S 88 10 ∧ ((zX S).2.2.2.2 o = i ∨ zTk S o = i))) ∧ (∀ o, (zX S).2.1 o = true ↔ (zX S).2.2.2.2 o ≠ -1 ∨ zTk S o ≠ -1) ∧ ∀ o, (zX S).2.2.2.2 o = -1 ∨ zTk S o = -1 := by
  have hP := hS.1
  obtain ⟨b1, b2, b3⟩ := bmX_rnds (ask := fun i o => decide (0 < S 95 (6 * i + o))) hP.1 (okX_S hS (fun i => bz (zTk S) (S 88 10).toNat i) (fun o => decide (zTk S o ≠ -1)) (fun _ => -1)) (fun _ => rfl) (S 88 11).toNat
  have b1' : ∀ i, 0 ≤ i → ((zX S).1 i = true ↔ bz (zTk S) (S 88 10).toNat i = true ∨ ∃ o, 0 ≤ o ∧ o < S 88 10 ∧ (zX S).2.2.2.2 o = i) := b1
  have b2' : ∀ o, (zX S).2.1 o = true ↔ decide (zTk S o ≠ -1) = true ∨ (zX S).2.2.2.2 o ≠ -1 := b2
  have b3' : ∀ o, (zX S).2.2.2.2 o ≠ -1 → decide (zTk S o ≠ -1) = false := b3
  refine ⟨fun i i0 => ?_, fun o => ?_, fun o => ?_⟩
  · rw [b1' i i0, bz_iff]
    constructor
    · rintro (⟨o, o0, o1, o2⟩ | ⟨o, o0, o1, o2⟩)
      · exact ⟨o, o0, by omega, Or.inr o2⟩
      · exact ⟨o, o0, o1, Or.inl o2⟩
    · rintro ⟨o, o0, o1, o2 | o2⟩
      · exact Or.inr ⟨o, o0, o1, o2⟩
      · exact Or.inl ⟨o, o0, by omega, o2⟩
  · rw [b2' o, decide_eq_true_iff]
    exact ⟨fun z => z.elim Or.inr Or.inl, fun z => z.elim Or.inr Or.inl⟩
  · by_cases z : (zX S).2.2.2.2 o = -1
    · exact Or.inl z
    · have := b3' o z
      rw [decide_eq_false_iff_not] at this
      exact Or.inr (by omega)
