section MT9
variable {l : Launch} {G : gG}
theorem nP_ge {B : Int → Int} {L : Int} : ∀ (rs : List (Int × Int)) (q : Int), q ≤ nP B L rs q
  | [], q => by have h1 := tS_ge (B := B) (L := L) q; have h2 := tE_ge (B := B) (L := L) q; show q ≤ tE B L q; omega
  | _ :: rs, q => by have h1 := tS_ge (B := B) (L := L) q; have h2 := tE_ge (B := B) (L := L) q; have h3 := nP_ge (B := B) (L := L) rs (tE B L q); show q ≤ nP B L rs (tE B L q); omega
theorem tab_w (w : Int) (h : 0 ≤ w ∧ w ≤ 10) : tabW w 0 (wR (w + 1)) ∧ gst 1 w ≤ 3 ∧ 0 ≤ gst 1 w := by
  rcases (show w = 0 ∨ w = 1 ∨ w = 2 ∨ w = 3 ∨ w = 4 ∨ w = 5 ∨ w = 6 ∨ w = 7 ∨ w = 8 ∨ w = 9 ∨ w = 10 by omega) with e | e | e | e | e | e | e | e | e | e | e <;> subst e
  · exact ⟨⟨by decide, by decide, by decide, ⟨by decide, by decide⟩, by show gst 1 0 ≤ _; decide⟩, by decide, by decide⟩
  · exact ⟨⟨by decide, by decide, by decide, ⟨by decide, by decide⟩, by show gst 1 1 ≤ _; decide⟩, by decide, by decide⟩
  · exact ⟨⟨by decide, by decide, by decide, ⟨by decide, by decide⟩, by show gst 1 2 ≤ _; decide⟩, by decide, by decide⟩
  · exact ⟨⟨by decide, by decide, by decide, ⟨by decide, by decide⟩, by show gst 1 3 ≤ _; decide⟩, by decide, by decide⟩
  · exact ⟨by show gst 1 4 ≤ _; decide, by decide, by decide⟩
  · exact ⟨⟨by decide, by decide, by decide, ⟨by decide, by decide⟩, by show gst 1 5 ≤ _; decide⟩, by decide, by decide⟩
  · exact ⟨⟨by decide, by decide, by decide, ⟨by decide, by decide⟩, ⟨by decide, by decide, by decide, ⟨by decide, by decide⟩, by show gst 1 6 ≤ _; decide⟩⟩, by decide, by decide⟩
  · exact ⟨⟨by decide, by decide, by decide, ⟨by decide, by decide⟩, ⟨by decide, by decide, by decide, ⟨by decide, by decide⟩, by show gst 1 7 ≤ _; decide⟩⟩, by decide, by decide⟩
  · exact ⟨⟨by decide, by decide, by decide, ⟨by decide, by decide⟩, ⟨by decide, by decide, by decide, ⟨by decide, by decide⟩, by show gst 1 8 ≤ _; decide⟩⟩, by decide, by decide⟩
  · exact ⟨⟨by decide, by decide, by decide, ⟨by decide, by decide⟩, ⟨by decide, by decide, by decide, ⟨by decide, by decide⟩, ⟨by decide, by decide, by decide, ⟨by decide, by decide⟩, by show gst 1 9 ≤ _; decide⟩⟩⟩, by decide, by decide⟩
  · exact ⟨⟨by decide, by decide, by decide, ⟨by decide, by decide⟩, ⟨by decide, by decide, by decide, ⟨by decide, by decide⟩, ⟨by decide, by decide, by decide, ⟨by decide, by decide⟩, by show gst 1 10 ≤ _; decide⟩⟩⟩, by decide, by decide⟩
/-- rows after a line with numbers W -/
def V2 (x c w : Int) (V : Int → Int → Int) (W : Int → Int) : Int → Int → Int :=
  fun i j => if x = 0 then (if j = w then W 0 else V i j) else if i = c ∧ c < liM x then (if j = 0 then (if x = 1 then w - 4 else 10 - w) else W (j - 1)) else V i j
theorem c_nums (B : Int → Int) (L x w c E P FK FP : Int) (W : Int → Int) (V : Int → Int → Int) (σ0 : gS) (Q : Int → gS → Prop) (hx : x = 0 ∨ x = 1 ∨ x = 2) (hw : loW x ≤ w + 1 ∧ w + 1 ≤ hiW x) (hw' : 0 ≤ w ∧ w ≤ 10) (hn : gst 1 w ≤ 3 ∧ 0 ≤ gst 1 w) (hc : 0 ≤ c ∧ c ≤ liM x ∧ (x = 0 → c = 0))
    (hbad : ∀ τ, fCr σ0 τ → gI τ 27 3 = 1 → gI τ 27 4 = E → ¬ E = -1 → Q 0 τ) (hgood : E = -1 → ∀ τ, CSt B L x σ0 P (c1 x c) FK FP (V2 x c w V W) τ → Q 1 τ) :
    ∀ (m : Nat) (j : Int) (rs : List (Int × Int)) (q : Int) (σ : gS), j = 3 - m → 0 ≤ j → tabW w j rs → fCr σ0 σ → tA B L σ → tC B L q σ → (0 ≤ q ∧ q ≤ L) → gI σ 27 2 = c → nE B L rs q = E → nP B L rs q = P → fK B L rs q (gI σ 27 3) = FK → fQ B L rs q (gI σ 27 3) (gI σ 27 4) = FP → (∀ i, 0 ≤ i → i < j → gI σ 30 i = W i) → (∀ i, 0 ≤ i → nV B L rs q i = W (j + i)) → CWr x c V σ → kX7_readLine_38 l G x w j σ Q := by
  have rx : gR x := by rcases hx with e | e | e <;> rw [e] <;> decide
  have rw' : gR w := ⟨by omega, by omega⟩
  intro m
  induction m with
  | zero =>
    intro j rs q σ hj j0 ht f1 f2 f3 f4 f5 f6 f7 f8 f9 f10 f11 f12
    have j3 : j = 3 := by omega
    subst j3
    have s1 := tS_ge (B := B) (L := L) q
    have s2 := tE_ge (B := B) (L := L) q
    have s3 := tE_le (B := B) (L := L) q f4.2
    cases rs with
    | cons r rs => have := ht.1; omega
    | nil =>
      refine vX7_readLine_38 x w 3 rx rw' (by decide) σ Q ⟨fun _ => ⟨fun g => ?_, fun g => ?_⟩, fun y => by omega⟩
      · have hK : tK B L q = 3 := f3.2.1.symm.trans g
        have e1 : E = -1 := by rw [← f6]; exact if_pos hK
        have eP : P = tE B L q := f7.symm
        refine c_nextToken B L (tE B L q) ⟨by omega, s3⟩ σ f2 f3.1 _ (fun τ t1 t2 => ?_)
        have g1 : fCr σ0 τ := fCr.trans f1 (fCr.ofP t1)
        refine c_keepLine x w c hx hw τ ⟨(t1.1 _ _ (by omega)).trans f5, hc.1, hc.2.1⟩ _ (fun υ u1 u2 u3 u4 u5 => hgood e1 υ ?_)
        have g2 : ∀ i, ¬ i = 2 → ¬ (8 ≤ i ∧ i ≤ 11) → gI υ 27 i = gI σ 27 i := fun i n1 n2 => (u2 i n1).trans (t1.1 _ _ (by omega))
        refine ⟨fCr.trans g1 u1, tA.keepC (fCr.trans (fCr.ofP t1) u1) (g2 7 (by decide) (by decide)) f2, ?_, ⟨u3, ?_, ?_⟩, by rw [eP]; omega, ⟨?_, ?_, fun y => ?_⟩, fun y i i0 i1 => ?_, fun y i j i0 i1 j0 j1 => ?_⟩
        · rw [eP]; exact tC.keep (fun i i0 i1 => u2 i (by omega)) t2
        · rw [g2 3 (by decide) (by decide), ← f8]; unfold fK
          by_cases z : gI σ 27 3 = 0
          · rw [if_neg (fun n => n z), z]; exact (if_pos rfl).symm
          · rw [if_pos z]
        · rw [g2 4 (by decide) (by decide), ← f9]; unfold fQ
          by_cases z : gI σ 27 3 = 0
          · rw [if_neg (fun n => n z)]; exact (if_pos rfl).symm
          · rw [if_pos z]
        · unfold c1
          split
          · exact hc.1
          · split
            · omega
            · exact hc.1
        · unfold c1
          split
          · exact hc.2.1
          · split
            · omega
            · exact hc.2.1
        · unfold c1; rw [if_pos y]; exact hc.2.2 y
        · rw [u4 y]
          show _ = if x = 0 then _ else _
          rw [if_pos y, t1.1 _ _ (by omega), t1.1 _ _ (by omega), f10 0 (by omega) (by omega), f12.1 y i i0 i1]
        · rw [u5 y i j i0 i1 j0 j1]
          show _ = if x = 0 then _ else _
          rw [if_neg y]
          by_cases z : i = c ∧ c < liM x
          · rw [if_pos z, if_pos z]
            by_cases zj : j = 0
            · rw [if_pos zj, if_pos zj]
            · rw [if_neg zj, if_neg zj, t1.1 _ _ (by omega), f10 (j - 1) (by omega) (by omega)]
          · rw [if_neg z, if_neg z, t1.1 _ _ (by omega)]
            refine f12.2 y i j i0 ?_ j0 j1
            unfold c1 at i1
            rw [if_neg y] at i1
            by_cases zc : c < liM x
            · rw [if_pos zc] at i1; omega
            · rw [if_neg zc] at i1; exact i1
      · have hK : ¬ tK B L q = 3 := fun e => g (f3.2.1.trans e)
        have e1 : E = tS B L q := by rw [← f6]; exact if_neg hK
        exact c_noText σ _ (fun τ t1 t2 t3 _ => hbad τ (fCr.trans f1 t1) t2 (by rw [t3, e1]; exact f3.2.2.1) (by omega))
  | succ m ih =>
    intro j rs q σ hj j0 ht f1 f2 f3 f4 f5 f6 f7 f8 f9 f10 f11 f12
    have s1 := tS_ge (B := B) (L := L) q
    have s2 := tE_ge (B := B) (L := L) q
    have s3 := tE_le (B := B) (L := L) q f4.2
    have j3 : j < 3 := by omega
    refine vX7_readLine_38 x w j rx rw' ⟨by omega, by omega⟩ σ Q ⟨fun y => by omega, fun _ => ⟨⟨j0, j3⟩, fun σ1 e1 => ⟨by omega, ⟨by omega, by omega⟩, fun g => ?_, fun g => ⟨fun g2 => ?_, fun g2 => ?_⟩⟩⟩⟩
    · cases rs with
      | cons r rs => have := ht.1; omega
      | nil =>
        have k1 : fCr σ σ1 := fCr.set e1 (by omega)
        have k7 : ∀ i, gI σ1 27 i = gI σ 27 i := fun i => by rw [e1, sI_ne (by decide)]
        refine ih (j + 1) [] q σ1 (by omega) (by omega) (by show gst 1 w ≤ j + 1; omega) (fCr.trans f1 k1) (tA.keepC k1 (k7 7) f2) (tC.keep (fun i _ _ => k7 i) f3) f4 ((k7 2).trans f5) f6 f7 (by rw [k7]; exact f8) (by rw [k7, k7]; exact f9) (fun i i0 i1 => ?_) (fun i i0 => ?_) ⟨fun y i i0 i1 => by rw [e1, sI_ne (by decide)]; exact f12.1 y i i0 i1, fun y i i' a b a' b' => by rw [e1, sI_ne (by decide)]; exact f12.2 y i i' a b a' b'⟩
        · rw [e1]
          by_cases z : i = j
          · rw [z, sI_eq]; have := f11 0 (by omega); rw [show j + 0 = j by omega] at this; exact this
          · rw [sI_nei z]; exact f10 i i0 (by omega)
        · have := f11 (i + 1) (by omega)
          rw [show j + 1 + i = j + (i + 1) by omega, ← this]; rfl
    · cases rs with
      | nil => exact absurd (show gst 1 w ≤ j from ht) (by omega)
      | cons r rs =>
        have k1 : fCr σ σ1 := fCr.set e1 (by omega)
        have k7 : ∀ i, gI σ1 27 i = gI σ 27 i := fun i => by rw [e1, sI_ne (by decide)]
        have hK : tK B L q = 2 := by rw [k7] at g2; exact f3.2.1.symm.trans g2
        have sg := tE_gt (B := B) (L := L) q (by omega)
        refine c_takeNumber B L q w j r.1 r.2 hw' ⟨j0, j3⟩ ht.2.1 ht.2.2.1 ht.2.2.2.1 σ1 (tC.keep (fun i _ _ => k7 i) f3) hK _ (fun τ t1 t2 t3 t4 t5 => ?_)
        have k2 : fCr σ τ := fCr.trans k1 t1
        have m7 : ∀ i, ¬ (i = 3 ∨ i = 4) → gI τ 27 i = gI σ 27 i := fun i n => (t2 _ _ (by omega) (by omega)).trans (k7 i)
        refine c_nextToken B L (tE B L q) ⟨by omega, s3⟩ τ (tA.keepC k2 (m7 7 (by omega)) f2) ((m7 8 (by omega)).trans f3.1) _ (fun υ u1 u2 => ?_)
        have k3 : fCr σ υ := fCr.trans k2 (fCr.ofP u1)
        rw [k7, k7] at t5
        rw [k7] at t4
        have d6 : nF B L (r :: rs) q = if tN B L q < r.1 ∨ r.2 < tN B L q then tS B L q else nF B L rs (tE B L q) := rfl
        have nn : ∀ c i, ¬ (c = 27 ∧ (i = 3 ∨ i = 4)) → ¬ (c = 30 ∧ i = j) → ¬ (c = 27 ∧ 8 ≤ i ∧ i ≤ 11) → gI υ c i = gI σ c i := by
          intro c i n1 n2 n3
          rw [u1.1 c i n3, t2 c i n1 n2, e1, sI_at, if_neg n2]
        refine ih (j + 1) rs (tE B L q) υ (by omega) (by omega) ht.2.2.2.2 (fCr.trans f1 k3) (tA.keepC k3 (nn _ _ (by omega) (by omega) (by omega)) f2) u2 ⟨by omega, s3⟩ ((nn _ _ (by omega) (by omega) (by omega)).trans f5) (by rw [← f6]; exact (if_pos hK).symm) f7 ?_ ?_ (fun i i0 i1 => ?_) (fun i i0 => ?_) ⟨fun y i i0 i1 => by rw [nn _ _ (by omega) (by omega) (by omega)]; exact f12.1 y i i0 i1, fun y i i' a b a' b' => by rw [nn _ _ (by omega) (by omega) (by omega)]; exact f12.2 y i i' a b a' b'⟩
        · rw [u1.1 _ _ (by omega), t4, ← f8]; unfold fK
          by_cases z : gI σ 27 3 = 0
          · rw [if_neg (show ¬ ¬ gI σ 27 3 = 0 from fun n => n z), if_neg (show ¬ ¬ gI σ 27 3 = 0 from fun n => n z), d6]
            by_cases y : tN B L q < r.1 ∨ r.2 < tN B L q
            · rw [if_pos y, if_pos y, if_neg (show ¬ tS B L q = -1 by omega)]; exact if_pos (by decide)
            · rw [if_neg y, if_neg y]; exact if_neg (fun n => n rfl)
          · rw [if_pos z, if_pos z, if_pos z]
        · rw [u1.1 _ _ (by omega), u1.1 _ _ (by omega), t4, t5, ← f9]; unfold fQ
          by_cases z : gI σ 27 3 = 0
          · rw [if_neg (show ¬ ¬ gI σ 27 3 = 0 from fun n => n z), if_neg (show ¬ ¬ gI σ 27 3 = 0 from fun n => n z), if_neg (show ¬ ¬ gI σ 27 3 = 0 from fun n => n z), d6]
            by_cases y : tN B L q < r.1 ∨ r.2 < tN B L q
            · rw [if_pos y, if_pos y, if_pos y, if_neg (show ¬ tS B L q = -1 by omega)]; exact if_pos (by decide)
            · rw [if_neg y, if_neg y, if_neg y]; exact if_neg (fun n => n rfl)
          · rw [if_pos z, if_pos z, if_pos z, if_pos z]
        · rw [u1.1 _ _ (by omega)]
          by_cases z : i = j
          · have w0 := f11 0 (by omega)
            rw [show j + 0 = j by omega] at w0
            rw [z, t3, ← w0]; exact (if_pos rfl).symm
          · rw [t2 _ _ (by omega) (by omega), e1, sI_nei z]; exact f10 i i0 (by omega)
        · have w0 := f11 (i + 1) (by omega)
          rw [show j + 1 + i = j + (i + 1) by omega, ← w0]
          show _ = if i + 1 = 0 then _ else nV B L rs (tE B L q) (i + 1 - 1)
          rw [if_neg (by omega), show i + 1 - 1 = i by omega]
    · cases rs with
      | nil => exact absurd (show gst 1 w ≤ j from ht) (by omega)
      | cons r rs =>
        have k1 : fCr σ σ1 := fCr.set e1 (by omega)
        have k7 : ∀ i, gI σ1 27 i = gI σ 27 i := fun i => by rw [e1, sI_ne (by decide)]
        have hK : ¬ tK B L q = 2 := fun e => g2 (by rw [k7]; exact f3.2.1.trans e)
        have eE' : E = tS B L q := by rw [← f6]; exact if_neg hK
        exact c_noText σ1 _ (fun τ t1 t2 t3 _ => hbad τ (fCr.trans (fCr.trans f1 k1) t1) t2 (by rw [t3, k7, eE']; exact f3.2.2.1) (by omega))
theorem c_readLine (hW : wHere l G) (B : Int → Int) (L x p c k f : Int) (V : Int → Int → Int) (hx : x = 0 ∨ x = 1 ∨ x = 2) (σ0 σ : gS) (hS : CSt B L x σ0 p c k f V σ) (Q : Int → gS → Prop)
    (hbad : ∀ τ E, fCr σ0 τ → gI τ 27 3 = 1 → gI τ 27 4 = E → (¬ inS B L x p ∧ E = tS B L p) ∨ (inS B L x p ∧ ¬ nE B L (wR (tW B L p)) (tE B L p) = -1 ∧ E = nE B L (wR (tW B L p)) (tE B L p)) → Q 0 τ)
    (hgood : inS B L x p → nE B L (wR (tW B L p)) (tE B L p) = -1 → ∀ τ, CSt B L x σ0 (nP B L (wR (tW B L p)) (tE B L p)) (c1 x c) (fK B L (wR (tW B L p)) (tE B L p) (k0 x c k)) (fQ B L (wR (tW B L p)) (tE B L p) (k0 x c k) (f0 x c k f (tS B L p))) (V1 B L x c (tW B L p) V (wR (tW B L p)) (tE B L p)) τ → Q 1 τ) : eX7_readLine l G x σ Q := by
  have rx : gR x := by rcases hx with e | e | e <;> rw [e] <;> decide
  obtain ⟨a1, a2, a3, ⟨a4, a5, a6⟩, a7, a8, a9⟩ := hS
  refine vX7_readLine x rx σ Q (hW B L x p σ _ hx a7 a2 a3 (fun v hv rv => ⟨fun nv => ?_, fun ev => ?_⟩))
  · haveI : Decidable (inS B L x p) := inferInstanceAs (Decidable (tK B L p = 1 ∧ loW x ≤ tW B L p ∧ tW B L p ≤ hiW x))
    have hi : inS B L x p := Decidable.byContradiction (fun n => nv (hv.2 n))
    have ev := hv.1 hi
    have hb := hi.2
    have bw : 0 ≤ v ∧ v ≤ 10 := by
      
      rcases hx with e | e | e <;> subst e
      · have h9 : (1 : Int) ≤ tW B L p ∧ tW B L p ≤ 4 := hb
        omega
      · have h9 : (5 : Int) ≤ tW B L p ∧ tW B L p ≤ 9 := hb
        omega
      · have h9 : (10 : Int) ≤ tW B L p ∧ tW B L p ≤ 11 := hb
        omega
    have hT := tab_w v bw
    have ew : v + 1 = tW B L p := by omega
    rw [ew] at hT
    have sg := tE_gt (B := B) (L := L) p (by have := hi.1; omega)
    have s1 := tS_ge (B := B) (L := L) p
    have s3 := tE_le (B := B) (L := L) p a7.2
    have hV : V2 x c v V (nV B L (wR (tW B L p)) (tE B L p)) = V1 B L x c (tW B L p) V (wR (tW B L p)) (tE B L p) := by
      funext i j
      unfold V1 V2
      rw [← ew, show v + 1 - 1 = v by omega, show v + 1 - 5 = v - 4 by omega, show 11 - (v + 1) = 10 - v by omega]
    have T : ∀ τ1 : gS, fP σ τ1 ∨ (fCr σ τ1 ∧ ∀ c i, ¬ (c = 27 ∧ (i = 3 ∨ i = 4)) → gI τ1 c i = gI σ c i) → gI τ1 27 3 = k0 x c k → gI τ1 27 4 = f0 x c k f (tS B L p) → gI τ1 27 8 = tE B L p → eX7_nextToken l G τ1 (fun σ10 => kX7_readLine_38 l G x v 0 σ10 Q) := by
      intro τ1 t1 t3 t4 t8
      have F : fCr σ τ1 ∧ ∀ c i, c ≠ 27 → gI τ1 c i = gI σ c i := by
        rcases t1 with t | t
        · exact ⟨fCr.ofP t, fun c i n => t.1 c i (by omega)⟩
        · exact ⟨t.1, fun c i n => t.2 c i (by omega)⟩
      have F7 : gI τ1 27 7 = gI σ 27 7 ∧ gI τ1 27 2 = gI σ 27 2 := by
        rcases t1 with t | t
        · exact ⟨t.1 _ _ (by omega), t.1 _ _ (by omega)⟩
        · exact ⟨t.2 _ _ (by omega), t.2 _ _ (by omega)⟩
      have A1 := tA.keepC F.1 F7.1 a2
      refine c_nextToken B L (tE B L p) ⟨by omega, s3⟩ τ1 A1 t8 _ (fun τ u1 u2 => ?_)
      have g3 : gI τ 27 3 = k0 x c k := (u1.1 _ _ (by omega)).trans t3
      have g4 : gI τ 27 4 = f0 x c k f (tS B L p) := (u1.1 _ _ (by omega)).trans t4
      refine c_nums B L x v c _ _ _ _ (nV B L (wR (tW B L p)) (tE B L p)) V σ0 Q hx (by rw [ew]; exact hb) bw hT.2 a8 (fun υ z1 z2 z3 z4 => hbad υ _ z1 z2 z3 (Or.inr ⟨hi, z4, rfl⟩)) (fun z υ z1 => hgood hi z υ (by rw [← hV]; exact z1)) 3 0 (wR (tW B L p)) (tE B L p) τ (by decide) (by decide) hT.1 (fCr.trans a1 (fCr.trans F.1 (fCr.ofP u1))) (tA.keep u1 A1) u2 ⟨by omega, s3⟩ ((u1.1 _ _ (by omega)).trans (F7.2.trans a4)) rfl rfl (by rw [g3]) (by rw [g3, g4]) (fun i i0 i1 => by omega) (fun i _ => by rw [show 0 + i = i by omega]) ⟨fun y i i0 i1 => ?_, fun y i j i0 i1 j0 j1 => ?_⟩
      · rw [u1.1 _ _ (by omega), F.2 _ _ (by decide)]; exact a9.1 y i i0 i1
      · rw [u1.1 _ _ (by omega), F.2 _ _ (by decide)]; exact a9.2 y i j i0 i1 j0 j1
    refine c_limitOf x rx hx σ _ (fun _ => ⟨fun g => T σ (Or.inl fP.rfl') ?_ ?_ a3.1, fun g => ?_⟩)
    · rw [a5]; unfold k0
      by_cases e : k = 0
      · rw [if_neg (fun n => n e), if_neg (by omega), e]
      · rw [if_pos e]
    · rw [a6]; unfold f0
      by_cases e : k = 0
      · rw [if_neg (fun n => n e), if_neg (by omega)]
      · rw [if_pos e]
    · rw [a4] at g
      refine c_noteFault 3 (by decide) σ _ (fun τ t1 t2 t3 t4 => T τ (Or.inr ⟨t1, t2⟩) ?_ ?_ ((t2 _ _ (by omega)).trans a3.1))
      · rw [t3, a5]; unfold k0
        by_cases e : k = 0
        · rw [if_neg (fun n => n e), if_neg (fun n => n e), if_pos g]
        · rw [if_pos e, if_pos e]
      · rw [t4, a5, a6, a3.2.2.1]; unfold f0
        by_cases e : k = 0
        · rw [if_neg (fun n => n e), if_neg (fun n => n e), if_pos g]
        · rw [if_pos e, if_pos e]
  · have hi : ¬ inS B L x p := by
      intro n
      have h1 := hv.1 n
      have h2 := n.2.1
      have h3 := tW_r B L p
      unfold loW at h2
      revert h2
      split
      · intro h2; omega
      · split <;> intro h2 <;> omega
    exact c_noText σ _ (fun τ t1 t2 t3 _ => hbad τ _ (fCr.trans a1 t1) t2 t3 (Or.inl ⟨hi, a3.2.2.1⟩))
/-- the class' text is read -/
def RdF (x : Int) (σ0 : gS) (c' k' f' : Int) (V' : Int → Int → Int) (τ : gS) : Prop := fCr σ0 τ ∧ gI τ 27 3 = k' ∧ gI τ 27 4 = f' ∧ (k' = 0 → gI τ 27 2 = c' ∧ 0 ≤ c' ∧ c' ≤ liM x ∧ CWr x c' V' τ)
theorem c_loop (hW : wHere l G) (B : Int → Int) (L x x2 : Int) (r2 : gR x2) (hx : x = 0 ∨ x = 1 ∨ x = 2) (σ0 : gS) (Q : gS → Prop) : ∀ (m : Nat) (p c k f : Int) (V : Int → Int → Int) (σ : gS) (x5 : Int), CSt B L x σ0 p c k f V σ → (L - p).toNat ≤ m → 0 ≤ x5 → x5 ≤ p → (∀ τ c' k' f' V' n, Par B L x c' k' f' V' n p c k f V → RdF x σ0 c' k' f' V' τ → Q τ) → kX7_read_74 l G x2 x 1 x5 σ Q := by
  have rx : gR x := by rcases hx with e | e | e <;> rw [e] <;> decide
  intro m
  induction m with
  | zero =>
    intro p c k f V σ x5 hS hm h50 h5 h
    obtain ⟨a1, a2, a3, ⟨a4, a5, a6⟩, a7, a8, a9⟩ := id hS
    have hL := a2.2.2.2.2.1
    have s1 := tS_ge (B := B) (L := L) p
    have hK : tK B L p = 0 := (tK_0 p).2 (by omega)
    have fin : Q σ := h σ c k f V 1 (Or.inl ⟨hK, rfl, rfl, rfl, rfl⟩) ⟨a1, a5, a6, fun _ => ⟨a4, a8.1, a8.2.1, a9⟩⟩
    exact vX7_read_74 x2 x 1 x5 r2 rx (by decide) ⟨by omega, by omega⟩ σ Q ⟨fun _ => fin, fun _ => ⟨fun _ => fin, fun _ => ⟨fun _ => fin, fun y => absurd (a3.2.1.trans hK) y⟩⟩⟩
  | succ m ih =>
    intro p c k f V σ x5 hS hm h50 h5 h
    obtain ⟨a1, a2, a3, ⟨a4, a5, a6⟩, a7, a8, a9⟩ := id hS
    have hL := a2.2.2.2.2.1
    have s1 := tS_ge (B := B) (L := L) p
    have fin : tK B L p = 0 → Q σ := fun hK => h σ c k f V 1 (Or.inl ⟨hK, rfl, rfl, rfl, rfl⟩) ⟨a1, a5, a6, fun _ => ⟨a4, a8.1, a8.2.1, a9⟩⟩
    refine vX7_read_74 x2 x 1 x5 r2 rx (by decide) ⟨by omega, by omega⟩ σ Q ⟨fun g => fin ((tK_0 p).2 (by omega)), fun g => ⟨fun y => absurd y (by decide), fun _ => ⟨fun y => fin (a3.2.1.symm.trans y), fun y => ?_⟩⟩⟩
    have hK : ¬ tK B L p = 0 := fun e => y (a3.2.1.trans e)
    have sg := tE_gt (B := B) (L := L) p hK
    refine c_readLine hW B L x p c k f V hx σ0 σ hS _ (fun τ E t1 t2 t3 t4 _ => ?_) (fun hi hE τ hτ _ => ?_)
    · have fin2 : Q τ := by
        rcases t4 with ⟨d1, d2⟩ | ⟨d1, d2, d3⟩
        · exact h τ c 1 E V 1 (Or.inr (Or.inl ⟨hK, d1, rfl, d2⟩)) ⟨t1, t2, t3, fun z => absurd z (by decide)⟩
        · exact h τ c 1 E V 1 (Or.inr (Or.inr (Or.inl ⟨d1, d2, rfl, d3⟩))) ⟨t1, t2, t3, fun z => absurd z (by decide)⟩
      exact vX7_read_74 x2 x 0 (x5 + 1) r2 rx (by decide) ⟨by omega, by omega⟩ τ Q ⟨fun _ => fin2, fun _ => ⟨fun _ => fin2, fun z => absurd rfl z⟩⟩
    · have np := nP_ge (B := B) (L := L) (wR (tW B L p)) (tE B L p)
      refine ih _ _ _ _ _ τ (x5 + 1) hτ (by omega) (by omega) (by omega) (fun υ c' k' f' V' n hP hR => h υ c' k' f' V' (n + 1) (Or.inr (Or.inr (Or.inr ⟨hi, hE, hP⟩))) hR)
end MT9
