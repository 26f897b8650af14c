section MTB
variable {l : Launch} {G : gG}
def plT (x y : Int) : Int := if x = 0 then 610 + 4 * y else if x = 1 then 618 + 121 * y else 860 + 33 * y
def szT (x : Int) : Int := if x = 0 then 4 else if x = 1 then 121 else 33
theorem plT_r {x y : Int} (hx : x = 0 ∨ x = 1 ∨ x = 2) (hy : 0 ≤ y ∧ y < 2) : 610 ≤ plT x y ∧ plT x y + szT x ≤ 926 ∧ 0 < szT x ∧ szT x ≤ 121 := by
  unfold plT szT
  rcases hx with e | e | e <;> subst e
  · rw [if_pos rfl, if_pos rfl]; omega
  · rw [if_neg (by decide), if_pos rfl, if_neg (show ¬ (1 : Int) = 0 by decide), if_pos (show (1 : Int) = 1 from rfl)]; omega
  · rw [if_neg (by decide), if_neg (by decide), if_neg (show ¬ (2 : Int) = 0 by decide), if_neg (show ¬ (2 : Int) = 1 by decide)]; omega
theorem r_copy (x x2 y : Int) (hx : x = 0 ∨ x = 1 ∨ x = 2) (r2 : gR x2) (hy : 0 ≤ y ∧ y < 2) (σ : gS) (Q : Int → gS → Prop)
    (h : ∀ τ, (∀ c i, ¬ (c = 89 ∧ plT x y ≤ i ∧ i < plT x y + szT x) → gI τ c i = gI σ c i) → (∀ i, 0 ≤ i → i < szT x → gI τ 89 (plT x y + i) = gI σ 91 i) → Q y τ) : kX12_text_238 l G x x2 y 0 σ Q := by
  have rx : gR x := by rcases hx with e | e | e <;> rw [e] <;> decide
  have pr := plT_r hx hy
  have key := gloopI (α := gS) 0 (szT x) (fun j τ => j ≤ szT x ∧ (∀ c i, ¬ (c = 89 ∧ plT x y ≤ i ∧ i < plT x y + j) → gI τ c i = gI σ c i) ∧ (∀ i, 0 ≤ i → i < j → gI τ 89 (plT x y + i) = gI σ 91 i)) (fun j τ => kX12_text_238 l G x x2 y j τ Q) ?_ ?_ 0 σ (by omega) ⟨by omega, fun _ _ _ => rfl, fun i i0 i1 => by omega⟩
  · exact key
  · intro j τ j0 j1 ⟨q0, q1, q2⟩ ih
    refine vX12_text_238 x x2 y j rx r2 ⟨by omega, by omega⟩ ⟨by omega, by omega⟩ τ Q (vX12_sizeOf x rx τ _ (fun v hv _ => ?_))
    have ev : v = szT x := hv
    rw [ev]
    refine ⟨fun g => by omega, fun _ => c_placeOf x y rx ⟨by omega, by omega⟩ hy τ _ (fun _ => ⟨by omega, ?_⟩)⟩
    show (0 ≤ plT x y + j ∧ plT x y + j < 3704) ∧ ∀ σ81, σ81 = sI τ 89 (plT x y + j) (gI τ 91 j) → _
    refine ⟨by omega, fun τ1 e => ih τ1 ⟨by omega, fun c i n => ?_, fun i i0 i1 => ?_⟩⟩
    · rw [e, sI_at, if_neg (by omega)]; exact q1 c i (by omega)
    · rw [e, sI_at]
      by_cases z : i = j
      · rw [if_pos ⟨rfl, by omega⟩, z, q1 _ _ (by omega)]
      · rw [if_neg (by omega)]; exact q2 i i0 (by omega)
  · intro j τ j0 ⟨q0, q1, q2⟩
    have ej : j = szT x := by omega
    subst ej
    refine vX12_text_238 x x2 y _ rx r2 ⟨by omega, by omega⟩ ⟨by omega, by omega⟩ τ Q (vX12_sizeOf x rx τ _ (fun v hv _ => ?_))
    have ev : v = szT x := hv
    rw [ev]
    exact ⟨fun _ => h τ q1 q2, fun g => by omega⟩
/-- the reference begins to read -/
theorem r_begin (B : Int → Int) (L x x2 : Int) (hx : x = 0 ∨ x = 1 ∨ x = 2) (r2 : gR x2) (σ : gS) (hA : rA B L σ) (h3 : gI σ 88 3 = 0) (h8 : gI σ 88 8 = 0) (h5 : gI σ 89 5 = 0) (h6 : gI σ 89 6 = -1) (Q : Int → gS → Prop)
    (h : ∀ x3 τ, gR x3 → RSt B L x σ 0 0 0 (-1) V0 τ → kX12_text_132 l G x x2 x3 τ Q) : kX12_text_83 l G x x2 0 σ Q := by
  have rx : gR x := by rcases hx with e | e | e <;> rw [e] <;> decide
  have l0 : 0 ≤ liM x := by unfold liM; split; decide; split <;> decide
  have key := gloopI (α := gS) 0 121 (fun j τ => j ≤ 121 ∧ (∀ c i, c ≠ 91 → gI τ c i = gI σ c i) ∧ (∀ i, 0 ≤ i → i < j → gI τ 91 i = 0)) (fun j τ => kX12_text_83 l G x x2 j τ Q) ?_ ?_ 0 σ (by omega) ⟨by omega, fun _ _ _ => rfl, fun i i0 i1 => by omega⟩
  · exact key
  · intro j τ j0 j1 ⟨q0, q1, q2⟩ ih
    refine vX12_text_83 x x2 j rx r2 ⟨by omega, by omega⟩ τ Q ⟨fun g => by omega, fun _ => ⟨⟨j0, j1⟩, fun τ1 e => ih τ1 ⟨by omega, fun c i n => ?_, fun i i0 i1 => ?_⟩⟩⟩
    · rw [e, sI_ne n]; exact q1 c i n
    · rw [e, sI_at]
      by_cases z : i = j
      · rw [if_pos ⟨rfl, z⟩]
      · rw [if_neg (fun q => z q.2)]; exact q2 i i0 (by omega)
  · intro j τ j0 ⟨q0, q1, q2⟩
    have ej : j = 121 := by omega
    subst ej
    have go : ∀ τ1 : gS, (∀ c i, c ≠ 91 → gI τ1 c i = gI τ c i) → (x = 0 → ∀ w, 0 ≤ w → w < 4 → gI τ1 91 w = V0 0 w) → (¬ x = 0 → gI τ1 91 0 = 0) → eX12_advance l G τ1 (fun σ24 => kX12_text_132 l G x x2 121 σ24 Q) := by
      intro τ1 t1 t2 t3
      have a : ∀ c i, c ≠ 91 → gI τ1 c i = gI σ c i := fun c i n => (t1 c i n).trans (q1 c i n)
      have fl : fLn σ τ1 := fun c i n _ _ => a c i n
      refine r_advance B L 0 ⟨by omega, hA.2.1⟩ τ1 (rA.keepL fl hA) ((a _ _ (by decide)).trans h3) _ (fun υ u1 u2 => ?_)
      have b : ∀ c i, c ≠ 91 → ¬ (c = 88 ∧ 3 ≤ i ∧ i ≤ 7) → gI υ c i = gI σ c i := fun c i n1 n2 => (u1.1 c i n2).trans (a c i n1)
      refine h 121 υ (by decide) ⟨fLn.trans fl (fLn.ofR u1), rA.keep u1 (rA.keepL fl hA), ⟨(b _ _ (by decide) (by omega)).trans h8, u2, (b _ _ (by decide) (by omega)).trans h5, (b _ _ (by decide) (by omega)).trans h6⟩, ⟨by omega, hA.2.1⟩, ⟨by omega, l0, fun _ => rfl, fun n => (u1.1 _ _ (by omega)).trans (t3 n)⟩, fun y => absurd rfl y, fun _ => ⟨fun e w w0 w1 => (u1.1 _ _ (by omega)).trans (t2 e w w0 w1), fun _ i w i0 i1 => by omega, fun _ i w i0 i1 => by omega⟩⟩
    refine vX12_text_83 x x2 121 rx r2 (by decide) τ Q ⟨fun _ => ⟨fun n => go τ (fun _ _ _ => rfl) (fun e => absurd e n) (fun _ => q2 0 (by omega) (by omega)), fun e s1 e1 s2 e2 s3 e3 => go s3 (fun c i n => by rw [e3, sI_ne n, e2, sI_ne n, e1, sI_ne n]) (fun _ w w0 w1 => ?_) (fun n => absurd e n)⟩, fun g => by omega⟩
    rw [e3, sI_at, e2, sI_at, e1, sI_at]
    unfold V0
    rcases (show w = 0 ∨ w = 1 ∨ w = 2 ∨ w = 3 by omega) with e | e | e | e <;> subst e
    · rfl
    · rfl
    · rfl
    · exact q2 3 (by omega) (by omega)
theorem c_keep (x x2 y : Int) (hx : x = 0 ∨ x = 1 ∨ x = 2) (r2 : gR x2) (σ : gS) (hy : 0 ≤ y ∧ y < 2) (ey : y = if x2 = -1 then gI σ 3 x else x2) (Q : Int → gS → Prop)
    (h : ∀ τ, (∀ c i, c < 3 ∨ 6 < c → gI τ c i = gI σ c i) → (∀ s, gI τ 3 s = if s = x ∧ x2 = -1 then gI σ 3 s + 1 else gI σ 3 s) → (∀ i, gI τ 4 i = if x = 0 ∧ y * 4 ≤ i ∧ i < y * 4 + 4 then gI σ 28 (i - y * 4) else gI σ 4 i) →
      (∀ i, gI τ 5 i = if ¬ x = 0 ∧ ((x - 1) * 2 + y) * 160 ≤ i ∧ i < ((x - 1) * 2 + y) * 160 + 160 then gI σ 29 (i - ((x - 1) * 2 + y) * 160) else gI σ 5 i) → (∀ i, gI τ 6 i = if ¬ x = 0 ∧ i = (x - 1) * 2 + y then gI σ 27 2 else gI σ 6 i) → Q y τ) : eX10_keep l G x x2 σ Q := by
  have rx : gR x := by rcases hx with e | e | e <;> rw [e] <;> decide
  have big : ∀ σ1 : gS, (∀ c i, c ≠ 3 → gI σ1 c i = gI σ c i) → (∀ s, gI σ1 3 s = if s = x ∧ x2 = -1 then gI σ 3 s + 1 else gI σ 3 s) → ¬ x = 0 → eX10_placeOf l G x y σ1 (fun v5 σ3 => gR v5 →
      ((0 : Int) ≤ 0 ∧ (0 : Int) ≤ (v5 * 160) ∧ (0 : Int) ≤ 160 ∧ (0 : Int) + 160 ≤ 160 ∧ ((v5 * 160) : Int) + 160 ≤ 640) ∧ ∀ σ7, σ7 = cpI σ3 29 0 5 (v5 * 160) 160 →
      (0 ≤ v5 ∧ v5 < 4) ∧ ∀ σ10, σ10 = sI σ7 6 v5 (gI σ7 27 2) →
      Q y σ10) := by
    intro σ1 g1 g2 n
    refine vX10_placeOf x y rx ⟨by omega, by omega⟩ σ1 _ ⟨⟨by omega, by omega⟩, fun _ => ⟨by omega, fun τ1 e1 => ⟨by omega, fun τ2 e2 => h τ2 ?_ ?_ ?_ ?_ ?_⟩⟩⟩
    · intro c i q; rw [e2, sI_ne (by omega), e1, cpI_at, if_neg (by omega), g1 _ _ (by omega)]
    · intro s; rw [e2, sI_ne (by decide), e1, cpI_at, if_neg (by omega)]; exact g2 s
    · intro i; rw [e2, sI_ne (by decide), e1, cpI_at, if_neg (by omega), g1 _ _ (by decide), if_neg (by omega)]
    · intro i; rw [e2, sI_ne (by decide), e1, cpI_at]
      by_cases z : ((x - 1) * 2 + y) * 160 ≤ i ∧ i < ((x - 1) * 2 + y) * 160 + 160
      · rw [if_pos ⟨rfl, z⟩, if_pos ⟨n, z⟩, g1 _ _ (by decide), show 0 + (i - ((x - 1) * 2 + y) * 160) = i - ((x - 1) * 2 + y) * 160 by omega]
      · rw [if_neg (fun q => z q.2), if_neg (fun q => z q.2), g1 _ _ (by decide)]
    · intro i; rw [e2, sI_at]
      by_cases z : i = (x - 1) * 2 + y
      · rw [if_pos ⟨rfl, z⟩, if_pos ⟨n, z⟩, e1, cpI_at, if_neg (by omega), g1 _ _ (by decide)]
      · rw [if_neg (fun q => z q.2), if_neg (fun q => z q.2), e1, cpI_at, if_neg (by omega), g1 _ _ (by decide)]
  have small : ∀ σ1 : gS, (∀ c i, c ≠ 3 → gI σ1 c i = gI σ c i) → (∀ s, gI σ1 3 s = if s = x ∧ x2 = -1 then gI σ 3 s + 1 else gI σ 3 s) → x = 0 → ((0 : Int) ≤ 0 ∧ (0 : Int) ≤ (y * 4) ∧ (0 : Int) ≤ 4 ∧ (0 : Int) + 4 ≤ 4 ∧ ((y * 4) : Int) + 4 ≤ 8) ∧ ∀ σ12, σ12 = cpI σ1 28 0 4 (y * 4) 4 → Q y σ12 := by
    intro σ1 g1 g2 e0
    refine ⟨by omega, fun τ1 e1 => h τ1 ?_ ?_ ?_ ?_ ?_⟩
    · intro c i q; rw [e1, cpI_at, if_neg (by omega), g1 _ _ (by omega)]
    · intro s; rw [e1, cpI_at, if_neg (by omega)]; exact g2 s
    · intro i; rw [e1, cpI_at]
      by_cases z : y * 4 ≤ i ∧ i < y * 4 + 4
      · rw [if_pos ⟨rfl, z⟩, if_pos ⟨e0, z⟩, g1 _ _ (by decide), show 0 + (i - y * 4) = i - y * 4 by omega]
      · rw [if_neg (fun q => z q.2), if_neg (fun q => z q.2), g1 _ _ (by decide)]
    · intro i; rw [e1, cpI_at, if_neg (by omega), g1 _ _ (by decide), if_neg (fun q => q.1 e0)]
    · intro i; rw [e1, cpI_at, if_neg (by omega), g1 _ _ (by decide), if_neg (fun q => q.1 e0)]
  refine vX10_keep x x2 rx r2 σ Q ⟨fun n => ⟨fun n0 => ?_, fun e0 => ?_⟩, fun e => ⟨by omega, ?_, fun σ1 e1 => ⟨fun n0 => ?_, fun e0 => ?_⟩⟩⟩
  · rw [if_neg n] at ey
    subst ey
    exact big σ (fun _ _ _ => rfl) (fun s => by rw [if_neg (fun q => n q.2)]) n0
  · rw [if_neg n] at ey
    subst ey
    exact small σ (fun _ _ _ => rfl) (fun s => by rw [if_neg (fun q => n q.2)]) e0
  · rw [if_pos e] at ey
    exact ⟨by omega, by omega⟩
  · rw [if_pos e] at ey
    rw [← ey]
    rw [← ey] at e1
    refine big σ1 (fun c i q => by rw [e1, sI_ne q]) (fun s => ?_) n0
    rw [e1, sI_at]
    by_cases z : s = x
    · rw [if_pos ⟨rfl, z⟩, if_pos ⟨z, e⟩, z, ey]
    · rw [if_neg (fun q => z q.2), if_neg (fun q => z q.1)]
  · rw [if_pos e] at ey
    rw [← ey]
    rw [← ey] at e1
    refine small σ1 (fun c i q => by rw [e1, sI_ne q]) (fun s => ?_) e0
    rw [e1, sI_at]
    by_cases z : s = x
    · rw [if_pos ⟨rfl, z⟩, if_pos ⟨z, e⟩, z, ey]
    · rw [if_neg (fun q => z q.2), if_neg (fun q => z q.1)]
end MTB
