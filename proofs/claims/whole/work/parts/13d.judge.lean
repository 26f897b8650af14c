section SG
variable {l : Launch} {G : gG}
/-- a match that leaves the pointers, by the reference -/
theorem c_tries (n : Int) (hn : 0 ≤ n ∧ n < 1000) (σ : gS) (hS : OKS (pS σ)) (Q : gS → Prop)
    (h : ∀ τ, MM τ (pS σ 88 10) 0 (askS (pS σ)) ((zNow (pS σ) n.toNat).1, (zNow (pS σ) n.toNat).2.1, pS σ 92, pS σ 93, (zNow (pS σ) n.toNat).2.2.2.2) → pS τ = pS σ → frQ σ τ → Q τ) : eX12_tries l G n σ Q := by
  have hP := hS.1
  have rn : gR n := ⟨by omega, by omega⟩
  have a92 : ∀ c, c = 92 ∨ c = 93 → ∀ o, 0 ≤ o → o < 6 → gI σ c o = pS σ c o := fun c hc o o0 o1 => pS_at (by unfold okC; omega)
  refine vX12_tries n rn σ Q ?_
  refine gloopI (α := gS) 0 6 (fun p τ => p ≤ 6 ∧ (∀ o, 0 ≤ o → o < p → gI τ 117 o = gI σ 92 o ∧ gI τ 117 (6 + o) = gI σ 93 o) ∧ (∀ c i, c ≠ 117 → gI τ c i = gI σ c i)) (fun p τ => kX12_tries_2 l G n p τ Q) ?_ ?_ 0 σ (by omega) ⟨by omega, fun o o0 o1 => by omega, fun _ _ _ => rfl⟩
  · rintro p τ p0 p1 ⟨z0, z1, z2⟩ ih
    refine vX12_tries_2 n p rn ⟨by omega, by omega⟩ τ Q ⟨fun z => by omega, fun _ => ⟨by omega, by omega, fun τ1 e1 => ⟨by omega, fun τ2 e2 => ih τ2 ⟨by omega, fun o o0 o1 => ?_, fun c i hc => by rw [e2, sI_ne hc, e1, sI_ne hc]; exact z2 c i hc⟩⟩⟩⟩
    by_cases e : o = p
    · rw [e]
      refine ⟨?_, ?_⟩
      · rw [e2, sI_nei (by omega), e1, sI_eq]; exact z2 _ _ (by omega)
      · rw [e2, sI_eq, e1, sI_ne (by omega)]; exact z2 _ _ (by omega)
    · rw [e2, sI_nei (by omega), sI_nei (by omega), e1, sI_nei (by omega), sI_nei (by omega)]
      exact z1 o o0 (by omega)
  · rintro p τ p0 ⟨z0, z1, z2⟩
    have hp : p = 6 := by omega
    subst hp
    refine vX12_tries_2 n 6 rn (by decide) τ Q ⟨fun _ τ1 e1 τ2 e2 => ?_, fun z => by omega⟩
    have f2 : ∀ c i, c ≠ 117 → ¬ (c = 88 ∧ (i = 41 ∨ i = 42)) → gI τ2 c i = gI σ c i := fun c i hc hd => by rw [e2, sI_at, if_neg (by omega), e1, sI_at, if_neg (by omega)]; exact z2 c i hc
    have M : MM τ2 (pS σ 88 10) 0 (askS (pS σ)) (fun _ => false, fun _ => false, pS σ 92, pS σ 93, gI τ2 111) := by
      refine ⟨?_, ?_, ?_, fun o o0 o1 => ⟨?_, ?_, rfl⟩, fun i o i0 i1 o0 o1 => ?_⟩
      · rw [f2 _ _ (by omega) (by omega)]; exact pS_at (by unfold okC; omega)
      · rw [e2, sI_nei (by omega), e1, sI_eq]; exact isM_congr isM_0 (fun k _ _ => by simp)
      · rw [e2, sI_eq]; exact isM_congr isM_0 (fun k _ _ => by simp)
      · rw [f2 _ _ (by omega) (by omega)]; exact a92 92 (by omega) o o0 o1
      · rw [f2 _ _ (by omega) (by omega)]; exact a92 93 (by omega) o o0 o1
      · rw [f2 _ _ (by omega) (by omega), pS_at (by unfold okC; omega)]
        unfold askS
        simp
    refine c_matches (pS σ 88 10) 0 ⟨hP.1, hP.2.1⟩ (Or.inl rfl) (askS (pS σ)) _ (okX_S hS _ _ _) n hn τ2 M _ (fun υ uM uF => ?_)
    have uM : MM υ (pS σ 88 10) 0 (askS (pS σ)) (zNow (pS σ) n.toNat) := uM
    obtain ⟨m1, m2, m3, m4, m5⟩ := uM
    have u117 : ∀ o, gI υ 117 o = gI τ 117 o := fun o => by rw [uF 117 o (by omega) (by omega) (by omega) (by omega) (by omega), e2, sI_ne (by omega), e1, sI_ne (by omega)]
    refine gloopI (α := gS) 0 6 (fun p w => p ≤ 6 ∧ (∀ o, 0 ≤ o → o < p → gI w 92 o = gI σ 92 o ∧ gI w 93 o = gI σ 93 o) ∧ (∀ c i, c ≠ 92 → c ≠ 93 → gI w c i = gI υ c i)) (fun p w => kX12_tries_59 l G n p w Q) ?_ ?_ 0 υ (by omega) ⟨by omega, fun o o0 o1 => by omega, fun _ _ _ _ => rfl⟩
    · rintro p w p0 p1 ⟨y0, y1, y2⟩ ih
      refine vX12_tries_59 n p rn ⟨by omega, by omega⟩ w Q ⟨fun z => by omega, fun _ => ⟨by omega, by omega, fun w1 e1' => ⟨by omega, fun w2 e2' => ih w2 ⟨by omega, fun o o0 o1 => ?_, fun c i hc hd => by rw [e2', sI_ne hd, e1', sI_ne hc]; exact y2 c i hc hd⟩⟩⟩⟩
      by_cases e : o = p
      · rw [e]
        refine ⟨?_, ?_⟩
        · rw [e2', sI_ne (by omega), e1', sI_eq, y2 _ _ (by omega) (by omega), u117]; exact (z1 p p0 (by omega)).1
        · rw [e2', sI_eq, e1', sI_ne (by omega), y2 _ _ (by omega) (by omega), u117]; exact (z1 p p0 (by omega)).2
      · rw [e2', sI_ne (by omega), sI_nei e, e1', sI_nei e, sI_ne (by omega)]
        exact y1 o o0 (by omega)
    · rintro p w p0 ⟨y0, y1, y2⟩
      have hp : p = 6 := by omega
      subst hp
      have f3 : ∀ c i, c ≠ 92 → c ≠ 93 → c ≠ 111 → c ≠ 113 → c ≠ 117 → ¬ (c = 88 ∧ (i = 41 ∨ i = 42)) → gI w c i = gI σ c i := fun c i c1 c2 c3 c4 c5 c6 => by rw [y2 c i c1 c2, uF c i c1 c2 c3 c4 c6]; exact f2 c i c5 c6
      refine vX12_tries_59 n 6 rn (by decide) w Q ⟨fun _ => h w ⟨?_, ?_, ?_, fun o o0 o1 => ⟨?_, ?_, ?_⟩, fun i o i0 i1 o0 o1 => ?_⟩ ?_ ?_, fun z => by omega⟩
      · rw [y2 _ _ (by omega) (by omega)]; exact m1
      · rw [y2 _ _ (by omega) (by omega)]; exact m2
      · rw [y2 _ _ (by omega) (by omega)]; exact m3
      · rw [(y1 o o0 o1).1]; exact a92 92 (by omega) o o0 o1
      · rw [(y1 o o0 o1).2]; exact a92 93 (by omega) o o0 o1
      · rw [y2 _ _ (by omega) (by omega)]; exact (m4 o o0 o1).2.2
      · rw [y2 _ _ (by omega) (by omega)]; exact m5 i o i0 i1 o0 o1
      · refine pS_eq (fun c i hc => ?_)
        by_cases e : c = 92
        · subst e; exact (y1 i (by unfold okC at hc; omega) (by unfold okC at hc; omega)).1
        · by_cases e' : c = 93
          · subst e'; exact (y1 i (by unfold okC at hc; omega) (by unfold okC at hc; omega)).2
          · unfold okC at hc
            exact f3 c i e e' (by omega) (by omega) (by omega) (by omega)
      · exact ⟨fun c hc i => f3 c i (by omega) (by omega) (by omega) (by omega) (by omega) (by omega), fun i => f3 89 i (by omega) (by omega) (by omega) (by omega) (by omega) (by omega), fun i => f3 90 i (by omega) (by omega) (by omega) (by omega) (by omega) (by omega)⟩
theorem c_matchedNow (P : Int) (hP : 1 ≤ P ∧ P ≤ 6) (X : mX) (σ : gS) (h10 : gI σ 88 10 = P) (hm : ∀ o, 0 ≤ o → o < P → gI σ 111 o = X.2.2.2.2 o) (Q : Int → gS → Prop) (h : Q (zMc P X) σ) : eX12_matchedNow l G σ Q := by
  refine vX12_matchedNow σ Q ?_
  refine gloopI (α := Int) 0 P (fun o x => o ≤ P ∧ x = sm (fun o => if X.2.2.2.2 o = -1 then 0 else 1) o.toNat ∧ 0 ≤ x ∧ x ≤ o) (fun o x => kX12_matchedNow_4 l G x o σ Q) ?_ ?_ 0 0 (by omega) ⟨by omega, rfl, by omega, by omega⟩
  · rintro o x o0 o1 ⟨z0, z1, z2, z3⟩ ih
    refine vX12_matchedNow_4 x o ⟨by omega, by omega⟩ ⟨by omega, by omega⟩ σ Q ?_
    rw [h10, hm o o0 o1]
    refine ⟨fun z => by omega, fun _ => ⟨by omega, fun v ev => ih (x + v) ⟨by omega, ?_, ?_, ?_⟩⟩⟩
    · rw [sm_s _ o0, ← z1, ev]
    · rw [ev]; split <;> omega
    · rw [ev]; split <;> omega
  · rintro o x o0 ⟨z0, z1, z2, z3⟩
    have ho : o = P := by omega
    subst ho
    refine vX12_matchedNow_4 x o ⟨by omega, by omega⟩ ⟨by omega, by omega⟩ σ Q ?_
    rw [h10]
    refine ⟨fun _ => ?_, fun z => by omega⟩
    rw [z1]; exact h
theorem c_needOf (σ : gS) (hS : OKS (pS σ)) (Q : Int → gS → Prop) (h : ∀ n τ, isNeed (pS σ 88 10) (askS (pS σ)) (zX0 (pS σ)) n → frQ σ τ → Q n τ) : eX12_needOf l G σ Q := by
  have hP : 1 ≤ pS σ 88 10 ∧ pS σ 88 10 ≤ 6 := ⟨hS.1.1, hS.1.2.1⟩
  refine vX12_needOf σ Q ?_
  refine gloopM (α := Int × Int × gS) (fun q => (7 - q.2.1).toNat) (fun q => (q.1 = 0 ∨ q.1 = 1) ∧ 0 ≤ q.2.1 ∧ q.2.1 ≤ 6 ∧ pS q.2.2 = pS σ ∧ frQ σ q.2.2 ∧ (q.1 = 0 → 1 ≤ q.2.1 ∧ ¬ asksX (pS σ 88 10) (askS (pS σ)) (zNow (pS σ) q.2.1.toNat)) ∧ (q.1 = 1 → 1 ≤ q.2.1 → asksX (pS σ 88 10) (askS (pS σ)) (zNow (pS σ) q.2.1.toNat)) ∧ ∀ m : Nat, 1 ≤ m → (m : Int) < q.2.1 → asksX (pS σ 88 10) (askS (pS σ)) (zNow (pS σ) m)) (fun q => kX12_needOf_4 l G q.2.1 q.1 q.2.2 Q) ?_ (1, 0, σ) ⟨Or.inr rfl, by show (0 : Int) ≤ 0; decide, by show (0 : Int) ≤ 6; decide, rfl, frQ.rfl', fun z => absurd (show (1 : Int) = 0 from z) (by decide), fun _ z => absurd (show (1 : Int) ≤ 0 from z) (by decide), fun m m1 m2 => absurd (show (m : Int) < 0 from m2) (by omega)⟩
  rintro ⟨g, r, υ⟩ ⟨z1, z2, z3, z4, z5, z6, z7, z8⟩ ih
  dsimp only at z1 z2 z3 z4 z5 z6 z7 z8 ih ⊢
  refine vX12_needOf_4 r g ⟨by omega, by omega⟩ (gR_01 z1) υ Q ⟨fun e2 => h r υ ⟨(z6 e2).1, (z6 e2).2, z8⟩ z5, fun e2 => ?_⟩
  have r5 : r < 6 := by
    by_cases e : 1 ≤ r
    · have := asks_P hP.1 (okX_0 hS) (z7 (by omega) e)
      omega
    · omega
  have old : ∀ m : Nat, 1 ≤ m → (m : Int) < r + 1 → asksX (pS σ 88 10) (askS (pS σ)) (zNow (pS σ) m) := fun m m1 m2 => by
    by_cases e9 : (m : Int) = r
    · have := z7 (by omega) (by omega)
      rw [show r.toNat = m by omega] at this; exact this
    · exact z8 m m1 (by omega)
  refine c_tries (r + 1) (by omega) υ (by rw [z4]; exact hS) _ (fun w wM wS wF => ?_)
  rw [z4] at wM wS
  have wQ : frQ σ w := z5.trans wF
  have w10 := wM.1
  have rr : gR (r + 1) := ⟨by omega, by omega⟩
  have fin : ∀ x, (x = 0 ∨ x = 1) → (x = 1 ↔ asksX (pS σ 88 10) (askS (pS σ)) (zNow (pS σ) (r + 1).toNat)) → kX12_needOf_4 l G (r + 1) x w Q := fun x hx hi =>
    ih (x, r + 1, w) ⟨hx, by show 0 ≤ r + 1; omega, by show r + 1 ≤ 6; omega, wS, wQ, fun z => ⟨by show 1 ≤ r + 1; omega, fun a => by have := hi.mpr a; have z : x = 0 := z; omega⟩, fun z _ => hi.mp z, old⟩ (by show (7 - (r + 1)).toNat < (7 - r).toNat; omega)
  generalize pS σ 88 10 = P at *
  generalize askS (pS σ) = ask at *
  have wA := wM
  generalize hX : zNow (pS σ) (r + 1).toNat = X at *
  refine gloopI (α := Int) 0 P (fun i x => i ≤ P ∧ (x = 0 ∨ x = 1) ∧ (x = 1 ↔ ∃ i' o, (0 ≤ i' ∧ i' < i) ∧ (0 ≤ o ∧ o < P) ∧ X.1 i' = false ∧ X.2.1 o = false ∧ ask i' o = true)) (fun i x => kX12_needOf_20 l G (r + 1) x i w Q) ?_ ?_ 0 0 (by omega) ⟨by omega, Or.inl rfl, fun z => absurd z (by decide), fun ⟨i', o, a, _⟩ => by omega⟩
  · rintro i x i0 i1 ⟨y0, y1, y2⟩ ih2
    refine vX12_needOf_20 (r + 1) x i rr (gR_01 y1) ⟨by omega, by omega⟩ w Q ?_
    rw [w10]
    refine ⟨fun z => by omega, fun _ => ?_⟩
    refine gloopI (α := Int) 0 P (fun o u => o ≤ P ∧ (u = 0 ∨ u = 1) ∧ (u = 1 ↔ x = 1 ∨ ∃ o', (0 ≤ o' ∧ o' < o) ∧ X.1 i = false ∧ X.2.1 o' = false ∧ ask i o' = true)) (fun o u => kX12_needOf_31 l G (r + 1) u i o w Q) ?_ ?_ 0 x (by omega) ⟨by omega, y1, Or.inl, fun z => by rcases z with z | ⟨o', a, _⟩; exact z; omega⟩
    · rintro o u o0 o1 ⟨x0, x1, x2⟩ ih3
      refine vX12_needOf_31 (r + 1) u i o rr (gR_01 x1) ⟨by omega, by omega⟩ ⟨by omega, by omega⟩ w Q ?_
      rw [w10]
      refine ⟨fun z => by omega, fun _ => ⟨fun z => ih3 1 ⟨by omega, Or.inr rfl, fun _ => ?_, fun _ => rfl⟩, fun z => ?_⟩⟩
      · rcases x2.mp (by omega) with y | ⟨o', a1, a2⟩
        · exact Or.inl y
        · exact Or.inr ⟨o', by omega, a2⟩
      · have no : ¬ (x = 1 ∨ ∃ o', (0 ≤ o' ∧ o' < o) ∧ X.1 i = false ∧ X.2.1 o' = false ∧ ask i o' = true) := fun y => by have := x2.mpr y; omega
        refine c_asks P 0 hP (Or.inl rfl) ask _ i o ⟨i0, i1⟩ ⟨o0, o1⟩ w wA _ (fun _ v ev => ?_)
        by_cases e : (!X.1 i && !X.2.1 o && ask i o) = true
        · have e' : ((if (!X.1 i && !X.2.1 o && ask i o) = true then (1 : Int) else 0)) = 1 := if_pos e
          have ev' : v = 1 := by rw [ev]; exact if_neg (by rw [e']; decide)
          rw [ev']
          simp only [Bool.and_eq_true, Bool.not_eq_true'] at e
          exact ih3 1 ⟨by omega, Or.inr rfl, fun _ => Or.inr ⟨o, by omega, e.1.1, e.1.2, e.2⟩, fun _ => rfl⟩
        · have e' : ((if (!X.1 i && !X.2.1 o && ask i o) = true then (1 : Int) else 0)) = 0 := if_neg e
          have ev' : v = 0 := by rw [ev]; exact if_pos e'
          rw [ev']
          refine ih3 0 ⟨by omega, Or.inl rfl, fun y => absurd y (by decide), fun y => ?_⟩
          rcases y with y | ⟨o', a1, a2, a3, a4⟩
          · exact absurd (Or.inl y) no
          · by_cases eo : o' = o
            · rw [eo] at a3 a4
              exact absurd (by simp [a2, a3, a4]) e
            · exact absurd (Or.inr ⟨o', by omega, a2, a3, a4⟩) no
    · rintro o u o0 ⟨x0, x1, x2⟩
      have ho : o = P := by omega
      subst ho
      refine vX12_needOf_31 (r + 1) u i o rr (gR_01 x1) ⟨by omega, by omega⟩ ⟨by omega, by omega⟩ w Q ?_
      rw [w10]
      refine ⟨fun _ => ih2 u ⟨by omega, x1, fun y => ?_, fun y => ?_⟩, fun z => by omega⟩
      · rcases x2.mp y with y | ⟨o', a1, a2⟩
        · obtain ⟨i', o', b1, b2⟩ := y2.mp y
          exact ⟨i', o', by omega, b2⟩
        · exact ⟨i, o', by omega, a1, a2⟩
      · obtain ⟨i', o', b1, b2, b3⟩ := y
        by_cases ei : i' = i
        · rw [ei] at b3
          exact x2.mpr (Or.inr ⟨o', b2, b3⟩)
        · exact x2.mpr (Or.inl (y2.mpr ⟨i', o', by omega, b2, b3⟩))
  · rintro i x i0 ⟨y0, y1, y2⟩
    have hi : i = P := by omega
    subst hi
    refine vX12_needOf_20 (r + 1) x i rr (gR_01 y1) ⟨by omega, by omega⟩ w Q ?_
    rw [w10]
    exact ⟨fun _ => fin x y1 y2, fun z => by omega⟩
/-- what a judge says: a relation, for the rounds that are needed -/
def zJudge (S : RS) (w v : Int) : Prop :=
  if w = 0 then v = zRow (S 95) (S 88 10) 0 (S 88 10).toNat 0 else if w = 1 then v = zRow (S 95) (S 88 10) 1 (S 88 10).toNat 0
  else if w = 2 then v = zMc (S 88 10) (zNow S (S 88 11).toNat) else if w = 3 then v = zMw S (zNow S (S 88 11).toNat)
  else if w = 4 then isNeed (S 88 10) (askS S) (zX0 S) v
  else if w < 10 then v = -2 else if w < 10 + S 88 10 then v = zFirst (S 95) (S 88 10) (w - 10) else v = -2
theorem zJudge_eq {S : RS} {w u v : Int} (h : zJudge S w u) (k : zJudge S w v) : u = v := by
  unfold zJudge at h k
  split at h
  · rename_i e; rw [if_pos e] at k; rw [h, k]
  · rename_i e; rw [if_neg e] at k
    split at h
    · rename_i e; rw [if_pos e] at k; rw [h, k]
    · rename_i e; rw [if_neg e] at k
      split at h
      · rename_i e; rw [if_pos e] at k; rw [h, k]
      · rename_i e; rw [if_neg e] at k
        split at h
        · rename_i e; rw [if_pos e] at k; rw [h, k]
        · rename_i e; rw [if_neg e] at k
          split at h
          · rename_i e; rw [if_pos e] at k; exact isNeed_eq h k
          · rename_i e; rw [if_neg e] at k
            split at h
            · rename_i e; rw [if_pos e] at k; rw [h, k]
            · rename_i e; rw [if_neg e] at k
              split at h
              · rename_i e; rw [if_pos e] at k; rw [h, k]
              · rename_i e; rw [if_neg e] at k; rw [h, k]
theorem OKS_q {S : RS} (hS : OKS S) : ∀ k, 0 ≤ k → k < 36 → 0 ≤ S 95 k ∧ S 95 k ≤ 9 := fun k k0 k1 => by
  have := hS.2.2.1 k k0 k1
  have := hS.1
  omega
theorem c_tellJ (w : Int) (rw0 : gR w) (σ : gS) (S : RS) (hC : CR σ S) (hS : OKS S) (Q : Int → gS → Prop) (h : ∀ v τ, zJudge S w v → frC σ τ → Q v τ) : eX3_tell l G w σ Q := by
  have hP : 1 ≤ S 88 10 ∧ S 88 10 ≤ 6 := ⟨hS.1.1, hS.1.2.1⟩
  have hq := OKS_q hS
  have e3 := hC.1.1
  have e53 : ∀ k, 0 ≤ k → k < 36 → gI σ 53 k = S 95 k := fun k k0 k1 => (hC.2.2.2.1 k k0 k1).1
  have F1 : ∀ τ, (∀ c k, c ≠ 67 → c ≠ 68 → gI τ c k = gI σ c k) → frC σ τ := fun τ tF => frC.of (a := 67) (z := 68) (by omega) (fun c i hc => tF c i (by omega) (by omega))
  have F2 : ∀ τ, (∀ c k, c < 45 ∨ 50 < c → gI τ c k = gI σ c k) → frC σ τ := fun τ tF => frC.of (a := 45) (z := 50) (by omega) tF
  unfold zJudge at h
  refine vX3_tell w rw0 σ Q ⟨fun e => ?_, fun e => ?_, fun e => ?_, fun e => ?_, fun e => ?_, fun e => ?_⟩
  · exact c_bestOf3 (S 95) _ 0 hP (Or.inl rfl) hq σ e3 e53 _ (fun τ _ _ tF _ => h _ τ (by rw [if_pos e]) (F1 τ tF))
  · exact c_bestOf3 (S 95) _ 1 hP (Or.inr rfl) hq σ e3 e53 _ (fun τ _ _ tF _ => h _ τ (by rw [if_neg (by omega), if_pos e]) (F1 τ tF))
  · refine c_matchNow σ S hC hS _ (fun τ tC tF => ?_)
    have m6 := tC.2.2.1
    have b := zMc_bc hP m6 (zNow_b hS _)
    have br := bcS_r (gI τ 45 6)
    refine c_bitCount _ ⟨m6.1, m6.2.1⟩ τ _ (fun _ => ?_)
    rw [tF 32 3 (by omega), e3]
    exact ⟨⟨by omega, by omega⟩, h _ τ (by rw [if_neg (by omega), if_neg (by omega), if_pos e]; exact b) (F2 τ tF)⟩
  · refine c_matchNow σ S hC hS _ (fun τ tC tF => ?_)
    exact c_cellsOfMatched τ S (zNow S (S 88 11).toNat) hP (by rw [tF 32 3 (by omega)]; exact e3) (fun o o0 o1 => (tC.2.2.2.1 o o0 o1).2.2) (zNow_m hS _) (fun k k0 k1 => by rw [tF 53 k (by omega)]; exact e53 k k0 k1) hq _ (fun _ => h _ τ (by rw [if_neg (by omega), if_neg (by omega), if_neg (by omega), if_pos e]) (F2 τ tF))
  · exact c_roundsNeeded σ S hC hS _ (fun n τ hn tF _ => h n τ (by rw [if_neg (by omega), if_neg (by omega), if_neg (by omega), if_neg (by omega), if_pos e]; exact hn) (F2 τ tF))
  · rw [e3]
    refine ⟨fun z => h _ σ (by rw [if_neg (by omega), if_neg (by omega), if_neg (by omega), if_neg (by omega), if_neg (by omega), if_pos z]) frC.rfl', fun z => ⟨⟨by omega, by omega⟩, fun y => ?_, fun y => h _ σ (by rw [if_neg (by omega), if_neg (by omega), if_neg (by omega), if_neg (by omega), if_neg (by omega), if_neg (by omega), if_neg (by omega)]) frC.rfl'⟩⟩
    refine c_bestOf3 (S 95) _ 1 hP (Or.inr rfl) hq σ e3 e53 _ (fun τ t67 t68 tF _ => ?_)
    exact c_firstRow (S 95) _ (w - 10) hP (by omega) hq τ (by rw [tF _ _ (by omega) (by omega)]; exact e3) t67 (fun k k0 k1 => by rw [tF _ _ (by omega) (by omega)]; exact e53 k k0 k1) t68 _ (fun _ => h _ τ (by rw [if_neg (by omega), if_neg (by omega), if_neg (by omega), if_neg (by omega), if_neg (by omega), if_neg (by omega), if_pos y]) (F1 τ tF))
theorem p_judge (x1 x2 x3 x4 : Int) (r1 : gR x1) (r2 : gR x2) (r3 : gR x3) (r4 : gR x4) (σ : gS) (hI : tInv σ) : eX11_judge l G x1 x2 x3 x4 σ (fun r τ => gR r → eX12_judge l G x1 x2 x3 x4 τ (fun r' υ => gR r' → r = r' ∧ tInv υ)) := by
  have B : ∀ (v : Int) (τ : gS), frC σ τ → (¬ (0 ≤ x1 ∧ x1 < gI σ 89 0 ∧ 0 ≤ x2 ∧ x2 < gI σ 89 1 ∧ 0 ≤ x3 ∧ zRun σ x1 x2 x3 88 29 = x3) → v = -2) → (0 ≤ x1 ∧ x1 < gI σ 89 0 ∧ 0 ≤ x2 ∧ x2 < gI σ 89 1 ∧ 0 ≤ x3 ∧ zRun σ x1 x2 x3 88 29 = x3 → zJudge (zRun σ x1 x2 x3) x4 v) → eX12_judge l G x1 x2 x3 x4 τ (fun r' υ => gR r' → v = r' ∧ tInv υ) := by
    intro v τ hF hn hy
    refine vX12_judge x1 x2 x3 x4 r1 r2 r3 r4 τ _ (vX12_isState x1 x2 x3 r1 r2 r3 τ _ (c_isCrossbarX x1 r1 σ τ hI hF _ (fun e _ => ⟨fun _ _ => ⟨fun e => absurd rfl e, fun _ _ => ⟨hn (by omega), tInv.same hF.same hI⟩⟩, fun e => absurd rfl e⟩) (fun e0 e1 τ1 R1 _ => ⟨fun e => absurd e (by decide), fun _ => ?_⟩)))
    refine c_isTrafficX x1 x2 r2 σ τ1 hI R1 _ (fun e _ => ⟨fun _ _ => ⟨fun e => absurd rfl e, fun _ _ => ⟨hn (by omega), tInv.same R1.2.2.2.2.2 hI⟩⟩, fun e => absurd rfl e⟩) (fun e2 e3 τ2 R2 _ => ⟨fun e => absurd e (by decide), fun _ => ⟨fun e4 => ?_, fun e4 _ => ⟨fun e => absurd rfl e, fun _ _ => ⟨hn (by omega), tInv.same R2.2.2.2.2.2.2 hI⟩⟩⟩⟩)
    refine c_goesX x1 x2 x3 r3 σ τ2 hI e0 e1 e2 e3 R2 _ (fun υ pu su _ w ew _ => ?_)
    have iu : tInv υ := tInv.same su hI
    have IQ : ∀ ρ, frQ υ ρ → tInv ρ := fun ρ f => tInv.same (su.trans f.same) hI
    rw [pS_at (by unfold okC; omega), pu] at ew
    by_cases e5 : zRun σ x1 x2 x3 88 29 = x3
    · rw [if_pos e5] at ew
      subst ew
      have hv := hy ⟨e0, e1, e2, e3, e4, e5⟩
      have ok := (zRun_ok hI e0 e1 e2 e3 e4).1.1.1
      rw [← pu] at hv ok
      have hP : 1 ≤ pS υ 88 10 ∧ pS υ 88 10 ≤ 6 := ⟨ok.1.1, ok.1.2.1⟩
      have hr : 1 ≤ pS υ 88 11 ∧ pS υ 88 11 ≤ 4 := ⟨ok.1.2.2.1, ok.1.2.2.2.1⟩
      have hq := OKS_q ok
      have a10 : gI υ 88 10 = pS υ 88 10 := pS_at (by unfold okC; omega)
      have a11 : gI υ 88 11 = pS υ 88 11 := pS_at (by unfold okC; omega)
      have a95 : ∀ k, 0 ≤ k → k < 36 → gI υ 95 k = pS υ 95 k := fun k k0 k1 => pS_at (by unfold okC; omega)
      have same : ∀ u, zJudge (pS υ) x4 u → v = u := fun u hu => zJudge_eq hv hu
      have FQ : ∀ ρ, (∀ c k, c ≠ 116 → gI ρ c k = gI υ c k) → tInv ρ := fun ρ f => IQ ρ ⟨fun c hc i => f c i (by omega), fun i => f 89 i (by omega), fun i => f 90 i (by omega)⟩
      have tr : x4 = 2 ∨ x4 = 3 → eX12_tries l G (gI υ 88 11) υ (fun σ15 => kX12_judge_72 l G x1 x2 x3 x4 0 0 σ15 (fun r' υ => gR r' → v = r' ∧ tInv υ)) := by
        intro h23
        rw [a11]
        refine c_tries (pS υ 88 11) (by omega) υ ok _ (fun ρ rM rS rQ => ?_)
        have m111 : ∀ o, 0 ≤ o → o < 6 → gI ρ 111 o = (zNow (pS υ) (pS υ 88 11).toNat).2.2.2.2 o := fun o o0 o1 => (rM.2.2.2.1 o o0 o1).2.2
        have r10 := rM.1
        have r95 : ∀ k, 0 ≤ k → k < 36 → gI ρ 95 k = pS υ 95 k := fun k k0 k1 => by rw [pS_at (c := 95) (by unfold okC; omega), rS]
        have hm := zNow_m ok (pS υ 88 11).toNat
        generalize hX : zNow (pS υ) (pS υ 88 11).toNat = X at *
        refine gloopF (fMw (pS υ) X) 0 (pS υ 88 10) (by omega) (fun j x => 0 ≤ x ∧ x ≤ 9 * j) (fun j x => kX12_judge_72 l G x1 x2 x3 x4 x j ρ (fun r' υ => gR r' → v = r' ∧ tInv υ)) (by omega) ?_ ?_
        · intro j x j0 j1 hp
          have r := hm j
          refine ⟨?_, fun ih => ?_⟩
          · unfold fMw
            split
            · omega
            · have := hq (6 * X.2.2.2.2 j + j) (by omega) (by omega)
              omega
          have ih : kX12_judge_72 l G x1 x2 x3 x4 (fMw (pS υ) X j x) (j + 1) ρ (fun r' υ => gR r' → v = r' ∧ tInv υ) := ih
          unfold fMw at ih
          refine vX12_judge_72 x1 x2 x3 x4 x j r1 r2 r3 r4 ⟨by omega, by omega⟩ ⟨by omega, by omega⟩ ρ _ ?_
          rw [r10, m111 j j0 (by omega)]
          refine ⟨fun z => by omega, fun _ => ⟨by omega, fun z => ?_, fun z => ?_⟩⟩
          · rw [if_neg z] at ih
            refine c_at _ j (by omega) (by omega) ρ _ (fun _ => ⟨by omega, ?_⟩)
            rw [r95 _ (by omega) (by omega)]; exact ih
          · rw [if_pos z] at ih
            rw [Int.add_zero]; exact ih
        · intro hp
          refine vX12_judge_72 x1 x2 x3 x4 _ _ r1 r2 r3 r4 ⟨by omega, by omega⟩ ⟨by omega, by omega⟩ ρ _ ?_
          rw [r10]
          refine ⟨fun _ => ⟨fun z _ => ⟨same _ ?_, IQ ρ rQ⟩, fun z => ?_⟩, fun z => by omega⟩
          · unfold zJudge
            rw [if_neg (by omega), if_neg (by omega), if_neg (by omega), if_pos (by omega), hX]; rfl
          · refine c_matchedNow (pS υ 88 10) hP X ρ r10 (fun o o0 o1 => m111 o o0 (by omega)) _ (fun _ _ => ⟨same _ ?_, IQ ρ rQ⟩)
            unfold zJudge
            rw [if_neg (by omega), if_neg (by omega), if_pos z, hX]
      refine ⟨fun _ => ⟨fun z u eu => ?_, fun z => ⟨fun z1 => ⟨fun z2 => tr (Or.inl z2), fun z2 => ⟨fun z3 => ⟨fun z4 => ?_, fun z4 => ?_⟩, fun z3 => tr (Or.inr z3)⟩⟩, fun z1 u eu => ?_⟩⟩, fun e => absurd e (by decide)⟩
      · rw [if_neg (by omega)] at eu
        rw [eu]
        refine c_judges (pS υ 95) _ 0 hP (Or.inl rfl) hq υ a10 a95 _ (fun ρ r116 rF _ => ⟨same _ ?_, FQ ρ rF⟩)
        unfold zJudge
        have e0 := r116 0 (by omega) (by omega) 0 (by omega) (by have := two_pow_P hP; omega)
        rw [show (64 * 0 + 0 : Int) = 0 by decide, show (pS υ 88 10 - 0).toNat = (pS υ 88 10).toNat by omega] at e0
        rw [if_pos z, e0]
      · refine c_isIn x4 10 15 r4 (by decide) (by decide) υ _ (fun r hr _ => ⟨fun y _ => ⟨same _ ?_, iu⟩, fun y => ?_⟩)
        · unfold zJudge
          rw [if_neg (by omega), if_neg (by omega), if_neg (by omega), if_neg (by omega), if_neg (by omega)]
          split
          · rfl
          · rw [if_neg (by omega)]
        · refine c_isPort (x4 - 10) ⟨by omega, by omega⟩ υ (by rw [a10]; omega) _ (fun r hr2 _ => ⟨fun y2 => ?_, fun y2 _ => ⟨same _ ?_, iu⟩⟩)
          · rw [a10] at hr2
            refine c_judges (pS υ 95) _ 1 hP (Or.inr rfl) hq υ a10 a95 _ (fun ρ r116 rF => ?_)
            refine c_rowOf (pS υ 95) _ (x4 - 10) hP (by omega) hq ρ (by rw [rF _ _ (by omega)]; exact a10) (fun k k0 k1 => by rw [rF _ _ (by omega)]; exact a95 k k0 k1) r116 _ (fun _ _ => ⟨same _ ?_, FQ ρ rF⟩)
            unfold zJudge
            rw [if_neg (by omega), if_neg (by omega), if_neg (by omega), if_neg (by omega), if_neg (by omega), if_neg (by omega), if_pos (by omega)]
          · rw [a10] at hr2
            unfold zJudge
            rw [if_neg (by omega), if_neg (by omega), if_neg (by omega), if_neg (by omega), if_neg (by omega), if_neg (by omega), if_neg (by omega)]
      · refine c_needOf υ ok _ (fun n ρ hn rQ _ _ => ⟨same _ ?_, IQ ρ rQ⟩)
        unfold zJudge
        rw [if_neg (by omega), if_neg (by omega), if_neg (by omega), if_neg (by omega), if_pos z4]; exact hn
      · rw [if_pos z1] at eu
        rw [eu]
        refine c_judges (pS υ 95) _ 1 hP (Or.inr rfl) hq υ a10 a95 _ (fun ρ r116 rF _ => ⟨same _ ?_, FQ ρ rF⟩)
        unfold zJudge
        have e0 := r116 0 (by omega) (by omega) 0 (by omega) (by have := two_pow_P hP; omega)
        rw [show (64 * 0 + 0 : Int) = 0 by decide, show (pS υ 88 10 - 0).toNat = (pS υ 88 10).toNat by omega] at e0
        rw [if_neg z, if_pos z1, e0]
    · rw [if_neg e5] at ew
      subst ew
      exact ⟨fun e => absurd rfl e, fun _ _ => ⟨hn (fun z => e5 z.2.2.2.2.2), iu⟩⟩
  refine vX11_judge x1 x2 x3 x4 r1 r2 r3 r4 σ _ (vX11_reaches x1 x2 x3 r1 r2 r3 σ _ ⟨fun e _ => ⟨fun _ _ => B _ σ frC.rfl' (fun _ => rfl) (fun z => by omega), fun e => absurd rfl e⟩, fun e => ⟨fun e9 _ => ⟨fun _ _ => B _ σ frC.rfl' (fun _ => rfl) (fun z => ?_), fun e => absurd rfl e⟩, fun e9 => ?_⟩⟩)
  · have := (zRun_ok hI z.1 z.2.1 z.2.2.1 z.2.2.2.1 z.2.2.2.2.1).2.2.2.1
    omega
  · refine c_begins11 x1 x2 r1 r2 σ hI _ (fun e _ => ⟨fun e => absurd rfl e, fun _ _ => ⟨fun _ _ => B _ σ frC.rfl' (fun _ => rfl) (fun z => absurd ⟨z.1, z.2.1, z.2.2.1, z.2.2.2.1⟩ e), fun e => absurd rfl e⟩⟩) (fun e0 e1 e2 e3 τ hτ fτ _ => ⟨fun _ => ?_, fun e => absurd e (by decide)⟩)
    refine c_followX x1 x2 x3 σ τ hI e0 e1 e2 e3 ⟨e, e9⟩ hτ fτ _ (fun υ uC uF _ w ew _ => ?_)
    have ok := zRun_ok hI e0 e1 e2 e3 e
    by_cases e5 : zRun σ x1 x2 x3 88 29 = x3
    · rw [if_pos e5] at ew
      subst ew
      exact ⟨fun e => absurd e (by decide), fun _ => c_tellJ x4 r4 υ _ uC ok.1.1.1 _ (fun v ρ hv rF _ _ => B v ρ (uF.c.trans rF) (fun z => absurd ⟨e0, e1, e2, e3, e, e5⟩ z) (fun _ => hv))⟩
    · rw [if_neg e5] at ew
      subst ew
      exact ⟨fun _ _ => B _ υ uF.c (fun _ => rfl) (fun z => absurd z.2.2.2.2.2 e5), fun e => absurd rfl e⟩
end SG
