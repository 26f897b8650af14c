/-- the reference's cells, as a state of their own -/
abbrev RS : Type := Nat → Int → Int
/-- the cells and places that count -/
def okC (c : Nat) (i : Int) : Prop :=
  (c = 88 ∧ ((10 ≤ i ∧ i ≤ 14) ∨ (23 ≤ i ∧ i ≤ 29) ∨ i = 64 ∨ i = 65 ∨ i = 68)) ∨ c = 130 ∨ c = 131 ∨ ((c = 92 ∨ c = 93 ∨ c = 97 ∨ c = 98 ∨ c = 99) ∧ 0 ≤ i ∧ i < 6) ∨ (c = 95 ∧ 0 ≤ i ∧ i < 36) ∨ (c = 94 ∧ 0 ≤ i ∧ i < 324) ∨ (c = 96 ∧ 0 ≤ i ∧ i < 54) ∨ (100 ≤ c ∧ c ≤ 108 ∧ 0 ≤ i ∧ i < 400) ∨ ((c = 109 ∨ c = 110) ∧ 0 ≤ i ∧ i < 2520)
noncomputable def pS (σ : gS) : RS := fun c i => @ite _ (okC c i) (Classical.propDecidable _) (gI σ c i) 0
theorem pS_y {σ : gS} {c : Nat} {i : Int} (h : okC c i) : pS σ c i = gI σ c i := by unfold pS; exact @if_pos _ (Classical.propDecidable _) h _ _ _
theorem pS_n {σ : gS} {c : Nat} {i : Int} (h : ¬ okC c i) : pS σ c i = 0 := by unfold pS; exact @if_neg _ (Classical.propDecidable _) h _ _ _
def uS (S : RS) (c : Nat) (i v : Int) : RS := fun c' i' => if c' = c ∧ i' = i then v else S c' i'
theorem pS_sI {σ : gS} {c : Nat} {i v : Int} (h : okC c i) : pS (sI σ c i v) = uS (pS σ) c i v := by
  funext c' i'
  unfold uS
  by_cases h1 : c' = c ∧ i' = i
  · rw [if_pos h1, h1.1, h1.2, pS_y h, sI_eq]
  · rw [if_neg h1]
    by_cases h2 : okC c' i'
    · rw [pS_y h2, pS_y h2, sI_at, if_neg h1]
    · rw [pS_n h2, pS_n h2]
theorem pS_no {σ : gS} {c : Nat} {i v : Int} (h : ¬ okC c i) : pS (sI σ c i v) = pS σ := by
  funext c' i'
  by_cases h2 : okC c' i'
  · rw [pS_y h2, pS_y h2, sI_at, if_neg (fun q => h (by rw [← q.1, ← q.2]; exact h2))]
  · rw [pS_n h2, pS_n h2]
theorem pS_at {σ : gS} {c : Nat} {i : Int} (h : okC c i) : gI σ c i = pS σ c i := (pS_y h).symm
theorem pS_eq {σ τ : gS} (h : ∀ c i, okC c i → gI τ c i = gI σ c i) : pS τ = pS σ := by
  funext c i
  by_cases h2 : okC c i
  · rw [pS_y h2, pS_y h2, h c i h2]
  · rw [pS_n h2, pS_n h2]
theorem pS_frC {σ τ : gS} (h : frC σ τ) : pS τ = pS σ := pS_eq (fun c i hc => h.2 c (by unfold okC at hc; omega) i)
theorem uS_at (S : RS) (c : Nat) (i v : Int) (c' : Nat) (i' : Int) : uS S c i v c' i' = if c' = c ∧ i' = i then v else S c' i' := rfl
theorem uS_ne {S : RS} {c : Nat} {i v : Int} {c' : Nat} {i' : Int} (h : c' ≠ c) : uS S c i v c' i' = S c' i' := by rw [uS_at, if_neg (fun q => h q.1)]
theorem uS_nei {S : RS} {c : Nat} {i v : Int} {c' : Nat} {i' : Int} (h : i' ≠ i) : uS S c i v c' i' = S c' i' := by rw [uS_at, if_neg (fun q => h q.2)]
theorem uS_eq {S : RS} {c : Nat} {i v : Int} : uS S c i v c i = v := by rw [uS_at, if_pos ⟨rfl, rfl⟩]
def zCome (i outs fan alone : Int) (S : RS) : RS :=
  uS (uS (uS (uS (uS (uS (uS (uS (uS (uS (uS S 100 (S 88 25) i) 101 (S 88 25) outs) 102 (S 88 25) fan) 103 (S 88 25) (S 88 24)) 104 (S 88 25) (-1)) 105 (S 88 25) 0) 106 (S 88 25) outs) 107 (S 88 25) 0) 108 (S 88 25) alone) 88 25 (S 88 25 + 1)) 99 i 1
def zLose (k : Int) (S : RS) : RS := uS (uS S 105 k 1) 88 26 (S 88 26 + 1)
def zCell (i o alone : Int) (S : RS) : RS :=
  if S 95 (6 * i + o) < S 88 12 then uS (uS (zCome i (2 ^ o.toNat) 0 alone S) 94 (9 * (6 * i + o) + S 95 (6 * i + o)) (S 88 25)) 95 (6 * i + o) (S 95 (6 * i + o) + 1) else zLose (S 88 25) (zCome i (2 ^ o.toNat) 0 alone S)
def zFan (i outs : Int) (S : RS) : RS :=
  if S 97 i < S 88 12 then uS (uS (zCome i outs 1 0 S) 96 (9 * i + S 97 i) (S 88 25)) 97 i (S 97 i + 1) else zLose (S 88 25) (zCome i outs 1 0 S)
def zBo (i outs : Int) : Nat → Int → Int → RS → Int × RS
  | 0, _, op, S => (op, S)
  | k + 1, o, op, S => if tb outs o = true then (if S 95 (6 * i + o) < S 88 12 then zBo i outs k (o + 1) (gor op (gshl 1 o)) (zCell i o 0 S) else (gor op (gshl 1 o), zCell i o 0 S)) else zBo i outs k (o + 1) op S
def zSh (op : Int) : Nat → RS → RS
  | 0, S => S
  | k + 1, S => zSh op k (if tb op k = true then uS (uS S 88 23 (S 88 23 + 1)) 98 k (S 88 23 + 1) else S)
def zBurst (i outs : Int) (S : RS) : RS := zSh (zBo i outs (S 88 10).toNat 0 0 S).1 (S 88 10).toNat (zBo i outs (S 88 10).toNat 0 0 S).2
/-- what zCome leaves -/
theorem zCome_88 (i outs fan alone : Int) (S : RS) (k : Int) (hk : k ≠ 25) : zCome i outs fan alone S 88 k = S 88 k := by
  unfold zCome
  rw [uS_ne (by omega), uS_nei hk, uS_ne (by omega), uS_ne (by omega), uS_ne (by omega), uS_ne (by omega), uS_ne (by omega), uS_ne (by omega), uS_ne (by omega), uS_ne (by omega), uS_ne (by omega)]
theorem zCome_25 (i outs fan alone : Int) (S : RS) : zCome i outs fan alone S 88 25 = S 88 25 + 1 := by
  unfold zCome
  rw [uS_ne (by omega), uS_eq]
theorem zCome_o (i outs fan alone : Int) (S : RS) (c : Nat) (k : Int) (h : c ≠ 88 ∧ c ≠ 99 ∧ (c < 100 ∨ 108 < c)) : zCome i outs fan alone S c k = S c k := by
  unfold zCome
  rw [uS_ne (by omega), uS_ne (by omega), uS_ne (by omega), uS_ne (by omega), uS_ne (by omega), uS_ne (by omega), uS_ne (by omega), uS_ne (by omega), uS_ne (by omega), uS_ne (by omega), uS_ne (by omega)]
theorem zCome_99 (i outs fan alone : Int) (S : RS) (k : Int) : zCome i outs fan alone S 99 k = if k = i then 1 else S 99 k := by
  unfold zCome
  rw [uS_at]
  by_cases h : k = i
  · rw [if_pos ⟨rfl, h⟩, if_pos h]
  · rw [if_neg (fun q => h q.2), if_neg h, uS_ne (by omega), uS_ne (by omega), uS_ne (by omega), uS_ne (by omega), uS_ne (by omega), uS_ne (by omega), uS_ne (by omega), uS_ne (by omega), uS_ne (by omega), uS_ne (by omega)]
theorem zCome_k (i outs fan alone : Int) (S : RS) (c : Nat) (k : Int) (h : 100 ≤ c ∧ c ≤ 108) (hk : k ≠ S 88 25) : zCome i outs fan alone S c k = S c k := by
  unfold zCome
  rw [uS_ne (by omega), uS_ne (by omega), uS_nei hk, uS_nei hk, uS_nei hk, uS_nei hk, uS_nei hk, uS_nei hk, uS_nei hk, uS_nei hk, uS_nei hk]
theorem zCome_new (i outs fan alone : Int) (S : RS) : zCome i outs fan alone S 100 (S 88 25) = i ∧ zCome i outs fan alone S 101 (S 88 25) = outs ∧ zCome i outs fan alone S 102 (S 88 25) = fan ∧ zCome i outs fan alone S 103 (S 88 25) = S 88 24 ∧ zCome i outs fan alone S 104 (S 88 25) = -1 ∧ zCome i outs fan alone S 105 (S 88 25) = 0 ∧ zCome i outs fan alone S 106 (S 88 25) = outs ∧ zCome i outs fan alone S 107 (S 88 25) = 0 ∧ zCome i outs fan alone S 108 (S 88 25) = alone := by
  unfold zCome
  refine ⟨?_, ?_, ?_, ?_, ?_, ?_, ?_, ?_, ?_⟩ <;> (repeat (first | rw [uS_eq] | rw [uS_ne (by omega)]))
section MV
variable {l : Launch} {G : gG}
theorem c_comes (i outs fan alone : Int) (hi : 0 ≤ i ∧ i < 6) (ro : gR outs) (hf : fan = 0 ∨ fan = 1) (ha : alone = 0 ∨ alone = 1) (σ : gS) (hk : 0 ≤ gI σ 88 25 ∧ gI σ 88 25 < 400) (Q : Int → gS → Prop) (h : ∀ τ, pS τ = zCome i outs fan alone (pS σ) → frQ σ τ → Q (pS σ 88 25) τ) : eX12_comes l G i outs fan alone σ Q := by
  refine vX12_comes i outs fan alone ⟨by omega, by omega⟩ ro (gR_01 hf) (gR_01 ha) σ Q ⟨hk, fun σ1 e1 σ2 e2 => ⟨hf, fun σ3 e3 σ4 e4 σ5 e5 σ6 e6 σ7 e7 σ8 e8 => ⟨ha, fun σ9 e9 => ?_⟩⟩⟩
  have f24 : gI σ3 88 24 = gI σ 88 24 := by rw [e3, sI_ne (by omega), e2, sI_ne (by omega), e1, sI_ne (by omega)]
  have f25 : gI σ9 88 25 = gI σ 88 25 := by rw [e9, sI_ne (by omega), e8, sI_ne (by omega), e7, sI_ne (by omega), e6, sI_ne (by omega), e5, sI_ne (by omega), e4, sI_ne (by omega), e3, sI_ne (by omega), e2, sI_ne (by omega), e1, sI_ne (by omega)]
  rw [f25]
  refine ⟨⟨by omega, by omega⟩, fun σa ea => ⟨by omega, fun σb eb => ?_⟩⟩
  rw [pS_at (by unfold okC; omega)]
  refine h σb ?_ ?_
  · rw [f24] at e4
    rw [eb, pS_sI (by unfold okC; omega), ea, pS_sI (by unfold okC; omega), e9, pS_sI (by unfold okC; omega), e8, pS_sI (by unfold okC; omega), e7, pS_sI (by unfold okC; omega), e6, pS_sI (by unfold okC; omega), e5, pS_sI (by unfold okC; omega), e4, pS_sI (by unfold okC; omega), e3, pS_sI (by unfold okC; omega), e2, pS_sI (by unfold okC; omega), e1, pS_sI (by unfold okC; omega), pS_at (by unfold okC; omega), pS_at (by unfold okC; omega)]
    rfl
  · rw [eb, ea, e9, e8, e7, e6, e5, e4, e3, e2, e1]
    repeat (first | exact frQ.set (by omega) | refine frQ.trans ?_ (frQ.set (by omega)))
theorem c_loses (k : Int) (hk : 0 ≤ k ∧ k < 400) (σ : gS) (h26 : 0 ≤ gI σ 88 26 ∧ gI σ 88 26 < 400) (Q : Int → gS → Prop) (h : ∀ τ, pS τ = zLose k (pS σ) → frQ σ τ → Q 0 τ) : eX12_loses l G k σ Q := by
  refine vX12_loses k ⟨by omega, by omega⟩ σ Q ⟨hk, fun σ1 e1 => ?_⟩
  have f : gI σ1 88 26 = gI σ 88 26 := by rw [e1, sI_ne (by omega)]
  rw [f]
  refine ⟨⟨by omega, by omega⟩, fun σ2 e2 => h σ2 ?_ ?_⟩
  · rw [e2, pS_sI (by unfold okC; omega), e1, pS_sI (by unfold okC; omega), pS_at (by unfold okC; omega)]; rfl
  · rw [e2, e1]; exact (frQ.set (by omega)).trans (frQ.set (by omega))
theorem c_at (i o : Int) (hi : 0 ≤ i ∧ i < 6) (ho : 0 ≤ o ∧ o < 6) (σ : gS) (Q : Int → gS → Prop) (h : Q (6 * i + o) σ) : eX12_at l G i o σ Q :=
  vX12_at i o ⟨by omega, by omega⟩ ⟨by omega, by omega⟩ σ Q ⟨⟨by omega, by omega⟩, h⟩
/-- a cell comes, by the reference -/
theorem c_cellComes (i o alone : Int) (hi : 0 ≤ i ∧ i < 6) (ho : 0 ≤ o ∧ o < 6) (ha : alone = 0 ∨ alone = 1) (σ : gS) (hk : 0 ≤ pS σ 88 25 ∧ pS σ 88 25 < 400) (hl : 0 ≤ pS σ 88 26 ∧ pS σ 88 26 < 400) (hq : 0 ≤ pS σ 95 (6 * i + o)) (hd : pS σ 88 12 ≤ 9) (Q : Int → gS → Prop)
    (h : ∀ r τ, (r = 1 ∧ pS σ 95 (6 * i + o) < pS σ 88 12) ∨ (r = 0 ∧ ¬ pS σ 95 (6 * i + o) < pS σ 88 12) → pS τ = zCell i o alone (pS σ) → frQ σ τ → Q r τ) : eX12_cellComes l G i o alone σ Q := by
  have h2 : gshl 1 o = 2 ^ o.toNat := gshl_1 o (by omega)
  have h3 := pow6 o ho
  refine vX12_cellComes i o alone ⟨by omega, by omega⟩ ⟨by omega, by omega⟩ (gR_01 ha) σ Q ?_
  rw [h2]
  refine c_comes i _ 0 alone hi ⟨by omega, by omega⟩ (Or.inl rfl) ha σ (by rw [pS_at (by unfold okC; omega)]; exact hk) _ (fun σ1 p1 q1 _ => ?_)
  have a95 : gI σ1 95 (6 * i + o) = pS σ 95 (6 * i + o) := by rw [pS_at (by unfold okC; omega), p1, zCome_o _ _ _ _ _ _ _ (by omega)]
  have a12 : gI σ1 88 12 = pS σ 88 12 := by rw [pS_at (by unfold okC; omega), p1, zCome_88 _ _ _ _ _ _ (by omega)]
  refine c_at i o hi ho σ1 _ (fun _ => ?_)
  rw [a95, a12]
  refine ⟨by omega, fun e => c_at i o hi ho σ1 _ (fun _ => c_at i o hi ho σ1 _ (fun _ => ?_)), fun e => ?_⟩
  · rw [a95]
    refine ⟨by omega, by omega, fun σ2 e2 => c_at i o hi ho σ2 _ (fun _ => ?_)⟩
    have b95 : gI σ2 95 (6 * i + o) = pS σ 95 (6 * i + o) := by rw [e2, sI_ne (by omega)]; exact a95
    rw [b95]
    refine ⟨by omega, ⟨by omega, by omega⟩, fun σ3 e3 => h 1 σ3 (Or.inl ⟨rfl, e⟩) ?_ ?_⟩
    · rw [e3, pS_sI (by unfold okC; omega), e2, pS_sI (by unfold okC; omega), p1]
      unfold zCell
      rw [if_pos e]
    · rw [e3, e2]; exact (q1.trans (frQ.set (by omega))).trans (frQ.set (by omega))
  · refine c_loses _ (by omega) σ1 (by rw [pS_at (by unfold okC; omega), p1, zCome_88 _ _ _ _ _ _ (by omega)]; exact hl) _ (fun σ2 p2 q2 _ => h 0 σ2 (Or.inr ⟨rfl, by omega⟩) ?_ (q1.trans q2))
    rw [p2, p1]
    unfold zCell
    rw [if_neg (by omega)]
theorem c_fanComes (i outs : Int) (hi : 0 ≤ i ∧ i < 6) (ho : 0 ≤ outs ∧ outs < 64) (σ : gS) (hk : 0 ≤ pS σ 88 25 ∧ pS σ 88 25 < 400) (hl : 0 ≤ pS σ 88 26 ∧ pS σ 88 26 < 400) (hq : 0 ≤ pS σ 97 i) (hd : pS σ 88 12 ≤ 9) (Q : gS → Prop)
    (h : ∀ τ, pS τ = zFan i outs (pS σ) → frQ σ τ → Q τ) : eX12_fanComes l G i outs σ Q := by
  refine vX12_fanComes i outs ⟨by omega, by omega⟩ ⟨by omega, by omega⟩ σ Q ?_
  refine c_comes i _ 1 0 hi ⟨by omega, by omega⟩ (Or.inr rfl) (Or.inl rfl) σ (by rw [pS_at (by unfold okC; omega)]; exact hk) _ (fun σ1 p1 q1 _ => ?_)
  have a97 : gI σ1 97 i = pS σ 97 i := by rw [pS_at (by unfold okC; omega), p1, zCome_o _ _ _ _ _ _ _ (by omega)]
  have a12 : gI σ1 88 12 = pS σ 88 12 := by rw [pS_at (by unfold okC; omega), p1, zCome_88 _ _ _ _ _ _ (by omega)]
  rw [a97, a12]
  refine ⟨by omega, fun e => ⟨by omega, fun σ2 e2 => ?_⟩, fun e => ?_⟩
  · have b97 : gI σ2 97 i = pS σ 97 i := by rw [e2, sI_ne (by omega)]; exact a97
    rw [b97]
    refine ⟨⟨by omega, by omega⟩, fun σ3 e3 => h σ3 ?_ ?_⟩
    · rw [e3, pS_sI (by unfold okC; omega), e2, pS_sI (by unfold okC; omega), p1]
      unfold zFan
      rw [if_pos e]
    · rw [e3, e2]; exact (q1.trans (frQ.set (by omega))).trans (frQ.set (by omega))
  · refine c_loses _ (by omega) σ1 (by rw [pS_at (by unfold okC; omega), p1, zCome_88 _ _ _ _ _ _ (by omega)]; exact hl) _ (fun σ2 p2 q2 _ => h σ2 ?_ (q1.trans q2))
    rw [p2, p1]
    unfold zFan
    rw [if_neg (by omega)]
end MV
