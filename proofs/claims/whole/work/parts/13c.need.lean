theorem fstF_miss {p : Int → Bool} {P : Int} (hP : 1 ≤ P) : ∀ (n : Nat) (s : Int), 0 ≤ s → s < P → fstF p P n s = -1 → ∀ k : Nat, k < n → p ((s + k) % P) = false
  | 0, _, _, _, _, k, hk => by omega
  | n + 1, s, s0, s1, h, k, hk => by
    unfold fstF at h
    by_cases e : p s = true
    · rw [if_pos e] at h; omega
    · rw [if_neg e] at h
      have nr := nxt_r hP s0
      have ih := fstF_miss hP n (nxt P s) nr.1 nr.2 h
      cases k with
      | zero =>
        rw [show s + ((0 : Nat) : Int) = s by omega, Int.emod_eq_of_lt s0 s1]
        simpa using e
      | succ k =>
        have := ih k (by omega)
        have e2 : nxt P s = (s + 1) % P := by rw [emod_nxt hP, Int.emod_eq_of_lt s0 s1]
        rw [e2, Int.emod_add_emod] at this
        rw [show s + ((k + 1 : Nat) : Int) = s + 1 + k by omega]; exact this
theorem fst_hit {p : Int → Bool} {s P k : Int} (hs : 0 ≤ s ∧ s < P) (hk : 0 ≤ k ∧ k < P) (hp : p k = true) : fst p s P ≠ -1 := by
  intro h
  have hP : 1 ≤ P := by omega
  have d0 := Int.emod_nonneg (k - s) (show P ≠ 0 by omega)
  have d1 := Int.emod_lt_of_pos (k - s) (show 0 < P by omega)
  have m := fstF_miss hP P.toNat s hs.1 hs.2 h ((k - s) % P).toNat (by omega)
  rw [show ((((k - s) % P).toNat : Nat) : Int) = (k - s) % P by omega, Int.add_emod_emod, show s + (k - s) = k by omega, Int.emod_eq_of_lt hk.1 hk.2, hp] at m
  exact absurd m (by decide)
theorem sPair_mono {P : Int} {f : Bool} {i o : Int} {X : mX} {k : Int} : (X.1 k = true → (sPair P f i o X).1 k = true) ∧ (X.2.1 k = true → (sPair P f i o X).2.1 k = true) := by
  unfold sPair
  exact ⟨fun h => by simp [h], fun h => by simp [h]⟩
theorem sAcc_mono {P : Int} {f : Bool} {gd : Int → Int} {i : Int} {X : mX} {k : Int} : (X.1 k = true → (sAcc P f gd i X).1 k = true) ∧ (X.2.1 k = true → (sAcc P f gd i X).2.1 k = true) := by
  unfold sAcc
  split
  · exact ⟨fun h => h, fun h => h⟩
  · exact sPair_mono
theorem sAccs_mono {P : Int} {f : Bool} {gd : Int → Int} {X : mX} {k : Int} (m : Nat) : ∀ d : Nat, ((sAccs P f gd m X).1 k = true → (sAccs P f gd (m + d) X).1 k = true) ∧ ((sAccs P f gd m X).2.1 k = true → (sAccs P f gd (m + d) X).2.1 k = true)
  | 0 => ⟨fun h => h, fun h => h⟩
  | d + 1 => ⟨fun h => sAcc_mono.1 ((sAccs_mono m d).1 h), fun h => sAcc_mono.2 ((sAccs_mono m d).2 h)⟩
theorem sRound_mono {P : Int} {f : Bool} {ask : Int → Int → Bool} {X : mX} {k : Int} : (X.1 k = true → (sRound P f ask X).1 k = true) ∧ (X.2.1 k = true → (sRound P f ask X).2.1 k = true) := by
  have h := sAccs_mono (P := P) (f := f) (gd := sGd P ask X) (X := X) (k := k) 0 P.toNat
  rw [Nat.zero_add] at h
  exact h
/-- an input and an output that could still be matched -/
def asksX (P : Int) (ask : Int → Int → Bool) (X : mX) : Prop := ∃ i o, (0 ≤ i ∧ i < P) ∧ (0 ≤ o ∧ o < P) ∧ X.1 i = false ∧ X.2.1 o = false ∧ ask i o = true
theorem bool_anti {a b : Bool} (h : a = true → b = true) (k : b = false) : a = false := by
  cases a
  · rfl
  · rw [h rfl] at k; exact absurd k (by decide)
theorem asksX_anti {P : Int} {f : Bool} {ask : Int → Int → Bool} {X : mX} (h : asksX P ask (sRound P f ask X)) : asksX P ask X := by
  obtain ⟨i, o, hi, ho, h1, h2, h3⟩ := h
  exact ⟨i, o, hi, ho, bool_anti sRound_mono.1 h1, bool_anti sRound_mono.2 h2, h3⟩
theorem sRound_more {P : Int} {f : Bool} {ask : Int → Int → Bool} {X : mX} (hX : okX P X) (h : asksX P ask X) : ∃ b, 0 ≤ b ∧ b < P ∧ X.2.1 b = false ∧ (sRound P f ask X).2.1 b = true := by
  obtain ⟨i, o, hi, ho, h1, h2, h3⟩ := h
  have hx := hX o ho.1 ho.2
  have g : sGd P ask X o ≠ -1 := fst_hit (k := i) ⟨hx.1, hx.2.1⟩ hi (by simp [h1, h2, h3])
  obtain ⟨g0, g1, _⟩ := (sGd_in (ask := ask) hX o ho).resolve_left g
  have okA := okX_accs (f := f) (gd := sGd P ask X) hX (sGd P ask X o).toNat (by omega)
  have hy := okA (sGd P ask X o) g0 g1
  have b0 : sBest P (sGd P ask X) (sGd P ask X o) (sAccs P f (sGd P ask X) (sGd P ask X o).toNat X) ≠ -1 := fst_hit (k := o) ⟨hy.2.2.1, hy.2.2.2⟩ ho (by simp)
  obtain ⟨c0, c1, c2⟩ := (sBest_in (gd := sGd P ask X) okA (sGd P ask X o) ⟨g0, g1⟩).resolve_left b0
  refine ⟨_, c0, c1, ?_, ?_⟩
  · rcases sGd_in (ask := ask) hX _ ⟨c0, c1⟩ with z | z
    · rw [c2] at z; omega
    · exact z.2.2.2.1
  · have m := (sAccs_mono (P := P) (f := f) (gd := sGd P ask X) (X := X) (k := sBest P (sGd P ask X) (sGd P ask X o) (sAccs P f (sGd P ask X) (sGd P ask X o).toNat X)) ((sGd P ask X o).toNat + 1) (P.toNat - ((sGd P ask X o).toNat + 1))).2
    rw [show (sGd P ask X o).toNat + 1 + (P.toNat - ((sGd P ask X o).toNat + 1)) = P.toNat by omega] at m
    refine m ?_
    show (sAcc P f (sGd P ask X) (((sGd P ask X o).toNat : Nat) : Int) (sAccs P f (sGd P ask X) (sGd P ask X o).toNat X)).2.1 _ = true
    rw [show (((sGd P ask X o).toNat : Nat) : Int) = sGd P ask X o by omega]
    unfold sAcc
    rw [if_neg b0]
    unfold sPair
    simp
theorem sm_le {f g : Int → Int} : ∀ n : Nat, (∀ j : Int, 0 ≤ j → j < n → f j ≤ g j) → sm f n ≤ sm g n
  | 0, _ => Int.le_refl _
  | n + 1, h => by
    show sm f n + f n ≤ sm g n + g n
    have := sm_le n (fun j j0 j1 => h j j0 (by omega))
    have := h n (by omega) (by omega)
    omega
theorem sm_lt {f g : Int → Int} : ∀ n : Nat, (∀ j : Int, 0 ≤ j → j < n → f j ≤ g j) → (∃ j : Int, 0 ≤ j ∧ j < n ∧ f j < g j) → sm f n < sm g n
  | 0, _, ⟨j, j0, j1, _⟩ => by omega
  | n + 1, h, ⟨j, j0, j1, j2⟩ => by
    show sm f n + f n < sm g n + g n
    have a := sm_le n (fun j j0 j1 => h j j0 (by omega))
    have b := h n (by omega) (by omega)
    by_cases e : j = n
    · rw [e] at j2; omega
    · have := sm_lt n (fun j j0 j1 => h j j0 (by omega)) ⟨j, j0, by omega, j2⟩
      omega
theorem sm_tail {f : Int → Int} (n : Nat) : ∀ d : Nat, (∀ j : Int, (n : Int) ≤ j → j < n + d → f j = 0) → sm f (n + d) = sm f n
  | 0, _ => rfl
  | d + 1, h => by
    show sm f (n + d) + f ((n + d : Nat) : Int) = _
    rw [sm_tail n d (fun j j0 j1 => h j j0 (by omega)), h _ (by omega) (by omega)]; omega
theorem sm_one : ∀ n : Nat, sm (fun _ => 1) n = n
  | 0 => rfl
  | n + 1 => by
    show sm (fun _ => 1) n + 1 = _
    rw [sm_one n]; omega
/-- how many outputs are busy -/
def bcX (P : Int) (X : mX) : Int := sm (fun o => if X.2.1 o = true then 1 else 0) P.toNat
theorem bcX_lt {P : Int} {f : Bool} {ask : Int → Int → Bool} {X : mX} (hX : okX P X) (h : asksX P ask X) : bcX P X < bcX P (sRound P f ask X) := by
  obtain ⟨b, b0, b1, b2, b3⟩ := sRound_more (f := f) hX h
  refine sm_lt _ (fun j j0 j1 => ?_) ⟨b, b0, by omega, by simp [b2, b3]⟩
  by_cases e : X.2.1 j = true
  · simp [e, sRound_mono.2 e]
  · simp only [e]
    by_cases z : (sRound P f ask X).2.1 j = true
    · simp [z]
    · simp [z]
theorem bcX_asks {P : Int} {ask : Int → Int → Bool} {X : mX} (h : asksX P ask X) : bcX P X < P := by
  obtain ⟨i, o, hi, ho, h1, h2, h3⟩ := h
  have := sm_lt (f := fun o => if X.2.1 o = true then 1 else 0) (g := fun _ => 1) P.toNat (fun j j0 j1 => by split <;> omega) ⟨o, ho.1, by omega, by simp [h2]⟩
  rw [sm_one] at this
  unfold bcX
  omega
theorem bcX_0 (P : Int) (X : mX) : 0 ≤ bcX P X := by
  have := (sm_r (f := fun o => if X.2.1 o = true then 1 else 0) (a := 0) (b := 1) P.toNat (fun j _ _ => by split <;> omega)).1
  unfold bcX
  omega
theorem asks_rnds {P : Int} {ask : Int → Int → Bool} {X : mX} (hP : 1 ≤ P) (hX : okX P X) : ∀ n : Nat, asksX P ask (sRnds P ask n X) → (n : Int) ≤ bcX P (sRnds P ask n X)
  | 0, _ => bcX_0 P X
  | n + 1, h => by
    have a : asksX P ask (sRnds P ask n X) := asksX_anti h
    have b := asks_rnds hP hX n a
    have c : bcX P (sRnds P ask n X) < bcX P (sRnds P ask (n + 1) X) := bcX_lt (okX_rnds hP hX n) a
    omega
theorem asks_P {P : Int} {ask : Int → Int → Bool} {X : mX} (hP : 1 ≤ P) (hX : okX P X) {n : Nat} (h : asksX P ask (sRnds P ask n X)) : (n : Int) < P := by
  have := asks_rnds hP hX n h
  have := bcX_asks h
  omega
/-- so many rounds are needed -/
def isNeed (P : Int) (ask : Int → Int → Bool) (X : mX) (n : Int) : Prop := 1 ≤ n ∧ ¬ asksX P ask (sRnds P ask n.toNat X) ∧ ∀ m : Nat, 1 ≤ m → (m : Int) < n → asksX P ask (sRnds P ask m X)
theorem isNeed_eq {P : Int} {ask : Int → Int → Bool} {X : mX} {n m : Int} (h : isNeed P ask X n) (k : isNeed P ask X m) : n = m := by
  obtain ⟨h1, h2, h3⟩ := h
  obtain ⟨k1, k2, k3⟩ := k
  by_cases e : n < m
  · exact absurd (k3 n.toNat (by omega) (by omega)) h2
  · by_cases e2 : m < n
    · exact absurd (h3 m.toNat (by omega) (by omega)) k2
    · omega
/-- how many are matched; their weight -/
def zMc (P : Int) (X : mX) : Int := sm (fun o => if X.2.2.2.2 o = -1 then 0 else 1) P.toNat
theorem bcS_sm {m : Int} {p : Int → Bool} (h : isM m p) : bcS m = sm (fun o => if p o = true then 1 else 0) 6 := by
  unfold bcS
  rw [h.2.2 0 (by omega) (by omega), h.2.2 1 (by omega) (by omega), h.2.2 2 (by omega) (by omega), h.2.2 3 (by omega) (by omega), h.2.2 4 (by omega) (by omega), h.2.2 5 (by omega) (by omega)]
  show _ = 0 + _ + _ + _ + _ + _ + _
  rw [Int.zero_add]
  rfl
theorem zMc_bc {P m : Int} {X : mX} (hP : 1 ≤ P ∧ P ≤ 6) (h : isM m (fun o => decide (o < P) && !X.2.1 o)) (hb : ∀ o, X.2.1 o = true ↔ X.2.2.2.2 o ≠ -1) : P - bcS m = zMc P X := by
  rw [bcS_sm h]
  have t := sm_tail (f := fun o => if (decide (o < P) && !X.2.1 o) = true then 1 else 0) P.toNat (6 - P.toNat) (fun j j0 j1 => by
    have : ¬ j < P := by omega
    simp [this])
  rw [show P.toNat + (6 - P.toNat) = 6 by omega] at t
  rw [t]
  have a := sm_add (fun o => if (decide (o < P) && !X.2.1 o) = true then 1 else 0) (fun o => if X.2.2.2.2 o = -1 then 0 else 1) P.toNat
  rw [sm_congr (g := fun _ => 1) P.toNat (fun j j0 j1 => by
    have : j < P := by omega
    have hj := hb j
    by_cases e : X.2.2.2.2 j = -1
    · have f : X.2.1 j = false := by
        cases z : X.2.1 j
        · rfl
        · exact absurd e (hj.mp z)
      simp [this, e, f]
    · have f : X.2.1 j = true := hj.mpr e
      simp [e, f]), sm_one] at a
  unfold zMc
  omega
/-- a match without fans, from the pointers of a state -/
def zX0 (S : RS) : mX := (fun _ => false, fun _ => false, S 92, S 93, fun _ => -1)
def askS (S : RS) : Int → Int → Bool := fun i o => decide (0 < S 95 (6 * i + o))
def zNow (S : RS) (n : Nat) : mX := sRnds (S 88 10) (askS S) n (zX0 S)
theorem okX_0 {S : RS} (hS : OKS S) : okX (S 88 10) (zX0 S) := okX_S hS _ _ _
theorem zNow_b {S : RS} (hS : OKS S) (n : Nat) (o : Int) : (zNow S n).2.1 o = true ↔ (zNow S n).2.2.2.2 o ≠ -1 := by
  have h := (bmX_rnds (ask := askS S) hS.1.1 (okX_0 hS) (fun _ => rfl) n).2.1 o
  refine h.trans ⟨fun z => ?_, Or.inr⟩
  rcases z with z | z
  · exact absurd (show false = true from z) (by decide)
  · exact z
theorem zNow_m {S : RS} (hS : OKS S) (n : Nat) (o : Int) : (zNow S n).2.2.2.2 o = -1 ∨ (0 ≤ (zNow S n).2.2.2.2 o ∧ (zNow S n).2.2.2.2 o < S 88 10) := by
  rcases (gdX_rnds (ask := askS S) hS.1.1 (okX_0 hS) n).2 o with z | z
  · exact Or.inl z
  · exact Or.inr ⟨z.2.2.1, z.2.2.2.1⟩
def fMw (S : RS) (X : mX) (o x : Int) : Int := if X.2.2.2.2 o = -1 then x else x + S 95 (6 * X.2.2.2.2 o + o)
def zMw (S : RS) (X : mX) : Int := gfold (fMw S X) 0 (S 88 10).toNat
section SF
variable {l : Launch} {G : gG}
theorem c_free45 (σ : gS) (S : RS) (hC : CR σ S) (hS : OKS S) (Q : gS → Prop) (h : ∀ τ, CM τ 45 (S 88 10) (askS S) (zX0 S) → (∀ c i, c < 45 ∨ 50 < c → gI τ c i = gI σ c i) → Q τ) : eX4_free l G 45 σ Q := by
  have hP := hS.1
  refine c_free 45 (Or.inl rfl) (S 88 10) ⟨hP.1, hP.2.1⟩ σ hC.1.2.2.2 Q (fun τ t0 t5 t6 t4 tk tf _ => h τ ⟨t0, isM_congr t5 (fun k _ _ => by simp [zX0]), isM_congr t6 (fun k _ _ => by simp [zX0]), fun o o0 o1 => ?_, fun o o0 o1 => ?_⟩ tf)
  · obtain ⟨_, _, c1, c2, _⟩ := hC.2.2.1 o o0 o1
    have a := tk 1 (by omega) (by omega) o
    have b := tk 2 (by omega) (by omega) o
    exact ⟨a.trans c1, b.trans c2, t4 o o0 o1⟩
  · have a := tk 3 (by omega) (by omega) o
    rw [a]; exact hC.2.2.2.2.2.2.1 o o0 o1
theorem c_matchNow (σ : gS) (S : RS) (hC : CR σ S) (hS : OKS S) (Q : gS → Prop) (h : ∀ τ, CM τ 45 (S 88 10) (askS S) (zNow S (S 88 11).toNat) → (∀ c i, c < 45 ∨ 50 < c → gI τ c i = gI σ c i) → Q τ) : eX8_matchNow l G σ Q := by
  have hP := hS.1
  refine vX8_matchNow σ Q (c_free45 σ S hC hS _ (fun τ tC tF => ?_))
  rw [tF 32 4 (by omega), hC.1.2.1]
  exact c_passRounds 45 (Or.inl rfl) (S 88 10) ⟨hP.1, hP.2.1⟩ _ _ (okX_0 hS) (S 88 11) ⟨by omega, by omega⟩ τ tC _ (fun υ uC uF => h υ uC (fun c i hc => (uF.1 c i (by omega)).trans (tF c i hc)))
theorem c_cellsOfMatched (σ : gS) (S : RS) (X : mX) (hP : 1 ≤ S 88 10 ∧ S 88 10 ≤ 6) (h3 : gI σ 32 3 = S 88 10) (hm : ∀ o, 0 ≤ o → o < 6 → gI σ 49 o = X.2.2.2.2 o) (hr : ∀ o, X.2.2.2.2 o = -1 ∨ (0 ≤ X.2.2.2.2 o ∧ X.2.2.2.2 o < S 88 10)) (h53 : ∀ k, 0 ≤ k → k < 36 → gI σ 53 k = S 95 k) (hq : ∀ k, 0 ≤ k → k < 36 → 0 ≤ S 95 k ∧ S 95 k ≤ 9) (Q : Int → gS → Prop) (h : Q (zMw S X) σ) : eX3_cellsOfMatched l G σ Q := by
  refine vX3_cellsOfMatched σ Q ?_
  refine gloopF (fMw S X) 0 (S 88 10) (by omega) (fun j x => 0 ≤ x ∧ x ≤ 9 * j) (fun j x => kX3_cellsOfMatched_4 l G x j σ Q) (by omega) ?_ ?_
  · intro j x j0 j1 hp
    have r := hr j
    refine ⟨?_, fun ih => ?_⟩
    · unfold fMw
      split
      · omega
      · have := hq (6 * X.2.2.2.2 j + j) (by omega) (by omega)
        omega
    have ih : kX3_cellsOfMatched_4 l G (fMw S X j x) (j + 1) σ Q := ih
    unfold fMw at ih
    refine vX3_cellsOfMatched_4 x j ⟨by omega, by omega⟩ ⟨by omega, by omega⟩ σ Q ?_
    rw [h3, hm j j0 (by omega)]
    refine ⟨fun z => by omega, fun _ => ⟨by omega, fun z => ?_, fun z => ⟨by omega, ?_⟩⟩⟩
    · rw [if_pos z] at ih; exact ih
    · rw [if_neg z] at ih
      rw [show X.2.2.2.2 j * 6 + j = 6 * X.2.2.2.2 j + j by omega, h53 _ (by omega) (by omega)]; exact ih
  · intro hp
    refine vX3_cellsOfMatched_4 _ _ ⟨by omega, by omega⟩ ⟨by omega, by omega⟩ σ Q ?_
    rw [h3]
    exact ⟨fun _ => h, fun z => by omega⟩
theorem c_couldMatchMore (P : Int) (hP : 1 ≤ P ∧ P ≤ 6) (ask : Int → Int → Bool) (X : mX) (σ : gS) (hC : CM σ 45 P ask X) (Q : Int → gS → Prop) (h0 : ¬ asksX P ask X → Q 0 σ) (h1 : asksX P ask X → Q 1 σ) : eX4_couldMatchMore l G 45 σ Q := by
  obtain ⟨c1, c2, c3, c4, c5⟩ := hC
  refine vX4_couldMatchMore 45 (Or.inl rfl) σ Q ?_
  refine gloopI (α := Unit) 0 P (fun o _ => o ≤ P ∧ ∀ i o', (0 ≤ i ∧ i < P) → 0 ≤ o' → o' < o → ¬ (X.1 i = false ∧ X.2.1 o' = false ∧ ask i o' = true)) (fun o _ => kX4_couldMatchMore_2 l G 45 o σ Q) ?_ ?_ 0 () (by omega) ⟨by omega, fun i o' _ o0 o1 => by omega⟩
  · rintro o _ o0 o1 ⟨z0, z1⟩ ih
    have a6 : tb (gI σ 45 6) o = !X.2.1 o := by
      rw [c3.2.2 o o0 (by omega)]
      simp [o1]
    have m := isM_and (c5 o o0 o1) c2
    have mz := isM_zero m
    have q1 := c3.1; have q2 := c3.2.1
    refine vX4_couldMatchMore_2 45 o (Or.inl rfl) ⟨by omega, by omega⟩ σ Q ?_
    rw [c1]
    refine ⟨fun z => by omega, fun _ => c_holds _ o ⟨q1, q2⟩ (by omega) σ _ (fun _ => ?_)⟩
    rw [a6]
    have go : (∀ i, (0 ≤ i ∧ i < P) → ¬ (X.1 i = false ∧ X.2.1 o = false ∧ ask i o = true)) → kX4_couldMatchMore_2 l G 45 (o + 1) σ Q := fun n => ih () ⟨by omega, fun i o' hi o0' o1' => by
      by_cases e : o' = o
      · rw [e]; exact n i hi
      · exact z1 i o' hi o0' (by omega)⟩
    by_cases e : X.2.1 o = true
    · rw [if_neg (by rw [e]; decide)]
      exact ⟨fun _ => go (fun i _ z => by rw [e] at z; exact absurd z.2.1 (by decide)), fun z => absurd rfl z⟩
    · have e' : X.2.1 o = false := by simpa using e
      rw [if_pos (by rw [e']; decide)]
      refine ⟨fun z => absurd z (by decide), fun _ => ⟨by omega, fun z => go (fun i hi y => ?_), fun z => h1 ?_⟩⟩
      · have := mz.mp z i hi.1 (by omega)
        simp [hi.2, y.1, y.2.2] at this
      · have : ¬ ∀ k, 0 ≤ k → k < 6 → ((decide (k < P) && ask k o) && (decide (k < P) && !X.1 k)) = false := fun y => z (mz.mpr y)
        have : ∃ k, 0 ≤ k ∧ k < 6 ∧ ¬ ((decide (k < P) && ask k o) && (decide (k < P) && !X.1 k)) = false := by
          apply Classical.byContradiction
          intro n
          exact this (fun k k0 k1 => Classical.byContradiction (fun y => n ⟨k, k0, k1, y⟩))
        obtain ⟨k, k0, k1, k2⟩ := this
        simp only [Bool.not_eq_false, Bool.and_eq_true, decide_eq_true_eq, Bool.not_eq_true'] at k2
        exact ⟨k, o, ⟨k0, k2.1.1⟩, ⟨o0, o1⟩, k2.2.2, e', k2.1.2⟩
  · rintro o _ o0 ⟨z0, z1⟩
    refine vX4_couldMatchMore_2 45 o (Or.inl rfl) ⟨by omega, by omega⟩ σ Q ?_
    rw [c1]
    refine ⟨fun _ => h0 ?_, fun z => by omega⟩
    rintro ⟨i, o', hi, ho, y1, y2, y3⟩
    exact z1 i o' hi ho.1 (by omega) ⟨y1, y2, y3⟩
theorem c_roundsNeeded (σ : gS) (S : RS) (hC : CR σ S) (hS : OKS S) (Q : Int → gS → Prop) (h : ∀ n τ, isNeed (S 88 10) (askS S) (zX0 S) n → (∀ c i, c < 45 ∨ 50 < c → gI τ c i = gI σ c i) → Q n τ) : eX3_roundsNeeded l G σ Q := by
  have hP : 1 ≤ S 88 10 ∧ S 88 10 ≤ 6 := ⟨hS.1.1, hS.1.2.1⟩
  refine vX3_roundsNeeded σ Q (c_free45 σ S hC hS _ (fun τ tC tF => ?_))
  have okx := okX_0 hS
  generalize zX0 S = X at *
  generalize askS S = ask at *
  generalize S 88 10 = P at *
  refine gloopM (α := Int × Int × gS) (fun q => (6 - q.2.1).toNat) (fun q => (q.1 = 0 ∨ q.1 = 1) ∧ 0 ≤ q.2.1 ∧ q.2.1 ≤ 6 ∧ CM q.2.2 45 P ask (sRnds P ask q.2.1.toNat X) ∧ (∀ c i, c < 45 ∨ 50 < c → gI q.2.2 c i = gI σ c i) ∧ (q.1 = 0 → 1 ≤ q.2.1 ∧ ¬ asksX P ask (sRnds P ask q.2.1.toNat X)) ∧ (q.1 = 1 → 1 ≤ q.2.1 → asksX P ask (sRnds P ask q.2.1.toNat X)) ∧ ∀ m : Nat, 1 ≤ m → (m : Int) < q.2.1 → asksX P ask (sRnds P ask m X)) (fun q => kX3_roundsNeeded_10 l G q.2.1 q.1 q.2.1 q.2.2 Q) ?_ (1, 0, τ) ⟨Or.inr rfl, by show (0 : Int) ≤ 0; decide, by show (0 : Int) ≤ 6; decide, tC, tF, fun z => absurd (show (1 : Int) = 0 from z) (by decide), fun _ z => absurd (show (1 : Int) ≤ 0 from z) (by decide), fun m m1 m2 => absurd (show (m : Int) < 0 from m2) (by omega)⟩
  rintro ⟨g, r, υ⟩ ⟨z1, z2, z3, z4, z5, z6, z7, z8⟩ ih
  dsimp only at z1 z2 z3 z4 z5 z6 z7 z8 ih ⊢
  refine vX3_roundsNeeded_10 r g r ⟨by omega, by omega⟩ (gR_01 z1) ⟨by omega, by omega⟩ υ Q ⟨fun e => ?_, fun e => ⟨fun e2 => h r υ ⟨(z6 e2).1, (z6 e2).2, z8⟩ z5, fun e2 v ev => ?_⟩⟩
  · refine h r υ ⟨by omega, fun a => ?_, z8⟩ z5
    have := asks_P hP.1 okx a
    omega
  · have hv01 : v = 0 ∨ v = 1 := by rw [ev]; split <;> omega
    have hdec : decide (v = 1) = decide (r.toNat = 0) := by
      rw [ev]
      by_cases hr : r = 0
      · subst hr; rfl
      · rw [if_neg hr]
        have : ¬ r.toNat = 0 := by omega
        simp [this]
    refine c_passRound 45 (Or.inl rfl) P hP ask _ (okX_rnds hP.1 okx r.toNat) v hv01 υ z4 _ (fun q w q0 q1 qN wC wF _ => ?_)
    have wC' : CM w 45 P ask (sRnds P ask (r + 1).toNat X) := by
      rw [show (r + 1).toNat = r.toNat + 1 by omega]
      show CM w 45 P ask (sRound P (decide (r.toNat = 0)) ask _)
      rw [← hdec]; exact wC
    have wF' : ∀ c i, c < 45 ∨ 50 < c → gI w c i = gI σ c i := fun c i hc => (wF.1 c i (by omega)).trans (z5 c i hc)
    have old : ∀ m : Nat, 1 ≤ m → (m : Int) < r + 1 → asksX P ask (sRnds P ask m X) := fun m m1 m2 => by
      by_cases e9 : (m : Int) = r
      · have := z7 (by omega) (by omega)
        rw [show r.toNat = m by omega] at this; exact this
      · exact z8 m m1 (by omega)
    refine c_couldMatchMore P hP ask _ w wC' _ (fun n _ => ?_) (fun n _ => ?_)
    · exact ih (0, r + 1, w) ⟨Or.inl rfl, by show 0 ≤ r + 1; omega, by show r + 1 ≤ 6; omega, wC', wF', fun _ => ⟨by show 1 ≤ r + 1; omega, n⟩, fun z => absurd (show (0 : Int) = 1 from z) (by decide), old⟩ (by show (6 - (r + 1)).toNat < (6 - r).toNat; omega)
    · exact ih (1, r + 1, w) ⟨Or.inr rfl, by show 0 ≤ r + 1; omega, by show r + 1 ≤ 6; omega, wC', wF', fun z => absurd (show (1 : Int) = 0 from z) (by decide), fun _ _ => n, old⟩ (by show (6 - (r + 1)).toNat < (6 - r).toNat; omega)
end SF
