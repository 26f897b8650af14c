/-- sums -/
def sm (f : Int → Int) : Nat → Int
  | 0 => 0
  | n + 1 => sm f n + f n
theorem sm_gfold (f : Int → Int) (x : Int) : ∀ n : Nat, gfold (fun b y => y + f b) x n = x + sm f n
  | 0 => by show x = x + 0; omega
  | n + 1 => by
    show gfold (fun b y => y + f b) x n + f n = x + (sm f n + f n)
    rw [sm_gfold f x n]; omega
theorem sm_s (f : Int → Int) {j : Int} (h : 0 ≤ j) : sm f (j + 1).toNat = sm f j.toNat + f j := by
  rw [show (j + 1).toNat = j.toNat + 1 by omega]
  show sm f j.toNat + f ((j.toNat : Nat) : Int) = _
  rw [show ((j.toNat : Nat) : Int) = j by omega]
theorem sm_congr {f g : Int → Int} : ∀ n : Nat, (∀ j : Int, 0 ≤ j → j < n → f j = g j) → sm f n = sm g n
  | 0, _ => rfl
  | n + 1, h => by
    show sm f n + f n = sm g n + g n
    rw [sm_congr n (fun j j0 j1 => h j j0 (by omega)), h n (by omega) (by omega)]
theorem sm_add (f g : Int → Int) : ∀ n : Nat, sm (fun j => f j + g j) n = sm f n + sm g n
  | 0 => rfl
  | n + 1 => by
    show sm (fun j => f j + g j) n + (f n + g n) = (sm f n + f n) + (sm g n + g n)
    rw [sm_add f g n]; omega
theorem sm_zero {f : Int → Int} (n : Nat) (h : ∀ j : Int, 0 ≤ j → j < n → f j = 0) : sm f n = 0 := by
  rw [sm_congr (g := fun _ => 0) n h]
  induction n with
  | zero => rfl
  | succ n ih =>
    show sm (fun _ => 0) n + 0 = 0
    rw [ih (fun j j0 j1 => h j j0 (by omega))]
    rfl
theorem sm_r {f : Int → Int} {a b : Int} : ∀ n : Nat, (∀ j : Int, 0 ≤ j → j < n → a ≤ f j ∧ f j ≤ b) → a * n ≤ sm f n ∧ sm f n ≤ b * n
  | 0, _ => ⟨by show a * 0 ≤ 0; omega, by show 0 ≤ b * 0; omega⟩
  | n + 1, h => by
    have i := sm_r n (fun j j0 j1 => h j j0 (by omega))
    have k := h n (by omega) (by omega)
    show a * ((n : Int) + 1) ≤ sm f n + f n ∧ sm f n + f n ≤ b * ((n : Int) + 1)
    rw [Int.mul_add, Int.mul_add]
    omega
/-- pairs in one order, or in the other -/
theorem sm_swap (g : Int → Int → Int) : ∀ n : Nat, sm (fun s => sm (fun t => if s < t then g s t else 0) n) n = sm (fun a => sm (fun b => g b a) a.toNat) n
  | 0 => rfl
  | n + 1 => by
    have ih := sm_swap g n
    show sm (fun s => sm (fun t => if s < t then g s t else 0) n + (if s < (n : Int) then g s n else 0)) n + (sm (fun t => if (n : Int) < t then g n t else 0) n + (if (n : Int) < (n : Int) then g n n else 0)) = sm (fun a => sm (fun b => g b a) a.toNat) n + sm (fun b => g b n) ((n : Int).toNat)
    rw [sm_add, ih, if_neg (by omega), sm_zero (f := fun t => if (n : Int) < t then g n t else 0) n (fun j j0 j1 => if_neg (by omega)), sm_congr (f := fun s => if s < (n : Int) then g s n else 0) (g := fun b => g b n) n (fun j j0 j1 => if_pos j1), show ((n : Int).toNat) = n by omega]
    omega
/-- two slots alike, and something in them -/
def fLk (S : RS) (a b o : Int) (x : Int × Int) : Int × Int := (if x.1 = 0 then 0 else if S 109 (6 * a + o) = S 109 (6 * b + o) then 1 else 0, if x.2 = 0 then (if S 109 (6 * a + o) = -1 then 0 else 1) else 1)
def gMt (S : RS) (b a : Int) : Int := if (gfold (fLk S a b) (1, 0) 6).1 = 0 then 0 else if (gfold (fLk S a b) (1, 0) 6).2 = 0 then 0 else 1
theorem gMt_r (S : RS) (b a : Int) : 0 ≤ gMt S b a ∧ gMt S b a ≤ 1 := by
  unfold gMt
  split
  · omega
  · split <;> omega
theorem fLk_6 (S : RS) (a b : Int) : ((gfold (fLk S a b) (1, 0) 6).1 = 0 ∨ (gfold (fLk S a b) (1, 0) 6).1 = 1) ∧ ((gfold (fLk S a b) (1, 0) 6).1 = 1 ↔ ∀ o, 0 ≤ o → o < 6 → S 109 (6 * a + o) = S 109 (6 * b + o)) ∧ ((gfold (fLk S a b) (1, 0) 6).2 = 0 ∨ (gfold (fLk S a b) (1, 0) 6).2 = 1) ∧ ((gfold (fLk S a b) (1, 0) 6).2 = 0 ↔ ∀ o, 0 ≤ o → o < 6 → S 109 (6 * a + o) = -1) := by
  refine gfold_P (fLk S a b) (1, 0) (fun j x => (x.1 = 0 ∨ x.1 = 1) ∧ (x.1 = 1 ↔ ∀ o, 0 ≤ o → o < j → S 109 (6 * a + o) = S 109 (6 * b + o)) ∧ (x.2 = 0 ∨ x.2 = 1) ∧ (x.2 = 0 ↔ ∀ o, 0 ≤ o → o < j → S 109 (6 * a + o) = -1)) ?_ 6 (by omega) ?_
  · exact ⟨Or.inr rfl, ⟨fun _ o o0 o1 => by omega, fun _ => rfl⟩, Or.inl rfl, ⟨fun _ o o0 o1 => by omega, fun _ => rfl⟩⟩
  · rintro j ⟨x, y⟩ j0 j1 ⟨h1, h2, h3, h4⟩
    dsimp only at h1 h2 h3 h4
    unfold fLk
    dsimp only
    refine ⟨?_, ⟨fun e o o0 o1 => ?_, fun e => ?_⟩, ?_, ⟨fun e o o0 o1 => ?_, fun e => ?_⟩⟩
    · split
      · exact Or.inl rfl
      · split
        · exact Or.inr rfl
        · exact Or.inl rfl
    · by_cases x0 : x = 0
      · rw [if_pos x0] at e; omega
      · rw [if_neg x0] at e
        by_cases q : S 109 (6 * a + j) = S 109 (6 * b + j)
        · by_cases z : o = j
          · rw [z]; exact q
          · exact h2.mp (by omega) o o0 (by omega)
        · rw [if_neg q] at e; omega
    · have x1 : x = 1 := h2.mpr (fun o o0 o1 => e o o0 (by omega))
      rw [if_neg (by omega), if_pos (e j j0 (by omega))]
    · split
      · split
        · exact Or.inl rfl
        · exact Or.inr rfl
      · exact Or.inr rfl
    · by_cases y0 : y = 0
      · rw [if_pos y0] at e
        by_cases q : S 109 (6 * a + j) = -1
        · by_cases z : o = j
          · rw [z]; exact q
          · exact h4.mp y0 o o0 (by omega)
        · rw [if_neg q] at e; omega
      · rw [if_neg y0] at e; omega
    · rw [if_pos (h4.mpr (fun o o0 o1 => e o o0 (by omega))), if_pos (e j j0 (by omega))]
theorem row_eq {r q : Int} (hr : 0 ≤ r ∧ r < 262144) (hq : 0 ≤ q ∧ q < 262144) (h : ∀ o : Int, 0 ≤ o → o < 6 → r / 8 ^ o.toNat % 8 = q / 8 ^ o.toNat % 8) : r = q := by
  have h0 := h 0 (by omega) (by omega)
  have h1 := h 1 (by omega) (by omega)
  have h2 := h 2 (by omega) (by omega)
  have h3 := h 3 (by omega) (by omega)
  have h4 := h 4 (by omega) (by omega)
  have h5 := h 5 (by omega) (by omega)
  rw [show (8 : Int) ^ (0 : Int).toNat = 1 by decide] at h0
  rw [show (8 : Int) ^ (1 : Int).toNat = 8 by decide] at h1
  rw [show (8 : Int) ^ (2 : Int).toNat = 64 by decide] at h2
  rw [show (8 : Int) ^ (3 : Int).toNat = 512 by decide] at h3
  rw [show (8 : Int) ^ (4 : Int).toNat = 4096 by decide] at h4
  rw [show (8 : Int) ^ (5 : Int).toNat = 32768 by decide] at h5
  omega
theorem gMt_row {σ : gS} {S : RS} (hC : CR σ S) {a b : Int} (ha : 0 ≤ a ∧ a < S 88 24) (hb : 0 ≤ b ∧ b < S 88 24) : gMt S b a = if gI σ 42 a = gI σ 42 b ∧ gI σ 42 b ≠ 0 then 1 else 0 := by
  have ra := hC.2.2.2.2.2.2.2.1 a ha.1 ha.2
  have rb := hC.2.2.2.2.2.2.2.1 b hb.1 hb.2
  obtain ⟨f1, f2, f3, f4⟩ := fLk_6 S a b
  have like : gI σ 42 a = gI σ 42 b ↔ ∀ o, 0 ≤ o → o < 6 → S 109 (6 * a + o) = S 109 (6 * b + o) := by
    constructor
    · intro e o o0 o1
      have e1 := ra.2.1 o o0 o1
      have e2 := rb.2.1 o o0 o1
      rw [e] at e1; omega
    · intro e
      refine row_eq ra.1 rb.1 (fun o o0 o1 => ?_)
      rw [ra.2.1 o o0 o1, rb.2.1 o o0 o1, e o o0 o1]
  have any : gI σ 42 a = 0 ↔ ∀ o, 0 ≤ o → o < 6 → S 109 (6 * a + o) = -1 := by
    constructor
    · intro e o o0 o1
      have e1 := ra.2.1 o o0 o1
      rw [e, Int.zero_ediv] at e1; omega
    · intro e
      refine row_eq ra.1 (by omega) (fun o o0 o1 => ?_)
      rw [ra.2.1 o o0 o1, e o o0 o1, Int.zero_ediv]; omega
  unfold gMt
  by_cases l1 : gI σ 42 a = gI σ 42 b
  · have := f2.mpr (like.mp l1)
    rw [if_neg (by omega)]
    by_cases l2 : gI σ 42 b = 0
    · rw [if_pos (f4.mpr (any.mp (by omega))), if_neg (fun z => z.2 l2)]
    · rw [if_neg (fun z => l2 (by rw [← l1]; exact any.mpr (f4.mp z))), if_pos ⟨l1, l2⟩]
  · rw [if_pos (by
      rcases f1 with z | z
      · exact z
      · exact absurd (like.mpr (f2.mp z)) l1), if_neg (fun z => l1 z.1)]
def zMeets (S : RS) : Int := sm (fun a => sm (fun b => gMt S b a) a.toNat) (S 88 24).toNat
section RY
variable {l : Launch} {G : gG}
theorem meets_r (S : RS) (s n : Nat) (hn : n ≤ 360) : 0 ≤ sm (fun t => if (s : Int) < t then gMt S s t else 0) n ∧ sm (fun t => if (s : Int) < t then gMt S s t else 0) n ≤ 360 := by
  have h := sm_r (f := fun t => if (s : Int) < t then gMt S s t else 0) (a := 0) (b := 1) n (fun j _ _ => by
    have := gMt_r S s j
    split <;> omega)
  omega
theorem c_meets (σ : gS) (S : RS) (hC : CR σ S) (hM : OKM S) (Q : Int → gS → Prop) (h : Q (zMeets S) σ) : eX5_meets l G σ Q := by
  have h0 := hM.1.1.2.1
  have e41 := hC.2.1.1
  have h24 := hM.2.2
  obtain ⟨n, hn⟩ : ∃ n, S 88 24 = n := ⟨_, rfl⟩
  have one : ∀ s : Int, 0 ≤ s → 0 ≤ sm (fun t => if s < t then gMt S s t else 0) n.toNat ∧ sm (fun t => if s < t then gMt S s t else 0) n.toNat ≤ 360 := fun s s0 => by
    have := meets_r S s.toNat n.toNat (by omega)
    rw [show ((s.toNat : Nat) : Int) = s by omega] at this
    exact this
  refine vX5_meets σ Q ?_
  refine gloopF (fun s x => x + sm (fun t => if s < t then gMt S s t else 0) n.toNat) 0 n (by omega) (fun j x => 0 ≤ x ∧ x ≤ 360 * j) (fun j w => kX5_meets_4 l G w j σ Q) (by omega) ?_ ?_
  · intro s w s0 s1 hp
    have o1 := one s s0
    refine ⟨by omega, fun ih => ?_⟩
    have ih : kX5_meets_4 l G (w + sm (fun t => if s < t then gMt S s t else 0) n.toNat) (s + 1) σ Q := ih
    refine vX5_meets_4 w s ⟨by omega, by omega⟩ ⟨by omega, by omega⟩ σ Q ?_
    rw [e41, hn]
    refine ⟨fun e => by omega, fun _ => ⟨by omega, fun e => ?_, fun e => ?_⟩⟩
    · rw [sm_zero (f := fun t => if s < t then gMt S s t else 0) n.toNat (fun j j0 j1 => by
        split
        · rw [gMt_row hC ⟨j0, by omega⟩ ⟨s0, by omega⟩, if_neg (fun z => z.2 e)]
        · rfl), Int.add_zero] at ih
      exact ih
    · refine gloopI (α := Int) (s + 1) n (fun t y => t ≤ n ∧ y = w + sm (fun t => if s < t then gMt S s t else 0) t.toNat) (fun t y => kX5_meets_25 l G y s t σ Q) ?_ ?_ (s + 1) w (by omega) ⟨by omega, ?_⟩
      · rintro t y t0 t1 ⟨z0, z1⟩ ih2
        have o2 := meets_r S s.toNat t.toNat (by omega)
        rw [show ((s.toNat : Nat) : Int) = s by omega] at o2
        have ste : sm (fun t => if s < t then gMt S s t else 0) (t + 1).toNat = sm (fun t => if s < t then gMt S s t else 0) t.toNat + (if gI σ 42 t = gI σ 42 s ∧ gI σ 42 s ≠ 0 then 1 else 0) := by
          rw [sm_s _ (by omega), if_pos (by omega), gMt_row hC ⟨by omega, by omega⟩ ⟨s0, by omega⟩]
        refine vX5_meets_25 y s t ⟨by omega, by omega⟩ ⟨by omega, by omega⟩ ⟨by omega, by omega⟩ σ Q ?_
        rw [e41, hn]
        refine ⟨fun e9 => by omega, fun _ => ⟨by omega, by omega, fun e9 => ih2 _ ⟨by omega, ?_⟩, fun e9 => ih2 _ ⟨by omega, ?_⟩⟩⟩
        · rw [ste, if_neg (fun z => e9 z.1)]; omega
        · rw [ste, if_pos ⟨e9, e⟩]; omega
      · rintro t y t0 ⟨z0, z1⟩
        have ht : t = n := by omega
        subst ht
        subst z1
        refine vX5_meets_25 _ s t ⟨by omega, by omega⟩ ⟨by omega, by omega⟩ ⟨by omega, by omega⟩ σ Q ?_
        rw [e41, hn]
        exact ⟨fun _ => ih, fun e9 => by omega⟩
      · rw [sm_zero (f := fun t => if s < t then gMt S s t else 0) (s + 1).toNat (fun j j0 j1 => if_neg (by omega))]; omega
  · intro hp
    refine vX5_meets_4 _ _ ⟨by omega, by omega⟩ ⟨by omega, by omega⟩ σ Q ?_
    rw [e41, hn]
    refine ⟨fun _ => ?_, fun e => by omega⟩
    rw [sm_gfold (fun s => sm (fun t => if s < t then gMt S s t else 0) n.toNat) 0 n.toNat, sm_swap (fun s t => gMt S s t) n.toNat, Int.zero_add]
    have h' : Q (sm (fun a => sm (fun b => gMt S b a) a.toNat) (S 88 24).toNat) σ := h
    rw [hn] at h'
    exact h'
theorem c_meetsOf (σ : gS) (hM : OKM (pS σ)) (Q : Int → gS → Prop) (h : Q (zMeets (pS σ)) σ) : eX12_meetsOf l G σ Q := by
  have h0 := hM.1.1.2.1
  have e41 : gI σ 88 24 = pS σ 88 24 := pS_at (by unfold okC; omega)
  have h24 := hM.2.2
  obtain ⟨n, hn⟩ : ∃ n, pS σ 88 24 = n := ⟨_, rfl⟩
  have one : ∀ a : Int, 0 ≤ a → a < n + 1 → 0 ≤ sm (fun b => gMt (pS σ) b a) a.toNat ∧ sm (fun b => gMt (pS σ) b a) a.toNat ≤ 360 := fun a a0 a1 => by
    have := sm_r (f := fun b => gMt (pS σ) b a) (a := 0) (b := 1) a.toNat (fun j _ _ => gMt_r (pS σ) j a)
    omega
  refine vX12_meetsOf σ Q ?_
  refine gloopF (fun a x => x + sm (fun b => gMt (pS σ) b a) a.toNat) 0 n (by omega) (fun j x => 0 ≤ x ∧ x ≤ 360 * j) (fun j w => kX12_meetsOf_4 l G w j σ Q) (by omega) ?_ ?_
  · intro a w a0 a1 hp
    have o1 := one a a0 (by omega)
    refine ⟨by omega, fun ih => ?_⟩
    have ih : kX12_meetsOf_4 l G (w + sm (fun b => gMt (pS σ) b a) a.toNat) (a + 1) σ Q := ih
    refine vX12_meetsOf_4 w a ⟨by omega, by omega⟩ ⟨by omega, by omega⟩ σ Q ?_
    rw [e41, hn]
    refine ⟨fun e => by omega, fun _ => ?_⟩
    refine gloopF (fun b y => y + gMt (pS σ) b a) w a a0 (fun b y => w ≤ y ∧ y ≤ w + b) (fun b y => kX12_meetsOf_14 l G y a b σ Q) (by omega) ?_ ?_
    · intro b y b0 b1 hy
      have o2 := gMt_r (pS σ) b a
      refine ⟨by omega, fun ih2 => ?_⟩
      have ih2 : kX12_meetsOf_14 l G (y + gMt (pS σ) b a) a (b + 1) σ Q := ih2
      have ry : gR y := ⟨by omega, by omega⟩
      have ra : gR a := ⟨by omega, by omega⟩
      have rb : gR b := ⟨by omega, by omega⟩
      refine vX12_meetsOf_14 y a b ry ra rb σ Q ⟨fun e => by omega, fun _ => ?_⟩
      refine gloopF (fLk (pS σ) a b) (1, 0) 6 (by omega) (fun o x => (x.1 = 0 ∨ x.1 = 1) ∧ (x.2 = 0 ∨ x.2 = 1)) (fun o x => kX12_meetsOf_28 l G y a b x.1 x.2 o σ Q) ⟨Or.inr rfl, Or.inl rfl⟩ ?_ ?_
      · intro o x o0 o1 hx
        refine ⟨?_, fun ih3 => ?_⟩
        · unfold fLk
          refine ⟨?_, ?_⟩
          · dsimp only
            split
            · exact Or.inl rfl
            · split
              · exact Or.inr rfl
              · exact Or.inl rfl
          · dsimp only
            split
            · split
              · exact Or.inl rfl
              · exact Or.inr rfl
            · exact Or.inr rfl
        have ih3 : kX12_meetsOf_28 l G y a b (fLk (pS σ) a b o x).1 (fLk (pS σ) a b o x).2 (o + 1) σ Q := ih3
        unfold fLk at ih3
        refine vX12_meetsOf_28 y a b x.1 x.2 o ry ra rb (gR_01 hx.1) (gR_01 hx.2) ⟨by omega, by omega⟩ σ Q ?_
        rw [pS_at (c := 109) (i := 6 * a + o) (by unfold okC; omega), pS_at (c := 109) (i := 6 * b + o) (by unfold okC; omega)]
        refine ⟨fun e => by omega, fun _ => ⟨⟨fun _ => trivial, fun _ => ⟨by omega, by omega, fun _ => trivial, fun _ => trivial⟩⟩, fun v ev => ⟨⟨fun _ => trivial, fun _ => ⟨by omega, fun _ => trivial, fun _ => trivial⟩⟩, fun u eu => ?_⟩⟩⟩
        rw [ev, eu]; exact ih3
      · intro hx
        refine vX12_meetsOf_28 y a b _ _ 6 ry ra rb (gR_01 hx.1) (gR_01 hx.2) (by decide) σ Q ⟨fun _ v ev => ?_, fun e => by omega⟩
        rw [ev]; exact ih2
    · intro hy
      refine vX12_meetsOf_14 _ a a ⟨by omega, by omega⟩ ⟨by omega, by omega⟩ ⟨by omega, by omega⟩ σ Q ⟨fun _ => ?_, fun e => by omega⟩
      rw [sm_gfold]; exact ih
  · intro hp
    refine vX12_meetsOf_4 _ _ ⟨by omega, by omega⟩ ⟨by omega, by omega⟩ σ Q ?_
    rw [e41, hn]
    refine ⟨fun _ => ?_, fun e => by omega⟩
    rw [sm_gfold, Int.zero_add]
    have h' : Q (sm (fun a => sm (fun b => gMt (pS σ) b a) a.toNat) (pS σ 88 24).toNat) σ := h
    rw [hn] at h'
    exact h'
end RY
/-- inputs alike -/
def fAl (S : RS) (a b o x : Int) : Int := if x = 0 then 0 else if S 95 (6 * a + o) = S 95 (6 * b + o) then 1 else 0
def gAl (S : RS) (b a : Int) : Int := gfold (fAl S a b) 1 (S 88 10).toNat
def zAlike (S : RS) : Int := sm (fun a => sm (fun b => gAl S b a) a.toNat) (S 88 10).toNat
theorem gAl_f (S : RS) (b a : Int) (hP : 0 ≤ S 88 10) : (gAl S b a = 0 ∨ gAl S b a = 1) ∧ (gAl S b a = 1 ↔ ∀ o, 0 ≤ o → o < S 88 10 → S 95 (6 * a + o) = S 95 (6 * b + o)) := by
  refine gfold_P (fAl S a b) 1 (fun j x => (x = 0 ∨ x = 1) ∧ (x = 1 ↔ ∀ o, 0 ≤ o → o < j → S 95 (6 * a + o) = S 95 (6 * b + o))) ?_ (S 88 10) hP ?_
  · exact ⟨Or.inr rfl, ⟨fun _ o o0 o1 => by omega, fun _ => rfl⟩⟩
  · rintro j x j0 j1 ⟨h1, h2⟩
    unfold fAl
    refine ⟨?_, ⟨fun e o o0 o1 => ?_, fun e => ?_⟩⟩
    · split
      · exact Or.inl rfl
      · split
        · exact Or.inr rfl
        · exact Or.inl rfl
    · by_cases x0 : x = 0
      · rw [if_pos x0] at e; omega
      · rw [if_neg x0] at e
        by_cases q : S 95 (6 * a + j) = S 95 (6 * b + j)
        · by_cases z : o = j
          · rw [z]; exact q
          · exact h2.mp (by omega) o o0 (by omega)
        · rw [if_neg q] at e; omega
    · have x1 : x = 1 := h2.mpr (fun o o0 o1 => e o o0 (by omega))
      rw [if_neg (by omega), if_pos (e j j0 (by omega))]
section RZ
variable {l : Launch} {G : gG}
theorem c_areAlike (i j : Int) (σ : gS) (S : RS) (hC : CR σ S) (hM : OKM S) (hi : 0 ≤ i ∧ i < S 88 10) (hj : 0 ≤ j ∧ j < S 88 10) (Q : Int → gS → Prop) (h : Q (gAl S i j) σ) : eX5_areAlike l G i j σ Q := by
  have hP := hM.1.1.1
  have e3 := hC.1.1
  have d4 := hC.2.2.2.1
  obtain ⟨g1, g2⟩ := gAl_f S i j (by omega)
  have ri : gR i := ⟨by omega, by omega⟩
  have rj : gR j := ⟨by omega, by omega⟩
  refine vX5_areAlike i j ri rj σ Q ?_
  refine gloopI (α := Unit) 0 (S 88 10) (fun o _ => o ≤ S 88 10 ∧ ∀ q, 0 ≤ q → q < o → S 95 (6 * j + q) = S 95 (6 * i + q)) (fun o _ => kX5_areAlike_2 l G i j o σ Q) ?_ ?_ 0 () (by omega) ⟨by omega, fun q q0 q1 => by omega⟩
  · rintro o _ o0 o1 ⟨z0, z1⟩ ih
    refine vX5_areAlike_2 i j o ri rj ⟨by omega, by omega⟩ σ Q ?_
    rw [e3, show i * 6 + o = 6 * i + o by omega, show j * 6 + o = 6 * j + o by omega, (d4 (6 * i + o) (by omega) (by omega)).1, (d4 (6 * j + o) (by omega) (by omega)).1]
    refine ⟨fun e => by omega, fun _ => ⟨by omega, by omega, fun e => ih () ⟨by omega, fun q q0 q1 => ?_⟩, fun e => ?_⟩⟩
    · by_cases z : q = o
      · rw [z]; exact e.symm
      · exact z1 q q0 (by omega)
    · have : gAl S i j = 0 := by
        rcases g1 with z | z
        · exact z
        · exact absurd (g2.mp z o o0 o1).symm e
      rw [this] at h; exact h
  · rintro o _ o0 ⟨z0, z1⟩
    have ho : o = S 88 10 := by omega
    subst ho
    refine vX5_areAlike_2 i j _ ri rj ⟨by omega, by omega⟩ σ Q ?_
    rw [e3]
    refine ⟨fun _ => ?_, fun e => by omega⟩
    rw [g2.mpr z1] at h; exact h
theorem c_alike (σ : gS) (S : RS) (hC : CR σ S) (hM : OKM S) (Q : Int → gS → Prop) (h : Q (zAlike S) σ) : eX5_alikeInputs l G σ Q := by
  have hP := hM.1.1.1
  have e3 := hC.1.1
  obtain ⟨n, hn⟩ : ∃ n, S 88 10 = n := ⟨_, rfl⟩
  have one : ∀ (s : Int) (m : Nat), m ≤ 6 → 0 ≤ sm (fun t => if s < t then gAl S s t else 0) m ∧ sm (fun t => if s < t then gAl S s t else 0) m ≤ 6 := fun s m hm => by
    have := sm_r (f := fun t => if s < t then gAl S s t else 0) (a := 0) (b := 1) m (fun j _ _ => by
      have := (gAl_f S s j (by omega)).1
      split <;> omega)
    omega
  refine vX5_alikeInputs σ Q ?_
  refine gloopF (fun s x => x + sm (fun t => if s < t then gAl S s t else 0) n.toNat) 0 n (by omega) (fun j x => 0 ≤ x ∧ x ≤ 360 * j) (fun j w => kX5_alikeInputs_4 l G w j σ Q) (by omega) ?_ ?_
  · intro s w s0 s1 hp
    have o1 := one s n.toNat (by omega)
    refine ⟨by omega, fun ih => ?_⟩
    have ih : kX5_alikeInputs_4 l G (w + sm (fun t => if s < t then gAl S s t else 0) n.toNat) (s + 1) σ Q := ih
    refine vX5_alikeInputs_4 w s ⟨by omega, by omega⟩ ⟨by omega, by omega⟩ σ Q ?_
    rw [e3, hn]
    refine ⟨fun e => by omega, fun _ => ?_⟩
    refine gloopI (α := Int) (s + 1) n (fun t y => t ≤ n ∧ y = w + sm (fun t => if s < t then gAl S s t else 0) t.toNat) (fun t y => kX5_alikeInputs_16 l G y s t σ Q) ?_ ?_ (s + 1) w (by omega) ⟨by omega, ?_⟩
    · rintro t y t0 t1 ⟨z0, z1⟩ ih2
      have o2 := one s t.toNat (by omega)
      have ste : sm (fun t => if s < t then gAl S s t else 0) (t + 1).toNat = sm (fun t => if s < t then gAl S s t else 0) t.toNat + gAl S s t := by
        rw [sm_s _ (by omega), if_pos (by omega)]
      refine vX5_alikeInputs_16 y s t ⟨by omega, by omega⟩ ⟨by omega, by omega⟩ ⟨by omega, by omega⟩ σ Q ?_
      rw [e3, hn]
      refine ⟨fun e9 => by omega, fun _ => c_areAlike s t σ S hC hM (by omega) (by omega) _ (fun r01 => ⟨fun e9 => ih2 _ ⟨by omega, ?_⟩, fun e9 => ih2 _ ⟨by omega, ?_⟩⟩)⟩
      · rw [ste]; omega
      · rw [ste]; omega
    · rintro t y t0 ⟨z0, z1⟩
      have ht : t = n := by omega
      subst ht
      subst z1
      refine vX5_alikeInputs_16 _ s t ⟨by omega, by omega⟩ ⟨by omega, by omega⟩ ⟨by omega, by omega⟩ σ Q ?_
      rw [e3, hn]
      exact ⟨fun _ => ih, fun e9 => by omega⟩
    · rw [sm_zero (f := fun t => if s < t then gAl S s t else 0) (s + 1).toNat (fun j j0 j1 => if_neg (by omega))]; omega
  · intro hp
    refine vX5_alikeInputs_4 _ _ ⟨by omega, by omega⟩ ⟨by omega, by omega⟩ σ Q ?_
    rw [e3, hn]
    refine ⟨fun _ => ?_, fun e => by omega⟩
    rw [sm_gfold (fun s => sm (fun t => if s < t then gAl S s t else 0) n.toNat) 0 n.toNat, sm_swap (fun s t => gAl S s t) n.toNat, Int.zero_add]
    have h' : Q (sm (fun a => sm (fun b => gAl S b a) a.toNat) (S 88 10).toNat) σ := h
    rw [hn] at h'
    exact h'
theorem c_sameOf (σ : gS) (hM : OKM (pS σ)) (Q : Int → gS → Prop) (h : Q (zAlike (pS σ)) σ) : eX12_sameOf l G σ Q := by
  have hP := hM.1.1.1
  have e3 : gI σ 88 10 = pS σ 88 10 := pS_at (by unfold okC; omega)
  obtain ⟨n, hn⟩ : ∃ n, pS σ 88 10 = n := ⟨_, rfl⟩
  have one : ∀ a : Int, 0 ≤ a → a < n + 1 → 0 ≤ sm (fun b => gAl (pS σ) b a) a.toNat ∧ sm (fun b => gAl (pS σ) b a) a.toNat ≤ 360 := fun a a0 a1 => by
    have := sm_r (f := fun b => gAl (pS σ) b a) (a := 0) (b := 1) a.toNat (fun j _ _ => by have := (gAl_f (pS σ) j a (by omega)).1; omega)
    omega
  refine vX12_sameOf σ Q ?_
  refine gloopF (fun a x => x + sm (fun b => gAl (pS σ) b a) a.toNat) 0 n (by omega) (fun j x => 0 ≤ x ∧ x ≤ 360 * j) (fun j w => kX12_sameOf_4 l G w j σ Q) (by omega) ?_ ?_
  · intro a w a0 a1 hp
    have o1 := one a a0 (by omega)
    refine ⟨by omega, fun ih => ?_⟩
    have ih : kX12_sameOf_4 l G (w + sm (fun b => gAl (pS σ) b a) a.toNat) (a + 1) σ Q := ih
    refine vX12_sameOf_4 w a ⟨by omega, by omega⟩ ⟨by omega, by omega⟩ σ Q ?_
    rw [e3, hn]
    refine ⟨fun e => by omega, fun _ => ?_⟩
    refine gloopF (fun b y => y + gAl (pS σ) b a) w a a0 (fun b y => w ≤ y ∧ y ≤ w + b) (fun b y => kX12_sameOf_14 l G y a b σ Q) (by omega) ?_ ?_
    · intro b y b0 b1 hy
      have o2 := (gAl_f (pS σ) b a (by omega)).1
      refine ⟨by omega, fun ih2 => ?_⟩
      have ih2 : kX12_sameOf_14 l G (y + gAl (pS σ) b a) a (b + 1) σ Q := ih2
      have ry : gR y := ⟨by omega, by omega⟩
      have ra : gR a := ⟨by omega, by omega⟩
      have rb : gR b := ⟨by omega, by omega⟩
      refine vX12_sameOf_14 y a b ry ra rb σ Q ⟨fun e => by omega, fun _ => ?_⟩
      refine gloopF (fAl (pS σ) a b) 1 n (by omega) (fun o x => x = 0 ∨ x = 1) (fun o x => kX12_sameOf_25 l G y a b x o σ Q) (Or.inr rfl) ?_ ?_
      · intro o x o0 o1 hx
        refine ⟨?_, fun ih3 => ?_⟩
        · unfold fAl
          split
          · exact Or.inl rfl
          · split
            · exact Or.inr rfl
            · exact Or.inl rfl
        have ih3 : kX12_sameOf_25 l G y a b (fAl (pS σ) a b o x) (o + 1) σ Q := ih3
        unfold fAl at ih3
        refine vX12_sameOf_25 y a b x o ry ra rb (gR_01 hx) ⟨by omega, by omega⟩ σ Q ?_
        rw [e3, hn]
        refine ⟨fun e => by omega, fun _ => ⟨fun e => ?_, fun e => ?_⟩⟩
        · rw [if_pos e] at ih3; exact ih3
        · rw [if_neg e] at ih3
          refine c_at a o (by omega) (by omega) σ _ (fun _ => ⟨by omega, c_at b o (by omega) (by omega) σ _ (fun _ => ⟨by omega, fun v ev => ?_⟩)⟩)
          rw [pS_at (c := 95) (i := 6 * a + o) (by unfold okC; omega), pS_at (c := 95) (i := 6 * b + o) (by unfold okC; omega)] at ev
          rw [ev]; exact ih3
      · intro hx
        refine vX12_sameOf_25 y a b _ n ry ra rb (gR_01 hx) ⟨by omega, by omega⟩ σ Q ?_
        rw [e3, hn]
        refine ⟨fun _ v ev => ?_, fun e => by omega⟩
        have hg : gfold (fAl (pS σ) a b) 1 n.toNat = gAl (pS σ) b a := by rw [← hn]; rfl
        rw [hg] at ev hx
        rw [ev]
        have : (if gAl (pS σ) b a = 0 then (0 : Int) else 1) = gAl (pS σ) b a := by
          rcases hx with z | z
          · rw [z, if_pos rfl]
          · rw [z, if_neg (by decide)]
        rw [this]; exact ih2
    · intro hy
      refine vX12_sameOf_14 _ a a ⟨by omega, by omega⟩ ⟨by omega, by omega⟩ ⟨by omega, by omega⟩ σ Q ⟨fun _ => ?_, fun e => by omega⟩
      rw [sm_gfold]; exact ih
  · intro hp
    refine vX12_sameOf_4 _ _ ⟨by omega, by omega⟩ ⟨by omega, by omega⟩ σ Q ?_
    rw [e3, hn]
    refine ⟨fun _ => ?_, fun e => by omega⟩
    rw [sm_gfold, Int.zero_add]
    have h' : Q (sm (fun a => sm (fun b => gAl (pS σ) b a) a.toNat) (pS σ 88 10).toNat) σ := h
    rw [hn] at h'
    exact h'
end RZ
