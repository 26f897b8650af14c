theorem tk1_some {L : Int → Int} {sv o : Int} : ∀ n : Nat, (∃ i : Int, 0 ≤ i ∧ i < n ∧ tb sv i = true ∧ tb (L i) o = true) → tk1 L sv n o ≠ -1
  | 0, ⟨i, i0, i1, _⟩ => by omega
  | n + 1, ⟨i, i0, i1, i2, i3⟩ => by
    unfold tk1
    split
    · omega
    · rename_i hc
      by_cases q : i = n
      · rw [q] at i2 i3; exact absurd ⟨i2, i3⟩ hc
      · exact tk1_some n ⟨i, i0, by omega, i2, i3⟩
def tqA (L : Int → Int) (sv P : Int) (n : Nat) (o : Int) : Int := if o < P then tk1 L sv n o else -1
def tqB (L : Int → Int) (sv P m : Int) (k : Int) : Int := if k < P then (if k < m then tkF L sv P k else tk1 L sv P.toNat k) else -1
section MS3
variable {l : Launch} {G : gG}
/-- all takings of a slot, by the class -/
theorem c_takes (heads : Int) (rh : gR heads) (S : RS) (hS : OKS S) (σ0 : gS) (h3 : gI σ0 32 3 = S 88 10) (h57 : ∀ i, 0 ≤ i → i < 6 → gI σ0 57 i = zLeft S i) (h5 : isM (gI σ0 45 5) (fun i => decide (i < S 88 10))) (h6 : isM (gI σ0 45 6) (fun i => decide (i < S 88 10))) (h52 : ∀ o, 0 ≤ o → o < 6 → gI σ0 52 o = -1) (Q : gS → Prop)
    (h : ∀ τ, FA σ0 τ (zLeft S) (S 88 10) (zTk S) → kX8_sendFans_121 l G heads (zServed S) 0 τ Q) : kX8_sendFans_8 l G heads (zServed S) 0 σ0 Q := by
  have hP := hS.1
  obtain ⟨ap1, ap2⟩ := zServed_ap hS
  have hL := fun i (i0 : 0 ≤ i) (i1 : i < 6) => zLeft_r hS i ⟨i0, i1⟩
  have hpw := two_pow_P (P := S 88 10) ⟨hP.1, hP.2.1⟩
  have hsv : 0 ≤ zServed S ∧ zServed S < 64 := by
    have := svF_r (zLeft S) (S 88 10) ((2 : Int) ^ (S 88 10).toNat - 1).toNat
    unfold zServed
    omega
  have rsv : gR (zServed S) := ⟨by omega, by omega⟩
  have hzt : ∀ o, zTk S o = if o < S 88 10 then tkF (zLeft S) (zServed S) (S 88 10) o else -1 := fun o => rfl
  generalize zServed S = sv at *
  generalize zTk S = tz at *
  generalize hLe : zLeft S = L at *
  generalize hPe : S 88 10 = P at *
  have hhigh : ∀ i o, 0 ≤ i → i < 6 → P ≤ o → tb (L i) o = false := fun i o i0 i1 h1 => tb_high ⟨(hL i i0 i1).1, (hL i i0 i1).2.1⟩ ⟨by omega, h1⟩ (by omega)
  -- the second loop
  have L2 : ∀ τ, FA σ0 τ L P (tqA L sv P P.toNat) → kX8_sendFans_43 l G heads sv 0 τ Q := by
    intro τ1 hF1
    refine gloopI (α := gS) 0 P (fun o τ => o ≤ P ∧ FA σ0 τ L P (tqB L sv P o)) (fun o τ => kX8_sendFans_43 l G heads sv o τ Q) ?_ ?_ 0 τ1 (by omega) ⟨by omega, hF1.congr (by omega) (fun o o0 o1 => by unfold tqA tqB; rw [if_neg (show ¬ o < 0 by omega)])⟩
    · rintro o τ o0 o1 ⟨z0, zF⟩ ih
      have hF := zF
      obtain ⟨a1, a2, a3, a4, a5⟩ := zF
      have e3 : gI τ 32 3 = P := by rw [a5 32 3 (by omega) (by omega) (by omega)]; exact h3
      refine vX8_sendFans_43 heads sv o rh rsv ⟨by omega, by omega⟩ τ Q ⟨fun e => by omega, fun _ => c_holds _ o ⟨a3.1, a3.2.1⟩ (by omega) τ _ (fun _ => ?_)⟩
      have a32 : tb (gI τ 45 6) o = (decide (o < P) && decide (tqB L sv P o o = -1)) := a3.2.2 o (by omega) (by omega)
      rw [a32]
      have hcur : tqB L sv P o o = tk1 L sv P.toNat o := by unfold tqB; rw [if_pos o1, if_neg (by omega)]
      have hfree : (decide (o < P) && decide (tqB L sv P o o = -1)) = decide (tk1 L sv P.toNat o = -1) := by
        rw [hcur, decide_eq_true o1, Bool.true_and]
      rw [hfree]
      have hoth : ∀ k, k ≠ o → tqB L sv P o k = tqB L sv P (o + 1) k := fun k q => by
        unfold tqB
        have e1 : (k < o) = (k < o + 1) := by simp only [eq_iff_iff]; omega
        simp only [e1]
      have hnew : tqB L sv P (o + 1) o = tkF L sv P o := by unfold tqB; rw [if_pos o1, if_pos (by omega)]
      by_cases hfr : tk1 L sv P.toNat o = -1
      · rw [decide_eq_true hfr, if_pos rfl]
        have htkf : tkF L sv P o = f1 L o P.toNat 0 := by unfold tkF; rw [if_pos hfr]
        -- the inner loop
        have inner : ∀ (n : Nat) (i : Int), i + n = P → 0 ≤ i → f1 L o P.toNat 0 = f1 L o n i → kX8_sendFans_67 l G heads sv o 1 i τ Q := by
          intro n
          induction n with
          | zero =>
            intro i hi i0 hf
            refine vX8_sendFans_67 heads sv o 1 i rh rsv ⟨by omega, by omega⟩ ⟨by omega, by omega⟩ ⟨by omega, by omega⟩ τ Q ⟨fun _ => ih τ ⟨by omega, hF.congr (by omega) (fun k k0 k1 => ?_)⟩, fun e => by omega⟩
            by_cases q : k = o
            · subst q
              rw [hcur, hnew, htkf, hf, hfr]; rfl
            · exact hoth k q
          | succ n ihn =>
            intro i hi i0 hf
            have hb := a1 i i0 (by omega)
            refine vX8_sendFans_67 heads sv o 1 i rh rsv ⟨by omega, by omega⟩ ⟨by omega, by omega⟩ ⟨by omega, by omega⟩ τ Q ⟨fun e => by omega, fun _ => ⟨fun e => absurd e (by decide), fun _ => ⟨by omega, c_holds _ o ⟨hb.1, hb.2.1⟩ (by omega) τ _ (fun _ => ?_)⟩⟩⟩
            have hbit : tb (gI τ 57 i) o = tb (L i) o := by
              rw [hb.2.2 o (by omega) (by omega)]
              show (tb (L i) o && !decide (tqB L sv P o o = i)) = _
              rw [hcur, hfr, decide_eq_false (by omega)]; simp
            rw [hbit]
            by_cases ht : tb (L i) o = true
            · rw [if_pos ht]
              have hfi : f1 L o P.toNat 0 = i := by rw [hf]; unfold f1; rw [if_pos ht]
              refine ⟨fun e => absurd e (by decide), fun _ => ?_⟩
              have h2 := pow6 o (by omega)
              have g1 := gshl_1 o (by omega)
              have htp : ∀ k, 0 ≤ k → tb (gshl 1 o) k = decide (o = k) := fun k k0 => by rw [g1]; exact tb_pow o k (by omega) k0
              have hpo : (1 : Int) ≤ gshl 1 o ∧ gshl 1 o < 2 ^ P.toNat := by
                rw [g1]
                refine ⟨?_, (pow_cmp (by omega) (by omega)).mpr o1⟩
                have : (0 : Int) < 2 ^ o.toNat := Int.pow_pos (by decide)
                omega
              refine c_sendFA i (gshl 1 o) P (by omega) (by omega) hpo L _ σ0 τ h3 hF (fun k k0 k1 hk => ?_) (fun k k0 k1 hk => ?_) _ (fun υ hu => ?_)
              · rw [htp k k0, decide_eq_true_iff] at hk; rw [← hk]; exact ht
              · rw [htp k k0, decide_eq_true_iff] at hk; rw [← hk, hcur]; exact hfr
              · have hn : kX8_sendFans_43 l G heads sv (o + 1) υ Q := ih υ ⟨by omega, hu.congr (by omega) (fun k k0 k1 => by
                  rw [htp k k0]
                  by_cases q : k = o
                  · subst q
                    rw [if_pos ⟨k0, o1, by simp⟩, hnew, htkf, hfi]
                  · rw [if_neg (fun z => q (by have := z.2.2; rw [decide_eq_true_iff] at this; exact this.symm))]
                    exact hoth k q)⟩
                have e3' : gI υ 32 3 = P := by rw [hu.2.2.2.2 32 3 (by omega) (by omega) (by omega)]; exact h3
                exact vX8_sendFans_67 heads sv o 0 (i + 1) rh rsv ⟨by omega, by omega⟩ ⟨by omega, by omega⟩ ⟨by omega, by omega⟩ υ Q ⟨fun _ => hn, fun _ => ⟨fun _ => hn, fun e => absurd rfl e⟩⟩
            · rw [if_neg ht]
              refine ⟨fun _ => ihn (i + 1) (by omega) (by omega) ?_, fun e => absurd rfl e⟩
              rw [hf]
              show (if tb (L i) o = true then i else f1 L o n (i + 1)) = _
              rw [if_neg ht]
        exact inner P.toNat 0 (by omega) (by omega) rfl
      · rw [decide_eq_false hfr, if_neg (by decide)]
        have hn : kX8_sendFans_43 l G heads sv (o + 1) τ Q := ih τ ⟨by omega, hF.congr (by omega) (fun k k0 k1 => by
          by_cases q : k = o
          · subst q
            rw [hcur, hnew]
            unfold tkF; rw [if_neg hfr]
          · exact hoth k q)⟩
        exact vX8_sendFans_67 heads sv o 0 0 rh rsv ⟨by omega, by omega⟩ ⟨by omega, by omega⟩ ⟨by omega, by omega⟩ τ Q ⟨fun _ => hn, fun _ => ⟨fun _ => hn, fun e => absurd rfl e⟩⟩
    · rintro o τ o0 ⟨z0, zF⟩
      have ho : o = P := by omega
      have e3 : gI τ 32 3 = P := by rw [zF.2.2.2.2 32 3 (by omega) (by omega) (by omega)]; exact h3
      refine vX8_sendFans_43 heads sv o rh rsv ⟨by omega, by omega⟩ τ Q ⟨fun _ => h τ (zF.congr (by omega) (fun k k0 k1 => ?_)), fun e => by omega⟩
      rw [hzt k]
      unfold tqB
      by_cases q : k < P
      · rw [if_pos q, if_pos q, if_pos (by omega)]
      · rw [if_neg q, if_neg q]
  refine gloopI (α := gS) 0 P (fun i τ => i ≤ P ∧ FA σ0 τ L P (tqA L sv P i.toNat)) (fun i τ => kX8_sendFans_8 l G heads sv i τ Q) ?_ ?_ 0 σ0 (by omega) ⟨by omega, ?_⟩
  · rintro i τ i0 i1 ⟨z0, zF⟩ ih
    have hF := zF
    obtain ⟨a1, a2, a3, a4, a5⟩ := zF
    have e3 : gI τ 32 3 = P := by rw [a5 32 3 (by omega) (by omega) (by omega)]; exact h3
    have hstep : ∀ o, tk1 L sv (i + 1).toNat o = if tb sv i = true ∧ tb (L i) o = true then i else tk1 L sv i.toNat o := by
      intro o
      rw [show (i + 1).toNat = i.toNat + 1 by omega]
      show (if tb sv ((i.toNat : Nat) : Int) = true ∧ tb (L ((i.toNat : Nat) : Int)) o = true then ((i.toNat : Nat) : Int) else tk1 L sv i.toNat o) = _
      rw [show ((i.toNat : Nat) : Int) = i by omega]
    refine vX8_sendFans_8 heads sv i rh rsv ⟨by omega, by omega⟩ τ Q ⟨fun e => by omega, fun _ => c_holds sv i hsv (by omega) τ _ (fun _ => ?_)⟩
    by_cases hb : tb sv i = true
    · rw [if_pos hb]
      have hout : gI τ 57 i = L i := by
        refine isM_unique (a1 i i0 (by omega)) ⟨(hL i i0 (by omega)).1, by have := (hL i i0 (by omega)).2.1; omega, fun o o0 o1 => ?_⟩
        show tb (L i) o = (tb (L i) o && !decide (tqA L sv P i.toNat o = i))
        by_cases q : o < P
        · have : ¬ tqA L sv P i.toNat o = i := by
            unfold tqA
            rw [if_pos q]
            rcases tk1_r L sv i.toNat o with e | e
            · omega
            · omega
          rw [decide_eq_false this]; simp
        · rw [hhigh i o i0 (by omega) (by omega)]; rfl
      rw [hout]
      have hL1 := hL i i0 (by omega)
      have hne := ap1 i i0 i1 hb
      refine ⟨fun e => absurd e (by decide), fun _ => ⟨by omega, c_sendFA i (L i) P (by omega) (by omega) ⟨by omega, hL1.2.1⟩ L _ σ0 τ h3 hF (fun _ _ _ hk => hk) (fun o o0 o1 hk => ?_) _ (fun υ hu => ih υ ⟨by omega, hu.congr (by omega) (fun o o0 o1 => ?_)⟩)⟩⟩
      · unfold tqA
        rw [if_pos o1]
        rcases tk1_r L sv i.toNat o with e | ⟨e1, e2, e3, e4⟩
        · exact e
        · have := ap2 _ _ o e1 (by omega) i0 i1 e3 hb e4 hk
          omega
      · unfold tqA
        rw [hstep]
        by_cases q : o < P
        · rw [if_pos q, if_pos q]
          by_cases q2 : tb (L i) o = true
          · rw [if_pos ⟨o0, q, q2⟩, if_pos ⟨hb, q2⟩]
          · rw [if_neg (fun z => q2 z.2.2), if_neg (fun z => q2 z.2)]
        · rw [if_neg (fun z => q z.2.1), if_neg q, if_neg q]
    · rw [if_neg hb]
      refine ⟨fun _ => ih τ ⟨by omega, hF.congr (by omega) (fun o o0 o1 => ?_)⟩, fun e => absurd rfl e⟩
      unfold tqA
      have hs2 : tk1 L sv (i + 1).toNat o = tk1 L sv i.toNat o := by rw [hstep, if_neg (fun z => hb z.1)]
      rw [hs2]
  · rintro i τ i0 ⟨z0, zF⟩
    have hi : i = P := by omega
    subst hi
    have e3 : gI τ 32 3 = i := by rw [zF.2.2.2.2 32 3 (by omega) (by omega) (by omega)]; exact h3
    exact vX8_sendFans_8 heads sv i rh rsv ⟨by omega, by omega⟩ τ Q ⟨fun _ => L2 τ zF, fun e => by omega⟩
  · have ht0 : ∀ o, tqA L sv P (0 : Int).toNat o = -1 := fun o => by
      unfold tqA
      by_cases q : o < P
      · rw [if_pos q]; rfl
      · rw [if_neg q]
    have hf0 : tqA L sv P (0 : Int).toNat = fun _ => -1 := funext ht0
    rw [hf0]
    refine ⟨fun i i0 i1 => ?_, isM_congr h5 (fun i k0 k1 => ?_), isM_congr h6 (fun o o0 o1 => by simp), h52, fun _ _ _ _ _ => rfl⟩
    · rw [h57 i i0 i1]
      refine ⟨(hL i i0 i1).1, by have := (hL i i0 i1).2.1; omega, fun o o0 o1 => ?_⟩
      show tb (L i) o = (tb (L i) o && !decide ((-1 : Int) = i))
      rw [decide_eq_false (show ¬ (-1 : Int) = i by omega)]; simp
    · have : bz (fun _ => -1) P.toNat i = false := by
        cases z : bz (fun _ => -1) P.toNat i
        · rfl
        · obtain ⟨o, _, _, o2⟩ := bz_of _ _ _ z
          omega
      rw [this]; simp
end MS3
