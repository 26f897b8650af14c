section GV
variable {l : Launch} {G : gG}
theorem gst0_r (x : Int) (hx : 0 ≤ x ∧ x ≤ 2) : 0 ≤ gst 0 x ∧ gst 0 x ≤ gst 0 (x + 1) ∧ gst 0 (x + 1) ≤ 11 := by
  rcases (show x = 0 ∨ x = 1 ∨ x = 2 by omega) with e | e | e <;> subst e <;> decide
theorem j_wordHere (x : Int) (hx : 0 ≤ x ∧ x ≤ 2) (σ : gS) (hT : σ.2.2 = 2) (hs : 0 ≤ gI σ 27 10 ∧ gI σ 27 10 ≤ gI σ 27 8 ∧ gI σ 27 8 ≤ 600) (Q : Int → gS → Prop)
    (hq : ∀ v : Int, (v = -1 ∧ (¬ gI σ 27 9 = 1 ∨ ∀ k : Nat, gst 0 x ≤ k → k < gst 0 (x + 1) → ¬ spT σ k (gI σ 27 10) (gI σ 27 8))) ∨ (gI σ 27 9 = 1 ∧ ∃ k : Nat, v = k ∧ gst 0 x ≤ k ∧ k < gst 0 (x + 1) ∧ spT σ k (gI σ 27 10) (gI σ 27 8)) → Q v σ) : gEi l G mX7_wordHere [.ref (G.2.1 27), vI x] σ Q := by
  have b := gst0_r x hx
  refine ga_entry rfl (Nat.le_of_ble_eq_true rfl) ?_
  show gAt l G mX7_wordHere (gQi G Q) 0 [(0, .ref (G.2.1 27)), (1, vI x)] [] σ
  refine ga_aload_n 0 dX7_wordHere_0 rfl rfl ?_
  refine ga_getI (kI := 9) dX7_wordHere_1 fX7_52 rfl rfl rfl (fun r1 => ?_)
  refine ga_iconst dX7_wordHere_4 ?_
  refine ga_icmp_eq (tgt := 10) dX7_wordHere_5 (by decide) r1 (by decide) (fun q1 => ?_) (fun q1 => ?_)
  · refine ga_gets (k := 0) dX7_wordHere_10 rfl wX7_102 ?_
    refine ga_iload_n 1 dX7_wordHere_13 rfl rfl ?_
    refine ga_sald (k := 0) (nI := 4) dX7_wordHere_14 rfl rfl ⟨by omega, by omega⟩ ?_
    refine ga_istore_n (ls' := [(2, vI (gst 0 x)), (0, .ref (G.2.1 27)), (1, vI x)]) dX7_wordHere_15 rfl (by decide) rfl ?_
    have loop : ∀ (m : Nat) (w : Int), w + m = gst 0 (x + 1) → gst 0 x ≤ w → (∀ k : Nat, gst 0 x ≤ k → k < w → ¬ spT σ k (gI σ 27 10) (gI σ 27 8)) → gAt l G mX7_wordHere (gQi G Q) 16 [(2, vI w), (0, .ref (G.2.1 27)), (1, vI x)] [] σ := by
      intro m
      induction m with
      | zero =>
        intro w hw h0 hn
        refine ga_iload_n 0 dX7_wordHere_16 rfl rfl ?_
        refine ga_gets (k := 0) dX7_wordHere_17 rfl wX7_102 ?_
        refine ga_iload_n 2 dX7_wordHere_20 rfl rfl ?_
        refine ga_iconst dX7_wordHere_21 ?_
        refine ga_iadd dX7_wordHere_22 ?_
        refine ga_sald (k := 0) (nI := 4) dX7_wordHere_23 rfl rfl ⟨by omega, by omega⟩ ?_
        refine ga_icmp_ge (tgt := 46) dX7_wordHere_24 (by decide) ⟨by omega, by omega⟩ ⟨by omega, by omega⟩ (fun _ => ?_) (fun n => absurd n (by omega))
        refine ga_iconst dX7_wordHere_46 ?_
        exact ga_iret dX7_wordHere_47 rfl (by decide) (hq (-1) (Or.inl ⟨rfl, Or.inr (fun k k0 k1 => hn k k0 (by omega))⟩))
      | succ m ih =>
        intro w hw h0 hn
        refine ga_iload_n 0 dX7_wordHere_16 rfl rfl ?_
        refine ga_gets (k := 0) dX7_wordHere_17 rfl wX7_102 ?_
        refine ga_iload_n 2 dX7_wordHere_20 rfl rfl ?_
        refine ga_iconst dX7_wordHere_21 ?_
        refine ga_iadd dX7_wordHere_22 ?_
        refine ga_sald (k := 0) (nI := 4) dX7_wordHere_23 rfl rfl ⟨by omega, by omega⟩ ?_
        refine ga_icmp_ge (tgt := 46) dX7_wordHere_24 (by decide) ⟨by omega, by omega⟩ ⟨by omega, by omega⟩ (fun n => absurd n (by omega)) (fun _ => ?_)
        refine ga_aload_n 1 dX7_wordHere_27 rfl rfl ?_
        refine ga_iload_n 0 dX7_wordHere_28 rfl rfl ?_
        refine ga_callSr (z := mX7_letters) (As := [vI w]) (rest := [.ref (G.2.1 27)]) dX7_wordHere_29 wX7_105 qX7_wordHere_X7_letters rfl rfl (Nat.le_of_ble_eq_true rfl) (j_letters w ⟨by omega, by omega⟩ σ _ ?_)
        refine ga_callVi (z := mX7_isHere) (As := [.ref (gsK G w.toNat)]) (rest := []) dX7_wordHere_32 wX7_109 qX7_wordHere_X7_isHere rfl ⟨_, rfl, rfl⟩ rfl rfl (Nat.le_of_ble_eq_true rfl) (j_isHere w.toNat (by omega) σ hT hs _ (fun v hv rv => ?_))
        refine ga_if_eq (tgt := 40) dX7_wordHere_35 (by decide) rv (fun z => ?_) (fun z => ?_)
        · refine ga_iinc (ls' := [(2, vI (w + 1)), (0, .ref (G.2.1 27)), (1, vI x)]) 0 dX7_wordHere_40 rfl (by decide) rfl ?_
          refine ga_goto (tgt := 16) dX7_wordHere_43 (by decide) ?_
          refine ih (w + 1) (by omega) (by omega) (fun k k0 k1 => ?_)
          by_cases y : (k : Int) = w
          · have e : k = w.toNat := by omega
            rcases hv with ⟨_, h⟩ | ⟨h, _⟩
            · rw [e]; exact h
            · exact absurd (z.symm.trans h) (by decide)
          · exact hn k k0 (by omega)
        · refine ga_iload_n 0 dX7_wordHere_38 rfl rfl ?_
          refine ga_iret dX7_wordHere_39 rfl ⟨by omega, by omega⟩ (hq w (Or.inr ⟨q1, w.toNat, by omega, by omega, by omega, ?_⟩))
          rcases hv with ⟨h, _⟩ | ⟨_, h⟩
          · exact absurd h z
          · exact h
    exact loop (gst 0 (x + 1) - gst 0 x).toNat (gst 0 x) (by omega) (by omega) (fun k k0 k1 => by omega)
  · refine ga_iconst dX7_wordHere_8 ?_
    exact ga_iret dX7_wordHere_9 rfl (by decide) (hq (-1) (Or.inl ⟨rfl, Or.inl q1⟩))
end GV
