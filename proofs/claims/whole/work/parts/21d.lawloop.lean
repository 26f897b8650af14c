section LD
variable {l : Launch} {G : gG} {b L : Nat} {xs : Nat → Int32}
theorem l_done {ls : List (Nat × Value)} {σ : gS} : lAt l G b L xs 991 ls [] σ := by
  intro p e s m below meth c C0 hE hA H locs la hl hD hS
  obtain ⟨hx, hb, hr, hml, hown, hts, hX, hbl, hlocks, hgv⟩ := id C0
  refine lv_iconst (v := 1) hx hb dL_991 (by decide) ?_
  refine va_forget (fun q hq => hA _ (hS.2.2 q hq)) ?_
  refine W.widen (k := 600000) (n := 7302250) (Nat.le_of_ble_eq_true rfl) (Nat.le_of_ble_eq_true rfl) ?_
  exact lw_ret hx hb hr hlocks dL_992
theorem gand31 (x : Int) : 0 ≤ gand x 31 ∧ gand x 31 ≤ 31 := by
  unfold gand
  have e : (i32 31) = 31 := by decide
  rw [e]
  have h : (i32 x &&& (31 : Int32)).toInt = (((i32 x).toBitVec &&& 31#32).toNat : Int) := by
    have h1 : (i32 x &&& (31 : Int32)).toInt = ((i32 x).toBitVec &&& 31#32).toInt := rfl
    rw [h1]
    refine BitVec.toInt_eq_toNat_of_lt ?_
    have h2 : ((i32 x).toBitVec &&& 31#32).toNat ≤ 31 := by rw [BitVec.toNat_and]; exact Nat.and_le_right
    omega
  rw [h]
  have h2 : ((i32 x).toBitVec &&& 31#32).toNat ≤ 31 := by rw [BitVec.toNat_and]; exact Nat.and_le_right
  omega
theorem l_loop (hL : L ≤ 3072) : ∀ (n : Nat) (i : Int) (σ : gS), 0 ≤ i → i ≤ 4000 → (L : Int) - i < n → tInv σ → lAt l G b L xs 18 [(3, vI i), (2, .ref (G.2.1 88)), (1, .ref (G.2.1 0)), (0, .ref b)] [] σ := by
  intro n
  induction n with
  | zero =>
    intro i σ i0 i2 i1 hI
    refine l_iload_n 0 dL_18 rfl rfl ?_
    refine l_aload_n 3 dL_19 rfl rfl ?_
    refine l_slen hL dL_20 ?_
    refine l_bipush dL_21 (by decide) ?_
    refine l_isub dL_23 ?_
    exact l_icmp_gt (tgt := 991) dL_24 (by decide) ⟨by omega, by omega⟩ ⟨by omega, by omega⟩ (fun _ => l_done) (fun n => absurd (show (L : Int) - 6 < i by omega) n)
  | succ n ih =>
    intro i σ i0 i2 i1 hI
    refine l_iload_n 0 dL_18 rfl rfl ?_
    refine l_aload_n 3 dL_19 rfl rfl ?_
    refine l_slen hL dL_20 ?_
    refine l_bipush dL_21 (by decide) ?_
    refine l_isub dL_23 ?_
    refine l_icmp_gt (tgt := 991) dL_24 (by decide) ⟨by omega, by omega⟩ ⟨by omega, by omega⟩ (fun _ => l_done) (fun hg => ?_)
    have hi : 0 ≤ i ∧ i + 5 < L := by omega
    have K : ∀ υ, tInv υ → lAt l G b L xs 985 [(3, vI i), (2, .ref (G.2.1 88)), (1, .ref (G.2.1 0)), (0, .ref b)] [] υ := by
      intro υ hυ
      refine l_iinc (ls' := [(3, vI (i + 6)), (2, .ref (G.2.1 88)), (1, .ref (G.2.1 0)), (0, .ref b)]) 0 dL_985 rfl (by decide) rfl ?_
      refine l_goto (tgt := 18) dL_988 (by decide) ?_
      exact ih (i + 6) υ (by omega) (by omega) (by omega) hυ
    refine l_aload_n 3 dL_27 rfl rfl ?_
    refine l_iload_n 0 dL_28 rfl rfl ?_
    refine l_sld hL dL_29 ⟨by omega, by omega⟩ ?_
    refine l_bipush dL_30 (by decide) ?_
    refine l_iand dL_32 (fun hg2 => ?_)
    have hb := gand31 (xs i.toNat).toInt
    rcases (show (gand (xs i.toNat).toInt 31 = 0 ∨ gand (xs i.toNat).toInt 31 = 1 ∨ gand (xs i.toNat).toInt 31 = 2 ∨ gand (xs i.toNat).toInt 31 = 3 ∨ gand (xs i.toNat).toInt 31 = 4 ∨ gand (xs i.toNat).toInt 31 = 5 ∨ gand (xs i.toNat).toInt 31 = 6 ∨ gand (xs i.toNat).toInt 31 = 7 ∨ gand (xs i.toNat).toInt 31 = 8 ∨ gand (xs i.toNat).toInt 31 = 9 ∨ gand (xs i.toNat).toInt 31 = 10 ∨ gand (xs i.toNat).toInt 31 = 11 ∨ gand (xs i.toNat).toInt 31 = 12 ∨ gand (xs i.toNat).toInt 31 = 13 ∨ gand (xs i.toNat).toInt 31 = 14 ∨ gand (xs i.toNat).toInt 31 = 15 ∨ gand (xs i.toNat).toInt 31 = 16 ∨ gand (xs i.toNat).toInt 31 = 17 ∨ gand (xs i.toNat).toInt 31 = 18 ∨ gand (xs i.toNat).toInt 31 = 19 ∨ gand (xs i.toNat).toInt 31 = 20) ∨ 20 < gand (xs i.toNat).toInt 31 by omega) with hc | hc
    · rcases hc with hc | hc | hc | hc | hc | hc | hc | hc | hc | hc | hc | hc | hc | hc | hc | hc | hc | hc | hc | hc | hc
      · exact l_tableIn (v := 0) (off := 99) (tgt := 132) dL_33 hc (by decide) rfl (by decide) (l_feed hL i hi σ hI K)
      · exact l_tableIn (v := 1) (off := 162) (tgt := 195) dL_33 hc (by decide) rfl (by decide) (l_end hL i hi σ hI K)
      · exact l_tableIn (v := 2) (off := 185) (tgt := 218) dL_33 hc (by decide) rfl (by decide) (l_text hL i hi σ hI K)
      · exact l_tableIn (v := 3) (off := 218) (tgt := 251) dL_33 hc (by decide) rfl (by decide) (l_fault hL i hi σ hI K)
      · exact l_tableIn (v := 4) (off := 241) (tgt := 274) dL_33 hc (by decide) rfl (by decide) (l_crossbar hL i hi σ hI K)
      · exact l_tableIn (v := 5) (off := 274) (tgt := 307) dL_33 hc (by decide) rfl (by decide) (l_deed hL i hi σ hI K)
      · exact l_tableIn (v := 6) (off := 317) (tgt := 350) dL_33 hc (by decide) rfl (by decide) (l_stop hL i hi σ hI K)
      · exact l_tableIn (v := 7) (off := 350) (tgt := 383) dL_33 hc (by decide) rfl (by decide) (l_state hL i hi σ hI K)
      · exact l_tableIn (v := 8) (off := 403) (tgt := 436) dL_33 hc (by decide) rfl (by decide) (l_cell hL i hi σ hI K)
      · exact l_tableIn (v := 9) (off := 456) (tgt := 489) dL_33 hc (by decide) rfl (by decide) (l_full hL i hi σ hI K)
      · exact l_tableIn (v := 10) (off := 499) (tgt := 532) dL_33 hc (by decide) rfl (by decide) (l_rhythm hL i hi σ hI K)
      · exact l_tableIn (v := 11) (off := 532) (tgt := 565) dL_33 hc (by decide) rfl (by decide) (l_judge hL i hi σ hI K)
      · exact l_tableIn (v := 12) (off := 585) (tgt := 618) dL_33 hc (by decide) rfl (by decide) (l_mimic hL i hi σ hI K)
      · exact l_tableIn (v := 13) (off := 638) (tgt := 671) dL_33 hc (by decide) rfl (by decide) (l_flow hL i hi σ hI K)
      · exact l_tableIn (v := 14) (off := 691) (tgt := 724) dL_33 hc (by decide) rfl (by decide) (l_after hL i hi σ hI K)
      · exact l_tableIn (v := 15) (off := 734) (tgt := 767) dL_33 hc (by decide) rfl (by decide) (l_fact hL i hi σ hI K)
      · exact l_tableIn (v := 16) (off := 777) (tgt := 810) dL_33 hc (by decide) rfl (by decide) (l_fits hL i hi σ hI K)
      · exact l_tableIn (v := 17) (off := 830) (tgt := 863) dL_33 hc (by decide) rfl (by decide) (l_drawn hL i hi σ hI K)
      · exact l_tableIn (v := 18) (off := 883) (tgt := 916) dL_33 hc (by decide) rfl (by decide) (l_count hL i hi σ hI K)
      · exact l_tableIn (v := 19) (off := 906) (tgt := 939) dL_33 hc (by decide) rfl (by decide) (l_image hL i hi σ hI K)
      · exact l_tableIn (v := 20) (off := 929) (tgt := 962) dL_33 hc (by decide) rfl (by decide) (l_again hL i hi σ hI K)
    · exact l_tableOut (tgt := 985) dL_33 hg2 (Or.inr hc) (by decide) (K σ hI)
end LD
