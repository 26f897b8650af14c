theorem l_make {p : Program} {l : Launch} {e : Env} {s : State} {m : MethodId} {below : List Frame} {meth : Method} {c : Code} {b L : Nat} {xs : Nat → Int32} {D : va_G} {cA : FieldType → ClassId} {z : gM} {N ci idx idx2 pc : Nat} {fs : List Value} {tm : (Nat → Nat) → va_W} {w : va_W} {H : Heap} {locs : List Loc} {la : Array Slot} {cells slots : Nat} {Q : State → Prop}
    (C0 : lw_At p s m meth c b L xs) (hla : la.size = 4) (hE : nEnv D cA s) (hN : nNew R_law idx ci fs N) (hw : nCw R_law idx2 z) (hz : nCt l D cA z (.inr (ci, fs)) tm) (d1 : decode code pc = .ok (.new idx, 3)) (d2 : decode code (pc + 3) = .ok (.dup, 1)) (d3 : decode code (pc + 3 + 1) = .ok (.invokespecial idx2, 3))
    (hR : z.2.2.2.2.frames + 1 ≤ 12 ∧ 8 + (z.2.2.1 + 11) + z.2.2.2.2.locals ≤ 444) (hc : cells + 1 + z.2.2.2.2.cells ≤ 600000) (hs : slots + N + z.2.2.2.2.slots ≤ 7302250)
    (hP : va_P D gCl w H) (hD : va_D (fun q => s.heap.size ≤ q) w) (hS : va_S (fun q => s.heap.size ≤ q) s.heap H locs)
    (kk : ∀ (q : Nat → Nat) (H1 : Heap) (locs1 : List Loc), va_P D gCl (w ++ tm q) H1 → va_D (fun q => s.heap.size ≤ q) (w ++ tm q) → va_S (fun q => s.heap.size ≤ q) s.heap H1 locs1 → W p l e room_1 s m #[Value.ref b] below meth c H1 locs1 (cells + 1 + z.2.2.2.2.cells) (slots + N + z.2.2.2.2.slots) Q (F0 m (pc + 3 + 1 + 3) la [.ref (q 0)])) :
    W p l e room_1 s m #[Value.ref b] below meth c H locs cells slots Q (F0 m pc la []) := by
  obtain ⟨hx, hb, hr, hml, hown, hts, hX, hbl, hlocks, hgv⟩ := id C0
  have htg : ∀ w ∈ gTbl, w.before #[Value.ref b] s = true := fun w hw => hts w (List.mem_filter.mp hw).1
  obtain ⟨C, T, ty, h1, h2, h3, h4, h5, h6, h7⟩ := hN
  have hc1 : cells + 1 ≤ room_1.cells := by show cells + 1 ≤ 600000; omega
  have hs1 : slots + N ≤ room_1.slots := by show slots + N ≤ 7302250; omega
  refine va_new (C := C) (T := T) (N := N) hx hb htg h2 ty h3 hown (htg _ h5) (htg _ h6) (htg _ h7) hE.1 hP hD hS (fun _ h => h) h1 h4 hc1 hs1 d1 (fun hb0 H1 hP1 hD1 hS1 => ?_)
  refine lv_dup hx hb d2 rfl ?_
  obtain ⟨hwl, hret, hname, hnm⟩ := hw
  have hF : CallFix p m c code 4 s #[Value.ref b] lw_tbl R_law := ⟨hx, hb, hml, hown, hts⟩
  have hcode : Cond.code z.1 z.2.1 z.2.2.1 z.2.2.2.1 ∈ gTbl := by rw [hret]; exact hwl.2.2.2
  have hwz : gwsM z = Cond.code z.1 z.2.1 z.2.2.1 none :: gTbl := by unfold gwsM; rw [hret]
  obtain ⟨hPc, hDc⟩ := n_last (wr := w) hP1 hD1
  have hFc : ∀ q, va_A [(hb0, .inr (ci, fs))] H1.size q → s.heap.size ≤ q := by
    intro q h
    rcases h with ⟨k, e1, h⟩ | h
    · have h4 : (w ++ [(hb0, .inr (ci, fs))])[w.length + k]? = some (q, e1) := by
        rw [List.getElem?_append_right (Nat.le_add_right _ _), Nat.add_sub_cancel_left]; exact h
      exact hD1.2 _ (q, e1) h4
    · exact Nat.le_trans hS1.1 h
  have hrun := va_runI (R := room_1) (H := H1) (locs := locs) (cells := cells + 1) (slots := slots + N) (below := below) (e := e) (meth := meth) (As := []) (n := 0) (b := hb0) (g := F0 m (pc + 3 + 1) la [.ref hb0, .ref hb0]) (rest := [.ref hb0]) hF (hz hb0 H1.size) ⟨callB_of 0 hts (lw_good2 hcode) hwz rfl rfl (htg _ hwl.2.2.1) (htg _ hwl.1) hnm hR, hname, htg _ hwl.2.1⟩ ⟨n_blind, fun U hU hW => ⟨rfl, by rw [hU], hE.moved hW.alike, by rw [hU]; exact hPc, hDc⟩⟩ rfl rfl hla rfl (lv_room (Nat.le_of_ble_eq_true rfl)) d3 ⟨hc, hs⟩
  refine va_callv (A0 := fun q => s.heap.size ≤ q) hrun hS1 (fun q _ h => hFc q h) hFc (fun u t H2 locs1 ht hvm hq hB hz1 hk1 hS2 => ?_)
  rw [ht] at hB
  obtain ⟨hP', hD'⟩ := n_join (wr := w) (wc := [(hb0, .inr (ci, fs))]) hP1 hD1 hk1 hFc hB.1 hB.2
  have hq : u 0 = hb0 := hq
  subst hq
  exact kk u H2 locs1 hP' hD' hS2
set_option maxRecDepth 100000 in
set_option maxHeartbeats 4000000 in
/-- THE LAW, from its entry -/
theorem whole_start {p : Program} {e : Env} {s : State} {m : MethodId} {below : List Frame} {meth : Method} {c : Code} (l : Launch) (hflags : l.flags = flags0) {b L : Nat} {xs : Nat → Int32} (hL : L ≤ 3072) (C0 : lw_At p s m meth c b L xs) : W p l e room_1 s m #[Value.ref b] below meth c s.heap [] 0 0 (lw_Z below #[Value.ref b] s) (entryFrame m ([Value.ref b] : List Value).toArray 4) := by
  obtain ⟨hx, hb, hr, hml, hown, hts, hX, hbl, hlocks, hgv⟩ := id C0
  have htg : ∀ w ∈ gTbl, w.before #[Value.ref b] s = true := fun w hw => hts w (List.mem_filter.mp hw).1
  obtain ⟨D, hD0⟩ := env_known htg
  obtain ⟨cA, hcA⟩ := env_arr hts
  obtain ⟨sta, sK, sV, hst⟩ := env_stat (A := fun q => s.heap.size ≤ q) hts hgv (fun a h => Nat.not_le.mpr h)
  have hK : va_K D gCl (ntys cA) s := ⟨hD0, hcA⟩
  have hE : nEnv D cA s := ⟨hK, va_AO.of (hts _ we_ov)⟩
  have hP : va_P D gCl [] s.heap := fun k q h => by simp at h
  have hD : va_D (fun q : Nat => s.heap.size ≤ q) [] := ⟨fun i j p q h => by simp at h, fun k q h => by simp at h⟩
  have hl := lv_entry ([.ref b]) (n := 4) (Nat.le_of_ble_eq_true rfl)
  rw [lg_entry_eq]
  generalize (lg_sl ([.ref b]) ++ List.replicate (4 - (lg_sl ([.ref b])).length) Slot.unset).toArray = ls at hl ⊢
  have hl : lv_has ls 4 [(0, .ref b)] := hl
  refine l_make (w := []) C0 hl.1 hE jnL_7 jmL_9 (cX11_init_ l D cA) dL_0 dL_3 dL_4 ⟨Nat.le_of_ble_eq_true rfl, Nat.le_of_ble_eq_true rfl⟩ (Nat.le_of_ble_eq_true rfl) (Nat.le_of_ble_eq_true rfl) hP hD va_S.rf (fun q H locs hP hD hS => ?_)
  refine lv_astore_n (lv' := [(1, .ref (q 0)), (0, .ref b)]) hx hb dL_7 rfl hl (by decide) rfl (fun ls hl => ?_)
  refine l_make (w := tX11 cA q) C0 hl.1 hE jnL_10 jmL_12 (cX12_init_ l D cA) dL_8 dL_11 dL_12 ⟨Nat.le_of_ble_eq_true rfl, Nat.le_of_ble_eq_true rfl⟩ (Nat.le_of_ble_eq_true rfl) (Nat.le_of_ble_eq_true rfl) hP hD hS (fun q' H locs hP hD hS => ?_)
  refine lv_astore_n (lv' := [(2, .ref (q' 0)), (1, .ref (q 0)), (0, .ref b)]) hx hb dL_15 rfl hl (by decide) rfl (fun ls hl => ?_)
  refine lv_iconst (v := i32 0) hx hb dL_16 rfl ?_
  refine lv_istore_n (lv' := [(3, vI 0), (2, .ref (q' 0)), (1, .ref (q 0)), (0, .ref b)]) hx hb dL_17 rfl hl (by decide) rfl (fun ls hl => ?_)
  have hG : gws (D, (fun c => cond (Nat.ble c 87) (q c) (q' (c - 88))), cA, (fun q => s.heap.size ≤ q), sta, sK, sV) s0 = tX11 cA q ++ tX12 cA q' := (gws0 D (fun c => cond (Nat.ble c 87) (q c) (q' (c - 88))) cA (fun q => s.heap.size ≤ q) sta sK sV).trans rfl
  refine W.widen (k := 132) (n := 109404) (Nat.le_of_ble_eq_true rfl) (Nat.le_of_ble_eq_true rfl) ?_
  exact l_loop (l := l) (G := (D, (fun c => cond (Nat.ble c 87) (q c) (q' (c - 88))), cA, (fun q => s.heap.size ≤ q), sta, sK, sV)) hL (L + 1) 0 s0 (by decide) (by decide) (by omega) s0_inv p e s m below meth c C0 ⟨hK, hst D _ cA⟩ (fun q h => h) H locs ls hl ⟨by rw [hG]; exact hP, by rw [hG]; exact hD, s0_ok⟩ hS
