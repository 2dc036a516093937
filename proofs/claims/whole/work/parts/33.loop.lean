/-! the law's loop -/
theorem and15 (a : Int32) : ∃ v : Nat, v ≤ 15 ∧ a &&& nI 15 = nI v := by
  have h9 : a.toBitVec.toNat &&& 15 ≤ 15 := Nat.and_le_right
  refine ⟨a.toBitVec.toNat &&& 15, h9, ?_⟩
  apply Int32.toBitVec_inj.mp
  rw [Int32.toBitVec_and]
  apply BitVec.eq_of_toNat_eq
  rw [BitVec.toNat_and]
  show a.toBitVec.toNat &&& 15 = (a.toBitVec.toNat &&& 15) % 2 ^ 32
  rw [Nat.mod_eq_of_lt (by omega)]
theorem len7 {L i : Nat} (hL : L ≤ 3584) (hi : i ≤ 3584) : nI L - nI 7 < nI i ↔ L < i + 7 := by
  have e1 : (nI L - nI 7).toInt = (L : Int) - 7 := by
    rw [Int32.toInt_sub, nI_toInt (by omega), nI_toInt (by omega), Int.bmod_def]
    omega
  rw [Int32.lt_iff_toInt_lt, e1, nI_toInt (by omega)]
  omega
set_option maxHeartbeats 4000000 in
set_option maxRecDepth 100000 in
theorem law_loop {p : Program} {e : Env} {s : State} {m : MethodId} {below : List Frame} {meth : Method} {c : Code} (l : Launch) (hfl : l.stackTraces = false) {b L : Nat} {xs : Nat → Int32} (C0 : lw_At p s m meth c b L xs) (dC : Nat → ClassId) (dI : Nat → Nat → Nat) (cI cL cB : ClassId) (ad : Nat → Nat) (hK : va_K (dC, dI) vCl [(cI, .int), (cL, .long), (cB, .object "CoinBag$Bag")] s) (hAm : sAm s.heap.size s) (hL : L ≤ 3584) :
    ∀ (fu k : Nat), k ≤ 512 → 513 ≤ k + fu → ∀ (w : Nat → va_E) (F : Nat → Int → Int64) (o : Nat → Int64) (t0 : Int32) (H : Heap) (locs : List Loc) (ls : Array Slot), sC ad cI cL cB w F → sM ad cI cL w t0 F → w 51 = .inl (cL, 1, .inr (.inl o)) → sZ (dC, dI) vCl 52 ad (fun q => s.heap.size ≤ q) s.heap w H locs →
    lv_has ls 8 [(4, .int (nI (7 * k))), (0, .ref b), (1, .ref (ad 0)), (2, .ref (ad 43)), (3, .ref (ad 51))] → W p l e room_1 s m #[Value.ref b] below meth c H locs (52 + k) (4237 + 6 * k) (lw_Z below #[Value.ref b] s) (F0 m 23 ls []) := by
  intro fu
  induction fu with
  | zero => intro k h8 h9; omega
  | succ fu ih =>
    intro k h8 h9 w F o t0 H locs ls hC hMM h51 hZ hl
    obtain ⟨hx, hb, hr, hml, hown, hts0, hX, hbl, hlocks, hgv⟩ := id C0
    have hbA : ¬ (fun q => s.heap.size ≤ q) b := Nat.not_le.mpr hbl
    refine lv_iload hx hb d_Law_law_23 (lv_at hl 0 rfl) ?_
    refine lv_aload_n hx hb d_Law_law_25 rfl (lv_at hl 1 rfl) ?_
    refine va_slen hx hb hX hbl hbA hZ.2.2 d_Law_law_26 ?_
    refine lv_bipush (v := nI 7) hx hb d_Law_law_27 rfl ?_
    refine lv_isub hx hb d_Law_law_29 ?_
    refine lv_icmp_gt (tgt := 1492) hx hb d_Law_law_30 (by decide) (fun h30 => ?_) (fun h30 => ?_)
    · refine lv_iconst (v := 1) hx hb d_Law_law_1492 rfl ?_
      refine va_forget hZ.2.2.2.2 ?_
      refine W.widen (k := 601024) (n := 7293034) (by omega) (by omega) ?_
      exact lw_ret hx hb hr hlocks d_Law_law_1493
    · have hi : 7 * k + 7 ≤ L := by
        have h7 : ¬ L < 7 * k + 7 := fun z => h30 ((len7 hL (show 7 * k ≤ 3584 by omega)).mpr z)
        omega
      have hc1 : 52 + k + 1 ≤ room_1.cells ∧ 4237 + 6 * k + 6 ≤ room_1.slots := ⟨by show 52 + k + 1 ≤ 601024; omega, by show 4237 + 6 * k + 6 ≤ 7293034; omega⟩
      have K : lawK p l e s m below meth c b dC dI cI cL cB ad (7 * k) (52 + k + 1) (4237 + 6 * k + 6) := by
        intro w F o t0 H locs ls hC hMM h51 hZ hl
        refine lv_iinc (v := nI (7 * (k + 1))) (lv' := [(4, .int (nI (7 * (k + 1)))), (0, .ref b), (1, .ref (ad 0)), (2, .ref (ad 43)), (3, .ref (ad 51))]) hx hb d_Law_law_1486 hl (k := 0) rfl (nI_add (7 * k) 7) (by decide) rfl (fun ls hl => ?_)
        refine lv_goto (tgt := 23) hx hb d_Law_law_1489 (by decide) ?_
        refine W.widen (k := 52 + (k + 1)) (n := 4237 + 6 * (k + 1)) (by omega) (by omega) ?_
        exact ih (k + 1) (by omega) (by omega) w F o t0 H locs ls hC hMM h51 hZ hl
      refine lv_aload_n hx hb d_Law_law_33 rfl (lv_at hl 1 rfl) ?_
      refine lv_iload hx hb d_Law_law_34 (lv_at hl 0 rfl) ?_
      refine q_sld hx hb hX hbl hbA hZ.2.2 (7 * k) rfl (by omega) (by omega) d_Law_law_36 ?_
      refine lv_bipush (v := nI 15) hx hb d_Law_law_37 rfl ?_
      refine lv_iand hx hb d_Law_law_39 ?_
      obtain ⟨v, hv, ev⟩ := and15 (xs (7 * k))
      refine q_topi ev ?_
      rcases (show v = 0 ∨ v = 1 ∨ v = 2 ∨ v = 3 ∨ v = 4 ∨ v = 5 ∨ v = 6 ∨ v = 7 ∨ v = 8 ∨ v = 9 ∨ v = 10 ∨ v = 11 ∨ v = 12 ∨ v = 13 ∨ v = 14 ∨ v = 15 by omega) with rfl | rfl | rfl | rfl | rfl | rfl | rfl | rfl | rfl | rfl | rfl | rfl | rfl | rfl | rfl | rfl
      · refine lv_tableIn (off := 76) (tgt := 116) hx hb d_Law_law_40 (by decide) (by decide) (by decide) (by decide) ?_
        exact law_0 l hfl C0 dC dI cI cL cB ad hK hAm (7 * k) hi hL (52 + k) (4237 + 6 * k) hc1 K w F o t0 H locs ls hC hMM h51 hZ hl
      · refine lv_tableIn (off := 241) (tgt := 281) hx hb d_Law_law_40 (by decide) (by decide) (by decide) (by decide) ?_
        exact law_1 l hfl C0 dC dI cI cL cB ad hK hAm (7 * k) hi hL (52 + k) (4237 + 6 * k) hc1 K w F o t0 H locs ls hC hMM h51 hZ hl
      · refine lv_tableIn (off := 406) (tgt := 446) hx hb d_Law_law_40 (by decide) (by decide) (by decide) (by decide) ?_
        exact law_2 l hfl C0 dC dI cI cL cB ad hK hAm (7 * k) hi hL (52 + k) (4237 + 6 * k) hc1 K w F o t0 H locs ls hC hMM h51 hZ hl
      · refine lv_tableIn (off := 493) (tgt := 533) hx hb d_Law_law_40 (by decide) (by decide) (by decide) (by decide) ?_
        exact law_3 l hfl C0 dC dI cI cL cB ad hK hAm (7 * k) hi hL (52 + k) (4237 + 6 * k) hc1 K w F o t0 H locs ls hC hMM h51 hZ hl
      · refine lv_tableIn (off := 580) (tgt := 620) hx hb d_Law_law_40 (by decide) (by decide) (by decide) (by decide) ?_
        exact law_4 l hfl C0 dC dI cI cL cB ad hK hAm (7 * k) hi hL (52 + k) (4237 + 6 * k) hc1 K w F o t0 H locs ls hC hMM h51 hZ hl
      · refine lv_tableIn (off := 699) (tgt := 739) hx hb d_Law_law_40 (by decide) (by decide) (by decide) (by decide) ?_
        exact law_5 l hfl C0 dC dI cI cL cB ad hK hAm (7 * k) hi hL (52 + k) (4237 + 6 * k) hc1 K w F o t0 H locs ls hC hMM h51 hZ hl
      · refine lv_tableIn (off := 787) (tgt := 827) hx hb d_Law_law_40 (by decide) (by decide) (by decide) (by decide) ?_
        exact law_6 l hfl C0 dC dI cI cL cB ad hK hAm (7 * k) hi hL (52 + k) (4237 + 6 * k) hc1 K w F o t0 H locs ls hC hMM h51 hZ hl
      · refine lv_tableIn (off := 874) (tgt := 914) hx hb d_Law_law_40 (by decide) (by decide) (by decide) (by decide) ?_
        exact law_7 l hfl C0 dC dI cI cL cB ad hK hAm (7 * k) hi hL (52 + k) (4237 + 6 * k) hc1 K w F o t0 H locs ls hC hMM h51 hZ hl
      · refine lv_tableIn (off := 910) (tgt := 950) hx hb d_Law_law_40 (by decide) (by decide) (by decide) (by decide) ?_
        exact law_8 l hfl C0 dC dI cI cL cB ad hK hAm (7 * k) hi hL (52 + k) (4237 + 6 * k) hc1 K w F o t0 H locs ls hC hMM h51 hZ hl
      · refine lv_tableIn (off := 1021) (tgt := 1061) hx hb d_Law_law_40 (by decide) (by decide) (by decide) (by decide) ?_
        exact law_9 l hfl C0 dC dI cI cL cB ad hK hAm (7 * k) hi hL (52 + k) (4237 + 6 * k) hc1 K w F o t0 H locs ls hC hMM h51 hZ hl
      · refine lv_tableIn (off := 1077) (tgt := 1117) hx hb d_Law_law_40 (by decide) (by decide) (by decide) (by decide) ?_
        exact law_10 l hfl C0 dC dI cI cL cB ad hK hAm (7 * k) hi hL (52 + k) (4237 + 6 * k) hc1 K w F o t0 H locs ls hC hMM h51 hZ hl
      · refine lv_tableIn (off := 1156) (tgt := 1196) hx hb d_Law_law_40 (by decide) (by decide) (by decide) (by decide) ?_
        exact law_11 l hfl C0 dC dI cI cL cB ad hK hAm (7 * k) hi hL (52 + k) (4237 + 6 * k) hc1 K w F o t0 H locs ls hC hMM h51 hZ hl
      · refine lv_tableIn (off := 1224) (tgt := 1264) hx hb d_Law_law_40 (by decide) (by decide) (by decide) (by decide) ?_
        exact law_12 l hfl C0 dC dI cI cL cB ad hK hAm (7 * k) hi hL (52 + k) (4237 + 6 * k) hc1 K w F o t0 H locs ls hC hMM h51 hZ hl
      · refine lv_tableIn (off := 1311) (tgt := 1351) hx hb d_Law_law_40 (by decide) (by decide) (by decide) (by decide) ?_
        exact law_13 l hfl C0 dC dI cI cL cB ad hK hAm (7 * k) hi hL (52 + k) (4237 + 6 * k) hc1 K w F o t0 H locs ls hC hMM h51 hZ hl
      · refine lv_tableIn (off := 1378) (tgt := 1418) hx hb d_Law_law_40 (by decide) (by decide) (by decide) (by decide) ?_
        exact law_14 l hfl C0 dC dI cI cL cB ad hK hAm (7 * k) hi hL (52 + k) (4237 + 6 * k) hc1 K w F o t0 H locs ls hC hMM h51 hZ hl
      · refine lv_tableOut (tgt := 1486) hx hb d_Law_law_40 (Or.inr (by decide)) (by decide) ?_
        refine W.widen (k := 52 + k + 1) (n := 4237 + 6 * k + 6) (by omega) (by omega) ?_
        exact K w F o t0 H locs ls hC hMM h51 hZ hl
set_option maxHeartbeats 4000000 in
set_option maxRecDepth 100000 in
/-- from the entry, for every script of at most 3584 ints, the law comes to its end with true -/
theorem whole_start {p : Program} {e : Env} {s : State} {m : MethodId} {below : List Frame} {meth : Method} {c : Code} (l : Launch) (hfl : l.stackTraces = false) {b L : Nat} {xs : Nat → Int32} (hL : L ≤ 3584) (C0 : lw_At p s m meth c b L xs) : W p l e room_1 s m #[Value.ref b] below meth c s.heap [] 0 0 (lw_Z below #[Value.ref b] s) (entryFrame m ([Value.ref b] : List Value).toArray 8) := by
  obtain ⟨hx, hb, hr, hml, hown, hts0, hX, hbl, hlocks, hgv⟩ := id C0
  have hts := law_hts hts0
  have hAm := law_Am C0
  have hown : s.vm.findClass "CoinBagLaw" = some m.cls := hown
  obtain ⟨hAO, dC, dI, cI, cL, cB, hK⟩ := law_K C0
  have hN : s.heap.size ≤ s.heap.size := Nat.le_refl _
  obtain ⟨ad, had⟩ : ∃ ad : Nat → Nat, ∀ k, ad k = s.heap.size + k := ⟨fun k => s.heap.size + k, fun _ => rfl⟩
  obtain ⟨w0, -⟩ : ∃ w : Nat → va_E, True := ⟨fun _ => .inr (0, []), trivial⟩
  have hZ : sZ (dC, dI) vCl 0 ad (fun q => s.heap.size ≤ q) s.heap w0 s.heap [] := ⟨fun k q h => by simp [wsW] at h, ⟨fun i j p q h => by simp [wsW] at h, fun k q h => by simp [wsW] at h⟩, va_S.rf⟩
  have hl := lv_entry ([.ref b]) (n := 8) (Nat.le_of_ble_eq_true rfl)
  rw [lg_entry_eq]
  generalize (lg_sl ([.ref b]) ++ List.replicate (8 - (lg_sl ([.ref b])).length) Slot.unset).toArray = ls at hl ⊢
  have hl : lv_has ls 8 [(0, .ref b)] := hl
  refine q_new (C := R_CB) (T := T_CB) (N := 3) (ci := 2) (fs := [.null, .null, .null]) had hx hb hts (fun w h => gm (inT_CB w h)) ty_CB tyo_CB hown (hts _ (gm k_34)) (hts _ (gm k_35)) (hts _ (gm k_21)) hK hZ hN rfl (fun j hj => by rcases (show j = 0 ∨ j = 1 ∨ j = 2 by omega) with rfl | rfl | rfl <;> rfl) (Nat.le_of_ble_eq_true rfl) (Nat.le_of_ble_eq_true rfl) (by omega) d_Law_law_0 (fun H hZ => ?_)
  refine W.widen (k := 1) (n := 3) (by decide) (by decide) ?_
  have hZ : sZ (dC, dI) vCl 1 ad (fun q => s.heap.size ≤ q) s.heap (va_up w0 0 (.inr (2, [.null, .null, .null]))) H [] := hZ
  have h0 : va_up w0 0 (.inr (2, [.null, .null, .null])) 0 = .inr (2, [.null, .null, .null]) := va_up_self _ _ _
  generalize va_up w0 0 (.inr (2, [.null, .null, .null])) = u1 at hZ h0
  refine lv_dup hx hb d_Law_law_3 rfl ?_
  refine q_sz had (by omega) (by omega) hZ (fun hs => ?_)
  refine q_callG (va_runI (As := []) (rest := [.ref (ad 0)]) ⟨hx, hb, hml, hown, hts⟩ (c_CB_init l dC dI cI cL cB ad s.heap.size had u1 h0) (cwI 0 hts (gI k_38) rfl rfl rfl (hts _ (gm k_21)) (hts _ (gm k_36)) (hts _ (gm k_37)) rfl (by decide +kernel) ⟨Nat.le_of_ble_eq_true rfl, Nat.le_of_ble_eq_true rfl⟩)
    ⟨fun a U g mk q => ⟨q.1, (sG.blind (av := [.ref (ad 0)]) a U g mk ⟨q.1, q.2.1⟩).2, va_AO.moved (u := U) (U := U.calling g mk a) (Vm.Alike.refl U.vm) q.2.2⟩, fun U hU hW => ⟨rfl, ⟨q_end hK hAm hZ hN U hU hW, by rw [hU]; exact hs⟩, va_AO.moved hW.alike hAO⟩⟩
    rfl rfl hl.1 rfl (lv_room (Nat.le_of_ble_eq_true rfl)) d_Law_law_4 ⟨Nat.le_of_ble_eq_true rfl, Nat.le_of_ble_eq_true rfl⟩) hZ (fun u2 H locs hC hZ => ?_)
  refine W.widen (k := 43) (n := 2292) (by decide) (by decide) ?_
  have hZ : sZ (dC, dI) vCl 43 ad (fun q => s.heap.size ≤ q) s.heap u2 H locs := hZ
  refine lv_astore_n (lv' := [(1, .ref (ad 0)), (0, .ref b)]) hx hb d_Law_law_7 rfl hl (by decide) rfl (fun ls hl => ?_)
  refine q_new (C := R_Mod) (T := T_Mod) (N := 10) (ci := 3) (fs := [.int 0, .null, .null, .null, .null, .int 0, .null, .null, .null, .int 0]) had hx hb hts (fun w h => gm (inT_Mod w h)) ty_Mod tyo_Mod hown (hts _ (gm k_414)) (hts _ (gm k_415)) (hts _ (gm k_24)) hK hZ hN rfl (fun j hj => by rcases (show j = 0 ∨ j = 1 ∨ j = 2 ∨ j = 3 ∨ j = 4 ∨ j = 5 ∨ j = 6 ∨ j = 7 ∨ j = 8 ∨ j = 9 by omega) with rfl | rfl | rfl | rfl | rfl | rfl | rfl | rfl | rfl | rfl <;> rfl) (Nat.le_of_ble_eq_true rfl) (Nat.le_of_ble_eq_true rfl) (by omega) d_Law_law_8 (fun H hZ => ?_)
  refine W.widen (k := 44) (n := 2302) (by decide) (by decide) ?_
  have hZ : sZ (dC, dI) vCl 44 ad (fun q => s.heap.size ≤ q) s.heap (va_up u2 43 (.inr (3, [.int 0, .null, .null, .null, .null, .int 0, .null, .null, .null, .int 0]))) H locs := hZ
  have h43 : va_up u2 43 (.inr (3, [.int 0, .null, .null, .null, .null, .int 0, .null, .null, .null, .int 0])) 43 = .inr (3, [.int 0, .null, .null, .null, .null, .int 0, .null, .null, .null, .int 0]) := va_up_self _ _ _
  have hC : sC ad cI cL cB (va_up u2 43 (.inr (3, [.int 0, .null, .null, .null, .null, .int 0, .null, .null, .null, .int 0]))) (fun _ _ => 0) := sC_fr hC (fun x hx => va_up_ne _ _ (by omega))
  generalize va_up u2 43 (.inr (3, [.int 0, .null, .null, .null, .null, .int 0, .null, .null, .null, .int 0])) = u3 at hZ h43 hC
  refine lv_dup hx hb d_Law_law_11 rfl ?_
  refine q_sz had (by omega) (by omega) hZ (fun hs => ?_)
  refine q_callG (va_runI (As := []) (rest := [.ref (ad 43)]) ⟨hx, hb, hml, hown, hts⟩ (c_Mod_init l dC dI cI cL cB ad s.heap.size had u3 43 h43) (cwI 0 hts (gI k_418) rfl rfl rfl (hts _ (gm k_24)) (hts _ (gm k_416)) (hts _ (gm k_417)) rfl (by decide +kernel) ⟨Nat.le_of_ble_eq_true rfl, Nat.le_of_ble_eq_true rfl⟩) (q_preG hK hAm hZ hN hs _) rfl rfl hl.1 rfl (lv_room (Nat.le_of_ble_eq_true rfl)) d_Law_law_12 ⟨Nat.le_of_ble_eq_true rfl, Nat.le_of_ble_eq_true rfl⟩) hZ (fun u4 H locs hq hZ => ?_)
  refine W.widen (k := 51) (n := 4236) (by decide) (by decide) ?_
  have hZ : sZ (dC, dI) vCl 51 ad (fun q => s.heap.size ≤ q) s.heap u4 H locs := hZ
  obtain ⟨q0, q1, q2, q3, q4, q5, q6, q7, qf⟩ := hq
  have hC := sC_fr hC (fun x hx => qf x hx)
  have hMM : sM ad cI cL u4 0 (fun _ _ => 0) := ⟨fun _ => 0, fun _ => 0, fun _ => 0, fun _ => 0, 0, fun _ => 0, fun _ => 0, fun _ => 0, 0, ⟨q0, q1, q2, q3, q4, q5, q6, q7⟩, fun j hj => ⟨0, by decide, nI_0.symm, mRep_0 _ _ _⟩⟩
  refine lv_astore_n (lv' := [(2, .ref (ad 43)), (1, .ref (ad 0)), (0, .ref b)]) hx hb d_Law_law_15 rfl hl (by decide) rfl (fun ls hl => ?_)
  refine lv_iconst (v := nI 1) hx hb d_Law_law_16 rfl ?_
  refine q_newA (atype := .long) (ty := .long) (N' := 1) (a0 := (1, .inr (.inl (fun _ => 0)))) had hx hb (hts _ (gm k_71)) rfl (Or.inr rfl) hK hZ hN 1 rfl (fun _ => rfl) (by decide) (by decide) (by decide) (Nat.le_of_ble_eq_true rfl) (Nat.le_of_ble_eq_true rfl) (by omega) d_Law_law_17 (fun H hZ => ?_)
  refine W.widen (k := 52) (n := 4237) (by decide) (by decide) ?_
  have hZ : sZ (dC, dI) vCl 52 ad (fun q => s.heap.size ≤ q) s.heap (va_up u4 51 (.inl (cL, 1, .inr (.inl (fun _ => 0))))) H locs := hZ
  have h51 : va_up u4 51 (.inl (cL, 1, .inr (.inl (fun _ => 0)))) 51 = .inl (cL, 1, .inr (.inl (fun _ => 0))) := va_up_self _ _ _
  have hC : sC ad cI cL cB (va_up u4 51 (.inl (cL, 1, .inr (.inl (fun _ => 0))))) (fun _ _ => 0) := sC_fr hC (fun x hx => va_up_ne _ _ (by omega))
  have hMM : sM ad cI cL (va_up u4 51 (.inl (cL, 1, .inr (.inl (fun _ => 0))))) 0 (fun _ _ => 0) := sM_fr hMM (fun x h1 h2 => va_up_ne _ _ (by omega))
  generalize va_up u4 51 (.inl (cL, 1, .inr (.inl (fun _ => 0)))) = u5 at hZ h51 hC hMM
  refine lv_astore_n (lv' := [(3, .ref (ad 51)), (2, .ref (ad 43)), (1, .ref (ad 0)), (0, .ref b)]) hx hb d_Law_law_19 rfl hl (by decide) rfl (fun ls hl => ?_)
  refine lv_iconst (v := nI 0) hx hb d_Law_law_20 rfl ?_
  refine lv_istore (lv' := [(4, .int (nI 0)), (3, .ref (ad 51)), (2, .ref (ad 43)), (1, .ref (ad 0)), (0, .ref b)]) hx hb d_Law_law_21 hl (by decide) rfl (fun ls hl => ?_)
  exact law_loop l hfl C0 dC dI cI cL cB ad hK hAm hL 513 0 (by omega) (by omega) _ _ _ _ _ _ ls hC hMM h51 hZ (lv_sub hl [0, 4, 3, 2, 1] rfl)
