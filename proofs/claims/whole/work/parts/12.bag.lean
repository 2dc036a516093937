/-! the class Bag -/
set_option maxHeartbeats 4000000 in
set_option maxRecDepth 100000 in
/-- where the KIND is, or would have to be put -/
theorem c_Bag_placeFor (l : Launch) (dC : Nat → ClassId) (dI : Nat → Nat → Nat) (cI cL cB : ClassId) (ad : Nat → Nat) (N0 : Nat) (w : Nat → va_E) (k z : Nat) (P : Nat → Int32) (N A : Nat → Int64) (q : Int32) (x : Int64) (hk : k < 9) (hB : isBag ad cI cL w k z P N A) : Met l y_Bag_placeFor ws_Bag_placeFor ({ frames := 3, cells := 0, slots := 0, locals := 71 } : Room) (va_Pc [.ref (ad (bb k)), .int q, .long x] (sPr (dC, dI) vCl [(cI, .int), (cL, .long), (cB, .object "CoinBag$Bag")] 52 ad N0 w)) (va_Qi (fun r u => u = w ∧ ∃ i, r = nI i ∧ cPl z P N (kv q x) i) (sPr (dC, dI) vCl [(cI, .int), (cL, .long), (cB, .object "CoinBag$Bag")] 52 ad N0) (fun q => N0 ≤ q)) 0 0 (fun q => N0 ≤ q) := by
  refine Met.ofW (cc := b_Bag_placeFor) (maxL := 5) (ret := (some .int)) (by decide) rfl ?_
  intro p e s m args below meth c s₁ B hml hv
  obtain ⟨rfl, hP, hK, hD, hN, hAm⟩ := hv
  have hx := B.exec
  have hb := B.bytes
  have hr := B.returns
  have hts := atoms_spec (ws := ws_Bag_placeFor) B.pre
  have hown : s.vm.findClass "CoinBag$Bag" = some m.cls := findClass_of_methodNamed B.named
  have hlocks := B.notSynchronized
  have hZ : sZ (dC, dI) vCl 52 ad (fun q => N0 ≤ q) s.heap w s.heap [] := ⟨hP, hD, va_S.rf⟩
  have hl := lv_entry ([.ref (ad (bb k)), .int q, .long x]) (n := 5) (Nat.le_of_ble_eq_true rfl)
  rw [lg_entry_eq]
  generalize (lg_sl ([.ref (ad (bb k)), .int q, .long x]) ++ List.replicate (5 - (lg_sl ([.ref (ad (bb k)), .int q, .long x])).length) Slot.unset).toArray = ls at hl ⊢
  have hl : lv_has ls 5 [(0, .ref (ad (bb k))), (1, .int q), (2, .long x)] := hl
  have hz : z ≤ 64 := hB.2.2.2.2
  refine lv_iconst (v := (nI 0)) hx hb d_Bag_placeFor_0 rfl ?_
  refine lv_istore (lv' := [(4, .int (nI 0)), (0, .ref (ad (bb k))), (1, .int q), (2, .long x)]) hx hb d_Bag_placeFor_1 hl (by decide) rfl (fun ls hl => ?_)
  have loop3 : ∀ (fu3 : Nat) (i : Nat) (H : Heap) (locs : List Loc) (ls : Array Slot), (i ≤ z) → (z + 1 ≤ i + fu3) → (∀ j, j < i → kk P N j < kv q x) → sZ (dC, dI) vCl 52 ad (fun q => N0 ≤ q) s.heap w H locs → lv_has ls 5 [(4, .int (nI i)), (0, .ref (ad (bb k))), (1, .int q), (2, .long x)] → W p l e (headSpec ws_Bag_placeFor ({ frames := 3, cells := 0, slots := 0, locals := 71 } : Room)).room s m ([.ref (ad (bb k)), .int q, .long x]).toArray below meth c H locs 0 0 (MQ below (va_Qi (fun r u => u = w ∧ ∃ i, r = nI i ∧ cPl z P N (kv q x) i) (sPr (dC, dI) vCl [(cI, .int), (cL, .long), (cB, .object "CoinBag$Bag")] 52 ad N0) (fun q => N0 ≤ q)) ([.ref (ad (bb k)), .int q, .long x]).toArray s 0 0 (fun q => N0 ≤ q)) (F0 m 3 ls []) := by
    intro fu3
    induction fu3 with
    | zero =>
      intro i H locs ls hi hf hv
      omega
    | succ fu3 ih3 =>
      intro i H locs ls hi hf hv hZ hl
      refine lv_iload hx hb d_Bag_placeFor_3 (lv_at hl 0 rfl) ?_
      refine lv_aload_n hx hb d_Bag_placeFor_5 rfl (lv_at hl 1 rfl) ?_
      refine q_get (C := R_Bag) (T := T_Bag) (N := 4) hx hb hts (fun w h => gm (inT_Bag w h)) hown hK hZ (bb k) (by have := bb_r hk; omega) hB.1 rfl 3 (by decide) (hts _ (gm k_58)) (fun _ h9 => h9) rfl d_Bag_placeFor_6 ?_
      refine lv_icmp_ge (tgt := 43) hx hb d_Bag_placeFor_9 (by decide) (fun h9 => ?_) (fun h9 => ?_)
      · skip
        have h9 : z ≤ i := (nI_leI (a := z) (b := i) (by omega) (by omega)).mp h9
        refine lv_aload_n hx hb d_Bag_placeFor_43 rfl (lv_at hl 1 rfl) ?_
        refine q_get (C := R_Bag) (T := T_Bag) (N := 4) hx hb hts (fun w h => gm (inT_Bag w h)) hown hK hZ (bb k) (by have := bb_r hk; omega) hB.1 rfl 3 (by decide) (hts _ (gm k_58)) (fun _ h9 => h9) rfl d_Bag_placeFor_44 ?_
        exact q_iret hx hb hr hlocks hK hAm hZ hN (⟨rfl, z, rfl, Nat.le_refl z, fun j hj => hv j (by omega), fun h => absurd h (Nat.lt_irrefl z)⟩) d_Bag_placeFor_47
      · skip
        have h9 : i < z := Nat.lt_of_not_le (fun z9 => h9 ((nI_leI (a := z) (b := i) (by omega) (by omega)).mpr z9))
        refine lv_aload_n hx hb d_Bag_placeFor_12 rfl (lv_at hl 1 rfl) ?_
        refine q_get (C := R_Bag) (T := T_Bag) (N := 4) hx hb hts (fun w h => gm (inT_Bag w h)) hown hK hZ (bb k) (by have := bb_r hk; omega) hB.1 rfl 0 (by decide) (hts _ (gm k_49)) (fun _ h9 => h9) rfl d_Bag_placeFor_13 ?_
        refine lv_iload hx hb d_Bag_placeFor_16 (lv_at hl 0 rfl) ?_
        refine q_iald hx hb hK hZ (bb k + 1) 0 (i) (by have := bb_r hk; omega) hB.2.1 rfl rfl (by omega) (by decide) d_Bag_placeFor_18 ?_
        refine lv_aload_n hx hb d_Bag_placeFor_19 rfl (lv_at hl 1 rfl) ?_
        refine q_get (C := R_Bag) (T := T_Bag) (N := 4) hx hb hts (fun w h => gm (inT_Bag w h)) hown hK hZ (bb k) (by have := bb_r hk; omega) hB.1 rfl 1 (by decide) (hts _ (gm k_52)) (fun _ h9 => h9) rfl d_Bag_placeFor_20 ?_
        refine lv_iload hx hb d_Bag_placeFor_23 (lv_at hl 0 rfl) ?_
        refine q_lald hx hb hK hZ (bb k + 2) 1 (i) (by have := bb_r hk; omega) hB.2.2.1 rfl rfl (by omega) (by decide) d_Bag_placeFor_25 ?_
        refine lv_iload_n hx hb d_Bag_placeFor_26 rfl (lv_at hl 2 rfl) ?_
        refine lv_lload_n hx hb d_Bag_placeFor_27 rfl (lv_at hl 3 rfl) ?_
        refine q_callSi (va_runSN (As := [.int (P i), .long (N i), .int q, .long x]) (rest := []) ⟨hx, hb, hml, hown, hts⟩ (c_CB_orderOf l _ _ _ _) ⟨va_cnB 4 hts (gI k_218) rfl rfl rfl (hAm.2.2.2.1) (hts _ (gm k_21)) (by decide +kernel) ⟨Nat.le_of_ble_eq_true rfl, Nat.le_of_ble_eq_true rfl⟩, hts _ (gm k_217), trivial⟩ ⟨fun _ _ _ _ q => q, fun _ _ _ => ⟨rfl, trivial⟩⟩ rfl rfl hl.1 rfl (lv_room (Nat.le_of_ble_eq_true rfl)) d_Bag_placeFor_28 ⟨Nat.zero_le _, Nat.zero_le _⟩) (fun r h_r => ?_)
        refine lv_if_lt (tgt := 37) hx hb d_Bag_placeFor_31 (by decide) (fun h31 => ?_) (fun h31 => ?_)
        · skip
          refine lv_iinc (v := (nI (i + 1))) (lv' := [(4, .int (nI (i + 1))), (0, .ref (ad (bb k))), (1, .int q), (2, .long x)]) hx hb d_Bag_placeFor_37 hl (k := 0) rfl (nI_1 _) (by decide) rfl (fun ls hl => ?_)
          refine lv_goto (tgt := 3) hx hb d_Bag_placeFor_40 (by decide) ?_
          exact ih3 (i + 1) _ _ _ (by omega) (by omega) (lt_s hv (h_r.1.mp h31)) hZ (lv_sub hl [0, 1, 2, 3] rfl)
        · skip
          refine lv_iload hx hb d_Bag_placeFor_34 (lv_at hl 0 rfl) ?_
          exact q_iret hx hb hr hlocks hK hAm hZ hN (⟨rfl, i, rfl, by omega, hv, fun _ => by have h : ¬ kv (P i) (N i) < kv q x := fun y => h31 (h_r.1.mpr y); show kv q x ≤ kv (P i) (N i); omega⟩) d_Bag_placeFor_36
  exact loop3 (z + 1) 0 _ _ _ (Nat.zero_le z) (by omega) (fun j h => absurd h (Nat.not_lt_zero _)) hZ (lv_sub hl [0, 1, 2, 3] rfl)
set_option maxHeartbeats 4000000 in
set_option maxRecDepth 100000 in
theorem c_Bag_holdsAt (l : Launch) (dC : Nat → ClassId) (dI : Nat → Nat → Nat) (cI cL cB : ClassId) (ad : Nat → Nat) (N0 : Nat) (w : Nat → va_E) (k z : Nat) (P : Nat → Int32) (N A : Nat → Int64) (i : Nat) (q : Int32) (x : Int64) (hk : k < 9) (hB : isBag ad cI cL w k z P N A) (hi : i ≤ 64) : Met l y_Bag_holdsAt ws_Bag_holdsAt ({ frames := 0, cells := 0, slots := 0, locals := 0 } : Room) (va_Pc [.ref (ad (bb k)), .int (nI i), .int q, .long x] (sPr (dC, dI) vCl [(cI, .int), (cL, .long), (cB, .object "CoinBag$Bag")] 52 ad N0 w)) (va_Qi (fun r u => u = w ∧ (((i < z ∧ kk P N i = kv q x) ∧ r = 1) ∨ (¬ (i < z ∧ kk P N i = kv q x) ∧ r = 0))) (sPr (dC, dI) vCl [(cI, .int), (cL, .long), (cB, .object "CoinBag$Bag")] 52 ad N0) (fun q => N0 ≤ q)) 0 0 (fun q => N0 ≤ q) := by
  refine Met.ofW (cc := b_Bag_holdsAt) (maxL := 5) (ret := (some .boolean)) (by decide) rfl ?_
  intro p e s m args below meth c s₁ B hml hv
  obtain ⟨rfl, hP, hK, hD, hN, hAm⟩ := hv
  have hx := B.exec
  have hb := B.bytes
  have hr := B.returns
  have hts := atoms_spec (ws := ws_Bag_holdsAt) B.pre
  have hown : s.vm.findClass "CoinBag$Bag" = some m.cls := findClass_of_methodNamed B.named
  have hlocks := B.notSynchronized
  have hZ : sZ (dC, dI) vCl 52 ad (fun q => N0 ≤ q) s.heap w s.heap [] := ⟨hP, hD, va_S.rf⟩
  have hl := lv_entry ([.ref (ad (bb k)), .int (nI i), .int q, .long x]) (n := 5) (Nat.le_of_ble_eq_true rfl)
  rw [lg_entry_eq]
  generalize (lg_sl ([.ref (ad (bb k)), .int (nI i), .int q, .long x]) ++ List.replicate (5 - (lg_sl ([.ref (ad (bb k)), .int (nI i), .int q, .long x])).length) Slot.unset).toArray = ls at hl ⊢
  have hl : lv_has ls 5 [(0, .ref (ad (bb k))), (1, .int (nI i)), (2, .int q), (3, .long x)] := hl
  have hz : z ≤ 64 := hB.2.2.2.2
  refine lv_iload_n hx hb d_Bag_holdsAt_0 rfl (lv_at hl 1 rfl) ?_
  refine lv_aload_n hx hb d_Bag_holdsAt_1 rfl (lv_at hl 0 rfl) ?_
  refine q_get (C := R_Bag) (T := T_Bag) (N := 4) hx hb hts (fun w h => gm (inT_Bag w h)) hown hK hZ (bb k) (by have := bb_r hk; omega) hB.1 rfl 3 (by decide) (hts _ (gm k_58)) (fun _ h9 => h9) rfl d_Bag_holdsAt_2 ?_
  refine lv_icmp_ge (tgt := 33) hx hb d_Bag_holdsAt_5 (by decide) (fun h5 => ?_) (fun h5 => ?_)
  · skip
    have h5 : z ≤ i := (nI_leI (a := z) (b := i) (by omega) (by omega)).mp h5
    refine lv_iconst (v := (nI 0)) hx hb d_Bag_holdsAt_33 rfl ?_
    exact q_zret hx hb hr rfl hlocks hK hAm hZ hN ((by first | exact ⟨rfl, Or.inl ⟨⟨h5, kv_inj.mpr ⟨h15, h26⟩⟩, rfl⟩⟩ | exact ⟨rfl, Or.inr ⟨fun y => h26 (kv_inj.mp y.2).2, rfl⟩⟩ | exact ⟨rfl, Or.inr ⟨fun y => h15 (kv_inj.mp y.2).1, rfl⟩⟩ | exact ⟨rfl, Or.inr ⟨fun y => by omega, rfl⟩⟩)) d_Bag_holdsAt_34
  · skip
    have h5 : i < z := Nat.lt_of_not_le (fun z9 => h5 ((nI_leI (a := z) (b := i) (by omega) (by omega)).mpr z9))
    refine lv_aload_n hx hb d_Bag_holdsAt_8 rfl (lv_at hl 0 rfl) ?_
    refine q_get (C := R_Bag) (T := T_Bag) (N := 4) hx hb hts (fun w h => gm (inT_Bag w h)) hown hK hZ (bb k) (by have := bb_r hk; omega) hB.1 rfl 0 (by decide) (hts _ (gm k_49)) (fun _ h9 => h9) rfl d_Bag_holdsAt_9 ?_
    refine lv_iload_n hx hb d_Bag_holdsAt_12 rfl (lv_at hl 1 rfl) ?_
    refine q_iald hx hb hK hZ (bb k + 1) 0 (i) (by have := bb_r hk; omega) hB.2.1 rfl rfl (by omega) (by decide) d_Bag_holdsAt_13 ?_
    refine lv_iload_n hx hb d_Bag_holdsAt_14 rfl (lv_at hl 2 rfl) ?_
    refine lv_icmp_ne (tgt := 33) hx hb d_Bag_holdsAt_15 (by decide) (fun h15 => ?_) (fun h15 => ?_)
    · skip
      refine lv_iconst (v := (nI 0)) hx hb d_Bag_holdsAt_33 rfl ?_
      exact q_zret hx hb hr rfl hlocks hK hAm hZ hN ((by first | exact ⟨rfl, Or.inl ⟨⟨h5, kv_inj.mpr ⟨h15, h26⟩⟩, rfl⟩⟩ | exact ⟨rfl, Or.inr ⟨fun y => h26 (kv_inj.mp y.2).2, rfl⟩⟩ | exact ⟨rfl, Or.inr ⟨fun y => h15 (kv_inj.mp y.2).1, rfl⟩⟩ | exact ⟨rfl, Or.inr ⟨fun y => by omega, rfl⟩⟩)) d_Bag_holdsAt_34
    · skip
      refine lv_aload_n hx hb d_Bag_holdsAt_18 rfl (lv_at hl 0 rfl) ?_
      refine q_get (C := R_Bag) (T := T_Bag) (N := 4) hx hb hts (fun w h => gm (inT_Bag w h)) hown hK hZ (bb k) (by have := bb_r hk; omega) hB.1 rfl 1 (by decide) (hts _ (gm k_52)) (fun _ h9 => h9) rfl d_Bag_holdsAt_19 ?_
      refine lv_iload_n hx hb d_Bag_holdsAt_22 rfl (lv_at hl 1 rfl) ?_
      refine q_lald hx hb hK hZ (bb k + 2) 1 (i) (by have := bb_r hk; omega) hB.2.2.1 rfl rfl (by omega) (by decide) d_Bag_holdsAt_23 ?_
      refine lv_lload_n hx hb d_Bag_holdsAt_24 rfl (lv_at hl 3 rfl) ?_
      refine W.lcmp hx hb d_Bag_holdsAt_25 ?_
      refine lv_if_ne (tgt := 33) hx hb d_Bag_holdsAt_26 (by decide) (fun h26 => ?_) (fun h26 => ?_)
      · skip
        rw [lg_cmp_eq] at h26
        refine lv_iconst (v := (nI 0)) hx hb d_Bag_holdsAt_33 rfl ?_
        exact q_zret hx hb hr rfl hlocks hK hAm hZ hN ((by first | exact ⟨rfl, Or.inl ⟨⟨h5, kv_inj.mpr ⟨h15, h26⟩⟩, rfl⟩⟩ | exact ⟨rfl, Or.inr ⟨fun y => h26 (kv_inj.mp y.2).2, rfl⟩⟩ | exact ⟨rfl, Or.inr ⟨fun y => h15 (kv_inj.mp y.2).1, rfl⟩⟩ | exact ⟨rfl, Or.inr ⟨fun y => by omega, rfl⟩⟩)) d_Bag_holdsAt_34
      · skip
        rw [lg_cmp_eq] at h26
        refine lv_iconst (v := (nI 1)) hx hb d_Bag_holdsAt_29 rfl ?_
        refine lv_goto (tgt := 34) hx hb d_Bag_holdsAt_30 (by decide) ?_
        exact q_zret hx hb hr rfl hlocks hK hAm hZ hN ((by first | exact ⟨rfl, Or.inl ⟨⟨h5, kv_inj.mpr ⟨h15, h26⟩⟩, rfl⟩⟩ | exact ⟨rfl, Or.inr ⟨fun y => h26 (kv_inj.mp y.2).2, rfl⟩⟩ | exact ⟨rfl, Or.inr ⟨fun y => h15 (kv_inj.mp y.2).1, rfl⟩⟩ | exact ⟨rfl, Or.inr ⟨fun y => by omega, rfl⟩⟩)) d_Bag_holdsAt_34
set_option maxHeartbeats 4000000 in
set_option maxRecDepth 100000 in
theorem c_Bag_amountOf (l : Launch) (dC : Nat → ClassId) (dI : Nat → Nat → Nat) (cI cL cB : ClassId) (ad : Nat → Nat) (N0 : Nat) (w : Nat → va_E) (k z : Nat) (P : Nat → Int32) (N A : Nat → Int64) (q : Int32) (x : Int64) (F : Int → Int64) (hk : k < 9) (hB : isBag ad cI cL w k z P N A) (hC : cRep z P N A F) : Met l y_Bag_amountOf ws_Bag_amountOf ({ frames := 4, cells := 0, slots := 0, locals := 95 } : Room) (va_Pc [.ref (ad (bb k)), .int q, .long x] (sPr (dC, dI) vCl [(cI, .int), (cL, .long), (cB, .object "CoinBag$Bag")] 52 ad N0 w)) (va_Ql (fun r u => u = w ∧ r = F (kv q x)) (sPr (dC, dI) vCl [(cI, .int), (cL, .long), (cB, .object "CoinBag$Bag")] 52 ad N0) (fun q => N0 ≤ q)) 0 0 (fun q => N0 ≤ q) := by
  refine Met.ofW (cc := b_Bag_amountOf) (maxL := 5) (ret := (some .long)) (by decide) rfl ?_
  intro p e s m args below meth c s₁ B hml hv
  obtain ⟨rfl, hP, hK, hD, hN, hAm⟩ := hv
  have hx := B.exec
  have hb := B.bytes
  have hr := B.returns
  have hts := atoms_spec (ws := ws_Bag_amountOf) B.pre
  have hown : s.vm.findClass "CoinBag$Bag" = some m.cls := findClass_of_methodNamed B.named
  have hlocks := B.notSynchronized
  have hZ : sZ (dC, dI) vCl 52 ad (fun q => N0 ≤ q) s.heap w s.heap [] := ⟨hP, hD, va_S.rf⟩
  have hl := lv_entry ([.ref (ad (bb k)), .int q, .long x]) (n := 5) (Nat.le_of_ble_eq_true rfl)
  rw [lg_entry_eq]
  generalize (lg_sl ([.ref (ad (bb k)), .int q, .long x]) ++ List.replicate (5 - (lg_sl ([.ref (ad (bb k)), .int q, .long x])).length) Slot.unset).toArray = ls at hl ⊢
  have hl : lv_has ls 5 [(0, .ref (ad (bb k))), (1, .int q), (2, .long x)] := hl
  have hz : z ≤ 64 := hB.2.2.2.2
  refine lv_aload_n hx hb d_Bag_amountOf_0 rfl (lv_at hl 0 rfl) ?_
  refine lv_iload_n hx hb d_Bag_amountOf_1 rfl (lv_at hl 1 rfl) ?_
  refine lv_lload_n hx hb d_Bag_amountOf_2 rfl (lv_at hl 2 rfl) ?_
  refine q_calli (va_runV (As := [.int q, .long x]) (rest := []) ⟨hx, hb, hml, hown, hts⟩ (c_Bag_placeFor l dC dI cI cL cB ad N0 w k z P N A q x hk hB) (cwV 2 hts (gI_V k_215 k_212 k_214 k_1 k_22) rfl rfl rfl (by decide +kernel) ⟨Nat.le_of_ble_eq_true rfl, Nat.le_of_ble_eq_true rfl⟩) (q_preV hK hAm hZ hN [.int q, .long x] (bb k) 0 (by have := bb_r hk; omega) hB.1 rfl) rfl rfl hl.1 rfl (lv_room (Nat.le_of_ble_eq_true rfl)) d_Bag_amountOf_3 ⟨Nat.zero_le _, Nat.zero_le _⟩) hZ (fun r u_r H locs h_r hZ => ?_)
  obtain ⟨e_r, i, rfl, hp⟩ := h_r
  rw [e_r] at hZ
  have hi : i ≤ z := hp.1
  refine lv_istore (lv' := [(4, .int (nI i)), (0, .ref (ad (bb k))), (1, .int q), (2, .long x)]) hx hb d_Bag_amountOf_6 hl (by decide) rfl (fun ls hl => ?_)
  refine lv_aload_n hx hb d_Bag_amountOf_8 rfl (lv_at hl 1 rfl) ?_
  refine lv_iload hx hb d_Bag_amountOf_9 (lv_at hl 0 rfl) ?_
  refine lv_iload_n hx hb d_Bag_amountOf_11 rfl (lv_at hl 2 rfl) ?_
  refine lv_lload_n hx hb d_Bag_amountOf_12 rfl (lv_at hl 3 rfl) ?_
  refine q_calli (va_runV (As := [.int (nI i), .int q, .long x]) (rest := []) ⟨hx, hb, hml, hown, hts⟩ (c_Bag_holdsAt l dC dI cI cL cB ad N0 w k z P N A i q x hk hB (by omega)) (cwV 3 hts (gI_V k_232 k_229 k_231 k_2 k_22) rfl rfl rfl (by decide +kernel) ⟨Nat.le_of_ble_eq_true rfl, Nat.le_of_ble_eq_true rfl⟩) (q_preV hK hAm hZ hN [.int (nI i), .int q, .long x] (bb k) 0 (by have := bb_r hk; omega) hB.1 rfl) rfl rfl hl.1 rfl (lv_room (Nat.le_of_ble_eq_true rfl)) d_Bag_amountOf_13 ⟨Nat.zero_le _, Nat.zero_le _⟩) hZ (fun t u_t H locs h_t hZ => ?_)
  obtain ⟨e_t, ht⟩ := h_t
  rw [e_t] at hZ
  refine lv_if_eq (tgt := 29) hx hb d_Bag_amountOf_16 (by decide) (fun h16 => ?_) (fun h16 => ?_)
  · skip
    have ht0 : ¬ (i < z ∧ kk P N i = kv q x) := ht.elim (fun y => absurd (y.2.symm.trans h16) (by decide)) (fun y => y.1)
    refine lv_lconst (v := 0) hx hb d_Bag_amountOf_29 rfl ?_
    exact q_lret hx hb hr hlocks hK hAm hZ hN ((by first | exact ⟨rfl, (look_y hC ht0.1 ht0.2).symm⟩ | exact ⟨rfl, (look_n hC hp ht0).symm⟩)) d_Bag_amountOf_30
  · skip
    have ht0 : i < z ∧ kk P N i = kv q x := ht.elim (fun y => y.1) (fun y => absurd y.2 h16)
    have hiz := ht0.1
    refine lv_aload_n hx hb d_Bag_amountOf_19 rfl (lv_at hl 1 rfl) ?_
    refine q_get (C := R_Bag) (T := T_Bag) (N := 4) hx hb hts (fun w h => gm (inT_Bag w h)) hown hK hZ (bb k) (by have := bb_r hk; omega) hB.1 rfl 2 (by decide) (hts _ (gm k_55)) (fun _ h9 => h9) rfl d_Bag_amountOf_20 ?_
    refine lv_iload hx hb d_Bag_amountOf_23 (lv_at hl 0 rfl) ?_
    refine q_lald hx hb hK hZ (bb k + 3) 1 (i) (by have := bb_r hk; omega) hB.2.2.2.1 rfl rfl (by omega) (by decide) d_Bag_amountOf_25 ?_
    refine lv_goto (tgt := 30) hx hb d_Bag_amountOf_26 (by decide) ?_
    exact q_lret hx hb hr hlocks hK hAm hZ hN ((by first | exact ⟨rfl, (look_y hC ht0.1 ht0.2).symm⟩ | exact ⟨rfl, (look_n hC hp ht0).symm⟩)) d_Bag_amountOf_30
set_option maxHeartbeats 4000000 in
set_option maxRecDepth 100000 in
theorem c_Bag_empty (l : Launch) (dC : Nat → ClassId) (dI : Nat → Nat → Nat) (cI cL cB : ClassId) (ad : Nat → Nat) (N0 : Nat) (w : Nat → va_E) (k z : Nat) (P : Nat → Int32) (N A : Nat → Int64)  (hk : k < 9) (hB : isBag ad cI cL w k z P N A) : Met l y_Bag_empty ws_Bag_empty ({ frames := 0, cells := 0, slots := 0, locals := 0 } : Room) (va_Pc [.ref (ad (bb k))] (sPr (dC, dI) vCl [(cI, .int), (cL, .long), (cB, .object "CoinBag$Bag")] 52 ad N0 w)) (va_Qv (fun u => isBag ad cI cL u k 0 P N A ∧ fr w u (bb k) (bb k + 3)) (sPr (dC, dI) vCl [(cI, .int), (cL, .long), (cB, .object "CoinBag$Bag")] 52 ad N0) (fun q => N0 ≤ q)) 0 0 (fun q => N0 ≤ q) := by
  refine Met.ofW (cc := b_Bag_empty) (maxL := 1) (ret := none) (by decide) rfl ?_
  intro p e s m args below meth c s₁ B hml hv
  obtain ⟨rfl, hP, hK, hD, hN, hAm⟩ := hv
  have hx := B.exec
  have hb := B.bytes
  have hr := B.returns
  have hts := atoms_spec (ws := ws_Bag_empty) B.pre
  have hown : s.vm.findClass "CoinBag$Bag" = some m.cls := findClass_of_methodNamed B.named
  have hlocks := B.notSynchronized
  have hZ : sZ (dC, dI) vCl 52 ad (fun q => N0 ≤ q) s.heap w s.heap [] := ⟨hP, hD, va_S.rf⟩
  have hl := lv_entry ([.ref (ad (bb k))]) (n := 1) (Nat.le_of_ble_eq_true rfl)
  rw [lg_entry_eq]
  generalize (lg_sl ([.ref (ad (bb k))]) ++ List.replicate (1 - (lg_sl ([.ref (ad (bb k))])).length) Slot.unset).toArray = ls at hl ⊢
  have hl : lv_has ls 1 [(0, .ref (ad (bb k)))] := hl
  have hz : z ≤ 64 := hB.2.2.2.2
  have hfr : fr w w (bb k) (bb k + 3) := fr_rf
  refine lv_aload_n hx hb d_Bag_empty_0 rfl (lv_at hl 0 rfl) ?_
  refine lv_iconst (v := (nI 0)) hx hb d_Bag_empty_1 rfl ?_
  refine q_put (C := R_Bag) (T := T_Bag) (N := 4) (ty := .int) (v := .int (nI 0)) hx hb hts (fun w h => gm (inT_Bag w h)) ty_Bag tyo_Bag nm_Bag hown hK hZ (bb k) (by have := bb_r hk; omega) hB.1 rfl 3 (by decide) (hts _ (gm k_58)) (fun _ h9 => h9) rfl (by decide +kernel) (rfl) (rfl) (Nat.le_of_ble_eq_true rfl) d_Bag_empty_2 (fun H locs hZ => ?_)
  have hB := hB.upC (c' := 0) (by omega)
  have hZ : sZ (dC, dI) vCl 52 ad (fun q => N0 ≤ q) s.heap (va_up w (bb k) (.inr (0, [.ref (ad (bb k + 1)), .ref (ad (bb k + 2)), .ref (ad (bb k + 3)), .int (nI 0)]))) H locs := hZ
  have hfr := fr_up (x := bb k) (e := .inr (0, [.ref (ad (bb k + 1)), .ref (ad (bb k + 2)), .ref (ad (bb k + 3)), .int (nI 0)])) hfr (by omega) (by omega)
  generalize va_up w (bb k) (.inr (0, [.ref (ad (bb k + 1)), .ref (ad (bb k + 2)), .ref (ad (bb k + 3)), .int (nI 0)])) = w1 at hZ hB hfr
  exact q_vret hx hb hr hlocks hK hAm hZ hN (⟨hB, hfr⟩) d_Bag_empty_5
set_option maxHeartbeats 4000000 in
set_option maxRecDepth 100000 in
theorem c_Bag_append (l : Launch) (dC : Nat → ClassId) (dI : Nat → Nat → Nat) (cI cL cB : ClassId) (ad : Nat → Nat) (N0 : Nat) (w : Nat → va_E) (k z : Nat) (P : Nat → Int32) (N A : Nat → Int64) (q : Int32) (x : Int64) (v : Int64) (hk : k < 9) (hB : isBag ad cI cL w k z P N A) : Met l y_Bag_append ws_Bag_append ({ frames := 0, cells := 0, slots := 0, locals := 0 } : Room) (va_Pc [.ref (ad (bb k)), .int q, .long x, .long v] (sPr (dC, dI) vCl [(cI, .int), (cL, .long), (cB, .object "CoinBag$Bag")] 52 ad N0 w)) (va_Qi (fun r u => (v = 0 ∧ r = 1 ∧ u = w) ∨ (¬ v = 0 ∧ 64 ≤ z ∧ r = 0 ∧ u = w) ∨ (¬ v = 0 ∧ z < 64 ∧ r = 1 ∧ isBag ad cI cL u k (z + 1) (upd P z q) (vp_updL N z x) (vp_updL A z v) ∧ fr w u (bb k) (bb k + 3))) (sPr (dC, dI) vCl [(cI, .int), (cL, .long), (cB, .object "CoinBag$Bag")] 52 ad N0) (fun q => N0 ≤ q)) 0 0 (fun q => N0 ≤ q) := by
  refine Met.ofW (cc := b_Bag_append) (maxL := 6) (ret := (some .boolean)) (by decide) rfl ?_
  intro p e s m args below meth c s₁ B hml hv
  obtain ⟨rfl, hP, hK, hD, hN, hAm⟩ := hv
  have hx := B.exec
  have hb := B.bytes
  have hr := B.returns
  have hts := atoms_spec (ws := ws_Bag_append) B.pre
  have hown : s.vm.findClass "CoinBag$Bag" = some m.cls := findClass_of_methodNamed B.named
  have hlocks := B.notSynchronized
  have hZ : sZ (dC, dI) vCl 52 ad (fun q => N0 ≤ q) s.heap w s.heap [] := ⟨hP, hD, va_S.rf⟩
  have hl := lv_entry ([.ref (ad (bb k)), .int q, .long x, .long v]) (n := 6) (Nat.le_of_ble_eq_true rfl)
  rw [lg_entry_eq]
  generalize (lg_sl ([.ref (ad (bb k)), .int q, .long x, .long v]) ++ List.replicate (6 - (lg_sl ([.ref (ad (bb k)), .int q, .long x, .long v])).length) Slot.unset).toArray = ls at hl ⊢
  have hl : lv_has ls 6 [(0, .ref (ad (bb k))), (1, .int q), (2, .long x), (4, .long v)] := hl
  have hz : z ≤ 64 := hB.2.2.2.2
  have hfr : fr w w (bb k) (bb k + 3) := fr_rf
  refine lv_lload hx hb d_Bag_append_0 (lv_at hl 3 rfl) ?_
  refine lv_lconst (v := 0) hx hb d_Bag_append_2 rfl ?_
  refine W.lcmp hx hb d_Bag_append_3 ?_
  refine lv_if_ne (tgt := 9) hx hb d_Bag_append_4 (by decide) (fun h4 => ?_) (fun h4 => ?_)
  · skip
    rw [lg_cmp_eq] at h4
    refine lv_aload_n hx hb d_Bag_append_9 rfl (lv_at hl 0 rfl) ?_
    refine q_get (C := R_Bag) (T := T_Bag) (N := 4) hx hb hts (fun w h => gm (inT_Bag w h)) hown hK hZ (bb k) (by have := bb_r hk; omega) hB.1 rfl 3 (by decide) (hts _ (gm k_58)) (fun _ h9 => h9) rfl d_Bag_append_10 ?_
    refine lv_bipush (v := (nI 64)) hx hb d_Bag_append_13 rfl ?_
    refine lv_icmp_lt (tgt := 20) hx hb d_Bag_append_15 (by decide) (fun h15 => ?_) (fun h15 => ?_)
    · skip
      have h15 : z < 64 := (nI_ltI (a := z) (b := 64) (by omega) (by omega)).mp h15
      refine lv_aload_n hx hb d_Bag_append_20 rfl (lv_at hl 0 rfl) ?_
      refine q_get (C := R_Bag) (T := T_Bag) (N := 4) hx hb hts (fun w h => gm (inT_Bag w h)) hown hK hZ (bb k) (by have := bb_r hk; omega) hB.1 rfl 0 (by decide) (hts _ (gm k_49)) (fun _ h9 => h9) rfl d_Bag_append_21 ?_
      refine lv_aload_n hx hb d_Bag_append_24 rfl (lv_at hl 0 rfl) ?_
      refine q_get (C := R_Bag) (T := T_Bag) (N := 4) hx hb hts (fun w h => gm (inT_Bag w h)) hown hK hZ (bb k) (by have := bb_r hk; omega) hB.1 rfl 3 (by decide) (hts _ (gm k_58)) (fun _ h9 => h9) rfl d_Bag_append_25 ?_
      refine lv_iload_n hx hb d_Bag_append_28 rfl (lv_at hl 1 rfl) ?_
      refine q_iast hx hb hK hZ (bb k + 1) 0 (z) (by have := bb_r hk; omega) hB.2.1 rfl rfl (by omega) (by decide) d_Bag_append_29 (fun H locs hZ => ?_)
      have hB := hB.upP ((upd P z q))
      have hZ : sZ (dC, dI) vCl 52 ad (fun q => N0 ≤ q) s.heap (va_up w (bb k + 1) (.inl (cI, 64, .inl (upd P z q)))) H locs := hZ
      have hfr := fr_up (x := bb k + 1) (e := .inl (cI, 64, .inl (upd P z q))) hfr (by omega) (by omega)
      generalize va_up w (bb k + 1) (.inl (cI, 64, .inl (upd P z q))) = w2 at hZ hB hfr
      refine lv_aload_n hx hb d_Bag_append_30 rfl (lv_at hl 0 rfl) ?_
      refine q_get (C := R_Bag) (T := T_Bag) (N := 4) hx hb hts (fun w h => gm (inT_Bag w h)) hown hK hZ (bb k) (by have := bb_r hk; omega) hB.1 rfl 1 (by decide) (hts _ (gm k_52)) (fun _ h9 => h9) rfl d_Bag_append_31 ?_
      refine lv_aload_n hx hb d_Bag_append_34 rfl (lv_at hl 0 rfl) ?_
      refine q_get (C := R_Bag) (T := T_Bag) (N := 4) hx hb hts (fun w h => gm (inT_Bag w h)) hown hK hZ (bb k) (by have := bb_r hk; omega) hB.1 rfl 3 (by decide) (hts _ (gm k_58)) (fun _ h9 => h9) rfl d_Bag_append_35 ?_
      refine lv_lload_n hx hb d_Bag_append_38 rfl (lv_at hl 2 rfl) ?_
      refine q_last hx hb hK hZ (bb k + 2) 1 (z) (by have := bb_r hk; omega) hB.2.2.1 rfl rfl (by omega) (by decide) d_Bag_append_39 (fun H locs hZ => ?_)
      have hB := hB.upN ((vp_updL N z x))
      have hZ : sZ (dC, dI) vCl 52 ad (fun q => N0 ≤ q) s.heap (va_up w2 (bb k + 2) (.inl (cL, 64, .inr (.inl (vp_updL N z x))))) H locs := hZ
      have hfr := fr_up (x := bb k + 2) (e := .inl (cL, 64, .inr (.inl (vp_updL N z x)))) hfr (by omega) (by omega)
      generalize va_up w2 (bb k + 2) (.inl (cL, 64, .inr (.inl (vp_updL N z x)))) = w3 at hZ hB hfr
      refine lv_aload_n hx hb d_Bag_append_40 rfl (lv_at hl 0 rfl) ?_
      refine q_get (C := R_Bag) (T := T_Bag) (N := 4) hx hb hts (fun w h => gm (inT_Bag w h)) hown hK hZ (bb k) (by have := bb_r hk; omega) hB.1 rfl 2 (by decide) (hts _ (gm k_55)) (fun _ h9 => h9) rfl d_Bag_append_41 ?_
      refine lv_aload_n hx hb d_Bag_append_44 rfl (lv_at hl 0 rfl) ?_
      refine q_get (C := R_Bag) (T := T_Bag) (N := 4) hx hb hts (fun w h => gm (inT_Bag w h)) hown hK hZ (bb k) (by have := bb_r hk; omega) hB.1 rfl 3 (by decide) (hts _ (gm k_58)) (fun _ h9 => h9) rfl d_Bag_append_45 ?_
      refine lv_lload hx hb d_Bag_append_48 (lv_at hl 3 rfl) ?_
      refine q_last hx hb hK hZ (bb k + 3) 1 (z) (by have := bb_r hk; omega) hB.2.2.2.1 rfl rfl (by omega) (by decide) d_Bag_append_50 (fun H locs hZ => ?_)
      have hB := hB.upA ((vp_updL A z v))
      have hZ : sZ (dC, dI) vCl 52 ad (fun q => N0 ≤ q) s.heap (va_up w3 (bb k + 3) (.inl (cL, 64, .inr (.inl (vp_updL A z v))))) H locs := hZ
      have hfr := fr_up (x := bb k + 3) (e := .inl (cL, 64, .inr (.inl (vp_updL A z v)))) hfr (by omega) (by omega)
      generalize va_up w3 (bb k + 3) (.inl (cL, 64, .inr (.inl (vp_updL A z v)))) = w4 at hZ hB hfr
      refine lv_aload_n hx hb d_Bag_append_51 rfl (lv_at hl 0 rfl) ?_
      refine lv_dup hx hb d_Bag_append_52 rfl ?_
      refine q_get (C := R_Bag) (T := T_Bag) (N := 4) hx hb hts (fun w h => gm (inT_Bag w h)) hown hK hZ (bb k) (by have := bb_r hk; omega) hB.1 rfl 3 (by decide) (hts _ (gm k_58)) (fun _ h9 => h9) rfl d_Bag_append_53 ?_
      refine lv_iconst (v := (nI 1)) hx hb d_Bag_append_56 rfl ?_
      refine lv_iadd hx hb d_Bag_append_57 ?_
      refine q_topi (y := nI (z + 1)) (nI_add _ _) ?_
      refine q_put (C := R_Bag) (T := T_Bag) (N := 4) (ty := .int) (v := .int (nI (z + 1))) hx hb hts (fun w h => gm (inT_Bag w h)) ty_Bag tyo_Bag nm_Bag hown hK hZ (bb k) (by have := bb_r hk; omega) hB.1 rfl 3 (by decide) (hts _ (gm k_58)) (fun _ h9 => h9) rfl (by decide +kernel) (rfl) (rfl) (Nat.le_of_ble_eq_true rfl) d_Bag_append_58 (fun H locs hZ => ?_)
      have hB := hB.upC (c' := (z + 1)) (by omega)
      have hZ : sZ (dC, dI) vCl 52 ad (fun q => N0 ≤ q) s.heap (va_up w4 (bb k) (.inr (0, [.ref (ad (bb k + 1)), .ref (ad (bb k + 2)), .ref (ad (bb k + 3)), .int (nI (z + 1))]))) H locs := hZ
      have hfr := fr_up (x := bb k) (e := .inr (0, [.ref (ad (bb k + 1)), .ref (ad (bb k + 2)), .ref (ad (bb k + 3)), .int (nI (z + 1))])) hfr (by omega) (by omega)
      generalize va_up w4 (bb k) (.inr (0, [.ref (ad (bb k + 1)), .ref (ad (bb k + 2)), .ref (ad (bb k + 3)), .int (nI (z + 1))])) = w5 at hZ hB hfr
      refine lv_iconst (v := (nI 1)) hx hb d_Bag_append_61 rfl ?_
      exact q_zret hx hb hr rfl hlocks hK hAm hZ hN (Or.inr (Or.inr ⟨h4, h15, rfl, hB, hfr⟩)) d_Bag_append_62
    · skip
      have h15 : 64 ≤ z := Nat.le_of_not_lt (fun z9 => h15 ((nI_ltI (a := z) (b := 64) (by omega) (by omega)).mpr z9))
      refine lv_iconst (v := (nI 0)) hx hb d_Bag_append_18 rfl ?_
      exact q_zret hx hb hr rfl hlocks hK hAm hZ hN (Or.inr (Or.inl ⟨h4, h15, rfl, rfl⟩)) d_Bag_append_19
  · skip
    rw [lg_cmp_eq] at h4
    refine lv_iconst (v := (nI 1)) hx hb d_Bag_append_7 rfl ?_
    exact q_zret hx hb hr rfl hlocks hK hAm hZ hN (Or.inl ⟨h4, rfl, rfl⟩) d_Bag_append_8
set_option maxHeartbeats 4000000 in
set_option maxRecDepth 100000 in
theorem c_Bag_removeAt (l : Launch) (dC : Nat → ClassId) (dI : Nat → Nat → Nat) (cI cL cB : ClassId) (ad : Nat → Nat) (N0 : Nat) (w : Nat → va_E) (k z : Nat) (P : Nat → Int32) (N A : Nat → Int64) (i : Nat) (hk : k < 9) (hB : isBag ad cI cL w k z P N A) (hi : i < z) : Met l y_Bag_removeAt ws_Bag_removeAt ({ frames := 1, cells := 0, slots := 0, locals := 64 } : Room) (va_Pc [.ref (ad (bb k)), .int (nI i)] (sPr (dC, dI) vCl [(cI, .int), (cL, .long), (cB, .object "CoinBag$Bag")] 52 ad N0 w)) (va_Qv (fun u => isBag ad cI cL u k (z - 1) (va_cpy P P (i + 1) i (z - i - 1)) (va_cpy N N (i + 1) i (z - i - 1)) (va_cpy A A (i + 1) i (z - i - 1)) ∧ fr w u (bb k) (bb k + 3)) (sPr (dC, dI) vCl [(cI, .int), (cL, .long), (cB, .object "CoinBag$Bag")] 52 ad N0) (fun q => N0 ≤ q)) 0 0 (fun q => N0 ≤ q) := by
  refine Met.ofW (cc := b_Bag_removeAt) (maxL := 3) (ret := none) (by decide) rfl ?_
  intro p e s m args below meth c s₁ B hml hv
  obtain ⟨rfl, hP, hK, hD, hN, hAm⟩ := hv
  have hx := B.exec
  have hb := B.bytes
  have hr := B.returns
  have hts := atoms_spec (ws := ws_Bag_removeAt) B.pre
  have hown : s.vm.findClass "CoinBag$Bag" = some m.cls := findClass_of_methodNamed B.named
  have hlocks := B.notSynchronized
  have hZ : sZ (dC, dI) vCl 52 ad (fun q => N0 ≤ q) s.heap w s.heap [] := ⟨hP, hD, va_S.rf⟩
  have hl := lv_entry ([.ref (ad (bb k)), .int (nI i)]) (n := 3) (Nat.le_of_ble_eq_true rfl)
  rw [lg_entry_eq]
  generalize (lg_sl ([.ref (ad (bb k)), .int (nI i)]) ++ List.replicate (3 - (lg_sl ([.ref (ad (bb k)), .int (nI i)])).length) Slot.unset).toArray = ls at hl ⊢
  have hl : lv_has ls 3 [(0, .ref (ad (bb k))), (1, .int (nI i))] := hl
  have hz : z ≤ 64 := hB.2.2.2.2
  have hfr : fr w w (bb k) (bb k + 3) := fr_rf
  refine lv_aload_n hx hb d_Bag_removeAt_0 rfl (lv_at hl 0 rfl) ?_
  refine q_get (C := R_Bag) (T := T_Bag) (N := 4) hx hb hts (fun w h => gm (inT_Bag w h)) hown hK hZ (bb k) (by have := bb_r hk; omega) hB.1 rfl 3 (by decide) (hts _ (gm k_58)) (fun _ h9 => h9) rfl d_Bag_removeAt_1 ?_
  refine lv_iload_n hx hb d_Bag_removeAt_4 rfl (lv_at hl 1 rfl) ?_
  refine lv_isub hx hb d_Bag_removeAt_5 ?_
  refine q_topi (y := nI (z - i)) (pk_sub (by omega)) ?_
  refine lv_iconst (v := (nI 1)) hx hb d_Bag_removeAt_6 rfl ?_
  refine lv_isub hx hb d_Bag_removeAt_7 ?_
  refine q_topi (y := nI ((z - i) - 1)) (pk_sub (by omega)) ?_
  refine lv_istore_n (lv' := [(2, .int (nI ((z - i) - 1))), (0, .ref (ad (bb k))), (1, .int (nI i))]) hx hb d_Bag_removeAt_8 rfl hl (by decide) rfl (fun ls hl => ?_)
  refine lv_aload_n hx hb d_Bag_removeAt_9 rfl (lv_at hl 1 rfl) ?_
  refine q_get (C := R_Bag) (T := T_Bag) (N := 4) hx hb hts (fun w h => gm (inT_Bag w h)) hown hK hZ (bb k) (by have := bb_r hk; omega) hB.1 rfl 0 (by decide) (hts _ (gm k_49)) (fun _ h9 => h9) rfl d_Bag_removeAt_10 ?_
  refine lv_iload_n hx hb d_Bag_removeAt_13 rfl (lv_at hl 2 rfl) ?_
  refine lv_iconst (v := (nI 1)) hx hb d_Bag_removeAt_14 rfl ?_
  refine lv_iadd hx hb d_Bag_removeAt_15 ?_
  refine q_topi (y := nI (i + 1)) (nI_add _ _) ?_
  refine lv_aload_n hx hb d_Bag_removeAt_16 rfl (lv_at hl 1 rfl) ?_
  refine q_get (C := R_Bag) (T := T_Bag) (N := 4) hx hb hts (fun w h => gm (inT_Bag w h)) hown hK hZ (bb k) (by have := bb_r hk; omega) hB.1 rfl 0 (by decide) (hts _ (gm k_49)) (fun _ h9 => h9) rfl d_Bag_removeAt_17 ?_
  refine lv_iload_n hx hb d_Bag_removeAt_20 rfl (lv_at hl 2 rfl) ?_
  refine lv_iload_n hx hb d_Bag_removeAt_21 rfl (lv_at hl 0 rfl) ?_
  refine q_cpi hx hb (hml.trans hl.1.symm) hown (hts _ (gm k_237)) (hts _ (gm k_239)) (hts _ (gm k_238)) (hts _ (gm k_32)) hK hZ (bb k + 1) 0 ((i + 1)) (i) (((z - i) - 1)) (by have := bb_r hk; omega) hB.2.1 rfl (by omega) (by omega) (by decide) (Nat.le_of_ble_eq_true rfl) (Nat.le_of_ble_eq_true rfl) d_Bag_removeAt_22 (fun H locs hZ => ?_)
  have hB := hB.upP ((va_cpy P P (i + 1) i ((z - i) - 1)))
  have hZ : sZ (dC, dI) vCl 52 ad (fun q => N0 ≤ q) s.heap (va_up w (bb k + 1) (.inl (cI, 64, .inl (va_cpy P P (i + 1) i ((z - i) - 1))))) H locs := hZ
  have hfr := fr_up (x := bb k + 1) (e := .inl (cI, 64, .inl (va_cpy P P (i + 1) i ((z - i) - 1)))) hfr (by omega) (by omega)
  generalize va_up w (bb k + 1) (.inl (cI, 64, .inl (va_cpy P P (i + 1) i ((z - i) - 1)))) = w6 at hZ hB hfr
  refine lv_aload_n hx hb d_Bag_removeAt_25 rfl (lv_at hl 1 rfl) ?_
  refine q_get (C := R_Bag) (T := T_Bag) (N := 4) hx hb hts (fun w h => gm (inT_Bag w h)) hown hK hZ (bb k) (by have := bb_r hk; omega) hB.1 rfl 1 (by decide) (hts _ (gm k_52)) (fun _ h9 => h9) rfl d_Bag_removeAt_26 ?_
  refine lv_iload_n hx hb d_Bag_removeAt_29 rfl (lv_at hl 2 rfl) ?_
  refine lv_iconst (v := (nI 1)) hx hb d_Bag_removeAt_30 rfl ?_
  refine lv_iadd hx hb d_Bag_removeAt_31 ?_
  refine q_topi (y := nI (i + 1)) (nI_add _ _) ?_
  refine lv_aload_n hx hb d_Bag_removeAt_32 rfl (lv_at hl 1 rfl) ?_
  refine q_get (C := R_Bag) (T := T_Bag) (N := 4) hx hb hts (fun w h => gm (inT_Bag w h)) hown hK hZ (bb k) (by have := bb_r hk; omega) hB.1 rfl 1 (by decide) (hts _ (gm k_52)) (fun _ h9 => h9) rfl d_Bag_removeAt_33 ?_
  refine lv_iload_n hx hb d_Bag_removeAt_36 rfl (lv_at hl 2 rfl) ?_
  refine lv_iload_n hx hb d_Bag_removeAt_37 rfl (lv_at hl 0 rfl) ?_
  refine q_cpl hx hb (hml.trans hl.1.symm) hown (hts _ (gm k_237)) (hts _ (gm k_239)) (hts _ (gm k_238)) (hts _ (gm k_32)) hK hZ (bb k + 2) 1 ((i + 1)) (i) (((z - i) - 1)) (by have := bb_r hk; omega) hB.2.2.1 rfl (by omega) (by omega) (by decide) (Nat.le_of_ble_eq_true rfl) (Nat.le_of_ble_eq_true rfl) d_Bag_removeAt_38 (fun H locs hZ => ?_)
  have hB := hB.upN ((va_cpy N N (i + 1) i ((z - i) - 1)))
  have hZ : sZ (dC, dI) vCl 52 ad (fun q => N0 ≤ q) s.heap (va_up w6 (bb k + 2) (.inl (cL, 64, .inr (.inl (va_cpy N N (i + 1) i ((z - i) - 1)))))) H locs := hZ
  have hfr := fr_up (x := bb k + 2) (e := .inl (cL, 64, .inr (.inl (va_cpy N N (i + 1) i ((z - i) - 1))))) hfr (by omega) (by omega)
  generalize va_up w6 (bb k + 2) (.inl (cL, 64, .inr (.inl (va_cpy N N (i + 1) i ((z - i) - 1))))) = w7 at hZ hB hfr
  refine lv_aload_n hx hb d_Bag_removeAt_41 rfl (lv_at hl 1 rfl) ?_
  refine q_get (C := R_Bag) (T := T_Bag) (N := 4) hx hb hts (fun w h => gm (inT_Bag w h)) hown hK hZ (bb k) (by have := bb_r hk; omega) hB.1 rfl 2 (by decide) (hts _ (gm k_55)) (fun _ h9 => h9) rfl d_Bag_removeAt_42 ?_
  refine lv_iload_n hx hb d_Bag_removeAt_45 rfl (lv_at hl 2 rfl) ?_
  refine lv_iconst (v := (nI 1)) hx hb d_Bag_removeAt_46 rfl ?_
  refine lv_iadd hx hb d_Bag_removeAt_47 ?_
  refine q_topi (y := nI (i + 1)) (nI_add _ _) ?_
  refine lv_aload_n hx hb d_Bag_removeAt_48 rfl (lv_at hl 1 rfl) ?_
  refine q_get (C := R_Bag) (T := T_Bag) (N := 4) hx hb hts (fun w h => gm (inT_Bag w h)) hown hK hZ (bb k) (by have := bb_r hk; omega) hB.1 rfl 2 (by decide) (hts _ (gm k_55)) (fun _ h9 => h9) rfl d_Bag_removeAt_49 ?_
  refine lv_iload_n hx hb d_Bag_removeAt_52 rfl (lv_at hl 2 rfl) ?_
  refine lv_iload_n hx hb d_Bag_removeAt_53 rfl (lv_at hl 0 rfl) ?_
  refine q_cpl hx hb (hml.trans hl.1.symm) hown (hts _ (gm k_237)) (hts _ (gm k_239)) (hts _ (gm k_238)) (hts _ (gm k_32)) hK hZ (bb k + 3) 1 ((i + 1)) (i) (((z - i) - 1)) (by have := bb_r hk; omega) hB.2.2.2.1 rfl (by omega) (by omega) (by decide) (Nat.le_of_ble_eq_true rfl) (Nat.le_of_ble_eq_true rfl) d_Bag_removeAt_54 (fun H locs hZ => ?_)
  have hB := hB.upA ((va_cpy A A (i + 1) i ((z - i) - 1)))
  have hZ : sZ (dC, dI) vCl 52 ad (fun q => N0 ≤ q) s.heap (va_up w7 (bb k + 3) (.inl (cL, 64, .inr (.inl (va_cpy A A (i + 1) i ((z - i) - 1)))))) H locs := hZ
  have hfr := fr_up (x := bb k + 3) (e := .inl (cL, 64, .inr (.inl (va_cpy A A (i + 1) i ((z - i) - 1))))) hfr (by omega) (by omega)
  generalize va_up w7 (bb k + 3) (.inl (cL, 64, .inr (.inl (va_cpy A A (i + 1) i ((z - i) - 1))))) = w8 at hZ hB hfr
  refine lv_aload_n hx hb d_Bag_removeAt_57 rfl (lv_at hl 1 rfl) ?_
  refine lv_dup hx hb d_Bag_removeAt_58 rfl ?_
  refine q_get (C := R_Bag) (T := T_Bag) (N := 4) hx hb hts (fun w h => gm (inT_Bag w h)) hown hK hZ (bb k) (by have := bb_r hk; omega) hB.1 rfl 3 (by decide) (hts _ (gm k_58)) (fun _ h9 => h9) rfl d_Bag_removeAt_59 ?_
  refine lv_iconst (v := (nI 1)) hx hb d_Bag_removeAt_62 rfl ?_
  refine lv_isub hx hb d_Bag_removeAt_63 ?_
  refine q_topi (y := nI (z - 1)) (pk_sub (by omega)) ?_
  refine q_put (C := R_Bag) (T := T_Bag) (N := 4) (ty := .int) (v := .int (nI (z - 1))) hx hb hts (fun w h => gm (inT_Bag w h)) ty_Bag tyo_Bag nm_Bag hown hK hZ (bb k) (by have := bb_r hk; omega) hB.1 rfl 3 (by decide) (hts _ (gm k_58)) (fun _ h9 => h9) rfl (by decide +kernel) (rfl) (rfl) (Nat.le_of_ble_eq_true rfl) d_Bag_removeAt_64 (fun H locs hZ => ?_)
  have hB := hB.upC (c' := (z - 1)) (by omega)
  have hZ : sZ (dC, dI) vCl 52 ad (fun q => N0 ≤ q) s.heap (va_up w8 (bb k) (.inr (0, [.ref (ad (bb k + 1)), .ref (ad (bb k + 2)), .ref (ad (bb k + 3)), .int (nI (z - 1))]))) H locs := hZ
  have hfr := fr_up (x := bb k) (e := .inr (0, [.ref (ad (bb k + 1)), .ref (ad (bb k + 2)), .ref (ad (bb k + 3)), .int (nI (z - 1))])) hfr (by omega) (by omega)
  generalize va_up w8 (bb k) (.inr (0, [.ref (ad (bb k + 1)), .ref (ad (bb k + 2)), .ref (ad (bb k + 3)), .int (nI (z - 1))])) = w9 at hZ hB hfr
  exact q_vret hx hb hr hlocks hK hAm hZ hN (⟨hB, hfr⟩) d_Bag_removeAt_67
set_option maxHeartbeats 4000000 in
set_option maxRecDepth 100000 in
theorem c_Bag_makeRoomAt (l : Launch) (dC : Nat → ClassId) (dI : Nat → Nat → Nat) (cI cL cB : ClassId) (ad : Nat → Nat) (N0 : Nat) (w : Nat → va_E) (k z : Nat) (P : Nat → Int32) (N A : Nat → Int64) (i : Nat) (hk : k < 9) (hB : isBag ad cI cL w k z P N A) (hi : i ≤ z) (hz64 : z < 64) : Met l y_Bag_makeRoomAt ws_Bag_makeRoomAt ({ frames := 1, cells := 0, slots := 0, locals := 64 } : Room) (va_Pc [.ref (ad (bb k)), .int (nI i)] (sPr (dC, dI) vCl [(cI, .int), (cL, .long), (cB, .object "CoinBag$Bag")] 52 ad N0 w)) (va_Qv (fun u => isBag ad cI cL u k (z + 1) (va_cpy P P i (i + 1) (z - i)) (va_cpy N N i (i + 1) (z - i)) (va_cpy A A i (i + 1) (z - i)) ∧ fr w u (bb k) (bb k + 3)) (sPr (dC, dI) vCl [(cI, .int), (cL, .long), (cB, .object "CoinBag$Bag")] 52 ad N0) (fun q => N0 ≤ q)) 0 0 (fun q => N0 ≤ q) := by
  refine Met.ofW (cc := b_Bag_makeRoomAt) (maxL := 3) (ret := none) (by decide) rfl ?_
  intro p e s m args below meth c s₁ B hml hv
  obtain ⟨rfl, hP, hK, hD, hN, hAm⟩ := hv
  have hx := B.exec
  have hb := B.bytes
  have hr := B.returns
  have hts := atoms_spec (ws := ws_Bag_makeRoomAt) B.pre
  have hown : s.vm.findClass "CoinBag$Bag" = some m.cls := findClass_of_methodNamed B.named
  have hlocks := B.notSynchronized
  have hZ : sZ (dC, dI) vCl 52 ad (fun q => N0 ≤ q) s.heap w s.heap [] := ⟨hP, hD, va_S.rf⟩
  have hl := lv_entry ([.ref (ad (bb k)), .int (nI i)]) (n := 3) (Nat.le_of_ble_eq_true rfl)
  rw [lg_entry_eq]
  generalize (lg_sl ([.ref (ad (bb k)), .int (nI i)]) ++ List.replicate (3 - (lg_sl ([.ref (ad (bb k)), .int (nI i)])).length) Slot.unset).toArray = ls at hl ⊢
  have hl : lv_has ls 3 [(0, .ref (ad (bb k))), (1, .int (nI i))] := hl
  have hz : z ≤ 64 := hB.2.2.2.2
  have hfr : fr w w (bb k) (bb k + 3) := fr_rf
  refine lv_aload_n hx hb d_Bag_makeRoomAt_0 rfl (lv_at hl 0 rfl) ?_
  refine q_get (C := R_Bag) (T := T_Bag) (N := 4) hx hb hts (fun w h => gm (inT_Bag w h)) hown hK hZ (bb k) (by have := bb_r hk; omega) hB.1 rfl 3 (by decide) (hts _ (gm k_58)) (fun _ h9 => h9) rfl d_Bag_makeRoomAt_1 ?_
  refine lv_iload_n hx hb d_Bag_makeRoomAt_4 rfl (lv_at hl 1 rfl) ?_
  refine lv_isub hx hb d_Bag_makeRoomAt_5 ?_
  refine q_topi (y := nI (z - i)) (pk_sub (by omega)) ?_
  refine lv_istore_n (lv' := [(2, .int (nI (z - i))), (0, .ref (ad (bb k))), (1, .int (nI i))]) hx hb d_Bag_makeRoomAt_6 rfl hl (by decide) rfl (fun ls hl => ?_)
  refine lv_aload_n hx hb d_Bag_makeRoomAt_7 rfl (lv_at hl 1 rfl) ?_
  refine q_get (C := R_Bag) (T := T_Bag) (N := 4) hx hb hts (fun w h => gm (inT_Bag w h)) hown hK hZ (bb k) (by have := bb_r hk; omega) hB.1 rfl 0 (by decide) (hts _ (gm k_49)) (fun _ h9 => h9) rfl d_Bag_makeRoomAt_8 ?_
  refine lv_iload_n hx hb d_Bag_makeRoomAt_11 rfl (lv_at hl 2 rfl) ?_
  refine lv_aload_n hx hb d_Bag_makeRoomAt_12 rfl (lv_at hl 1 rfl) ?_
  refine q_get (C := R_Bag) (T := T_Bag) (N := 4) hx hb hts (fun w h => gm (inT_Bag w h)) hown hK hZ (bb k) (by have := bb_r hk; omega) hB.1 rfl 0 (by decide) (hts _ (gm k_49)) (fun _ h9 => h9) rfl d_Bag_makeRoomAt_13 ?_
  refine lv_iload_n hx hb d_Bag_makeRoomAt_16 rfl (lv_at hl 2 rfl) ?_
  refine lv_iconst (v := (nI 1)) hx hb d_Bag_makeRoomAt_17 rfl ?_
  refine lv_iadd hx hb d_Bag_makeRoomAt_18 ?_
  refine q_topi (y := nI (i + 1)) (nI_add _ _) ?_
  refine lv_iload_n hx hb d_Bag_makeRoomAt_19 rfl (lv_at hl 0 rfl) ?_
  refine q_cpi hx hb (hml.trans hl.1.symm) hown (hts _ (gm k_237)) (hts _ (gm k_239)) (hts _ (gm k_238)) (hts _ (gm k_32)) hK hZ (bb k + 1) 0 (i) ((i + 1)) ((z - i)) (by have := bb_r hk; omega) hB.2.1 rfl (by omega) (by omega) (by decide) (Nat.le_of_ble_eq_true rfl) (Nat.le_of_ble_eq_true rfl) d_Bag_makeRoomAt_20 (fun H locs hZ => ?_)
  have hB := hB.upP ((va_cpy P P i (i + 1) (z - i)))
  have hZ : sZ (dC, dI) vCl 52 ad (fun q => N0 ≤ q) s.heap (va_up w (bb k + 1) (.inl (cI, 64, .inl (va_cpy P P i (i + 1) (z - i))))) H locs := hZ
  have hfr := fr_up (x := bb k + 1) (e := .inl (cI, 64, .inl (va_cpy P P i (i + 1) (z - i)))) hfr (by omega) (by omega)
  generalize va_up w (bb k + 1) (.inl (cI, 64, .inl (va_cpy P P i (i + 1) (z - i)))) = w10 at hZ hB hfr
  refine lv_aload_n hx hb d_Bag_makeRoomAt_23 rfl (lv_at hl 1 rfl) ?_
  refine q_get (C := R_Bag) (T := T_Bag) (N := 4) hx hb hts (fun w h => gm (inT_Bag w h)) hown hK hZ (bb k) (by have := bb_r hk; omega) hB.1 rfl 1 (by decide) (hts _ (gm k_52)) (fun _ h9 => h9) rfl d_Bag_makeRoomAt_24 ?_
  refine lv_iload_n hx hb d_Bag_makeRoomAt_27 rfl (lv_at hl 2 rfl) ?_
  refine lv_aload_n hx hb d_Bag_makeRoomAt_28 rfl (lv_at hl 1 rfl) ?_
  refine q_get (C := R_Bag) (T := T_Bag) (N := 4) hx hb hts (fun w h => gm (inT_Bag w h)) hown hK hZ (bb k) (by have := bb_r hk; omega) hB.1 rfl 1 (by decide) (hts _ (gm k_52)) (fun _ h9 => h9) rfl d_Bag_makeRoomAt_29 ?_
  refine lv_iload_n hx hb d_Bag_makeRoomAt_32 rfl (lv_at hl 2 rfl) ?_
  refine lv_iconst (v := (nI 1)) hx hb d_Bag_makeRoomAt_33 rfl ?_
  refine lv_iadd hx hb d_Bag_makeRoomAt_34 ?_
  refine q_topi (y := nI (i + 1)) (nI_add _ _) ?_
  refine lv_iload_n hx hb d_Bag_makeRoomAt_35 rfl (lv_at hl 0 rfl) ?_
  refine q_cpl hx hb (hml.trans hl.1.symm) hown (hts _ (gm k_237)) (hts _ (gm k_239)) (hts _ (gm k_238)) (hts _ (gm k_32)) hK hZ (bb k + 2) 1 (i) ((i + 1)) ((z - i)) (by have := bb_r hk; omega) hB.2.2.1 rfl (by omega) (by omega) (by decide) (Nat.le_of_ble_eq_true rfl) (Nat.le_of_ble_eq_true rfl) d_Bag_makeRoomAt_36 (fun H locs hZ => ?_)
  have hB := hB.upN ((va_cpy N N i (i + 1) (z - i)))
  have hZ : sZ (dC, dI) vCl 52 ad (fun q => N0 ≤ q) s.heap (va_up w10 (bb k + 2) (.inl (cL, 64, .inr (.inl (va_cpy N N i (i + 1) (z - i)))))) H locs := hZ
  have hfr := fr_up (x := bb k + 2) (e := .inl (cL, 64, .inr (.inl (va_cpy N N i (i + 1) (z - i))))) hfr (by omega) (by omega)
  generalize va_up w10 (bb k + 2) (.inl (cL, 64, .inr (.inl (va_cpy N N i (i + 1) (z - i))))) = w11 at hZ hB hfr
  refine lv_aload_n hx hb d_Bag_makeRoomAt_39 rfl (lv_at hl 1 rfl) ?_
  refine q_get (C := R_Bag) (T := T_Bag) (N := 4) hx hb hts (fun w h => gm (inT_Bag w h)) hown hK hZ (bb k) (by have := bb_r hk; omega) hB.1 rfl 2 (by decide) (hts _ (gm k_55)) (fun _ h9 => h9) rfl d_Bag_makeRoomAt_40 ?_
  refine lv_iload_n hx hb d_Bag_makeRoomAt_43 rfl (lv_at hl 2 rfl) ?_
  refine lv_aload_n hx hb d_Bag_makeRoomAt_44 rfl (lv_at hl 1 rfl) ?_
  refine q_get (C := R_Bag) (T := T_Bag) (N := 4) hx hb hts (fun w h => gm (inT_Bag w h)) hown hK hZ (bb k) (by have := bb_r hk; omega) hB.1 rfl 2 (by decide) (hts _ (gm k_55)) (fun _ h9 => h9) rfl d_Bag_makeRoomAt_45 ?_
  refine lv_iload_n hx hb d_Bag_makeRoomAt_48 rfl (lv_at hl 2 rfl) ?_
  refine lv_iconst (v := (nI 1)) hx hb d_Bag_makeRoomAt_49 rfl ?_
  refine lv_iadd hx hb d_Bag_makeRoomAt_50 ?_
  refine q_topi (y := nI (i + 1)) (nI_add _ _) ?_
  refine lv_iload_n hx hb d_Bag_makeRoomAt_51 rfl (lv_at hl 0 rfl) ?_
  refine q_cpl hx hb (hml.trans hl.1.symm) hown (hts _ (gm k_237)) (hts _ (gm k_239)) (hts _ (gm k_238)) (hts _ (gm k_32)) hK hZ (bb k + 3) 1 (i) ((i + 1)) ((z - i)) (by have := bb_r hk; omega) hB.2.2.2.1 rfl (by omega) (by omega) (by decide) (Nat.le_of_ble_eq_true rfl) (Nat.le_of_ble_eq_true rfl) d_Bag_makeRoomAt_52 (fun H locs hZ => ?_)
  have hB := hB.upA ((va_cpy A A i (i + 1) (z - i)))
  have hZ : sZ (dC, dI) vCl 52 ad (fun q => N0 ≤ q) s.heap (va_up w11 (bb k + 3) (.inl (cL, 64, .inr (.inl (va_cpy A A i (i + 1) (z - i)))))) H locs := hZ
  have hfr := fr_up (x := bb k + 3) (e := .inl (cL, 64, .inr (.inl (va_cpy A A i (i + 1) (z - i))))) hfr (by omega) (by omega)
  generalize va_up w11 (bb k + 3) (.inl (cL, 64, .inr (.inl (va_cpy A A i (i + 1) (z - i))))) = w12 at hZ hB hfr
  refine lv_aload_n hx hb d_Bag_makeRoomAt_55 rfl (lv_at hl 1 rfl) ?_
  refine lv_dup hx hb d_Bag_makeRoomAt_56 rfl ?_
  refine q_get (C := R_Bag) (T := T_Bag) (N := 4) hx hb hts (fun w h => gm (inT_Bag w h)) hown hK hZ (bb k) (by have := bb_r hk; omega) hB.1 rfl 3 (by decide) (hts _ (gm k_58)) (fun _ h9 => h9) rfl d_Bag_makeRoomAt_57 ?_
  refine lv_iconst (v := (nI 1)) hx hb d_Bag_makeRoomAt_60 rfl ?_
  refine lv_iadd hx hb d_Bag_makeRoomAt_61 ?_
  refine q_topi (y := nI (z + 1)) (nI_add _ _) ?_
  refine q_put (C := R_Bag) (T := T_Bag) (N := 4) (ty := .int) (v := .int (nI (z + 1))) hx hb hts (fun w h => gm (inT_Bag w h)) ty_Bag tyo_Bag nm_Bag hown hK hZ (bb k) (by have := bb_r hk; omega) hB.1 rfl 3 (by decide) (hts _ (gm k_58)) (fun _ h9 => h9) rfl (by decide +kernel) (rfl) (rfl) (Nat.le_of_ble_eq_true rfl) d_Bag_makeRoomAt_62 (fun H locs hZ => ?_)
  have hB := hB.upC (c' := (z + 1)) (by omega)
  have hZ : sZ (dC, dI) vCl 52 ad (fun q => N0 ≤ q) s.heap (va_up w12 (bb k) (.inr (0, [.ref (ad (bb k + 1)), .ref (ad (bb k + 2)), .ref (ad (bb k + 3)), .int (nI (z + 1))]))) H locs := hZ
  have hfr := fr_up (x := bb k) (e := .inr (0, [.ref (ad (bb k + 1)), .ref (ad (bb k + 2)), .ref (ad (bb k + 3)), .int (nI (z + 1))])) hfr (by omega) (by omega)
  generalize va_up w12 (bb k) (.inr (0, [.ref (ad (bb k + 1)), .ref (ad (bb k + 2)), .ref (ad (bb k + 3)), .int (nI (z + 1))])) = w13 at hZ hB hfr
  exact q_vret hx hb hr hlocks hK hAm hZ hN (⟨hB, hfr⟩) d_Bag_makeRoomAt_65
