/-! the class CoinBag: at, look -/
def atR (P : Nat → Int32) (N A : Nat → Int64) (i wh : Nat) (r : Int64) : Prop := (wh = 0 ∧ r = (P i).toInt64) ∨ (wh = 1 ∧ r = N i) ∨ (wh = 2 ∧ r = A i)
def lkR (P : Nat → Int32) (A : Nat → Int64) (z : Nat) (q r : Int32) : Prop := (q = 0 ∧ r = nI (cP P z)) ∨ (q = 1 ∧ r = nI (cN A z)) ∨ (q = 2 ∧ r = bI (cGr A z)) ∨ ((¬ q = 0 ∧ ¬ q = 1 ∧ ¬ q = 2) ∧ r = -1)
theorem i3_cases (q : Int32) : q = 0 ∨ q = 1 ∨ q = 2 ∨ (¬ q = 0 ∧ ¬ q = 1 ∧ ¬ q = 2) := by
  by_cases h0 : q = 0
  · exact Or.inl h0
  · by_cases h1 : q = 1
    · exact Or.inr (Or.inl h1)
    · by_cases h2 : q = 2
      · exact Or.inr (Or.inr (Or.inl h2))
      · exact Or.inr (Or.inr (Or.inr ⟨h0, h1, h2⟩))
theorem i3_out {q : Int32} (h : ¬ q = 0 ∧ ¬ q = 1 ∧ ¬ q = 2) : q.toInt < 0 ∨ 2 < q.toInt := by
  have a0 : q.toInt ≠ 0 := fun z => h.1 (Int32.toInt_inj.mp (z.trans (by decide)))
  have a1 : q.toInt ≠ 1 := fun z => h.2.1 (Int32.toInt_inj.mp (z.trans (by decide)))
  have a2 : q.toInt ≠ 2 := fun z => h.2.2 (Int32.toInt_inj.mp (z.trans (by decide)))
  omega
set_option maxHeartbeats 4000000 in
set_option maxRecDepth 100000 in
theorem c_CB_at (l : Launch) (dC : Nat → ClassId) (dI : Nat → Nat → Nat) (cI cL cB : ClassId) (ad : Nat → Nat) (N0 : Nat) (w : Nat → va_E) (F : Nat → Int → Int64) (j i wh n : Nat) (kn : Nat → Int) (hC : sC ad cI cL cB w F) (hj : j < 8) (hen : eI n kn) (hfn : eF n kn (F j)) (hin : i < n) (hwh : wh ≤ 2) : Met l y_CB_at ws_CB_at ({ frames := 1, cells := 0, slots := 0, locals := 20 } : Room) (va_Pc [.ref (ad 0), .int (nI j), .int (nI i), .int (nI wh)] (sPr (dC, dI) vCl [(cI, .int), (cL, .long), (cB, .object "CoinBag$Bag")] 52 ad N0 w)) (va_Ql (fun r u => u = w ∧ ∃ (z : Nat) (P : Nat → Int32) (N A : Nat → Int64), cRep z P N A (F j) ∧ i < z ∧ atR P N A i wh r) (sPr (dC, dI) vCl [(cI, .int), (cL, .long), (cB, .object "CoinBag$Bag")] 52 ad N0) (fun q => N0 ≤ q)) 0 0 (fun q => N0 ≤ q) := by
  refine Met.ofW (cc := b_CB_at) (maxL := 5) (ret := (some .long)) (by decide) rfl ?_
  intro p e s m args below meth c s₁ B hml hv
  obtain ⟨rfl, hP, hK, hD, hN, hAm⟩ := hv
  have hx := B.exec
  have hb := B.bytes
  have hr := B.returns
  have hts := atoms_spec (ws := ws_CB_at) B.pre
  have hown : s.vm.findClass "CoinBag" = some m.cls := findClass_of_methodNamed B.named
  have hlocks := B.notSynchronized
  have hZ : sZ (dC, dI) vCl 52 ad (fun q => N0 ≤ q) s.heap w s.heap [] := ⟨hP, hD, va_S.rf⟩
  have hl := lv_entry ([.ref (ad 0), .int (nI j), .int (nI i), .int (nI wh)]) (n := 5) (Nat.le_of_ble_eq_true rfl)
  rw [lg_entry_eq]
  generalize (lg_sl ([.ref (ad 0), .int (nI j), .int (nI i), .int (nI wh)]) ++ List.replicate (5 - (lg_sl ([.ref (ad 0), .int (nI j), .int (nI i), .int (nI wh)])).length) Slot.unset).toArray = ls at hl ⊢
  have hl : lv_has ls 5 [(0, .ref (ad 0)), (1, .int (nI j)), (2, .int (nI i)), (3, .int (nI wh))] := hl
  obtain ⟨f, pi, sp, hX⟩ := hC
  have hX : sCx ad cI cL cB w F f pi sp := hX
  obtain ⟨h0, h1, hf, hpi, hinj, hsp, hbg, hspb, hprs⟩ := id hX
  obtain ⟨z, P, N, A, hB, hR⟩ := hbg j hj
  have hk := (hpi j hj).1
  have hz : z ≤ 64 := hB.2.2.2.2
  have hiz : i < z := by rw [card_eq (eS_I hR.2.1) hR.2.2.1 hen hfn]; exact hin
  refine lv_iload_n hx hb d_CB_at_0 rfl (lv_at hl 1 rfl) ?_
  refine q_callSv (va_runS (As := [.int (nI j)]) (rest := []) ⟨hx, hb, hml, hown, hts⟩ (c_CB_requireBag l j hj) (va_cwS 1 hts (gI_S k_120 k_118 k_119 k_21) rfl rfl rfl (by decide +kernel) ⟨Nat.le_of_ble_eq_true rfl, Nat.le_of_ble_eq_true rfl⟩) ⟨fun _ _ _ _ q => q, fun _ _ _ => ⟨rfl, trivial⟩⟩ rfl rfl hl.1 rfl (lv_room (Nat.le_of_ble_eq_true rfl)) d_CB_at_1 ⟨Nat.zero_le _, Nat.zero_le _⟩) ?_
  refine lv_aload_n hx hb d_CB_at_4 rfl (lv_at hl 0 rfl) ?_
  refine q_get (C := R_CB) (T := T_CB) (N := 3) hx hb hts (fun w h => gm (inT_CB w h)) hown hK hZ (0) (by decide) h0 rfl 0 (by decide) (hts _ (gm k_99)) (fun _ h9 => h9) rfl d_CB_at_5 ?_
  refine lv_iload_n hx hb d_CB_at_8 rfl (lv_at hl 1 rfl) ?_
  refine q_aald hx hb hK hZ (1) 2 (j) (by decide) h1 rfl rfl hj (by decide) (hf j hj) d_CB_at_9 ?_
  refine lv_astore (lv' := [(4, .ref (ad (bb (pi j)))), (0, .ref (ad 0)), (1, .int (nI j)), (2, .int (nI i)), (3, .int (nI wh))]) hx hb d_CB_at_10 hl (by decide) rfl (fun ls hl => ?_)
  refine lv_iload_n hx hb d_CB_at_12 rfl (lv_at hl 3 rfl) ?_
  refine lv_if_lt (tgt := 25) hx hb d_CB_at_13 (by decide) (fun h13 => ?_) (fun h13 => ?_)
  · skip
    have h13 : i < 0 := (nI_ltI (a := i) (b := 0) (by omega) (by omega)).mp h13
    exact absurd h13 (by omega)
  · skip
    have h13 : 0 ≤ i := Nat.le_of_not_lt (fun z9 => h13 ((nI_ltI (a := i) (b := 0) (by omega) (by omega)).mpr z9))
    refine lv_iload_n hx hb d_CB_at_16 rfl (lv_at hl 3 rfl) ?_
    refine lv_aload hx hb d_CB_at_17 (lv_at hl 0 rfl) ?_
    refine q_get (C := R_Bag) (T := T_Bag) (N := 4) hx hb hts (fun w h => gm (inT_Bag w h)) hown hK hZ (bb (pi j)) (by have := bb_r hk; omega) hB.1 rfl 3 (by decide) (hts _ (gm k_60)) (fun _ h9 => h9) rfl d_CB_at_19 ?_
    refine lv_icmp_lt (tgt := 35) hx hb d_CB_at_22 (by decide) (fun h22 => ?_) (fun h22 => ?_)
    · skip
      have h22 : i < z := (nI_ltI (a := i) (b := z) (by omega) (by omega)).mp h22
      refine lv_iload_n hx hb d_CB_at_35 rfl (lv_at hl 4 rfl) ?_
      have h36 : wh = 0 ∨ wh = 1 ∨ wh = 2 := by omega
      rcases h36 with rfl | rfl | rfl
      · skip
        refine lv_tableIn (off := 28) (tgt := 64) hx hb d_CB_at_36 (by decide) (by decide) (by decide) (by decide) ?_
        refine lv_aload hx hb d_CB_at_64 (lv_at hl 0 rfl) ?_
        refine q_get (C := R_Bag) (T := T_Bag) (N := 4) hx hb hts (fun w h => gm (inT_Bag w h)) hown hK hZ (bb (pi j)) (by have := bb_r hk; omega) hB.1 rfl 0 (by decide) (hts _ (gm k_51)) (fun _ h9 => h9) rfl d_CB_at_66 ?_
        refine lv_iload_n hx hb d_CB_at_69 rfl (lv_at hl 3 rfl) ?_
        refine q_iald hx hb hK hZ (bb (pi j) + 1) 0 (i) (by have := bb_r hk; omega) hB.2.1 rfl rfl (by omega) (by decide) d_CB_at_70 ?_
        refine lv_i2l (v := (P i).toInt64) hx hb d_CB_at_71 rfl ?_
        exact q_lret hx hb hr hlocks hK hAm hZ hN (⟨rfl, z, P, N, A, hR, hiz, Or.inl ⟨rfl, rfl⟩⟩) d_CB_at_72
      · skip
        refine lv_tableIn (off := 37) (tgt := 73) hx hb d_CB_at_36 (by decide) (by decide) (by decide) (by decide) ?_
        refine lv_aload hx hb d_CB_at_73 (lv_at hl 0 rfl) ?_
        refine q_get (C := R_Bag) (T := T_Bag) (N := 4) hx hb hts (fun w h => gm (inT_Bag w h)) hown hK hZ (bb (pi j)) (by have := bb_r hk; omega) hB.1 rfl 1 (by decide) (hts _ (gm k_54)) (fun _ h9 => h9) rfl d_CB_at_75 ?_
        refine lv_iload_n hx hb d_CB_at_78 rfl (lv_at hl 3 rfl) ?_
        refine q_lald hx hb hK hZ (bb (pi j) + 2) 1 (i) (by have := bb_r hk; omega) hB.2.2.1 rfl rfl (by omega) (by decide) d_CB_at_79 ?_
        exact q_lret hx hb hr hlocks hK hAm hZ hN (⟨rfl, z, P, N, A, hR, hiz, Or.inr (Or.inl ⟨rfl, rfl⟩)⟩) d_CB_at_80
      · skip
        refine lv_tableIn (off := 45) (tgt := 81) hx hb d_CB_at_36 (by decide) (by decide) (by decide) (by decide) ?_
        refine lv_aload hx hb d_CB_at_81 (lv_at hl 0 rfl) ?_
        refine q_get (C := R_Bag) (T := T_Bag) (N := 4) hx hb hts (fun w h => gm (inT_Bag w h)) hown hK hZ (bb (pi j)) (by have := bb_r hk; omega) hB.1 rfl 2 (by decide) (hts _ (gm k_57)) (fun _ h9 => h9) rfl d_CB_at_83 ?_
        refine lv_iload_n hx hb d_CB_at_86 rfl (lv_at hl 3 rfl) ?_
        refine q_lald hx hb hK hZ (bb (pi j) + 3) 1 (i) (by have := bb_r hk; omega) hB.2.2.2.1 rfl rfl (by omega) (by decide) d_CB_at_87 ?_
        exact q_lret hx hb hr hlocks hK hAm hZ hN (⟨rfl, z, P, N, A, hR, hiz, Or.inr (Or.inr ⟨rfl, rfl⟩)⟩) d_CB_at_88
    · skip
      have h22 : z ≤ i := Nat.le_of_not_lt (fun z9 => h22 ((nI_ltI (a := i) (b := z) (by omega) (by omega)).mpr z9))
      exact absurd h22 (by omega)
set_option maxHeartbeats 4000000 in
set_option maxRecDepth 100000 in
theorem c_CB_look (l : Launch) (dC : Nat → ClassId) (dI : Nat → Nat → Nat) (cI cL cB : ClassId) (ad : Nat → Nat) (N0 : Nat) (w : Nat → va_E) (F : Nat → Int → Int64) (j : Nat) (q : Int32) (hC : sC ad cI cL cB w F) (hj : j < 8) : Met l y_CB_look ws_CB_look ({ frames := 1, cells := 0, slots := 0, locals := 22 } : Room) (va_Pc [.ref (ad 0), .int (nI j), .int q] (sPr (dC, dI) vCl [(cI, .int), (cL, .long), (cB, .object "CoinBag$Bag")] 52 ad N0 w)) (va_Qi (fun r u => u = w ∧ ∃ (z : Nat) (P : Nat → Int32) (N A : Nat → Int64), cRep z P N A (F j) ∧ lkR P A z q r) (sPr (dC, dI) vCl [(cI, .int), (cL, .long), (cB, .object "CoinBag$Bag")] 52 ad N0) (fun q => N0 ≤ q)) 0 0 (fun q => N0 ≤ q) := by
  refine Met.ofW (cc := b_CB_look) (maxL := 3) (ret := (some .int)) (by decide) rfl ?_
  intro p e s m args below meth c s₁ B hml hv
  obtain ⟨rfl, hP, hK, hD, hN, hAm⟩ := hv
  have hx := B.exec
  have hb := B.bytes
  have hr := B.returns
  have hts := atoms_spec (ws := ws_CB_look) B.pre
  have hown : s.vm.findClass "CoinBag" = some m.cls := findClass_of_methodNamed B.named
  have hlocks := B.notSynchronized
  have hZ : sZ (dC, dI) vCl 52 ad (fun q => N0 ≤ q) s.heap w s.heap [] := ⟨hP, hD, va_S.rf⟩
  have hl := lv_entry ([.ref (ad 0), .int (nI j), .int q]) (n := 3) (Nat.le_of_ble_eq_true rfl)
  rw [lg_entry_eq]
  generalize (lg_sl ([.ref (ad 0), .int (nI j), .int q]) ++ List.replicate (3 - (lg_sl ([.ref (ad 0), .int (nI j), .int q])).length) Slot.unset).toArray = ls at hl ⊢
  have hl : lv_has ls 3 [(0, .ref (ad 0)), (1, .int (nI j)), (2, .int q)] := hl
  obtain ⟨f, pi, sp, hX⟩ := hC
  have hX : sCx ad cI cL cB w F f pi sp := hX
  obtain ⟨h0, h1, hf, hpi, hinj, hsp, hbg, hspb, hprs⟩ := id hX
  obtain ⟨z, P, N, A, hB, hR⟩ := hbg j hj
  have hk := (hpi j hj).1
  have hz : z ≤ 64 := hB.2.2.2.2
  refine lv_iload_n hx hb d_CB_look_0 rfl (lv_at hl 1 rfl) ?_
  refine q_callSv (va_runS (As := [.int (nI j)]) (rest := []) ⟨hx, hb, hml, hown, hts⟩ (c_CB_requireBag l j hj) (va_cwS 1 hts (gI_S k_120 k_118 k_119 k_21) rfl rfl rfl (by decide +kernel) ⟨Nat.le_of_ble_eq_true rfl, Nat.le_of_ble_eq_true rfl⟩) ⟨fun _ _ _ _ q => q, fun _ _ _ => ⟨rfl, trivial⟩⟩ rfl rfl hl.1 rfl (lv_room (Nat.le_of_ble_eq_true rfl)) d_CB_look_1 ⟨Nat.zero_le _, Nat.zero_le _⟩) ?_
  refine lv_iload_n hx hb d_CB_look_4 rfl (lv_at hl 2 rfl) ?_
  have h5 : q = 0 ∨ q = 1 ∨ q = 2 ∨ (¬ q = 0 ∧ ¬ q = 1 ∧ ¬ q = 2) := i3_cases q
  rcases h5 with rfl | rfl | rfl | h5
  · skip
    refine lv_tableIn (off := 27) (tgt := 32) hx hb d_CB_look_5 (by decide) (by decide) (by decide) (by decide) ?_
    refine lv_aload_n hx hb d_CB_look_32 rfl (lv_at hl 0 rfl) ?_
    refine q_get (C := R_CB) (T := T_CB) (N := 3) hx hb hts (fun w h => gm (inT_CB w h)) hown hK hZ (0) (by decide) h0 rfl 0 (by decide) (hts _ (gm k_99)) (fun _ h9 => h9) rfl d_CB_look_33 ?_
    refine lv_iload_n hx hb d_CB_look_36 rfl (lv_at hl 1 rfl) ?_
    refine q_aald hx hb hK hZ (1) 2 (j) (by decide) h1 rfl rfl hj (by decide) (hf j hj) d_CB_look_37 ?_
    refine q_calli (va_runV (As := []) (rest := []) ⟨hx, hb, hml, hown, hts⟩ (c_Bag_countPolicies l dC dI cI cL cB ad N0 w (pi j) z P N A hk hB) (cwV 0 hts (gI_V k_405 k_402 k_403 k_404 k_22) rfl rfl rfl (by decide +kernel) ⟨Nat.le_of_ble_eq_true rfl, Nat.le_of_ble_eq_true rfl⟩) (q_preV hK hAm hZ hN [] (bb (pi j)) 0 (by have := bb_r hk; omega) hB.1 rfl) rfl rfl hl.1 rfl (lv_room (Nat.le_of_ble_eq_true rfl)) d_CB_look_38 ⟨Nat.zero_le _, Nat.zero_le _⟩) hZ (fun r u_r H locs h_r hZ => ?_)
    obtain ⟨e_r, h_r⟩ := h_r
    rw [e_r] at hZ
    exact q_iret hx hb hr hlocks hK hAm hZ hN (⟨rfl, z, P, N, A, hR, Or.inl ⟨rfl, h_r⟩⟩) d_CB_look_41
  · skip
    refine lv_tableIn (off := 37) (tgt := 42) hx hb d_CB_look_5 (by decide) (by decide) (by decide) (by decide) ?_
    refine lv_aload_n hx hb d_CB_look_42 rfl (lv_at hl 0 rfl) ?_
    refine q_get (C := R_CB) (T := T_CB) (N := 3) hx hb hts (fun w h => gm (inT_CB w h)) hown hK hZ (0) (by decide) h0 rfl 0 (by decide) (hts _ (gm k_99)) (fun _ h9 => h9) rfl d_CB_look_43 ?_
    refine lv_iload_n hx hb d_CB_look_46 rfl (lv_at hl 1 rfl) ?_
    refine q_aald hx hb hK hZ (1) 2 (j) (by decide) h1 rfl rfl hj (by decide) (hf j hj) d_CB_look_47 ?_
    refine q_calli (va_runV (As := []) (rest := []) ⟨hx, hb, hml, hown, hts⟩ (c_Bag_countBelowZero l dC dI cI cL cB ad N0 w (pi j) z P N A hk hB) (cwV 0 hts (gI_V k_409 k_406 k_407 k_408 k_22) rfl rfl rfl (by decide +kernel) ⟨Nat.le_of_ble_eq_true rfl, Nat.le_of_ble_eq_true rfl⟩) (q_preV hK hAm hZ hN [] (bb (pi j)) 0 (by have := bb_r hk; omega) hB.1 rfl) rfl rfl hl.1 rfl (lv_room (Nat.le_of_ble_eq_true rfl)) d_CB_look_48 ⟨Nat.zero_le _, Nat.zero_le _⟩) hZ (fun r u_r H locs h_r hZ => ?_)
    obtain ⟨e_r, h_r⟩ := h_r
    rw [e_r] at hZ
    exact q_iret hx hb hr hlocks hK hAm hZ hN (⟨rfl, z, P, N, A, hR, Or.inr (Or.inl ⟨rfl, h_r⟩)⟩) d_CB_look_51
  · skip
    refine lv_tableIn (off := 47) (tgt := 52) hx hb d_CB_look_5 (by decide) (by decide) (by decide) (by decide) ?_
    refine lv_aload_n hx hb d_CB_look_52 rfl (lv_at hl 0 rfl) ?_
    refine q_get (C := R_CB) (T := T_CB) (N := 3) hx hb hts (fun w h => gm (inT_CB w h)) hown hK hZ (0) (by decide) h0 rfl 0 (by decide) (hts _ (gm k_99)) (fun _ h9 => h9) rfl d_CB_look_53 ?_
    refine lv_iload_n hx hb d_CB_look_56 rfl (lv_at hl 1 rfl) ?_
    refine q_aald hx hb hK hZ (1) 2 (j) (by decide) h1 rfl rfl hj (by decide) (hf j hj) d_CB_look_57 ?_
    refine q_calli (va_runV (As := []) (rest := []) ⟨hx, hb, hml, hown, hts⟩ (c_Bag_placeOfGreatest l dC dI cI cL cB ad N0 w (pi j) z P N A hk hB) (cwV 0 hts (gI_V k_413 k_410 k_411 k_412 k_22) rfl rfl rfl (by decide +kernel) ⟨Nat.le_of_ble_eq_true rfl, Nat.le_of_ble_eq_true rfl⟩) (q_preV hK hAm hZ hN [] (bb (pi j)) 0 (by have := bb_r hk; omega) hB.1 rfl) rfl rfl hl.1 rfl (lv_room (Nat.le_of_ble_eq_true rfl)) d_CB_look_58 ⟨Nat.zero_le _, Nat.zero_le _⟩) hZ (fun r u_r H locs h_r hZ => ?_)
    obtain ⟨e_r, h_r⟩ := h_r
    rw [e_r] at hZ
    exact q_iret hx hb hr hlocks hK hAm hZ hN (⟨rfl, z, P, N, A, hR, Or.inr (Or.inr (Or.inl ⟨rfl, h_r⟩))⟩) d_CB_look_61
  · skip
    refine lv_tableOut (tgt := 62) hx hb d_CB_look_5 (i3_out h5) (by decide) ?_
    refine lv_iconst (v := (-1)) hx hb d_CB_look_62 rfl ?_
    exact q_iret hx hb hr hlocks hK hAm hZ hN (⟨rfl, z, P, N, A, hR, Or.inr (Or.inr (Or.inr ⟨h5, rfl⟩))⟩) d_CB_look_63
