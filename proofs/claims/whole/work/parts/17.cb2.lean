/-! the class CoinBag: sum, less, least -/
set_option maxHeartbeats 4000000 in
set_option maxRecDepth 100000 in
theorem c_CB_exchangeSpare (l : Launch) (dC : Nat → ClassId) (dI : Nat → Nat → Nat) (cI cL cB : ClassId) (ad : Nat → Nat) (N0 : Nat) (w : Nat → va_E) (f : Nat → Option Nat) (sp kj j z : Nat) (P : Nat → Int32) (N A : Nat → Int64) (h0 : w 0 = .inr (2, [.ref (ad 1), .ref (ad 34), .ref (ad (bb sp))])) (h1 : w 1 = .inl (cB, 8, .inr (.inr (.inr (.inr f))))) (hj : j < 8) (hfj : f j = some (ad (bb kj))) (hsp : sp < 9) (hS : isBag ad cI cL w sp z P N A) : Met l y_CB_exchangeSpare ws_CB_exchangeSpare ({ frames := 0, cells := 0, slots := 0, locals := 0 } : Room) (va_Pc [.ref (ad 0), .int (nI j)] (sPr (dC, dI) vCl [(cI, .int), (cL, .long), (cB, .object "CoinBag$Bag")] 52 ad N0 w)) (va_Qv (fun u => u 0 = .inr (2, [.ref (ad 1), .ref (ad 34), .ref (ad (bb kj))]) ∧ u 1 = .inl (cB, 8, .inr (.inr (.inr (.inr (va_up f j (some (ad (bb sp)))))))) ∧ ∀ x, 2 ≤ x → u x = w x) (sPr (dC, dI) vCl [(cI, .int), (cL, .long), (cB, .object "CoinBag$Bag")] 52 ad N0) (fun q => N0 ≤ q)) 0 0 (fun q => N0 ≤ q) := by
  refine Met.ofW (cc := b_CB_exchangeSpare) (maxL := 3) (ret := none) (by decide) rfl ?_
  intro p e s m args below meth c s₁ B hml hv
  obtain ⟨rfl, hP, hK, hD, hN, hAm⟩ := hv
  have hx := B.exec
  have hb := B.bytes
  have hr := B.returns
  have hts := atoms_spec (ws := ws_CB_exchangeSpare) B.pre
  have hown : s.vm.findClass "CoinBag" = some m.cls := findClass_of_methodNamed B.named
  have hlocks := B.notSynchronized
  have hZ : sZ (dC, dI) vCl 52 ad (fun q => N0 ≤ q) s.heap w s.heap [] := ⟨hP, hD, va_S.rf⟩
  have hl := lv_entry ([.ref (ad 0), .int (nI j)]) (n := 3) (Nat.le_of_ble_eq_true rfl)
  rw [lg_entry_eq]
  generalize (lg_sl ([.ref (ad 0), .int (nI j)]) ++ List.replicate (3 - (lg_sl ([.ref (ad 0), .int (nI j)])).length) Slot.unset).toArray = ls at hl ⊢
  have hl : lv_has ls 3 [(0, .ref (ad 0)), (1, .int (nI j))] := hl
  refine lv_aload_n hx hb d_CB_exchangeSpare_0 rfl (lv_at hl 0 rfl) ?_
  refine q_get (C := R_CB) (T := T_CB) (N := 3) hx hb hts (fun w h => gm (inT_CB w h)) hown hK hZ (0) (by decide) h0 rfl 0 (by decide) (hts _ (gm k_99)) (fun _ h9 => h9) rfl d_CB_exchangeSpare_1 ?_
  refine lv_iload_n hx hb d_CB_exchangeSpare_4 rfl (lv_at hl 1 rfl) ?_
  refine q_aald hx hb hK hZ (1) 2 (j) (by decide) h1 rfl rfl hj (by decide) (hfj) d_CB_exchangeSpare_5 ?_
  refine lv_astore_n (lv' := [(2, .ref (ad (bb kj))), (0, .ref (ad 0)), (1, .int (nI j))]) hx hb d_CB_exchangeSpare_6 rfl hl (by decide) rfl (fun ls hl => ?_)
  refine lv_aload_n hx hb d_CB_exchangeSpare_7 rfl (lv_at hl 1 rfl) ?_
  refine q_get (C := R_CB) (T := T_CB) (N := 3) hx hb hts (fun w h => gm (inT_CB w h)) hown hK hZ (0) (by decide) h0 rfl 0 (by decide) (hts _ (gm k_99)) (fun _ h9 => h9) rfl d_CB_exchangeSpare_8 ?_
  refine lv_iload_n hx hb d_CB_exchangeSpare_11 rfl (lv_at hl 2 rfl) ?_
  refine lv_aload_n hx hb d_CB_exchangeSpare_12 rfl (lv_at hl 1 rfl) ?_
  refine q_get (C := R_CB) (T := T_CB) (N := 3) hx hb hts (fun w h => gm (inT_CB w h)) hown hK hZ (0) (by decide) h0 rfl 2 (by decide) (hts _ (gm k_101)) (fun _ h9 => h9) rfl d_CB_exchangeSpare_13 ?_
  refine q_aast hx hb hK hZ (1) 2 (j) (bb sp) 0 (by decide) (by have := bb_r hsp; omega) h1 rfl hS.1 rfl rfl hj (by decide) d_CB_exchangeSpare_16 (fun H locs hZ => ?_)
  have hZ : sZ (dC, dI) vCl 52 ad (fun q => N0 ≤ q) s.heap (va_up w 1 (.inl (cB, 8, .inr (.inr (.inr (.inr (va_up f j (some (ad (bb sp)))))))))) H locs := hZ
  have h0 : va_up w 1 (.inl (cB, 8, .inr (.inr (.inr (.inr (va_up f j (some (ad (bb sp))))))))) 0 = .inr (2, [.ref (ad 1), .ref (ad 34), .ref (ad (bb sp))]) := (va_up_ne _ _ (by decide)).trans h0
  have h1 : va_up w 1 (.inl (cB, 8, .inr (.inr (.inr (.inr (va_up f j (some (ad (bb sp))))))))) 1 = .inl (cB, 8, .inr (.inr (.inr (.inr (va_up f j (some (ad (bb sp)))))))) := va_up_self _ _ _
  have hkp : ∀ x, 2 ≤ x → va_up w 1 (.inl (cB, 8, .inr (.inr (.inr (.inr (va_up f j (some (ad (bb sp))))))))) x = w x := fun x hx => va_up_ne _ _ (by omega)
  generalize va_up w 1 (.inl (cB, 8, .inr (.inr (.inr (.inr (va_up f j (some (ad (bb sp))))))))) = w1 at hZ h0 h1 hkp
  refine lv_aload_n hx hb d_CB_exchangeSpare_17 rfl (lv_at hl 1 rfl) ?_
  refine lv_aload_n hx hb d_CB_exchangeSpare_18 rfl (lv_at hl 0 rfl) ?_
  refine q_put (C := R_CB) (T := T_CB) (N := 3) (ty := .object "CoinBag$Bag") (v := .ref (ad (bb kj))) hx hb hts (fun w h => gm (inT_CB w h)) ty_CB tyo_CB nm_CB hown hK hZ (0) (by decide) h0 rfl 2 (by decide) (hts _ (gm k_101)) (fun _ h9 => h9) rfl (by decide +kernel) (rfl) (rfl) (Nat.le_of_ble_eq_true rfl) d_CB_exchangeSpare_19 (fun H locs hZ => ?_)
  have hZ : sZ (dC, dI) vCl 52 ad (fun q => N0 ≤ q) s.heap (va_up w1 0 (.inr (2, [.ref (ad 1), .ref (ad 34), .ref (ad (bb kj))]))) H locs := hZ
  have h0 : va_up w1 0 (.inr (2, [.ref (ad 1), .ref (ad 34), .ref (ad (bb kj))])) 0 = .inr (2, [.ref (ad 1), .ref (ad 34), .ref (ad (bb kj))]) := va_up_self _ _ _
  have h1 : va_up w1 0 (.inr (2, [.ref (ad 1), .ref (ad 34), .ref (ad (bb kj))])) 1 = .inl (cB, 8, .inr (.inr (.inr (.inr (va_up f j (some (ad (bb sp)))))))) := (va_up_ne _ _ (by decide)).trans h1
  have hkp : ∀ x, 2 ≤ x → va_up w1 0 (.inr (2, [.ref (ad 1), .ref (ad 34), .ref (ad (bb kj))])) x = w x := fun x hx => (va_up_ne _ _ (by omega)).trans (hkp x hx)
  exact q_vret hx hb hr hlocks hK hAm hZ hN (⟨h0, h1, hkp⟩) d_CB_exchangeSpare_22
set_option maxHeartbeats 4000000 in
set_option maxRecDepth 100000 in
theorem c_CB_combine (l : Launch) (dC : Nat → ClassId) (dI : Nat → Nat → Nat) (cI cL cB : ClassId) (ad : Nat → Nat) (N0 : Nat) (w : Nat → va_E) (F : Nat → Int → Int64) (ja jb jc hw : Nat) (hC : sC ad cI cL cB w F) (hja : ja < 8) (hjb : jb < 8) (hjc : jc < 8) (hh : hw ≤ 2) : Met l y_CB_combine ws_CB_combine ({ frames := 5, cells := 0, slots := 0, locals := 121 } : Room) (va_Pc [.ref (ad 0), .int (nI ja), .int (nI jb), .int (nI jc), .int (nI hw)] (sPr (dC, dI) vCl [(cI, .int), (cL, .long), (cB, .object "CoinBag$Bag")] 52 ad N0 w)) (va_Qi (fun r u => ((((∀ y, fH hw (F ja y) (F jb y)) ∧ eC (gH hw (F ja) (F jb))) ∧ r = 1 ∧ sC ad cI cL cB u (va_up F jc (gH hw (F ja) (F jb)))) ∨ (¬ ((∀ y, fH hw (F ja y) (F jb y)) ∧ eC (gH hw (F ja) (F jb))) ∧ r = 0 ∧ sC ad cI cL cB u F)) ∧ ∀ y, 43 ≤ y → u y = w y) (sPr (dC, dI) vCl [(cI, .int), (cL, .long), (cB, .object "CoinBag$Bag")] 52 ad N0) (fun q => N0 ≤ q)) 0 0 (fun q => N0 ≤ q) := by
  refine Met.ofW (cc := b_CB_combine) (maxL := 10) (ret := (some .boolean)) (by decide) rfl ?_
  intro p e s m args below meth c s₁ B hml hv
  obtain ⟨rfl, hP, hK, hD, hN, hAm⟩ := hv
  have hx := B.exec
  have hb := B.bytes
  have hr := B.returns
  have hts := atoms_spec (ws := ws_CB_combine) B.pre
  have hown : s.vm.findClass "CoinBag" = some m.cls := findClass_of_methodNamed B.named
  have hlocks := B.notSynchronized
  have hZ : sZ (dC, dI) vCl 52 ad (fun q => N0 ≤ q) s.heap w s.heap [] := ⟨hP, hD, va_S.rf⟩
  have hl := lv_entry ([.ref (ad 0), .int (nI ja), .int (nI jb), .int (nI jc), .int (nI hw)]) (n := 10) (Nat.le_of_ble_eq_true rfl)
  rw [lg_entry_eq]
  generalize (lg_sl ([.ref (ad 0), .int (nI ja), .int (nI jb), .int (nI jc), .int (nI hw)]) ++ List.replicate (10 - (lg_sl ([.ref (ad 0), .int (nI ja), .int (nI jb), .int (nI jc), .int (nI hw)])).length) Slot.unset).toArray = ls at hl ⊢
  have hl : lv_has ls 10 [(0, .ref (ad 0)), (1, .int (nI ja)), (2, .int (nI jb)), (3, .int (nI jc)), (4, .int (nI hw))] := hl
  obtain ⟨f, pi, sp, hX⟩ := hC
  have hX : sCx ad cI cL cB w F f pi sp := hX
  obtain ⟨h0, h1, hf, hpi, hinj, hsp, hbg, hspb, hprs⟩ := id hX
  obtain ⟨zs, Ps, Ns, As, hS⟩ := hspb
  have hch : ch2 w w sp := ch2_rf
  obtain ⟨za, Pa, Na, Aa, hBa, hRa⟩ := hbg ja hja
  have hka := (hpi ja hja).1
  have hza : za ≤ 64 := hBa.2.2.2.2
  obtain ⟨zb, Pb, Nb, Ab, hBb, hRb⟩ := hbg jb hjb
  have hkb := (hpi jb hjb).1
  have hzb : zb ≤ 64 := hBb.2.2.2.2
  refine lv_iload_n hx hb d_CB_combine_0 rfl (lv_at hl 1 rfl) ?_
  refine q_callSv (va_runS (As := [.int (nI ja)]) (rest := []) ⟨hx, hb, hml, hown, hts⟩ (c_CB_requireBag l ja hja) (va_cwS 1 hts (gI_S k_120 k_118 k_119 k_21) rfl rfl rfl (by decide +kernel) ⟨Nat.le_of_ble_eq_true rfl, Nat.le_of_ble_eq_true rfl⟩) ⟨fun _ _ _ _ q => q, fun _ _ _ => ⟨rfl, trivial⟩⟩ rfl rfl hl.1 rfl (lv_room (Nat.le_of_ble_eq_true rfl)) d_CB_combine_1 ⟨Nat.zero_le _, Nat.zero_le _⟩) ?_
  refine lv_iload_n hx hb d_CB_combine_4 rfl (lv_at hl 2 rfl) ?_
  refine q_callSv (va_runS (As := [.int (nI jb)]) (rest := []) ⟨hx, hb, hml, hown, hts⟩ (c_CB_requireBag l jb hjb) (va_cwS 1 hts (gI_S k_120 k_118 k_119 k_21) rfl rfl rfl (by decide +kernel) ⟨Nat.le_of_ble_eq_true rfl, Nat.le_of_ble_eq_true rfl⟩) ⟨fun _ _ _ _ q => q, fun _ _ _ => ⟨rfl, trivial⟩⟩ rfl rfl hl.1 rfl (lv_room (Nat.le_of_ble_eq_true rfl)) d_CB_combine_5 ⟨Nat.zero_le _, Nat.zero_le _⟩) ?_
  refine lv_iload_n hx hb d_CB_combine_8 rfl (lv_at hl 3 rfl) ?_
  refine q_callSv (va_runS (As := [.int (nI jc)]) (rest := []) ⟨hx, hb, hml, hown, hts⟩ (c_CB_requireBag l jc hjc) (va_cwS 1 hts (gI_S k_120 k_118 k_119 k_21) rfl rfl rfl (by decide +kernel) ⟨Nat.le_of_ble_eq_true rfl, Nat.le_of_ble_eq_true rfl⟩) ⟨fun _ _ _ _ q => q, fun _ _ _ => ⟨rfl, trivial⟩⟩ rfl rfl hl.1 rfl (lv_room (Nat.le_of_ble_eq_true rfl)) d_CB_combine_9 ⟨Nat.zero_le _, Nat.zero_le _⟩) ?_
  refine lv_aload_n hx hb d_CB_combine_12 rfl (lv_at hl 0 rfl) ?_
  refine q_get (C := R_CB) (T := T_CB) (N := 3) hx hb hts (fun w h => gm (inT_CB w h)) hown hK hZ (0) (by decide) h0 rfl 1 (by decide) (hts _ (gm k_100)) (fun _ h9 => h9) rfl d_CB_combine_13 ?_
  refine lv_aload_n hx hb d_CB_combine_16 rfl (lv_at hl 0 rfl) ?_
  refine q_get (C := R_CB) (T := T_CB) (N := 3) hx hb hts (fun w h => gm (inT_CB w h)) hown hK hZ (0) (by decide) h0 rfl 0 (by decide) (hts _ (gm k_99)) (fun _ h9 => h9) rfl d_CB_combine_17 ?_
  refine lv_iload_n hx hb d_CB_combine_20 rfl (lv_at hl 1 rfl) ?_
  refine q_aald hx hb hK hZ (1) 2 (ja) (by decide) h1 rfl rfl hja (by decide) (hf ja hja) d_CB_combine_21 ?_
  refine lv_aload_n hx hb d_CB_combine_22 rfl (lv_at hl 0 rfl) ?_
  refine q_get (C := R_CB) (T := T_CB) (N := 3) hx hb hts (fun w h => gm (inT_CB w h)) hown hK hZ (0) (by decide) h0 rfl 0 (by decide) (hts _ (gm k_99)) (fun _ h9 => h9) rfl d_CB_combine_23 ?_
  refine lv_iload_n hx hb d_CB_combine_26 rfl (lv_at hl 2 rfl) ?_
  refine q_aald hx hb hK hZ (1) 2 (jb) (by decide) h1 rfl rfl hjb (by decide) (hf jb hjb) d_CB_combine_27 ?_
  obtain ⟨d0, P0, N1, L0, R0, hPr⟩ := hprs
  refine q_callv (va_runV (As := [.ref (ad (bb (pi ja))), .ref (ad (bb (pi jb)))]) (rest := []) ⟨hx, hb, hml, hown, hts⟩ (c_Prs_align l dC dI cI cL cB ad N0 w (pi ja) za Pa Na Aa (pi jb) zb Pb Nb Ab (F ja) (F jb) d0 P0 N1 L0 R0 hka hBa hkb hBb hRa hRb hPr) (cwV 2 hts (gI_V k_274 k_271 k_272 k_273 k_23) rfl rfl rfl (by decide +kernel) ⟨Nat.le_of_ble_eq_true rfl, Nat.le_of_ble_eq_true rfl⟩) (q_preV hK hAm hZ hN [.ref (ad (bb (pi ja))), .ref (ad (bb (pi jb)))] (34) 1 (by decide) hPr.1 rfl) rfl rfl hl.1 rfl (lv_room (Nat.le_of_ble_eq_true rfl)) d_CB_combine_28 ⟨Nat.zero_le _, Nat.zero_le _⟩) hZ (fun u_g H locs h_g hZ => ?_)
  obtain ⟨hfg, d, P, N, L, R, hPr, hp⟩ := h_g
  have hch := ch2_p hch hfg
  have h0 := ch2_0 hX hch
  have h1 := ch2_1 hX hch
  have hS := hS.fr hfg (by have := bb_r hsp; omega)
  have hd : d ≤ 128 := hPr.2.2.2.2.2
  refine lv_aload_n hx hb d_CB_combine_31 rfl (lv_at hl 0 rfl) ?_
  refine q_get (C := R_CB) (T := T_CB) (N := 3) hx hb hts (fun w h => gm (inT_CB w h)) hown hK hZ (0) (by decide) h0 rfl 2 (by decide) (hts _ (gm k_101)) (fun _ h9 => h9) rfl d_CB_combine_32 ?_
  refine q_callv (va_runV (As := []) (rest := []) ⟨hx, hb, hml, hown, hts⟩ (c_Bag_empty l dC dI cI cL cB ad N0 u_g sp zs Ps Ns As hsp hS) (cwV 0 hts (gI_V k_282 k_279 k_280 k_281 k_22) rfl rfl rfl (by decide +kernel) ⟨Nat.le_of_ble_eq_true rfl, Nat.le_of_ble_eq_true rfl⟩) (q_preV hK hAm hZ hN [] (bb sp) 0 (by have := bb_r hsp; omega) hS.1 rfl) rfl rfl hl.1 rfl (lv_room (Nat.le_of_ble_eq_true rfl)) d_CB_combine_35 ⟨Nat.zero_le _, Nat.zero_le _⟩) hZ (fun u_e H locs h_e hZ => ?_)
  obtain ⟨hS, hfe⟩ := h_e
  have hch := ch2_b hch hfe
  have h0 := ch2_0 hX hch
  have h1 := ch2_1 hX hch
  refine lv_iconst (v := (nI 0)) hx hb d_CB_combine_38 rfl ?_
  refine lv_istore (lv' := [(5, .int (nI 0)), (0, .ref (ad 0)), (1, .int (nI ja)), (2, .int (nI jb)), (3, .int (nI jc)), (4, .int (nI hw))]) hx hb d_CB_combine_39 hl (by decide) rfl (fun ls hl => ?_)
  have loop41 : ∀ (fu41 : Nat) (i zs : Nat) (Ps : Nat → Int32) (Ns As : Nat → Int64) (u : Nat → va_E) (H : Heap) (locs : List Loc) (ls : Array Slot), (i ≤ d) → (d + 1 ≤ i + fu41) → (isBag ad cI cL u sp zs Ps Ns As) → (cRep zs Ps Ns As (gS (gH hw (F ja) (F jb)) (sU (kk P N) i))) → (∀ y, y < i → fH hw (L y) (R y)) → (isPrs ad cI cL u d P N L R) → (ch2 w u sp) → sZ (dC, dI) vCl 52 ad (fun q => N0 ≤ q) s.heap u H locs → lv_has ls 10 [(5, .int (nI i)), (0, .ref (ad 0)), (3, .int (nI jc)), (4, .int (nI hw))] → W p l e (headSpec ws_CB_combine ({ frames := 5, cells := 0, slots := 0, locals := 121 } : Room)).room s m ([.ref (ad 0), .int (nI ja), .int (nI jb), .int (nI jc), .int (nI hw)]).toArray below meth c H locs 0 0 (MQ below (va_Qi (fun r u => ((((∀ y, fH hw (F ja y) (F jb y)) ∧ eC (gH hw (F ja) (F jb))) ∧ r = 1 ∧ sC ad cI cL cB u (va_up F jc (gH hw (F ja) (F jb)))) ∨ (¬ ((∀ y, fH hw (F ja y) (F jb y)) ∧ eC (gH hw (F ja) (F jb))) ∧ r = 0 ∧ sC ad cI cL cB u F)) ∧ ∀ y, 43 ≤ y → u y = w y) (sPr (dC, dI) vCl [(cI, .int), (cL, .long), (cB, .object "CoinBag$Bag")] 52 ad N0) (fun q => N0 ≤ q)) ([.ref (ad 0), .int (nI ja), .int (nI jb), .int (nI jc), .int (nI hw)]).toArray s 0 0 (fun q => N0 ≤ q)) (F0 m 41 ls []) := by
    intro fu41
    induction fu41 with
    | zero =>
      intro i zs Ps Ns As u H locs ls hi hf9 hS hR hok hPr hch
      omega
    | succ fu41 ih41 =>
      intro i zs Ps Ns As u H locs ls hi hf9 hS hR hok hPr hch hZ hl
      have h0 := ch2_0 hX hch
      have h1 := ch2_1 hX hch
      refine lv_iload hx hb d_CB_combine_41 (lv_at hl 0 rfl) ?_
      refine lv_aload_n hx hb d_CB_combine_43 rfl (lv_at hl 1 rfl) ?_
      refine q_get (C := R_CB) (T := T_CB) (N := 3) hx hb hts (fun w h => gm (inT_CB w h)) hown hK hZ (0) (by decide) h0 rfl 1 (by decide) (hts _ (gm k_100)) (fun _ h9 => h9) rfl d_CB_combine_44 ?_
      refine q_get (C := R_Prs) (T := T_Prs) (N := 5) hx hb hts (fun w h => gm (inT_Prs w h)) hown hK hZ (34) (by decide) hPr.1 rfl 4 (by decide) (hts _ (gm k_87)) (fun _ h9 => h9) rfl d_CB_combine_47 ?_
      refine lv_icmp_ge (tgt := 138) hx hb d_CB_combine_50 (by decide) (fun h50 => ?_) (fun h50 => ?_)
      · skip
        have h50 : d ≤ i := (nI_leI (a := d) (b := i) (by omega) (by omega)).mp h50
        have ei : i = d := by omega
        rw [ei] at hR hok
        have hRe := lay_end hR (gH_cov hp)
        refine lv_aload_n hx hb d_CB_combine_138 rfl (lv_at hl 1 rfl) ?_
        refine lv_iload_n hx hb d_CB_combine_139 rfl (lv_at hl 2 rfl) ?_
        refine q_callv (va_runV (As := [.int (nI jc)]) (rest := []) ⟨hx, hb, hml, hown, hts⟩ (c_CB_exchangeSpare l dC dI cI cL cB ad N0 u f sp (pi jc) jc zs Ps Ns As h0 h1 hjc (hf jc hjc) hsp hS) (cwV 1 hts (gI_V k_302 k_299 k_301 k_6 k_21) rfl rfl rfl (by decide +kernel) ⟨Nat.le_of_ble_eq_true rfl, Nat.le_of_ble_eq_true rfl⟩) (q_preV hK hAm hZ hN [.int (nI jc)] (0) 2 (by decide) h0 rfl) rfl rfl hl.1 rfl (lv_room (Nat.le_of_ble_eq_true rfl)) d_CB_combine_140 ⟨Nat.zero_le _, Nat.zero_le _⟩) hZ (fun u_x H locs h_x hZ => ?_)
        have hsw := fun G hR hP => sC_swap (G := G) hX hch hjc hS hR hP h_x.1 h_x.2.1 h_x.2.2
        have hkp : ∀ y, 43 ≤ y → u_x y = w y := fun y hy => (h_x.2.2 y (by omega)).trans (hch y (by omega) (by have := bb_r hsp; omega))
        refine lv_iconst (v := (nI 1)) hx hb d_CB_combine_143 rfl ?_
        exact q_zret hx hb hr rfl hlocks hK hAm hZ hN (⟨Or.inl ⟨⟨fH_all hp hok, cRep_C hRe⟩, rfl, hsw _ hRe ⟨_, _, _, _, _, hPr⟩⟩, hkp⟩) d_CB_combine_144
      · skip
        have h50 : i < d := Nat.lt_of_not_le (fun z9 => h50 ((nI_leI (a := d) (b := i) (by omega) (by omega)).mpr z9))
        refine lv_aload_n hx hb d_CB_combine_53 rfl (lv_at hl 1 rfl) ?_
        refine q_get (C := R_CB) (T := T_CB) (N := 3) hx hb hts (fun w h => gm (inT_CB w h)) hown hK hZ (0) (by decide) h0 rfl 1 (by decide) (hts _ (gm k_100)) (fun _ h9 => h9) rfl d_CB_combine_54 ?_
        refine q_get (C := R_Prs) (T := T_Prs) (N := 5) hx hb hts (fun w h => gm (inT_Prs w h)) hown hK hZ (34) (by decide) hPr.1 rfl 2 (by decide) (hts _ (gm k_83)) (fun _ h9 => h9) rfl d_CB_combine_57 ?_
        refine lv_iload hx hb d_CB_combine_60 (lv_at hl 0 rfl) ?_
        refine q_lald hx hb hK hZ (37) 1 (i) (by decide) hPr.2.2.2.1 rfl rfl (by omega) (by decide) d_CB_combine_62 ?_
        refine lv_lstore (lv' := [(6, .long (L i)), (5, .int (nI i)), (0, .ref (ad 0)), (3, .int (nI jc)), (4, .int (nI hw))]) hx hb d_CB_combine_63 hl (by decide) rfl (fun ls hl => ?_)
        refine lv_aload_n hx hb d_CB_combine_65 rfl (lv_at hl 2 rfl) ?_
        refine q_get (C := R_CB) (T := T_CB) (N := 3) hx hb hts (fun w h => gm (inT_CB w h)) hown hK hZ (0) (by decide) h0 rfl 1 (by decide) (hts _ (gm k_100)) (fun _ h9 => h9) rfl d_CB_combine_66 ?_
        refine q_get (C := R_Prs) (T := T_Prs) (N := 5) hx hb hts (fun w h => gm (inT_Prs w h)) hown hK hZ (34) (by decide) hPr.1 rfl 3 (by decide) (hts _ (gm k_85)) (fun _ h9 => h9) rfl d_CB_combine_69 ?_
        refine lv_iload hx hb d_CB_combine_72 (lv_at hl 1 rfl) ?_
        refine q_lald hx hb hK hZ (38) 1 (i) (by decide) hPr.2.2.2.2.1 rfl rfl (by omega) (by decide) d_CB_combine_74 ?_
        refine lv_lstore (lv' := [(8, .long (R i)), (6, .long (L i)), (5, .int (nI i)), (0, .ref (ad 0)), (3, .int (nI jc)), (4, .int (nI hw))]) hx hb d_CB_combine_75 hl (by decide) rfl (fun ls hl => ?_)
        refine lv_iload hx hb d_CB_combine_77 (lv_at hl 5 rfl) ?_
        refine lv_lload hx hb d_CB_combine_79 (lv_at hl 1 rfl) ?_
        refine lv_lload hx hb d_CB_combine_81 (lv_at hl 0 rfl) ?_
        refine q_callSi (va_runS (As := [.int (nI hw), .long (L i), .long (R i)]) (rest := []) ⟨hx, hb, hml, hown, hts⟩ (c_CB_fits l _ _ _ hh) (va_cwS 3 hts (gI_S k_285 k_283 k_284 k_21) rfl rfl rfl (by decide +kernel) ⟨Nat.le_of_ble_eq_true rfl, Nat.le_of_ble_eq_true rfl⟩) ⟨fun _ _ _ _ q => q, fun _ _ _ => ⟨rfl, trivial⟩⟩ rfl rfl hl.1 rfl (lv_room (Nat.le_of_ble_eq_true rfl)) d_CB_combine_83 ⟨Nat.zero_le _, Nat.zero_le _⟩) (fun t h_t => ?_)
        refine lv_if_ne (tgt := 91) hx hb d_CB_combine_86 (by decide) (fun h86 => ?_) (fun h86 => ?_)
        · skip
          have h_t1 : fH hw (L i) (R i) := h_t.elim (fun y => y.1) (fun y => absurd y.2 h86)
          refine lv_aload_n hx hb d_CB_combine_91 rfl (lv_at hl 3 rfl) ?_
          refine q_get (C := R_CB) (T := T_CB) (N := 3) hx hb hts (fun w h => gm (inT_CB w h)) hown hK hZ (0) (by decide) h0 rfl 2 (by decide) (hts _ (gm k_101)) (fun _ h9 => h9) rfl d_CB_combine_92 ?_
          refine lv_aload_n hx hb d_CB_combine_95 rfl (lv_at hl 3 rfl) ?_
          refine q_get (C := R_CB) (T := T_CB) (N := 3) hx hb hts (fun w h => gm (inT_CB w h)) hown hK hZ (0) (by decide) h0 rfl 1 (by decide) (hts _ (gm k_100)) (fun _ h9 => h9) rfl d_CB_combine_96 ?_
          refine q_get (C := R_Prs) (T := T_Prs) (N := 5) hx hb hts (fun w h => gm (inT_Prs w h)) hown hK hZ (34) (by decide) hPr.1 rfl 0 (by decide) (hts _ (gm k_79)) (fun _ h9 => h9) rfl d_CB_combine_99 ?_
          refine lv_iload hx hb d_CB_combine_102 (lv_at hl 2 rfl) ?_
          refine q_iald hx hb hK hZ (35) 0 (i) (by decide) hPr.2.1 rfl rfl (by omega) (by decide) d_CB_combine_104 ?_
          refine lv_aload_n hx hb d_CB_combine_105 rfl (lv_at hl 3 rfl) ?_
          refine q_get (C := R_CB) (T := T_CB) (N := 3) hx hb hts (fun w h => gm (inT_CB w h)) hown hK hZ (0) (by decide) h0 rfl 1 (by decide) (hts _ (gm k_100)) (fun _ h9 => h9) rfl d_CB_combine_106 ?_
          refine q_get (C := R_Prs) (T := T_Prs) (N := 5) hx hb hts (fun w h => gm (inT_Prs w h)) hown hK hZ (34) (by decide) hPr.1 rfl 1 (by decide) (hts _ (gm k_81)) (fun _ h9 => h9) rfl d_CB_combine_109 ?_
          refine lv_iload hx hb d_CB_combine_112 (lv_at hl 2 rfl) ?_
          refine q_lald hx hb hK hZ (36) 1 (i) (by decide) hPr.2.2.1 rfl rfl (by omega) (by decide) d_CB_combine_114 ?_
          refine lv_iload hx hb d_CB_combine_115 (lv_at hl 5 rfl) ?_
          refine lv_lload hx hb d_CB_combine_117 (lv_at hl 1 rfl) ?_
          refine lv_lload hx hb d_CB_combine_119 (lv_at hl 0 rfl) ?_
          have eG : cH hw (L i) (R i) = gH hw (F ja) (F jb) (kk P N i) := by show _ = cH hw _ _; rw [(hp.2.1 i h50).1, (hp.2.1 i h50).2]
          refine q_callSl (va_runS (As := [.int (nI hw), .long (L i), .long (R i)]) (rest := [.long (N i), .int (P i), .ref (ad (bb sp))]) ⟨hx, hb, hml, hown, hts⟩ (c_CB_combined l _ _ _ hh) (va_cwS 3 hts (gI_S k_291 k_289 k_290 k_21) rfl rfl rfl (by decide +kernel) ⟨Nat.le_of_ble_eq_true rfl, Nat.le_of_ble_eq_true rfl⟩) ⟨fun _ _ _ _ q => q, fun _ _ _ => ⟨rfl, trivial⟩⟩ rfl rfl hl.1 rfl (lv_room (Nat.le_of_ble_eq_true rfl)) d_CB_combine_121 ⟨Nat.zero_le _, Nat.zero_le _⟩) (fun v h_v => ?_)
          subst h_v
          refine q_calli (va_runV (As := [.int (P i), .long (N i), .long (cH hw (L i) (R i))]) (rest := []) ⟨hx, hb, hml, hown, hts⟩ (c_Bag_append l dC dI cI cL cB ad N0 u sp zs Ps Ns As (P i) (N i) (cH hw (L i) (R i)) hsp hS) (cwV 3 hts (gI_V k_298 k_295 k_296 k_297 k_22) rfl rfl rfl (by decide +kernel) ⟨Nat.le_of_ble_eq_true rfl, Nat.le_of_ble_eq_true rfl⟩) (q_preV hK hAm hZ hN [.int (P i), .long (N i), .long (cH hw (L i) (R i))] (bb sp) 0 (by have := bb_r hsp; omega) hS.1 rfl) rfl rfl hl.1 rfl (lv_room (Nat.le_of_ble_eq_true rfl)) d_CB_combine_124 ⟨Nat.zero_le _, Nat.zero_le _⟩) hZ (fun r u_r H locs h_r hZ => ?_)
          rcases h_r with ⟨ha, hr1, hu⟩ | ⟨ha, hb9, hr1, hu⟩ | ⟨ha, hb9, hr1, hS9, hfa⟩
          · skip
            subst hr1
            rw [hu] at hZ
            refine lv_if_ne (tgt := 132) hx hb d_CB_combine_127 (by decide) (fun h127 => ?_) (fun h127 => ?_)
            · skip
              have h127 : ¬ 1 = 0 := fun z9 => h127 ((nI_eq (a := 1) (b := 0) (by omega) (by omega)).mpr z9)
              refine lv_iinc (v := (nI (i + 1))) (lv' := [(5, .int (nI (i + 1))), (8, .long (R i)), (6, .long (L i)), (0, .ref (ad 0)), (3, .int (nI jc)), (4, .int (nI hw))]) hx hb d_CB_combine_132 hl (k := 2) rfl (nI_1 _) (by decide) rfl (fun ls hl => ?_)
              refine lv_goto (tgt := 41) hx hb d_CB_combine_135 (by decide) ?_
              exact ih41 (i + 1) zs Ps Ns As u _ _ _ (by omega) (by omega) hS (lay_n hR (by rw [← eG]; exact ha)) (lt_s hok h_t1) hPr hch hZ (lv_sub hl [0, 3, 4, 5] rfl)
            · skip
              have h127 : 1 = 0 := (nI_eq (a := 1) (b := 0) (by omega) (by omega)).mp h127
              exact absurd h127 (by decide)
          · skip
            subst hr1
            rw [hu] at hZ
            refine lv_if_ne (tgt := 132) hx hb d_CB_combine_127 (by decide) (fun h127 => ?_) (fun h127 => ?_)
            · skip
              have h127 : ¬ 0 = 0 := fun z9 => h127 ((nI_eq (a := 0) (b := 0) (by omega) (by omega)).mpr z9)
              exact absurd rfl h127
            · skip
              have h127 : 0 = 0 := (nI_eq (a := 0) (b := 0) (by omega) (by omega)).mp h127
              refine lv_iconst (v := (nI 0)) hx hb d_CB_combine_130 rfl ?_
              exact q_zret hx hb hr rfl hlocks hK hAm hZ hN (⟨Or.inr ⟨fun y => lay_full hR hp.1 h50 hb9 (by rw [← eG]; exact ha) y.2, rfl, sC_spare hX hch ⟨_, _, _, _, hS⟩ ⟨_, _, _, _, _, hPr⟩⟩, fun y hy => hch y (by omega) (by have := bb_r hsp; omega)⟩) d_CB_combine_131
          · skip
            subst hr1
            have hch := ch2_b hch hfa
            have h0 := ch2_0 hX hch
            have h1 := ch2_1 hX hch
            refine lv_if_ne (tgt := 132) hx hb d_CB_combine_127 (by decide) (fun h127 => ?_) (fun h127 => ?_)
            · skip
              have h127 : ¬ 1 = 0 := fun z9 => h127 ((nI_eq (a := 1) (b := 0) (by omega) (by omega)).mpr z9)
              refine lv_iinc (v := (nI (i + 1))) (lv' := [(5, .int (nI (i + 1))), (8, .long (R i)), (6, .long (L i)), (0, .ref (ad 0)), (3, .int (nI jc)), (4, .int (nI hw))]) hx hb d_CB_combine_132 hl (k := 2) rfl (nI_1 _) (by decide) rfl (fun ls hl => ?_)
              refine lv_goto (tgt := 41) hx hb d_CB_combine_135 (by decide) ?_
              exact ih41 (i + 1) _ _ _ _ u_r _ _ _ (by omega) (by omega) hS9 (by have h7 := lay_y hR hp.1 h50 rfl hb9 (by rw [← eG]; exact ha); rw [← eG] at h7; exact h7) (lt_s hok h_t1) (hPr.fr hfa (by have := bb_r hsp; omega)) hch hZ (lv_sub hl [0, 3, 4, 5] rfl)
            · skip
              have h127 : 1 = 0 := (nI_eq (a := 1) (b := 0) (by omega) (by omega)).mp h127
              exact absurd h127 (by decide)
        · skip
          have h_t0 : ¬ fH hw (L i) (R i) := h_t.elim (fun y => absurd (y.2.symm.trans h86) (by decide)) (fun y => y.1)
          refine lv_iconst (v := (nI 0)) hx hb d_CB_combine_89 rfl ?_
          exact q_zret hx hb hr rfl hlocks hK hAm hZ hN (⟨Or.inr ⟨fun y => h_t0 (by rw [(hp.2.1 i h50).1, (hp.2.1 i h50).2]; exact y.1 _), rfl, sC_spare hX hch ⟨_, _, _, _, hS⟩ ⟨_, _, _, _, _, hPr⟩⟩, fun y hy => hch y (by omega) (by have := bb_r hsp; omega)⟩) d_CB_combine_90
  exact loop41 (d + 1) 0 0 Ps Ns As u_e _ _ _ (Nat.zero_le d) (by omega) hS (lay_0 _ _ _) (fun y hy => absurd hy (Nat.not_lt_zero _)) (hPr.fr hfe (by have := bb_r hsp; omega)) hch hZ (lv_sub hl [0, 1, 4, 5] rfl)
set_option maxHeartbeats 4000000 in
set_option maxRecDepth 100000 in
theorem c_CB_sum (l : Launch) (dC : Nat → ClassId) (dI : Nat → Nat → Nat) (cI cL cB : ClassId) (ad : Nat → Nat) (N0 : Nat) (w : Nat → va_E) (F : Nat → Int → Int64) (ja jb jc : Nat) (hC : sC ad cI cL cB w F) (hja : ja < 8) (hjb : jb < 8) (hjc : jc < 8) : Met l y_CB_sum ws_CB_sum ({ frames := 6, cells := 0, slots := 0, locals := 150 } : Room) (va_Pc [.ref (ad 0), .int (nI ja), .int (nI jb), .int (nI jc)] (sPr (dC, dI) vCl [(cI, .int), (cL, .long), (cB, .object "CoinBag$Bag")] 52 ad N0 w)) (va_Qi (fun r u => ((((∀ y, fH 0 (F ja y) (F jb y)) ∧ eC (gH 0 (F ja) (F jb))) ∧ r = 1 ∧ sC ad cI cL cB u (va_up F jc (gH 0 (F ja) (F jb)))) ∨ (¬ ((∀ y, fH 0 (F ja y) (F jb y)) ∧ eC (gH 0 (F ja) (F jb))) ∧ r = 0 ∧ sC ad cI cL cB u F)) ∧ ∀ y, 43 ≤ y → u y = w y) (sPr (dC, dI) vCl [(cI, .int), (cL, .long), (cB, .object "CoinBag$Bag")] 52 ad N0) (fun q => N0 ≤ q)) 0 0 (fun q => N0 ≤ q) := by
  refine Met.ofW (cc := b_CB_sum) (maxL := 4) (ret := (some .boolean)) (by decide) rfl ?_
  intro p e s m args below meth c s₁ B hml hv
  obtain ⟨rfl, hP, hK, hD, hN, hAm⟩ := hv
  have hx := B.exec
  have hb := B.bytes
  have hr := B.returns
  have hts := atoms_spec (ws := ws_CB_sum) B.pre
  have hown : s.vm.findClass "CoinBag" = some m.cls := findClass_of_methodNamed B.named
  have hlocks := B.notSynchronized
  have hZ : sZ (dC, dI) vCl 52 ad (fun q => N0 ≤ q) s.heap w s.heap [] := ⟨hP, hD, va_S.rf⟩
  have hl := lv_entry ([.ref (ad 0), .int (nI ja), .int (nI jb), .int (nI jc)]) (n := 4) (Nat.le_of_ble_eq_true rfl)
  rw [lg_entry_eq]
  generalize (lg_sl ([.ref (ad 0), .int (nI ja), .int (nI jb), .int (nI jc)]) ++ List.replicate (4 - (lg_sl ([.ref (ad 0), .int (nI ja), .int (nI jb), .int (nI jc)])).length) Slot.unset).toArray = ls at hl ⊢
  have hl : lv_has ls 4 [(0, .ref (ad 0)), (1, .int (nI ja)), (2, .int (nI jb)), (3, .int (nI jc))] := hl
  obtain ⟨f, pi, sp, hX⟩ := hC
  have hX : sCx ad cI cL cB w F f pi sp := hX
  obtain ⟨h0, h1, hf, hpi, hinj, hsp, hbg, hspb, hprs⟩ := id hX
  refine lv_aload_n hx hb d_CB_sum_0 rfl (lv_at hl 0 rfl) ?_
  refine lv_iload_n hx hb d_CB_sum_1 rfl (lv_at hl 1 rfl) ?_
  refine lv_iload_n hx hb d_CB_sum_2 rfl (lv_at hl 2 rfl) ?_
  refine lv_iload_n hx hb d_CB_sum_3 rfl (lv_at hl 3 rfl) ?_
  refine lv_iconst (v := (nI 0)) hx hb d_CB_sum_4 rfl ?_
  refine q_calli (va_runV (As := [.int (nI ja), .int (nI jb), .int (nI jc), .int (nI 0)]) (rest := []) ⟨hx, hb, hml, hown, hts⟩ (c_CB_combine l dC dI cI cL cB ad N0 w F ja jb jc 0 (sC_of hX) hja hjb hjc (by decide)) (cwV 4 hts (gI_V k_270 k_267 k_269 k_5 k_21) rfl rfl rfl (by decide +kernel) ⟨Nat.le_of_ble_eq_true rfl, Nat.le_of_ble_eq_true rfl⟩) (q_preV hK hAm hZ hN [.int (nI ja), .int (nI jb), .int (nI jc), .int (nI 0)] (0) 2 (by decide) h0 rfl) rfl rfl hl.1 rfl (lv_room (Nat.le_of_ble_eq_true rfl)) d_CB_sum_5 ⟨Nat.zero_le _, Nat.zero_le _⟩) hZ (fun r u_r H locs h_r hZ => ?_)
  exact q_zret hx hb hr (show narrow .boolean (.int r) = .int r from by rcases h_r.1 with ⟨_, e9, _⟩ | ⟨_, e9, _⟩ <;> rw [e9] <;> rfl) hlocks hK hAm hZ hN (h_r) d_CB_sum_8
set_option maxHeartbeats 4000000 in
set_option maxRecDepth 100000 in
theorem c_CB_less (l : Launch) (dC : Nat → ClassId) (dI : Nat → Nat → Nat) (cI cL cB : ClassId) (ad : Nat → Nat) (N0 : Nat) (w : Nat → va_E) (F : Nat → Int → Int64) (ja jb jc : Nat) (hC : sC ad cI cL cB w F) (hja : ja < 8) (hjb : jb < 8) (hjc : jc < 8) : Met l y_CB_less ws_CB_less ({ frames := 6, cells := 0, slots := 0, locals := 150 } : Room) (va_Pc [.ref (ad 0), .int (nI ja), .int (nI jb), .int (nI jc)] (sPr (dC, dI) vCl [(cI, .int), (cL, .long), (cB, .object "CoinBag$Bag")] 52 ad N0 w)) (va_Qi (fun r u => ((((∀ y, fH 1 (F ja y) (F jb y)) ∧ eC (gH 1 (F ja) (F jb))) ∧ r = 1 ∧ sC ad cI cL cB u (va_up F jc (gH 1 (F ja) (F jb)))) ∨ (¬ ((∀ y, fH 1 (F ja y) (F jb y)) ∧ eC (gH 1 (F ja) (F jb))) ∧ r = 0 ∧ sC ad cI cL cB u F)) ∧ ∀ y, 43 ≤ y → u y = w y) (sPr (dC, dI) vCl [(cI, .int), (cL, .long), (cB, .object "CoinBag$Bag")] 52 ad N0) (fun q => N0 ≤ q)) 0 0 (fun q => N0 ≤ q) := by
  refine Met.ofW (cc := b_CB_less) (maxL := 4) (ret := (some .boolean)) (by decide) rfl ?_
  intro p e s m args below meth c s₁ B hml hv
  obtain ⟨rfl, hP, hK, hD, hN, hAm⟩ := hv
  have hx := B.exec
  have hb := B.bytes
  have hr := B.returns
  have hts := atoms_spec (ws := ws_CB_less) B.pre
  have hown : s.vm.findClass "CoinBag" = some m.cls := findClass_of_methodNamed B.named
  have hlocks := B.notSynchronized
  have hZ : sZ (dC, dI) vCl 52 ad (fun q => N0 ≤ q) s.heap w s.heap [] := ⟨hP, hD, va_S.rf⟩
  have hl := lv_entry ([.ref (ad 0), .int (nI ja), .int (nI jb), .int (nI jc)]) (n := 4) (Nat.le_of_ble_eq_true rfl)
  rw [lg_entry_eq]
  generalize (lg_sl ([.ref (ad 0), .int (nI ja), .int (nI jb), .int (nI jc)]) ++ List.replicate (4 - (lg_sl ([.ref (ad 0), .int (nI ja), .int (nI jb), .int (nI jc)])).length) Slot.unset).toArray = ls at hl ⊢
  have hl : lv_has ls 4 [(0, .ref (ad 0)), (1, .int (nI ja)), (2, .int (nI jb)), (3, .int (nI jc))] := hl
  obtain ⟨f, pi, sp, hX⟩ := hC
  have hX : sCx ad cI cL cB w F f pi sp := hX
  obtain ⟨h0, h1, hf, hpi, hinj, hsp, hbg, hspb, hprs⟩ := id hX
  refine lv_aload_n hx hb d_CB_less_0 rfl (lv_at hl 0 rfl) ?_
  refine lv_iload_n hx hb d_CB_less_1 rfl (lv_at hl 1 rfl) ?_
  refine lv_iload_n hx hb d_CB_less_2 rfl (lv_at hl 2 rfl) ?_
  refine lv_iload_n hx hb d_CB_less_3 rfl (lv_at hl 3 rfl) ?_
  refine lv_iconst (v := (nI 1)) hx hb d_CB_less_4 rfl ?_
  refine q_calli (va_runV (As := [.int (nI ja), .int (nI jb), .int (nI jc), .int (nI 1)]) (rest := []) ⟨hx, hb, hml, hown, hts⟩ (c_CB_combine l dC dI cI cL cB ad N0 w F ja jb jc 1 (sC_of hX) hja hjb hjc (by decide)) (cwV 4 hts (gI_V k_270 k_267 k_269 k_5 k_21) rfl rfl rfl (by decide +kernel) ⟨Nat.le_of_ble_eq_true rfl, Nat.le_of_ble_eq_true rfl⟩) (q_preV hK hAm hZ hN [.int (nI ja), .int (nI jb), .int (nI jc), .int (nI 1)] (0) 2 (by decide) h0 rfl) rfl rfl hl.1 rfl (lv_room (Nat.le_of_ble_eq_true rfl)) d_CB_less_5 ⟨Nat.zero_le _, Nat.zero_le _⟩) hZ (fun r u_r H locs h_r hZ => ?_)
  exact q_zret hx hb hr (show narrow .boolean (.int r) = .int r from by rcases h_r.1 with ⟨_, e9, _⟩ | ⟨_, e9, _⟩ <;> rw [e9] <;> rfl) hlocks hK hAm hZ hN (h_r) d_CB_less_8
set_option maxHeartbeats 4000000 in
set_option maxRecDepth 100000 in
theorem c_CB_least (l : Launch) (dC : Nat → ClassId) (dI : Nat → Nat → Nat) (cI cL cB : ClassId) (ad : Nat → Nat) (N0 : Nat) (w : Nat → va_E) (F : Nat → Int → Int64) (ja jb jc : Nat) (hC : sC ad cI cL cB w F) (hja : ja < 8) (hjb : jb < 8) (hjc : jc < 8) : Met l y_CB_least ws_CB_least ({ frames := 6, cells := 0, slots := 0, locals := 150 } : Room) (va_Pc [.ref (ad 0), .int (nI ja), .int (nI jb), .int (nI jc)] (sPr (dC, dI) vCl [(cI, .int), (cL, .long), (cB, .object "CoinBag$Bag")] 52 ad N0 w)) (va_Qi (fun r u => ((((∀ y, fH 2 (F ja y) (F jb y)) ∧ eC (gH 2 (F ja) (F jb))) ∧ r = 1 ∧ sC ad cI cL cB u (va_up F jc (gH 2 (F ja) (F jb)))) ∨ (¬ ((∀ y, fH 2 (F ja y) (F jb y)) ∧ eC (gH 2 (F ja) (F jb))) ∧ r = 0 ∧ sC ad cI cL cB u F)) ∧ ∀ y, 43 ≤ y → u y = w y) (sPr (dC, dI) vCl [(cI, .int), (cL, .long), (cB, .object "CoinBag$Bag")] 52 ad N0) (fun q => N0 ≤ q)) 0 0 (fun q => N0 ≤ q) := by
  refine Met.ofW (cc := b_CB_least) (maxL := 4) (ret := (some .boolean)) (by decide) rfl ?_
  intro p e s m args below meth c s₁ B hml hv
  obtain ⟨rfl, hP, hK, hD, hN, hAm⟩ := hv
  have hx := B.exec
  have hb := B.bytes
  have hr := B.returns
  have hts := atoms_spec (ws := ws_CB_least) B.pre
  have hown : s.vm.findClass "CoinBag" = some m.cls := findClass_of_methodNamed B.named
  have hlocks := B.notSynchronized
  have hZ : sZ (dC, dI) vCl 52 ad (fun q => N0 ≤ q) s.heap w s.heap [] := ⟨hP, hD, va_S.rf⟩
  have hl := lv_entry ([.ref (ad 0), .int (nI ja), .int (nI jb), .int (nI jc)]) (n := 4) (Nat.le_of_ble_eq_true rfl)
  rw [lg_entry_eq]
  generalize (lg_sl ([.ref (ad 0), .int (nI ja), .int (nI jb), .int (nI jc)]) ++ List.replicate (4 - (lg_sl ([.ref (ad 0), .int (nI ja), .int (nI jb), .int (nI jc)])).length) Slot.unset).toArray = ls at hl ⊢
  have hl : lv_has ls 4 [(0, .ref (ad 0)), (1, .int (nI ja)), (2, .int (nI jb)), (3, .int (nI jc))] := hl
  obtain ⟨f, pi, sp, hX⟩ := hC
  have hX : sCx ad cI cL cB w F f pi sp := hX
  obtain ⟨h0, h1, hf, hpi, hinj, hsp, hbg, hspb, hprs⟩ := id hX
  refine lv_aload_n hx hb d_CB_least_0 rfl (lv_at hl 0 rfl) ?_
  refine lv_iload_n hx hb d_CB_least_1 rfl (lv_at hl 1 rfl) ?_
  refine lv_iload_n hx hb d_CB_least_2 rfl (lv_at hl 2 rfl) ?_
  refine lv_iload_n hx hb d_CB_least_3 rfl (lv_at hl 3 rfl) ?_
  refine lv_iconst (v := (nI 2)) hx hb d_CB_least_4 rfl ?_
  refine q_calli (va_runV (As := [.int (nI ja), .int (nI jb), .int (nI jc), .int (nI 2)]) (rest := []) ⟨hx, hb, hml, hown, hts⟩ (c_CB_combine l dC dI cI cL cB ad N0 w F ja jb jc 2 (sC_of hX) hja hjb hjc (by decide)) (cwV 4 hts (gI_V k_270 k_267 k_269 k_5 k_21) rfl rfl rfl (by decide +kernel) ⟨Nat.le_of_ble_eq_true rfl, Nat.le_of_ble_eq_true rfl⟩) (q_preV hK hAm hZ hN [.int (nI ja), .int (nI jb), .int (nI jc), .int (nI 2)] (0) 2 (by decide) h0 rfl) rfl rfl hl.1 rfl (lv_room (Nat.le_of_ble_eq_true rfl)) d_CB_least_5 ⟨Nat.zero_le _, Nat.zero_le _⟩) hZ (fun r u_r H locs h_r hZ => ?_)
  exact q_zret hx hb hr (show narrow .boolean (.int r) = .int r from by rcases h_r.1 with ⟨_, e9, _⟩ | ⟨_, e9, _⟩ <;> rw [e9] <;> rfl) hlocks hK hAm hZ hN (h_r) d_CB_least_8
