/-! the class's constructor -/
theorem bb_lt8 {j : Nat} (h : j < 8) : bb j = 2 + 4 * j := if_pos h
set_option maxHeartbeats 4000000 in
set_option maxRecDepth 100000 in
theorem c_CB_init (l : Launch) (dC : Nat → ClassId) (dI : Nat → Nat → Nat) (cI cL cB : ClassId) (ad : Nat → Nat) (N0 : Nat) (had : ∀ k, ad k = N0 + k) (w : Nat → va_E) (h0 : w 0 = .inr (2, [.null, .null, .null])) : Met l y_CB_init ws_CB_init ({ frames := 2, cells := 42, slots := 2289, locals := 32 } : Room) (va_Pc [.ref (ad 0)] (fun U => sG (dC, dI) vCl [(cI, .int), (cL, .long), (cB, .object "CoinBag$Bag")] (1) ad N0 w U ∧ va_AO "CoinBag$Bag" U)) (va_Qv (fun u => sC ad cI cL cB u (fun _ _ => 0)) (sG (dC, dI) vCl [(cI, .int), (cL, .long), (cB, .object "CoinBag$Bag")] (43) ad N0) (fun q => N0 ≤ q)) 42 2289 (fun q => N0 ≤ q) := by
  refine Met.ofW (cc := b_CB_init) (maxL := 2) (ret := none) (by decide) rfl ?_
  intro p e s m args below meth c s₁ B hml hv
  obtain ⟨rfl, ⟨⟨hP, hK, hD, hN, hAm⟩, hs0⟩, hAO⟩ := hv
  have hx := B.exec
  have hb := B.bytes
  have hr := B.returns
  have hts := atoms_spec (ws := ws_CB_init) B.pre
  have hown : s.vm.findClass "CoinBag" = some m.cls := findClass_of_methodNamed B.named
  have hlocks := B.notSynchronized
  have hin2 : meth.name = "<init>" := (name_of_methodNamed B.named B.method).1
  have hZ : sZ (dC, dI) vCl (1) ad (fun q => N0 ≤ q) s.heap w s.heap [] := ⟨hP, hD, va_S.rf⟩
  have hl := lv_entry ([.ref (ad 0)]) (n := 2) (Nat.le_of_ble_eq_true rfl)
  rw [lg_entry_eq]
  generalize (lg_sl ([.ref (ad 0)]) ++ List.replicate (2 - (lg_sl ([.ref (ad 0)])).length) Slot.unset).toArray = ls at hl ⊢
  have hl : lv_has ls 2 [(0, .ref (ad 0))] := hl
  refine lv_aload_n hx hb d_CB_init_0 rfl (lv_at hl 0 rfl) ?_
  refine W.objInit hx hb hown (hts _ (gm k_39)) (hts _ (gm k_40)) (hts _ (gm k_41)) rfl (hl.1.trans hml.symm) rfl d_CB_init_1 (Nat.le_of_ble_eq_true rfl) (Nat.le_of_ble_eq_true rfl) ?_
  refine W.eq (g2 := F0 m 4 ls []) rfl ?_
  refine lv_aload_n hx hb d_CB_init_4 rfl (lv_at hl 0 rfl) ?_
  refine lv_bipush (v := nI 8) hx hb d_CB_init_5 rfl ?_
  refine q_newB (N' := 8) had hx hb hown (hts _ (gm k_42)) hAO hK hZ hN 2 rfl (by decide) (by decide) (by decide) (Nat.le_of_ble_eq_true rfl) (Nat.le_of_ble_eq_true rfl) (by omega) d_CB_init_7 (fun H hZ => ?_)
  refine W.widen (k := 1) (n := 8) (by omega) (by omega) ?_
  have hZ : sZ (dC, dI) vCl 2 ad (fun q => N0 ≤ q) s.heap (va_up w 1 (.inl (cB, 8, .inr (.inr (.inr (.inr (fun _ => none))))))) H [] := hZ
  have h1 : va_up w 1 (.inl (cB, 8, .inr (.inr (.inr (.inr (fun _ => none)))))) 1 = .inl (cB, 8, .inr (.inr (.inr (.inr (fun _ => none))))) := va_up_self _ _ _
  have h0 : va_up w 1 (.inl (cB, 8, .inr (.inr (.inr (.inr (fun _ => none)))))) 0 = .inr (2, [.null, .null, .null]) := (va_up_ne _ _ (by omega)).trans h0
  generalize va_up w 1 (.inl (cB, 8, .inr (.inr (.inr (.inr (fun _ => none)))))) = u1 at hZ h0 h1
  refine q_putF (C := R_CB) (T := T_CB) (N := 3) (ty := .array (.object "CoinBag$Bag")) (v := .ref (ad 1)) hx hb hts (fun w h => gm (inT_CB w h)) ty_CB tyo_CB nm_CB hown hK hZ (0) (by decide) h0 rfl 0 (by decide) (hts _ (gm k_99)) (fun _ h9 => h9) rfl hin2 rfl (by decide +kernel) rfl rfl (Nat.le_of_ble_eq_true rfl) d_CB_init_10 (fun H locs hZ => ?_)
  have hZ : sZ (dC, dI) vCl 2 ad (fun q => N0 ≤ q) s.heap (va_up u1 0 (.inr (2, [.ref (ad 1), .null, .null]))) H locs := hZ
  have h1 : va_up u1 0 (.inr (2, [.ref (ad 1), .null, .null])) 1 = .inl (cB, 8, .inr (.inr (.inr (.inr (fun _ => none))))) := (va_up_ne _ _ (by omega)).trans h1
  have h0 : va_up u1 0 (.inr (2, [.ref (ad 1), .null, .null])) 0 = .inr (2, [.ref (ad 1), .null, .null]) := va_up_self _ _ _
  generalize va_up u1 0 (.inr (2, [.ref (ad 1), .null, .null])) = u2 at hZ h0 h1
  refine lv_iconst (v := nI 0) hx hb d_CB_init_13 rfl ?_
  refine lv_istore_n (lv' := [(1, .int (nI 0)), (0, .ref (ad 0))]) hx hb d_CB_init_14 rfl hl (by decide) rfl (fun ls hl => ?_)
  have loop15 : ∀ (fu i : Nat) (u : Nat → va_E) (f : Nat → Option Nat) (H : Heap) (locs : List Loc) (ls : Array Slot), i ≤ 8 → 9 ≤ i + fu → u 0 = .inr (2, [.ref (ad 1), .null, .null]) → u 1 = .inl (cB, 8, .inr (.inr (.inr (.inr f)))) → (∀ j, j < i → f j = some (ad (bb j))) → (∀ j, j < i → isBag ad cI cL u j 0 (fun _ => 0) (fun _ => 0) (fun _ => 0)) → sZ (dC, dI) vCl (2 + 4 * i) ad (fun q => N0 ≤ q) s.heap u H locs → lv_has ls 2 [(1, .int (nI i)), (0, .ref (ad 0))] → W p l e (headSpec ws_CB_init ({ frames := 2, cells := 42, slots := 2289, locals := 32 } : Room)).room s m ([.ref (ad 0)] : List Value).toArray below meth c H locs (1 + 4 * i) (8 + 196 * i) (MQ below (va_Qv (fun u => sC ad cI cL cB u (fun _ _ => 0)) (sG (dC, dI) vCl [(cI, .int), (cL, .long), (cB, .object "CoinBag$Bag")] (43) ad N0) (fun q => N0 ≤ q)) ([.ref (ad 0)] : List Value).toArray s 42 2289 (fun q => N0 ≤ q)) (F0 m 15 ls []) := by
    intro fu
    induction fu with
    | zero => intro i u f H locs ls h8 h9; omega
    | succ fu ih =>
      intro i u f H locs ls h8 h9 h0 h1 hf hbg hZ hl
      refine lv_iload_n hx hb d_CB_init_15 rfl (lv_at hl 0 rfl) ?_
      refine lv_bipush (v := nI 8) hx hb d_CB_init_16 rfl ?_
      refine lv_icmp_ge (tgt := 40) hx hb d_CB_init_18 (by decide) (fun h18 => ?_) (fun h18 => ?_)
      · skip
        have h18 := (nI_leI (a := 8) (b := i) (by omega) (by omega)).mp h18
        obtain rfl : i = 8 := by omega
        refine W.widen (k := 33) (n := 1576) (by decide) (by decide) ?_
        have hZ : sZ (dC, dI) vCl 34 ad (fun q => N0 ≤ q) s.heap u H locs := hZ
        refine lv_aload_n hx hb d_CB_init_40 rfl (lv_at hl 1 rfl) ?_
        refine q_new (C := R_Prs) (T := T_Prs) (N := 5) (ci := 1) (fs := [.null, .null, .null, .null, .int 0]) had hx hb hts (fun w h => gm (inT_Prs w h)) ty_Prs tyo_Prs hown (hts _ (gm k_72)) (hts _ (gm k_73)) (hts _ (gm k_23)) hK hZ hN rfl (fun j hj => by rcases (show j = 0 ∨ j = 1 ∨ j = 2 ∨ j = 3 ∨ j = 4 by omega) with rfl | rfl | rfl | rfl | rfl <;> rfl) (Nat.le_of_ble_eq_true rfl) (Nat.le_of_ble_eq_true rfl) (by omega) d_CB_init_41 (fun H hZ => ?_)
        refine W.widen (k := 34) (n := 1581) (by decide) (by decide) ?_
        have hZ : sZ (dC, dI) vCl 35 ad (fun q => N0 ≤ q) s.heap (va_up u (34) (.inr (1, [.null, .null, .null, .null, .int 0]))) H locs := hZ
        have h0 : va_up u (34) (.inr (1, [.null, .null, .null, .null, .int 0])) (0) = .inr (2, [.ref (ad 1), .null, .null]) := (va_up_ne _ _ (by omega)).trans h0
        have h1 : va_up u (34) (.inr (1, [.null, .null, .null, .null, .int 0])) (1) = .inl (cB, 8, .inr (.inr (.inr (.inr f)))) := (va_up_ne _ _ (by omega)).trans h1
        have hp0 : va_up u (34) (.inr (1, [.null, .null, .null, .null, .int 0])) (34) = .inr (1, [.null, .null, .null, .null, .int 0]) := va_up_self _ _ _
        have hbg : ∀ j, j < 8 → isBag ad cI cL (va_up u 34 (.inr (1, [.null, .null, .null, .null, .int 0]))) j 0 (fun _ => 0) (fun _ => 0) (fun _ => 0) := fun j hj => (hbg j hj).off (by have := bb_lt8 hj; omega)
        generalize va_up u 34 (.inr (1, [.null, .null, .null, .null, .int 0])) = v1 at hZ h0 h1 hp0 hbg
        refine lv_dup hx hb d_CB_init_44 rfl ?_
        refine q_sz had (by omega) (by omega) hZ (fun hs => ?_)
        refine q_callG (va_runIN (As := []) (rest := [.ref (ad 34), .ref (ad 0)]) ⟨hx, hb, hml, hown, hts⟩ (c_Prs_init l dC dI cI cL cB ad N0 had _ (34) hp0) ⟨va_cnB 0 hts (gI k_76) rfl rfl rfl (hAm.2.2.1) (hts _ (gm k_23)) (by decide +kernel) ⟨(Nat.le_of_ble_eq_true rfl), (Nat.le_of_ble_eq_true rfl)⟩, rfl, hts _ (gm k_75)⟩ (q_preG hK hAm hZ hN hs _) rfl rfl hl.1 rfl (lv_room (Nat.le_of_ble_eq_true rfl)) d_CB_init_45 ⟨(Nat.le_of_ble_eq_true rfl), (Nat.le_of_ble_eq_true rfl)⟩) hZ (fun v2 H locs hq hZ => ?_)
        refine W.widen (k := 38) (n := 2093) (by decide) (by decide) ?_
        obtain ⟨q0, q1, q2, q3, q4, qf⟩ := hq
        have h0 := (qf 0 (by omega)).trans h0
        have h1 := (qf 1 (by omega)).trans h1
        have hbg : ∀ j, j < 8 → isBag ad cI cL v2 j 0 (fun _ => 0) (fun _ => 0) (fun _ => 0) := fun j hj => (hbg j hj).keep (fun x a1 a2 => qf x (by have := bb_lt8 hj; omega))
        have hpr : isPrs ad cI cL v2 0 (fun _ => 0) (fun _ => 0) (fun _ => 0) (fun _ => 0) := ⟨q0, q1, q2, q3, q4, Nat.zero_le _⟩
        have hZ : sZ (dC, dI) vCl 39 ad (fun q => N0 ≤ q) s.heap v2 H locs := hZ
        refine q_putF (C := R_CB) (T := T_CB) (N := 3) (ty := .object "CoinBag$Pairs") (v := .ref (ad 34)) hx hb hts (fun w h => gm (inT_CB w h)) ty_CB tyo_CB nm_CB hown hK hZ (0) (by decide) h0 rfl 1 (by decide) (hts _ (gm k_100)) (fun _ h9 => h9) rfl hin2 rfl (by decide +kernel) rfl rfl (Nat.le_of_ble_eq_true rfl) d_CB_init_48 (fun H locs hZ => ?_)
        have hZ : sZ (dC, dI) vCl 39 ad (fun q => N0 ≤ q) s.heap (va_up v2 (0) (.inr (2, [.ref (ad 1), .ref (ad 34), .null]))) H locs := hZ
        have h1 : va_up v2 (0) (.inr (2, [.ref (ad 1), .ref (ad 34), .null])) (1) = .inl (cB, 8, .inr (.inr (.inr (.inr f)))) := (va_up_ne _ _ (by omega)).trans h1
        have h0 : va_up v2 (0) (.inr (2, [.ref (ad 1), .ref (ad 34), .null])) (0) = .inr (2, [.ref (ad 1), .ref (ad 34), .null]) := va_up_self _ _ _
        have hbg : ∀ j, j < 8 → isBag ad cI cL (va_up v2 0 (.inr (2, [.ref (ad 1), .ref (ad 34), .null]))) j 0 (fun _ => 0) (fun _ => 0) (fun _ => 0) := fun j hj => (hbg j hj).off (by have := bb_lt8 hj; omega)
        have hpr := hpr.off (x := 0) (e := .inr (2, [.ref (ad 1), .ref (ad 34), .null])) (by omega)
        generalize va_up v2 0 (.inr (2, [.ref (ad 1), .ref (ad 34), .null])) = v3 at hZ h0 h1 hbg hpr
        refine lv_aload_n hx hb d_CB_init_51 rfl (lv_at hl 1 rfl) ?_
        refine q_new (C := R_Bag) (T := T_Bag) (N := 4) (ci := 0) (fs := [.null, .null, .null, .int 0]) had hx hb hts (fun w h => gm (inT_Bag w h)) ty_Bag tyo_Bag hown (hts _ (gm k_42)) (hts _ (gm k_44)) (hts _ (gm k_22)) hK hZ hN rfl (fun j hj => by rcases (show j = 0 ∨ j = 1 ∨ j = 2 ∨ j = 3 by omega) with rfl | rfl | rfl | rfl <;> rfl) (Nat.le_of_ble_eq_true rfl) (Nat.le_of_ble_eq_true rfl) (by omega) d_CB_init_52 (fun H hZ => ?_)
        refine W.widen (k := 39) (n := 2097) (by decide) (by decide) ?_
        have hZ : sZ (dC, dI) vCl 40 ad (fun q => N0 ≤ q) s.heap (va_up v3 (39) (.inr (0, [.null, .null, .null, .int 0]))) H locs := hZ
        have h0 : va_up v3 (39) (.inr (0, [.null, .null, .null, .int 0])) (0) = .inr (2, [.ref (ad 1), .ref (ad 34), .null]) := (va_up_ne _ _ (by omega)).trans h0
        have h1 : va_up v3 (39) (.inr (0, [.null, .null, .null, .int 0])) (1) = .inl (cB, 8, .inr (.inr (.inr (.inr f)))) := (va_up_ne _ _ (by omega)).trans h1
        have hs1 : va_up v3 (39) (.inr (0, [.null, .null, .null, .int 0])) (39) = .inr (0, [.null, .null, .null, .int 0]) := va_up_self _ _ _
        have hbg : ∀ j, j < 8 → isBag ad cI cL (va_up v3 39 (.inr (0, [.null, .null, .null, .int 0]))) j 0 (fun _ => 0) (fun _ => 0) (fun _ => 0) := fun j hj => (hbg j hj).off (by have := bb_lt8 hj; omega)
        have hpr := hpr.off (x := 39) (e := .inr (0, [.null, .null, .null, .int 0])) (by omega)
        generalize va_up v3 39 (.inr (0, [.null, .null, .null, .int 0])) = v4 at hZ h0 h1 hbg hpr hs1
        refine lv_dup hx hb d_CB_init_55 rfl ?_
        refine q_sz had (by omega) (by omega) hZ (fun hs => ?_)
        refine q_callG (va_runIN (As := []) (rest := [.ref (ad 39), .ref (ad 0)]) ⟨hx, hb, hml, hown, hts⟩ (c_Bag_init l dC dI cI cL cB ad N0 had _ (39) hs1) ⟨va_cnB 0 hts (gI k_47) rfl rfl rfl (hAm.2.1) (hts _ (gm k_22)) (by decide +kernel) ⟨(Nat.le_of_ble_eq_true rfl), (Nat.le_of_ble_eq_true rfl)⟩, rfl, hts _ (gm k_46)⟩ (q_preG hK hAm hZ hN hs _) rfl rfl hl.1 rfl (lv_room (Nat.le_of_ble_eq_true rfl)) d_CB_init_56 ⟨(Nat.le_of_ble_eq_true rfl), (Nat.le_of_ble_eq_true rfl)⟩) hZ (fun v5 H locs hq hZ => ?_)
        refine W.widen (k := 42) (n := 2289) (by decide) (by decide) ?_
        obtain ⟨q0, q1, q2, q3, qf⟩ := hq
        have h0 := (qf 0 (by omega)).trans h0
        have h1 := (qf 1 (by omega)).trans h1
        have hbg : ∀ j, j < 8 → isBag ad cI cL v5 j 0 (fun _ => 0) (fun _ => 0) (fun _ => 0) := fun j hj => (hbg j hj).keep (fun x a1 a2 => qf x (by have := bb_lt8 hj; omega))
        have hpr := hpr.keep (u := v5) (fun x a1 a2 => qf x (by omega))
        have hsp : isBag ad cI cL v5 8 0 (fun _ => 0) (fun _ => 0) (fun _ => 0) := ⟨q0, q1, q2, q3, Nat.zero_le _⟩
        have hZ : sZ (dC, dI) vCl 43 ad (fun q => N0 ≤ q) s.heap v5 H locs := hZ
        refine q_put (C := R_CB) (T := T_CB) (N := 3) (ty := .object "CoinBag$Bag") (v := .ref (ad 39)) hx hb hts (fun w h => gm (inT_CB w h)) ty_CB tyo_CB nm_CB hown hK hZ (0) (by decide) h0 rfl 2 (by decide) (hts _ (gm k_101)) (fun _ h9 => h9) rfl (by decide +kernel) rfl rfl (Nat.le_of_ble_eq_true rfl) d_CB_init_59 (fun H locs hZ => ?_)
        have hZ : sZ (dC, dI) vCl 43 ad (fun q => N0 ≤ q) s.heap (va_up v5 (0) (.inr (2, [.ref (ad 1), .ref (ad 34), .ref (ad 39)]))) H locs := hZ
        have h1 : va_up v5 (0) (.inr (2, [.ref (ad 1), .ref (ad 34), .ref (ad 39)])) (1) = .inl (cB, 8, .inr (.inr (.inr (.inr f)))) := (va_up_ne _ _ (by omega)).trans h1
        have h0 : va_up v5 (0) (.inr (2, [.ref (ad 1), .ref (ad 34), .ref (ad 39)])) (0) = .inr (2, [.ref (ad 1), .ref (ad 34), .ref (ad 39)]) := va_up_self _ _ _
        have hbg : ∀ j, j < 8 → isBag ad cI cL (va_up v5 0 (.inr (2, [.ref (ad 1), .ref (ad 34), .ref (ad 39)]))) j 0 (fun _ => 0) (fun _ => 0) (fun _ => 0) := fun j hj => (hbg j hj).off (by have := bb_lt8 hj; omega)
        have hpr := hpr.off (x := 0) (e := .inr (2, [.ref (ad 1), .ref (ad 34), .ref (ad 39)])) (by omega)
        have hsp := hsp.off (x := 0) (e := .inr (2, [.ref (ad 1), .ref (ad 34), .ref (ad 39)])) (by left; decide)
        generalize va_up v5 0 (.inr (2, [.ref (ad 1), .ref (ad 34), .ref (ad 39)])) = v6 at hZ h0 h1 hbg hpr hsp
        refine q_sz had (by omega) (by omega) hZ (fun hs => ?_)
        exact q_vretG hx hb hr hlocks hK hAm hZ hN hs ⟨f, fun j => j, 8, h0, h1, hf, fun j hj => ⟨by show j < 9; omega, by show ¬ j = 8; omega⟩, fun i j _ _ h => h, by omega, fun j hj => ⟨0, _, _, _, hbg j hj, cRep_0 _ _ _⟩, ⟨0, _, _, _, hsp⟩, ⟨0, _, _, _, _, hpr⟩⟩ d_CB_init_62
      · skip
        have h18 : i < 8 := Nat.lt_of_not_le (fun z9 => h18 ((nI_leI (a := 8) (b := i) (by omega) (by omega)).mpr z9))
        refine lv_aload_n hx hb d_CB_init_21 rfl (lv_at hl 1 rfl) ?_
        refine q_get (C := R_CB) (T := T_CB) (N := 3) hx hb hts (fun w h => gm (inT_CB w h)) hown hK hZ (0) (by omega) h0 rfl 0 (by decide) (hts _ (gm k_99)) (fun _ h9 => h9) rfl d_CB_init_22 ?_
        refine lv_iload_n hx hb d_CB_init_25 rfl (lv_at hl 0 rfl) ?_
        have hR1 : 1 + 4 * i + 1 ≤ 42 ∧ 8 + 196 * i + 4 ≤ 2289 := by omega
        refine q_new (C := R_Bag) (T := T_Bag) (N := 4) (ci := 0) (fs := [.null, .null, .null, .int 0]) had hx hb hts (fun w h => gm (inT_Bag w h)) ty_Bag tyo_Bag hown (hts _ (gm k_42)) (hts _ (gm k_44)) (hts _ (gm k_22)) hK hZ hN rfl (fun j hj => by rcases (show j = 0 ∨ j = 1 ∨ j = 2 ∨ j = 3 by omega) with rfl | rfl | rfl | rfl <;> rfl) hR1.1 hR1.2 (by omega) d_CB_init_26 (fun H hZ => ?_)
        have hZ : sZ (dC, dI) vCl (2 + 4 * i + 1) ad (fun q => N0 ≤ q) s.heap (va_up u (2 + 4 * i) (.inr (0, [.null, .null, .null, .int 0]))) H locs := hZ
        have h0 : va_up u (2 + 4 * i) (.inr (0, [.null, .null, .null, .int 0])) (0) = .inr (2, [.ref (ad 1), .null, .null]) := (va_up_ne _ _ (by omega)).trans h0
        have h1 : va_up u (2 + 4 * i) (.inr (0, [.null, .null, .null, .int 0])) (1) = .inl (cB, 8, .inr (.inr (.inr (.inr f)))) := (va_up_ne _ _ (by omega)).trans h1
        have hs1 : va_up u (2 + 4 * i) (.inr (0, [.null, .null, .null, .int 0])) (2 + 4 * i) = .inr (0, [.null, .null, .null, .int 0]) := va_up_self _ _ _
        have hbg : ∀ j, j < i → isBag ad cI cL (va_up u (2 + 4 * i) (.inr (0, [.null, .null, .null, .int 0]))) j 0 (fun _ => 0) (fun _ => 0) (fun _ => 0) := fun j hj => (hbg j hj).off (by have := bb_lt8 (show j < 8 by omega); omega)
        generalize va_up u (2 + 4 * i) (.inr (0, [.null, .null, .null, .int 0])) = v1 at hZ h0 h1 hbg hs1
        refine lv_dup hx hb d_CB_init_29 rfl ?_
        refine q_sz had (by omega) (by omega) hZ (fun hs => ?_)
        refine q_callG (va_runIN (As := []) (rest := [.ref (ad (2 + 4 * i)), .int (nI i), .ref (ad 1)]) ⟨hx, hb, hml, hown, hts⟩ (c_Bag_init l dC dI cI cL cB ad N0 had _ (2 + 4 * i) hs1) ⟨va_cnB 0 hts (gI k_47) rfl rfl rfl (hAm.2.1) (hts _ (gm k_22)) (by decide +kernel) ⟨(Nat.le_of_ble_eq_true rfl), (Nat.le_of_ble_eq_true rfl)⟩, rfl, hts _ (gm k_46)⟩ (q_preG hK hAm hZ hN hs _) rfl rfl hl.1 rfl (lv_room (Nat.le_of_ble_eq_true rfl)) d_CB_init_30 ⟨by show 1 + 4 * i + 1 + 3 ≤ 42; omega, by show 8 + 196 * i + 4 + 192 ≤ 2289; omega⟩) hZ (fun v5 H locs hq hZ => ?_)
        obtain ⟨q0, q1, q2, q3, qf⟩ := hq
        have h0 := (qf 0 (by omega)).trans h0
        have h1 := (qf 1 (by omega)).trans h1
        have hbg : ∀ j, j < i → isBag ad cI cL v5 j 0 (fun _ => 0) (fun _ => 0) (fun _ => 0) := fun j hj => (hbg j hj).keep (fun x a1 a2 => qf x (by have := bb_lt8 (show j < 8 by omega); omega))
        have eb : bb i = 2 + 4 * i := bb_lt8 h18
        have hnew : isBag ad cI cL v5 i 0 (fun _ => 0) (fun _ => 0) (fun _ => 0) := by unfold isBag; rw [eb]; exact ⟨q0, q1, q2, q3, Nat.zero_le _⟩
        refine q_aast hx hb hK hZ (1) 2 (i) (2 + 4 * i) 0 (by omega) (by omega) h1 rfl q0 rfl rfl h18 (by decide) d_CB_init_33 (fun H locs hZ => ?_)
        have hZ : sZ (dC, dI) vCl (2 + 4 * (i + 1)) ad (fun q => N0 ≤ q) s.heap (va_up v5 1 (.inl (cB, 8, .inr (.inr (.inr (.inr (va_up f i (some (ad (2 + 4 * i)))))))))) H locs := hZ
        have h0 : va_up v5 1 (.inl (cB, 8, .inr (.inr (.inr (.inr (va_up f i (some (ad (2 + 4 * i))))))))) 0 = .inr (2, [.ref (ad 1), .null, .null]) := (va_up_ne _ _ (by omega)).trans h0
        have h1 : va_up v5 1 (.inl (cB, 8, .inr (.inr (.inr (.inr (va_up f i (some (ad (2 + 4 * i))))))))) 1 = .inl (cB, 8, .inr (.inr (.inr (.inr (va_up f i (some (ad (2 + 4 * i)))))))) := va_up_self _ _ _
        have hbg : ∀ j, j < i + 1 → isBag ad cI cL (va_up v5 1 (.inl (cB, 8, .inr (.inr (.inr (.inr (va_up f i (some (ad (2 + 4 * i)))))))))) j 0 (fun _ => 0) (fun _ => 0) (fun _ => 0) := fun j hj => by
          by_cases z : j = i
          · rw [z]; exact hnew.off (by omega)
          · exact (hbg j (by omega)).off (by have := bb_lt8 (show j < 8 by omega); omega)
        have hf : ∀ j, j < i + 1 → va_up f i (some (ad (2 + 4 * i))) j = some (ad (bb j)) := fun j hj => by
          by_cases z : j = i
          · rw [z, va_up_self, eb]
          · rw [va_up_ne _ _ z]; exact hf j (by omega)
        refine lv_iinc (v := nI (i + 1)) (lv' := [(1, .int (nI (i + 1))), (0, .ref (ad 0))]) hx hb d_CB_init_34 hl (k := 0) rfl (nI_1 _) (by decide) rfl (fun ls hl => ?_)
        refine lv_goto (tgt := 15) hx hb d_CB_init_37 (by decide) ?_
        refine W.widen (k := 1 + 4 * (i + 1)) (n := 8 + 196 * (i + 1)) (by omega) (by omega) ?_
        exact ih (i + 1) _ _ _ _ _ (by omega) (by omega) h0 h1 hf hbg hZ hl
  exact loop15 9 0 _ _ _ _ _ (by omega) (by omega) h0 h1 (fun j hj => absurd hj (Nat.not_lt_zero _)) (fun j hj => absurd hj (Nat.not_lt_zero _)) hZ hl
