/-! constructors -/
set_option maxHeartbeats 4000000 in
set_option maxRecDepth 100000 in
theorem c_Bag_init (l : Launch) (dC : Nat → ClassId) (dI : Nat → Nat → Nat) (cI cL cB : ClassId) (ad : Nat → Nat) (N0 : Nat) (had : ∀ k, ad k = N0 + k) (w : Nat → va_E) (k : Nat) (h0 : w k = .inr (0, [.null, .null, .null, .int 0])) : Met l y_Bag_init ws_Bag_init ({ frames := 1, cells := 3, slots := 192, locals := 12 } : Room) (va_Pc [.ref (ad k)] (sG (dC, dI) vCl [(cI, .int), (cL, .long), (cB, .object "CoinBag$Bag")] (k + 1) ad N0 w)) (va_Qv (fun u => u (k) = .inr (0, [.ref (ad (k + 1)), .ref (ad (k + 2)), .ref (ad (k + 3)), .int (nI 0)]) ∧ u (k + 1) = .inl (cI, 64, .inl (fun _ => 0)) ∧ u (k + 2) = .inl (cL, 64, .inr (.inl (fun _ => 0))) ∧ u (k + 3) = .inl (cL, 64, .inr (.inl (fun _ => 0))) ∧ ∀ j, j < k → u j = w j) (sG (dC, dI) vCl [(cI, .int), (cL, .long), (cB, .object "CoinBag$Bag")] (k + 4) ad N0) (fun q => N0 ≤ q)) 3 192 (fun q => N0 ≤ q) := by
  refine Met.ofW (cc := b_Bag_init) (maxL := 1) (ret := none) (by decide) rfl ?_
  intro p e s m args below meth c s₁ B hml hv
  obtain ⟨rfl, ⟨hP, hK, hD, hN, hAm⟩, hs0⟩ := hv
  have hx := B.exec
  have hb := B.bytes
  have hr := B.returns
  have hts := atoms_spec (ws := ws_Bag_init) B.pre
  have hown : s.vm.findClass "CoinBag$Bag" = some m.cls := findClass_of_methodNamed B.named
  have hlocks := B.notSynchronized
  have hin2 : meth.name = "<init>" := (name_of_methodNamed B.named B.method).1
  have hZ : sZ (dC, dI) vCl (k + 1) ad (fun q => N0 ≤ q) s.heap w s.heap [] := ⟨hP, hD, va_S.rf⟩
  have hl := lv_entry ([.ref (ad k)]) (n := 1) (Nat.le_of_ble_eq_true rfl)
  rw [lg_entry_eq]
  generalize (lg_sl ([.ref (ad k)]) ++ List.replicate (1 - (lg_sl ([.ref (ad k)])).length) Slot.unset).toArray = ls at hl ⊢
  have hl : lv_has ls 1 [(0, .ref (ad k))] := hl
  refine lv_aload_n hx hb d_Bag_init_0 rfl (lv_at hl 0 rfl) ?_
  refine W.objInit hx hb hown (hts _ (gm k_48)) (hts _ (gm k_40)) (hts _ (gm k_41)) rfl (hl.1.trans hml.symm) rfl d_Bag_init_1 (Nat.le_of_ble_eq_true rfl) (Nat.le_of_ble_eq_true rfl) ?_
  refine W.eq (g2 := F0 m 4 ls []) rfl ?_
  have hfr : ∀ j, j < k → w j = w j := fun _ _ => rfl
  refine lv_aload_n hx hb d_Bag_init_4 rfl (lv_at hl 0 rfl) ?_
  refine lv_bipush (v := nI 64) hx hb d_Bag_init_5 rfl ?_
  refine q_newA (atype := .int) (ty := .int) (N' := 64) (a0 := (64, .inl (fun _ => 0))) had hx hb (hts _ (gm k_70)) rfl (Or.inl rfl) hK hZ hN 0 rfl (fun _ => rfl) (by decide) (by decide) (by decide) (Nat.le_of_ble_eq_true rfl) (Nat.le_of_ble_eq_true rfl) (by omega) d_Bag_init_7 (fun H hZ => ?_)
  refine W.widen (k := 1) (n := 64) (by omega) (by omega) ?_
  have hZ : sZ (dC, dI) vCl (k + 2) ad (fun q => N0 ≤ q) s.heap (va_up w (k + 1) (.inl (cI, 64, .inl (fun _ => 0)))) H [] := hZ
  have h0 : va_up w (k + 1) (.inl (cI, 64, .inl (fun _ => 0))) (k) = .inr (0, [.null, .null, .null, .int 0]) := (va_up_ne _ _ (by omega)).trans h0
  have a1 : va_up w (k + 1) (.inl (cI, 64, .inl (fun _ => 0))) (k + 1) = .inl (cI, 64, .inl (fun _ => 0)) := va_up_self _ _ _
  have hfr : ∀ j, j < k → va_up w (k + 1) (.inl (cI, 64, .inl (fun _ => 0))) j = w j := fun j hj => (va_up_ne _ _ (by omega)).trans (hfr j hj)
  generalize va_up w (k + 1) (.inl (cI, 64, .inl (fun _ => 0))) = u1 at hZ hfr h0 a1
  refine q_putF (C := R_Bag) (T := T_Bag) (N := 4) (ty := .array .int) (v := .ref (ad (k + 1))) hx hb hts (fun w h => gm (inT_Bag w h)) ty_Bag tyo_Bag nm_Bag hown hK hZ (k) (by omega) h0 rfl 0 (by decide) (hts _ (gm k_49)) (fun _ h9 => h9) rfl hin2 rfl (by decide +kernel) rfl rfl (Nat.le_of_ble_eq_true rfl) d_Bag_init_9 (fun H locs hZ => ?_)
  have hZ : sZ (dC, dI) vCl (k + 2) ad (fun q => N0 ≤ q) s.heap (va_up u1 (k) (.inr (0, [.ref (ad (k + 1)), .null, .null, .int 0]))) H locs := hZ
  have a1 : va_up u1 (k) (.inr (0, [.ref (ad (k + 1)), .null, .null, .int 0])) (k + 1) = .inl (cI, 64, .inl (fun _ => 0)) := (va_up_ne _ _ (by omega)).trans a1
  have h0 : va_up u1 (k) (.inr (0, [.ref (ad (k + 1)), .null, .null, .int 0])) (k) = .inr (0, [.ref (ad (k + 1)), .null, .null, .int 0]) := va_up_self _ _ _
  have hfr : ∀ j, j < k → va_up u1 (k) (.inr (0, [.ref (ad (k + 1)), .null, .null, .int 0])) j = w j := fun j hj => (va_up_ne _ _ (by omega)).trans (hfr j hj)
  generalize va_up u1 (k) (.inr (0, [.ref (ad (k + 1)), .null, .null, .int 0])) = u2 at hZ hfr a1 h0
  refine lv_aload_n hx hb d_Bag_init_12 rfl (lv_at hl 0 rfl) ?_
  refine lv_bipush (v := nI 64) hx hb d_Bag_init_13 rfl ?_
  refine q_newA (atype := .long) (ty := .long) (N' := 64) (a0 := (64, .inr (.inl (fun _ => 0)))) had hx hb (hts _ (gm k_71)) rfl (Or.inr rfl) hK hZ hN 1 rfl (fun _ => rfl) (by decide) (by decide) (by decide) (Nat.le_of_ble_eq_true rfl) (Nat.le_of_ble_eq_true rfl) (by omega) d_Bag_init_15 (fun H hZ => ?_)
  refine W.widen (k := 2) (n := 128) (by omega) (by omega) ?_
  have hZ : sZ (dC, dI) vCl (k + 3) ad (fun q => N0 ≤ q) s.heap (va_up u2 (k + 2) (.inl (cL, 64, .inr (.inl (fun _ => 0))))) H locs := hZ
  have a1 : va_up u2 (k + 2) (.inl (cL, 64, .inr (.inl (fun _ => 0)))) (k + 1) = .inl (cI, 64, .inl (fun _ => 0)) := (va_up_ne _ _ (by omega)).trans a1
  have h0 : va_up u2 (k + 2) (.inl (cL, 64, .inr (.inl (fun _ => 0)))) (k) = .inr (0, [.ref (ad (k + 1)), .null, .null, .int 0]) := (va_up_ne _ _ (by omega)).trans h0
  have a2 : va_up u2 (k + 2) (.inl (cL, 64, .inr (.inl (fun _ => 0)))) (k + 2) = .inl (cL, 64, .inr (.inl (fun _ => 0))) := va_up_self _ _ _
  have hfr : ∀ j, j < k → va_up u2 (k + 2) (.inl (cL, 64, .inr (.inl (fun _ => 0)))) j = w j := fun j hj => (va_up_ne _ _ (by omega)).trans (hfr j hj)
  generalize va_up u2 (k + 2) (.inl (cL, 64, .inr (.inl (fun _ => 0)))) = u3 at hZ hfr a1 h0 a2
  refine q_putF (C := R_Bag) (T := T_Bag) (N := 4) (ty := .array .long) (v := .ref (ad (k + 2))) hx hb hts (fun w h => gm (inT_Bag w h)) ty_Bag tyo_Bag nm_Bag hown hK hZ (k) (by omega) h0 rfl 1 (by decide) (hts _ (gm k_52)) (fun _ h9 => h9) rfl hin2 rfl (by decide +kernel) rfl rfl (Nat.le_of_ble_eq_true rfl) d_Bag_init_17 (fun H locs hZ => ?_)
  have hZ : sZ (dC, dI) vCl (k + 3) ad (fun q => N0 ≤ q) s.heap (va_up u3 (k) (.inr (0, [.ref (ad (k + 1)), .ref (ad (k + 2)), .null, .int 0]))) H locs := hZ
  have a1 : va_up u3 (k) (.inr (0, [.ref (ad (k + 1)), .ref (ad (k + 2)), .null, .int 0])) (k + 1) = .inl (cI, 64, .inl (fun _ => 0)) := (va_up_ne _ _ (by omega)).trans a1
  have a2 : va_up u3 (k) (.inr (0, [.ref (ad (k + 1)), .ref (ad (k + 2)), .null, .int 0])) (k + 2) = .inl (cL, 64, .inr (.inl (fun _ => 0))) := (va_up_ne _ _ (by omega)).trans a2
  have h0 : va_up u3 (k) (.inr (0, [.ref (ad (k + 1)), .ref (ad (k + 2)), .null, .int 0])) (k) = .inr (0, [.ref (ad (k + 1)), .ref (ad (k + 2)), .null, .int 0]) := va_up_self _ _ _
  have hfr : ∀ j, j < k → va_up u3 (k) (.inr (0, [.ref (ad (k + 1)), .ref (ad (k + 2)), .null, .int 0])) j = w j := fun j hj => (va_up_ne _ _ (by omega)).trans (hfr j hj)
  generalize va_up u3 (k) (.inr (0, [.ref (ad (k + 1)), .ref (ad (k + 2)), .null, .int 0])) = u4 at hZ hfr a1 a2 h0
  refine lv_aload_n hx hb d_Bag_init_20 rfl (lv_at hl 0 rfl) ?_
  refine lv_bipush (v := nI 64) hx hb d_Bag_init_21 rfl ?_
  refine q_newA (atype := .long) (ty := .long) (N' := 64) (a0 := (64, .inr (.inl (fun _ => 0)))) had hx hb (hts _ (gm k_71)) rfl (Or.inr rfl) hK hZ hN 1 rfl (fun _ => rfl) (by decide) (by decide) (by decide) (Nat.le_of_ble_eq_true rfl) (Nat.le_of_ble_eq_true rfl) (by omega) d_Bag_init_23 (fun H hZ => ?_)
  refine W.widen (k := 3) (n := 192) (by omega) (by omega) ?_
  have hZ : sZ (dC, dI) vCl (k + 4) ad (fun q => N0 ≤ q) s.heap (va_up u4 (k + 3) (.inl (cL, 64, .inr (.inl (fun _ => 0))))) H locs := hZ
  have a1 : va_up u4 (k + 3) (.inl (cL, 64, .inr (.inl (fun _ => 0)))) (k + 1) = .inl (cI, 64, .inl (fun _ => 0)) := (va_up_ne _ _ (by omega)).trans a1
  have a2 : va_up u4 (k + 3) (.inl (cL, 64, .inr (.inl (fun _ => 0)))) (k + 2) = .inl (cL, 64, .inr (.inl (fun _ => 0))) := (va_up_ne _ _ (by omega)).trans a2
  have h0 : va_up u4 (k + 3) (.inl (cL, 64, .inr (.inl (fun _ => 0)))) (k) = .inr (0, [.ref (ad (k + 1)), .ref (ad (k + 2)), .null, .int 0]) := (va_up_ne _ _ (by omega)).trans h0
  have a3 : va_up u4 (k + 3) (.inl (cL, 64, .inr (.inl (fun _ => 0)))) (k + 3) = .inl (cL, 64, .inr (.inl (fun _ => 0))) := va_up_self _ _ _
  have hfr : ∀ j, j < k → va_up u4 (k + 3) (.inl (cL, 64, .inr (.inl (fun _ => 0)))) j = w j := fun j hj => (va_up_ne _ _ (by omega)).trans (hfr j hj)
  generalize va_up u4 (k + 3) (.inl (cL, 64, .inr (.inl (fun _ => 0)))) = u5 at hZ hfr a1 a2 h0 a3
  refine q_putF (C := R_Bag) (T := T_Bag) (N := 4) (ty := .array .long) (v := .ref (ad (k + 3))) hx hb hts (fun w h => gm (inT_Bag w h)) ty_Bag tyo_Bag nm_Bag hown hK hZ (k) (by omega) h0 rfl 2 (by decide) (hts _ (gm k_55)) (fun _ h9 => h9) rfl hin2 rfl (by decide +kernel) rfl rfl (Nat.le_of_ble_eq_true rfl) d_Bag_init_25 (fun H locs hZ => ?_)
  have hZ : sZ (dC, dI) vCl (k + 4) ad (fun q => N0 ≤ q) s.heap (va_up u5 (k) (.inr (0, [.ref (ad (k + 1)), .ref (ad (k + 2)), .ref (ad (k + 3)), .int 0]))) H locs := hZ
  have a1 : va_up u5 (k) (.inr (0, [.ref (ad (k + 1)), .ref (ad (k + 2)), .ref (ad (k + 3)), .int 0])) (k + 1) = .inl (cI, 64, .inl (fun _ => 0)) := (va_up_ne _ _ (by omega)).trans a1
  have a2 : va_up u5 (k) (.inr (0, [.ref (ad (k + 1)), .ref (ad (k + 2)), .ref (ad (k + 3)), .int 0])) (k + 2) = .inl (cL, 64, .inr (.inl (fun _ => 0))) := (va_up_ne _ _ (by omega)).trans a2
  have a3 : va_up u5 (k) (.inr (0, [.ref (ad (k + 1)), .ref (ad (k + 2)), .ref (ad (k + 3)), .int 0])) (k + 3) = .inl (cL, 64, .inr (.inl (fun _ => 0))) := (va_up_ne _ _ (by omega)).trans a3
  have h0 : va_up u5 (k) (.inr (0, [.ref (ad (k + 1)), .ref (ad (k + 2)), .ref (ad (k + 3)), .int 0])) (k) = .inr (0, [.ref (ad (k + 1)), .ref (ad (k + 2)), .ref (ad (k + 3)), .int 0]) := va_up_self _ _ _
  have hfr : ∀ j, j < k → va_up u5 (k) (.inr (0, [.ref (ad (k + 1)), .ref (ad (k + 2)), .ref (ad (k + 3)), .int 0])) j = w j := fun j hj => (va_up_ne _ _ (by omega)).trans (hfr j hj)
  generalize va_up u5 (k) (.inr (0, [.ref (ad (k + 1)), .ref (ad (k + 2)), .ref (ad (k + 3)), .int 0])) = u6 at hZ hfr a1 a2 a3 h0
  refine lv_aload_n hx hb d_Bag_init_28 rfl (lv_at hl 0 rfl) ?_
  refine lv_iconst (v := nI 0) hx hb d_Bag_init_29 rfl ?_
  refine q_put (C := R_Bag) (T := T_Bag) (N := 4) (ty := .int) (v := .int (nI 0)) hx hb hts (fun w h => gm (inT_Bag w h)) ty_Bag tyo_Bag nm_Bag hown hK hZ (k) (by omega) h0 rfl 3 (by decide) (hts _ (gm k_58)) (fun _ h9 => h9) rfl (by decide +kernel) rfl rfl (Nat.le_of_ble_eq_true rfl) d_Bag_init_30 (fun H locs hZ => ?_)
  have hZ : sZ (dC, dI) vCl (k + 4) ad (fun q => N0 ≤ q) s.heap (va_up u6 (k) (.inr (0, [.ref (ad (k + 1)), .ref (ad (k + 2)), .ref (ad (k + 3)), .int (nI 0)]))) H locs := hZ
  have a1 : va_up u6 (k) (.inr (0, [.ref (ad (k + 1)), .ref (ad (k + 2)), .ref (ad (k + 3)), .int (nI 0)])) (k + 1) = .inl (cI, 64, .inl (fun _ => 0)) := (va_up_ne _ _ (by omega)).trans a1
  have a2 : va_up u6 (k) (.inr (0, [.ref (ad (k + 1)), .ref (ad (k + 2)), .ref (ad (k + 3)), .int (nI 0)])) (k + 2) = .inl (cL, 64, .inr (.inl (fun _ => 0))) := (va_up_ne _ _ (by omega)).trans a2
  have a3 : va_up u6 (k) (.inr (0, [.ref (ad (k + 1)), .ref (ad (k + 2)), .ref (ad (k + 3)), .int (nI 0)])) (k + 3) = .inl (cL, 64, .inr (.inl (fun _ => 0))) := (va_up_ne _ _ (by omega)).trans a3
  have h0 : va_up u6 (k) (.inr (0, [.ref (ad (k + 1)), .ref (ad (k + 2)), .ref (ad (k + 3)), .int (nI 0)])) (k) = .inr (0, [.ref (ad (k + 1)), .ref (ad (k + 2)), .ref (ad (k + 3)), .int (nI 0)]) := va_up_self _ _ _
  have hfr : ∀ j, j < k → va_up u6 (k) (.inr (0, [.ref (ad (k + 1)), .ref (ad (k + 2)), .ref (ad (k + 3)), .int (nI 0)])) j = w j := fun j hj => (va_up_ne _ _ (by omega)).trans (hfr j hj)
  generalize va_up u6 (k) (.inr (0, [.ref (ad (k + 1)), .ref (ad (k + 2)), .ref (ad (k + 3)), .int (nI 0)])) = u7 at hZ hfr a1 a2 a3 h0
  refine q_sz had (by omega) (by omega) hZ (fun hs => ?_)
  exact q_vretG hx hb hr hlocks hK hAm hZ hN hs ⟨h0, a1, a2, a3, hfr⟩ d_Bag_init_33
set_option maxHeartbeats 4000000 in
set_option maxRecDepth 100000 in
theorem c_Prs_init (l : Launch) (dC : Nat → ClassId) (dI : Nat → Nat → Nat) (cI cL cB : ClassId) (ad : Nat → Nat) (N0 : Nat) (had : ∀ k, ad k = N0 + k) (w : Nat → va_E) (k : Nat) (h0 : w k = .inr (1, [.null, .null, .null, .null, .int 0])) : Met l y_Prs_init ws_Prs_init ({ frames := 1, cells := 4, slots := 512, locals := 12 } : Room) (va_Pc [.ref (ad k)] (sG (dC, dI) vCl [(cI, .int), (cL, .long), (cB, .object "CoinBag$Bag")] (k + 1) ad N0 w)) (va_Qv (fun u => u (k) = .inr (1, [.ref (ad (k + 1)), .ref (ad (k + 2)), .ref (ad (k + 3)), .ref (ad (k + 4)), .int (nI 0)]) ∧ u (k + 1) = .inl (cI, 128, .inl (fun _ => 0)) ∧ u (k + 2) = .inl (cL, 128, .inr (.inl (fun _ => 0))) ∧ u (k + 3) = .inl (cL, 128, .inr (.inl (fun _ => 0))) ∧ u (k + 4) = .inl (cL, 128, .inr (.inl (fun _ => 0))) ∧ ∀ j, j < k → u j = w j) (sG (dC, dI) vCl [(cI, .int), (cL, .long), (cB, .object "CoinBag$Bag")] (k + 5) ad N0) (fun q => N0 ≤ q)) 4 512 (fun q => N0 ≤ q) := by
  refine Met.ofW (cc := b_Prs_init) (maxL := 1) (ret := none) (by decide) rfl ?_
  intro p e s m args below meth c s₁ B hml hv
  obtain ⟨rfl, ⟨hP, hK, hD, hN, hAm⟩, hs0⟩ := hv
  have hx := B.exec
  have hb := B.bytes
  have hr := B.returns
  have hts := atoms_spec (ws := ws_Prs_init) B.pre
  have hown : s.vm.findClass "CoinBag$Pairs" = some m.cls := findClass_of_methodNamed B.named
  have hlocks := B.notSynchronized
  have hin2 : meth.name = "<init>" := (name_of_methodNamed B.named B.method).1
  have hZ : sZ (dC, dI) vCl (k + 1) ad (fun q => N0 ≤ q) s.heap w s.heap [] := ⟨hP, hD, va_S.rf⟩
  have hl := lv_entry ([.ref (ad k)]) (n := 1) (Nat.le_of_ble_eq_true rfl)
  rw [lg_entry_eq]
  generalize (lg_sl ([.ref (ad k)]) ++ List.replicate (1 - (lg_sl ([.ref (ad k)])).length) Slot.unset).toArray = ls at hl ⊢
  have hl : lv_has ls 1 [(0, .ref (ad k))] := hl
  refine lv_aload_n hx hb d_Prs_init_0 rfl (lv_at hl 0 rfl) ?_
  refine W.objInit hx hb hown (hts _ (gm k_77)) (hts _ (gm k_40)) (hts _ (gm k_41)) rfl (hl.1.trans hml.symm) rfl d_Prs_init_1 (Nat.le_of_ble_eq_true rfl) (Nat.le_of_ble_eq_true rfl) ?_
  refine W.eq (g2 := F0 m 4 ls []) rfl ?_
  have hfr : ∀ j, j < k → w j = w j := fun _ _ => rfl
  refine lv_aload_n hx hb d_Prs_init_4 rfl (lv_at hl 0 rfl) ?_
  refine lv_sipush (v := nI 128) hx hb d_Prs_init_5 rfl ?_
  refine q_newA (atype := .int) (ty := .int) (N' := 128) (a0 := (128, .inl (fun _ => 0))) had hx hb (hts _ (gm k_70)) rfl (Or.inl rfl) hK hZ hN 0 rfl (fun _ => rfl) (by decide) (by decide) (by decide) (Nat.le_of_ble_eq_true rfl) (Nat.le_of_ble_eq_true rfl) (by omega) d_Prs_init_8 (fun H hZ => ?_)
  refine W.widen (k := 1) (n := 128) (by omega) (by omega) ?_
  have hZ : sZ (dC, dI) vCl (k + 2) ad (fun q => N0 ≤ q) s.heap (va_up w (k + 1) (.inl (cI, 128, .inl (fun _ => 0)))) H [] := hZ
  have h0 : va_up w (k + 1) (.inl (cI, 128, .inl (fun _ => 0))) (k) = .inr (1, [.null, .null, .null, .null, .int 0]) := (va_up_ne _ _ (by omega)).trans h0
  have a1 : va_up w (k + 1) (.inl (cI, 128, .inl (fun _ => 0))) (k + 1) = .inl (cI, 128, .inl (fun _ => 0)) := va_up_self _ _ _
  have hfr : ∀ j, j < k → va_up w (k + 1) (.inl (cI, 128, .inl (fun _ => 0))) j = w j := fun j hj => (va_up_ne _ _ (by omega)).trans (hfr j hj)
  generalize va_up w (k + 1) (.inl (cI, 128, .inl (fun _ => 0))) = u1 at hZ hfr h0 a1
  refine q_putF (C := R_Prs) (T := T_Prs) (N := 5) (ty := .array .int) (v := .ref (ad (k + 1))) hx hb hts (fun w h => gm (inT_Prs w h)) ty_Prs tyo_Prs nm_Prs hown hK hZ (k) (by omega) h0 rfl 0 (by decide) (hts _ (gm k_78)) (fun _ h9 => h9) rfl hin2 rfl (by decide +kernel) rfl rfl (Nat.le_of_ble_eq_true rfl) d_Prs_init_10 (fun H locs hZ => ?_)
  have hZ : sZ (dC, dI) vCl (k + 2) ad (fun q => N0 ≤ q) s.heap (va_up u1 (k) (.inr (1, [.ref (ad (k + 1)), .null, .null, .null, .int 0]))) H locs := hZ
  have a1 : va_up u1 (k) (.inr (1, [.ref (ad (k + 1)), .null, .null, .null, .int 0])) (k + 1) = .inl (cI, 128, .inl (fun _ => 0)) := (va_up_ne _ _ (by omega)).trans a1
  have h0 : va_up u1 (k) (.inr (1, [.ref (ad (k + 1)), .null, .null, .null, .int 0])) (k) = .inr (1, [.ref (ad (k + 1)), .null, .null, .null, .int 0]) := va_up_self _ _ _
  have hfr : ∀ j, j < k → va_up u1 (k) (.inr (1, [.ref (ad (k + 1)), .null, .null, .null, .int 0])) j = w j := fun j hj => (va_up_ne _ _ (by omega)).trans (hfr j hj)
  generalize va_up u1 (k) (.inr (1, [.ref (ad (k + 1)), .null, .null, .null, .int 0])) = u2 at hZ hfr a1 h0
  refine lv_aload_n hx hb d_Prs_init_13 rfl (lv_at hl 0 rfl) ?_
  refine lv_sipush (v := nI 128) hx hb d_Prs_init_14 rfl ?_
  refine q_newA (atype := .long) (ty := .long) (N' := 128) (a0 := (128, .inr (.inl (fun _ => 0)))) had hx hb (hts _ (gm k_71)) rfl (Or.inr rfl) hK hZ hN 1 rfl (fun _ => rfl) (by decide) (by decide) (by decide) (Nat.le_of_ble_eq_true rfl) (Nat.le_of_ble_eq_true rfl) (by omega) d_Prs_init_17 (fun H hZ => ?_)
  refine W.widen (k := 2) (n := 256) (by omega) (by omega) ?_
  have hZ : sZ (dC, dI) vCl (k + 3) ad (fun q => N0 ≤ q) s.heap (va_up u2 (k + 2) (.inl (cL, 128, .inr (.inl (fun _ => 0))))) H locs := hZ
  have a1 : va_up u2 (k + 2) (.inl (cL, 128, .inr (.inl (fun _ => 0)))) (k + 1) = .inl (cI, 128, .inl (fun _ => 0)) := (va_up_ne _ _ (by omega)).trans a1
  have h0 : va_up u2 (k + 2) (.inl (cL, 128, .inr (.inl (fun _ => 0)))) (k) = .inr (1, [.ref (ad (k + 1)), .null, .null, .null, .int 0]) := (va_up_ne _ _ (by omega)).trans h0
  have a2 : va_up u2 (k + 2) (.inl (cL, 128, .inr (.inl (fun _ => 0)))) (k + 2) = .inl (cL, 128, .inr (.inl (fun _ => 0))) := va_up_self _ _ _
  have hfr : ∀ j, j < k → va_up u2 (k + 2) (.inl (cL, 128, .inr (.inl (fun _ => 0)))) j = w j := fun j hj => (va_up_ne _ _ (by omega)).trans (hfr j hj)
  generalize va_up u2 (k + 2) (.inl (cL, 128, .inr (.inl (fun _ => 0)))) = u3 at hZ hfr a1 h0 a2
  refine q_putF (C := R_Prs) (T := T_Prs) (N := 5) (ty := .array .long) (v := .ref (ad (k + 2))) hx hb hts (fun w h => gm (inT_Prs w h)) ty_Prs tyo_Prs nm_Prs hown hK hZ (k) (by omega) h0 rfl 1 (by decide) (hts _ (gm k_80)) (fun _ h9 => h9) rfl hin2 rfl (by decide +kernel) rfl rfl (Nat.le_of_ble_eq_true rfl) d_Prs_init_19 (fun H locs hZ => ?_)
  have hZ : sZ (dC, dI) vCl (k + 3) ad (fun q => N0 ≤ q) s.heap (va_up u3 (k) (.inr (1, [.ref (ad (k + 1)), .ref (ad (k + 2)), .null, .null, .int 0]))) H locs := hZ
  have a1 : va_up u3 (k) (.inr (1, [.ref (ad (k + 1)), .ref (ad (k + 2)), .null, .null, .int 0])) (k + 1) = .inl (cI, 128, .inl (fun _ => 0)) := (va_up_ne _ _ (by omega)).trans a1
  have a2 : va_up u3 (k) (.inr (1, [.ref (ad (k + 1)), .ref (ad (k + 2)), .null, .null, .int 0])) (k + 2) = .inl (cL, 128, .inr (.inl (fun _ => 0))) := (va_up_ne _ _ (by omega)).trans a2
  have h0 : va_up u3 (k) (.inr (1, [.ref (ad (k + 1)), .ref (ad (k + 2)), .null, .null, .int 0])) (k) = .inr (1, [.ref (ad (k + 1)), .ref (ad (k + 2)), .null, .null, .int 0]) := va_up_self _ _ _
  have hfr : ∀ j, j < k → va_up u3 (k) (.inr (1, [.ref (ad (k + 1)), .ref (ad (k + 2)), .null, .null, .int 0])) j = w j := fun j hj => (va_up_ne _ _ (by omega)).trans (hfr j hj)
  generalize va_up u3 (k) (.inr (1, [.ref (ad (k + 1)), .ref (ad (k + 2)), .null, .null, .int 0])) = u4 at hZ hfr a1 a2 h0
  refine lv_aload_n hx hb d_Prs_init_22 rfl (lv_at hl 0 rfl) ?_
  refine lv_sipush (v := nI 128) hx hb d_Prs_init_23 rfl ?_
  refine q_newA (atype := .long) (ty := .long) (N' := 128) (a0 := (128, .inr (.inl (fun _ => 0)))) had hx hb (hts _ (gm k_71)) rfl (Or.inr rfl) hK hZ hN 1 rfl (fun _ => rfl) (by decide) (by decide) (by decide) (Nat.le_of_ble_eq_true rfl) (Nat.le_of_ble_eq_true rfl) (by omega) d_Prs_init_26 (fun H hZ => ?_)
  refine W.widen (k := 3) (n := 384) (by omega) (by omega) ?_
  have hZ : sZ (dC, dI) vCl (k + 4) ad (fun q => N0 ≤ q) s.heap (va_up u4 (k + 3) (.inl (cL, 128, .inr (.inl (fun _ => 0))))) H locs := hZ
  have a1 : va_up u4 (k + 3) (.inl (cL, 128, .inr (.inl (fun _ => 0)))) (k + 1) = .inl (cI, 128, .inl (fun _ => 0)) := (va_up_ne _ _ (by omega)).trans a1
  have a2 : va_up u4 (k + 3) (.inl (cL, 128, .inr (.inl (fun _ => 0)))) (k + 2) = .inl (cL, 128, .inr (.inl (fun _ => 0))) := (va_up_ne _ _ (by omega)).trans a2
  have h0 : va_up u4 (k + 3) (.inl (cL, 128, .inr (.inl (fun _ => 0)))) (k) = .inr (1, [.ref (ad (k + 1)), .ref (ad (k + 2)), .null, .null, .int 0]) := (va_up_ne _ _ (by omega)).trans h0
  have a3 : va_up u4 (k + 3) (.inl (cL, 128, .inr (.inl (fun _ => 0)))) (k + 3) = .inl (cL, 128, .inr (.inl (fun _ => 0))) := va_up_self _ _ _
  have hfr : ∀ j, j < k → va_up u4 (k + 3) (.inl (cL, 128, .inr (.inl (fun _ => 0)))) j = w j := fun j hj => (va_up_ne _ _ (by omega)).trans (hfr j hj)
  generalize va_up u4 (k + 3) (.inl (cL, 128, .inr (.inl (fun _ => 0)))) = u5 at hZ hfr a1 a2 h0 a3
  refine q_putF (C := R_Prs) (T := T_Prs) (N := 5) (ty := .array .long) (v := .ref (ad (k + 3))) hx hb hts (fun w h => gm (inT_Prs w h)) ty_Prs tyo_Prs nm_Prs hown hK hZ (k) (by omega) h0 rfl 2 (by decide) (hts _ (gm k_82)) (fun _ h9 => h9) rfl hin2 rfl (by decide +kernel) rfl rfl (Nat.le_of_ble_eq_true rfl) d_Prs_init_28 (fun H locs hZ => ?_)
  have hZ : sZ (dC, dI) vCl (k + 4) ad (fun q => N0 ≤ q) s.heap (va_up u5 (k) (.inr (1, [.ref (ad (k + 1)), .ref (ad (k + 2)), .ref (ad (k + 3)), .null, .int 0]))) H locs := hZ
  have a1 : va_up u5 (k) (.inr (1, [.ref (ad (k + 1)), .ref (ad (k + 2)), .ref (ad (k + 3)), .null, .int 0])) (k + 1) = .inl (cI, 128, .inl (fun _ => 0)) := (va_up_ne _ _ (by omega)).trans a1
  have a2 : va_up u5 (k) (.inr (1, [.ref (ad (k + 1)), .ref (ad (k + 2)), .ref (ad (k + 3)), .null, .int 0])) (k + 2) = .inl (cL, 128, .inr (.inl (fun _ => 0))) := (va_up_ne _ _ (by omega)).trans a2
  have a3 : va_up u5 (k) (.inr (1, [.ref (ad (k + 1)), .ref (ad (k + 2)), .ref (ad (k + 3)), .null, .int 0])) (k + 3) = .inl (cL, 128, .inr (.inl (fun _ => 0))) := (va_up_ne _ _ (by omega)).trans a3
  have h0 : va_up u5 (k) (.inr (1, [.ref (ad (k + 1)), .ref (ad (k + 2)), .ref (ad (k + 3)), .null, .int 0])) (k) = .inr (1, [.ref (ad (k + 1)), .ref (ad (k + 2)), .ref (ad (k + 3)), .null, .int 0]) := va_up_self _ _ _
  have hfr : ∀ j, j < k → va_up u5 (k) (.inr (1, [.ref (ad (k + 1)), .ref (ad (k + 2)), .ref (ad (k + 3)), .null, .int 0])) j = w j := fun j hj => (va_up_ne _ _ (by omega)).trans (hfr j hj)
  generalize va_up u5 (k) (.inr (1, [.ref (ad (k + 1)), .ref (ad (k + 2)), .ref (ad (k + 3)), .null, .int 0])) = u6 at hZ hfr a1 a2 a3 h0
  refine lv_aload_n hx hb d_Prs_init_31 rfl (lv_at hl 0 rfl) ?_
  refine lv_sipush (v := nI 128) hx hb d_Prs_init_32 rfl ?_
  refine q_newA (atype := .long) (ty := .long) (N' := 128) (a0 := (128, .inr (.inl (fun _ => 0)))) had hx hb (hts _ (gm k_71)) rfl (Or.inr rfl) hK hZ hN 1 rfl (fun _ => rfl) (by decide) (by decide) (by decide) (Nat.le_of_ble_eq_true rfl) (Nat.le_of_ble_eq_true rfl) (by omega) d_Prs_init_35 (fun H hZ => ?_)
  refine W.widen (k := 4) (n := 512) (by omega) (by omega) ?_
  have hZ : sZ (dC, dI) vCl (k + 5) ad (fun q => N0 ≤ q) s.heap (va_up u6 (k + 4) (.inl (cL, 128, .inr (.inl (fun _ => 0))))) H locs := hZ
  have a1 : va_up u6 (k + 4) (.inl (cL, 128, .inr (.inl (fun _ => 0)))) (k + 1) = .inl (cI, 128, .inl (fun _ => 0)) := (va_up_ne _ _ (by omega)).trans a1
  have a2 : va_up u6 (k + 4) (.inl (cL, 128, .inr (.inl (fun _ => 0)))) (k + 2) = .inl (cL, 128, .inr (.inl (fun _ => 0))) := (va_up_ne _ _ (by omega)).trans a2
  have a3 : va_up u6 (k + 4) (.inl (cL, 128, .inr (.inl (fun _ => 0)))) (k + 3) = .inl (cL, 128, .inr (.inl (fun _ => 0))) := (va_up_ne _ _ (by omega)).trans a3
  have h0 : va_up u6 (k + 4) (.inl (cL, 128, .inr (.inl (fun _ => 0)))) (k) = .inr (1, [.ref (ad (k + 1)), .ref (ad (k + 2)), .ref (ad (k + 3)), .null, .int 0]) := (va_up_ne _ _ (by omega)).trans h0
  have a4 : va_up u6 (k + 4) (.inl (cL, 128, .inr (.inl (fun _ => 0)))) (k + 4) = .inl (cL, 128, .inr (.inl (fun _ => 0))) := va_up_self _ _ _
  have hfr : ∀ j, j < k → va_up u6 (k + 4) (.inl (cL, 128, .inr (.inl (fun _ => 0)))) j = w j := fun j hj => (va_up_ne _ _ (by omega)).trans (hfr j hj)
  generalize va_up u6 (k + 4) (.inl (cL, 128, .inr (.inl (fun _ => 0)))) = u7 at hZ hfr a1 a2 a3 h0 a4
  refine q_putF (C := R_Prs) (T := T_Prs) (N := 5) (ty := .array .long) (v := .ref (ad (k + 4))) hx hb hts (fun w h => gm (inT_Prs w h)) ty_Prs tyo_Prs nm_Prs hown hK hZ (k) (by omega) h0 rfl 3 (by decide) (hts _ (gm k_84)) (fun _ h9 => h9) rfl hin2 rfl (by decide +kernel) rfl rfl (Nat.le_of_ble_eq_true rfl) d_Prs_init_37 (fun H locs hZ => ?_)
  have hZ : sZ (dC, dI) vCl (k + 5) ad (fun q => N0 ≤ q) s.heap (va_up u7 (k) (.inr (1, [.ref (ad (k + 1)), .ref (ad (k + 2)), .ref (ad (k + 3)), .ref (ad (k + 4)), .int 0]))) H locs := hZ
  have a1 : va_up u7 (k) (.inr (1, [.ref (ad (k + 1)), .ref (ad (k + 2)), .ref (ad (k + 3)), .ref (ad (k + 4)), .int 0])) (k + 1) = .inl (cI, 128, .inl (fun _ => 0)) := (va_up_ne _ _ (by omega)).trans a1
  have a2 : va_up u7 (k) (.inr (1, [.ref (ad (k + 1)), .ref (ad (k + 2)), .ref (ad (k + 3)), .ref (ad (k + 4)), .int 0])) (k + 2) = .inl (cL, 128, .inr (.inl (fun _ => 0))) := (va_up_ne _ _ (by omega)).trans a2
  have a3 : va_up u7 (k) (.inr (1, [.ref (ad (k + 1)), .ref (ad (k + 2)), .ref (ad (k + 3)), .ref (ad (k + 4)), .int 0])) (k + 3) = .inl (cL, 128, .inr (.inl (fun _ => 0))) := (va_up_ne _ _ (by omega)).trans a3
  have a4 : va_up u7 (k) (.inr (1, [.ref (ad (k + 1)), .ref (ad (k + 2)), .ref (ad (k + 3)), .ref (ad (k + 4)), .int 0])) (k + 4) = .inl (cL, 128, .inr (.inl (fun _ => 0))) := (va_up_ne _ _ (by omega)).trans a4
  have h0 : va_up u7 (k) (.inr (1, [.ref (ad (k + 1)), .ref (ad (k + 2)), .ref (ad (k + 3)), .ref (ad (k + 4)), .int 0])) (k) = .inr (1, [.ref (ad (k + 1)), .ref (ad (k + 2)), .ref (ad (k + 3)), .ref (ad (k + 4)), .int 0]) := va_up_self _ _ _
  have hfr : ∀ j, j < k → va_up u7 (k) (.inr (1, [.ref (ad (k + 1)), .ref (ad (k + 2)), .ref (ad (k + 3)), .ref (ad (k + 4)), .int 0])) j = w j := fun j hj => (va_up_ne _ _ (by omega)).trans (hfr j hj)
  generalize va_up u7 (k) (.inr (1, [.ref (ad (k + 1)), .ref (ad (k + 2)), .ref (ad (k + 3)), .ref (ad (k + 4)), .int 0])) = u8 at hZ hfr a1 a2 a3 a4 h0
  refine lv_aload_n hx hb d_Prs_init_40 rfl (lv_at hl 0 rfl) ?_
  refine lv_iconst (v := nI 0) hx hb d_Prs_init_41 rfl ?_
  refine q_put (C := R_Prs) (T := T_Prs) (N := 5) (ty := .int) (v := .int (nI 0)) hx hb hts (fun w h => gm (inT_Prs w h)) ty_Prs tyo_Prs nm_Prs hown hK hZ (k) (by omega) h0 rfl 4 (by decide) (hts _ (gm k_86)) (fun _ h9 => h9) rfl (by decide +kernel) rfl rfl (Nat.le_of_ble_eq_true rfl) d_Prs_init_42 (fun H locs hZ => ?_)
  have hZ : sZ (dC, dI) vCl (k + 5) ad (fun q => N0 ≤ q) s.heap (va_up u8 (k) (.inr (1, [.ref (ad (k + 1)), .ref (ad (k + 2)), .ref (ad (k + 3)), .ref (ad (k + 4)), .int (nI 0)]))) H locs := hZ
  have a1 : va_up u8 (k) (.inr (1, [.ref (ad (k + 1)), .ref (ad (k + 2)), .ref (ad (k + 3)), .ref (ad (k + 4)), .int (nI 0)])) (k + 1) = .inl (cI, 128, .inl (fun _ => 0)) := (va_up_ne _ _ (by omega)).trans a1
  have a2 : va_up u8 (k) (.inr (1, [.ref (ad (k + 1)), .ref (ad (k + 2)), .ref (ad (k + 3)), .ref (ad (k + 4)), .int (nI 0)])) (k + 2) = .inl (cL, 128, .inr (.inl (fun _ => 0))) := (va_up_ne _ _ (by omega)).trans a2
  have a3 : va_up u8 (k) (.inr (1, [.ref (ad (k + 1)), .ref (ad (k + 2)), .ref (ad (k + 3)), .ref (ad (k + 4)), .int (nI 0)])) (k + 3) = .inl (cL, 128, .inr (.inl (fun _ => 0))) := (va_up_ne _ _ (by omega)).trans a3
  have a4 : va_up u8 (k) (.inr (1, [.ref (ad (k + 1)), .ref (ad (k + 2)), .ref (ad (k + 3)), .ref (ad (k + 4)), .int (nI 0)])) (k + 4) = .inl (cL, 128, .inr (.inl (fun _ => 0))) := (va_up_ne _ _ (by omega)).trans a4
  have h0 : va_up u8 (k) (.inr (1, [.ref (ad (k + 1)), .ref (ad (k + 2)), .ref (ad (k + 3)), .ref (ad (k + 4)), .int (nI 0)])) (k) = .inr (1, [.ref (ad (k + 1)), .ref (ad (k + 2)), .ref (ad (k + 3)), .ref (ad (k + 4)), .int (nI 0)]) := va_up_self _ _ _
  have hfr : ∀ j, j < k → va_up u8 (k) (.inr (1, [.ref (ad (k + 1)), .ref (ad (k + 2)), .ref (ad (k + 3)), .ref (ad (k + 4)), .int (nI 0)])) j = w j := fun j hj => (va_up_ne _ _ (by omega)).trans (hfr j hj)
  generalize va_up u8 (k) (.inr (1, [.ref (ad (k + 1)), .ref (ad (k + 2)), .ref (ad (k + 3)), .ref (ad (k + 4)), .int (nI 0)])) = u9 at hZ hfr a1 a2 a3 a4 h0
  refine q_sz had (by omega) (by omega) hZ (fun hs => ?_)
  exact q_vretG hx hb hr hlocks hK hAm hZ hN hs ⟨h0, a1, a2, a3, a4, hfr⟩ d_Prs_init_45
set_option maxHeartbeats 4000000 in
set_option maxRecDepth 100000 in
theorem c_Mod_init (l : Launch) (dC : Nat → ClassId) (dI : Nat → Nat → Nat) (cI cL cB : ClassId) (ad : Nat → Nat) (N0 : Nat) (had : ∀ k, ad k = N0 + k) (w : Nat → va_E) (k : Nat) (h0 : w k = .inr (3, [.int 0, .null, .null, .null, .null, .int 0, .null, .null, .null, .int 0])) : Met l y_Mod_init ws_Mod_init ({ frames := 1, cells := 7, slots := 1934, locals := 12 } : Room) (va_Pc [.ref (ad k)] (sG (dC, dI) vCl [(cI, .int), (cL, .long), (cB, .object "CoinBag$Bag")] (k + 1) ad N0 w)) (va_Qv (fun u => u (k) = .inr (3, [.int 0, .ref (ad (k + 1)), .ref (ad (k + 2)), .ref (ad (k + 3)), .ref (ad (k + 4)), .int 0, .ref (ad (k + 5)), .ref (ad (k + 6)), .ref (ad (k + 7)), .int 0]) ∧ u (k + 1) = .inl (cI, 8, .inl (fun _ => 0)) ∧ u (k + 2) = .inl (cI, 512, .inl (fun _ => 0)) ∧ u (k + 3) = .inl (cL, 512, .inr (.inl (fun _ => 0))) ∧ u (k + 4) = .inl (cL, 512, .inr (.inl (fun _ => 0))) ∧ u (k + 5) = .inl (cI, 130, .inl (fun _ => 0)) ∧ u (k + 6) = .inl (cL, 130, .inr (.inl (fun _ => 0))) ∧ u (k + 7) = .inl (cL, 130, .inr (.inl (fun _ => 0))) ∧ ∀ j, j < k → u j = w j) (sG (dC, dI) vCl [(cI, .int), (cL, .long), (cB, .object "CoinBag$Bag")] (k + 8) ad N0) (fun q => N0 ≤ q)) 7 1934 (fun q => N0 ≤ q) := by
  refine Met.ofW (cc := b_Mod_init) (maxL := 1) (ret := none) (by decide) rfl ?_
  intro p e s m args below meth c s₁ B hml hv
  obtain ⟨rfl, ⟨hP, hK, hD, hN, hAm⟩, hs0⟩ := hv
  have hx := B.exec
  have hb := B.bytes
  have hr := B.returns
  have hts := atoms_spec (ws := ws_Mod_init) B.pre
  have hown : s.vm.findClass "CoinBagModel" = some m.cls := findClass_of_methodNamed B.named
  have hlocks := B.notSynchronized
  have hin2 : meth.name = "<init>" := (name_of_methodNamed B.named B.method).1
  have hZ : sZ (dC, dI) vCl (k + 1) ad (fun q => N0 ≤ q) s.heap w s.heap [] := ⟨hP, hD, va_S.rf⟩
  have hl := lv_entry ([.ref (ad k)]) (n := 1) (Nat.le_of_ble_eq_true rfl)
  rw [lg_entry_eq]
  generalize (lg_sl ([.ref (ad k)]) ++ List.replicate (1 - (lg_sl ([.ref (ad k)])).length) Slot.unset).toArray = ls at hl ⊢
  have hl : lv_has ls 1 [(0, .ref (ad k))] := hl
  refine lv_aload_n hx hb d_Mod_init_0 rfl (lv_at hl 0 rfl) ?_
  refine W.objInit hx hb hown (hts _ (gm k_419)) (hts _ (gm k_40)) (hts _ (gm k_41)) rfl (hl.1.trans hml.symm) rfl d_Mod_init_1 (Nat.le_of_ble_eq_true rfl) (Nat.le_of_ble_eq_true rfl) ?_
  refine W.eq (g2 := F0 m 4 ls []) rfl ?_
  have hfr : ∀ j, j < k → w j = w j := fun _ _ => rfl
  refine lv_aload_n hx hb d_Mod_init_4 rfl (lv_at hl 0 rfl) ?_
  refine lv_bipush (v := nI 8) hx hb d_Mod_init_5 rfl ?_
  refine q_newA (atype := .int) (ty := .int) (N' := 8) (a0 := (8, .inl (fun _ => 0))) had hx hb (hts _ (gm k_70)) rfl (Or.inl rfl) hK hZ hN 0 rfl (fun _ => rfl) (by decide) (by decide) (by decide) (Nat.le_of_ble_eq_true rfl) (Nat.le_of_ble_eq_true rfl) (by omega) d_Mod_init_7 (fun H hZ => ?_)
  refine W.widen (k := 1) (n := 8) (by omega) (by omega) ?_
  have hZ : sZ (dC, dI) vCl (k + 2) ad (fun q => N0 ≤ q) s.heap (va_up w (k + 1) (.inl (cI, 8, .inl (fun _ => 0)))) H [] := hZ
  have h0 : va_up w (k + 1) (.inl (cI, 8, .inl (fun _ => 0))) (k) = .inr (3, [.int 0, .null, .null, .null, .null, .int 0, .null, .null, .null, .int 0]) := (va_up_ne _ _ (by omega)).trans h0
  have a1 : va_up w (k + 1) (.inl (cI, 8, .inl (fun _ => 0))) (k + 1) = .inl (cI, 8, .inl (fun _ => 0)) := va_up_self _ _ _
  have hfr : ∀ j, j < k → va_up w (k + 1) (.inl (cI, 8, .inl (fun _ => 0))) j = w j := fun j hj => (va_up_ne _ _ (by omega)).trans (hfr j hj)
  generalize va_up w (k + 1) (.inl (cI, 8, .inl (fun _ => 0))) = u1 at hZ hfr h0 a1
  refine q_putF (C := R_Mod) (T := T_Mod) (N := 10) (ty := .array .int) (v := .ref (ad (k + 1))) hx hb hts (fun w h => gm (inT_Mod w h)) ty_Mod tyo_Mod nm_Mod hown hK hZ (k) (by omega) h0 rfl 1 (by decide) (hts _ (gm k_421)) (fun _ h9 => h9) rfl hin2 rfl (by decide +kernel) rfl rfl (Nat.le_of_ble_eq_true rfl) d_Mod_init_9 (fun H locs hZ => ?_)
  have hZ : sZ (dC, dI) vCl (k + 2) ad (fun q => N0 ≤ q) s.heap (va_up u1 (k) (.inr (3, [.int 0, .ref (ad (k + 1)), .null, .null, .null, .int 0, .null, .null, .null, .int 0]))) H locs := hZ
  have a1 : va_up u1 (k) (.inr (3, [.int 0, .ref (ad (k + 1)), .null, .null, .null, .int 0, .null, .null, .null, .int 0])) (k + 1) = .inl (cI, 8, .inl (fun _ => 0)) := (va_up_ne _ _ (by omega)).trans a1
  have h0 : va_up u1 (k) (.inr (3, [.int 0, .ref (ad (k + 1)), .null, .null, .null, .int 0, .null, .null, .null, .int 0])) (k) = .inr (3, [.int 0, .ref (ad (k + 1)), .null, .null, .null, .int 0, .null, .null, .null, .int 0]) := va_up_self _ _ _
  have hfr : ∀ j, j < k → va_up u1 (k) (.inr (3, [.int 0, .ref (ad (k + 1)), .null, .null, .null, .int 0, .null, .null, .null, .int 0])) j = w j := fun j hj => (va_up_ne _ _ (by omega)).trans (hfr j hj)
  generalize va_up u1 (k) (.inr (3, [.int 0, .ref (ad (k + 1)), .null, .null, .null, .int 0, .null, .null, .null, .int 0])) = u2 at hZ hfr a1 h0
  refine lv_aload_n hx hb d_Mod_init_12 rfl (lv_at hl 0 rfl) ?_
  refine lv_sipush (v := nI 512) hx hb d_Mod_init_13 rfl ?_
  refine q_newA (atype := .int) (ty := .int) (N' := 512) (a0 := (512, .inl (fun _ => 0))) had hx hb (hts _ (gm k_70)) rfl (Or.inl rfl) hK hZ hN 0 rfl (fun _ => rfl) (by decide) (by decide) (by decide) (Nat.le_of_ble_eq_true rfl) (Nat.le_of_ble_eq_true rfl) (by omega) d_Mod_init_16 (fun H hZ => ?_)
  refine W.widen (k := 2) (n := 520) (by omega) (by omega) ?_
  have hZ : sZ (dC, dI) vCl (k + 3) ad (fun q => N0 ≤ q) s.heap (va_up u2 (k + 2) (.inl (cI, 512, .inl (fun _ => 0)))) H locs := hZ
  have a1 : va_up u2 (k + 2) (.inl (cI, 512, .inl (fun _ => 0))) (k + 1) = .inl (cI, 8, .inl (fun _ => 0)) := (va_up_ne _ _ (by omega)).trans a1
  have h0 : va_up u2 (k + 2) (.inl (cI, 512, .inl (fun _ => 0))) (k) = .inr (3, [.int 0, .ref (ad (k + 1)), .null, .null, .null, .int 0, .null, .null, .null, .int 0]) := (va_up_ne _ _ (by omega)).trans h0
  have a2 : va_up u2 (k + 2) (.inl (cI, 512, .inl (fun _ => 0))) (k + 2) = .inl (cI, 512, .inl (fun _ => 0)) := va_up_self _ _ _
  have hfr : ∀ j, j < k → va_up u2 (k + 2) (.inl (cI, 512, .inl (fun _ => 0))) j = w j := fun j hj => (va_up_ne _ _ (by omega)).trans (hfr j hj)
  generalize va_up u2 (k + 2) (.inl (cI, 512, .inl (fun _ => 0))) = u3 at hZ hfr a1 h0 a2
  refine q_putF (C := R_Mod) (T := T_Mod) (N := 10) (ty := .array .int) (v := .ref (ad (k + 2))) hx hb hts (fun w h => gm (inT_Mod w h)) ty_Mod tyo_Mod nm_Mod hown hK hZ (k) (by omega) h0 rfl 2 (by decide) (hts _ (gm k_422)) (fun _ h9 => h9) rfl hin2 rfl (by decide +kernel) rfl rfl (Nat.le_of_ble_eq_true rfl) d_Mod_init_18 (fun H locs hZ => ?_)
  have hZ : sZ (dC, dI) vCl (k + 3) ad (fun q => N0 ≤ q) s.heap (va_up u3 (k) (.inr (3, [.int 0, .ref (ad (k + 1)), .ref (ad (k + 2)), .null, .null, .int 0, .null, .null, .null, .int 0]))) H locs := hZ
  have a1 : va_up u3 (k) (.inr (3, [.int 0, .ref (ad (k + 1)), .ref (ad (k + 2)), .null, .null, .int 0, .null, .null, .null, .int 0])) (k + 1) = .inl (cI, 8, .inl (fun _ => 0)) := (va_up_ne _ _ (by omega)).trans a1
  have a2 : va_up u3 (k) (.inr (3, [.int 0, .ref (ad (k + 1)), .ref (ad (k + 2)), .null, .null, .int 0, .null, .null, .null, .int 0])) (k + 2) = .inl (cI, 512, .inl (fun _ => 0)) := (va_up_ne _ _ (by omega)).trans a2
  have h0 : va_up u3 (k) (.inr (3, [.int 0, .ref (ad (k + 1)), .ref (ad (k + 2)), .null, .null, .int 0, .null, .null, .null, .int 0])) (k) = .inr (3, [.int 0, .ref (ad (k + 1)), .ref (ad (k + 2)), .null, .null, .int 0, .null, .null, .null, .int 0]) := va_up_self _ _ _
  have hfr : ∀ j, j < k → va_up u3 (k) (.inr (3, [.int 0, .ref (ad (k + 1)), .ref (ad (k + 2)), .null, .null, .int 0, .null, .null, .null, .int 0])) j = w j := fun j hj => (va_up_ne _ _ (by omega)).trans (hfr j hj)
  generalize va_up u3 (k) (.inr (3, [.int 0, .ref (ad (k + 1)), .ref (ad (k + 2)), .null, .null, .int 0, .null, .null, .null, .int 0])) = u4 at hZ hfr a1 a2 h0
  refine lv_aload_n hx hb d_Mod_init_21 rfl (lv_at hl 0 rfl) ?_
  refine lv_sipush (v := nI 512) hx hb d_Mod_init_22 rfl ?_
  refine q_newA (atype := .long) (ty := .long) (N' := 512) (a0 := (512, .inr (.inl (fun _ => 0)))) had hx hb (hts _ (gm k_71)) rfl (Or.inr rfl) hK hZ hN 1 rfl (fun _ => rfl) (by decide) (by decide) (by decide) (Nat.le_of_ble_eq_true rfl) (Nat.le_of_ble_eq_true rfl) (by omega) d_Mod_init_25 (fun H hZ => ?_)
  refine W.widen (k := 3) (n := 1032) (by omega) (by omega) ?_
  have hZ : sZ (dC, dI) vCl (k + 4) ad (fun q => N0 ≤ q) s.heap (va_up u4 (k + 3) (.inl (cL, 512, .inr (.inl (fun _ => 0))))) H locs := hZ
  have a1 : va_up u4 (k + 3) (.inl (cL, 512, .inr (.inl (fun _ => 0)))) (k + 1) = .inl (cI, 8, .inl (fun _ => 0)) := (va_up_ne _ _ (by omega)).trans a1
  have a2 : va_up u4 (k + 3) (.inl (cL, 512, .inr (.inl (fun _ => 0)))) (k + 2) = .inl (cI, 512, .inl (fun _ => 0)) := (va_up_ne _ _ (by omega)).trans a2
  have h0 : va_up u4 (k + 3) (.inl (cL, 512, .inr (.inl (fun _ => 0)))) (k) = .inr (3, [.int 0, .ref (ad (k + 1)), .ref (ad (k + 2)), .null, .null, .int 0, .null, .null, .null, .int 0]) := (va_up_ne _ _ (by omega)).trans h0
  have a3 : va_up u4 (k + 3) (.inl (cL, 512, .inr (.inl (fun _ => 0)))) (k + 3) = .inl (cL, 512, .inr (.inl (fun _ => 0))) := va_up_self _ _ _
  have hfr : ∀ j, j < k → va_up u4 (k + 3) (.inl (cL, 512, .inr (.inl (fun _ => 0)))) j = w j := fun j hj => (va_up_ne _ _ (by omega)).trans (hfr j hj)
  generalize va_up u4 (k + 3) (.inl (cL, 512, .inr (.inl (fun _ => 0)))) = u5 at hZ hfr a1 a2 h0 a3
  refine q_putF (C := R_Mod) (T := T_Mod) (N := 10) (ty := .array .long) (v := .ref (ad (k + 3))) hx hb hts (fun w h => gm (inT_Mod w h)) ty_Mod tyo_Mod nm_Mod hown hK hZ (k) (by omega) h0 rfl 3 (by decide) (hts _ (gm k_423)) (fun _ h9 => h9) rfl hin2 rfl (by decide +kernel) rfl rfl (Nat.le_of_ble_eq_true rfl) d_Mod_init_27 (fun H locs hZ => ?_)
  have hZ : sZ (dC, dI) vCl (k + 4) ad (fun q => N0 ≤ q) s.heap (va_up u5 (k) (.inr (3, [.int 0, .ref (ad (k + 1)), .ref (ad (k + 2)), .ref (ad (k + 3)), .null, .int 0, .null, .null, .null, .int 0]))) H locs := hZ
  have a1 : va_up u5 (k) (.inr (3, [.int 0, .ref (ad (k + 1)), .ref (ad (k + 2)), .ref (ad (k + 3)), .null, .int 0, .null, .null, .null, .int 0])) (k + 1) = .inl (cI, 8, .inl (fun _ => 0)) := (va_up_ne _ _ (by omega)).trans a1
  have a2 : va_up u5 (k) (.inr (3, [.int 0, .ref (ad (k + 1)), .ref (ad (k + 2)), .ref (ad (k + 3)), .null, .int 0, .null, .null, .null, .int 0])) (k + 2) = .inl (cI, 512, .inl (fun _ => 0)) := (va_up_ne _ _ (by omega)).trans a2
  have a3 : va_up u5 (k) (.inr (3, [.int 0, .ref (ad (k + 1)), .ref (ad (k + 2)), .ref (ad (k + 3)), .null, .int 0, .null, .null, .null, .int 0])) (k + 3) = .inl (cL, 512, .inr (.inl (fun _ => 0))) := (va_up_ne _ _ (by omega)).trans a3
  have h0 : va_up u5 (k) (.inr (3, [.int 0, .ref (ad (k + 1)), .ref (ad (k + 2)), .ref (ad (k + 3)), .null, .int 0, .null, .null, .null, .int 0])) (k) = .inr (3, [.int 0, .ref (ad (k + 1)), .ref (ad (k + 2)), .ref (ad (k + 3)), .null, .int 0, .null, .null, .null, .int 0]) := va_up_self _ _ _
  have hfr : ∀ j, j < k → va_up u5 (k) (.inr (3, [.int 0, .ref (ad (k + 1)), .ref (ad (k + 2)), .ref (ad (k + 3)), .null, .int 0, .null, .null, .null, .int 0])) j = w j := fun j hj => (va_up_ne _ _ (by omega)).trans (hfr j hj)
  generalize va_up u5 (k) (.inr (3, [.int 0, .ref (ad (k + 1)), .ref (ad (k + 2)), .ref (ad (k + 3)), .null, .int 0, .null, .null, .null, .int 0])) = u6 at hZ hfr a1 a2 a3 h0
  refine lv_aload_n hx hb d_Mod_init_30 rfl (lv_at hl 0 rfl) ?_
  refine lv_sipush (v := nI 512) hx hb d_Mod_init_31 rfl ?_
  refine q_newA (atype := .long) (ty := .long) (N' := 512) (a0 := (512, .inr (.inl (fun _ => 0)))) had hx hb (hts _ (gm k_71)) rfl (Or.inr rfl) hK hZ hN 1 rfl (fun _ => rfl) (by decide) (by decide) (by decide) (Nat.le_of_ble_eq_true rfl) (Nat.le_of_ble_eq_true rfl) (by omega) d_Mod_init_34 (fun H hZ => ?_)
  refine W.widen (k := 4) (n := 1544) (by omega) (by omega) ?_
  have hZ : sZ (dC, dI) vCl (k + 5) ad (fun q => N0 ≤ q) s.heap (va_up u6 (k + 4) (.inl (cL, 512, .inr (.inl (fun _ => 0))))) H locs := hZ
  have a1 : va_up u6 (k + 4) (.inl (cL, 512, .inr (.inl (fun _ => 0)))) (k + 1) = .inl (cI, 8, .inl (fun _ => 0)) := (va_up_ne _ _ (by omega)).trans a1
  have a2 : va_up u6 (k + 4) (.inl (cL, 512, .inr (.inl (fun _ => 0)))) (k + 2) = .inl (cI, 512, .inl (fun _ => 0)) := (va_up_ne _ _ (by omega)).trans a2
  have a3 : va_up u6 (k + 4) (.inl (cL, 512, .inr (.inl (fun _ => 0)))) (k + 3) = .inl (cL, 512, .inr (.inl (fun _ => 0))) := (va_up_ne _ _ (by omega)).trans a3
  have h0 : va_up u6 (k + 4) (.inl (cL, 512, .inr (.inl (fun _ => 0)))) (k) = .inr (3, [.int 0, .ref (ad (k + 1)), .ref (ad (k + 2)), .ref (ad (k + 3)), .null, .int 0, .null, .null, .null, .int 0]) := (va_up_ne _ _ (by omega)).trans h0
  have a4 : va_up u6 (k + 4) (.inl (cL, 512, .inr (.inl (fun _ => 0)))) (k + 4) = .inl (cL, 512, .inr (.inl (fun _ => 0))) := va_up_self _ _ _
  have hfr : ∀ j, j < k → va_up u6 (k + 4) (.inl (cL, 512, .inr (.inl (fun _ => 0)))) j = w j := fun j hj => (va_up_ne _ _ (by omega)).trans (hfr j hj)
  generalize va_up u6 (k + 4) (.inl (cL, 512, .inr (.inl (fun _ => 0)))) = u7 at hZ hfr a1 a2 a3 h0 a4
  refine q_putF (C := R_Mod) (T := T_Mod) (N := 10) (ty := .array .long) (v := .ref (ad (k + 4))) hx hb hts (fun w h => gm (inT_Mod w h)) ty_Mod tyo_Mod nm_Mod hown hK hZ (k) (by omega) h0 rfl 4 (by decide) (hts _ (gm k_424)) (fun _ h9 => h9) rfl hin2 rfl (by decide +kernel) rfl rfl (Nat.le_of_ble_eq_true rfl) d_Mod_init_36 (fun H locs hZ => ?_)
  have hZ : sZ (dC, dI) vCl (k + 5) ad (fun q => N0 ≤ q) s.heap (va_up u7 (k) (.inr (3, [.int 0, .ref (ad (k + 1)), .ref (ad (k + 2)), .ref (ad (k + 3)), .ref (ad (k + 4)), .int 0, .null, .null, .null, .int 0]))) H locs := hZ
  have a1 : va_up u7 (k) (.inr (3, [.int 0, .ref (ad (k + 1)), .ref (ad (k + 2)), .ref (ad (k + 3)), .ref (ad (k + 4)), .int 0, .null, .null, .null, .int 0])) (k + 1) = .inl (cI, 8, .inl (fun _ => 0)) := (va_up_ne _ _ (by omega)).trans a1
  have a2 : va_up u7 (k) (.inr (3, [.int 0, .ref (ad (k + 1)), .ref (ad (k + 2)), .ref (ad (k + 3)), .ref (ad (k + 4)), .int 0, .null, .null, .null, .int 0])) (k + 2) = .inl (cI, 512, .inl (fun _ => 0)) := (va_up_ne _ _ (by omega)).trans a2
  have a3 : va_up u7 (k) (.inr (3, [.int 0, .ref (ad (k + 1)), .ref (ad (k + 2)), .ref (ad (k + 3)), .ref (ad (k + 4)), .int 0, .null, .null, .null, .int 0])) (k + 3) = .inl (cL, 512, .inr (.inl (fun _ => 0))) := (va_up_ne _ _ (by omega)).trans a3
  have a4 : va_up u7 (k) (.inr (3, [.int 0, .ref (ad (k + 1)), .ref (ad (k + 2)), .ref (ad (k + 3)), .ref (ad (k + 4)), .int 0, .null, .null, .null, .int 0])) (k + 4) = .inl (cL, 512, .inr (.inl (fun _ => 0))) := (va_up_ne _ _ (by omega)).trans a4
  have h0 : va_up u7 (k) (.inr (3, [.int 0, .ref (ad (k + 1)), .ref (ad (k + 2)), .ref (ad (k + 3)), .ref (ad (k + 4)), .int 0, .null, .null, .null, .int 0])) (k) = .inr (3, [.int 0, .ref (ad (k + 1)), .ref (ad (k + 2)), .ref (ad (k + 3)), .ref (ad (k + 4)), .int 0, .null, .null, .null, .int 0]) := va_up_self _ _ _
  have hfr : ∀ j, j < k → va_up u7 (k) (.inr (3, [.int 0, .ref (ad (k + 1)), .ref (ad (k + 2)), .ref (ad (k + 3)), .ref (ad (k + 4)), .int 0, .null, .null, .null, .int 0])) j = w j := fun j hj => (va_up_ne _ _ (by omega)).trans (hfr j hj)
  generalize va_up u7 (k) (.inr (3, [.int 0, .ref (ad (k + 1)), .ref (ad (k + 2)), .ref (ad (k + 3)), .ref (ad (k + 4)), .int 0, .null, .null, .null, .int 0])) = u8 at hZ hfr a1 a2 a3 a4 h0
  refine lv_aload_n hx hb d_Mod_init_39 rfl (lv_at hl 0 rfl) ?_
  refine lv_sipush (v := nI 130) hx hb d_Mod_init_40 rfl ?_
  refine q_newA (atype := .int) (ty := .int) (N' := 130) (a0 := (130, .inl (fun _ => 0))) had hx hb (hts _ (gm k_70)) rfl (Or.inl rfl) hK hZ hN 0 rfl (fun _ => rfl) (by decide) (by decide) (by decide) (Nat.le_of_ble_eq_true rfl) (Nat.le_of_ble_eq_true rfl) (by omega) d_Mod_init_43 (fun H hZ => ?_)
  refine W.widen (k := 5) (n := 1674) (by omega) (by omega) ?_
  have hZ : sZ (dC, dI) vCl (k + 6) ad (fun q => N0 ≤ q) s.heap (va_up u8 (k + 5) (.inl (cI, 130, .inl (fun _ => 0)))) H locs := hZ
  have a1 : va_up u8 (k + 5) (.inl (cI, 130, .inl (fun _ => 0))) (k + 1) = .inl (cI, 8, .inl (fun _ => 0)) := (va_up_ne _ _ (by omega)).trans a1
  have a2 : va_up u8 (k + 5) (.inl (cI, 130, .inl (fun _ => 0))) (k + 2) = .inl (cI, 512, .inl (fun _ => 0)) := (va_up_ne _ _ (by omega)).trans a2
  have a3 : va_up u8 (k + 5) (.inl (cI, 130, .inl (fun _ => 0))) (k + 3) = .inl (cL, 512, .inr (.inl (fun _ => 0))) := (va_up_ne _ _ (by omega)).trans a3
  have a4 : va_up u8 (k + 5) (.inl (cI, 130, .inl (fun _ => 0))) (k + 4) = .inl (cL, 512, .inr (.inl (fun _ => 0))) := (va_up_ne _ _ (by omega)).trans a4
  have h0 : va_up u8 (k + 5) (.inl (cI, 130, .inl (fun _ => 0))) (k) = .inr (3, [.int 0, .ref (ad (k + 1)), .ref (ad (k + 2)), .ref (ad (k + 3)), .ref (ad (k + 4)), .int 0, .null, .null, .null, .int 0]) := (va_up_ne _ _ (by omega)).trans h0
  have a5 : va_up u8 (k + 5) (.inl (cI, 130, .inl (fun _ => 0))) (k + 5) = .inl (cI, 130, .inl (fun _ => 0)) := va_up_self _ _ _
  have hfr : ∀ j, j < k → va_up u8 (k + 5) (.inl (cI, 130, .inl (fun _ => 0))) j = w j := fun j hj => (va_up_ne _ _ (by omega)).trans (hfr j hj)
  generalize va_up u8 (k + 5) (.inl (cI, 130, .inl (fun _ => 0))) = u9 at hZ hfr a1 a2 a3 a4 h0 a5
  refine q_putF (C := R_Mod) (T := T_Mod) (N := 10) (ty := .array .int) (v := .ref (ad (k + 5))) hx hb hts (fun w h => gm (inT_Mod w h)) ty_Mod tyo_Mod nm_Mod hown hK hZ (k) (by omega) h0 rfl 6 (by decide) (hts _ (gm k_426)) (fun _ h9 => h9) rfl hin2 rfl (by decide +kernel) rfl rfl (Nat.le_of_ble_eq_true rfl) d_Mod_init_45 (fun H locs hZ => ?_)
  have hZ : sZ (dC, dI) vCl (k + 6) ad (fun q => N0 ≤ q) s.heap (va_up u9 (k) (.inr (3, [.int 0, .ref (ad (k + 1)), .ref (ad (k + 2)), .ref (ad (k + 3)), .ref (ad (k + 4)), .int 0, .ref (ad (k + 5)), .null, .null, .int 0]))) H locs := hZ
  have a1 : va_up u9 (k) (.inr (3, [.int 0, .ref (ad (k + 1)), .ref (ad (k + 2)), .ref (ad (k + 3)), .ref (ad (k + 4)), .int 0, .ref (ad (k + 5)), .null, .null, .int 0])) (k + 1) = .inl (cI, 8, .inl (fun _ => 0)) := (va_up_ne _ _ (by omega)).trans a1
  have a2 : va_up u9 (k) (.inr (3, [.int 0, .ref (ad (k + 1)), .ref (ad (k + 2)), .ref (ad (k + 3)), .ref (ad (k + 4)), .int 0, .ref (ad (k + 5)), .null, .null, .int 0])) (k + 2) = .inl (cI, 512, .inl (fun _ => 0)) := (va_up_ne _ _ (by omega)).trans a2
  have a3 : va_up u9 (k) (.inr (3, [.int 0, .ref (ad (k + 1)), .ref (ad (k + 2)), .ref (ad (k + 3)), .ref (ad (k + 4)), .int 0, .ref (ad (k + 5)), .null, .null, .int 0])) (k + 3) = .inl (cL, 512, .inr (.inl (fun _ => 0))) := (va_up_ne _ _ (by omega)).trans a3
  have a4 : va_up u9 (k) (.inr (3, [.int 0, .ref (ad (k + 1)), .ref (ad (k + 2)), .ref (ad (k + 3)), .ref (ad (k + 4)), .int 0, .ref (ad (k + 5)), .null, .null, .int 0])) (k + 4) = .inl (cL, 512, .inr (.inl (fun _ => 0))) := (va_up_ne _ _ (by omega)).trans a4
  have a5 : va_up u9 (k) (.inr (3, [.int 0, .ref (ad (k + 1)), .ref (ad (k + 2)), .ref (ad (k + 3)), .ref (ad (k + 4)), .int 0, .ref (ad (k + 5)), .null, .null, .int 0])) (k + 5) = .inl (cI, 130, .inl (fun _ => 0)) := (va_up_ne _ _ (by omega)).trans a5
  have h0 : va_up u9 (k) (.inr (3, [.int 0, .ref (ad (k + 1)), .ref (ad (k + 2)), .ref (ad (k + 3)), .ref (ad (k + 4)), .int 0, .ref (ad (k + 5)), .null, .null, .int 0])) (k) = .inr (3, [.int 0, .ref (ad (k + 1)), .ref (ad (k + 2)), .ref (ad (k + 3)), .ref (ad (k + 4)), .int 0, .ref (ad (k + 5)), .null, .null, .int 0]) := va_up_self _ _ _
  have hfr : ∀ j, j < k → va_up u9 (k) (.inr (3, [.int 0, .ref (ad (k + 1)), .ref (ad (k + 2)), .ref (ad (k + 3)), .ref (ad (k + 4)), .int 0, .ref (ad (k + 5)), .null, .null, .int 0])) j = w j := fun j hj => (va_up_ne _ _ (by omega)).trans (hfr j hj)
  generalize va_up u9 (k) (.inr (3, [.int 0, .ref (ad (k + 1)), .ref (ad (k + 2)), .ref (ad (k + 3)), .ref (ad (k + 4)), .int 0, .ref (ad (k + 5)), .null, .null, .int 0])) = u10 at hZ hfr a1 a2 a3 a4 a5 h0
  refine lv_aload_n hx hb d_Mod_init_48 rfl (lv_at hl 0 rfl) ?_
  refine lv_sipush (v := nI 130) hx hb d_Mod_init_49 rfl ?_
  refine q_newA (atype := .long) (ty := .long) (N' := 130) (a0 := (130, .inr (.inl (fun _ => 0)))) had hx hb (hts _ (gm k_71)) rfl (Or.inr rfl) hK hZ hN 1 rfl (fun _ => rfl) (by decide) (by decide) (by decide) (Nat.le_of_ble_eq_true rfl) (Nat.le_of_ble_eq_true rfl) (by omega) d_Mod_init_52 (fun H hZ => ?_)
  refine W.widen (k := 6) (n := 1804) (by omega) (by omega) ?_
  have hZ : sZ (dC, dI) vCl (k + 7) ad (fun q => N0 ≤ q) s.heap (va_up u10 (k + 6) (.inl (cL, 130, .inr (.inl (fun _ => 0))))) H locs := hZ
  have a1 : va_up u10 (k + 6) (.inl (cL, 130, .inr (.inl (fun _ => 0)))) (k + 1) = .inl (cI, 8, .inl (fun _ => 0)) := (va_up_ne _ _ (by omega)).trans a1
  have a2 : va_up u10 (k + 6) (.inl (cL, 130, .inr (.inl (fun _ => 0)))) (k + 2) = .inl (cI, 512, .inl (fun _ => 0)) := (va_up_ne _ _ (by omega)).trans a2
  have a3 : va_up u10 (k + 6) (.inl (cL, 130, .inr (.inl (fun _ => 0)))) (k + 3) = .inl (cL, 512, .inr (.inl (fun _ => 0))) := (va_up_ne _ _ (by omega)).trans a3
  have a4 : va_up u10 (k + 6) (.inl (cL, 130, .inr (.inl (fun _ => 0)))) (k + 4) = .inl (cL, 512, .inr (.inl (fun _ => 0))) := (va_up_ne _ _ (by omega)).trans a4
  have a5 : va_up u10 (k + 6) (.inl (cL, 130, .inr (.inl (fun _ => 0)))) (k + 5) = .inl (cI, 130, .inl (fun _ => 0)) := (va_up_ne _ _ (by omega)).trans a5
  have h0 : va_up u10 (k + 6) (.inl (cL, 130, .inr (.inl (fun _ => 0)))) (k) = .inr (3, [.int 0, .ref (ad (k + 1)), .ref (ad (k + 2)), .ref (ad (k + 3)), .ref (ad (k + 4)), .int 0, .ref (ad (k + 5)), .null, .null, .int 0]) := (va_up_ne _ _ (by omega)).trans h0
  have a6 : va_up u10 (k + 6) (.inl (cL, 130, .inr (.inl (fun _ => 0)))) (k + 6) = .inl (cL, 130, .inr (.inl (fun _ => 0))) := va_up_self _ _ _
  have hfr : ∀ j, j < k → va_up u10 (k + 6) (.inl (cL, 130, .inr (.inl (fun _ => 0)))) j = w j := fun j hj => (va_up_ne _ _ (by omega)).trans (hfr j hj)
  generalize va_up u10 (k + 6) (.inl (cL, 130, .inr (.inl (fun _ => 0)))) = u11 at hZ hfr a1 a2 a3 a4 a5 h0 a6
  refine q_putF (C := R_Mod) (T := T_Mod) (N := 10) (ty := .array .long) (v := .ref (ad (k + 6))) hx hb hts (fun w h => gm (inT_Mod w h)) ty_Mod tyo_Mod nm_Mod hown hK hZ (k) (by omega) h0 rfl 7 (by decide) (hts _ (gm k_427)) (fun _ h9 => h9) rfl hin2 rfl (by decide +kernel) rfl rfl (Nat.le_of_ble_eq_true rfl) d_Mod_init_54 (fun H locs hZ => ?_)
  have hZ : sZ (dC, dI) vCl (k + 7) ad (fun q => N0 ≤ q) s.heap (va_up u11 (k) (.inr (3, [.int 0, .ref (ad (k + 1)), .ref (ad (k + 2)), .ref (ad (k + 3)), .ref (ad (k + 4)), .int 0, .ref (ad (k + 5)), .ref (ad (k + 6)), .null, .int 0]))) H locs := hZ
  have a1 : va_up u11 (k) (.inr (3, [.int 0, .ref (ad (k + 1)), .ref (ad (k + 2)), .ref (ad (k + 3)), .ref (ad (k + 4)), .int 0, .ref (ad (k + 5)), .ref (ad (k + 6)), .null, .int 0])) (k + 1) = .inl (cI, 8, .inl (fun _ => 0)) := (va_up_ne _ _ (by omega)).trans a1
  have a2 : va_up u11 (k) (.inr (3, [.int 0, .ref (ad (k + 1)), .ref (ad (k + 2)), .ref (ad (k + 3)), .ref (ad (k + 4)), .int 0, .ref (ad (k + 5)), .ref (ad (k + 6)), .null, .int 0])) (k + 2) = .inl (cI, 512, .inl (fun _ => 0)) := (va_up_ne _ _ (by omega)).trans a2
  have a3 : va_up u11 (k) (.inr (3, [.int 0, .ref (ad (k + 1)), .ref (ad (k + 2)), .ref (ad (k + 3)), .ref (ad (k + 4)), .int 0, .ref (ad (k + 5)), .ref (ad (k + 6)), .null, .int 0])) (k + 3) = .inl (cL, 512, .inr (.inl (fun _ => 0))) := (va_up_ne _ _ (by omega)).trans a3
  have a4 : va_up u11 (k) (.inr (3, [.int 0, .ref (ad (k + 1)), .ref (ad (k + 2)), .ref (ad (k + 3)), .ref (ad (k + 4)), .int 0, .ref (ad (k + 5)), .ref (ad (k + 6)), .null, .int 0])) (k + 4) = .inl (cL, 512, .inr (.inl (fun _ => 0))) := (va_up_ne _ _ (by omega)).trans a4
  have a5 : va_up u11 (k) (.inr (3, [.int 0, .ref (ad (k + 1)), .ref (ad (k + 2)), .ref (ad (k + 3)), .ref (ad (k + 4)), .int 0, .ref (ad (k + 5)), .ref (ad (k + 6)), .null, .int 0])) (k + 5) = .inl (cI, 130, .inl (fun _ => 0)) := (va_up_ne _ _ (by omega)).trans a5
  have a6 : va_up u11 (k) (.inr (3, [.int 0, .ref (ad (k + 1)), .ref (ad (k + 2)), .ref (ad (k + 3)), .ref (ad (k + 4)), .int 0, .ref (ad (k + 5)), .ref (ad (k + 6)), .null, .int 0])) (k + 6) = .inl (cL, 130, .inr (.inl (fun _ => 0))) := (va_up_ne _ _ (by omega)).trans a6
  have h0 : va_up u11 (k) (.inr (3, [.int 0, .ref (ad (k + 1)), .ref (ad (k + 2)), .ref (ad (k + 3)), .ref (ad (k + 4)), .int 0, .ref (ad (k + 5)), .ref (ad (k + 6)), .null, .int 0])) (k) = .inr (3, [.int 0, .ref (ad (k + 1)), .ref (ad (k + 2)), .ref (ad (k + 3)), .ref (ad (k + 4)), .int 0, .ref (ad (k + 5)), .ref (ad (k + 6)), .null, .int 0]) := va_up_self _ _ _
  have hfr : ∀ j, j < k → va_up u11 (k) (.inr (3, [.int 0, .ref (ad (k + 1)), .ref (ad (k + 2)), .ref (ad (k + 3)), .ref (ad (k + 4)), .int 0, .ref (ad (k + 5)), .ref (ad (k + 6)), .null, .int 0])) j = w j := fun j hj => (va_up_ne _ _ (by omega)).trans (hfr j hj)
  generalize va_up u11 (k) (.inr (3, [.int 0, .ref (ad (k + 1)), .ref (ad (k + 2)), .ref (ad (k + 3)), .ref (ad (k + 4)), .int 0, .ref (ad (k + 5)), .ref (ad (k + 6)), .null, .int 0])) = u12 at hZ hfr a1 a2 a3 a4 a5 a6 h0
  refine lv_aload_n hx hb d_Mod_init_57 rfl (lv_at hl 0 rfl) ?_
  refine lv_sipush (v := nI 130) hx hb d_Mod_init_58 rfl ?_
  refine q_newA (atype := .long) (ty := .long) (N' := 130) (a0 := (130, .inr (.inl (fun _ => 0)))) had hx hb (hts _ (gm k_71)) rfl (Or.inr rfl) hK hZ hN 1 rfl (fun _ => rfl) (by decide) (by decide) (by decide) (Nat.le_of_ble_eq_true rfl) (Nat.le_of_ble_eq_true rfl) (by omega) d_Mod_init_61 (fun H hZ => ?_)
  refine W.widen (k := 7) (n := 1934) (by omega) (by omega) ?_
  have hZ : sZ (dC, dI) vCl (k + 8) ad (fun q => N0 ≤ q) s.heap (va_up u12 (k + 7) (.inl (cL, 130, .inr (.inl (fun _ => 0))))) H locs := hZ
  have a1 : va_up u12 (k + 7) (.inl (cL, 130, .inr (.inl (fun _ => 0)))) (k + 1) = .inl (cI, 8, .inl (fun _ => 0)) := (va_up_ne _ _ (by omega)).trans a1
  have a2 : va_up u12 (k + 7) (.inl (cL, 130, .inr (.inl (fun _ => 0)))) (k + 2) = .inl (cI, 512, .inl (fun _ => 0)) := (va_up_ne _ _ (by omega)).trans a2
  have a3 : va_up u12 (k + 7) (.inl (cL, 130, .inr (.inl (fun _ => 0)))) (k + 3) = .inl (cL, 512, .inr (.inl (fun _ => 0))) := (va_up_ne _ _ (by omega)).trans a3
  have a4 : va_up u12 (k + 7) (.inl (cL, 130, .inr (.inl (fun _ => 0)))) (k + 4) = .inl (cL, 512, .inr (.inl (fun _ => 0))) := (va_up_ne _ _ (by omega)).trans a4
  have a5 : va_up u12 (k + 7) (.inl (cL, 130, .inr (.inl (fun _ => 0)))) (k + 5) = .inl (cI, 130, .inl (fun _ => 0)) := (va_up_ne _ _ (by omega)).trans a5
  have a6 : va_up u12 (k + 7) (.inl (cL, 130, .inr (.inl (fun _ => 0)))) (k + 6) = .inl (cL, 130, .inr (.inl (fun _ => 0))) := (va_up_ne _ _ (by omega)).trans a6
  have h0 : va_up u12 (k + 7) (.inl (cL, 130, .inr (.inl (fun _ => 0)))) (k) = .inr (3, [.int 0, .ref (ad (k + 1)), .ref (ad (k + 2)), .ref (ad (k + 3)), .ref (ad (k + 4)), .int 0, .ref (ad (k + 5)), .ref (ad (k + 6)), .null, .int 0]) := (va_up_ne _ _ (by omega)).trans h0
  have a7 : va_up u12 (k + 7) (.inl (cL, 130, .inr (.inl (fun _ => 0)))) (k + 7) = .inl (cL, 130, .inr (.inl (fun _ => 0))) := va_up_self _ _ _
  have hfr : ∀ j, j < k → va_up u12 (k + 7) (.inl (cL, 130, .inr (.inl (fun _ => 0)))) j = w j := fun j hj => (va_up_ne _ _ (by omega)).trans (hfr j hj)
  generalize va_up u12 (k + 7) (.inl (cL, 130, .inr (.inl (fun _ => 0)))) = u13 at hZ hfr a1 a2 a3 a4 a5 a6 h0 a7
  refine q_putF (C := R_Mod) (T := T_Mod) (N := 10) (ty := .array .long) (v := .ref (ad (k + 7))) hx hb hts (fun w h => gm (inT_Mod w h)) ty_Mod tyo_Mod nm_Mod hown hK hZ (k) (by omega) h0 rfl 8 (by decide) (hts _ (gm k_428)) (fun _ h9 => h9) rfl hin2 rfl (by decide +kernel) rfl rfl (Nat.le_of_ble_eq_true rfl) d_Mod_init_63 (fun H locs hZ => ?_)
  have hZ : sZ (dC, dI) vCl (k + 8) ad (fun q => N0 ≤ q) s.heap (va_up u13 (k) (.inr (3, [.int 0, .ref (ad (k + 1)), .ref (ad (k + 2)), .ref (ad (k + 3)), .ref (ad (k + 4)), .int 0, .ref (ad (k + 5)), .ref (ad (k + 6)), .ref (ad (k + 7)), .int 0]))) H locs := hZ
  have a1 : va_up u13 (k) (.inr (3, [.int 0, .ref (ad (k + 1)), .ref (ad (k + 2)), .ref (ad (k + 3)), .ref (ad (k + 4)), .int 0, .ref (ad (k + 5)), .ref (ad (k + 6)), .ref (ad (k + 7)), .int 0])) (k + 1) = .inl (cI, 8, .inl (fun _ => 0)) := (va_up_ne _ _ (by omega)).trans a1
  have a2 : va_up u13 (k) (.inr (3, [.int 0, .ref (ad (k + 1)), .ref (ad (k + 2)), .ref (ad (k + 3)), .ref (ad (k + 4)), .int 0, .ref (ad (k + 5)), .ref (ad (k + 6)), .ref (ad (k + 7)), .int 0])) (k + 2) = .inl (cI, 512, .inl (fun _ => 0)) := (va_up_ne _ _ (by omega)).trans a2
  have a3 : va_up u13 (k) (.inr (3, [.int 0, .ref (ad (k + 1)), .ref (ad (k + 2)), .ref (ad (k + 3)), .ref (ad (k + 4)), .int 0, .ref (ad (k + 5)), .ref (ad (k + 6)), .ref (ad (k + 7)), .int 0])) (k + 3) = .inl (cL, 512, .inr (.inl (fun _ => 0))) := (va_up_ne _ _ (by omega)).trans a3
  have a4 : va_up u13 (k) (.inr (3, [.int 0, .ref (ad (k + 1)), .ref (ad (k + 2)), .ref (ad (k + 3)), .ref (ad (k + 4)), .int 0, .ref (ad (k + 5)), .ref (ad (k + 6)), .ref (ad (k + 7)), .int 0])) (k + 4) = .inl (cL, 512, .inr (.inl (fun _ => 0))) := (va_up_ne _ _ (by omega)).trans a4
  have a5 : va_up u13 (k) (.inr (3, [.int 0, .ref (ad (k + 1)), .ref (ad (k + 2)), .ref (ad (k + 3)), .ref (ad (k + 4)), .int 0, .ref (ad (k + 5)), .ref (ad (k + 6)), .ref (ad (k + 7)), .int 0])) (k + 5) = .inl (cI, 130, .inl (fun _ => 0)) := (va_up_ne _ _ (by omega)).trans a5
  have a6 : va_up u13 (k) (.inr (3, [.int 0, .ref (ad (k + 1)), .ref (ad (k + 2)), .ref (ad (k + 3)), .ref (ad (k + 4)), .int 0, .ref (ad (k + 5)), .ref (ad (k + 6)), .ref (ad (k + 7)), .int 0])) (k + 6) = .inl (cL, 130, .inr (.inl (fun _ => 0))) := (va_up_ne _ _ (by omega)).trans a6
  have a7 : va_up u13 (k) (.inr (3, [.int 0, .ref (ad (k + 1)), .ref (ad (k + 2)), .ref (ad (k + 3)), .ref (ad (k + 4)), .int 0, .ref (ad (k + 5)), .ref (ad (k + 6)), .ref (ad (k + 7)), .int 0])) (k + 7) = .inl (cL, 130, .inr (.inl (fun _ => 0))) := (va_up_ne _ _ (by omega)).trans a7
  have h0 : va_up u13 (k) (.inr (3, [.int 0, .ref (ad (k + 1)), .ref (ad (k + 2)), .ref (ad (k + 3)), .ref (ad (k + 4)), .int 0, .ref (ad (k + 5)), .ref (ad (k + 6)), .ref (ad (k + 7)), .int 0])) (k) = .inr (3, [.int 0, .ref (ad (k + 1)), .ref (ad (k + 2)), .ref (ad (k + 3)), .ref (ad (k + 4)), .int 0, .ref (ad (k + 5)), .ref (ad (k + 6)), .ref (ad (k + 7)), .int 0]) := va_up_self _ _ _
  have hfr : ∀ j, j < k → va_up u13 (k) (.inr (3, [.int 0, .ref (ad (k + 1)), .ref (ad (k + 2)), .ref (ad (k + 3)), .ref (ad (k + 4)), .int 0, .ref (ad (k + 5)), .ref (ad (k + 6)), .ref (ad (k + 7)), .int 0])) j = w j := fun j hj => (va_up_ne _ _ (by omega)).trans (hfr j hj)
  generalize va_up u13 (k) (.inr (3, [.int 0, .ref (ad (k + 1)), .ref (ad (k + 2)), .ref (ad (k + 3)), .ref (ad (k + 4)), .int 0, .ref (ad (k + 5)), .ref (ad (k + 6)), .ref (ad (k + 7)), .int 0])) = u14 at hZ hfr a1 a2 a3 a4 a5 a6 a7 h0
  refine q_sz had (by omega) (by omega) hZ (fun hs => ?_)
  exact q_vretG hx hb hr hlocks hK hAm hZ hN hs ⟨h0, a1, a2, a3, a4, a5, a6, a7, hfr⟩ d_Mod_init_66
