/-! the class CoinBag: what it refuses -/
set_option maxHeartbeats 4000000 in
set_option maxRecDepth 100000 in
theorem x_requireBag (l : Launch) (hfl : l.stackTraces = false) (dC : Nat → ClassId) (dI : Nat → Nat → Nat) (cI cL cB : ClassId) (ad : Nat → Nat) (N0 : Nat) (w : Nat → va_E) (b : Int32) (hbad : ¬ okB b) : vx_Met l y_CB_requireBag ws_CB_requireBag ({ frames := 6, cells := 1, slots := 6, locals := 82 } : Room) (va_Pc [.int b] (sPr (dC, dI) vCl [(cI, .int), (cL, .long), (cB, .object "CoinBag$Bag")] 52 ad N0 w)) qF (sX (dC, dI) vCl 52 ad N0 "java/lang/IndexOutOfBoundsException" w) 1 6 (fun q => N0 ≤ q) := by
  refine vx_ofW (cc := b_CB_requireBag) (maxL := 1) (ret := none) (by decide) rfl ?_
  intro p e s m args below meth c s₁ B hml hno hv
  obtain ⟨rfl, hP, hK, hD, hN, hAm⟩ := hv
  have hx := B.exec
  have hb := B.bytes
  have hr := B.returns
  have hts := atoms_spec (ws := ws_CB_requireBag) B.pre
  have hown : s.vm.findClass "CoinBag" = some m.cls := findClass_of_methodNamed B.named
  have hlocks := B.notSynchronized
  have hZ : sZ (dC, dI) vCl 52 ad (fun q => N0 ≤ q) s.heap w s.heap [] := ⟨hP, hD, va_S.rf⟩
  have hl := lv_entry ([.int b]) (n := 1) (Nat.le_of_ble_eq_true rfl)
  rw [lg_entry_eq]
  generalize (lg_sl ([.int b]) ++ List.replicate (1 - (lg_sl ([.int b])).length) Slot.unset).toArray = ls at hl ⊢
  have hl : lv_has ls 1 [(0, .int b)] := hl
  refine lv_iload_n hx hb d_CB_requireBag_0 rfl (lv_at hl 0 rfl) ?_
  refine lv_if_lt (tgt := 10) hx hb d_CB_requireBag_1 (by decide) (fun h1 => ?_) (fun h1 => ?_)
  · skip
    obtain ⟨sa, hsa⟩ := hAm.2.2.2.2.2.2.2.1
    exact q_thr (sa := sa) hx hb hfl hts hown hno hlocks hAm hZ (by decide +kernel) k_121 k_28 hsa at_I gd_I (hl.1.trans hml.symm) d_CB_requireBag_10 d_CB_requireBag_13 d_CB_requireBag_14 d_CB_requireBag_16 d_CB_requireBag_19 ⟨Nat.le_of_ble_eq_true rfl, Nat.le_of_ble_eq_true rfl, Nat.le_of_ble_eq_true rfl, Nat.le_of_ble_eq_true rfl⟩
  · skip
    refine lv_iload_n hx hb d_CB_requireBag_4 rfl (lv_at hl 0 rfl) ?_
    refine lv_bipush (v := (nI 8)) hx hb d_CB_requireBag_5 rfl ?_
    refine lv_icmp_lt (tgt := 20) hx hb d_CB_requireBag_7 (by decide) (fun h7 => ?_) (fun h7 => ?_)
    · skip
      exact absurd ⟨h1, Int32.not_le.mpr h7⟩ hbad
    · skip
      obtain ⟨sa, hsa⟩ := hAm.2.2.2.2.2.2.2.1
      exact q_thr (sa := sa) hx hb hfl hts hown hno hlocks hAm hZ (by decide +kernel) k_121 k_28 hsa at_I gd_I (hl.1.trans hml.symm) d_CB_requireBag_10 d_CB_requireBag_13 d_CB_requireBag_14 d_CB_requireBag_16 d_CB_requireBag_19 ⟨Nat.le_of_ble_eq_true rfl, Nat.le_of_ble_eq_true rfl, Nat.le_of_ble_eq_true rfl, Nat.le_of_ble_eq_true rfl⟩
set_option maxHeartbeats 4000000 in
set_option maxRecDepth 100000 in
theorem x_requirePolicy (l : Launch) (hfl : l.stackTraces = false) (dC : Nat → ClassId) (dI : Nat → Nat → Nat) (cI cL cB : ClassId) (ad : Nat → Nat) (N0 : Nat) (w : Nat → va_E) (q : Int32) (hbad : ¬ okP q) : vx_Met l y_CB_requirePolicy ws_CB_requirePolicy ({ frames := 6, cells := 1, slots := 6, locals := 82 } : Room) (va_Pc [.int q] (sPr (dC, dI) vCl [(cI, .int), (cL, .long), (cB, .object "CoinBag$Bag")] 52 ad N0 w)) qF (sX (dC, dI) vCl 52 ad N0 "java/lang/IllegalArgumentException" w) 1 6 (fun q => N0 ≤ q) := by
  refine vx_ofW (cc := b_CB_requirePolicy) (maxL := 1) (ret := none) (by decide) rfl ?_
  intro p e s m args below meth c s₁ B hml hno hv
  obtain ⟨rfl, hP, hK, hD, hN, hAm⟩ := hv
  have hx := B.exec
  have hb := B.bytes
  have hr := B.returns
  have hts := atoms_spec (ws := ws_CB_requirePolicy) B.pre
  have hown : s.vm.findClass "CoinBag" = some m.cls := findClass_of_methodNamed B.named
  have hlocks := B.notSynchronized
  have hZ : sZ (dC, dI) vCl 52 ad (fun q => N0 ≤ q) s.heap w s.heap [] := ⟨hP, hD, va_S.rf⟩
  have hl := lv_entry ([.int q]) (n := 1) (Nat.le_of_ble_eq_true rfl)
  rw [lg_entry_eq]
  generalize (lg_sl ([.int q]) ++ List.replicate (1 - (lg_sl ([.int q])).length) Slot.unset).toArray = ls at hl ⊢
  have hl : lv_has ls 1 [(0, .int q)] := hl
  refine lv_iload_n hx hb d_CB_requirePolicy_0 rfl (lv_at hl 0 rfl) ?_
  refine lv_if_lt (tgt := 10) hx hb d_CB_requirePolicy_1 (by decide) (fun h1 => ?_) (fun h1 => ?_)
  · skip
    obtain ⟨sa, hsa⟩ := hAm.2.2.2.2.2.2.2.2.1
    exact q_thr (sa := sa) hx hb hfl hts hown hno hlocks hAm hZ (by decide +kernel) k_192 k_29 hsa at_A gd_A (hl.1.trans hml.symm) d_CB_requirePolicy_10 d_CB_requirePolicy_13 d_CB_requirePolicy_14 d_CB_requirePolicy_16 d_CB_requirePolicy_19 ⟨Nat.le_of_ble_eq_true rfl, Nat.le_of_ble_eq_true rfl, Nat.le_of_ble_eq_true rfl, Nat.le_of_ble_eq_true rfl⟩
  · skip
    refine lv_iload_n hx hb d_CB_requirePolicy_4 rfl (lv_at hl 0 rfl) ?_
    refine lv_ldc (v := 65536) hx hb hown (hts _ (gm k_191)) d_CB_requirePolicy_5 ?_
    refine lv_icmp_lt (tgt := 20) hx hb d_CB_requirePolicy_7 (by decide) (fun h7 => ?_) (fun h7 => ?_)
    · skip
      exact absurd ⟨h1, Int32.not_le.mpr h7⟩ hbad
    · skip
      obtain ⟨sa, hsa⟩ := hAm.2.2.2.2.2.2.2.2.1
      exact q_thr (sa := sa) hx hb hfl hts hown hno hlocks hAm hZ (by decide +kernel) k_192 k_29 hsa at_A gd_A (hl.1.trans hml.symm) d_CB_requirePolicy_10 d_CB_requirePolicy_13 d_CB_requirePolicy_14 d_CB_requirePolicy_16 d_CB_requirePolicy_19 ⟨Nat.le_of_ble_eq_true rfl, Nat.le_of_ble_eq_true rfl, Nat.le_of_ble_eq_true rfl, Nat.le_of_ble_eq_true rfl⟩
set_option maxHeartbeats 4000000 in
set_option maxRecDepth 100000 in
theorem x_CB_set_b (l : Launch) (hfl : l.stackTraces = false) (dC : Nat → ClassId) (dI : Nat → Nat → Nat) (cI cL cB : ClassId) (ad : Nat → Nat) (N0 : Nat) (w : Nat → va_E) (b : Int32) (q : Int32) (x : Int64) (v : Int64) (h0 : ∃ fs : List Value, w 0 = .inr (2, fs)) (hbad : ¬ (okB b)) : vx_Met l y_CB_set ws_CB_set ({ frames := 7, cells := 1, slots := 6, locals := 102 } : Room) (va_Pc [.ref (ad 0), .int b, .int q, .long x, .long v] (sPr (dC, dI) vCl [(cI, .int), (cL, .long), (cB, .object "CoinBag$Bag")] 52 ad N0 w)) qF (sX (dC, dI) vCl 52 ad N0 "java/lang/IndexOutOfBoundsException" w) 1 6 (fun q => N0 ≤ q) := by
  refine vx_ofW (cc := b_CB_set) (maxL := 7) (ret := (some .boolean)) (by decide) rfl ?_
  intro p e s m args below meth c s₁ B hml hno hv
  obtain ⟨rfl, hP, hK, hD, hN, hAm⟩ := hv
  have hx := B.exec
  have hb := B.bytes
  have hr := B.returns
  have hts := atoms_spec (ws := ws_CB_set) B.pre
  have hown : s.vm.findClass "CoinBag" = some m.cls := findClass_of_methodNamed B.named
  have hlocks := B.notSynchronized
  have hZ : sZ (dC, dI) vCl 52 ad (fun q => N0 ≤ q) s.heap w s.heap [] := ⟨hP, hD, va_S.rf⟩
  have hl := lv_entry ([.ref (ad 0), .int b, .int q, .long x, .long v]) (n := 7) (Nat.le_of_ble_eq_true rfl)
  rw [lg_entry_eq]
  generalize (lg_sl ([.ref (ad 0), .int b, .int q, .long x, .long v]) ++ List.replicate (7 - (lg_sl ([.ref (ad 0), .int b, .int q, .long x, .long v])).length) Slot.unset).toArray = ls at hl ⊢
  have hl : lv_has ls 7 [(0, .ref (ad 0)), (1, .int b), (2, .int q), (3, .long x), (5, .long v)] := hl
  obtain ⟨fs0, h0⟩ := h0
  refine lv_iload_n hx hb d_CB_set_0 rfl (lv_at hl 1 rfl) ?_
  by_cases o_b : okB b
  · skip
    exact absurd o_b hbad
  · skip
    exact q_xpass hno hlocks (vx_runS (As := [.int b]) (rest := []) ⟨hx, hb, hml, hown, hts⟩ (x_requireBag l hfl dC dI cI cL cB ad N0 w b o_b) (va_cwS 1 hts (gI_S k_120 k_118 k_119 k_21) rfl rfl rfl (by decide +kernel) ⟨Nat.le_of_ble_eq_true rfl, Nat.le_of_ble_eq_true rfl⟩) (q_pre hK hAm hZ hN [.int b]) rfl rfl hl.1 rfl (lv_room (Nat.le_of_ble_eq_true rfl)) d_CB_set_1 ⟨Nat.le_of_ble_eq_true rfl, Nat.le_of_ble_eq_true rfl⟩) hZ
set_option maxHeartbeats 4000000 in
set_option maxRecDepth 100000 in
theorem x_CB_set_p (l : Launch) (hfl : l.stackTraces = false) (dC : Nat → ClassId) (dI : Nat → Nat → Nat) (cI cL cB : ClassId) (ad : Nat → Nat) (N0 : Nat) (w : Nat → va_E) (b : Int32) (q : Int32) (x : Int64) (v : Int64) (h0 : ∃ fs : List Value, w 0 = .inr (2, fs)) (hg_b : okB b) (hbad : ¬ okP q) : vx_Met l y_CB_set ws_CB_set ({ frames := 7, cells := 1, slots := 6, locals := 102 } : Room) (va_Pc [.ref (ad 0), .int b, .int q, .long x, .long v] (sPr (dC, dI) vCl [(cI, .int), (cL, .long), (cB, .object "CoinBag$Bag")] 52 ad N0 w)) qF (sX (dC, dI) vCl 52 ad N0 "java/lang/IllegalArgumentException" w) 1 6 (fun q => N0 ≤ q) := by
  refine vx_ofW (cc := b_CB_set) (maxL := 7) (ret := (some .boolean)) (by decide) rfl ?_
  intro p e s m args below meth c s₁ B hml hno hv
  obtain ⟨rfl, hP, hK, hD, hN, hAm⟩ := hv
  have hx := B.exec
  have hb := B.bytes
  have hr := B.returns
  have hts := atoms_spec (ws := ws_CB_set) B.pre
  have hown : s.vm.findClass "CoinBag" = some m.cls := findClass_of_methodNamed B.named
  have hlocks := B.notSynchronized
  have hZ : sZ (dC, dI) vCl 52 ad (fun q => N0 ≤ q) s.heap w s.heap [] := ⟨hP, hD, va_S.rf⟩
  have hl := lv_entry ([.ref (ad 0), .int b, .int q, .long x, .long v]) (n := 7) (Nat.le_of_ble_eq_true rfl)
  rw [lg_entry_eq]
  generalize (lg_sl ([.ref (ad 0), .int b, .int q, .long x, .long v]) ++ List.replicate (7 - (lg_sl ([.ref (ad 0), .int b, .int q, .long x, .long v])).length) Slot.unset).toArray = ls at hl ⊢
  have hl : lv_has ls 7 [(0, .ref (ad 0)), (1, .int b), (2, .int q), (3, .long x), (5, .long v)] := hl
  obtain ⟨fs0, h0⟩ := h0
  refine lv_iload_n hx hb d_CB_set_0 rfl (lv_at hl 1 rfl) ?_
  by_cases o_b : okB b
  · skip
    refine q_callSv (va_runS (As := [.int b]) (rest := []) ⟨hx, hb, hml, hown, hts⟩ (c_CB_requireBag2 l b o_b) (va_cwS 1 hts (gI_S k_120 k_118 k_119 k_21) rfl rfl rfl (by decide +kernel) ⟨Nat.le_of_ble_eq_true rfl, Nat.le_of_ble_eq_true rfl⟩) ⟨fun _ _ _ _ q => q, fun _ _ _ => ⟨rfl, trivial⟩⟩ rfl rfl hl.1 rfl (lv_room (Nat.le_of_ble_eq_true rfl)) d_CB_set_1 ⟨Nat.zero_le _, Nat.zero_le _⟩) ?_
    refine lv_iload_n hx hb d_CB_set_4 rfl (lv_at hl 2 rfl) ?_
    by_cases o_q : okP q
    · skip
      exact absurd o_q hbad
    · skip
      exact q_xpass hno hlocks (vx_runS (As := [.int q]) (rest := []) ⟨hx, hb, hml, hown, hts⟩ (x_requirePolicy l hfl dC dI cI cL cB ad N0 w q o_q) (va_cwS 1 hts (gI_S k_190 k_188 k_189 k_21) rfl rfl rfl (by decide +kernel) ⟨Nat.le_of_ble_eq_true rfl, Nat.le_of_ble_eq_true rfl⟩) (q_pre hK hAm hZ hN [.int q]) rfl rfl hl.1 rfl (lv_room (Nat.le_of_ble_eq_true rfl)) d_CB_set_5 ⟨Nat.le_of_ble_eq_true rfl, Nat.le_of_ble_eq_true rfl⟩) hZ
  · skip
    exact absurd hg_b o_b
set_option maxHeartbeats 4000000 in
set_option maxRecDepth 100000 in
theorem x_CB_put_b (l : Launch) (hfl : l.stackTraces = false) (dC : Nat → ClassId) (dI : Nat → Nat → Nat) (cI cL cB : ClassId) (ad : Nat → Nat) (N0 : Nat) (w : Nat → va_E) (b : Int32) (q : Int32) (x : Int64) (v : Int64) (h0 : ∃ fs : List Value, w 0 = .inr (2, fs)) (hbad : ¬ (okB b)) : vx_Met l y_CB_put ws_CB_put ({ frames := 7, cells := 1, slots := 6, locals := 102 } : Room) (va_Pc [.ref (ad 0), .int b, .int q, .long x, .long v] (sPr (dC, dI) vCl [(cI, .int), (cL, .long), (cB, .object "CoinBag$Bag")] 52 ad N0 w)) qF (sX (dC, dI) vCl 52 ad N0 "java/lang/IndexOutOfBoundsException" w) 1 6 (fun q => N0 ≤ q) := by
  refine vx_ofW (cc := b_CB_put) (maxL := 9) (ret := (some .boolean)) (by decide) rfl ?_
  intro p e s m args below meth c s₁ B hml hno hv
  obtain ⟨rfl, hP, hK, hD, hN, hAm⟩ := hv
  have hx := B.exec
  have hb := B.bytes
  have hr := B.returns
  have hts := atoms_spec (ws := ws_CB_put) B.pre
  have hown : s.vm.findClass "CoinBag" = some m.cls := findClass_of_methodNamed B.named
  have hlocks := B.notSynchronized
  have hZ : sZ (dC, dI) vCl 52 ad (fun q => N0 ≤ q) s.heap w s.heap [] := ⟨hP, hD, va_S.rf⟩
  have hl := lv_entry ([.ref (ad 0), .int b, .int q, .long x, .long v]) (n := 9) (Nat.le_of_ble_eq_true rfl)
  rw [lg_entry_eq]
  generalize (lg_sl ([.ref (ad 0), .int b, .int q, .long x, .long v]) ++ List.replicate (9 - (lg_sl ([.ref (ad 0), .int b, .int q, .long x, .long v])).length) Slot.unset).toArray = ls at hl ⊢
  have hl : lv_has ls 9 [(0, .ref (ad 0)), (1, .int b), (2, .int q), (3, .long x), (5, .long v)] := hl
  obtain ⟨fs0, h0⟩ := h0
  refine lv_iload_n hx hb d_CB_put_0 rfl (lv_at hl 1 rfl) ?_
  by_cases o_b : okB b
  · skip
    exact absurd o_b hbad
  · skip
    exact q_xpass hno hlocks (vx_runS (As := [.int b]) (rest := []) ⟨hx, hb, hml, hown, hts⟩ (x_requireBag l hfl dC dI cI cL cB ad N0 w b o_b) (va_cwS 1 hts (gI_S k_120 k_118 k_119 k_21) rfl rfl rfl (by decide +kernel) ⟨Nat.le_of_ble_eq_true rfl, Nat.le_of_ble_eq_true rfl⟩) (q_pre hK hAm hZ hN [.int b]) rfl rfl hl.1 rfl (lv_room (Nat.le_of_ble_eq_true rfl)) d_CB_put_1 ⟨Nat.le_of_ble_eq_true rfl, Nat.le_of_ble_eq_true rfl⟩) hZ
set_option maxHeartbeats 4000000 in
set_option maxRecDepth 100000 in
theorem x_CB_put_p (l : Launch) (hfl : l.stackTraces = false) (dC : Nat → ClassId) (dI : Nat → Nat → Nat) (cI cL cB : ClassId) (ad : Nat → Nat) (N0 : Nat) (w : Nat → va_E) (b : Int32) (q : Int32) (x : Int64) (v : Int64) (h0 : ∃ fs : List Value, w 0 = .inr (2, fs)) (hg_b : okB b) (hbad : ¬ okP q) : vx_Met l y_CB_put ws_CB_put ({ frames := 7, cells := 1, slots := 6, locals := 102 } : Room) (va_Pc [.ref (ad 0), .int b, .int q, .long x, .long v] (sPr (dC, dI) vCl [(cI, .int), (cL, .long), (cB, .object "CoinBag$Bag")] 52 ad N0 w)) qF (sX (dC, dI) vCl 52 ad N0 "java/lang/IllegalArgumentException" w) 1 6 (fun q => N0 ≤ q) := by
  refine vx_ofW (cc := b_CB_put) (maxL := 9) (ret := (some .boolean)) (by decide) rfl ?_
  intro p e s m args below meth c s₁ B hml hno hv
  obtain ⟨rfl, hP, hK, hD, hN, hAm⟩ := hv
  have hx := B.exec
  have hb := B.bytes
  have hr := B.returns
  have hts := atoms_spec (ws := ws_CB_put) B.pre
  have hown : s.vm.findClass "CoinBag" = some m.cls := findClass_of_methodNamed B.named
  have hlocks := B.notSynchronized
  have hZ : sZ (dC, dI) vCl 52 ad (fun q => N0 ≤ q) s.heap w s.heap [] := ⟨hP, hD, va_S.rf⟩
  have hl := lv_entry ([.ref (ad 0), .int b, .int q, .long x, .long v]) (n := 9) (Nat.le_of_ble_eq_true rfl)
  rw [lg_entry_eq]
  generalize (lg_sl ([.ref (ad 0), .int b, .int q, .long x, .long v]) ++ List.replicate (9 - (lg_sl ([.ref (ad 0), .int b, .int q, .long x, .long v])).length) Slot.unset).toArray = ls at hl ⊢
  have hl : lv_has ls 9 [(0, .ref (ad 0)), (1, .int b), (2, .int q), (3, .long x), (5, .long v)] := hl
  obtain ⟨fs0, h0⟩ := h0
  refine lv_iload_n hx hb d_CB_put_0 rfl (lv_at hl 1 rfl) ?_
  by_cases o_b : okB b
  · skip
    refine q_callSv (va_runS (As := [.int b]) (rest := []) ⟨hx, hb, hml, hown, hts⟩ (c_CB_requireBag2 l b o_b) (va_cwS 1 hts (gI_S k_120 k_118 k_119 k_21) rfl rfl rfl (by decide +kernel) ⟨Nat.le_of_ble_eq_true rfl, Nat.le_of_ble_eq_true rfl⟩) ⟨fun _ _ _ _ q => q, fun _ _ _ => ⟨rfl, trivial⟩⟩ rfl rfl hl.1 rfl (lv_room (Nat.le_of_ble_eq_true rfl)) d_CB_put_1 ⟨Nat.zero_le _, Nat.zero_le _⟩) ?_
    refine lv_iload_n hx hb d_CB_put_4 rfl (lv_at hl 2 rfl) ?_
    by_cases o_q : okP q
    · skip
      exact absurd o_q hbad
    · skip
      exact q_xpass hno hlocks (vx_runS (As := [.int q]) (rest := []) ⟨hx, hb, hml, hown, hts⟩ (x_requirePolicy l hfl dC dI cI cL cB ad N0 w q o_q) (va_cwS 1 hts (gI_S k_190 k_188 k_189 k_21) rfl rfl rfl (by decide +kernel) ⟨Nat.le_of_ble_eq_true rfl, Nat.le_of_ble_eq_true rfl⟩) (q_pre hK hAm hZ hN [.int q]) rfl rfl hl.1 rfl (lv_room (Nat.le_of_ble_eq_true rfl)) d_CB_put_5 ⟨Nat.le_of_ble_eq_true rfl, Nat.le_of_ble_eq_true rfl⟩) hZ
  · skip
    exact absurd hg_b o_b
set_option maxHeartbeats 4000000 in
set_option maxRecDepth 100000 in
theorem x_CB_amount_b (l : Launch) (hfl : l.stackTraces = false) (dC : Nat → ClassId) (dI : Nat → Nat → Nat) (cI cL cB : ClassId) (ad : Nat → Nat) (N0 : Nat) (w : Nat → va_E) (b : Int32) (q : Int32) (x : Int64) (h0 : ∃ fs : List Value, w 0 = .inr (2, fs)) (hbad : ¬ (okB b)) : vx_Met l y_CB_amount ws_CB_amount ({ frames := 7, cells := 1, slots := 6, locals := 102 } : Room) (va_Pc [.ref (ad 0), .int b, .int q, .long x] (sPr (dC, dI) vCl [(cI, .int), (cL, .long), (cB, .object "CoinBag$Bag")] 52 ad N0 w)) qF (sX (dC, dI) vCl 52 ad N0 "java/lang/IndexOutOfBoundsException" w) 1 6 (fun q => N0 ≤ q) := by
  refine vx_ofW (cc := b_CB_amount) (maxL := 5) (ret := (some .long)) (by decide) rfl ?_
  intro p e s m args below meth c s₁ B hml hno hv
  obtain ⟨rfl, hP, hK, hD, hN, hAm⟩ := hv
  have hx := B.exec
  have hb := B.bytes
  have hr := B.returns
  have hts := atoms_spec (ws := ws_CB_amount) B.pre
  have hown : s.vm.findClass "CoinBag" = some m.cls := findClass_of_methodNamed B.named
  have hlocks := B.notSynchronized
  have hZ : sZ (dC, dI) vCl 52 ad (fun q => N0 ≤ q) s.heap w s.heap [] := ⟨hP, hD, va_S.rf⟩
  have hl := lv_entry ([.ref (ad 0), .int b, .int q, .long x]) (n := 5) (Nat.le_of_ble_eq_true rfl)
  rw [lg_entry_eq]
  generalize (lg_sl ([.ref (ad 0), .int b, .int q, .long x]) ++ List.replicate (5 - (lg_sl ([.ref (ad 0), .int b, .int q, .long x])).length) Slot.unset).toArray = ls at hl ⊢
  have hl : lv_has ls 5 [(0, .ref (ad 0)), (1, .int b), (2, .int q), (3, .long x)] := hl
  obtain ⟨fs0, h0⟩ := h0
  refine lv_iload_n hx hb d_CB_amount_0 rfl (lv_at hl 1 rfl) ?_
  by_cases o_b : okB b
  · skip
    exact absurd o_b hbad
  · skip
    exact q_xpass hno hlocks (vx_runS (As := [.int b]) (rest := []) ⟨hx, hb, hml, hown, hts⟩ (x_requireBag l hfl dC dI cI cL cB ad N0 w b o_b) (va_cwS 1 hts (gI_S k_120 k_118 k_119 k_21) rfl rfl rfl (by decide +kernel) ⟨Nat.le_of_ble_eq_true rfl, Nat.le_of_ble_eq_true rfl⟩) (q_pre hK hAm hZ hN [.int b]) rfl rfl hl.1 rfl (lv_room (Nat.le_of_ble_eq_true rfl)) d_CB_amount_1 ⟨Nat.le_of_ble_eq_true rfl, Nat.le_of_ble_eq_true rfl⟩) hZ
set_option maxHeartbeats 4000000 in
set_option maxRecDepth 100000 in
theorem x_CB_amount_p (l : Launch) (hfl : l.stackTraces = false) (dC : Nat → ClassId) (dI : Nat → Nat → Nat) (cI cL cB : ClassId) (ad : Nat → Nat) (N0 : Nat) (w : Nat → va_E) (b : Int32) (q : Int32) (x : Int64) (h0 : ∃ fs : List Value, w 0 = .inr (2, fs)) (hg_b : okB b) (hbad : ¬ okP q) : vx_Met l y_CB_amount ws_CB_amount ({ frames := 7, cells := 1, slots := 6, locals := 102 } : Room) (va_Pc [.ref (ad 0), .int b, .int q, .long x] (sPr (dC, dI) vCl [(cI, .int), (cL, .long), (cB, .object "CoinBag$Bag")] 52 ad N0 w)) qF (sX (dC, dI) vCl 52 ad N0 "java/lang/IllegalArgumentException" w) 1 6 (fun q => N0 ≤ q) := by
  refine vx_ofW (cc := b_CB_amount) (maxL := 5) (ret := (some .long)) (by decide) rfl ?_
  intro p e s m args below meth c s₁ B hml hno hv
  obtain ⟨rfl, hP, hK, hD, hN, hAm⟩ := hv
  have hx := B.exec
  have hb := B.bytes
  have hr := B.returns
  have hts := atoms_spec (ws := ws_CB_amount) B.pre
  have hown : s.vm.findClass "CoinBag" = some m.cls := findClass_of_methodNamed B.named
  have hlocks := B.notSynchronized
  have hZ : sZ (dC, dI) vCl 52 ad (fun q => N0 ≤ q) s.heap w s.heap [] := ⟨hP, hD, va_S.rf⟩
  have hl := lv_entry ([.ref (ad 0), .int b, .int q, .long x]) (n := 5) (Nat.le_of_ble_eq_true rfl)
  rw [lg_entry_eq]
  generalize (lg_sl ([.ref (ad 0), .int b, .int q, .long x]) ++ List.replicate (5 - (lg_sl ([.ref (ad 0), .int b, .int q, .long x])).length) Slot.unset).toArray = ls at hl ⊢
  have hl : lv_has ls 5 [(0, .ref (ad 0)), (1, .int b), (2, .int q), (3, .long x)] := hl
  obtain ⟨fs0, h0⟩ := h0
  refine lv_iload_n hx hb d_CB_amount_0 rfl (lv_at hl 1 rfl) ?_
  by_cases o_b : okB b
  · skip
    refine q_callSv (va_runS (As := [.int b]) (rest := []) ⟨hx, hb, hml, hown, hts⟩ (c_CB_requireBag2 l b o_b) (va_cwS 1 hts (gI_S k_120 k_118 k_119 k_21) rfl rfl rfl (by decide +kernel) ⟨Nat.le_of_ble_eq_true rfl, Nat.le_of_ble_eq_true rfl⟩) ⟨fun _ _ _ _ q => q, fun _ _ _ => ⟨rfl, trivial⟩⟩ rfl rfl hl.1 rfl (lv_room (Nat.le_of_ble_eq_true rfl)) d_CB_amount_1 ⟨Nat.zero_le _, Nat.zero_le _⟩) ?_
    refine lv_iload_n hx hb d_CB_amount_4 rfl (lv_at hl 2 rfl) ?_
    by_cases o_q : okP q
    · skip
      exact absurd o_q hbad
    · skip
      exact q_xpass hno hlocks (vx_runS (As := [.int q]) (rest := []) ⟨hx, hb, hml, hown, hts⟩ (x_requirePolicy l hfl dC dI cI cL cB ad N0 w q o_q) (va_cwS 1 hts (gI_S k_190 k_188 k_189 k_21) rfl rfl rfl (by decide +kernel) ⟨Nat.le_of_ble_eq_true rfl, Nat.le_of_ble_eq_true rfl⟩) (q_pre hK hAm hZ hN [.int q]) rfl rfl hl.1 rfl (lv_room (Nat.le_of_ble_eq_true rfl)) d_CB_amount_5 ⟨Nat.le_of_ble_eq_true rfl, Nat.le_of_ble_eq_true rfl⟩) hZ
  · skip
    exact absurd hg_b o_b
set_option maxHeartbeats 4000000 in
set_option maxRecDepth 100000 in
theorem x_CB_combine_b (l : Launch) (hfl : l.stackTraces = false) (dC : Nat → ClassId) (dI : Nat → Nat → Nat) (cI cL cB : ClassId) (ad : Nat → Nat) (N0 : Nat) (w : Nat → va_E) (a : Int32) (b : Int32) (c2 : Int32) (hw : Int32) (h0 : ∃ fs : List Value, w 0 = .inr (2, fs)) (hbad : ¬ (okB a ∧ okB b ∧ okB c2)) : vx_Met l y_CB_combine ws_CB_combine ({ frames := 7, cells := 1, slots := 6, locals := 102 } : Room) (va_Pc [.ref (ad 0), .int a, .int b, .int c2, .int hw] (sPr (dC, dI) vCl [(cI, .int), (cL, .long), (cB, .object "CoinBag$Bag")] 52 ad N0 w)) qF (sX (dC, dI) vCl 52 ad N0 "java/lang/IndexOutOfBoundsException" w) 1 6 (fun q => N0 ≤ q) := by
  refine vx_ofW (cc := b_CB_combine) (maxL := 10) (ret := (some .boolean)) (by decide) rfl ?_
  intro p e s m args below meth c s₁ B hml hno hv
  obtain ⟨rfl, hP, hK, hD, hN, hAm⟩ := hv
  have hx := B.exec
  have hb := B.bytes
  have hr := B.returns
  have hts := atoms_spec (ws := ws_CB_combine) B.pre
  have hown : s.vm.findClass "CoinBag" = some m.cls := findClass_of_methodNamed B.named
  have hlocks := B.notSynchronized
  have hZ : sZ (dC, dI) vCl 52 ad (fun q => N0 ≤ q) s.heap w s.heap [] := ⟨hP, hD, va_S.rf⟩
  have hl := lv_entry ([.ref (ad 0), .int a, .int b, .int c2, .int hw]) (n := 10) (Nat.le_of_ble_eq_true rfl)
  rw [lg_entry_eq]
  generalize (lg_sl ([.ref (ad 0), .int a, .int b, .int c2, .int hw]) ++ List.replicate (10 - (lg_sl ([.ref (ad 0), .int a, .int b, .int c2, .int hw])).length) Slot.unset).toArray = ls at hl ⊢
  have hl : lv_has ls 10 [(0, .ref (ad 0)), (1, .int a), (2, .int b), (3, .int c2), (4, .int hw)] := hl
  obtain ⟨fs0, h0⟩ := h0
  refine lv_iload_n hx hb d_CB_combine_0 rfl (lv_at hl 1 rfl) ?_
  by_cases o_a : okB a
  · skip
    refine q_callSv (va_runS (As := [.int a]) (rest := []) ⟨hx, hb, hml, hown, hts⟩ (c_CB_requireBag2 l a o_a) (va_cwS 1 hts (gI_S k_120 k_118 k_119 k_21) rfl rfl rfl (by decide +kernel) ⟨Nat.le_of_ble_eq_true rfl, Nat.le_of_ble_eq_true rfl⟩) ⟨fun _ _ _ _ q => q, fun _ _ _ => ⟨rfl, trivial⟩⟩ rfl rfl hl.1 rfl (lv_room (Nat.le_of_ble_eq_true rfl)) d_CB_combine_1 ⟨Nat.zero_le _, Nat.zero_le _⟩) ?_
    refine lv_iload_n hx hb d_CB_combine_4 rfl (lv_at hl 2 rfl) ?_
    by_cases o_b : okB b
    · skip
      refine q_callSv (va_runS (As := [.int b]) (rest := []) ⟨hx, hb, hml, hown, hts⟩ (c_CB_requireBag2 l b o_b) (va_cwS 1 hts (gI_S k_120 k_118 k_119 k_21) rfl rfl rfl (by decide +kernel) ⟨Nat.le_of_ble_eq_true rfl, Nat.le_of_ble_eq_true rfl⟩) ⟨fun _ _ _ _ q => q, fun _ _ _ => ⟨rfl, trivial⟩⟩ rfl rfl hl.1 rfl (lv_room (Nat.le_of_ble_eq_true rfl)) d_CB_combine_5 ⟨Nat.zero_le _, Nat.zero_le _⟩) ?_
      refine lv_iload_n hx hb d_CB_combine_8 rfl (lv_at hl 3 rfl) ?_
      by_cases o_c2 : okB c2
      · skip
        exact absurd ⟨o_a, o_b, o_c2⟩ hbad
      · skip
        exact q_xpass hno hlocks (vx_runS (As := [.int c2]) (rest := []) ⟨hx, hb, hml, hown, hts⟩ (x_requireBag l hfl dC dI cI cL cB ad N0 w c2 o_c2) (va_cwS 1 hts (gI_S k_120 k_118 k_119 k_21) rfl rfl rfl (by decide +kernel) ⟨Nat.le_of_ble_eq_true rfl, Nat.le_of_ble_eq_true rfl⟩) (q_pre hK hAm hZ hN [.int c2]) rfl rfl hl.1 rfl (lv_room (Nat.le_of_ble_eq_true rfl)) d_CB_combine_9 ⟨Nat.le_of_ble_eq_true rfl, Nat.le_of_ble_eq_true rfl⟩) hZ
    · skip
      exact q_xpass hno hlocks (vx_runS (As := [.int b]) (rest := []) ⟨hx, hb, hml, hown, hts⟩ (x_requireBag l hfl dC dI cI cL cB ad N0 w b o_b) (va_cwS 1 hts (gI_S k_120 k_118 k_119 k_21) rfl rfl rfl (by decide +kernel) ⟨Nat.le_of_ble_eq_true rfl, Nat.le_of_ble_eq_true rfl⟩) (q_pre hK hAm hZ hN [.int b]) rfl rfl hl.1 rfl (lv_room (Nat.le_of_ble_eq_true rfl)) d_CB_combine_5 ⟨Nat.le_of_ble_eq_true rfl, Nat.le_of_ble_eq_true rfl⟩) hZ
  · skip
    exact q_xpass hno hlocks (vx_runS (As := [.int a]) (rest := []) ⟨hx, hb, hml, hown, hts⟩ (x_requireBag l hfl dC dI cI cL cB ad N0 w a o_a) (va_cwS 1 hts (gI_S k_120 k_118 k_119 k_21) rfl rfl rfl (by decide +kernel) ⟨Nat.le_of_ble_eq_true rfl, Nat.le_of_ble_eq_true rfl⟩) (q_pre hK hAm hZ hN [.int a]) rfl rfl hl.1 rfl (lv_room (Nat.le_of_ble_eq_true rfl)) d_CB_combine_1 ⟨Nat.le_of_ble_eq_true rfl, Nat.le_of_ble_eq_true rfl⟩) hZ
set_option maxHeartbeats 4000000 in
set_option maxRecDepth 100000 in
theorem x_CB_times_b (l : Launch) (hfl : l.stackTraces = false) (dC : Nat → ClassId) (dI : Nat → Nat → Nat) (cI cL cB : ClassId) (ad : Nat → Nat) (N0 : Nat) (w : Nat → va_E) (a : Int32) (v : Int64) (c2 : Int32) (h0 : ∃ fs : List Value, w 0 = .inr (2, fs)) (hbad : ¬ (okB a ∧ okB c2)) : vx_Met l y_CB_times ws_CB_times ({ frames := 7, cells := 1, slots := 6, locals := 102 } : Room) (va_Pc [.ref (ad 0), .int a, .long v, .int c2] (sPr (dC, dI) vCl [(cI, .int), (cL, .long), (cB, .object "CoinBag$Bag")] 52 ad N0 w)) qF (sX (dC, dI) vCl 52 ad N0 "java/lang/IndexOutOfBoundsException" w) 1 6 (fun q => N0 ≤ q) := by
  refine vx_ofW (cc := b_CB_times) (maxL := 7) (ret := (some .boolean)) (by decide) rfl ?_
  intro p e s m args below meth c s₁ B hml hno hv
  obtain ⟨rfl, hP, hK, hD, hN, hAm⟩ := hv
  have hx := B.exec
  have hb := B.bytes
  have hr := B.returns
  have hts := atoms_spec (ws := ws_CB_times) B.pre
  have hown : s.vm.findClass "CoinBag" = some m.cls := findClass_of_methodNamed B.named
  have hlocks := B.notSynchronized
  have hZ : sZ (dC, dI) vCl 52 ad (fun q => N0 ≤ q) s.heap w s.heap [] := ⟨hP, hD, va_S.rf⟩
  have hl := lv_entry ([.ref (ad 0), .int a, .long v, .int c2]) (n := 7) (Nat.le_of_ble_eq_true rfl)
  rw [lg_entry_eq]
  generalize (lg_sl ([.ref (ad 0), .int a, .long v, .int c2]) ++ List.replicate (7 - (lg_sl ([.ref (ad 0), .int a, .long v, .int c2])).length) Slot.unset).toArray = ls at hl ⊢
  have hl : lv_has ls 7 [(0, .ref (ad 0)), (1, .int a), (2, .long v), (4, .int c2)] := hl
  obtain ⟨fs0, h0⟩ := h0
  refine lv_iload_n hx hb d_CB_times_0 rfl (lv_at hl 1 rfl) ?_
  by_cases o_a : okB a
  · skip
    refine q_callSv (va_runS (As := [.int a]) (rest := []) ⟨hx, hb, hml, hown, hts⟩ (c_CB_requireBag2 l a o_a) (va_cwS 1 hts (gI_S k_120 k_118 k_119 k_21) rfl rfl rfl (by decide +kernel) ⟨Nat.le_of_ble_eq_true rfl, Nat.le_of_ble_eq_true rfl⟩) ⟨fun _ _ _ _ q => q, fun _ _ _ => ⟨rfl, trivial⟩⟩ rfl rfl hl.1 rfl (lv_room (Nat.le_of_ble_eq_true rfl)) d_CB_times_1 ⟨Nat.zero_le _, Nat.zero_le _⟩) ?_
    refine lv_iload hx hb d_CB_times_4 (lv_at hl 3 rfl) ?_
    by_cases o_c2 : okB c2
    · skip
      exact absurd ⟨o_a, o_c2⟩ hbad
    · skip
      exact q_xpass hno hlocks (vx_runS (As := [.int c2]) (rest := []) ⟨hx, hb, hml, hown, hts⟩ (x_requireBag l hfl dC dI cI cL cB ad N0 w c2 o_c2) (va_cwS 1 hts (gI_S k_120 k_118 k_119 k_21) rfl rfl rfl (by decide +kernel) ⟨Nat.le_of_ble_eq_true rfl, Nat.le_of_ble_eq_true rfl⟩) (q_pre hK hAm hZ hN [.int c2]) rfl rfl hl.1 rfl (lv_room (Nat.le_of_ble_eq_true rfl)) d_CB_times_6 ⟨Nat.le_of_ble_eq_true rfl, Nat.le_of_ble_eq_true rfl⟩) hZ
  · skip
    exact q_xpass hno hlocks (vx_runS (As := [.int a]) (rest := []) ⟨hx, hb, hml, hown, hts⟩ (x_requireBag l hfl dC dI cI cL cB ad N0 w a o_a) (va_cwS 1 hts (gI_S k_120 k_118 k_119 k_21) rfl rfl rfl (by decide +kernel) ⟨Nat.le_of_ble_eq_true rfl, Nat.le_of_ble_eq_true rfl⟩) (q_pre hK hAm hZ hN [.int a]) rfl rfl hl.1 rfl (lv_room (Nat.le_of_ble_eq_true rfl)) d_CB_times_1 ⟨Nat.le_of_ble_eq_true rfl, Nat.le_of_ble_eq_true rfl⟩) hZ
set_option maxHeartbeats 4000000 in
set_option maxRecDepth 100000 in
theorem x_CB_only_b (l : Launch) (hfl : l.stackTraces = false) (dC : Nat → ClassId) (dI : Nat → Nat → Nat) (cI cL cB : ClassId) (ad : Nat → Nat) (N0 : Nat) (w : Nat → va_E) (a : Int32) (q : Int32) (iz : Int32) (c2 : Int32) (h0 : ∃ fs : List Value, w 0 = .inr (2, fs)) (hbad : ¬ (okB a ∧ okB c2)) : vx_Met l y_CB_only ws_CB_only ({ frames := 7, cells := 1, slots := 6, locals := 102 } : Room) (va_Pc [.ref (ad 0), .int a, .int q, .int iz, .int c2] (sPr (dC, dI) vCl [(cI, .int), (cL, .long), (cB, .object "CoinBag$Bag")] 52 ad N0 w)) qF (sX (dC, dI) vCl 52 ad N0 "java/lang/IndexOutOfBoundsException" w) 1 6 (fun q => N0 ≤ q) := by
  refine vx_ofW (cc := b_CB_only) (maxL := 7) (ret := none) (by decide) rfl ?_
  intro p e s m args below meth c s₁ B hml hno hv
  obtain ⟨rfl, hP, hK, hD, hN, hAm⟩ := hv
  have hx := B.exec
  have hb := B.bytes
  have hr := B.returns
  have hts := atoms_spec (ws := ws_CB_only) B.pre
  have hown : s.vm.findClass "CoinBag" = some m.cls := findClass_of_methodNamed B.named
  have hlocks := B.notSynchronized
  have hZ : sZ (dC, dI) vCl 52 ad (fun q => N0 ≤ q) s.heap w s.heap [] := ⟨hP, hD, va_S.rf⟩
  have hl := lv_entry ([.ref (ad 0), .int a, .int q, .int iz, .int c2]) (n := 7) (Nat.le_of_ble_eq_true rfl)
  rw [lg_entry_eq]
  generalize (lg_sl ([.ref (ad 0), .int a, .int q, .int iz, .int c2]) ++ List.replicate (7 - (lg_sl ([.ref (ad 0), .int a, .int q, .int iz, .int c2])).length) Slot.unset).toArray = ls at hl ⊢
  have hl : lv_has ls 7 [(0, .ref (ad 0)), (1, .int a), (2, .int q), (3, .int iz), (4, .int c2)] := hl
  obtain ⟨fs0, h0⟩ := h0
  refine lv_iload_n hx hb d_CB_only_0 rfl (lv_at hl 1 rfl) ?_
  by_cases o_a : okB a
  · skip
    refine q_callSv (va_runS (As := [.int a]) (rest := []) ⟨hx, hb, hml, hown, hts⟩ (c_CB_requireBag2 l a o_a) (va_cwS 1 hts (gI_S k_120 k_118 k_119 k_21) rfl rfl rfl (by decide +kernel) ⟨Nat.le_of_ble_eq_true rfl, Nat.le_of_ble_eq_true rfl⟩) ⟨fun _ _ _ _ q => q, fun _ _ _ => ⟨rfl, trivial⟩⟩ rfl rfl hl.1 rfl (lv_room (Nat.le_of_ble_eq_true rfl)) d_CB_only_1 ⟨Nat.zero_le _, Nat.zero_le _⟩) ?_
    refine lv_iload hx hb d_CB_only_4 (lv_at hl 4 rfl) ?_
    by_cases o_c2 : okB c2
    · skip
      exact absurd ⟨o_a, o_c2⟩ hbad
    · skip
      exact q_xpass hno hlocks (vx_runS (As := [.int c2]) (rest := []) ⟨hx, hb, hml, hown, hts⟩ (x_requireBag l hfl dC dI cI cL cB ad N0 w c2 o_c2) (va_cwS 1 hts (gI_S k_120 k_118 k_119 k_21) rfl rfl rfl (by decide +kernel) ⟨Nat.le_of_ble_eq_true rfl, Nat.le_of_ble_eq_true rfl⟩) (q_pre hK hAm hZ hN [.int c2]) rfl rfl hl.1 rfl (lv_room (Nat.le_of_ble_eq_true rfl)) d_CB_only_6 ⟨Nat.le_of_ble_eq_true rfl, Nat.le_of_ble_eq_true rfl⟩) hZ
  · skip
    exact q_xpass hno hlocks (vx_runS (As := [.int a]) (rest := []) ⟨hx, hb, hml, hown, hts⟩ (x_requireBag l hfl dC dI cI cL cB ad N0 w a o_a) (va_cwS 1 hts (gI_S k_120 k_118 k_119 k_21) rfl rfl rfl (by decide +kernel) ⟨Nat.le_of_ble_eq_true rfl, Nat.le_of_ble_eq_true rfl⟩) (q_pre hK hAm hZ hN [.int a]) rfl rfl hl.1 rfl (lv_room (Nat.le_of_ble_eq_true rfl)) d_CB_only_1 ⟨Nat.le_of_ble_eq_true rfl, Nat.le_of_ble_eq_true rfl⟩) hZ
set_option maxHeartbeats 4000000 in
set_option maxRecDepth 100000 in
theorem x_CB_only_p (l : Launch) (hfl : l.stackTraces = false) (dC : Nat → ClassId) (dI : Nat → Nat → Nat) (cI cL cB : ClassId) (ad : Nat → Nat) (N0 : Nat) (w : Nat → va_E) (a : Int32) (q : Int32) (iz : Int32) (c2 : Int32) (h0 : ∃ fs : List Value, w 0 = .inr (2, fs)) (hg_a : okB a) (hg_c2 : okB c2) (hbad : ¬ okP q) : vx_Met l y_CB_only ws_CB_only ({ frames := 7, cells := 1, slots := 6, locals := 102 } : Room) (va_Pc [.ref (ad 0), .int a, .int q, .int iz, .int c2] (sPr (dC, dI) vCl [(cI, .int), (cL, .long), (cB, .object "CoinBag$Bag")] 52 ad N0 w)) qF (sX (dC, dI) vCl 52 ad N0 "java/lang/IllegalArgumentException" w) 1 6 (fun q => N0 ≤ q) := by
  refine vx_ofW (cc := b_CB_only) (maxL := 7) (ret := none) (by decide) rfl ?_
  intro p e s m args below meth c s₁ B hml hno hv
  obtain ⟨rfl, hP, hK, hD, hN, hAm⟩ := hv
  have hx := B.exec
  have hb := B.bytes
  have hr := B.returns
  have hts := atoms_spec (ws := ws_CB_only) B.pre
  have hown : s.vm.findClass "CoinBag" = some m.cls := findClass_of_methodNamed B.named
  have hlocks := B.notSynchronized
  have hZ : sZ (dC, dI) vCl 52 ad (fun q => N0 ≤ q) s.heap w s.heap [] := ⟨hP, hD, va_S.rf⟩
  have hl := lv_entry ([.ref (ad 0), .int a, .int q, .int iz, .int c2]) (n := 7) (Nat.le_of_ble_eq_true rfl)
  rw [lg_entry_eq]
  generalize (lg_sl ([.ref (ad 0), .int a, .int q, .int iz, .int c2]) ++ List.replicate (7 - (lg_sl ([.ref (ad 0), .int a, .int q, .int iz, .int c2])).length) Slot.unset).toArray = ls at hl ⊢
  have hl : lv_has ls 7 [(0, .ref (ad 0)), (1, .int a), (2, .int q), (3, .int iz), (4, .int c2)] := hl
  obtain ⟨fs0, h0⟩ := h0
  refine lv_iload_n hx hb d_CB_only_0 rfl (lv_at hl 1 rfl) ?_
  by_cases o_a : okB a
  · skip
    refine q_callSv (va_runS (As := [.int a]) (rest := []) ⟨hx, hb, hml, hown, hts⟩ (c_CB_requireBag2 l a o_a) (va_cwS 1 hts (gI_S k_120 k_118 k_119 k_21) rfl rfl rfl (by decide +kernel) ⟨Nat.le_of_ble_eq_true rfl, Nat.le_of_ble_eq_true rfl⟩) ⟨fun _ _ _ _ q => q, fun _ _ _ => ⟨rfl, trivial⟩⟩ rfl rfl hl.1 rfl (lv_room (Nat.le_of_ble_eq_true rfl)) d_CB_only_1 ⟨Nat.zero_le _, Nat.zero_le _⟩) ?_
    refine lv_iload hx hb d_CB_only_4 (lv_at hl 4 rfl) ?_
    by_cases o_c2 : okB c2
    · skip
      refine q_callSv (va_runS (As := [.int c2]) (rest := []) ⟨hx, hb, hml, hown, hts⟩ (c_CB_requireBag2 l c2 o_c2) (va_cwS 1 hts (gI_S k_120 k_118 k_119 k_21) rfl rfl rfl (by decide +kernel) ⟨Nat.le_of_ble_eq_true rfl, Nat.le_of_ble_eq_true rfl⟩) ⟨fun _ _ _ _ q => q, fun _ _ _ => ⟨rfl, trivial⟩⟩ rfl rfl hl.1 rfl (lv_room (Nat.le_of_ble_eq_true rfl)) d_CB_only_6 ⟨Nat.zero_le _, Nat.zero_le _⟩) ?_
      refine lv_iload_n hx hb d_CB_only_9 rfl (lv_at hl 2 rfl) ?_
      by_cases o_q : okP q
      · skip
        exact absurd o_q hbad
      · skip
        exact q_xpass hno hlocks (vx_runS (As := [.int q]) (rest := []) ⟨hx, hb, hml, hown, hts⟩ (x_requirePolicy l hfl dC dI cI cL cB ad N0 w q o_q) (va_cwS 1 hts (gI_S k_190 k_188 k_189 k_21) rfl rfl rfl (by decide +kernel) ⟨Nat.le_of_ble_eq_true rfl, Nat.le_of_ble_eq_true rfl⟩) (q_pre hK hAm hZ hN [.int q]) rfl rfl hl.1 rfl (lv_room (Nat.le_of_ble_eq_true rfl)) d_CB_only_10 ⟨Nat.le_of_ble_eq_true rfl, Nat.le_of_ble_eq_true rfl⟩) hZ
    · skip
      exact absurd hg_c2 o_c2
  · skip
    exact absurd hg_a o_a
set_option maxHeartbeats 4000000 in
set_option maxRecDepth 100000 in
theorem x_CB_part_b (l : Launch) (hfl : l.stackTraces = false) (dC : Nat → ClassId) (dI : Nat → Nat → Nat) (cI cL cB : ClassId) (ad : Nat → Nat) (N0 : Nat) (w : Nat → va_E) (a : Int32) (sg : Int32) (c2 : Int32) (h0 : ∃ fs : List Value, w 0 = .inr (2, fs)) (hbad : ¬ (okB a ∧ okB c2)) : vx_Met l y_CB_part ws_CB_part ({ frames := 7, cells := 1, slots := 6, locals := 102 } : Room) (va_Pc [.ref (ad 0), .int a, .int sg, .int c2] (sPr (dC, dI) vCl [(cI, .int), (cL, .long), (cB, .object "CoinBag$Bag")] 52 ad N0 w)) qF (sX (dC, dI) vCl 52 ad N0 "java/lang/IndexOutOfBoundsException" w) 1 6 (fun q => N0 ≤ q) := by
  refine vx_ofW (cc := b_CB_part) (maxL := 8) (ret := (some .boolean)) (by decide) rfl ?_
  intro p e s m args below meth c s₁ B hml hno hv
  obtain ⟨rfl, hP, hK, hD, hN, hAm⟩ := hv
  have hx := B.exec
  have hb := B.bytes
  have hr := B.returns
  have hts := atoms_spec (ws := ws_CB_part) B.pre
  have hown : s.vm.findClass "CoinBag" = some m.cls := findClass_of_methodNamed B.named
  have hlocks := B.notSynchronized
  have hZ : sZ (dC, dI) vCl 52 ad (fun q => N0 ≤ q) s.heap w s.heap [] := ⟨hP, hD, va_S.rf⟩
  have hl := lv_entry ([.ref (ad 0), .int a, .int sg, .int c2]) (n := 8) (Nat.le_of_ble_eq_true rfl)
  rw [lg_entry_eq]
  generalize (lg_sl ([.ref (ad 0), .int a, .int sg, .int c2]) ++ List.replicate (8 - (lg_sl ([.ref (ad 0), .int a, .int sg, .int c2])).length) Slot.unset).toArray = ls at hl ⊢
  have hl : lv_has ls 8 [(0, .ref (ad 0)), (1, .int a), (2, .int sg), (3, .int c2)] := hl
  obtain ⟨fs0, h0⟩ := h0
  refine lv_iload_n hx hb d_CB_part_0 rfl (lv_at hl 1 rfl) ?_
  by_cases o_a : okB a
  · skip
    refine q_callSv (va_runS (As := [.int a]) (rest := []) ⟨hx, hb, hml, hown, hts⟩ (c_CB_requireBag2 l a o_a) (va_cwS 1 hts (gI_S k_120 k_118 k_119 k_21) rfl rfl rfl (by decide +kernel) ⟨Nat.le_of_ble_eq_true rfl, Nat.le_of_ble_eq_true rfl⟩) ⟨fun _ _ _ _ q => q, fun _ _ _ => ⟨rfl, trivial⟩⟩ rfl rfl hl.1 rfl (lv_room (Nat.le_of_ble_eq_true rfl)) d_CB_part_1 ⟨Nat.zero_le _, Nat.zero_le _⟩) ?_
    refine lv_iload_n hx hb d_CB_part_4 rfl (lv_at hl 3 rfl) ?_
    by_cases o_c2 : okB c2
    · skip
      exact absurd ⟨o_a, o_c2⟩ hbad
    · skip
      exact q_xpass hno hlocks (vx_runS (As := [.int c2]) (rest := []) ⟨hx, hb, hml, hown, hts⟩ (x_requireBag l hfl dC dI cI cL cB ad N0 w c2 o_c2) (va_cwS 1 hts (gI_S k_120 k_118 k_119 k_21) rfl rfl rfl (by decide +kernel) ⟨Nat.le_of_ble_eq_true rfl, Nat.le_of_ble_eq_true rfl⟩) (q_pre hK hAm hZ hN [.int c2]) rfl rfl hl.1 rfl (lv_room (Nat.le_of_ble_eq_true rfl)) d_CB_part_5 ⟨Nat.le_of_ble_eq_true rfl, Nat.le_of_ble_eq_true rfl⟩) hZ
  · skip
    exact q_xpass hno hlocks (vx_runS (As := [.int a]) (rest := []) ⟨hx, hb, hml, hown, hts⟩ (x_requireBag l hfl dC dI cI cL cB ad N0 w a o_a) (va_cwS 1 hts (gI_S k_120 k_118 k_119 k_21) rfl rfl rfl (by decide +kernel) ⟨Nat.le_of_ble_eq_true rfl, Nat.le_of_ble_eq_true rfl⟩) (q_pre hK hAm hZ hN [.int a]) rfl rfl hl.1 rfl (lv_room (Nat.le_of_ble_eq_true rfl)) d_CB_part_1 ⟨Nat.le_of_ble_eq_true rfl, Nat.le_of_ble_eq_true rfl⟩) hZ
set_option maxHeartbeats 4000000 in
set_option maxRecDepth 100000 in
theorem x_CB_clear_b (l : Launch) (hfl : l.stackTraces = false) (dC : Nat → ClassId) (dI : Nat → Nat → Nat) (cI cL cB : ClassId) (ad : Nat → Nat) (N0 : Nat) (w : Nat → va_E) (b : Int32) (h0 : ∃ fs : List Value, w 0 = .inr (2, fs)) (hbad : ¬ (okB b)) : vx_Met l y_CB_clear ws_CB_clear ({ frames := 7, cells := 1, slots := 6, locals := 102 } : Room) (va_Pc [.ref (ad 0), .int b] (sPr (dC, dI) vCl [(cI, .int), (cL, .long), (cB, .object "CoinBag$Bag")] 52 ad N0 w)) qF (sX (dC, dI) vCl 52 ad N0 "java/lang/IndexOutOfBoundsException" w) 1 6 (fun q => N0 ≤ q) := by
  refine vx_ofW (cc := b_CB_clear) (maxL := 2) (ret := none) (by decide) rfl ?_
  intro p e s m args below meth c s₁ B hml hno hv
  obtain ⟨rfl, hP, hK, hD, hN, hAm⟩ := hv
  have hx := B.exec
  have hb := B.bytes
  have hr := B.returns
  have hts := atoms_spec (ws := ws_CB_clear) B.pre
  have hown : s.vm.findClass "CoinBag" = some m.cls := findClass_of_methodNamed B.named
  have hlocks := B.notSynchronized
  have hZ : sZ (dC, dI) vCl 52 ad (fun q => N0 ≤ q) s.heap w s.heap [] := ⟨hP, hD, va_S.rf⟩
  have hl := lv_entry ([.ref (ad 0), .int b]) (n := 2) (Nat.le_of_ble_eq_true rfl)
  rw [lg_entry_eq]
  generalize (lg_sl ([.ref (ad 0), .int b]) ++ List.replicate (2 - (lg_sl ([.ref (ad 0), .int b])).length) Slot.unset).toArray = ls at hl ⊢
  have hl : lv_has ls 2 [(0, .ref (ad 0)), (1, .int b)] := hl
  obtain ⟨fs0, h0⟩ := h0
  refine lv_iload_n hx hb d_CB_clear_0 rfl (lv_at hl 1 rfl) ?_
  by_cases o_b : okB b
  · skip
    exact absurd o_b hbad
  · skip
    exact q_xpass hno hlocks (vx_runS (As := [.int b]) (rest := []) ⟨hx, hb, hml, hown, hts⟩ (x_requireBag l hfl dC dI cI cL cB ad N0 w b o_b) (va_cwS 1 hts (gI_S k_120 k_118 k_119 k_21) rfl rfl rfl (by decide +kernel) ⟨Nat.le_of_ble_eq_true rfl, Nat.le_of_ble_eq_true rfl⟩) (q_pre hK hAm hZ hN [.int b]) rfl rfl hl.1 rfl (lv_room (Nat.le_of_ble_eq_true rfl)) d_CB_clear_1 ⟨Nat.le_of_ble_eq_true rfl, Nat.le_of_ble_eq_true rfl⟩) hZ
set_option maxHeartbeats 4000000 in
set_option maxRecDepth 100000 in
theorem x_CB_size_b (l : Launch) (hfl : l.stackTraces = false) (dC : Nat → ClassId) (dI : Nat → Nat → Nat) (cI cL cB : ClassId) (ad : Nat → Nat) (N0 : Nat) (w : Nat → va_E) (b : Int32) (h0 : ∃ fs : List Value, w 0 = .inr (2, fs)) (hbad : ¬ (okB b)) : vx_Met l y_CB_size ws_CB_size ({ frames := 7, cells := 1, slots := 6, locals := 102 } : Room) (va_Pc [.ref (ad 0), .int b] (sPr (dC, dI) vCl [(cI, .int), (cL, .long), (cB, .object "CoinBag$Bag")] 52 ad N0 w)) qF (sX (dC, dI) vCl 52 ad N0 "java/lang/IndexOutOfBoundsException" w) 1 6 (fun q => N0 ≤ q) := by
  refine vx_ofW (cc := b_CB_size) (maxL := 2) (ret := (some .int)) (by decide) rfl ?_
  intro p e s m args below meth c s₁ B hml hno hv
  obtain ⟨rfl, hP, hK, hD, hN, hAm⟩ := hv
  have hx := B.exec
  have hb := B.bytes
  have hr := B.returns
  have hts := atoms_spec (ws := ws_CB_size) B.pre
  have hown : s.vm.findClass "CoinBag" = some m.cls := findClass_of_methodNamed B.named
  have hlocks := B.notSynchronized
  have hZ : sZ (dC, dI) vCl 52 ad (fun q => N0 ≤ q) s.heap w s.heap [] := ⟨hP, hD, va_S.rf⟩
  have hl := lv_entry ([.ref (ad 0), .int b]) (n := 2) (Nat.le_of_ble_eq_true rfl)
  rw [lg_entry_eq]
  generalize (lg_sl ([.ref (ad 0), .int b]) ++ List.replicate (2 - (lg_sl ([.ref (ad 0), .int b])).length) Slot.unset).toArray = ls at hl ⊢
  have hl : lv_has ls 2 [(0, .ref (ad 0)), (1, .int b)] := hl
  obtain ⟨fs0, h0⟩ := h0
  refine lv_iload_n hx hb d_CB_size_0 rfl (lv_at hl 1 rfl) ?_
  by_cases o_b : okB b
  · skip
    exact absurd o_b hbad
  · skip
    exact q_xpass hno hlocks (vx_runS (As := [.int b]) (rest := []) ⟨hx, hb, hml, hown, hts⟩ (x_requireBag l hfl dC dI cI cL cB ad N0 w b o_b) (va_cwS 1 hts (gI_S k_120 k_118 k_119 k_21) rfl rfl rfl (by decide +kernel) ⟨Nat.le_of_ble_eq_true rfl, Nat.le_of_ble_eq_true rfl⟩) (q_pre hK hAm hZ hN [.int b]) rfl rfl hl.1 rfl (lv_room (Nat.le_of_ble_eq_true rfl)) d_CB_size_1 ⟨Nat.le_of_ble_eq_true rfl, Nat.le_of_ble_eq_true rfl⟩) hZ
set_option maxHeartbeats 4000000 in
set_option maxRecDepth 100000 in
theorem x_CB_at_b (l : Launch) (hfl : l.stackTraces = false) (dC : Nat → ClassId) (dI : Nat → Nat → Nat) (cI cL cB : ClassId) (ad : Nat → Nat) (N0 : Nat) (w : Nat → va_E) (b : Int32) (i9 : Int32) (wh : Int32) (h0 : ∃ fs : List Value, w 0 = .inr (2, fs)) (hbad : ¬ (okB b)) : vx_Met l y_CB_at ws_CB_at ({ frames := 7, cells := 1, slots := 6, locals := 102 } : Room) (va_Pc [.ref (ad 0), .int b, .int i9, .int wh] (sPr (dC, dI) vCl [(cI, .int), (cL, .long), (cB, .object "CoinBag$Bag")] 52 ad N0 w)) qF (sX (dC, dI) vCl 52 ad N0 "java/lang/IndexOutOfBoundsException" w) 1 6 (fun q => N0 ≤ q) := by
  refine vx_ofW (cc := b_CB_at) (maxL := 5) (ret := (some .long)) (by decide) rfl ?_
  intro p e s m args below meth c s₁ B hml hno hv
  obtain ⟨rfl, hP, hK, hD, hN, hAm⟩ := hv
  have hx := B.exec
  have hb := B.bytes
  have hr := B.returns
  have hts := atoms_spec (ws := ws_CB_at) B.pre
  have hown : s.vm.findClass "CoinBag" = some m.cls := findClass_of_methodNamed B.named
  have hlocks := B.notSynchronized
  have hZ : sZ (dC, dI) vCl 52 ad (fun q => N0 ≤ q) s.heap w s.heap [] := ⟨hP, hD, va_S.rf⟩
  have hl := lv_entry ([.ref (ad 0), .int b, .int i9, .int wh]) (n := 5) (Nat.le_of_ble_eq_true rfl)
  rw [lg_entry_eq]
  generalize (lg_sl ([.ref (ad 0), .int b, .int i9, .int wh]) ++ List.replicate (5 - (lg_sl ([.ref (ad 0), .int b, .int i9, .int wh])).length) Slot.unset).toArray = ls at hl ⊢
  have hl : lv_has ls 5 [(0, .ref (ad 0)), (1, .int b), (2, .int i9), (3, .int wh)] := hl
  obtain ⟨fs0, h0⟩ := h0
  refine lv_iload_n hx hb d_CB_at_0 rfl (lv_at hl 1 rfl) ?_
  by_cases o_b : okB b
  · skip
    exact absurd o_b hbad
  · skip
    exact q_xpass hno hlocks (vx_runS (As := [.int b]) (rest := []) ⟨hx, hb, hml, hown, hts⟩ (x_requireBag l hfl dC dI cI cL cB ad N0 w b o_b) (va_cwS 1 hts (gI_S k_120 k_118 k_119 k_21) rfl rfl rfl (by decide +kernel) ⟨Nat.le_of_ble_eq_true rfl, Nat.le_of_ble_eq_true rfl⟩) (q_pre hK hAm hZ hN [.int b]) rfl rfl hl.1 rfl (lv_room (Nat.le_of_ble_eq_true rfl)) d_CB_at_1 ⟨Nat.le_of_ble_eq_true rfl, Nat.le_of_ble_eq_true rfl⟩) hZ
set_option maxHeartbeats 4000000 in
set_option maxRecDepth 100000 in
theorem x_CB_compare_b (l : Launch) (hfl : l.stackTraces = false) (dC : Nat → ClassId) (dI : Nat → Nat → Nat) (cI cL cB : ClassId) (ad : Nat → Nat) (N0 : Nat) (w : Nat → va_E) (a : Int32) (b : Int32) (h0 : ∃ fs : List Value, w 0 = .inr (2, fs)) (hbad : ¬ (okB a ∧ okB b)) : vx_Met l y_CB_compare ws_CB_compare ({ frames := 7, cells := 1, slots := 6, locals := 102 } : Room) (va_Pc [.ref (ad 0), .int a, .int b] (sPr (dC, dI) vCl [(cI, .int), (cL, .long), (cB, .object "CoinBag$Bag")] 52 ad N0 w)) qF (sX (dC, dI) vCl 52 ad N0 "java/lang/IndexOutOfBoundsException" w) 1 6 (fun q => N0 ≤ q) := by
  refine vx_ofW (cc := b_CB_compare) (maxL := 6) (ret := (some .int)) (by decide) rfl ?_
  intro p e s m args below meth c s₁ B hml hno hv
  obtain ⟨rfl, hP, hK, hD, hN, hAm⟩ := hv
  have hx := B.exec
  have hb := B.bytes
  have hr := B.returns
  have hts := atoms_spec (ws := ws_CB_compare) B.pre
  have hown : s.vm.findClass "CoinBag" = some m.cls := findClass_of_methodNamed B.named
  have hlocks := B.notSynchronized
  have hZ : sZ (dC, dI) vCl 52 ad (fun q => N0 ≤ q) s.heap w s.heap [] := ⟨hP, hD, va_S.rf⟩
  have hl := lv_entry ([.ref (ad 0), .int a, .int b]) (n := 6) (Nat.le_of_ble_eq_true rfl)
  rw [lg_entry_eq]
  generalize (lg_sl ([.ref (ad 0), .int a, .int b]) ++ List.replicate (6 - (lg_sl ([.ref (ad 0), .int a, .int b])).length) Slot.unset).toArray = ls at hl ⊢
  have hl : lv_has ls 6 [(0, .ref (ad 0)), (1, .int a), (2, .int b)] := hl
  obtain ⟨fs0, h0⟩ := h0
  refine lv_iload_n hx hb d_CB_compare_0 rfl (lv_at hl 1 rfl) ?_
  by_cases o_a : okB a
  · skip
    refine q_callSv (va_runS (As := [.int a]) (rest := []) ⟨hx, hb, hml, hown, hts⟩ (c_CB_requireBag2 l a o_a) (va_cwS 1 hts (gI_S k_120 k_118 k_119 k_21) rfl rfl rfl (by decide +kernel) ⟨Nat.le_of_ble_eq_true rfl, Nat.le_of_ble_eq_true rfl⟩) ⟨fun _ _ _ _ q => q, fun _ _ _ => ⟨rfl, trivial⟩⟩ rfl rfl hl.1 rfl (lv_room (Nat.le_of_ble_eq_true rfl)) d_CB_compare_1 ⟨Nat.zero_le _, Nat.zero_le _⟩) ?_
    refine lv_iload_n hx hb d_CB_compare_4 rfl (lv_at hl 2 rfl) ?_
    by_cases o_b : okB b
    · skip
      exact absurd ⟨o_a, o_b⟩ hbad
    · skip
      exact q_xpass hno hlocks (vx_runS (As := [.int b]) (rest := []) ⟨hx, hb, hml, hown, hts⟩ (x_requireBag l hfl dC dI cI cL cB ad N0 w b o_b) (va_cwS 1 hts (gI_S k_120 k_118 k_119 k_21) rfl rfl rfl (by decide +kernel) ⟨Nat.le_of_ble_eq_true rfl, Nat.le_of_ble_eq_true rfl⟩) (q_pre hK hAm hZ hN [.int b]) rfl rfl hl.1 rfl (lv_room (Nat.le_of_ble_eq_true rfl)) d_CB_compare_5 ⟨Nat.le_of_ble_eq_true rfl, Nat.le_of_ble_eq_true rfl⟩) hZ
  · skip
    exact q_xpass hno hlocks (vx_runS (As := [.int a]) (rest := []) ⟨hx, hb, hml, hown, hts⟩ (x_requireBag l hfl dC dI cI cL cB ad N0 w a o_a) (va_cwS 1 hts (gI_S k_120 k_118 k_119 k_21) rfl rfl rfl (by decide +kernel) ⟨Nat.le_of_ble_eq_true rfl, Nat.le_of_ble_eq_true rfl⟩) (q_pre hK hAm hZ hN [.int a]) rfl rfl hl.1 rfl (lv_room (Nat.le_of_ble_eq_true rfl)) d_CB_compare_1 ⟨Nat.le_of_ble_eq_true rfl, Nat.le_of_ble_eq_true rfl⟩) hZ
set_option maxHeartbeats 4000000 in
set_option maxRecDepth 100000 in
theorem x_CB_into_b (l : Launch) (hfl : l.stackTraces = false) (dC : Nat → ClassId) (dI : Nat → Nat → Nat) (cI cL cB : ClassId) (ad : Nat → Nat) (N0 : Nat) (w : Nat → va_E) (a : Int32) (b : Int32) (h0 : ∃ fs : List Value, w 0 = .inr (2, fs)) (hbad : ¬ (okB a ∧ okB b)) : vx_Met l y_CB_into ws_CB_into ({ frames := 7, cells := 1, slots := 6, locals := 102 } : Room) (va_Pc [.ref (ad 0), .int a, .int b] (sPr (dC, dI) vCl [(cI, .int), (cL, .long), (cB, .object "CoinBag$Bag")] 52 ad N0 w)) qF (sX (dC, dI) vCl 52 ad N0 "java/lang/IndexOutOfBoundsException" w) 1 6 (fun q => N0 ≤ q) := by
  refine vx_ofW (cc := b_CB_into) (maxL := 15) (ret := (some .long)) (by decide) rfl ?_
  intro p e s m args below meth c s₁ B hml hno hv
  obtain ⟨rfl, hP, hK, hD, hN, hAm⟩ := hv
  have hx := B.exec
  have hb := B.bytes
  have hr := B.returns
  have hts := atoms_spec (ws := ws_CB_into) B.pre
  have hown : s.vm.findClass "CoinBag" = some m.cls := findClass_of_methodNamed B.named
  have hlocks := B.notSynchronized
  have hZ : sZ (dC, dI) vCl 52 ad (fun q => N0 ≤ q) s.heap w s.heap [] := ⟨hP, hD, va_S.rf⟩
  have hl := lv_entry ([.ref (ad 0), .int a, .int b]) (n := 15) (Nat.le_of_ble_eq_true rfl)
  rw [lg_entry_eq]
  generalize (lg_sl ([.ref (ad 0), .int a, .int b]) ++ List.replicate (15 - (lg_sl ([.ref (ad 0), .int a, .int b])).length) Slot.unset).toArray = ls at hl ⊢
  have hl : lv_has ls 15 [(0, .ref (ad 0)), (1, .int a), (2, .int b)] := hl
  obtain ⟨fs0, h0⟩ := h0
  refine lv_iload_n hx hb d_CB_into_0 rfl (lv_at hl 1 rfl) ?_
  by_cases o_a : okB a
  · skip
    refine q_callSv (va_runS (As := [.int a]) (rest := []) ⟨hx, hb, hml, hown, hts⟩ (c_CB_requireBag2 l a o_a) (va_cwS 1 hts (gI_S k_120 k_118 k_119 k_21) rfl rfl rfl (by decide +kernel) ⟨Nat.le_of_ble_eq_true rfl, Nat.le_of_ble_eq_true rfl⟩) ⟨fun _ _ _ _ q => q, fun _ _ _ => ⟨rfl, trivial⟩⟩ rfl rfl hl.1 rfl (lv_room (Nat.le_of_ble_eq_true rfl)) d_CB_into_1 ⟨Nat.zero_le _, Nat.zero_le _⟩) ?_
    refine lv_iload_n hx hb d_CB_into_4 rfl (lv_at hl 2 rfl) ?_
    by_cases o_b : okB b
    · skip
      exact absurd ⟨o_a, o_b⟩ hbad
    · skip
      exact q_xpass hno hlocks (vx_runS (As := [.int b]) (rest := []) ⟨hx, hb, hml, hown, hts⟩ (x_requireBag l hfl dC dI cI cL cB ad N0 w b o_b) (va_cwS 1 hts (gI_S k_120 k_118 k_119 k_21) rfl rfl rfl (by decide +kernel) ⟨Nat.le_of_ble_eq_true rfl, Nat.le_of_ble_eq_true rfl⟩) (q_pre hK hAm hZ hN [.int b]) rfl rfl hl.1 rfl (lv_room (Nat.le_of_ble_eq_true rfl)) d_CB_into_5 ⟨Nat.le_of_ble_eq_true rfl, Nat.le_of_ble_eq_true rfl⟩) hZ
  · skip
    exact q_xpass hno hlocks (vx_runS (As := [.int a]) (rest := []) ⟨hx, hb, hml, hown, hts⟩ (x_requireBag l hfl dC dI cI cL cB ad N0 w a o_a) (va_cwS 1 hts (gI_S k_120 k_118 k_119 k_21) rfl rfl rfl (by decide +kernel) ⟨Nat.le_of_ble_eq_true rfl, Nat.le_of_ble_eq_true rfl⟩) (q_pre hK hAm hZ hN [.int a]) rfl rfl hl.1 rfl (lv_room (Nat.le_of_ble_eq_true rfl)) d_CB_into_1 ⟨Nat.le_of_ble_eq_true rfl, Nat.le_of_ble_eq_true rfl⟩) hZ
set_option maxHeartbeats 4000000 in
set_option maxRecDepth 100000 in
theorem x_CB_look_b (l : Launch) (hfl : l.stackTraces = false) (dC : Nat → ClassId) (dI : Nat → Nat → Nat) (cI cL cB : ClassId) (ad : Nat → Nat) (N0 : Nat) (w : Nat → va_E) (b : Int32) (q : Int32) (h0 : ∃ fs : List Value, w 0 = .inr (2, fs)) (hbad : ¬ (okB b)) : vx_Met l y_CB_look ws_CB_look ({ frames := 7, cells := 1, slots := 6, locals := 102 } : Room) (va_Pc [.ref (ad 0), .int b, .int q] (sPr (dC, dI) vCl [(cI, .int), (cL, .long), (cB, .object "CoinBag$Bag")] 52 ad N0 w)) qF (sX (dC, dI) vCl 52 ad N0 "java/lang/IndexOutOfBoundsException" w) 1 6 (fun q => N0 ≤ q) := by
  refine vx_ofW (cc := b_CB_look) (maxL := 3) (ret := (some .int)) (by decide) rfl ?_
  intro p e s m args below meth c s₁ B hml hno hv
  obtain ⟨rfl, hP, hK, hD, hN, hAm⟩ := hv
  have hx := B.exec
  have hb := B.bytes
  have hr := B.returns
  have hts := atoms_spec (ws := ws_CB_look) B.pre
  have hown : s.vm.findClass "CoinBag" = some m.cls := findClass_of_methodNamed B.named
  have hlocks := B.notSynchronized
  have hZ : sZ (dC, dI) vCl 52 ad (fun q => N0 ≤ q) s.heap w s.heap [] := ⟨hP, hD, va_S.rf⟩
  have hl := lv_entry ([.ref (ad 0), .int b, .int q]) (n := 3) (Nat.le_of_ble_eq_true rfl)
  rw [lg_entry_eq]
  generalize (lg_sl ([.ref (ad 0), .int b, .int q]) ++ List.replicate (3 - (lg_sl ([.ref (ad 0), .int b, .int q])).length) Slot.unset).toArray = ls at hl ⊢
  have hl : lv_has ls 3 [(0, .ref (ad 0)), (1, .int b), (2, .int q)] := hl
  obtain ⟨fs0, h0⟩ := h0
  refine lv_iload_n hx hb d_CB_look_0 rfl (lv_at hl 1 rfl) ?_
  by_cases o_b : okB b
  · skip
    exact absurd o_b hbad
  · skip
    exact q_xpass hno hlocks (vx_runS (As := [.int b]) (rest := []) ⟨hx, hb, hml, hown, hts⟩ (x_requireBag l hfl dC dI cI cL cB ad N0 w b o_b) (va_cwS 1 hts (gI_S k_120 k_118 k_119 k_21) rfl rfl rfl (by decide +kernel) ⟨Nat.le_of_ble_eq_true rfl, Nat.le_of_ble_eq_true rfl⟩) (q_pre hK hAm hZ hN [.int b]) rfl rfl hl.1 rfl (lv_room (Nat.le_of_ble_eq_true rfl)) d_CB_look_1 ⟨Nat.le_of_ble_eq_true rfl, Nat.le_of_ble_eq_true rfl⟩) hZ
set_option maxHeartbeats 4000000 in
set_option maxRecDepth 100000 in
theorem x_CB_sum_b (l : Launch) (hfl : l.stackTraces = false) (dC : Nat → ClassId) (dI : Nat → Nat → Nat) (cI cL cB : ClassId) (ad : Nat → Nat) (N0 : Nat) (w : Nat → va_E) (a b c2 : Int32) (h0 : ∃ fs : List Value, w 0 = .inr (2, fs)) (hbad : ¬ (okB a ∧ okB b ∧ okB c2)) : vx_Met l y_CB_sum ws_CB_sum ({ frames := 8, cells := 1, slots := 6, locals := 131 } : Room) (va_Pc [.ref (ad 0), .int a, .int b, .int c2] (sPr (dC, dI) vCl [(cI, .int), (cL, .long), (cB, .object "CoinBag$Bag")] 52 ad N0 w)) qF (sX (dC, dI) vCl 52 ad N0 "java/lang/IndexOutOfBoundsException" w) 1 6 (fun q => N0 ≤ q) := by
  refine vx_ofW (cc := b_CB_sum) (maxL := 4) (ret := (some .boolean)) (by decide) rfl ?_
  intro p e s m args below meth c s₁ B hml hno hv
  obtain ⟨rfl, hP, hK, hD, hN, hAm⟩ := hv
  have hx := B.exec
  have hb := B.bytes
  have hr := B.returns
  have hts := atoms_spec (ws := ws_CB_sum) B.pre
  have hown : s.vm.findClass "CoinBag" = some m.cls := findClass_of_methodNamed B.named
  have hlocks := B.notSynchronized
  have hZ : sZ (dC, dI) vCl 52 ad (fun q => N0 ≤ q) s.heap w s.heap [] := ⟨hP, hD, va_S.rf⟩
  have hl := lv_entry ([.ref (ad 0), .int a, .int b, .int c2]) (n := 4) (Nat.le_of_ble_eq_true rfl)
  rw [lg_entry_eq]
  generalize (lg_sl ([.ref (ad 0), .int a, .int b, .int c2]) ++ List.replicate (4 - (lg_sl ([.ref (ad 0), .int a, .int b, .int c2])).length) Slot.unset).toArray = ls at hl ⊢
  have hl : lv_has ls 4 [(0, .ref (ad 0)), (1, .int a), (2, .int b), (3, .int c2)] := hl
  have hw0 := h0
  obtain ⟨fs0, h0⟩ := h0
  refine lv_aload_n hx hb d_CB_sum_0 rfl (lv_at hl 0 rfl) ?_
  refine lv_iload_n hx hb d_CB_sum_1 rfl (lv_at hl 1 rfl) ?_
  refine lv_iload_n hx hb d_CB_sum_2 rfl (lv_at hl 2 rfl) ?_
  refine lv_iload_n hx hb d_CB_sum_3 rfl (lv_at hl 3 rfl) ?_
  refine lv_iconst (v := (nI 0)) hx hb d_CB_sum_4 rfl ?_
  exact q_xpass hno hlocks (vx_runV (As := [.int a, .int b, .int c2, .int (nI 0)]) (rest := []) ⟨hx, hb, hml, hown, hts⟩ (x_CB_combine_b l hfl dC dI cI cL cB ad N0 w a b c2 (nI 0) hw0 hbad) (cwV 4 hts (gI_V k_270 k_267 k_269 k_5 k_21) rfl rfl rfl (by decide +kernel) ⟨Nat.le_of_ble_eq_true rfl, Nat.le_of_ble_eq_true rfl⟩) (q_preV hK hAm hZ hN [.int a, .int b, .int c2, .int (nI 0)] (0) 2 (by decide) h0 rfl) rfl rfl hl.1 rfl (lv_room (Nat.le_of_ble_eq_true rfl)) d_CB_sum_5 ⟨Nat.le_of_ble_eq_true rfl, Nat.le_of_ble_eq_true rfl⟩) hZ
set_option maxHeartbeats 4000000 in
set_option maxRecDepth 100000 in
theorem x_CB_less_b (l : Launch) (hfl : l.stackTraces = false) (dC : Nat → ClassId) (dI : Nat → Nat → Nat) (cI cL cB : ClassId) (ad : Nat → Nat) (N0 : Nat) (w : Nat → va_E) (a b c2 : Int32) (h0 : ∃ fs : List Value, w 0 = .inr (2, fs)) (hbad : ¬ (okB a ∧ okB b ∧ okB c2)) : vx_Met l y_CB_less ws_CB_less ({ frames := 8, cells := 1, slots := 6, locals := 131 } : Room) (va_Pc [.ref (ad 0), .int a, .int b, .int c2] (sPr (dC, dI) vCl [(cI, .int), (cL, .long), (cB, .object "CoinBag$Bag")] 52 ad N0 w)) qF (sX (dC, dI) vCl 52 ad N0 "java/lang/IndexOutOfBoundsException" w) 1 6 (fun q => N0 ≤ q) := by
  refine vx_ofW (cc := b_CB_less) (maxL := 4) (ret := (some .boolean)) (by decide) rfl ?_
  intro p e s m args below meth c s₁ B hml hno hv
  obtain ⟨rfl, hP, hK, hD, hN, hAm⟩ := hv
  have hx := B.exec
  have hb := B.bytes
  have hr := B.returns
  have hts := atoms_spec (ws := ws_CB_less) B.pre
  have hown : s.vm.findClass "CoinBag" = some m.cls := findClass_of_methodNamed B.named
  have hlocks := B.notSynchronized
  have hZ : sZ (dC, dI) vCl 52 ad (fun q => N0 ≤ q) s.heap w s.heap [] := ⟨hP, hD, va_S.rf⟩
  have hl := lv_entry ([.ref (ad 0), .int a, .int b, .int c2]) (n := 4) (Nat.le_of_ble_eq_true rfl)
  rw [lg_entry_eq]
  generalize (lg_sl ([.ref (ad 0), .int a, .int b, .int c2]) ++ List.replicate (4 - (lg_sl ([.ref (ad 0), .int a, .int b, .int c2])).length) Slot.unset).toArray = ls at hl ⊢
  have hl : lv_has ls 4 [(0, .ref (ad 0)), (1, .int a), (2, .int b), (3, .int c2)] := hl
  have hw0 := h0
  obtain ⟨fs0, h0⟩ := h0
  refine lv_aload_n hx hb d_CB_less_0 rfl (lv_at hl 0 rfl) ?_
  refine lv_iload_n hx hb d_CB_less_1 rfl (lv_at hl 1 rfl) ?_
  refine lv_iload_n hx hb d_CB_less_2 rfl (lv_at hl 2 rfl) ?_
  refine lv_iload_n hx hb d_CB_less_3 rfl (lv_at hl 3 rfl) ?_
  refine lv_iconst (v := (nI 1)) hx hb d_CB_less_4 rfl ?_
  exact q_xpass hno hlocks (vx_runV (As := [.int a, .int b, .int c2, .int (nI 1)]) (rest := []) ⟨hx, hb, hml, hown, hts⟩ (x_CB_combine_b l hfl dC dI cI cL cB ad N0 w a b c2 (nI 1) hw0 hbad) (cwV 4 hts (gI_V k_270 k_267 k_269 k_5 k_21) rfl rfl rfl (by decide +kernel) ⟨Nat.le_of_ble_eq_true rfl, Nat.le_of_ble_eq_true rfl⟩) (q_preV hK hAm hZ hN [.int a, .int b, .int c2, .int (nI 1)] (0) 2 (by decide) h0 rfl) rfl rfl hl.1 rfl (lv_room (Nat.le_of_ble_eq_true rfl)) d_CB_less_5 ⟨Nat.le_of_ble_eq_true rfl, Nat.le_of_ble_eq_true rfl⟩) hZ
set_option maxHeartbeats 4000000 in
set_option maxRecDepth 100000 in
theorem x_CB_least_b (l : Launch) (hfl : l.stackTraces = false) (dC : Nat → ClassId) (dI : Nat → Nat → Nat) (cI cL cB : ClassId) (ad : Nat → Nat) (N0 : Nat) (w : Nat → va_E) (a b c2 : Int32) (h0 : ∃ fs : List Value, w 0 = .inr (2, fs)) (hbad : ¬ (okB a ∧ okB b ∧ okB c2)) : vx_Met l y_CB_least ws_CB_least ({ frames := 8, cells := 1, slots := 6, locals := 131 } : Room) (va_Pc [.ref (ad 0), .int a, .int b, .int c2] (sPr (dC, dI) vCl [(cI, .int), (cL, .long), (cB, .object "CoinBag$Bag")] 52 ad N0 w)) qF (sX (dC, dI) vCl 52 ad N0 "java/lang/IndexOutOfBoundsException" w) 1 6 (fun q => N0 ≤ q) := by
  refine vx_ofW (cc := b_CB_least) (maxL := 4) (ret := (some .boolean)) (by decide) rfl ?_
  intro p e s m args below meth c s₁ B hml hno hv
  obtain ⟨rfl, hP, hK, hD, hN, hAm⟩ := hv
  have hx := B.exec
  have hb := B.bytes
  have hr := B.returns
  have hts := atoms_spec (ws := ws_CB_least) B.pre
  have hown : s.vm.findClass "CoinBag" = some m.cls := findClass_of_methodNamed B.named
  have hlocks := B.notSynchronized
  have hZ : sZ (dC, dI) vCl 52 ad (fun q => N0 ≤ q) s.heap w s.heap [] := ⟨hP, hD, va_S.rf⟩
  have hl := lv_entry ([.ref (ad 0), .int a, .int b, .int c2]) (n := 4) (Nat.le_of_ble_eq_true rfl)
  rw [lg_entry_eq]
  generalize (lg_sl ([.ref (ad 0), .int a, .int b, .int c2]) ++ List.replicate (4 - (lg_sl ([.ref (ad 0), .int a, .int b, .int c2])).length) Slot.unset).toArray = ls at hl ⊢
  have hl : lv_has ls 4 [(0, .ref (ad 0)), (1, .int a), (2, .int b), (3, .int c2)] := hl
  have hw0 := h0
  obtain ⟨fs0, h0⟩ := h0
  refine lv_aload_n hx hb d_CB_least_0 rfl (lv_at hl 0 rfl) ?_
  refine lv_iload_n hx hb d_CB_least_1 rfl (lv_at hl 1 rfl) ?_
  refine lv_iload_n hx hb d_CB_least_2 rfl (lv_at hl 2 rfl) ?_
  refine lv_iload_n hx hb d_CB_least_3 rfl (lv_at hl 3 rfl) ?_
  refine lv_iconst (v := (nI 2)) hx hb d_CB_least_4 rfl ?_
  exact q_xpass hno hlocks (vx_runV (As := [.int a, .int b, .int c2, .int (nI 2)]) (rest := []) ⟨hx, hb, hml, hown, hts⟩ (x_CB_combine_b l hfl dC dI cI cL cB ad N0 w a b c2 (nI 2) hw0 hbad) (cwV 4 hts (gI_V k_270 k_267 k_269 k_5 k_21) rfl rfl rfl (by decide +kernel) ⟨Nat.le_of_ble_eq_true rfl, Nat.le_of_ble_eq_true rfl⟩) (q_preV hK hAm hZ hN [.int a, .int b, .int c2, .int (nI 2)] (0) 2 (by decide) h0 rfl) rfl rfl hl.1 rfl (lv_room (Nat.le_of_ble_eq_true rfl)) d_CB_least_5 ⟨Nat.le_of_ble_eq_true rfl, Nat.le_of_ble_eq_true rfl⟩) hZ
set_option maxHeartbeats 4000000 in
set_option maxRecDepth 100000 in
theorem x_CB_at_k (l : Launch) (hfl : l.stackTraces = false) (dC : Nat → ClassId) (dI : Nat → Nat → Nat) (cI cL cB : ClassId) (ad : Nat → Nat) (N0 : Nat) (w : Nat → va_E) (F : Nat → Int → Int64) (j n : Nat) (kn : Nat → Int) (it wh : Int32) (hC : sC ad cI cL cB w F) (hj : j < 8) (hen : eI n kn) (hfn : eF n kn (F j)) (hbad : ¬ ((¬ it < 0 ∧ it < nI n) ∧ (wh = 0 ∨ wh = 1 ∨ wh = 2))) : vx_Met l y_CB_at ws_CB_at ({ frames := 6, cells := 1, slots := 6, locals := 82 } : Room) (va_Pc [.ref (ad 0), .int (nI j), .int it, .int wh] (sPr (dC, dI) vCl [(cI, .int), (cL, .long), (cB, .object "CoinBag$Bag")] 52 ad N0 w)) qF (sX (dC, dI) vCl 52 ad N0 "java/lang/IndexOutOfBoundsException" w) 1 6 (fun q => N0 ≤ q) := by
  refine vx_ofW (cc := b_CB_at) (maxL := 5) (ret := (some .long)) (by decide) rfl ?_
  intro p e s m args below meth c s₁ B hml hno hv
  obtain ⟨rfl, hP, hK, hD, hN, hAm⟩ := hv
  have hx := B.exec
  have hb := B.bytes
  have hr := B.returns
  have hts := atoms_spec (ws := ws_CB_at) B.pre
  have hown : s.vm.findClass "CoinBag" = some m.cls := findClass_of_methodNamed B.named
  have hlocks := B.notSynchronized
  have hZ : sZ (dC, dI) vCl 52 ad (fun q => N0 ≤ q) s.heap w s.heap [] := ⟨hP, hD, va_S.rf⟩
  have hl := lv_entry ([.ref (ad 0), .int (nI j), .int it, .int wh]) (n := 5) (Nat.le_of_ble_eq_true rfl)
  rw [lg_entry_eq]
  generalize (lg_sl ([.ref (ad 0), .int (nI j), .int it, .int wh]) ++ List.replicate (5 - (lg_sl ([.ref (ad 0), .int (nI j), .int it, .int wh])).length) Slot.unset).toArray = ls at hl ⊢
  have hl : lv_has ls 5 [(0, .ref (ad 0)), (1, .int (nI j)), (2, .int it), (3, .int wh)] := hl
  obtain ⟨f, pi, sp, hX⟩ := hC
  have hX : sCx ad cI cL cB w F f pi sp := hX
  obtain ⟨h0, h1, hf, hpi, hinj, hsp, hbg, hspb, hprs⟩ := id hX
  obtain ⟨z, P, N, A, hB, hR⟩ := hbg j hj
  have hk := (hpi j hj).1
  have hz : z ≤ 64 := hB.2.2.2.2
  have ez : z = n := card_eq (eS_I hR.2.1) hR.2.2.1 hen hfn
  refine lv_iload_n hx hb d_CB_at_0 rfl (lv_at hl 1 rfl) ?_
  refine q_callSv (va_runS (As := [.int (nI j)]) (rest := []) ⟨hx, hb, hml, hown, hts⟩ (c_CB_requireBag l j hj) (va_cwS 1 hts (gI_S k_120 k_118 k_119 k_21) rfl rfl rfl (by decide +kernel) ⟨Nat.le_of_ble_eq_true rfl, Nat.le_of_ble_eq_true rfl⟩) ⟨fun _ _ _ _ q => q, fun _ _ _ => ⟨rfl, trivial⟩⟩ rfl rfl hl.1 rfl (lv_room (Nat.le_of_ble_eq_true rfl)) d_CB_at_1 ⟨Nat.zero_le _, Nat.zero_le _⟩) ?_
  refine lv_aload_n hx hb d_CB_at_4 rfl (lv_at hl 0 rfl) ?_
  refine q_get (C := R_CB) (T := T_CB) (N := 3) hx hb hts (fun w h => gm (inT_CB w h)) hown hK hZ (0) (by decide) h0 rfl 0 (by decide) (hts _ (gm k_99)) (fun _ h9 => h9) rfl d_CB_at_5 ?_
  refine lv_iload_n hx hb d_CB_at_8 rfl (lv_at hl 1 rfl) ?_
  refine q_aald hx hb hK hZ (1) 2 (j) (by decide) h1 rfl rfl hj (by decide) (hf j hj) d_CB_at_9 ?_
  refine lv_astore (lv' := [(4, .ref (ad (bb (pi j)))), (0, .ref (ad 0)), (1, .int (nI j)), (2, .int it), (3, .int wh)]) hx hb d_CB_at_10 hl (by decide) rfl (fun ls hl => ?_)
  refine lv_iload_n hx hb d_CB_at_12 rfl (lv_at hl 3 rfl) ?_
  refine lv_if_lt (tgt := 25) hx hb d_CB_at_13 (by decide) (fun h13 => ?_) (fun h13 => ?_)
  · skip
    obtain ⟨sa, hsa⟩ := hAm.2.2.2.2.2.2.2.2.2.1
    exact q_thr (sa := sa) hx hb hfl hts hown hno hlocks hAm hZ (by decide +kernel) k_121 k_28 hsa at_I gd_I (hl.1.trans hml.symm) d_CB_at_25 d_CB_at_28 d_CB_at_29 d_CB_at_31 d_CB_at_34 ⟨Nat.le_of_ble_eq_true rfl, Nat.le_of_ble_eq_true rfl, Nat.le_of_ble_eq_true rfl, Nat.le_of_ble_eq_true rfl⟩
  · skip
    refine lv_iload_n hx hb d_CB_at_16 rfl (lv_at hl 3 rfl) ?_
    refine lv_aload hx hb d_CB_at_17 (lv_at hl 0 rfl) ?_
    refine q_get (C := R_Bag) (T := T_Bag) (N := 4) hx hb hts (fun w h => gm (inT_Bag w h)) hown hK hZ (bb (pi j)) (by have := bb_r hk; omega) hB.1 rfl 3 (by decide) (hts _ (gm k_60)) (fun _ h9 => h9) rfl d_CB_at_19 ?_
    refine lv_icmp_lt (tgt := 35) hx hb d_CB_at_22 (by decide) (fun h22 => ?_) (fun h22 => ?_)
    · skip
      refine lv_iload_n hx hb d_CB_at_35 rfl (lv_at hl 4 rfl) ?_
      have h9 : ¬ (wh = 0 ∨ wh = 1 ∨ wh = 2) := fun z9 => hbad ⟨⟨h13, by rw [← ez]; exact h22⟩, z9⟩
      refine lv_tableOut (tgt := 89) hx hb d_CB_at_36 (i3_out ⟨fun z9 => h9 (Or.inl z9), fun z9 => h9 (Or.inr (Or.inl z9)), fun z9 => h9 (Or.inr (Or.inr z9))⟩) (by decide) ?_
      obtain ⟨sa, hsa⟩ := hAm.2.2.2.2.2.2.2.2.2.2.1
      exact q_thr (sa := sa) hx hb hfl hts hown hno hlocks hAm hZ (by decide +kernel) k_121 k_28 hsa at_I gd_I (hl.1.trans hml.symm) d_CB_at_89 d_CB_at_92 d_CB_at_93 d_CB_at_95 d_CB_at_98 ⟨Nat.le_of_ble_eq_true rfl, Nat.le_of_ble_eq_true rfl, Nat.le_of_ble_eq_true rfl, Nat.le_of_ble_eq_true rfl⟩
    · skip
      obtain ⟨sa, hsa⟩ := hAm.2.2.2.2.2.2.2.2.2.1
      exact q_thr (sa := sa) hx hb hfl hts hown hno hlocks hAm hZ (by decide +kernel) k_121 k_28 hsa at_I gd_I (hl.1.trans hml.symm) d_CB_at_25 d_CB_at_28 d_CB_at_29 d_CB_at_31 d_CB_at_34 ⟨Nat.le_of_ble_eq_true rfl, Nat.le_of_ble_eq_true rfl, Nat.le_of_ble_eq_true rfl, Nat.le_of_ble_eq_true rfl⟩
