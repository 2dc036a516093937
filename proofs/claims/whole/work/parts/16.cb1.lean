/-! the class CoinBag: one BAG -/
set_option maxHeartbeats 4000000 in
set_option maxRecDepth 100000 in
theorem c_JM_min (l : Launch) (x y : Int64)  : Met l y_JM_min ws_JM_min ({ frames := 0, cells := 0, slots := 0, locals := 0 } : Room) (va_Pc [.long x, .long y] (fun _ => True)) (vp_Sl (fun r => r = if y < x then y else x)) 0 0 (fun _ => False) := by
  refine va_MetF (cc := b_JM_min) (maxL := 4) (ret := (some .long)) (by decide +kernel) rfl ?_
  intro p e s m args below meth c s₁ B hml hv
  obtain ⟨rfl, -⟩ := hv
  have hx := B.exec
  have hb := B.bytes
  have hr := B.returns
  have hts := atoms_spec (ws := ws_JM_min) B.pre
  have hown : s.vm.findClass "java/lang/Math" = some m.cls := findClass_of_methodNamed B.named
  have hlocks := B.notSynchronized
  have hl := lv_entry ([.long x, .long y]) (n := 4) (Nat.le_of_ble_eq_true rfl)
  rw [lg_entry_eq]
  generalize (lg_sl ([.long x, .long y]) ++ List.replicate (4 - (lg_sl ([.long x, .long y])).length) Slot.unset).toArray = ls at hl ⊢
  have hl : lv_has ls 4 [(0, .long x), (2, .long y)] := hl
  refine lv_lload_n hx hb d_JM_min_0 rfl (lv_at hl 0 rfl) ?_
  refine lv_lload_n hx hb d_JM_min_1 rfl (lv_at hl 1 rfl) ?_
  refine W.lcmp hx hb d_JM_min_2 ?_
  refine lv_if_gt (tgt := 10) hx hb d_JM_min_3 (by decide) (fun h3 => ?_) (fun h3 => ?_)
  · skip
    rw [lg_cmp_gt] at h3
    refine lv_lload_n hx hb d_JM_min_10 rfl (lv_at hl 1 rfl) ?_
    exact W.lret hx hb hr (fun t ht hW => ⟨_, rfl, (by first | (rw [if_pos h3]) | (rw [if_neg h3])), ht⟩) (fun q h => nomatch h) d_JM_min_11
  · skip
    rw [lg_cmp_gt] at h3
    refine lv_lload_n hx hb d_JM_min_6 rfl (lv_at hl 0 rfl) ?_
    refine lv_goto (tgt := 11) hx hb d_JM_min_7 (by decide) ?_
    exact W.lret hx hb hr (fun t ht hW => ⟨_, rfl, (by first | (rw [if_pos h3]) | (rw [if_neg h3])), ht⟩) (fun q h => nomatch h) d_JM_min_11
set_option maxHeartbeats 4000000 in
set_option maxRecDepth 100000 in
theorem c_JM_max (l : Launch) (x y : Int64)  : Met l y_JM_max ws_JM_max ({ frames := 0, cells := 0, slots := 0, locals := 0 } : Room) (va_Pc [.long x, .long y] (fun _ => True)) (vp_Sl (fun r => r = if x < y then y else x)) 0 0 (fun _ => False) := by
  refine va_MetF (cc := b_JM_max) (maxL := 4) (ret := (some .long)) (by decide +kernel) rfl ?_
  intro p e s m args below meth c s₁ B hml hv
  obtain ⟨rfl, -⟩ := hv
  have hx := B.exec
  have hb := B.bytes
  have hr := B.returns
  have hts := atoms_spec (ws := ws_JM_max) B.pre
  have hown : s.vm.findClass "java/lang/Math" = some m.cls := findClass_of_methodNamed B.named
  have hlocks := B.notSynchronized
  have hl := lv_entry ([.long x, .long y]) (n := 4) (Nat.le_of_ble_eq_true rfl)
  rw [lg_entry_eq]
  generalize (lg_sl ([.long x, .long y]) ++ List.replicate (4 - (lg_sl ([.long x, .long y])).length) Slot.unset).toArray = ls at hl ⊢
  have hl : lv_has ls 4 [(0, .long x), (2, .long y)] := hl
  refine lv_lload_n hx hb d_JM_max_0 rfl (lv_at hl 0 rfl) ?_
  refine lv_lload_n hx hb d_JM_max_1 rfl (lv_at hl 1 rfl) ?_
  refine W.lcmp hx hb d_JM_max_2 ?_
  refine lv_if_lt (tgt := 10) hx hb d_JM_max_3 (by decide) (fun h3 => ?_) (fun h3 => ?_)
  · skip
    rw [lg_cmp_lt] at h3
    refine lv_lload_n hx hb d_JM_max_10 rfl (lv_at hl 1 rfl) ?_
    exact W.lret hx hb hr (fun t ht hW => ⟨_, rfl, (by first | (rw [if_pos h3]) | (rw [if_neg h3])), ht⟩) (fun q h => nomatch h) d_JM_max_11
  · skip
    rw [lg_cmp_lt] at h3
    refine lv_lload_n hx hb d_JM_max_6 rfl (lv_at hl 0 rfl) ?_
    refine lv_goto (tgt := 11) hx hb d_JM_max_7 (by decide) ?_
    exact W.lret hx hb hr (fun t ht hW => ⟨_, rfl, (by first | (rw [if_pos h3]) | (rw [if_neg h3])), ht⟩) (fun q h => nomatch h) d_JM_max_11
set_option maxHeartbeats 4000000 in
set_option maxRecDepth 100000 in
theorem c_CB_requireBag (l : Launch) (j : Nat) (hj : j < 8) : Met l y_CB_requireBag ws_CB_requireBag ({ frames := 0, cells := 0, slots := 0, locals := 0 } : Room) (va_Pc [.int (nI j)] (fun _ => True)) qSv 0 0 (fun _ => False) := by
  refine Met.ofW (cc := b_CB_requireBag) (maxL := 1) (ret := none) (by decide) rfl ?_
  intro p e s m args below meth c s₁ B hml hv
  obtain ⟨rfl, -⟩ := hv
  have hx := B.exec
  have hb := B.bytes
  have hr := B.returns
  have hts := atoms_spec (ws := ws_CB_requireBag) B.pre
  have hown : s.vm.findClass "CoinBag" = some m.cls := findClass_of_methodNamed B.named
  have hlocks := B.notSynchronized
  have hl := lv_entry ([.int (nI j)]) (n := 1) (Nat.le_of_ble_eq_true rfl)
  rw [lg_entry_eq]
  generalize (lg_sl ([.int (nI j)]) ++ List.replicate (1 - (lg_sl ([.int (nI j)])).length) Slot.unset).toArray = ls at hl ⊢
  have hl : lv_has ls 1 [(0, .int (nI j))] := hl
  refine lv_iload_n hx hb d_CB_requireBag_0 rfl (lv_at hl 0 rfl) ?_
  refine lv_if_lt (tgt := 10) hx hb d_CB_requireBag_1 (by decide) (fun h1 => ?_) (fun h1 => ?_)
  · skip
    have h1 : j < 0 := (nI_ltI (a := j) (b := 0) (by omega) (by omega)).mp h1
    exact absurd h1 (by omega)
  · skip
    have h1 : 0 ≤ j := Nat.le_of_not_lt (fun z9 => h1 ((nI_ltI (a := j) (b := 0) (by omega) (by omega)).mpr z9))
    refine lv_iload_n hx hb d_CB_requireBag_4 rfl (lv_at hl 0 rfl) ?_
    refine lv_bipush (v := (nI 8)) hx hb d_CB_requireBag_5 rfl ?_
    refine lv_icmp_lt (tgt := 20) hx hb d_CB_requireBag_7 (by decide) (fun h7 => ?_) (fun h7 => ?_)
    · skip
      have h7 : j < 8 := (nI_ltI (a := j) (b := 8) (by omega) (by omega)).mp h7
      exact W.vret hx hb hr (fun t ht hW => ⟨rfl, ht⟩) (fun q h => nomatch h) d_CB_requireBag_20
    · skip
      have h7 : 8 ≤ j := Nat.le_of_not_lt (fun z9 => h7 ((nI_ltI (a := j) (b := 8) (by omega) (by omega)).mpr z9))
      exact absurd h7 (by omega)
set_option maxHeartbeats 4000000 in
set_option maxRecDepth 100000 in
theorem c_CB_requirePolicy (l : Launch) (q : Int32) (hq : ¬ q < 0 ∧ ¬ 65536 ≤ q) : Met l y_CB_requirePolicy ws_CB_requirePolicy ({ frames := 0, cells := 0, slots := 0, locals := 0 } : Room) (va_Pc [.int q] (fun _ => True)) qSv 0 0 (fun _ => False) := by
  refine Met.ofW (cc := b_CB_requirePolicy) (maxL := 1) (ret := none) (by decide) rfl ?_
  intro p e s m args below meth c s₁ B hml hv
  obtain ⟨rfl, -⟩ := hv
  have hx := B.exec
  have hb := B.bytes
  have hr := B.returns
  have hts := atoms_spec (ws := ws_CB_requirePolicy) B.pre
  have hown : s.vm.findClass "CoinBag" = some m.cls := findClass_of_methodNamed B.named
  have hlocks := B.notSynchronized
  have hl := lv_entry ([.int q]) (n := 1) (Nat.le_of_ble_eq_true rfl)
  rw [lg_entry_eq]
  generalize (lg_sl ([.int q]) ++ List.replicate (1 - (lg_sl ([.int q])).length) Slot.unset).toArray = ls at hl ⊢
  have hl : lv_has ls 1 [(0, .int q)] := hl
  refine lv_iload_n hx hb d_CB_requirePolicy_0 rfl (lv_at hl 0 rfl) ?_
  refine lv_if_lt (tgt := 10) hx hb d_CB_requirePolicy_1 (by decide) (fun h1 => ?_) (fun h1 => ?_)
  · skip
    exact absurd h1 hq.1
  · skip
    refine lv_iload_n hx hb d_CB_requirePolicy_4 rfl (lv_at hl 0 rfl) ?_
    refine lv_ldc (v := 65536) hx hb hown (hts _ (gm k_191)) d_CB_requirePolicy_5 ?_
    refine lv_icmp_lt (tgt := 20) hx hb d_CB_requirePolicy_7 (by decide) (fun h7 => ?_) (fun h7 => ?_)
    · skip
      exact W.vret hx hb hr (fun t ht hW => ⟨rfl, ht⟩) (fun q h => nomatch h) d_CB_requirePolicy_20
    · skip
      exact absurd (Int32.not_lt.mp h7) hq.2
set_option maxHeartbeats 4000000 in
set_option maxRecDepth 100000 in
theorem c_CB_fits (l : Launch) (hw : Nat) (x y : Int64) (hh : hw ≤ 2) : Met l y_CB_fits ws_CB_fits ({ frames := 1, cells := 0, slots := 0, locals := 23 } : Room) (va_Pc [.int (nI hw), .long x, .long y] (fun _ => True)) (vp_Si (fun r => (fH hw x y ∧ r = 1) ∨ (¬ fH hw x y ∧ r = 0))) 0 0 (fun _ => False) := by
  refine Met.ofW (cc := b_CB_fits) (maxL := 5) (ret := (some .boolean)) (by decide) rfl ?_
  intro p e s m args below meth c s₁ B hml hv
  obtain ⟨rfl, -⟩ := hv
  have hx := B.exec
  have hb := B.bytes
  have hr := B.returns
  have hts := atoms_spec (ws := ws_CB_fits) B.pre
  have hown : s.vm.findClass "CoinBag" = some m.cls := findClass_of_methodNamed B.named
  have hlocks := B.notSynchronized
  have hl := lv_entry ([.int (nI hw), .long x, .long y]) (n := 5) (Nat.le_of_ble_eq_true rfl)
  rw [lg_entry_eq]
  generalize (lg_sl ([.int (nI hw), .long x, .long y]) ++ List.replicate (5 - (lg_sl ([.int (nI hw), .long x, .long y])).length) Slot.unset).toArray = ls at hl ⊢
  have hl : lv_has ls 5 [(0, .int (nI hw)), (1, .long x), (3, .long y)] := hl
  refine lv_iload_n hx hb d_CB_fits_0 rfl (lv_at hl 0 rfl) ?_
  have h3 : hw = 0 ∨ hw = 1 ∨ hw = 2 := by omega
  rcases h3 with rfl | rfl | rfl
  · skip
    refine lv_lookup (off := 27) (tgt := 28) hx hb d_CB_fits_1 (by decide +kernel) (by decide +kernel) (by decide) ?_
    refine lv_lload_n hx hb d_CB_fits_28 rfl (lv_at hl 1 rfl) ?_
    refine lv_lload_n hx hb d_CB_fits_29 rfl (lv_at hl 2 rfl) ?_
    refine q_callSi (va_runS (As := [.long x, .long y]) (rest := []) ⟨hx, hb, hml, hown, hts⟩ (c_CB_sumFits l _ _) (va_cwS 2 hts (gI_S k_257 k_255 k_256 k_21) rfl rfl rfl (by decide +kernel) ⟨Nat.le_of_ble_eq_true rfl, Nat.le_of_ble_eq_true rfl⟩) ⟨fun _ _ _ _ q => q, fun _ _ _ => ⟨rfl, trivial⟩⟩ rfl rfl hl.1 rfl (lv_room (Nat.le_of_ble_eq_true rfl)) d_CB_fits_30 ⟨Nat.zero_le _, Nat.zero_le _⟩) (fun r h_r => ?_)
    exact W.zret hx hb hr (by rcases h_r with ⟨_, e9⟩ | ⟨_, e9⟩ <;> rw [e9] <;> rfl) (fun t ht hW => ⟨_, rfl, h_r, ht⟩) (fun q h => nomatch h) d_CB_fits_33
  · skip
    refine lv_lookup (off := 33) (tgt := 34) hx hb d_CB_fits_1 (by decide +kernel) (by decide +kernel) (by decide) ?_
    refine lv_lload_n hx hb d_CB_fits_34 rfl (lv_at hl 1 rfl) ?_
    refine lv_lload_n hx hb d_CB_fits_35 rfl (lv_at hl 2 rfl) ?_
    refine q_callSi (va_runS (As := [.long x, .long y]) (rest := []) ⟨hx, hb, hml, hown, hts⟩ (c_CB_differenceFits l _ _) (va_cwS 2 hts (gI_S k_288 k_286 k_287 k_21) rfl rfl rfl (by decide +kernel) ⟨Nat.le_of_ble_eq_true rfl, Nat.le_of_ble_eq_true rfl⟩) ⟨fun _ _ _ _ q => q, fun _ _ _ => ⟨rfl, trivial⟩⟩ rfl rfl hl.1 rfl (lv_room (Nat.le_of_ble_eq_true rfl)) d_CB_fits_36 ⟨Nat.zero_le _, Nat.zero_le _⟩) (fun r h_r => ?_)
    exact W.zret hx hb hr (by rcases h_r with ⟨_, e9⟩ | ⟨_, e9⟩ <;> rw [e9] <;> rfl) (fun t ht hW => ⟨_, rfl, h_r, ht⟩) (fun q h => nomatch h) d_CB_fits_39
  · skip
    refine lv_lookup (off := 39) (tgt := 40) hx hb d_CB_fits_1 (by decide +kernel) (by decide +kernel) (by decide) ?_
    refine lv_iconst (v := (nI 1)) hx hb d_CB_fits_40 rfl ?_
    exact W.zret hx hb hr rfl (fun t ht hW => ⟨_, rfl, Or.inl ⟨fH_2 2 (by decide) (by decide) x y, rfl⟩, ht⟩) (fun q h => nomatch h) d_CB_fits_41
set_option maxHeartbeats 4000000 in
set_option maxRecDepth 100000 in
theorem c_CB_combined (l : Launch) (hw : Nat) (x y : Int64) (hh : hw ≤ 2) : Met l y_CB_combined ws_CB_combined ({ frames := 1, cells := 0, slots := 0, locals := 23 } : Room) (va_Pc [.int (nI hw), .long x, .long y] (fun _ => True)) (vp_Sl (fun r => r = cH hw x y)) 0 0 (fun _ => False) := by
  refine Met.ofW (cc := b_CB_combined) (maxL := 5) (ret := (some .long)) (by decide) rfl ?_
  intro p e s m args below meth c s₁ B hml hv
  obtain ⟨rfl, -⟩ := hv
  have hx := B.exec
  have hb := B.bytes
  have hr := B.returns
  have hts := atoms_spec (ws := ws_CB_combined) B.pre
  have hown : s.vm.findClass "CoinBag" = some m.cls := findClass_of_methodNamed B.named
  have hlocks := B.notSynchronized
  have hl := lv_entry ([.int (nI hw), .long x, .long y]) (n := 5) (Nat.le_of_ble_eq_true rfl)
  rw [lg_entry_eq]
  generalize (lg_sl ([.int (nI hw), .long x, .long y]) ++ List.replicate (5 - (lg_sl ([.int (nI hw), .long x, .long y])).length) Slot.unset).toArray = ls at hl ⊢
  have hl : lv_has ls 5 [(0, .int (nI hw)), (1, .long x), (3, .long y)] := hl
  refine lv_iload_n hx hb d_CB_combined_0 rfl (lv_at hl 0 rfl) ?_
  have h3 : hw = 0 ∨ hw = 1 ∨ hw = 2 := by omega
  rcases h3 with rfl | rfl | rfl
  · skip
    refine lv_lookup (off := 27) (tgt := 28) hx hb d_CB_combined_1 (by decide +kernel) (by decide +kernel) (by decide) ?_
    refine lv_lload_n hx hb d_CB_combined_28 rfl (lv_at hl 1 rfl) ?_
    refine lv_lload_n hx hb d_CB_combined_29 rfl (lv_at hl 2 rfl) ?_
    refine lv_ladd hx hb d_CB_combined_30 ?_
    exact W.lret hx hb hr (fun t ht hW => ⟨_, rfl, (by simp [cH]), ht⟩) (fun q h => nomatch h) d_CB_combined_31
  · skip
    refine lv_lookup (off := 31) (tgt := 32) hx hb d_CB_combined_1 (by decide +kernel) (by decide +kernel) (by decide) ?_
    refine lv_lload_n hx hb d_CB_combined_32 rfl (lv_at hl 1 rfl) ?_
    refine lv_lload_n hx hb d_CB_combined_33 rfl (lv_at hl 2 rfl) ?_
    refine lv_lsub hx hb d_CB_combined_34 ?_
    exact W.lret hx hb hr (fun t ht hW => ⟨_, rfl, (by simp [cH]), ht⟩) (fun q h => nomatch h) d_CB_combined_35
  · skip
    refine lv_lookup (off := 35) (tgt := 36) hx hb d_CB_combined_1 (by decide +kernel) (by decide +kernel) (by decide) ?_
    refine lv_lload_n hx hb d_CB_combined_36 rfl (lv_at hl 1 rfl) ?_
    refine lv_lload_n hx hb d_CB_combined_37 rfl (lv_at hl 2 rfl) ?_
    refine q_callSl (va_runS (As := [.long x, .long y]) (rest := []) ⟨hx, hb, hml, hown, hts⟩ (c_JM_min l _ _) (va_cwS 2 hts (gI_S k_294 k_292 k_293 k_33) rfl rfl rfl (by decide +kernel) ⟨Nat.le_of_ble_eq_true rfl, Nat.le_of_ble_eq_true rfl⟩) ⟨fun _ _ _ _ q => q, fun _ _ _ => ⟨rfl, trivial⟩⟩ rfl rfl hl.1 rfl (lv_room (Nat.le_of_ble_eq_true rfl)) d_CB_combined_38 ⟨Nat.zero_le _, Nat.zero_le _⟩) (fun r h_r => ?_)
    exact W.lret hx hb hr (fun t ht hW => ⟨_, rfl, (by rw [h_r]; simp [cH]), ht⟩) (fun q h => nomatch h) d_CB_combined_41
set_option maxHeartbeats 4000000 in
set_option maxRecDepth 100000 in
theorem c_CB_set (l : Launch) (dC : Nat → ClassId) (dI : Nat → Nat → Nat) (cI cL cB : ClassId) (ad : Nat → Nat) (N0 : Nat) (w : Nat → va_E) (F : Nat → Int → Int64) (j : Nat) (q : Int32) (x v : Int64) (hC : sC ad cI cL cB w F) (hj : j < 8) (hq : ¬ q < 0 ∧ ¬ 65536 ≤ q) : Met l y_CB_set ws_CB_set ({ frames := 5, cells := 0, slots := 0, locals := 122 } : Room) (va_Pc [.ref (ad 0), .int (nI j), .int q, .long x, .long v] (sPr (dC, dI) vCl [(cI, .int), (cL, .long), (cB, .object "CoinBag$Bag")] 52 ad N0 w)) (va_Qi (fun r u => ((eC (fUp (F j) (kv q x) v) ∧ r = 1 ∧ sC ad cI cL cB u (va_up F j (fUp (F j) (kv q x) v))) ∨ (¬ eC (fUp (F j) (kv q x) v) ∧ r = 0 ∧ sC ad cI cL cB u F)) ∧ ∀ y, 43 ≤ y → u y = w y) (sPr (dC, dI) vCl [(cI, .int), (cL, .long), (cB, .object "CoinBag$Bag")] 52 ad N0) (fun q => N0 ≤ q)) 0 0 (fun q => N0 ≤ q) := by
  refine Met.ofW (cc := b_CB_set) (maxL := 7) (ret := (some .boolean)) (by decide) rfl ?_
  intro p e s m args below meth c s₁ B hml hv
  obtain ⟨rfl, hP, hK, hD, hN, hAm⟩ := hv
  have hx := B.exec
  have hb := B.bytes
  have hr := B.returns
  have hts := atoms_spec (ws := ws_CB_set) B.pre
  have hown : s.vm.findClass "CoinBag" = some m.cls := findClass_of_methodNamed B.named
  have hlocks := B.notSynchronized
  have hZ : sZ (dC, dI) vCl 52 ad (fun q => N0 ≤ q) s.heap w s.heap [] := ⟨hP, hD, va_S.rf⟩
  have hl := lv_entry ([.ref (ad 0), .int (nI j), .int q, .long x, .long v]) (n := 7) (Nat.le_of_ble_eq_true rfl)
  rw [lg_entry_eq]
  generalize (lg_sl ([.ref (ad 0), .int (nI j), .int q, .long x, .long v]) ++ List.replicate (7 - (lg_sl ([.ref (ad 0), .int (nI j), .int q, .long x, .long v])).length) Slot.unset).toArray = ls at hl ⊢
  have hl : lv_has ls 7 [(0, .ref (ad 0)), (1, .int (nI j)), (2, .int q), (3, .long x), (5, .long v)] := hl
  obtain ⟨f, pi, sp, hX⟩ := hC
  have hX : sCx ad cI cL cB w F f pi sp := hX
  obtain ⟨h0, h1, hf, hpi, hinj, hsp, hbg, hspb, hprs⟩ := id hX
  obtain ⟨z, P, N, A, hB, hR⟩ := hbg j hj
  have hk := (hpi j hj).1
  have hz : z ≤ 64 := hB.2.2.2.2
  refine lv_iload_n hx hb d_CB_set_0 rfl (lv_at hl 1 rfl) ?_
  refine q_callSv (va_runS (As := [.int (nI j)]) (rest := []) ⟨hx, hb, hml, hown, hts⟩ (c_CB_requireBag l j hj) (va_cwS 1 hts (gI_S k_120 k_118 k_119 k_21) rfl rfl rfl (by decide +kernel) ⟨Nat.le_of_ble_eq_true rfl, Nat.le_of_ble_eq_true rfl⟩) ⟨fun _ _ _ _ q => q, fun _ _ _ => ⟨rfl, trivial⟩⟩ rfl rfl hl.1 rfl (lv_room (Nat.le_of_ble_eq_true rfl)) d_CB_set_1 ⟨Nat.zero_le _, Nat.zero_le _⟩) ?_
  refine lv_iload_n hx hb d_CB_set_4 rfl (lv_at hl 2 rfl) ?_
  refine q_callSv (va_runS (As := [.int q]) (rest := []) ⟨hx, hb, hml, hown, hts⟩ (c_CB_requirePolicy l q hq) (va_cwS 1 hts (gI_S k_190 k_188 k_189 k_21) rfl rfl rfl (by decide +kernel) ⟨Nat.le_of_ble_eq_true rfl, Nat.le_of_ble_eq_true rfl⟩) ⟨fun _ _ _ _ q => q, fun _ _ _ => ⟨rfl, trivial⟩⟩ rfl rfl hl.1 rfl (lv_room (Nat.le_of_ble_eq_true rfl)) d_CB_set_5 ⟨Nat.zero_le _, Nat.zero_le _⟩) ?_
  refine lv_aload_n hx hb d_CB_set_8 rfl (lv_at hl 0 rfl) ?_
  refine q_get (C := R_CB) (T := T_CB) (N := 3) hx hb hts (fun w h => gm (inT_CB w h)) hown hK hZ (0) (by decide) h0 rfl 0 (by decide) (hts _ (gm k_99)) (fun _ h9 => h9) rfl d_CB_set_9 ?_
  refine lv_iload_n hx hb d_CB_set_12 rfl (lv_at hl 1 rfl) ?_
  refine q_aald hx hb hK hZ (1) 2 (j) (by decide) h1 rfl rfl hj (by decide) (hf j hj) d_CB_set_13 ?_
  refine lv_iload_n hx hb d_CB_set_14 rfl (lv_at hl 2 rfl) ?_
  refine lv_lload_n hx hb d_CB_set_15 rfl (lv_at hl 3 rfl) ?_
  refine lv_lload hx hb d_CB_set_16 (lv_at hl 4 rfl) ?_
  refine q_calli (va_runV (As := [.int q, .long x, .long v]) (rest := []) ⟨hx, hb, hml, hown, hts⟩ (c_Bag_store l dC dI cI cL cB ad N0 w (pi j) z P N A q x v (F j) hk hB hR) (cwV 3 hts (gI_V k_211 k_208 k_209 k_210 k_22) rfl rfl rfl (by decide +kernel) ⟨Nat.le_of_ble_eq_true rfl, Nat.le_of_ble_eq_true rfl⟩) (q_preV hK hAm hZ hN [.int q, .long x, .long v] (bb (pi j)) 0 (by have := bb_r hk; omega) hB.1 rfl) rfl rfl hl.1 rfl (lv_room (Nat.le_of_ble_eq_true rfl)) d_CB_set_18 ⟨Nat.zero_le _, Nat.zero_le _⟩) hZ (fun r u_r H locs h_r hZ => ?_)
  exact q_zret hx hb hr (show narrow .boolean (.int r) = .int r from by rcases h_r with ⟨_, e9, _⟩ | ⟨_, e9, _⟩ <;> rw [e9] <;> rfl) hlocks hK hAm hZ hN (h_r.elim (fun ⟨a1, a2, ⟨z2, P2, N2, A2, a3, a4⟩, a5⟩ => ⟨Or.inl ⟨a1, a2, sC_bag hX hj a5 a3 a4⟩, fun y hy => a5 y (by have := bb_r (hpi j hj).1; omega)⟩) (fun ⟨a1, a2, a3⟩ => ⟨Or.inr ⟨a1, a2, by rw [a3]; exact sC_of hX⟩, fun y _ => by rw [a3]⟩)) d_CB_set_21
set_option maxHeartbeats 4000000 in
set_option maxRecDepth 100000 in
theorem c_CB_put (l : Launch) (dC : Nat → ClassId) (dI : Nat → Nat → Nat) (cI cL cB : ClassId) (ad : Nat → Nat) (N0 : Nat) (w : Nat → va_E) (F : Nat → Int → Int64) (j : Nat) (q : Int32) (x v : Int64) (hC : sC ad cI cL cB w F) (hj : j < 8) (hq : ¬ q < 0 ∧ ¬ 65536 ≤ q) : Met l y_CB_put ws_CB_put ({ frames := 5, cells := 0, slots := 0, locals := 122 } : Room) (va_Pc [.ref (ad 0), .int (nI j), .int q, .long x, .long v] (sPr (dC, dI) vCl [(cI, .int), (cL, .long), (cB, .object "CoinBag$Bag")] 52 ad N0 w)) (va_Qi (fun r u => (((fH 0 (F j (kv q x)) v ∧ eC (fUp (F j) (kv q x) (F j (kv q x) + v))) ∧ r = 1 ∧ sC ad cI cL cB u (va_up F j (fUp (F j) (kv q x) (F j (kv q x) + v)))) ∨ (¬ (fH 0 (F j (kv q x)) v ∧ eC (fUp (F j) (kv q x) (F j (kv q x) + v))) ∧ r = 0 ∧ sC ad cI cL cB u F)) ∧ ∀ y, 43 ≤ y → u y = w y) (sPr (dC, dI) vCl [(cI, .int), (cL, .long), (cB, .object "CoinBag$Bag")] 52 ad N0) (fun q => N0 ≤ q)) 0 0 (fun q => N0 ≤ q) := by
  refine Met.ofW (cc := b_CB_put) (maxL := 9) (ret := (some .boolean)) (by decide) rfl ?_
  intro p e s m args below meth c s₁ B hml hv
  obtain ⟨rfl, hP, hK, hD, hN, hAm⟩ := hv
  have hx := B.exec
  have hb := B.bytes
  have hr := B.returns
  have hts := atoms_spec (ws := ws_CB_put) B.pre
  have hown : s.vm.findClass "CoinBag" = some m.cls := findClass_of_methodNamed B.named
  have hlocks := B.notSynchronized
  have hZ : sZ (dC, dI) vCl 52 ad (fun q => N0 ≤ q) s.heap w s.heap [] := ⟨hP, hD, va_S.rf⟩
  have hl := lv_entry ([.ref (ad 0), .int (nI j), .int q, .long x, .long v]) (n := 9) (Nat.le_of_ble_eq_true rfl)
  rw [lg_entry_eq]
  generalize (lg_sl ([.ref (ad 0), .int (nI j), .int q, .long x, .long v]) ++ List.replicate (9 - (lg_sl ([.ref (ad 0), .int (nI j), .int q, .long x, .long v])).length) Slot.unset).toArray = ls at hl ⊢
  have hl : lv_has ls 9 [(0, .ref (ad 0)), (1, .int (nI j)), (2, .int q), (3, .long x), (5, .long v)] := hl
  obtain ⟨f, pi, sp, hX⟩ := hC
  have hX : sCx ad cI cL cB w F f pi sp := hX
  obtain ⟨h0, h1, hf, hpi, hinj, hsp, hbg, hspb, hprs⟩ := id hX
  obtain ⟨z, P, N, A, hB, hR⟩ := hbg j hj
  have hk := (hpi j hj).1
  have hz : z ≤ 64 := hB.2.2.2.2
  refine lv_iload_n hx hb d_CB_put_0 rfl (lv_at hl 1 rfl) ?_
  refine q_callSv (va_runS (As := [.int (nI j)]) (rest := []) ⟨hx, hb, hml, hown, hts⟩ (c_CB_requireBag l j hj) (va_cwS 1 hts (gI_S k_120 k_118 k_119 k_21) rfl rfl rfl (by decide +kernel) ⟨Nat.le_of_ble_eq_true rfl, Nat.le_of_ble_eq_true rfl⟩) ⟨fun _ _ _ _ q => q, fun _ _ _ => ⟨rfl, trivial⟩⟩ rfl rfl hl.1 rfl (lv_room (Nat.le_of_ble_eq_true rfl)) d_CB_put_1 ⟨Nat.zero_le _, Nat.zero_le _⟩) ?_
  refine lv_iload_n hx hb d_CB_put_4 rfl (lv_at hl 2 rfl) ?_
  refine q_callSv (va_runS (As := [.int q]) (rest := []) ⟨hx, hb, hml, hown, hts⟩ (c_CB_requirePolicy l q hq) (va_cwS 1 hts (gI_S k_190 k_188 k_189 k_21) rfl rfl rfl (by decide +kernel) ⟨Nat.le_of_ble_eq_true rfl, Nat.le_of_ble_eq_true rfl⟩) ⟨fun _ _ _ _ q => q, fun _ _ _ => ⟨rfl, trivial⟩⟩ rfl rfl hl.1 rfl (lv_room (Nat.le_of_ble_eq_true rfl)) d_CB_put_5 ⟨Nat.zero_le _, Nat.zero_le _⟩) ?_
  refine lv_aload_n hx hb d_CB_put_8 rfl (lv_at hl 0 rfl) ?_
  refine q_get (C := R_CB) (T := T_CB) (N := 3) hx hb hts (fun w h => gm (inT_CB w h)) hown hK hZ (0) (by decide) h0 rfl 0 (by decide) (hts _ (gm k_99)) (fun _ h9 => h9) rfl d_CB_put_9 ?_
  refine lv_iload_n hx hb d_CB_put_12 rfl (lv_at hl 1 rfl) ?_
  refine q_aald hx hb hK hZ (1) 2 (j) (by decide) h1 rfl rfl hj (by decide) (hf j hj) d_CB_put_13 ?_
  refine lv_iload_n hx hb d_CB_put_14 rfl (lv_at hl 2 rfl) ?_
  refine lv_lload_n hx hb d_CB_put_15 rfl (lv_at hl 3 rfl) ?_
  refine q_calll (va_runV (As := [.int q, .long x]) (rest := []) ⟨hx, hb, hml, hown, hts⟩ (c_Bag_amountOf l dC dI cI cL cB ad N0 w (pi j) z P N A q x (F j) hk hB hR) (cwV 2 hts (gI_V k_254 k_251 k_252 k_253 k_22) rfl rfl rfl (by decide +kernel) ⟨Nat.le_of_ble_eq_true rfl, Nat.le_of_ble_eq_true rfl⟩) (q_preV hK hAm hZ hN [.int q, .long x] (bb (pi j)) 0 (by have := bb_r hk; omega) hB.1 rfl) rfl rfl hl.1 rfl (lv_room (Nat.le_of_ble_eq_true rfl)) d_CB_put_16 ⟨Nat.zero_le _, Nat.zero_le _⟩) hZ (fun t u_t H locs h_t hZ => ?_)
  obtain ⟨e_t, h_t⟩ := h_t
  rw [e_t] at hZ
  subst h_t
  refine lv_lstore (lv' := [(7, .long (F j (kv q x))), (0, .ref (ad 0)), (1, .int (nI j)), (2, .int q), (3, .long x), (5, .long v)]) hx hb d_CB_put_19 hl (by decide) rfl (fun ls hl => ?_)
  refine lv_lload hx hb d_CB_put_21 (lv_at hl 0 rfl) ?_
  refine lv_lload hx hb d_CB_put_23 (lv_at hl 5 rfl) ?_
  refine q_callSi (va_runS (As := [.long (F j (kv q x)), .long v]) (rest := []) ⟨hx, hb, hml, hown, hts⟩ (c_CB_sumFits l _ _) (va_cwS 2 hts (gI_S k_257 k_255 k_256 k_21) rfl rfl rfl (by decide +kernel) ⟨Nat.le_of_ble_eq_true rfl, Nat.le_of_ble_eq_true rfl⟩) ⟨fun _ _ _ _ q => q, fun _ _ _ => ⟨rfl, trivial⟩⟩ rfl rfl hl.1 rfl (lv_room (Nat.le_of_ble_eq_true rfl)) d_CB_put_25 ⟨Nat.zero_le _, Nat.zero_le _⟩) (fun s9 h_s9 => ?_)
  refine lv_if_ne (tgt := 33) hx hb d_CB_put_28 (by decide) (fun h28 => ?_) (fun h28 => ?_)
  · skip
    have h_s1 : fH 0 (F j (kv q x)) v := h_s9.elim (fun y => y.1) (fun y => absurd y.2 h28)
    refine lv_aload_n hx hb d_CB_put_33 rfl (lv_at hl 1 rfl) ?_
    refine q_get (C := R_CB) (T := T_CB) (N := 3) hx hb hts (fun w h => gm (inT_CB w h)) hown hK hZ (0) (by decide) h0 rfl 0 (by decide) (hts _ (gm k_99)) (fun _ h9 => h9) rfl d_CB_put_34 ?_
    refine lv_iload_n hx hb d_CB_put_37 rfl (lv_at hl 2 rfl) ?_
    refine q_aald hx hb hK hZ (1) 2 (j) (by decide) h1 rfl rfl hj (by decide) (hf j hj) d_CB_put_38 ?_
    refine lv_iload_n hx hb d_CB_put_39 rfl (lv_at hl 3 rfl) ?_
    refine lv_lload_n hx hb d_CB_put_40 rfl (lv_at hl 4 rfl) ?_
    refine lv_lload hx hb d_CB_put_41 (lv_at hl 0 rfl) ?_
    refine lv_lload hx hb d_CB_put_43 (lv_at hl 5 rfl) ?_
    refine lv_ladd hx hb d_CB_put_45 ?_
    refine q_calli (va_runV (As := [.int q, .long x, .long ((F j (kv q x)) + v)]) (rest := []) ⟨hx, hb, hml, hown, hts⟩ (c_Bag_store l dC dI cI cL cB ad N0 w (pi j) z P N A q x (F j (kv q x) + v) (F j) hk hB hR) (cwV 3 hts (gI_V k_211 k_208 k_209 k_210 k_22) rfl rfl rfl (by decide +kernel) ⟨Nat.le_of_ble_eq_true rfl, Nat.le_of_ble_eq_true rfl⟩) (q_preV hK hAm hZ hN [.int q, .long x, .long ((F j (kv q x)) + v)] (bb (pi j)) 0 (by have := bb_r hk; omega) hB.1 rfl) rfl rfl hl.1 rfl (lv_room (Nat.le_of_ble_eq_true rfl)) d_CB_put_46 ⟨Nat.zero_le _, Nat.zero_le _⟩) hZ (fun r u_r H locs h_r hZ => ?_)
    exact q_zret hx hb hr (show narrow .boolean (.int r) = .int r from by rcases h_r with ⟨_, e9, _⟩ | ⟨_, e9, _⟩ <;> rw [e9] <;> rfl) hlocks hK hAm hZ hN (h_r.elim (fun ⟨a1, a2, ⟨z2, P2, N2, A2, a3, a4⟩, a5⟩ => ⟨Or.inl ⟨⟨h_s1, a1⟩, a2, sC_bag hX hj a5 a3 a4⟩, fun y hy => a5 y (by have := bb_r (hpi j hj).1; omega)⟩) (fun ⟨a1, a2, a3⟩ => ⟨Or.inr ⟨fun y => a1 y.2, a2, by rw [a3]; exact sC_of hX⟩, fun y _ => by rw [a3]⟩)) d_CB_put_49
  · skip
    have h_s0 : ¬ fH 0 (F j (kv q x)) v := h_s9.elim (fun y => absurd (y.2.symm.trans h28) (by decide)) (fun y => y.1)
    refine lv_iconst (v := (nI 0)) hx hb d_CB_put_31 rfl ?_
    exact q_zret hx hb hr rfl hlocks hK hAm hZ hN (⟨Or.inr ⟨fun y => h_s0 y.1, rfl, sC_of hX⟩, fun y _ => rfl⟩) d_CB_put_32
set_option maxHeartbeats 4000000 in
set_option maxRecDepth 100000 in
theorem c_CB_clear (l : Launch) (dC : Nat → ClassId) (dI : Nat → Nat → Nat) (cI cL cB : ClassId) (ad : Nat → Nat) (N0 : Nat) (w : Nat → va_E) (F : Nat → Int → Int64) (j : Nat) (hC : sC ad cI cL cB w F) (hj : j < 8) : Met l y_CB_clear ws_CB_clear ({ frames := 1, cells := 0, slots := 0, locals := 20 } : Room) (va_Pc [.ref (ad 0), .int (nI j)] (sPr (dC, dI) vCl [(cI, .int), (cL, .long), (cB, .object "CoinBag$Bag")] 52 ad N0 w)) (va_Qv (fun u => sC ad cI cL cB u (va_up F j (fun _ => 0)) ∧ ∀ y, 43 ≤ y → u y = w y) (sPr (dC, dI) vCl [(cI, .int), (cL, .long), (cB, .object "CoinBag$Bag")] 52 ad N0) (fun q => N0 ≤ q)) 0 0 (fun q => N0 ≤ q) := by
  refine Met.ofW (cc := b_CB_clear) (maxL := 2) (ret := none) (by decide) rfl ?_
  intro p e s m args below meth c s₁ B hml hv
  obtain ⟨rfl, hP, hK, hD, hN, hAm⟩ := hv
  have hx := B.exec
  have hb := B.bytes
  have hr := B.returns
  have hts := atoms_spec (ws := ws_CB_clear) B.pre
  have hown : s.vm.findClass "CoinBag" = some m.cls := findClass_of_methodNamed B.named
  have hlocks := B.notSynchronized
  have hZ : sZ (dC, dI) vCl 52 ad (fun q => N0 ≤ q) s.heap w s.heap [] := ⟨hP, hD, va_S.rf⟩
  have hl := lv_entry ([.ref (ad 0), .int (nI j)]) (n := 2) (Nat.le_of_ble_eq_true rfl)
  rw [lg_entry_eq]
  generalize (lg_sl ([.ref (ad 0), .int (nI j)]) ++ List.replicate (2 - (lg_sl ([.ref (ad 0), .int (nI j)])).length) Slot.unset).toArray = ls at hl ⊢
  have hl : lv_has ls 2 [(0, .ref (ad 0)), (1, .int (nI j))] := hl
  obtain ⟨f, pi, sp, hX⟩ := hC
  have hX : sCx ad cI cL cB w F f pi sp := hX
  obtain ⟨h0, h1, hf, hpi, hinj, hsp, hbg, hspb, hprs⟩ := id hX
  obtain ⟨z, P, N, A, hB, hR⟩ := hbg j hj
  have hk := (hpi j hj).1
  have hz : z ≤ 64 := hB.2.2.2.2
  refine lv_iload_n hx hb d_CB_clear_0 rfl (lv_at hl 1 rfl) ?_
  refine q_callSv (va_runS (As := [.int (nI j)]) (rest := []) ⟨hx, hb, hml, hown, hts⟩ (c_CB_requireBag l j hj) (va_cwS 1 hts (gI_S k_120 k_118 k_119 k_21) rfl rfl rfl (by decide +kernel) ⟨Nat.le_of_ble_eq_true rfl, Nat.le_of_ble_eq_true rfl⟩) ⟨fun _ _ _ _ q => q, fun _ _ _ => ⟨rfl, trivial⟩⟩ rfl rfl hl.1 rfl (lv_room (Nat.le_of_ble_eq_true rfl)) d_CB_clear_1 ⟨Nat.zero_le _, Nat.zero_le _⟩) ?_
  refine lv_aload_n hx hb d_CB_clear_4 rfl (lv_at hl 0 rfl) ?_
  refine q_get (C := R_CB) (T := T_CB) (N := 3) hx hb hts (fun w h => gm (inT_CB w h)) hown hK hZ (0) (by decide) h0 rfl 0 (by decide) (hts _ (gm k_99)) (fun _ h9 => h9) rfl d_CB_clear_5 ?_
  refine lv_iload_n hx hb d_CB_clear_8 rfl (lv_at hl 1 rfl) ?_
  refine q_aald hx hb hK hZ (1) 2 (j) (by decide) h1 rfl rfl hj (by decide) (hf j hj) d_CB_clear_9 ?_
  refine q_callv (va_runV (As := []) (rest := []) ⟨hx, hb, hml, hown, hts⟩ (c_Bag_empty l dC dI cI cL cB ad N0 w (pi j) z P N A hk hB) (cwV 0 hts (gI_V k_282 k_279 k_280 k_281 k_22) rfl rfl rfl (by decide +kernel) ⟨Nat.le_of_ble_eq_true rfl, Nat.le_of_ble_eq_true rfl⟩) (q_preV hK hAm hZ hN [] (bb (pi j)) 0 (by have := bb_r hk; omega) hB.1 rfl) rfl rfl hl.1 rfl (lv_room (Nat.le_of_ble_eq_true rfl)) d_CB_clear_10 ⟨Nat.zero_le _, Nat.zero_le _⟩) hZ (fun u_r H locs h_r hZ => ?_)
  exact q_vret hx hb hr hlocks hK hAm hZ hN (⟨sC_bag hX hj h_r.2 h_r.1 (cRep_0 _ _ _), fun y hy => h_r.2 y (by have := bb_r (hpi j hj).1; omega)⟩) d_CB_clear_13
set_option maxHeartbeats 4000000 in
set_option maxRecDepth 100000 in
theorem c_CB_amount (l : Launch) (dC : Nat → ClassId) (dI : Nat → Nat → Nat) (cI cL cB : ClassId) (ad : Nat → Nat) (N0 : Nat) (w : Nat → va_E) (F : Nat → Int → Int64) (j : Nat) (q : Int32) (x : Int64) (hC : sC ad cI cL cB w F) (hj : j < 8) (hq : ¬ q < 0 ∧ ¬ 65536 ≤ q) : Met l y_CB_amount ws_CB_amount ({ frames := 5, cells := 0, slots := 0, locals := 119 } : Room) (va_Pc [.ref (ad 0), .int (nI j), .int q, .long x] (sPr (dC, dI) vCl [(cI, .int), (cL, .long), (cB, .object "CoinBag$Bag")] 52 ad N0 w)) (va_Ql (fun r u => u = w ∧ r = F j (kv q x)) (sPr (dC, dI) vCl [(cI, .int), (cL, .long), (cB, .object "CoinBag$Bag")] 52 ad N0) (fun q => N0 ≤ q)) 0 0 (fun q => N0 ≤ q) := by
  refine Met.ofW (cc := b_CB_amount) (maxL := 5) (ret := (some .long)) (by decide) rfl ?_
  intro p e s m args below meth c s₁ B hml hv
  obtain ⟨rfl, hP, hK, hD, hN, hAm⟩ := hv
  have hx := B.exec
  have hb := B.bytes
  have hr := B.returns
  have hts := atoms_spec (ws := ws_CB_amount) B.pre
  have hown : s.vm.findClass "CoinBag" = some m.cls := findClass_of_methodNamed B.named
  have hlocks := B.notSynchronized
  have hZ : sZ (dC, dI) vCl 52 ad (fun q => N0 ≤ q) s.heap w s.heap [] := ⟨hP, hD, va_S.rf⟩
  have hl := lv_entry ([.ref (ad 0), .int (nI j), .int q, .long x]) (n := 5) (Nat.le_of_ble_eq_true rfl)
  rw [lg_entry_eq]
  generalize (lg_sl ([.ref (ad 0), .int (nI j), .int q, .long x]) ++ List.replicate (5 - (lg_sl ([.ref (ad 0), .int (nI j), .int q, .long x])).length) Slot.unset).toArray = ls at hl ⊢
  have hl : lv_has ls 5 [(0, .ref (ad 0)), (1, .int (nI j)), (2, .int q), (3, .long x)] := hl
  obtain ⟨f, pi, sp, hX⟩ := hC
  have hX : sCx ad cI cL cB w F f pi sp := hX
  obtain ⟨h0, h1, hf, hpi, hinj, hsp, hbg, hspb, hprs⟩ := id hX
  obtain ⟨z, P, N, A, hB, hR⟩ := hbg j hj
  have hk := (hpi j hj).1
  have hz : z ≤ 64 := hB.2.2.2.2
  refine lv_iload_n hx hb d_CB_amount_0 rfl (lv_at hl 1 rfl) ?_
  refine q_callSv (va_runS (As := [.int (nI j)]) (rest := []) ⟨hx, hb, hml, hown, hts⟩ (c_CB_requireBag l j hj) (va_cwS 1 hts (gI_S k_120 k_118 k_119 k_21) rfl rfl rfl (by decide +kernel) ⟨Nat.le_of_ble_eq_true rfl, Nat.le_of_ble_eq_true rfl⟩) ⟨fun _ _ _ _ q => q, fun _ _ _ => ⟨rfl, trivial⟩⟩ rfl rfl hl.1 rfl (lv_room (Nat.le_of_ble_eq_true rfl)) d_CB_amount_1 ⟨Nat.zero_le _, Nat.zero_le _⟩) ?_
  refine lv_iload_n hx hb d_CB_amount_4 rfl (lv_at hl 2 rfl) ?_
  refine q_callSv (va_runS (As := [.int q]) (rest := []) ⟨hx, hb, hml, hown, hts⟩ (c_CB_requirePolicy l q hq) (va_cwS 1 hts (gI_S k_190 k_188 k_189 k_21) rfl rfl rfl (by decide +kernel) ⟨Nat.le_of_ble_eq_true rfl, Nat.le_of_ble_eq_true rfl⟩) ⟨fun _ _ _ _ q => q, fun _ _ _ => ⟨rfl, trivial⟩⟩ rfl rfl hl.1 rfl (lv_room (Nat.le_of_ble_eq_true rfl)) d_CB_amount_5 ⟨Nat.zero_le _, Nat.zero_le _⟩) ?_
  refine lv_aload_n hx hb d_CB_amount_8 rfl (lv_at hl 0 rfl) ?_
  refine q_get (C := R_CB) (T := T_CB) (N := 3) hx hb hts (fun w h => gm (inT_CB w h)) hown hK hZ (0) (by decide) h0 rfl 0 (by decide) (hts _ (gm k_99)) (fun _ h9 => h9) rfl d_CB_amount_9 ?_
  refine lv_iload_n hx hb d_CB_amount_12 rfl (lv_at hl 1 rfl) ?_
  refine q_aald hx hb hK hZ (1) 2 (j) (by decide) h1 rfl rfl hj (by decide) (hf j hj) d_CB_amount_13 ?_
  refine lv_iload_n hx hb d_CB_amount_14 rfl (lv_at hl 2 rfl) ?_
  refine lv_lload_n hx hb d_CB_amount_15 rfl (lv_at hl 3 rfl) ?_
  refine q_calll (va_runV (As := [.int q, .long x]) (rest := []) ⟨hx, hb, hml, hown, hts⟩ (c_Bag_amountOf l dC dI cI cL cB ad N0 w (pi j) z P N A q x (F j) hk hB hR) (cwV 2 hts (gI_V k_254 k_251 k_252 k_253 k_22) rfl rfl rfl (by decide +kernel) ⟨Nat.le_of_ble_eq_true rfl, Nat.le_of_ble_eq_true rfl⟩) (q_preV hK hAm hZ hN [.int q, .long x] (bb (pi j)) 0 (by have := bb_r hk; omega) hB.1 rfl) rfl rfl hl.1 rfl (lv_room (Nat.le_of_ble_eq_true rfl)) d_CB_amount_16 ⟨Nat.zero_le _, Nat.zero_le _⟩) hZ (fun t u_t H locs h_t hZ => ?_)
  obtain ⟨e_t, h_t⟩ := h_t
  rw [e_t] at hZ
  subst h_t
  exact q_lret hx hb hr hlocks hK hAm hZ hN (⟨rfl, rfl⟩) d_CB_amount_19
set_option maxHeartbeats 4000000 in
set_option maxRecDepth 100000 in
theorem c_CB_size (l : Launch) (dC : Nat → ClassId) (dI : Nat → Nat → Nat) (cI cL cB : ClassId) (ad : Nat → Nat) (N0 : Nat) (w : Nat → va_E) (F : Nat → Int → Int64) (j : Nat) (hC : sC ad cI cL cB w F) (hj : j < 8) : Met l y_CB_size ws_CB_size ({ frames := 1, cells := 0, slots := 0, locals := 20 } : Room) (va_Pc [.ref (ad 0), .int (nI j)] (sPr (dC, dI) vCl [(cI, .int), (cL, .long), (cB, .object "CoinBag$Bag")] 52 ad N0 w)) (va_Qi (fun r u => u = w ∧ ∃ (z : Nat) (k : Nat → Int), r = nI z ∧ z ≤ 64 ∧ eS z k ∧ eF z k (F j)) (sPr (dC, dI) vCl [(cI, .int), (cL, .long), (cB, .object "CoinBag$Bag")] 52 ad N0) (fun q => N0 ≤ q)) 0 0 (fun q => N0 ≤ q) := by
  refine Met.ofW (cc := b_CB_size) (maxL := 2) (ret := (some .int)) (by decide) rfl ?_
  intro p e s m args below meth c s₁ B hml hv
  obtain ⟨rfl, hP, hK, hD, hN, hAm⟩ := hv
  have hx := B.exec
  have hb := B.bytes
  have hr := B.returns
  have hts := atoms_spec (ws := ws_CB_size) B.pre
  have hown : s.vm.findClass "CoinBag" = some m.cls := findClass_of_methodNamed B.named
  have hlocks := B.notSynchronized
  have hZ : sZ (dC, dI) vCl 52 ad (fun q => N0 ≤ q) s.heap w s.heap [] := ⟨hP, hD, va_S.rf⟩
  have hl := lv_entry ([.ref (ad 0), .int (nI j)]) (n := 2) (Nat.le_of_ble_eq_true rfl)
  rw [lg_entry_eq]
  generalize (lg_sl ([.ref (ad 0), .int (nI j)]) ++ List.replicate (2 - (lg_sl ([.ref (ad 0), .int (nI j)])).length) Slot.unset).toArray = ls at hl ⊢
  have hl : lv_has ls 2 [(0, .ref (ad 0)), (1, .int (nI j))] := hl
  obtain ⟨f, pi, sp, hX⟩ := hC
  have hX : sCx ad cI cL cB w F f pi sp := hX
  obtain ⟨h0, h1, hf, hpi, hinj, hsp, hbg, hspb, hprs⟩ := id hX
  obtain ⟨z, P, N, A, hB, hR⟩ := hbg j hj
  have hk := (hpi j hj).1
  have hz : z ≤ 64 := hB.2.2.2.2
  refine lv_iload_n hx hb d_CB_size_0 rfl (lv_at hl 1 rfl) ?_
  refine q_callSv (va_runS (As := [.int (nI j)]) (rest := []) ⟨hx, hb, hml, hown, hts⟩ (c_CB_requireBag l j hj) (va_cwS 1 hts (gI_S k_120 k_118 k_119 k_21) rfl rfl rfl (by decide +kernel) ⟨Nat.le_of_ble_eq_true rfl, Nat.le_of_ble_eq_true rfl⟩) ⟨fun _ _ _ _ q => q, fun _ _ _ => ⟨rfl, trivial⟩⟩ rfl rfl hl.1 rfl (lv_room (Nat.le_of_ble_eq_true rfl)) d_CB_size_1 ⟨Nat.zero_le _, Nat.zero_le _⟩) ?_
  refine lv_aload_n hx hb d_CB_size_4 rfl (lv_at hl 0 rfl) ?_
  refine q_get (C := R_CB) (T := T_CB) (N := 3) hx hb hts (fun w h => gm (inT_CB w h)) hown hK hZ (0) (by decide) h0 rfl 0 (by decide) (hts _ (gm k_99)) (fun _ h9 => h9) rfl d_CB_size_5 ?_
  refine lv_iload_n hx hb d_CB_size_8 rfl (lv_at hl 1 rfl) ?_
  refine q_aald hx hb hK hZ (1) 2 (j) (by decide) h1 rfl rfl hj (by decide) (hf j hj) d_CB_size_9 ?_
  refine q_get (C := R_Bag) (T := T_Bag) (N := 4) hx hb hts (fun w h => gm (inT_Bag w h)) hown hK hZ (bb (pi j)) (by have := bb_r hk; omega) hB.1 rfl 3 (by decide) (hts _ (gm k_60)) (fun _ h9 => h9) rfl d_CB_size_10 ?_
  exact q_iret hx hb hr hlocks hK hAm hZ hN (⟨rfl, z, _, rfl, hz, hR.2.1, hR.2.2.1⟩) d_CB_size_13
