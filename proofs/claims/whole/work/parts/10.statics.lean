/-! methods that touch no cell -/
theorem few_neg {y : Int64} (h0 : ¬ y = 0) (hy : ¬ 0 < y) : y < 0 := (lg_tri y 0).resolve_right (fun z => z.elim h0 hy)
theorem few_nb {x y : Int64} (h0 : ¬ y = 0) (h1 : ¬ (x = -9223372036854775808 ∧ y = -1)) (hy : ¬ 0 < y) : ¬ iB x y := fun z => z.elim (fun z => lg_lt_not_le (few_neg h0 hy) z.2) h1
theorem fd_xx {x y : Int64} (hx : x < 0) (hy : 0 < y) : x ^^^ y < 0 := z_lt0.mpr ((z_xor x y).mpr (fun z => by have a := z_lt0.mp hx; have b := z_0lt.mp hy; have := z.mp a; omega))
theorem fd_xn {x y : Int64} (hy : 0 < y) (h : x ^^^ y < 0) : x < 0 := z_lt0.mpr (Classical.byContradiction fun a => (z_xor x y).mp (z_lt0.mp h) (by have b := z_0lt.mp hy; constructor <;> intro <;> omega))
set_option maxHeartbeats 4000000 in
set_option maxRecDepth 100000 in
theorem c_CB_sumFits (l : Launch) (x y : Int64)  : Met l y_CB_sumFits ws_CB_sumFits ({ frames := 0, cells := 0, slots := 0, locals := 0 } : Room) (va_Pc [.long x, .long y] (fun _ => True)) (vp_Si (fun r => (fH 0 x y ∧ r = 1) ∨ (¬ fH 0 x y ∧ r = 0))) 0 0 (fun _ => False) := by
  refine Met.ofW (cc := b_CB_sumFits) (maxL := 4) (ret := (some .boolean)) (by decide) rfl ?_
  intro p e s m args below meth c s₁ B hml hv
  obtain ⟨rfl, -⟩ := hv
  have hx := B.exec
  have hb := B.bytes
  have hr := B.returns
  have hts := atoms_spec (ws := ws_CB_sumFits) B.pre
  have hown : s.vm.findClass "CoinBag" = some m.cls := findClass_of_methodNamed B.named
  have hlocks := B.notSynchronized
  have hl := lv_entry ([.long x, .long y]) (n := 4) (Nat.le_of_ble_eq_true rfl)
  rw [lg_entry_eq]
  generalize (lg_sl ([.long x, .long y]) ++ List.replicate (4 - (lg_sl ([.long x, .long y])).length) Slot.unset).toArray = ls at hl ⊢
  have hl : lv_has ls 4 [(0, .long x), (2, .long y)] := hl
  refine lv_lload_n hx hb d_CB_sumFits_0 rfl (lv_at hl 1 rfl) ?_
  refine lv_lconst (v := 0) hx hb d_CB_sumFits_1 rfl ?_
  refine W.lcmp hx hb d_CB_sumFits_2 ?_
  refine lv_if_lt (tgt := 24) hx hb d_CB_sumFits_3 (by decide) (fun h3 => ?_) (fun h3 => ?_)
  · skip
    rw [lg_cmp_lt] at h3
    refine lv_lload_n hx hb d_CB_sumFits_24 rfl (lv_at hl 0 rfl) ?_
    refine lv_ldc2 (v := (-9223372036854775808)) hx hb hown (hts _ (gm k_259)) d_CB_sumFits_25 ?_
    refine lv_lload_n hx hb d_CB_sumFits_28 rfl (lv_at hl 1 rfl) ?_
    refine lv_lsub hx hb d_CB_sumFits_29 ?_
    refine W.lcmp hx hb d_CB_sumFits_30 ?_
    refine lv_if_lt (tgt := 38) hx hb d_CB_sumFits_31 (by decide) (fun h31 => ?_) (fun h31 => ?_)
    · skip
      rw [lg_cmp_lt] at h31
      refine lv_iconst (v := (nI 0)) hx hb d_CB_sumFits_38 rfl ?_
      exact W.zret hx hb hr rfl (fun t ht hW => ⟨_, rfl, (by first | exact Or.inl ⟨(sumHiN h3).mp h13, rfl⟩ | exact Or.inr ⟨(sumHi h3).mp h13, rfl⟩ | exact Or.inl ⟨(sumLoN (ltN0 h3)).mp h31, rfl⟩ | exact Or.inr ⟨(sumLo (ltN0 h3)).mp h31, rfl⟩), ht⟩) (fun q h => nomatch h) d_CB_sumFits_39
    · skip
      rw [lg_cmp_lt] at h31
      refine lv_iconst (v := (nI 1)) hx hb d_CB_sumFits_34 rfl ?_
      refine lv_goto (tgt := 39) hx hb d_CB_sumFits_35 (by decide) ?_
      exact W.zret hx hb hr rfl (fun t ht hW => ⟨_, rfl, (by first | exact Or.inl ⟨(sumHiN h3).mp h13, rfl⟩ | exact Or.inr ⟨(sumHi h3).mp h13, rfl⟩ | exact Or.inl ⟨(sumLoN (ltN0 h3)).mp h31, rfl⟩ | exact Or.inr ⟨(sumLo (ltN0 h3)).mp h31, rfl⟩), ht⟩) (fun q h => nomatch h) d_CB_sumFits_39
  · skip
    rw [lg_cmp_lt] at h3
    refine lv_lload_n hx hb d_CB_sumFits_6 rfl (lv_at hl 0 rfl) ?_
    refine lv_ldc2 (v := 9223372036854775807) hx hb hown (hts _ (gm k_258)) d_CB_sumFits_7 ?_
    refine lv_lload_n hx hb d_CB_sumFits_10 rfl (lv_at hl 1 rfl) ?_
    refine lv_lsub hx hb d_CB_sumFits_11 ?_
    refine W.lcmp hx hb d_CB_sumFits_12 ?_
    refine lv_if_gt (tgt := 20) hx hb d_CB_sumFits_13 (by decide) (fun h13 => ?_) (fun h13 => ?_)
    · skip
      rw [lg_cmp_gt] at h13
      refine lv_iconst (v := (nI 0)) hx hb d_CB_sumFits_20 rfl ?_
      refine lv_goto (tgt := 39) hx hb d_CB_sumFits_21 (by decide) ?_
      exact W.zret hx hb hr rfl (fun t ht hW => ⟨_, rfl, (by first | exact Or.inl ⟨(sumHiN h3).mp h13, rfl⟩ | exact Or.inr ⟨(sumHi h3).mp h13, rfl⟩ | exact Or.inl ⟨(sumLoN (ltN0 h3)).mp h31, rfl⟩ | exact Or.inr ⟨(sumLo (ltN0 h3)).mp h31, rfl⟩), ht⟩) (fun q h => nomatch h) d_CB_sumFits_39
    · skip
      rw [lg_cmp_gt] at h13
      refine lv_iconst (v := (nI 1)) hx hb d_CB_sumFits_16 rfl ?_
      refine lv_goto (tgt := 39) hx hb d_CB_sumFits_17 (by decide) ?_
      exact W.zret hx hb hr rfl (fun t ht hW => ⟨_, rfl, (by first | exact Or.inl ⟨(sumHiN h3).mp h13, rfl⟩ | exact Or.inr ⟨(sumHi h3).mp h13, rfl⟩ | exact Or.inl ⟨(sumLoN (ltN0 h3)).mp h31, rfl⟩ | exact Or.inr ⟨(sumLo (ltN0 h3)).mp h31, rfl⟩), ht⟩) (fun q h => nomatch h) d_CB_sumFits_39
set_option maxHeartbeats 4000000 in
set_option maxRecDepth 100000 in
theorem c_CB_differenceFits (l : Launch) (x y : Int64)  : Met l y_CB_differenceFits ws_CB_differenceFits ({ frames := 0, cells := 0, slots := 0, locals := 0 } : Room) (va_Pc [.long x, .long y] (fun _ => True)) (vp_Si (fun r => (fH 1 x y ∧ r = 1) ∨ (¬ fH 1 x y ∧ r = 0))) 0 0 (fun _ => False) := by
  refine Met.ofW (cc := b_CB_differenceFits) (maxL := 4) (ret := (some .boolean)) (by decide) rfl ?_
  intro p e s m args below meth c s₁ B hml hv
  obtain ⟨rfl, -⟩ := hv
  have hx := B.exec
  have hb := B.bytes
  have hr := B.returns
  have hts := atoms_spec (ws := ws_CB_differenceFits) B.pre
  have hown : s.vm.findClass "CoinBag" = some m.cls := findClass_of_methodNamed B.named
  have hlocks := B.notSynchronized
  have hl := lv_entry ([.long x, .long y]) (n := 4) (Nat.le_of_ble_eq_true rfl)
  rw [lg_entry_eq]
  generalize (lg_sl ([.long x, .long y]) ++ List.replicate (4 - (lg_sl ([.long x, .long y])).length) Slot.unset).toArray = ls at hl ⊢
  have hl : lv_has ls 4 [(0, .long x), (2, .long y)] := hl
  refine lv_lload_n hx hb d_CB_differenceFits_0 rfl (lv_at hl 1 rfl) ?_
  refine lv_lconst (v := 0) hx hb d_CB_differenceFits_1 rfl ?_
  refine W.lcmp hx hb d_CB_differenceFits_2 ?_
  refine lv_if_lt (tgt := 24) hx hb d_CB_differenceFits_3 (by decide) (fun h3 => ?_) (fun h3 => ?_)
  · skip
    rw [lg_cmp_lt] at h3
    refine lv_lload_n hx hb d_CB_differenceFits_24 rfl (lv_at hl 0 rfl) ?_
    refine lv_ldc2 (v := 9223372036854775807) hx hb hown (hts _ (gm k_258)) d_CB_differenceFits_25 ?_
    refine lv_lload_n hx hb d_CB_differenceFits_28 rfl (lv_at hl 1 rfl) ?_
    refine lv_ladd hx hb d_CB_differenceFits_29 ?_
    refine W.lcmp hx hb d_CB_differenceFits_30 ?_
    refine lv_if_gt (tgt := 38) hx hb d_CB_differenceFits_31 (by decide) (fun h31 => ?_) (fun h31 => ?_)
    · skip
      rw [lg_cmp_gt] at h31
      refine lv_iconst (v := (nI 0)) hx hb d_CB_differenceFits_38 rfl ?_
      exact W.zret hx hb hr rfl (fun t ht hW => ⟨_, rfl, (by first | exact Or.inl ⟨(difLoN h3).mp h13, rfl⟩ | exact Or.inr ⟨(difLo h3).mp h13, rfl⟩ | exact Or.inl ⟨(difHiN h3).mp h31, rfl⟩ | exact Or.inr ⟨(difHi h3).mp h31, rfl⟩), ht⟩) (fun q h => nomatch h) d_CB_differenceFits_39
    · skip
      rw [lg_cmp_gt] at h31
      refine lv_iconst (v := (nI 1)) hx hb d_CB_differenceFits_34 rfl ?_
      refine lv_goto (tgt := 39) hx hb d_CB_differenceFits_35 (by decide) ?_
      exact W.zret hx hb hr rfl (fun t ht hW => ⟨_, rfl, (by first | exact Or.inl ⟨(difLoN h3).mp h13, rfl⟩ | exact Or.inr ⟨(difLo h3).mp h13, rfl⟩ | exact Or.inl ⟨(difHiN h3).mp h31, rfl⟩ | exact Or.inr ⟨(difHi h3).mp h31, rfl⟩), ht⟩) (fun q h => nomatch h) d_CB_differenceFits_39
  · skip
    rw [lg_cmp_lt] at h3
    refine lv_lload_n hx hb d_CB_differenceFits_6 rfl (lv_at hl 0 rfl) ?_
    refine lv_ldc2 (v := (-9223372036854775808)) hx hb hown (hts _ (gm k_259)) d_CB_differenceFits_7 ?_
    refine lv_lload_n hx hb d_CB_differenceFits_10 rfl (lv_at hl 1 rfl) ?_
    refine lv_ladd hx hb d_CB_differenceFits_11 ?_
    refine W.lcmp hx hb d_CB_differenceFits_12 ?_
    refine lv_if_lt (tgt := 20) hx hb d_CB_differenceFits_13 (by decide) (fun h13 => ?_) (fun h13 => ?_)
    · skip
      rw [lg_cmp_lt] at h13
      refine lv_iconst (v := (nI 0)) hx hb d_CB_differenceFits_20 rfl ?_
      refine lv_goto (tgt := 39) hx hb d_CB_differenceFits_21 (by decide) ?_
      exact W.zret hx hb hr rfl (fun t ht hW => ⟨_, rfl, (by first | exact Or.inl ⟨(difLoN h3).mp h13, rfl⟩ | exact Or.inr ⟨(difLo h3).mp h13, rfl⟩ | exact Or.inl ⟨(difHiN h3).mp h31, rfl⟩ | exact Or.inr ⟨(difHi h3).mp h31, rfl⟩), ht⟩) (fun q h => nomatch h) d_CB_differenceFits_39
    · skip
      rw [lg_cmp_lt] at h13
      refine lv_iconst (v := (nI 1)) hx hb d_CB_differenceFits_16 rfl ?_
      refine lv_goto (tgt := 39) hx hb d_CB_differenceFits_17 (by decide) ?_
      exact W.zret hx hb hr rfl (fun t ht hW => ⟨_, rfl, (by first | exact Or.inl ⟨(difLoN h3).mp h13, rfl⟩ | exact Or.inr ⟨(difLo h3).mp h13, rfl⟩ | exact Or.inl ⟨(difHiN h3).mp h31, rfl⟩ | exact Or.inr ⟨(difHi h3).mp h31, rfl⟩), ht⟩) (fun q h => nomatch h) d_CB_differenceFits_39
set_option maxHeartbeats 4000000 in
set_option maxRecDepth 100000 in
theorem c_CB_productFits (l : Launch) (x n : Int64)  : Met l y_CB_productFits ws_CB_productFits ({ frames := 0, cells := 0, slots := 0, locals := 0 } : Room) (va_Pc [.long x, .long n] (fun _ => True)) (vp_Si (fun r => (fM x n ∧ r = 1) ∨ (¬ fM x n ∧ r = 0))) 0 0 (fun _ => False) := by
  refine Met.ofW (cc := b_CB_productFits) (maxL := 4) (ret := (some .boolean)) (by decide) rfl ?_
  intro p e s m args below meth c s₁ B hml hv
  obtain ⟨rfl, -⟩ := hv
  have hx := B.exec
  have hb := B.bytes
  have hr := B.returns
  have hts := atoms_spec (ws := ws_CB_productFits) B.pre
  have hown : s.vm.findClass "CoinBag" = some m.cls := findClass_of_methodNamed B.named
  have hlocks := B.notSynchronized
  have hl := lv_entry ([.long x, .long n]) (n := 4) (Nat.le_of_ble_eq_true rfl)
  rw [lg_entry_eq]
  generalize (lg_sl ([.long x, .long n]) ++ List.replicate (4 - (lg_sl ([.long x, .long n])).length) Slot.unset).toArray = ls at hl ⊢
  have hl : lv_has ls 4 [(0, .long x), (2, .long n)] := hl
  refine lv_lload_n hx hb d_CB_productFits_0 rfl (lv_at hl 1 rfl) ?_
  refine lv_lconst (v := 0) hx hb d_CB_productFits_1 rfl ?_
  refine W.lcmp hx hb d_CB_productFits_2 ?_
  refine lv_if_ne (tgt := 8) hx hb d_CB_productFits_3 (by decide) (fun h3 => ?_) (fun h3 => ?_)
  · skip
    rw [lg_cmp_eq] at h3
    refine lv_lload_n hx hb d_CB_productFits_8 rfl (lv_at hl 1 rfl) ?_
    refine lv_ldc2 (v := (-1)) hx hb hown (hts _ (gm k_320)) d_CB_productFits_9 ?_
    refine W.lcmp hx hb d_CB_productFits_12 ?_
    refine lv_if_ne (tgt := 30) hx hb d_CB_productFits_13 (by decide) (fun h13 => ?_) (fun h13 => ?_)
    · skip
      rw [lg_cmp_eq] at h13
      refine lv_lload_n hx hb d_CB_productFits_30 rfl (lv_at hl 0 rfl) ?_
      refine lv_lload_n hx hb d_CB_productFits_31 rfl (lv_at hl 1 rfl) ?_
      refine lv_lmul hx hb d_CB_productFits_32 ?_
      refine lv_lload_n hx hb d_CB_productFits_33 rfl (lv_at hl 1 rfl) ?_
      refine lv_ldiv hx hb d_CB_productFits_34 (h3) ?_
      refine lv_lload_n hx hb d_CB_productFits_35 rfl (lv_at hl 0 rfl) ?_
      refine W.lcmp hx hb d_CB_productFits_36 ?_
      refine lv_if_ne (tgt := 44) hx hb d_CB_productFits_37 (by decide) (fun h37 => ?_) (fun h37 => ?_)
      · skip
        rw [lg_cmp_eq] at h37
        refine lv_iconst (v := (nI 0)) hx hb d_CB_productFits_44 rfl ?_
        exact W.zret hx hb hr rfl (fun t ht hW => ⟨_, rfl, (by first | exact Or.inl ⟨(mul_fits h3 h13).mp h37, rfl⟩ | exact Or.inr ⟨fun z => h37 ((mul_fits h3 h13).mpr z), rfl⟩), ht⟩) (fun q h => nomatch h) d_CB_productFits_45
      · skip
        rw [lg_cmp_eq] at h37
        refine lv_iconst (v := (nI 1)) hx hb d_CB_productFits_40 rfl ?_
        refine lv_goto (tgt := 45) hx hb d_CB_productFits_41 (by decide) ?_
        exact W.zret hx hb hr rfl (fun t ht hW => ⟨_, rfl, (by first | exact Or.inl ⟨(mul_fits h3 h13).mp h37, rfl⟩ | exact Or.inr ⟨fun z => h37 ((mul_fits h3 h13).mpr z), rfl⟩), ht⟩) (fun q h => nomatch h) d_CB_productFits_45
    · skip
      rw [lg_cmp_eq] at h13
      refine lv_lload_n hx hb d_CB_productFits_16 rfl (lv_at hl 0 rfl) ?_
      refine lv_ldc2 (v := (-9223372036854775808)) hx hb hown (hts _ (gm k_259)) d_CB_productFits_17 ?_
      refine W.lcmp hx hb d_CB_productFits_20 ?_
      refine lv_if_eq (tgt := 28) hx hb d_CB_productFits_21 (by decide) (fun h21 => ?_) (fun h21 => ?_)
      · skip
        rw [lg_cmp_eq] at h21
        refine lv_iconst (v := (nI 0)) hx hb d_CB_productFits_28 rfl ?_
        exact W.zret hx hb hr rfl (fun t ht hW => ⟨_, rfl, (by first | exact Or.inl ⟨by rw [h13]; exact fM_m1.mpr h21, rfl⟩ | exact Or.inr ⟨by rw [h13, fM_m1]; exact fun z => z h21, rfl⟩), ht⟩) (fun q h => nomatch h) d_CB_productFits_29
      · skip
        rw [lg_cmp_eq] at h21
        refine lv_iconst (v := (nI 1)) hx hb d_CB_productFits_24 rfl ?_
        refine lv_goto (tgt := 29) hx hb d_CB_productFits_25 (by decide) ?_
        exact W.zret hx hb hr rfl (fun t ht hW => ⟨_, rfl, (by first | exact Or.inl ⟨by rw [h13]; exact fM_m1.mpr h21, rfl⟩ | exact Or.inr ⟨by rw [h13, fM_m1]; exact fun z => z h21, rfl⟩), ht⟩) (fun q h => nomatch h) d_CB_productFits_29
  · skip
    rw [lg_cmp_eq] at h3
    refine lv_iconst (v := (nI 1)) hx hb d_CB_productFits_6 rfl ?_
    exact W.zret hx hb hr rfl (fun t ht hW => ⟨_, rfl, Or.inl ⟨by rw [h3]; exact fM_0 x, rfl⟩, ht⟩) (fun q h => nomatch h) d_CB_productFits_7
set_option maxHeartbeats 4000000 in
set_option maxRecDepth 100000 in
theorem c_CB_fewestTimes (l : Launch) (x y : Int64) (hy : ¬ 0 < y) : Met l y_CB_fewestTimes ws_CB_fewestTimes ({ frames := 0, cells := 0, slots := 0, locals := 0 } : Room) (va_Pc [.long x, .long y] (fun _ => True)) (vp_Sl (fun r => (0 ≤ x.toInt ∧ r = 0) ∨ (x < 0 ∧ (y = 0 ∨ (y = -1 ∧ x = -9223372036854775808)) ∧ r = -1) ∨ (x < 0 ∧ ¬ iB x y ∧ r.toInt = iN x y))) 0 0 (fun _ => False) := by
  refine Met.ofW (cc := b_CB_fewestTimes) (maxL := 6) (ret := (some .long)) (by decide) rfl ?_
  intro p e s m args below meth c s₁ B hml hv
  obtain ⟨rfl, -⟩ := hv
  have hx := B.exec
  have hb := B.bytes
  have hr := B.returns
  have hts := atoms_spec (ws := ws_CB_fewestTimes) B.pre
  have hown : s.vm.findClass "CoinBag" = some m.cls := findClass_of_methodNamed B.named
  have hlocks := B.notSynchronized
  have hl := lv_entry ([.long x, .long y]) (n := 6) (Nat.le_of_ble_eq_true rfl)
  rw [lg_entry_eq]
  generalize (lg_sl ([.long x, .long y]) ++ List.replicate (6 - (lg_sl ([.long x, .long y])).length) Slot.unset).toArray = ls at hl ⊢
  have hl : lv_has ls 6 [(0, .long x), (2, .long y)] := hl
  refine lv_lload_n hx hb d_CB_fewestTimes_0 rfl (lv_at hl 0 rfl) ?_
  refine lv_lconst (v := 0) hx hb d_CB_fewestTimes_1 rfl ?_
  refine W.lcmp hx hb d_CB_fewestTimes_2 ?_
  refine lv_if_lt (tgt := 8) hx hb d_CB_fewestTimes_3 (by decide) (fun h3 => ?_) (fun h3 => ?_)
  · skip
    rw [lg_cmp_lt] at h3
    refine lv_lload_n hx hb d_CB_fewestTimes_8 rfl (lv_at hl 1 rfl) ?_
    refine lv_lconst (v := 0) hx hb d_CB_fewestTimes_9 rfl ?_
    refine W.lcmp hx hb d_CB_fewestTimes_10 ?_
    refine lv_if_eq (tgt := 30) hx hb d_CB_fewestTimes_11 (by decide) (fun h11 => ?_) (fun h11 => ?_)
    · skip
      rw [lg_cmp_eq] at h11
      refine lv_ldc2 (v := (-1)) hx hb hown (hts _ (gm k_320)) d_CB_fewestTimes_30 ?_
      exact W.lret hx hb hr (fun t ht hW => ⟨_, rfl, (by first | exact Or.inr (Or.inl ⟨h3, Or.inl h11, rfl⟩) | exact Or.inr (Or.inl ⟨h3, Or.inr ⟨h19, h27⟩, rfl⟩)), ht⟩) (fun q h => nomatch h) d_CB_fewestTimes_33
    · skip
      rw [lg_cmp_eq] at h11
      refine lv_lload_n hx hb d_CB_fewestTimes_14 rfl (lv_at hl 1 rfl) ?_
      refine lv_ldc2 (v := (-1)) hx hb hown (hts _ (gm k_320)) d_CB_fewestTimes_15 ?_
      refine W.lcmp hx hb d_CB_fewestTimes_18 ?_
      refine lv_if_ne (tgt := 34) hx hb d_CB_fewestTimes_19 (by decide) (fun h19 => ?_) (fun h19 => ?_)
      · skip
        rw [lg_cmp_eq] at h19
        refine lv_lload_n hx hb d_CB_fewestTimes_34 rfl (lv_at hl 0 rfl) ?_
        refine lv_lload_n hx hb d_CB_fewestTimes_35 rfl (lv_at hl 1 rfl) ?_
        refine lv_ldiv hx hb d_CB_fewestTimes_36 (h11) ?_
        refine lv_lstore (lv' := [(4, .long (x / y)), (0, .long x), (2, .long y)]) hx hb d_CB_fewestTimes_37 hl (by decide) rfl (fun ls hl => ?_)
        refine lv_lload_n hx hb d_CB_fewestTimes_39 rfl (lv_at hl 1 rfl) ?_
        refine lv_lload_n hx hb d_CB_fewestTimes_40 rfl (lv_at hl 2 rfl) ?_
        refine lv_lrem hx hb d_CB_fewestTimes_41 (h11) ?_
        refine lv_lconst (v := 0) hx hb d_CB_fewestTimes_42 rfl ?_
        refine W.lcmp hx hb d_CB_fewestTimes_43 ?_
        refine lv_if_ne (tgt := 52) hx hb d_CB_fewestTimes_44 (by decide) (fun h44 => ?_) (fun h44 => ?_)
        · skip
          rw [lg_cmp_eq] at h44
          refine lv_lload hx hb d_CB_fewestTimes_52 (lv_at hl 0 rfl) ?_
          refine lv_lconst (v := 1) hx hb d_CB_fewestTimes_54 rfl ?_
          refine lv_ladd hx hb d_CB_fewestTimes_55 ?_
          exact W.lret hx hb hr (fun t ht hW => ⟨_, rfl, (by first | exact Or.inr (Or.inr ⟨h3, few_nb h11 (fun z => h19 z.2) hy, iN_e0 h3 (few_neg h11 hy) (fun z => h19 z.2) h44⟩) | exact Or.inr (Or.inr ⟨h3, few_nb h11 (fun z => h27 z.1) hy, iN_e0 h3 (few_neg h11 hy) (fun z => h27 z.1) h44⟩) | exact Or.inr (Or.inr ⟨h3, few_nb h11 (fun z => h19 z.2) hy, iN_e1 h3 (few_neg h11 hy) h44⟩) | exact Or.inr (Or.inr ⟨h3, few_nb h11 (fun z => h27 z.1) hy, iN_e1 h3 (few_neg h11 hy) h44⟩)), ht⟩) (fun q h => nomatch h) d_CB_fewestTimes_56
        · skip
          rw [lg_cmp_eq] at h44
          refine lv_lload hx hb d_CB_fewestTimes_47 (lv_at hl 0 rfl) ?_
          refine lv_goto (tgt := 56) hx hb d_CB_fewestTimes_49 (by decide) ?_
          exact W.lret hx hb hr (fun t ht hW => ⟨_, rfl, (by first | exact Or.inr (Or.inr ⟨h3, few_nb h11 (fun z => h19 z.2) hy, iN_e0 h3 (few_neg h11 hy) (fun z => h19 z.2) h44⟩) | exact Or.inr (Or.inr ⟨h3, few_nb h11 (fun z => h27 z.1) hy, iN_e0 h3 (few_neg h11 hy) (fun z => h27 z.1) h44⟩) | exact Or.inr (Or.inr ⟨h3, few_nb h11 (fun z => h19 z.2) hy, iN_e1 h3 (few_neg h11 hy) h44⟩) | exact Or.inr (Or.inr ⟨h3, few_nb h11 (fun z => h27 z.1) hy, iN_e1 h3 (few_neg h11 hy) h44⟩)), ht⟩) (fun q h => nomatch h) d_CB_fewestTimes_56
      · skip
        rw [lg_cmp_eq] at h19
        refine lv_lload_n hx hb d_CB_fewestTimes_22 rfl (lv_at hl 0 rfl) ?_
        refine lv_ldc2 (v := (-9223372036854775808)) hx hb hown (hts _ (gm k_259)) d_CB_fewestTimes_23 ?_
        refine W.lcmp hx hb d_CB_fewestTimes_26 ?_
        refine lv_if_ne (tgt := 34) hx hb d_CB_fewestTimes_27 (by decide) (fun h27 => ?_) (fun h27 => ?_)
        · skip
          rw [lg_cmp_eq] at h27
          refine lv_lload_n hx hb d_CB_fewestTimes_34 rfl (lv_at hl 0 rfl) ?_
          refine lv_lload_n hx hb d_CB_fewestTimes_35 rfl (lv_at hl 1 rfl) ?_
          refine lv_ldiv hx hb d_CB_fewestTimes_36 (h11) ?_
          refine lv_lstore (lv' := [(4, .long (x / y)), (0, .long x), (2, .long y)]) hx hb d_CB_fewestTimes_37 hl (by decide) rfl (fun ls hl => ?_)
          refine lv_lload_n hx hb d_CB_fewestTimes_39 rfl (lv_at hl 1 rfl) ?_
          refine lv_lload_n hx hb d_CB_fewestTimes_40 rfl (lv_at hl 2 rfl) ?_
          refine lv_lrem hx hb d_CB_fewestTimes_41 (h11) ?_
          refine lv_lconst (v := 0) hx hb d_CB_fewestTimes_42 rfl ?_
          refine W.lcmp hx hb d_CB_fewestTimes_43 ?_
          refine lv_if_ne (tgt := 52) hx hb d_CB_fewestTimes_44 (by decide) (fun h44 => ?_) (fun h44 => ?_)
          · skip
            rw [lg_cmp_eq] at h44
            refine lv_lload hx hb d_CB_fewestTimes_52 (lv_at hl 0 rfl) ?_
            refine lv_lconst (v := 1) hx hb d_CB_fewestTimes_54 rfl ?_
            refine lv_ladd hx hb d_CB_fewestTimes_55 ?_
            exact W.lret hx hb hr (fun t ht hW => ⟨_, rfl, (by first | exact Or.inr (Or.inr ⟨h3, few_nb h11 (fun z => h19 z.2) hy, iN_e0 h3 (few_neg h11 hy) (fun z => h19 z.2) h44⟩) | exact Or.inr (Or.inr ⟨h3, few_nb h11 (fun z => h27 z.1) hy, iN_e0 h3 (few_neg h11 hy) (fun z => h27 z.1) h44⟩) | exact Or.inr (Or.inr ⟨h3, few_nb h11 (fun z => h19 z.2) hy, iN_e1 h3 (few_neg h11 hy) h44⟩) | exact Or.inr (Or.inr ⟨h3, few_nb h11 (fun z => h27 z.1) hy, iN_e1 h3 (few_neg h11 hy) h44⟩)), ht⟩) (fun q h => nomatch h) d_CB_fewestTimes_56
          · skip
            rw [lg_cmp_eq] at h44
            refine lv_lload hx hb d_CB_fewestTimes_47 (lv_at hl 0 rfl) ?_
            refine lv_goto (tgt := 56) hx hb d_CB_fewestTimes_49 (by decide) ?_
            exact W.lret hx hb hr (fun t ht hW => ⟨_, rfl, (by first | exact Or.inr (Or.inr ⟨h3, few_nb h11 (fun z => h19 z.2) hy, iN_e0 h3 (few_neg h11 hy) (fun z => h19 z.2) h44⟩) | exact Or.inr (Or.inr ⟨h3, few_nb h11 (fun z => h27 z.1) hy, iN_e0 h3 (few_neg h11 hy) (fun z => h27 z.1) h44⟩) | exact Or.inr (Or.inr ⟨h3, few_nb h11 (fun z => h19 z.2) hy, iN_e1 h3 (few_neg h11 hy) h44⟩) | exact Or.inr (Or.inr ⟨h3, few_nb h11 (fun z => h27 z.1) hy, iN_e1 h3 (few_neg h11 hy) h44⟩)), ht⟩) (fun q h => nomatch h) d_CB_fewestTimes_56
        · skip
          rw [lg_cmp_eq] at h27
          refine lv_ldc2 (v := (-1)) hx hb hown (hts _ (gm k_320)) d_CB_fewestTimes_30 ?_
          exact W.lret hx hb hr (fun t ht hW => ⟨_, rfl, (by first | exact Or.inr (Or.inl ⟨h3, Or.inl h11, rfl⟩) | exact Or.inr (Or.inl ⟨h3, Or.inr ⟨h19, h27⟩, rfl⟩)), ht⟩) (fun q h => nomatch h) d_CB_fewestTimes_33
  · skip
    rw [lg_cmp_lt] at h3
    refine lv_lconst (v := 0) hx hb d_CB_fewestTimes_6 rfl ?_
    exact W.lret hx hb hr (fun t ht hW => ⟨_, rfl, Or.inl ⟨Int.not_lt.mp (fun z => h3 (z_lt0.mpr z)), rfl⟩, ht⟩) (fun q h => nomatch h) d_CB_fewestTimes_7
set_option maxHeartbeats 4000000 in
set_option maxRecDepth 100000 in
theorem c_JI_compare (l : Launch) (x y : Int32)  : Met l y_JI_compare ws_JI_compare ({ frames := 0, cells := 0, slots := 0, locals := 0 } : Room) (va_Pc [.int x, .int y] (fun _ => True)) (vp_Si (fun r => r = c32 x y)) 0 0 (fun _ => False) := by
  refine Met.ofW (cc := b_JI_compare) (maxL := 2) (ret := (some .int)) (by decide) rfl ?_
  intro p e s m args below meth c s₁ B hml hv
  obtain ⟨rfl, -⟩ := hv
  have hx := B.exec
  have hb := B.bytes
  have hr := B.returns
  have hts := atoms_spec (ws := ws_JI_compare) B.pre
  have hown : s.vm.findClass "java/lang/Integer" = some m.cls := findClass_of_methodNamed B.named
  have hlocks := B.notSynchronized
  have hl := lv_entry ([.int x, .int y]) (n := 2) (Nat.le_of_ble_eq_true rfl)
  rw [lg_entry_eq]
  generalize (lg_sl ([.int x, .int y]) ++ List.replicate (2 - (lg_sl ([.int x, .int y])).length) Slot.unset).toArray = ls at hl ⊢
  have hl : lv_has ls 2 [(0, .int x), (1, .int y)] := hl
  refine lv_iload_n hx hb d_JI_compare_0 rfl (lv_at hl 0 rfl) ?_
  refine lv_iload_n hx hb d_JI_compare_1 rfl (lv_at hl 1 rfl) ?_
  refine lv_icmp_ge (tgt := 9) hx hb d_JI_compare_2 (by decide) (fun h2 => ?_) (fun h2 => ?_)
  · skip
    refine lv_iload_n hx hb d_JI_compare_9 rfl (lv_at hl 0 rfl) ?_
    refine lv_iload_n hx hb d_JI_compare_10 rfl (lv_at hl 1 rfl) ?_
    refine lv_icmp_ne (tgt := 18) hx hb d_JI_compare_11 (by decide) (fun h11 => ?_) (fun h11 => ?_)
    · skip
      refine lv_iconst (v := (nI 1)) hx hb d_JI_compare_18 rfl ?_
      exact W.iret hx hb hr (fun t ht hW => ⟨_, rfl, (by first | (unfold c32; rw [if_pos (Int32.not_le.mp h2)]) | (unfold c32; rw [if_neg (Int32.not_lt.mpr h2), if_pos h11]; rfl) | (unfold c32; rw [if_neg (Int32.not_lt.mpr h2), if_neg h11]; rfl)), ht⟩) (fun q h => nomatch h) d_JI_compare_19
    · skip
      refine lv_iconst (v := (nI 0)) hx hb d_JI_compare_14 rfl ?_
      refine lv_goto (tgt := 19) hx hb d_JI_compare_15 (by decide) ?_
      exact W.iret hx hb hr (fun t ht hW => ⟨_, rfl, (by first | (unfold c32; rw [if_pos (Int32.not_le.mp h2)]) | (unfold c32; rw [if_neg (Int32.not_lt.mpr h2), if_pos h11]; rfl) | (unfold c32; rw [if_neg (Int32.not_lt.mpr h2), if_neg h11]; rfl)), ht⟩) (fun q h => nomatch h) d_JI_compare_19
  · skip
    refine lv_iconst (v := (-1)) hx hb d_JI_compare_5 rfl ?_
    refine lv_goto (tgt := 19) hx hb d_JI_compare_6 (by decide) ?_
    exact W.iret hx hb hr (fun t ht hW => ⟨_, rfl, (by first | (unfold c32; rw [if_pos (Int32.not_le.mp h2)]) | (unfold c32; rw [if_neg (Int32.not_lt.mpr h2), if_pos h11]; rfl) | (unfold c32; rw [if_neg (Int32.not_lt.mpr h2), if_neg h11]; rfl)), ht⟩) (fun q h => nomatch h) d_JI_compare_19
set_option maxHeartbeats 4000000 in
set_option maxRecDepth 100000 in
theorem c_JL_compare (l : Launch) (x y : Int64)  : Met l y_JL_compare ws_JL_compare ({ frames := 0, cells := 0, slots := 0, locals := 0 } : Room) (va_Pc [.long x, .long y] (fun _ => True)) (vp_Si (fun r => r = c64 x y)) 0 0 (fun _ => False) := by
  refine Met.ofW (cc := b_JL_compare) (maxL := 4) (ret := (some .int)) (by decide) rfl ?_
  intro p e s m args below meth c s₁ B hml hv
  obtain ⟨rfl, -⟩ := hv
  have hx := B.exec
  have hb := B.bytes
  have hr := B.returns
  have hts := atoms_spec (ws := ws_JL_compare) B.pre
  have hown : s.vm.findClass "java/lang/Long" = some m.cls := findClass_of_methodNamed B.named
  have hlocks := B.notSynchronized
  have hl := lv_entry ([.long x, .long y]) (n := 4) (Nat.le_of_ble_eq_true rfl)
  rw [lg_entry_eq]
  generalize (lg_sl ([.long x, .long y]) ++ List.replicate (4 - (lg_sl ([.long x, .long y])).length) Slot.unset).toArray = ls at hl ⊢
  have hl : lv_has ls 4 [(0, .long x), (2, .long y)] := hl
  refine lv_lload_n hx hb d_JL_compare_0 rfl (lv_at hl 0 rfl) ?_
  refine lv_lload_n hx hb d_JL_compare_1 rfl (lv_at hl 1 rfl) ?_
  refine W.lcmp hx hb d_JL_compare_2 ?_
  refine lv_if_ge (tgt := 10) hx hb d_JL_compare_3 (by decide) (fun h3 => ?_) (fun h3 => ?_)
  · skip
    rw [lg_cmp_ge] at h3
    refine lv_lload_n hx hb d_JL_compare_10 rfl (lv_at hl 0 rfl) ?_
    refine lv_lload_n hx hb d_JL_compare_11 rfl (lv_at hl 1 rfl) ?_
    refine W.lcmp hx hb d_JL_compare_12 ?_
    refine lv_if_ne (tgt := 20) hx hb d_JL_compare_13 (by decide) (fun h13 => ?_) (fun h13 => ?_)
    · skip
      rw [lg_cmp_eq] at h13
      refine lv_iconst (v := (nI 1)) hx hb d_JL_compare_20 rfl ?_
      exact W.iret hx hb hr (fun t ht hW => ⟨_, rfl, (by first | (unfold c64; rw [if_pos (Int64.not_le.mp h3)]) | (unfold c64; rw [if_neg (Int64.not_lt.mpr h3), if_pos h13]; rfl) | (unfold c64; rw [if_neg (Int64.not_lt.mpr h3), if_neg h13]; rfl)), ht⟩) (fun q h => nomatch h) d_JL_compare_21
    · skip
      rw [lg_cmp_eq] at h13
      refine lv_iconst (v := (nI 0)) hx hb d_JL_compare_16 rfl ?_
      refine lv_goto (tgt := 21) hx hb d_JL_compare_17 (by decide) ?_
      exact W.iret hx hb hr (fun t ht hW => ⟨_, rfl, (by first | (unfold c64; rw [if_pos (Int64.not_le.mp h3)]) | (unfold c64; rw [if_neg (Int64.not_lt.mpr h3), if_pos h13]; rfl) | (unfold c64; rw [if_neg (Int64.not_lt.mpr h3), if_neg h13]; rfl)), ht⟩) (fun q h => nomatch h) d_JL_compare_21
  · skip
    rw [lg_cmp_ge] at h3
    refine lv_iconst (v := (-1)) hx hb d_JL_compare_6 rfl ?_
    refine lv_goto (tgt := 21) hx hb d_JL_compare_7 (by decide) ?_
    exact W.iret hx hb hr (fun t ht hW => ⟨_, rfl, (by first | (unfold c64; rw [if_pos (Int64.not_le.mp h3)]) | (unfold c64; rw [if_neg (Int64.not_lt.mpr h3), if_pos h13]; rfl) | (unfold c64; rw [if_neg (Int64.not_lt.mpr h3), if_neg h13]; rfl)), ht⟩) (fun q h => nomatch h) d_JL_compare_21
set_option maxHeartbeats 4000000 in
set_option maxRecDepth 100000 in
theorem c_JL_compareUnsigned (l : Launch) (x y : Int64)  : Met l y_JL_compareUnsigned ws_JL_compareUnsigned ({ frames := 1, cells := 0, slots := 0, locals := 23 } : Room) (va_Pc [.long x, .long y] (fun _ => True)) (vp_Si (fun r => r = c64 (x + (-9223372036854775808)) (y + (-9223372036854775808)))) 0 0 (fun _ => False) := by
  refine Met.ofW (cc := b_JL_compareUnsigned) (maxL := 4) (ret := (some .int)) (by decide) rfl ?_
  intro p e s m args below meth c s₁ B hml hv
  obtain ⟨rfl, -⟩ := hv
  have hx := B.exec
  have hb := B.bytes
  have hr := B.returns
  have hts := atoms_spec (ws := ws_JL_compareUnsigned) B.pre
  have hown : s.vm.findClass "java/lang/Long" = some m.cls := findClass_of_methodNamed B.named
  have hlocks := B.notSynchronized
  have hl := lv_entry ([.long x, .long y]) (n := 4) (Nat.le_of_ble_eq_true rfl)
  rw [lg_entry_eq]
  generalize (lg_sl ([.long x, .long y]) ++ List.replicate (4 - (lg_sl ([.long x, .long y])).length) Slot.unset).toArray = ls at hl ⊢
  have hl : lv_has ls 4 [(0, .long x), (2, .long y)] := hl
  refine lv_lload_n hx hb d_JL_compareUnsigned_0 rfl (lv_at hl 0 rfl) ?_
  refine lv_ldc2 (v := (-9223372036854775808)) hx hb hown (hts _ (gm k_225)) d_JL_compareUnsigned_1 ?_
  refine lv_ladd hx hb d_JL_compareUnsigned_4 ?_
  refine lv_lload_n hx hb d_JL_compareUnsigned_5 rfl (lv_at hl 1 rfl) ?_
  refine lv_ldc2 (v := (-9223372036854775808)) hx hb hown (hts _ (gm k_225)) d_JL_compareUnsigned_6 ?_
  refine lv_ladd hx hb d_JL_compareUnsigned_9 ?_
  refine q_callSi (va_runS (As := [.long (x + (-9223372036854775808)), .long (y + (-9223372036854775808))]) (rest := []) ⟨hx, hb, hml, hown, hts⟩ (c_JL_compare l _ _) (va_cwS 2 hts (gI_S k_228 k_226 k_227 k_31) rfl rfl rfl (by decide +kernel) ⟨Nat.le_of_ble_eq_true rfl, Nat.le_of_ble_eq_true rfl⟩) ⟨fun _ _ _ _ q => q, fun _ _ _ => ⟨rfl, trivial⟩⟩ rfl rfl hl.1 rfl (lv_room (Nat.le_of_ble_eq_true rfl)) d_JL_compareUnsigned_10 ⟨Nat.zero_le _, Nat.zero_le _⟩) (fun r h_r => ?_)
  exact W.iret hx hb hr (fun t ht hW => ⟨_, rfl, h_r, ht⟩) (fun q h => nomatch h) d_JL_compareUnsigned_13
set_option maxHeartbeats 4000000 in
set_option maxRecDepth 100000 in
theorem c_CB_orderOf (l : Launch) (a : Int32) (n : Int64) (b : Int32) (k : Int64)  : Met l y_CB_orderOf ws_CB_orderOf ({ frames := 2, cells := 0, slots := 0, locals := 46 } : Room) (va_Pc [.int a, .long n, .int b, .long k] (fun _ => True)) (vp_Si (fun r => (r < 0 ↔ kv a n < kv b k) ∧ (r = 0 ↔ kv a n = kv b k))) 0 0 (fun _ => False) := by
  refine Met.ofW (cc := b_CB_orderOf) (maxL := 6) (ret := (some .int)) (by decide) rfl ?_
  intro p e s m args below meth c s₁ B hml hv
  obtain ⟨rfl, -⟩ := hv
  have hx := B.exec
  have hb := B.bytes
  have hr := B.returns
  have hts := atoms_spec (ws := ws_CB_orderOf) B.pre
  have hown : s.vm.findClass "CoinBag" = some m.cls := findClass_of_methodNamed B.named
  have hlocks := B.notSynchronized
  have hl := lv_entry ([.int a, .long n, .int b, .long k]) (n := 6) (Nat.le_of_ble_eq_true rfl)
  rw [lg_entry_eq]
  generalize (lg_sl ([.int a, .long n, .int b, .long k]) ++ List.replicate (6 - (lg_sl ([.int a, .long n, .int b, .long k])).length) Slot.unset).toArray = ls at hl ⊢
  have hl : lv_has ls 6 [(0, .int a), (1, .long n), (3, .int b), (4, .long k)] := hl
  refine lv_iload_n hx hb d_CB_orderOf_0 rfl (lv_at hl 0 rfl) ?_
  refine lv_iload_n hx hb d_CB_orderOf_1 rfl (lv_at hl 2 rfl) ?_
  refine lv_icmp_eq (tgt := 11) hx hb d_CB_orderOf_2 (by decide) (fun h2 => ?_) (fun h2 => ?_)
  · skip
    refine lv_lload_n hx hb d_CB_orderOf_11 rfl (lv_at hl 1 rfl) ?_
    refine lv_lload hx hb d_CB_orderOf_12 (lv_at hl 3 rfl) ?_
    refine q_callSi (va_runS (As := [.long n, .long k]) (rest := []) ⟨hx, hb, hml, hown, hts⟩ (c_JL_compareUnsigned l _ _) (va_cwS 2 hts (gI_S k_224 k_222 k_223 k_31) rfl rfl rfl (by decide +kernel) ⟨Nat.le_of_ble_eq_true rfl, Nat.le_of_ble_eq_true rfl⟩) ⟨fun _ _ _ _ q => q, fun _ _ _ => ⟨rfl, trivial⟩⟩ rfl rfl hl.1 rfl (lv_room (Nat.le_of_ble_eq_true rfl)) d_CB_orderOf_14 ⟨Nat.zero_le _, Nat.zero_le _⟩) (fun r h_r => ?_)
    exact W.iret hx hb hr (fun t ht hW => ⟨_, rfl, (by rw [h_r, h2]; exact ord_n), ht⟩) (fun q h => nomatch h) d_CB_orderOf_17
  · skip
    refine lv_iload_n hx hb d_CB_orderOf_5 rfl (lv_at hl 0 rfl) ?_
    refine lv_iload_n hx hb d_CB_orderOf_6 rfl (lv_at hl 2 rfl) ?_
    refine q_callSi (va_runS (As := [.int a, .int b]) (rest := []) ⟨hx, hb, hml, hown, hts⟩ (c_JI_compare l _ _) (va_cwS 2 hts (gI_S k_221 k_219 k_220 k_30) rfl rfl rfl (by decide +kernel) ⟨Nat.le_of_ble_eq_true rfl, Nat.le_of_ble_eq_true rfl⟩) ⟨fun _ _ _ _ q => q, fun _ _ _ => ⟨rfl, trivial⟩⟩ rfl rfl hl.1 rfl (lv_room (Nat.le_of_ble_eq_true rfl)) d_CB_orderOf_7 ⟨Nat.zero_le _, Nat.zero_le _⟩) (fun r h_r => ?_)
    exact W.iret hx hb hr (fun t ht hW => ⟨_, rfl, (by rw [h_r]; exact ord_p h2), ht⟩) (fun q h => nomatch h) d_CB_orderOf_10
set_option maxHeartbeats 4000000 in
set_option maxRecDepth 100000 in
theorem c_JM_floorDiv (l : Launch) (x y : Int64) (hy : 0 < y) : Met l y_JM_floorDiv ws_JM_floorDiv ({ frames := 0, cells := 0, slots := 0, locals := 0 } : Room) (va_Pc [.long x, .long y] (fun _ => True)) (vp_Sl (fun r => (0 ≤ x.toInt → r.toInt = iQ x y) ∧ (x < 0 → r < 0))) 0 0 (fun _ => False) := by
  refine va_MetF (cc := b_JM_floorDiv) (maxL := 6) (ret := (some .long)) (by decide +kernel) rfl ?_
  intro p e s m args below meth c s₁ B hml hv
  obtain ⟨rfl, -⟩ := hv
  have hx := B.exec
  have hb := B.bytes
  have hr := B.returns
  have hts := atoms_spec (ws := ws_JM_floorDiv) B.pre
  have hown : s.vm.findClass "java/lang/Math" = some m.cls := findClass_of_methodNamed B.named
  have hlocks := B.notSynchronized
  have hl := lv_entry ([.long x, .long y]) (n := 6) (Nat.le_of_ble_eq_true rfl)
  rw [lg_entry_eq]
  generalize (lg_sl ([.long x, .long y]) ++ List.replicate (6 - (lg_sl ([.long x, .long y])).length) Slot.unset).toArray = ls at hl ⊢
  have hl : lv_has ls 6 [(0, .long x), (2, .long y)] := hl
  refine lv_lload_n hx hb d_JM_floorDiv_0 rfl (lv_at hl 0 rfl) ?_
  refine lv_lload_n hx hb d_JM_floorDiv_1 rfl (lv_at hl 1 rfl) ?_
  refine lv_ldiv hx hb d_JM_floorDiv_2 (fun z => by rw [z] at hy; exact absurd hy (by decide)) ?_
  refine lv_lstore (lv' := [(4, .long (x / y)), (0, .long x), (2, .long y)]) hx hb d_JM_floorDiv_3 hl (by decide) rfl (fun ls hl => ?_)
  refine lv_lload_n hx hb d_JM_floorDiv_5 rfl (lv_at hl 1 rfl) ?_
  refine lv_lload_n hx hb d_JM_floorDiv_6 rfl (lv_at hl 2 rfl) ?_
  refine lv_lxor hx hb d_JM_floorDiv_7 ?_
  refine lv_lconst (v := 0) hx hb d_JM_floorDiv_8 rfl ?_
  refine W.lcmp hx hb d_JM_floorDiv_9 ?_
  refine lv_if_ge (tgt := 27) hx hb d_JM_floorDiv_10 (by decide) (fun h10 => ?_) (fun h10 => ?_)
  · skip
    rw [lg_cmp_ge] at h10
    refine lv_lload hx hb d_JM_floorDiv_27 (lv_at hl 0 rfl) ?_
    exact W.lret hx hb hr (fun t ht hW => ⟨_, rfl, (by first | exact ⟨fun z => fd_toInt hy, fun z => absurd (fd_xx z hy) (Int64.not_lt.mpr h10)⟩ | exact ⟨fun z => fd_toInt hy, fun z => fd_exact z hy h19⟩), ht⟩) (fun q h => nomatch h) d_JM_floorDiv_29
  · skip
    rw [lg_cmp_ge] at h10
    refine lv_lload hx hb d_JM_floorDiv_13 (lv_at hl 0 rfl) ?_
    refine lv_lload_n hx hb d_JM_floorDiv_15 rfl (lv_at hl 2 rfl) ?_
    refine lv_lmul hx hb d_JM_floorDiv_16 ?_
    refine lv_lload_n hx hb d_JM_floorDiv_17 rfl (lv_at hl 1 rfl) ?_
    refine W.lcmp hx hb d_JM_floorDiv_18 ?_
    refine lv_if_eq (tgt := 27) hx hb d_JM_floorDiv_19 (by decide) (fun h19 => ?_) (fun h19 => ?_)
    · skip
      rw [lg_cmp_eq] at h19
      refine lv_lload hx hb d_JM_floorDiv_27 (lv_at hl 0 rfl) ?_
      exact W.lret hx hb hr (fun t ht hW => ⟨_, rfl, (by first | exact ⟨fun z => fd_toInt hy, fun z => absurd (fd_xx z hy) (Int64.not_lt.mpr h10)⟩ | exact ⟨fun z => fd_toInt hy, fun z => fd_exact z hy h19⟩), ht⟩) (fun q h => nomatch h) d_JM_floorDiv_29
    · skip
      rw [lg_cmp_eq] at h19
      refine lv_lload hx hb d_JM_floorDiv_22 (lv_at hl 0 rfl) ?_
      refine lv_lconst (v := 1) hx hb d_JM_floorDiv_24 rfl ?_
      refine lv_lsub hx hb d_JM_floorDiv_25 ?_
      exact W.lret hx hb hr (fun t ht hW => ⟨_, rfl, ⟨fun z => absurd (z_lt0.mp (fd_xn hy (Int64.not_le.mp h10))) (by omega), fun z => fd_down z hy h19⟩, ht⟩) (fun q h => nomatch h) d_JM_floorDiv_26
set_option maxHeartbeats 4000000 in
set_option maxRecDepth 100000 in
theorem c_Mod_isBag (l : Launch) (b : Int32)  : Met l y_Mod_isBag ws_Mod_isBag ({ frames := 0, cells := 0, slots := 0, locals := 0 } : Room) (va_Pc [.int b] (fun _ => True)) (vp_Si (fun r => ((¬ b < 0 ∧ ¬ nI 8 ≤ b) ∧ r = 1) ∨ (¬ (¬ b < 0 ∧ ¬ nI 8 ≤ b) ∧ r = 0))) 0 0 (fun _ => False) := by
  refine Met.ofW (cc := b_Mod_isBag) (maxL := 1) (ret := (some .boolean)) (by decide) rfl ?_
  intro p e s m args below meth c s₁ B hml hv
  obtain ⟨rfl, -⟩ := hv
  have hx := B.exec
  have hb := B.bytes
  have hr := B.returns
  have hts := atoms_spec (ws := ws_Mod_isBag) B.pre
  have hown : s.vm.findClass "CoinBagModel" = some m.cls := findClass_of_methodNamed B.named
  have hlocks := B.notSynchronized
  have hl := lv_entry ([.int b]) (n := 1) (Nat.le_of_ble_eq_true rfl)
  rw [lg_entry_eq]
  generalize (lg_sl ([.int b]) ++ List.replicate (1 - (lg_sl ([.int b])).length) Slot.unset).toArray = ls at hl ⊢
  have hl : lv_has ls 1 [(0, .int b)] := hl
  refine lv_iload_n hx hb d_Mod_isBag_0 rfl (lv_at hl 0 rfl) ?_
  refine lv_if_lt (tgt := 14) hx hb d_Mod_isBag_1 (by decide) (fun h1 => ?_) (fun h1 => ?_)
  · skip
    refine lv_iconst (v := (nI 0)) hx hb d_Mod_isBag_14 rfl ?_
    exact W.zret hx hb hr rfl (fun t ht hW => ⟨_, rfl, (by first | exact Or.inl ⟨⟨h1, h7⟩, rfl⟩ | exact Or.inr ⟨fun z => z.1 h1, rfl⟩ | exact Or.inr ⟨fun z => z.2 h7, rfl⟩), ht⟩) (fun q h => nomatch h) d_Mod_isBag_15
  · skip
    refine lv_iload_n hx hb d_Mod_isBag_4 rfl (lv_at hl 0 rfl) ?_
    refine lv_bipush (v := (nI 8)) hx hb d_Mod_isBag_5 rfl ?_
    refine lv_icmp_ge (tgt := 14) hx hb d_Mod_isBag_7 (by decide) (fun h7 => ?_) (fun h7 => ?_)
    · skip
      refine lv_iconst (v := (nI 0)) hx hb d_Mod_isBag_14 rfl ?_
      exact W.zret hx hb hr rfl (fun t ht hW => ⟨_, rfl, (by first | exact Or.inl ⟨⟨h1, h7⟩, rfl⟩ | exact Or.inr ⟨fun z => z.1 h1, rfl⟩ | exact Or.inr ⟨fun z => z.2 h7, rfl⟩), ht⟩) (fun q h => nomatch h) d_Mod_isBag_15
    · skip
      refine lv_iconst (v := (nI 1)) hx hb d_Mod_isBag_10 rfl ?_
      refine lv_goto (tgt := 15) hx hb d_Mod_isBag_11 (by decide) ?_
      exact W.zret hx hb hr rfl (fun t ht hW => ⟨_, rfl, (by first | exact Or.inl ⟨⟨h1, h7⟩, rfl⟩ | exact Or.inr ⟨fun z => z.1 h1, rfl⟩ | exact Or.inr ⟨fun z => z.2 h7, rfl⟩), ht⟩) (fun q h => nomatch h) d_Mod_isBag_15
set_option maxHeartbeats 4000000 in
set_option maxRecDepth 100000 in
theorem c_Mod_isPolicy (l : Launch) (b : Int32)  : Met l y_Mod_isPolicy ws_Mod_isPolicy ({ frames := 0, cells := 0, slots := 0, locals := 0 } : Room) (va_Pc [.int b] (fun _ => True)) (vp_Si (fun r => ((¬ b < 0 ∧ ¬ 65536 ≤ b) ∧ r = 1) ∨ (¬ (¬ b < 0 ∧ ¬ 65536 ≤ b) ∧ r = 0))) 0 0 (fun _ => False) := by
  refine Met.ofW (cc := b_Mod_isPolicy) (maxL := 1) (ret := (some .boolean)) (by decide) rfl ?_
  intro p e s m args below meth c s₁ B hml hv
  obtain ⟨rfl, -⟩ := hv
  have hx := B.exec
  have hb := B.bytes
  have hr := B.returns
  have hts := atoms_spec (ws := ws_Mod_isPolicy) B.pre
  have hown : s.vm.findClass "CoinBagModel" = some m.cls := findClass_of_methodNamed B.named
  have hlocks := B.notSynchronized
  have hl := lv_entry ([.int b]) (n := 1) (Nat.le_of_ble_eq_true rfl)
  rw [lg_entry_eq]
  generalize (lg_sl ([.int b]) ++ List.replicate (1 - (lg_sl ([.int b])).length) Slot.unset).toArray = ls at hl ⊢
  have hl : lv_has ls 1 [(0, .int b)] := hl
  refine lv_iload_n hx hb d_Mod_isPolicy_0 rfl (lv_at hl 0 rfl) ?_
  refine lv_if_lt (tgt := 14) hx hb d_Mod_isPolicy_1 (by decide) (fun h1 => ?_) (fun h1 => ?_)
  · skip
    refine lv_iconst (v := (nI 0)) hx hb d_Mod_isPolicy_14 rfl ?_
    exact W.zret hx hb hr rfl (fun t ht hW => ⟨_, rfl, (by first | exact Or.inl ⟨⟨h1, h7⟩, rfl⟩ | exact Or.inr ⟨fun z => z.1 h1, rfl⟩ | exact Or.inr ⟨fun z => z.2 h7, rfl⟩), ht⟩) (fun q h => nomatch h) d_Mod_isPolicy_15
  · skip
    refine lv_iload_n hx hb d_Mod_isPolicy_4 rfl (lv_at hl 0 rfl) ?_
    refine lv_ldc (v := 65536) hx hb hown (hts _ (gm k_469)) d_Mod_isPolicy_5 ?_
    refine lv_icmp_ge (tgt := 14) hx hb d_Mod_isPolicy_7 (by decide) (fun h7 => ?_) (fun h7 => ?_)
    · skip
      refine lv_iconst (v := (nI 0)) hx hb d_Mod_isPolicy_14 rfl ?_
      exact W.zret hx hb hr rfl (fun t ht hW => ⟨_, rfl, (by first | exact Or.inl ⟨⟨h1, h7⟩, rfl⟩ | exact Or.inr ⟨fun z => z.1 h1, rfl⟩ | exact Or.inr ⟨fun z => z.2 h7, rfl⟩), ht⟩) (fun q h => nomatch h) d_Mod_isPolicy_15
    · skip
      refine lv_iconst (v := (nI 1)) hx hb d_Mod_isPolicy_10 rfl ?_
      refine lv_goto (tgt := 15) hx hb d_Mod_isPolicy_11 (by decide) ?_
      exact W.zret hx hb hr rfl (fun t ht hW => ⟨_, rfl, (by first | exact Or.inl ⟨⟨h1, h7⟩, rfl⟩ | exact Or.inr ⟨fun z => z.1 h1, rfl⟩ | exact Or.inr ⟨fun z => z.2 h7, rfl⟩), ht⟩) (fun q h => nomatch h) d_Mod_isPolicy_15
