/-! the law's own methods -/
theorem sC_0 {ad : Nat → Nat} {cI cL cB : ClassId} {w : Nat → va_E} {F : Nat → Int → Int64} (h : sC ad cI cL cB w F) : ∃ fs : List Value, w 0 = .inr (2, fs) := by
  obtain ⟨f, pi, sp, h0, -⟩ := h
  exact ⟨_, h0⟩
theorem cast_w {C : String} (h : Cond.castable C C ∈ fW) {N0 : Nat} {U : State} {args : Array Value} (hAm : sAm N0 U) : (Cond.castable C C).before args U = true := by
  have h9 := (List.mem_filter.mp h).2
  simp only [Bool.and_eq_true] at h9
  exact va_Nw.use h9.1 (hAm.1 _ h)
theorem cast_I {N0 : Nat} {U : State} {args : Array Value} (hAm : sAm N0 U) : (Cond.castable "java/lang/IndexOutOfBoundsException" "java/lang/IndexOutOfBoundsException").before args U = true := cast_w (by decide +kernel) hAm
theorem cast_A {N0 : Nat} {U : State} {args : Array Value} (hAm : sAm N0 U) : (Cond.castable "java/lang/IllegalArgumentException" "java/lang/IllegalArgumentException").before args U = true := cast_w (by decide +kernel) hAm
set_option maxHeartbeats 4000000 in
set_option maxRecDepth 100000 in
theorem c_Law_set (l : Launch) (dC : Nat → ClassId) (dI : Nat → Nat → Nat) (cI cL cB : ClassId) (ad : Nat → Nat) (N0 : Nat) (w : Nat → va_E) (F : Nat → Int → Int64) (j : Nat) (q : Int32) (x v : Int64) (o : Nat → Int64) (hC : sC ad cI cL cB w F) (hj : j < 8) (hq : ¬ q < 0 ∧ ¬ 65536 ≤ q) (h51 : w 51 = .inl (cL, 1, .inr (.inl o))) : Met l y_Law_set ws_Law_set ({ frames := 6, cells := 0, slots := 0, locals := 148 } : Room) (va_Pc [.ref (ad 0), .int (nI j), .int q, .long x, .long v, .ref (ad 51)] (sPr (dC, dI) vCl [(cI, .int), (cL, .long), (cB, .object "CoinBag$Bag")] 52 ad N0 w)) (va_Qi (fun r u => r = nI 0 ∧ (∀ y, 43 ≤ y → ¬ y = 51 → u y = w y) ∧ ∃ o2 : Nat → Int64, u 51 = .inl (cL, 1, .inr (.inl o2)) ∧ (((eC (fUp (F j) (kv q x) v)) ∧ o2 0 = 1 ∧ sC ad cI cL cB u (va_up F j (fUp (F j) (kv q x) v))) ∨ (¬ (eC (fUp (F j) (kv q x) v)) ∧ o2 0 = 0 ∧ sC ad cI cL cB u F))) (sPr (dC, dI) vCl [(cI, .int), (cL, .long), (cB, .object "CoinBag$Bag")] 52 ad N0) (fun q => N0 ≤ q)) 0 0 (fun q => N0 ≤ q) := by
  refine va_MetW (cc := b_Law_set) (maxL := 9) (ret := (some .int)) (hh := [(0, 21, 24, 13), (0, 21, 28, 15)]) (by decide) rfl ?_
  intro p e s m args below meth c s₁ B hml hv
  obtain ⟨rfl, hP, hK, hD, hN, hAm⟩ := hv
  have hx := B.exec
  have hb := B.bytes
  have hr := B.returns
  have hts := atoms_spec (ws := ws_Law_set) B.pre
  have hown : s.vm.findClass "CoinBagLaw" = some m.cls := findClass_of_methodNamed B.named
  have hlocks := B.notSynchronized
  have hZ : sZ (dC, dI) vCl 52 ad (fun q => N0 ≤ q) s.heap w s.heap [] := ⟨hP, hD, va_S.rf⟩
  have hl := lv_entry ([.ref (ad 0), .int (nI j), .int q, .long x, .long v, .ref (ad 51)]) (n := 9) (Nat.le_of_ble_eq_true rfl)
  rw [lg_entry_eq]
  generalize (lg_sl ([.ref (ad 0), .int (nI j), .int q, .long x, .long v, .ref (ad 51)]) ++ List.replicate (9 - (lg_sl ([.ref (ad 0), .int (nI j), .int q, .long x, .long v, .ref (ad 51)])).length) Slot.unset).toArray = ls at hl ⊢
  have hl : lv_has ls 9 [(0, .ref (ad 0)), (1, .int (nI j)), (2, .int q), (3, .long x), (5, .long v), (7, .ref (ad 51))] := hl
  obtain ⟨fs0, h0⟩ := sC_0 hC
  refine lv_aload hx hb d_Law_set_0 (lv_at hl 5 rfl) ?_
  refine lv_iconst (v := (nI 0)) hx hb d_Law_set_2 rfl ?_
  refine lv_aload_n hx hb d_Law_set_3 rfl (lv_at hl 0 rfl) ?_
  refine lv_iload_n hx hb d_Law_set_4 rfl (lv_at hl 1 rfl) ?_
  refine lv_iload_n hx hb d_Law_set_5 rfl (lv_at hl 2 rfl) ?_
  refine lv_lload_n hx hb d_Law_set_6 rfl (lv_at hl 3 rfl) ?_
  refine lv_lload hx hb d_Law_set_7 (lv_at hl 4 rfl) ?_
  refine q_calli (va_runV (As := [.int (nI j), .int q, .long x, .long v]) (rest := [.int (nI 0), .ref (ad 51)]) ⟨hx, hb, hml, hown, hts⟩ (c_CB_set l dC dI cI cL cB ad N0 w F j q x v hC hj hq) (cwV 4 hts (gI_V k_117 k_114 k_115 k_116 k_21) rfl rfl rfl (by decide +kernel) ⟨Nat.le_of_ble_eq_true rfl, Nat.le_of_ble_eq_true rfl⟩) (q_preV hK hAm hZ hN [.int (nI j), .int q, .long x, .long v] (0) 2 (by decide) h0 rfl) rfl rfl hl.1 rfl (lv_room (Nat.le_of_ble_eq_true rfl)) d_Law_set_9 ⟨Nat.zero_le _, Nat.zero_le _⟩) hZ (fun r u_r H locs h_r hZ => ?_)
  have hk0 : ∀ y, 43 ≤ y → u_r y = w y := h_r.2
  have h51 := (hk0 51 (by omega)).trans h51
  refine lv_if_eq (tgt := 19) hx hb d_Law_set_12 (by decide) (fun h12 => ?_) (fun h12 => ?_)
  · skip
    refine lv_lconst (v := 0) hx hb d_Law_set_19 rfl ?_
    refine q_last hx hb hK hZ (51) 1 (0) (by decide) h51 rfl rfl (by omega) (by decide) d_Law_set_20 (fun H locs hZ => ?_)
    have hZ : sZ (dC, dI) vCl 52 ad (fun q => N0 ≤ q) s.heap (va_up u_r 51 (.inl (cL, 1, .inr (.inl (vp_updL o 0 0))))) H locs := hZ
    have h51 : va_up u_r 51 (.inl (cL, 1, .inr (.inl (vp_updL o 0 0)))) 51 = .inl (cL, 1, .inr (.inl (vp_updL o 0 0))) := va_up_self _ _ _
    have hk1 : ∀ y, 43 ≤ y → ¬ y = 51 → va_up u_r 51 (.inl (cL, 1, .inr (.inl (vp_updL o 0 0)))) y = w y := fun y h1 h2 => (va_up_ne _ _ h2).trans (hk0 y h1)
    have hlo : ∀ x, x < 43 → va_up u_r 51 (.inl (cL, 1, .inr (.inl (vp_updL o 0 0)))) x = u_r x := fun x h1 => va_up_ne _ _ (by omega)
    have ho : (vp_updL o 0 0) 0 = 0 := updL_s
    generalize va_up u_r 51 (.inl (cL, 1, .inr (.inl (vp_updL o 0 0)))) = w9 at hZ h51 hk1 hlo
    generalize (vp_updL o 0 0) = o2 at h51 ho
    refine lv_goto (tgt := 32) hx hb d_Law_set_21 (by decide) ?_
    refine lv_iconst (v := (nI 0)) hx hb d_Law_set_32 rfl ?_
    exact q_iret hx hb hr hlocks hK hAm hZ hN (⟨rfl, hk1, o2, h51, (by first | exact Or.inl ⟨(b3T h_r.1 h12).1, ho, sC_fr (b3T h_r.1 h12).2 hlo⟩ | exact Or.inr ⟨(b3F h_r.1 h12).1, ho, sC_fr (b3F h_r.1 h12).2 hlo⟩)⟩) d_Law_set_33
  · skip
    refine lv_lconst (v := 1) hx hb d_Law_set_15 rfl ?_
    refine lv_goto (tgt := 20) hx hb d_Law_set_16 (by decide) ?_
    refine q_last hx hb hK hZ (51) 1 (0) (by decide) h51 rfl rfl (by omega) (by decide) d_Law_set_20 (fun H locs hZ => ?_)
    have hZ : sZ (dC, dI) vCl 52 ad (fun q => N0 ≤ q) s.heap (va_up u_r 51 (.inl (cL, 1, .inr (.inl (vp_updL o 0 1))))) H locs := hZ
    have h51 : va_up u_r 51 (.inl (cL, 1, .inr (.inl (vp_updL o 0 1)))) 51 = .inl (cL, 1, .inr (.inl (vp_updL o 0 1))) := va_up_self _ _ _
    have hk1 : ∀ y, 43 ≤ y → ¬ y = 51 → va_up u_r 51 (.inl (cL, 1, .inr (.inl (vp_updL o 0 1)))) y = w y := fun y h1 h2 => (va_up_ne _ _ h2).trans (hk0 y h1)
    have hlo : ∀ x, x < 43 → va_up u_r 51 (.inl (cL, 1, .inr (.inl (vp_updL o 0 1)))) x = u_r x := fun x h1 => va_up_ne _ _ (by omega)
    have ho : (vp_updL o 0 1) 0 = 1 := updL_s
    generalize va_up u_r 51 (.inl (cL, 1, .inr (.inl (vp_updL o 0 1)))) = w9 at hZ h51 hk1 hlo
    generalize (vp_updL o 0 1) = o2 at h51 ho
    refine lv_goto (tgt := 32) hx hb d_Law_set_21 (by decide) ?_
    refine lv_iconst (v := (nI 0)) hx hb d_Law_set_32 rfl ?_
    exact q_iret hx hb hr hlocks hK hAm hZ hN (⟨rfl, hk1, o2, h51, (by first | exact Or.inl ⟨(b3T h_r.1 h12).1, ho, sC_fr (b3T h_r.1 h12).2 hlo⟩ | exact Or.inr ⟨(b3F h_r.1 h12).1, ho, sC_fr (b3F h_r.1 h12).2 hlo⟩)⟩) d_Law_set_33
set_option maxHeartbeats 4000000 in
set_option maxRecDepth 100000 in
theorem c_Law_put (l : Launch) (dC : Nat → ClassId) (dI : Nat → Nat → Nat) (cI cL cB : ClassId) (ad : Nat → Nat) (N0 : Nat) (w : Nat → va_E) (F : Nat → Int → Int64) (j : Nat) (q : Int32) (x v : Int64) (o : Nat → Int64) (hC : sC ad cI cL cB w F) (hj : j < 8) (hq : ¬ q < 0 ∧ ¬ 65536 ≤ q) (h51 : w 51 = .inl (cL, 1, .inr (.inl o))) : Met l y_Law_put ws_Law_put ({ frames := 6, cells := 0, slots := 0, locals := 150 } : Room) (va_Pc [.ref (ad 0), .int (nI j), .int q, .long x, .long v, .ref (ad 51)] (sPr (dC, dI) vCl [(cI, .int), (cL, .long), (cB, .object "CoinBag$Bag")] 52 ad N0 w)) (va_Qi (fun r u => r = nI 0 ∧ (∀ y, 43 ≤ y → ¬ y = 51 → u y = w y) ∧ ∃ o2 : Nat → Int64, u 51 = .inl (cL, 1, .inr (.inl o2)) ∧ (((fH 0 (F j (kv q x)) v ∧ eC (fUp (F j) (kv q x) (F j (kv q x) + v))) ∧ o2 0 = 1 ∧ sC ad cI cL cB u (va_up F j (fUp (F j) (kv q x) (F j (kv q x) + v)))) ∨ (¬ (fH 0 (F j (kv q x)) v ∧ eC (fUp (F j) (kv q x) (F j (kv q x) + v))) ∧ o2 0 = 0 ∧ sC ad cI cL cB u F))) (sPr (dC, dI) vCl [(cI, .int), (cL, .long), (cB, .object "CoinBag$Bag")] 52 ad N0) (fun q => N0 ≤ q)) 0 0 (fun q => N0 ≤ q) := by
  refine va_MetW (cc := b_Law_put) (maxL := 9) (ret := (some .int)) (hh := [(0, 21, 24, 13), (0, 21, 28, 15)]) (by decide) rfl ?_
  intro p e s m args below meth c s₁ B hml hv
  obtain ⟨rfl, hP, hK, hD, hN, hAm⟩ := hv
  have hx := B.exec
  have hb := B.bytes
  have hr := B.returns
  have hts := atoms_spec (ws := ws_Law_put) B.pre
  have hown : s.vm.findClass "CoinBagLaw" = some m.cls := findClass_of_methodNamed B.named
  have hlocks := B.notSynchronized
  have hZ : sZ (dC, dI) vCl 52 ad (fun q => N0 ≤ q) s.heap w s.heap [] := ⟨hP, hD, va_S.rf⟩
  have hl := lv_entry ([.ref (ad 0), .int (nI j), .int q, .long x, .long v, .ref (ad 51)]) (n := 9) (Nat.le_of_ble_eq_true rfl)
  rw [lg_entry_eq]
  generalize (lg_sl ([.ref (ad 0), .int (nI j), .int q, .long x, .long v, .ref (ad 51)]) ++ List.replicate (9 - (lg_sl ([.ref (ad 0), .int (nI j), .int q, .long x, .long v, .ref (ad 51)])).length) Slot.unset).toArray = ls at hl ⊢
  have hl : lv_has ls 9 [(0, .ref (ad 0)), (1, .int (nI j)), (2, .int q), (3, .long x), (5, .long v), (7, .ref (ad 51))] := hl
  obtain ⟨fs0, h0⟩ := sC_0 hC
  refine lv_aload hx hb d_Law_put_0 (lv_at hl 5 rfl) ?_
  refine lv_iconst (v := (nI 0)) hx hb d_Law_put_2 rfl ?_
  refine lv_aload_n hx hb d_Law_put_3 rfl (lv_at hl 0 rfl) ?_
  refine lv_iload_n hx hb d_Law_put_4 rfl (lv_at hl 1 rfl) ?_
  refine lv_iload_n hx hb d_Law_put_5 rfl (lv_at hl 2 rfl) ?_
  refine lv_lload_n hx hb d_Law_put_6 rfl (lv_at hl 3 rfl) ?_
  refine lv_lload hx hb d_Law_put_7 (lv_at hl 4 rfl) ?_
  refine q_calli (va_runV (As := [.int (nI j), .int q, .long x, .long v]) (rest := [.int (nI 0), .ref (ad 51)]) ⟨hx, hb, hml, hown, hts⟩ (c_CB_put l dC dI cI cL cB ad N0 w F j q x v hC hj hq) (cwV 4 hts (gI_V k_250 k_247 k_248 k_249 k_21) rfl rfl rfl (by decide +kernel) ⟨Nat.le_of_ble_eq_true rfl, Nat.le_of_ble_eq_true rfl⟩) (q_preV hK hAm hZ hN [.int (nI j), .int q, .long x, .long v] (0) 2 (by decide) h0 rfl) rfl rfl hl.1 rfl (lv_room (Nat.le_of_ble_eq_true rfl)) d_Law_put_9 ⟨Nat.zero_le _, Nat.zero_le _⟩) hZ (fun r u_r H locs h_r hZ => ?_)
  have hk0 : ∀ y, 43 ≤ y → u_r y = w y := h_r.2
  have h51 := (hk0 51 (by omega)).trans h51
  refine lv_if_eq (tgt := 19) hx hb d_Law_put_12 (by decide) (fun h12 => ?_) (fun h12 => ?_)
  · skip
    refine lv_lconst (v := 0) hx hb d_Law_put_19 rfl ?_
    refine q_last hx hb hK hZ (51) 1 (0) (by decide) h51 rfl rfl (by omega) (by decide) d_Law_put_20 (fun H locs hZ => ?_)
    have hZ : sZ (dC, dI) vCl 52 ad (fun q => N0 ≤ q) s.heap (va_up u_r 51 (.inl (cL, 1, .inr (.inl (vp_updL o 0 0))))) H locs := hZ
    have h51 : va_up u_r 51 (.inl (cL, 1, .inr (.inl (vp_updL o 0 0)))) 51 = .inl (cL, 1, .inr (.inl (vp_updL o 0 0))) := va_up_self _ _ _
    have hk1 : ∀ y, 43 ≤ y → ¬ y = 51 → va_up u_r 51 (.inl (cL, 1, .inr (.inl (vp_updL o 0 0)))) y = w y := fun y h1 h2 => (va_up_ne _ _ h2).trans (hk0 y h1)
    have hlo : ∀ x, x < 43 → va_up u_r 51 (.inl (cL, 1, .inr (.inl (vp_updL o 0 0)))) x = u_r x := fun x h1 => va_up_ne _ _ (by omega)
    have ho : (vp_updL o 0 0) 0 = 0 := updL_s
    generalize va_up u_r 51 (.inl (cL, 1, .inr (.inl (vp_updL o 0 0)))) = w9 at hZ h51 hk1 hlo
    generalize (vp_updL o 0 0) = o2 at h51 ho
    refine lv_goto (tgt := 32) hx hb d_Law_put_21 (by decide) ?_
    refine lv_iconst (v := (nI 0)) hx hb d_Law_put_32 rfl ?_
    exact q_iret hx hb hr hlocks hK hAm hZ hN (⟨rfl, hk1, o2, h51, (by first | exact Or.inl ⟨(b3T h_r.1 h12).1, ho, sC_fr (b3T h_r.1 h12).2 hlo⟩ | exact Or.inr ⟨(b3F h_r.1 h12).1, ho, sC_fr (b3F h_r.1 h12).2 hlo⟩)⟩) d_Law_put_33
  · skip
    refine lv_lconst (v := 1) hx hb d_Law_put_15 rfl ?_
    refine lv_goto (tgt := 20) hx hb d_Law_put_16 (by decide) ?_
    refine q_last hx hb hK hZ (51) 1 (0) (by decide) h51 rfl rfl (by omega) (by decide) d_Law_put_20 (fun H locs hZ => ?_)
    have hZ : sZ (dC, dI) vCl 52 ad (fun q => N0 ≤ q) s.heap (va_up u_r 51 (.inl (cL, 1, .inr (.inl (vp_updL o 0 1))))) H locs := hZ
    have h51 : va_up u_r 51 (.inl (cL, 1, .inr (.inl (vp_updL o 0 1)))) 51 = .inl (cL, 1, .inr (.inl (vp_updL o 0 1))) := va_up_self _ _ _
    have hk1 : ∀ y, 43 ≤ y → ¬ y = 51 → va_up u_r 51 (.inl (cL, 1, .inr (.inl (vp_updL o 0 1)))) y = w y := fun y h1 h2 => (va_up_ne _ _ h2).trans (hk0 y h1)
    have hlo : ∀ x, x < 43 → va_up u_r 51 (.inl (cL, 1, .inr (.inl (vp_updL o 0 1)))) x = u_r x := fun x h1 => va_up_ne _ _ (by omega)
    have ho : (vp_updL o 0 1) 0 = 1 := updL_s
    generalize va_up u_r 51 (.inl (cL, 1, .inr (.inl (vp_updL o 0 1)))) = w9 at hZ h51 hk1 hlo
    generalize (vp_updL o 0 1) = o2 at h51 ho
    refine lv_goto (tgt := 32) hx hb d_Law_put_21 (by decide) ?_
    refine lv_iconst (v := (nI 0)) hx hb d_Law_put_32 rfl ?_
    exact q_iret hx hb hr hlocks hK hAm hZ hN (⟨rfl, hk1, o2, h51, (by first | exact Or.inl ⟨(b3T h_r.1 h12).1, ho, sC_fr (b3T h_r.1 h12).2 hlo⟩ | exact Or.inr ⟨(b3F h_r.1 h12).1, ho, sC_fr (b3F h_r.1 h12).2 hlo⟩)⟩) d_Law_put_33
set_option maxHeartbeats 4000000 in
set_option maxRecDepth 100000 in
theorem c_Law_sum (l : Launch) (dC : Nat → ClassId) (dI : Nat → Nat → Nat) (cI cL cB : ClassId) (ad : Nat → Nat) (N0 : Nat) (w : Nat → va_E) (F : Nat → Int → Int64) (ja jb jc : Nat) (o : Nat → Int64) (hC : sC ad cI cL cB w F) (hja : ja < 8) (hjb : jb < 8) (hjc : jc < 8) (h51 : w 51 = .inl (cL, 1, .inr (.inl o))) : Met l y_Law_sum ws_Law_sum ({ frames := 7, cells := 0, slots := 0, locals := 173 } : Room) (va_Pc [.ref (ad 0), .int (nI ja), .int (nI jb), .int (nI jc), .ref (ad 51)] (sPr (dC, dI) vCl [(cI, .int), (cL, .long), (cB, .object "CoinBag$Bag")] 52 ad N0 w)) (va_Qi (fun r u => r = nI 0 ∧ (∀ y, 43 ≤ y → ¬ y = 51 → u y = w y) ∧ ∃ o2 : Nat → Int64, u 51 = .inl (cL, 1, .inr (.inl o2)) ∧ ((((∀ y, fH 0 (F ja y) (F jb y)) ∧ eC (gH 0 (F ja) (F jb))) ∧ o2 0 = 1 ∧ sC ad cI cL cB u (va_up F jc (gH 0 (F ja) (F jb)))) ∨ (¬ ((∀ y, fH 0 (F ja y) (F jb y)) ∧ eC (gH 0 (F ja) (F jb))) ∧ o2 0 = 0 ∧ sC ad cI cL cB u F))) (sPr (dC, dI) vCl [(cI, .int), (cL, .long), (cB, .object "CoinBag$Bag")] 52 ad N0) (fun q => N0 ≤ q)) 0 0 (fun q => N0 ≤ q) := by
  refine va_MetW (cc := b_Law_sum) (maxL := 6) (ret := (some .int)) (hh := [(0, 19, 22, 13)]) (by decide) rfl ?_
  intro p e s m args below meth c s₁ B hml hv
  obtain ⟨rfl, hP, hK, hD, hN, hAm⟩ := hv
  have hx := B.exec
  have hb := B.bytes
  have hr := B.returns
  have hts := atoms_spec (ws := ws_Law_sum) B.pre
  have hown : s.vm.findClass "CoinBagLaw" = some m.cls := findClass_of_methodNamed B.named
  have hlocks := B.notSynchronized
  have hZ : sZ (dC, dI) vCl 52 ad (fun q => N0 ≤ q) s.heap w s.heap [] := ⟨hP, hD, va_S.rf⟩
  have hl := lv_entry ([.ref (ad 0), .int (nI ja), .int (nI jb), .int (nI jc), .ref (ad 51)]) (n := 6) (Nat.le_of_ble_eq_true rfl)
  rw [lg_entry_eq]
  generalize (lg_sl ([.ref (ad 0), .int (nI ja), .int (nI jb), .int (nI jc), .ref (ad 51)]) ++ List.replicate (6 - (lg_sl ([.ref (ad 0), .int (nI ja), .int (nI jb), .int (nI jc), .ref (ad 51)])).length) Slot.unset).toArray = ls at hl ⊢
  have hl : lv_has ls 6 [(0, .ref (ad 0)), (1, .int (nI ja)), (2, .int (nI jb)), (3, .int (nI jc)), (4, .ref (ad 51))] := hl
  obtain ⟨fs0, h0⟩ := sC_0 hC
  refine lv_aload hx hb d_Law_sum_0 (lv_at hl 4 rfl) ?_
  refine lv_iconst (v := (nI 0)) hx hb d_Law_sum_2 rfl ?_
  refine lv_aload_n hx hb d_Law_sum_3 rfl (lv_at hl 0 rfl) ?_
  refine lv_iload_n hx hb d_Law_sum_4 rfl (lv_at hl 1 rfl) ?_
  refine lv_iload_n hx hb d_Law_sum_5 rfl (lv_at hl 2 rfl) ?_
  refine lv_iload_n hx hb d_Law_sum_6 rfl (lv_at hl 3 rfl) ?_
  refine q_calli (va_runV (As := [.int (nI ja), .int (nI jb), .int (nI jc)]) (rest := [.int (nI 0), .ref (ad 51)]) ⟨hx, hb, hml, hown, hts⟩ (c_CB_sum l dC dI cI cL cB ad N0 w F ja jb jc hC hja hjb hjc) (cwV 3 hts (gI_V k_266 k_263 k_264 k_265 k_21) rfl rfl rfl (by decide +kernel) ⟨Nat.le_of_ble_eq_true rfl, Nat.le_of_ble_eq_true rfl⟩) (q_preV hK hAm hZ hN [.int (nI ja), .int (nI jb), .int (nI jc)] (0) 2 (by decide) h0 rfl) rfl rfl hl.1 rfl (lv_room (Nat.le_of_ble_eq_true rfl)) d_Law_sum_7 ⟨Nat.zero_le _, Nat.zero_le _⟩) hZ (fun r u_r H locs h_r hZ => ?_)
  have hk0 : ∀ y, 43 ≤ y → u_r y = w y := h_r.2
  have h51 := (hk0 51 (by omega)).trans h51
  refine lv_if_eq (tgt := 17) hx hb d_Law_sum_10 (by decide) (fun h10 => ?_) (fun h10 => ?_)
  · skip
    refine lv_lconst (v := 0) hx hb d_Law_sum_17 rfl ?_
    refine q_last hx hb hK hZ (51) 1 (0) (by decide) h51 rfl rfl (by omega) (by decide) d_Law_sum_18 (fun H locs hZ => ?_)
    have hZ : sZ (dC, dI) vCl 52 ad (fun q => N0 ≤ q) s.heap (va_up u_r 51 (.inl (cL, 1, .inr (.inl (vp_updL o 0 0))))) H locs := hZ
    have h51 : va_up u_r 51 (.inl (cL, 1, .inr (.inl (vp_updL o 0 0)))) 51 = .inl (cL, 1, .inr (.inl (vp_updL o 0 0))) := va_up_self _ _ _
    have hk1 : ∀ y, 43 ≤ y → ¬ y = 51 → va_up u_r 51 (.inl (cL, 1, .inr (.inl (vp_updL o 0 0)))) y = w y := fun y h1 h2 => (va_up_ne _ _ h2).trans (hk0 y h1)
    have hlo : ∀ x, x < 43 → va_up u_r 51 (.inl (cL, 1, .inr (.inl (vp_updL o 0 0)))) x = u_r x := fun x h1 => va_up_ne _ _ (by omega)
    have ho : (vp_updL o 0 0) 0 = 0 := updL_s
    generalize va_up u_r 51 (.inl (cL, 1, .inr (.inl (vp_updL o 0 0)))) = w9 at hZ h51 hk1 hlo
    generalize (vp_updL o 0 0) = o2 at h51 ho
    refine lv_goto (tgt := 26) hx hb d_Law_sum_19 (by decide) ?_
    refine lv_iconst (v := (nI 0)) hx hb d_Law_sum_26 rfl ?_
    exact q_iret hx hb hr hlocks hK hAm hZ hN (⟨rfl, hk1, o2, h51, (by first | exact Or.inl ⟨(b3T h_r.1 h10).1, ho, sC_fr (b3T h_r.1 h10).2 hlo⟩ | exact Or.inr ⟨(b3F h_r.1 h10).1, ho, sC_fr (b3F h_r.1 h10).2 hlo⟩)⟩) d_Law_sum_27
  · skip
    refine lv_lconst (v := 1) hx hb d_Law_sum_13 rfl ?_
    refine lv_goto (tgt := 18) hx hb d_Law_sum_14 (by decide) ?_
    refine q_last hx hb hK hZ (51) 1 (0) (by decide) h51 rfl rfl (by omega) (by decide) d_Law_sum_18 (fun H locs hZ => ?_)
    have hZ : sZ (dC, dI) vCl 52 ad (fun q => N0 ≤ q) s.heap (va_up u_r 51 (.inl (cL, 1, .inr (.inl (vp_updL o 0 1))))) H locs := hZ
    have h51 : va_up u_r 51 (.inl (cL, 1, .inr (.inl (vp_updL o 0 1)))) 51 = .inl (cL, 1, .inr (.inl (vp_updL o 0 1))) := va_up_self _ _ _
    have hk1 : ∀ y, 43 ≤ y → ¬ y = 51 → va_up u_r 51 (.inl (cL, 1, .inr (.inl (vp_updL o 0 1)))) y = w y := fun y h1 h2 => (va_up_ne _ _ h2).trans (hk0 y h1)
    have hlo : ∀ x, x < 43 → va_up u_r 51 (.inl (cL, 1, .inr (.inl (vp_updL o 0 1)))) x = u_r x := fun x h1 => va_up_ne _ _ (by omega)
    have ho : (vp_updL o 0 1) 0 = 1 := updL_s
    generalize va_up u_r 51 (.inl (cL, 1, .inr (.inl (vp_updL o 0 1)))) = w9 at hZ h51 hk1 hlo
    generalize (vp_updL o 0 1) = o2 at h51 ho
    refine lv_goto (tgt := 26) hx hb d_Law_sum_19 (by decide) ?_
    refine lv_iconst (v := (nI 0)) hx hb d_Law_sum_26 rfl ?_
    exact q_iret hx hb hr hlocks hK hAm hZ hN (⟨rfl, hk1, o2, h51, (by first | exact Or.inl ⟨(b3T h_r.1 h10).1, ho, sC_fr (b3T h_r.1 h10).2 hlo⟩ | exact Or.inr ⟨(b3F h_r.1 h10).1, ho, sC_fr (b3F h_r.1 h10).2 hlo⟩)⟩) d_Law_sum_27
set_option maxHeartbeats 4000000 in
set_option maxRecDepth 100000 in
theorem c_Law_less (l : Launch) (dC : Nat → ClassId) (dI : Nat → Nat → Nat) (cI cL cB : ClassId) (ad : Nat → Nat) (N0 : Nat) (w : Nat → va_E) (F : Nat → Int → Int64) (ja jb jc : Nat) (o : Nat → Int64) (hC : sC ad cI cL cB w F) (hja : ja < 8) (hjb : jb < 8) (hjc : jc < 8) (h51 : w 51 = .inl (cL, 1, .inr (.inl o))) : Met l y_Law_less ws_Law_less ({ frames := 7, cells := 0, slots := 0, locals := 173 } : Room) (va_Pc [.ref (ad 0), .int (nI ja), .int (nI jb), .int (nI jc), .ref (ad 51)] (sPr (dC, dI) vCl [(cI, .int), (cL, .long), (cB, .object "CoinBag$Bag")] 52 ad N0 w)) (va_Qi (fun r u => r = nI 0 ∧ (∀ y, 43 ≤ y → ¬ y = 51 → u y = w y) ∧ ∃ o2 : Nat → Int64, u 51 = .inl (cL, 1, .inr (.inl o2)) ∧ ((((∀ y, fH 1 (F ja y) (F jb y)) ∧ eC (gH 1 (F ja) (F jb))) ∧ o2 0 = 1 ∧ sC ad cI cL cB u (va_up F jc (gH 1 (F ja) (F jb)))) ∨ (¬ ((∀ y, fH 1 (F ja y) (F jb y)) ∧ eC (gH 1 (F ja) (F jb))) ∧ o2 0 = 0 ∧ sC ad cI cL cB u F))) (sPr (dC, dI) vCl [(cI, .int), (cL, .long), (cB, .object "CoinBag$Bag")] 52 ad N0) (fun q => N0 ≤ q)) 0 0 (fun q => N0 ≤ q) := by
  refine va_MetW (cc := b_Law_less) (maxL := 6) (ret := (some .int)) (hh := [(0, 19, 22, 13)]) (by decide) rfl ?_
  intro p e s m args below meth c s₁ B hml hv
  obtain ⟨rfl, hP, hK, hD, hN, hAm⟩ := hv
  have hx := B.exec
  have hb := B.bytes
  have hr := B.returns
  have hts := atoms_spec (ws := ws_Law_less) B.pre
  have hown : s.vm.findClass "CoinBagLaw" = some m.cls := findClass_of_methodNamed B.named
  have hlocks := B.notSynchronized
  have hZ : sZ (dC, dI) vCl 52 ad (fun q => N0 ≤ q) s.heap w s.heap [] := ⟨hP, hD, va_S.rf⟩
  have hl := lv_entry ([.ref (ad 0), .int (nI ja), .int (nI jb), .int (nI jc), .ref (ad 51)]) (n := 6) (Nat.le_of_ble_eq_true rfl)
  rw [lg_entry_eq]
  generalize (lg_sl ([.ref (ad 0), .int (nI ja), .int (nI jb), .int (nI jc), .ref (ad 51)]) ++ List.replicate (6 - (lg_sl ([.ref (ad 0), .int (nI ja), .int (nI jb), .int (nI jc), .ref (ad 51)])).length) Slot.unset).toArray = ls at hl ⊢
  have hl : lv_has ls 6 [(0, .ref (ad 0)), (1, .int (nI ja)), (2, .int (nI jb)), (3, .int (nI jc)), (4, .ref (ad 51))] := hl
  obtain ⟨fs0, h0⟩ := sC_0 hC
  refine lv_aload hx hb d_Law_less_0 (lv_at hl 4 rfl) ?_
  refine lv_iconst (v := (nI 0)) hx hb d_Law_less_2 rfl ?_
  refine lv_aload_n hx hb d_Law_less_3 rfl (lv_at hl 0 rfl) ?_
  refine lv_iload_n hx hb d_Law_less_4 rfl (lv_at hl 1 rfl) ?_
  refine lv_iload_n hx hb d_Law_less_5 rfl (lv_at hl 2 rfl) ?_
  refine lv_iload_n hx hb d_Law_less_6 rfl (lv_at hl 3 rfl) ?_
  refine q_calli (va_runV (As := [.int (nI ja), .int (nI jb), .int (nI jc)]) (rest := [.int (nI 0), .ref (ad 51)]) ⟨hx, hb, hml, hown, hts⟩ (c_CB_less l dC dI cI cL cB ad N0 w F ja jb jc hC hja hjb hjc) (cwV 3 hts (gI_V k_309 k_306 k_307 k_308 k_21) rfl rfl rfl (by decide +kernel) ⟨Nat.le_of_ble_eq_true rfl, Nat.le_of_ble_eq_true rfl⟩) (q_preV hK hAm hZ hN [.int (nI ja), .int (nI jb), .int (nI jc)] (0) 2 (by decide) h0 rfl) rfl rfl hl.1 rfl (lv_room (Nat.le_of_ble_eq_true rfl)) d_Law_less_7 ⟨Nat.zero_le _, Nat.zero_le _⟩) hZ (fun r u_r H locs h_r hZ => ?_)
  have hk0 : ∀ y, 43 ≤ y → u_r y = w y := h_r.2
  have h51 := (hk0 51 (by omega)).trans h51
  refine lv_if_eq (tgt := 17) hx hb d_Law_less_10 (by decide) (fun h10 => ?_) (fun h10 => ?_)
  · skip
    refine lv_lconst (v := 0) hx hb d_Law_less_17 rfl ?_
    refine q_last hx hb hK hZ (51) 1 (0) (by decide) h51 rfl rfl (by omega) (by decide) d_Law_less_18 (fun H locs hZ => ?_)
    have hZ : sZ (dC, dI) vCl 52 ad (fun q => N0 ≤ q) s.heap (va_up u_r 51 (.inl (cL, 1, .inr (.inl (vp_updL o 0 0))))) H locs := hZ
    have h51 : va_up u_r 51 (.inl (cL, 1, .inr (.inl (vp_updL o 0 0)))) 51 = .inl (cL, 1, .inr (.inl (vp_updL o 0 0))) := va_up_self _ _ _
    have hk1 : ∀ y, 43 ≤ y → ¬ y = 51 → va_up u_r 51 (.inl (cL, 1, .inr (.inl (vp_updL o 0 0)))) y = w y := fun y h1 h2 => (va_up_ne _ _ h2).trans (hk0 y h1)
    have hlo : ∀ x, x < 43 → va_up u_r 51 (.inl (cL, 1, .inr (.inl (vp_updL o 0 0)))) x = u_r x := fun x h1 => va_up_ne _ _ (by omega)
    have ho : (vp_updL o 0 0) 0 = 0 := updL_s
    generalize va_up u_r 51 (.inl (cL, 1, .inr (.inl (vp_updL o 0 0)))) = w9 at hZ h51 hk1 hlo
    generalize (vp_updL o 0 0) = o2 at h51 ho
    refine lv_goto (tgt := 26) hx hb d_Law_less_19 (by decide) ?_
    refine lv_iconst (v := (nI 0)) hx hb d_Law_less_26 rfl ?_
    exact q_iret hx hb hr hlocks hK hAm hZ hN (⟨rfl, hk1, o2, h51, (by first | exact Or.inl ⟨(b3T h_r.1 h10).1, ho, sC_fr (b3T h_r.1 h10).2 hlo⟩ | exact Or.inr ⟨(b3F h_r.1 h10).1, ho, sC_fr (b3F h_r.1 h10).2 hlo⟩)⟩) d_Law_less_27
  · skip
    refine lv_lconst (v := 1) hx hb d_Law_less_13 rfl ?_
    refine lv_goto (tgt := 18) hx hb d_Law_less_14 (by decide) ?_
    refine q_last hx hb hK hZ (51) 1 (0) (by decide) h51 rfl rfl (by omega) (by decide) d_Law_less_18 (fun H locs hZ => ?_)
    have hZ : sZ (dC, dI) vCl 52 ad (fun q => N0 ≤ q) s.heap (va_up u_r 51 (.inl (cL, 1, .inr (.inl (vp_updL o 0 1))))) H locs := hZ
    have h51 : va_up u_r 51 (.inl (cL, 1, .inr (.inl (vp_updL o 0 1)))) 51 = .inl (cL, 1, .inr (.inl (vp_updL o 0 1))) := va_up_self _ _ _
    have hk1 : ∀ y, 43 ≤ y → ¬ y = 51 → va_up u_r 51 (.inl (cL, 1, .inr (.inl (vp_updL o 0 1)))) y = w y := fun y h1 h2 => (va_up_ne _ _ h2).trans (hk0 y h1)
    have hlo : ∀ x, x < 43 → va_up u_r 51 (.inl (cL, 1, .inr (.inl (vp_updL o 0 1)))) x = u_r x := fun x h1 => va_up_ne _ _ (by omega)
    have ho : (vp_updL o 0 1) 0 = 1 := updL_s
    generalize va_up u_r 51 (.inl (cL, 1, .inr (.inl (vp_updL o 0 1)))) = w9 at hZ h51 hk1 hlo
    generalize (vp_updL o 0 1) = o2 at h51 ho
    refine lv_goto (tgt := 26) hx hb d_Law_less_19 (by decide) ?_
    refine lv_iconst (v := (nI 0)) hx hb d_Law_less_26 rfl ?_
    exact q_iret hx hb hr hlocks hK hAm hZ hN (⟨rfl, hk1, o2, h51, (by first | exact Or.inl ⟨(b3T h_r.1 h10).1, ho, sC_fr (b3T h_r.1 h10).2 hlo⟩ | exact Or.inr ⟨(b3F h_r.1 h10).1, ho, sC_fr (b3F h_r.1 h10).2 hlo⟩)⟩) d_Law_less_27
set_option maxHeartbeats 4000000 in
set_option maxRecDepth 100000 in
theorem c_Law_least (l : Launch) (dC : Nat → ClassId) (dI : Nat → Nat → Nat) (cI cL cB : ClassId) (ad : Nat → Nat) (N0 : Nat) (w : Nat → va_E) (F : Nat → Int → Int64) (ja jb jc : Nat) (o : Nat → Int64) (hC : sC ad cI cL cB w F) (hja : ja < 8) (hjb : jb < 8) (hjc : jc < 8) (h51 : w 51 = .inl (cL, 1, .inr (.inl o))) : Met l y_Law_least ws_Law_least ({ frames := 7, cells := 0, slots := 0, locals := 173 } : Room) (va_Pc [.ref (ad 0), .int (nI ja), .int (nI jb), .int (nI jc), .ref (ad 51)] (sPr (dC, dI) vCl [(cI, .int), (cL, .long), (cB, .object "CoinBag$Bag")] 52 ad N0 w)) (va_Qi (fun r u => r = nI 0 ∧ (∀ y, 43 ≤ y → ¬ y = 51 → u y = w y) ∧ ∃ o2 : Nat → Int64, u 51 = .inl (cL, 1, .inr (.inl o2)) ∧ ((((∀ y, fH 2 (F ja y) (F jb y)) ∧ eC (gH 2 (F ja) (F jb))) ∧ o2 0 = 1 ∧ sC ad cI cL cB u (va_up F jc (gH 2 (F ja) (F jb)))) ∨ (¬ ((∀ y, fH 2 (F ja y) (F jb y)) ∧ eC (gH 2 (F ja) (F jb))) ∧ o2 0 = 0 ∧ sC ad cI cL cB u F))) (sPr (dC, dI) vCl [(cI, .int), (cL, .long), (cB, .object "CoinBag$Bag")] 52 ad N0) (fun q => N0 ≤ q)) 0 0 (fun q => N0 ≤ q) := by
  refine va_MetW (cc := b_Law_least) (maxL := 6) (ret := (some .int)) (hh := [(0, 19, 22, 13)]) (by decide) rfl ?_
  intro p e s m args below meth c s₁ B hml hv
  obtain ⟨rfl, hP, hK, hD, hN, hAm⟩ := hv
  have hx := B.exec
  have hb := B.bytes
  have hr := B.returns
  have hts := atoms_spec (ws := ws_Law_least) B.pre
  have hown : s.vm.findClass "CoinBagLaw" = some m.cls := findClass_of_methodNamed B.named
  have hlocks := B.notSynchronized
  have hZ : sZ (dC, dI) vCl 52 ad (fun q => N0 ≤ q) s.heap w s.heap [] := ⟨hP, hD, va_S.rf⟩
  have hl := lv_entry ([.ref (ad 0), .int (nI ja), .int (nI jb), .int (nI jc), .ref (ad 51)]) (n := 6) (Nat.le_of_ble_eq_true rfl)
  rw [lg_entry_eq]
  generalize (lg_sl ([.ref (ad 0), .int (nI ja), .int (nI jb), .int (nI jc), .ref (ad 51)]) ++ List.replicate (6 - (lg_sl ([.ref (ad 0), .int (nI ja), .int (nI jb), .int (nI jc), .ref (ad 51)])).length) Slot.unset).toArray = ls at hl ⊢
  have hl : lv_has ls 6 [(0, .ref (ad 0)), (1, .int (nI ja)), (2, .int (nI jb)), (3, .int (nI jc)), (4, .ref (ad 51))] := hl
  obtain ⟨fs0, h0⟩ := sC_0 hC
  refine lv_aload hx hb d_Law_least_0 (lv_at hl 4 rfl) ?_
  refine lv_iconst (v := (nI 0)) hx hb d_Law_least_2 rfl ?_
  refine lv_aload_n hx hb d_Law_least_3 rfl (lv_at hl 0 rfl) ?_
  refine lv_iload_n hx hb d_Law_least_4 rfl (lv_at hl 1 rfl) ?_
  refine lv_iload_n hx hb d_Law_least_5 rfl (lv_at hl 2 rfl) ?_
  refine lv_iload_n hx hb d_Law_least_6 rfl (lv_at hl 3 rfl) ?_
  refine q_calli (va_runV (As := [.int (nI ja), .int (nI jb), .int (nI jc)]) (rest := [.int (nI 0), .ref (ad 51)]) ⟨hx, hb, hml, hown, hts⟩ (c_CB_least l dC dI cI cL cB ad N0 w F ja jb jc hC hja hjb hjc) (cwV 3 hts (gI_V k_378 k_375 k_376 k_377 k_21) rfl rfl rfl (by decide +kernel) ⟨Nat.le_of_ble_eq_true rfl, Nat.le_of_ble_eq_true rfl⟩) (q_preV hK hAm hZ hN [.int (nI ja), .int (nI jb), .int (nI jc)] (0) 2 (by decide) h0 rfl) rfl rfl hl.1 rfl (lv_room (Nat.le_of_ble_eq_true rfl)) d_Law_least_7 ⟨Nat.zero_le _, Nat.zero_le _⟩) hZ (fun r u_r H locs h_r hZ => ?_)
  have hk0 : ∀ y, 43 ≤ y → u_r y = w y := h_r.2
  have h51 := (hk0 51 (by omega)).trans h51
  refine lv_if_eq (tgt := 17) hx hb d_Law_least_10 (by decide) (fun h10 => ?_) (fun h10 => ?_)
  · skip
    refine lv_lconst (v := 0) hx hb d_Law_least_17 rfl ?_
    refine q_last hx hb hK hZ (51) 1 (0) (by decide) h51 rfl rfl (by omega) (by decide) d_Law_least_18 (fun H locs hZ => ?_)
    have hZ : sZ (dC, dI) vCl 52 ad (fun q => N0 ≤ q) s.heap (va_up u_r 51 (.inl (cL, 1, .inr (.inl (vp_updL o 0 0))))) H locs := hZ
    have h51 : va_up u_r 51 (.inl (cL, 1, .inr (.inl (vp_updL o 0 0)))) 51 = .inl (cL, 1, .inr (.inl (vp_updL o 0 0))) := va_up_self _ _ _
    have hk1 : ∀ y, 43 ≤ y → ¬ y = 51 → va_up u_r 51 (.inl (cL, 1, .inr (.inl (vp_updL o 0 0)))) y = w y := fun y h1 h2 => (va_up_ne _ _ h2).trans (hk0 y h1)
    have hlo : ∀ x, x < 43 → va_up u_r 51 (.inl (cL, 1, .inr (.inl (vp_updL o 0 0)))) x = u_r x := fun x h1 => va_up_ne _ _ (by omega)
    have ho : (vp_updL o 0 0) 0 = 0 := updL_s
    generalize va_up u_r 51 (.inl (cL, 1, .inr (.inl (vp_updL o 0 0)))) = w9 at hZ h51 hk1 hlo
    generalize (vp_updL o 0 0) = o2 at h51 ho
    refine lv_goto (tgt := 26) hx hb d_Law_least_19 (by decide) ?_
    refine lv_iconst (v := (nI 0)) hx hb d_Law_least_26 rfl ?_
    exact q_iret hx hb hr hlocks hK hAm hZ hN (⟨rfl, hk1, o2, h51, (by first | exact Or.inl ⟨(b3T h_r.1 h10).1, ho, sC_fr (b3T h_r.1 h10).2 hlo⟩ | exact Or.inr ⟨(b3F h_r.1 h10).1, ho, sC_fr (b3F h_r.1 h10).2 hlo⟩)⟩) d_Law_least_27
  · skip
    refine lv_lconst (v := 1) hx hb d_Law_least_13 rfl ?_
    refine lv_goto (tgt := 18) hx hb d_Law_least_14 (by decide) ?_
    refine q_last hx hb hK hZ (51) 1 (0) (by decide) h51 rfl rfl (by omega) (by decide) d_Law_least_18 (fun H locs hZ => ?_)
    have hZ : sZ (dC, dI) vCl 52 ad (fun q => N0 ≤ q) s.heap (va_up u_r 51 (.inl (cL, 1, .inr (.inl (vp_updL o 0 1))))) H locs := hZ
    have h51 : va_up u_r 51 (.inl (cL, 1, .inr (.inl (vp_updL o 0 1)))) 51 = .inl (cL, 1, .inr (.inl (vp_updL o 0 1))) := va_up_self _ _ _
    have hk1 : ∀ y, 43 ≤ y → ¬ y = 51 → va_up u_r 51 (.inl (cL, 1, .inr (.inl (vp_updL o 0 1)))) y = w y := fun y h1 h2 => (va_up_ne _ _ h2).trans (hk0 y h1)
    have hlo : ∀ x, x < 43 → va_up u_r 51 (.inl (cL, 1, .inr (.inl (vp_updL o 0 1)))) x = u_r x := fun x h1 => va_up_ne _ _ (by omega)
    have ho : (vp_updL o 0 1) 0 = 1 := updL_s
    generalize va_up u_r 51 (.inl (cL, 1, .inr (.inl (vp_updL o 0 1)))) = w9 at hZ h51 hk1 hlo
    generalize (vp_updL o 0 1) = o2 at h51 ho
    refine lv_goto (tgt := 26) hx hb d_Law_least_19 (by decide) ?_
    refine lv_iconst (v := (nI 0)) hx hb d_Law_least_26 rfl ?_
    exact q_iret hx hb hr hlocks hK hAm hZ hN (⟨rfl, hk1, o2, h51, (by first | exact Or.inl ⟨(b3T h_r.1 h10).1, ho, sC_fr (b3T h_r.1 h10).2 hlo⟩ | exact Or.inr ⟨(b3F h_r.1 h10).1, ho, sC_fr (b3F h_r.1 h10).2 hlo⟩)⟩) d_Law_least_27
set_option maxHeartbeats 4000000 in
set_option maxRecDepth 100000 in
theorem c_Law_times (l : Launch) (dC : Nat → ClassId) (dI : Nat → Nat → Nat) (cI cL cB : ClassId) (ad : Nat → Nat) (N0 : Nat) (w : Nat → va_E) (F : Nat → Int → Int64) (ja : Nat) (v : Int64) (jc : Nat) (o : Nat → Int64) (hC : sC ad cI cL cB w F) (hja : ja < 8) (hjc : jc < 8) (h51 : w 51 = .inl (cL, 1, .inr (.inl o))) : Met l y_Law_times ws_Law_times ({ frames := 2, cells := 0, slots := 0, locals := 51 } : Room) (va_Pc [.ref (ad 0), .int (nI ja), .long v, .int (nI jc), .ref (ad 51)] (sPr (dC, dI) vCl [(cI, .int), (cL, .long), (cB, .object "CoinBag$Bag")] 52 ad N0 w)) (va_Qi (fun r u => r = nI 0 ∧ (∀ y, 43 ≤ y → ¬ y = 51 → u y = w y) ∧ ∃ o2 : Nat → Int64, u 51 = .inl (cL, 1, .inr (.inl o2)) ∧ (((∀ y, fM (F ja y) v) ∧ o2 0 = 1 ∧ sC ad cI cL cB u (va_up F jc (gT (F ja) v))) ∨ (¬ (∀ y, fM (F ja y) v) ∧ o2 0 = 0 ∧ sC ad cI cL cB u F))) (sPr (dC, dI) vCl [(cI, .int), (cL, .long), (cB, .object "CoinBag$Bag")] 52 ad N0) (fun q => N0 ≤ q)) 0 0 (fun q => N0 ≤ q) := by
  refine va_MetW (cc := b_Law_times) (maxL := 7) (ret := (some .int)) (hh := [(0, 20, 23, 13)]) (by decide) rfl ?_
  intro p e s m args below meth c s₁ B hml hv
  obtain ⟨rfl, hP, hK, hD, hN, hAm⟩ := hv
  have hx := B.exec
  have hb := B.bytes
  have hr := B.returns
  have hts := atoms_spec (ws := ws_Law_times) B.pre
  have hown : s.vm.findClass "CoinBagLaw" = some m.cls := findClass_of_methodNamed B.named
  have hlocks := B.notSynchronized
  have hZ : sZ (dC, dI) vCl 52 ad (fun q => N0 ≤ q) s.heap w s.heap [] := ⟨hP, hD, va_S.rf⟩
  have hl := lv_entry ([.ref (ad 0), .int (nI ja), .long v, .int (nI jc), .ref (ad 51)]) (n := 7) (Nat.le_of_ble_eq_true rfl)
  rw [lg_entry_eq]
  generalize (lg_sl ([.ref (ad 0), .int (nI ja), .long v, .int (nI jc), .ref (ad 51)]) ++ List.replicate (7 - (lg_sl ([.ref (ad 0), .int (nI ja), .long v, .int (nI jc), .ref (ad 51)])).length) Slot.unset).toArray = ls at hl ⊢
  have hl : lv_has ls 7 [(0, .ref (ad 0)), (1, .int (nI ja)), (2, .long v), (4, .int (nI jc)), (5, .ref (ad 51))] := hl
  obtain ⟨fs0, h0⟩ := sC_0 hC
  refine lv_aload hx hb d_Law_times_0 (lv_at hl 4 rfl) ?_
  refine lv_iconst (v := (nI 0)) hx hb d_Law_times_2 rfl ?_
  refine lv_aload_n hx hb d_Law_times_3 rfl (lv_at hl 0 rfl) ?_
  refine lv_iload_n hx hb d_Law_times_4 rfl (lv_at hl 1 rfl) ?_
  refine lv_lload_n hx hb d_Law_times_5 rfl (lv_at hl 2 rfl) ?_
  refine lv_iload hx hb d_Law_times_6 (lv_at hl 3 rfl) ?_
  refine q_calli (va_runV (As := [.int (nI ja), .long v, .int (nI jc)]) (rest := [.int (nI 0), .ref (ad 51)]) ⟨hx, hb, hml, hown, hts⟩ (c_CB_times l dC dI cI cL cB ad N0 w F ja v jc hC hja hjc) (cwV 3 hts (gI_V k_316 k_313 k_314 k_315 k_21) rfl rfl rfl (by decide +kernel) ⟨Nat.le_of_ble_eq_true rfl, Nat.le_of_ble_eq_true rfl⟩) (q_preV hK hAm hZ hN [.int (nI ja), .long v, .int (nI jc)] (0) 2 (by decide) h0 rfl) rfl rfl hl.1 rfl (lv_room (Nat.le_of_ble_eq_true rfl)) d_Law_times_8 ⟨Nat.zero_le _, Nat.zero_le _⟩) hZ (fun r u_r H locs h_r hZ => ?_)
  have hk0 : ∀ y, 43 ≤ y → u_r y = w y := h_r.2
  have h51 := (hk0 51 (by omega)).trans h51
  refine lv_if_eq (tgt := 18) hx hb d_Law_times_11 (by decide) (fun h11 => ?_) (fun h11 => ?_)
  · skip
    refine lv_lconst (v := 0) hx hb d_Law_times_18 rfl ?_
    refine q_last hx hb hK hZ (51) 1 (0) (by decide) h51 rfl rfl (by omega) (by decide) d_Law_times_19 (fun H locs hZ => ?_)
    have hZ : sZ (dC, dI) vCl 52 ad (fun q => N0 ≤ q) s.heap (va_up u_r 51 (.inl (cL, 1, .inr (.inl (vp_updL o 0 0))))) H locs := hZ
    have h51 : va_up u_r 51 (.inl (cL, 1, .inr (.inl (vp_updL o 0 0)))) 51 = .inl (cL, 1, .inr (.inl (vp_updL o 0 0))) := va_up_self _ _ _
    have hk1 : ∀ y, 43 ≤ y → ¬ y = 51 → va_up u_r 51 (.inl (cL, 1, .inr (.inl (vp_updL o 0 0)))) y = w y := fun y h1 h2 => (va_up_ne _ _ h2).trans (hk0 y h1)
    have hlo : ∀ x, x < 43 → va_up u_r 51 (.inl (cL, 1, .inr (.inl (vp_updL o 0 0)))) x = u_r x := fun x h1 => va_up_ne _ _ (by omega)
    have ho : (vp_updL o 0 0) 0 = 0 := updL_s
    generalize va_up u_r 51 (.inl (cL, 1, .inr (.inl (vp_updL o 0 0)))) = w9 at hZ h51 hk1 hlo
    generalize (vp_updL o 0 0) = o2 at h51 ho
    refine lv_goto (tgt := 27) hx hb d_Law_times_20 (by decide) ?_
    refine lv_iconst (v := (nI 0)) hx hb d_Law_times_27 rfl ?_
    exact q_iret hx hb hr hlocks hK hAm hZ hN (⟨rfl, hk1, o2, h51, (by first | exact Or.inl ⟨(b3T h_r.1 h11).1, ho, sC_fr (b3T h_r.1 h11).2 hlo⟩ | exact Or.inr ⟨(b3F h_r.1 h11).1, ho, sC_fr (b3F h_r.1 h11).2 hlo⟩)⟩) d_Law_times_28
  · skip
    refine lv_lconst (v := 1) hx hb d_Law_times_14 rfl ?_
    refine lv_goto (tgt := 19) hx hb d_Law_times_15 (by decide) ?_
    refine q_last hx hb hK hZ (51) 1 (0) (by decide) h51 rfl rfl (by omega) (by decide) d_Law_times_19 (fun H locs hZ => ?_)
    have hZ : sZ (dC, dI) vCl 52 ad (fun q => N0 ≤ q) s.heap (va_up u_r 51 (.inl (cL, 1, .inr (.inl (vp_updL o 0 1))))) H locs := hZ
    have h51 : va_up u_r 51 (.inl (cL, 1, .inr (.inl (vp_updL o 0 1)))) 51 = .inl (cL, 1, .inr (.inl (vp_updL o 0 1))) := va_up_self _ _ _
    have hk1 : ∀ y, 43 ≤ y → ¬ y = 51 → va_up u_r 51 (.inl (cL, 1, .inr (.inl (vp_updL o 0 1)))) y = w y := fun y h1 h2 => (va_up_ne _ _ h2).trans (hk0 y h1)
    have hlo : ∀ x, x < 43 → va_up u_r 51 (.inl (cL, 1, .inr (.inl (vp_updL o 0 1)))) x = u_r x := fun x h1 => va_up_ne _ _ (by omega)
    have ho : (vp_updL o 0 1) 0 = 1 := updL_s
    generalize va_up u_r 51 (.inl (cL, 1, .inr (.inl (vp_updL o 0 1)))) = w9 at hZ h51 hk1 hlo
    generalize (vp_updL o 0 1) = o2 at h51 ho
    refine lv_goto (tgt := 27) hx hb d_Law_times_20 (by decide) ?_
    refine lv_iconst (v := (nI 0)) hx hb d_Law_times_27 rfl ?_
    exact q_iret hx hb hr hlocks hK hAm hZ hN (⟨rfl, hk1, o2, h51, (by first | exact Or.inl ⟨(b3T h_r.1 h11).1, ho, sC_fr (b3T h_r.1 h11).2 hlo⟩ | exact Or.inr ⟨(b3F h_r.1 h11).1, ho, sC_fr (b3F h_r.1 h11).2 hlo⟩)⟩) d_Law_times_28
set_option maxHeartbeats 4000000 in
set_option maxRecDepth 100000 in
theorem c_Law_part (l : Launch) (dC : Nat → ClassId) (dI : Nat → Nat → Nat) (cI cL cB : ClassId) (ad : Nat → Nat) (N0 : Nat) (w : Nat → va_E) (F : Nat → Int → Int64) (ja : Nat) (sg : Int32) (jc : Nat) (o : Nat → Int64) (hC : sC ad cI cL cB w F) (hja : ja < 8) (hjc : jc < 8) (h51 : w 51 = .inl (cL, 1, .inr (.inl o))) : Met l y_Law_part ws_Law_part ({ frames := 2, cells := 0, slots := 0, locals := 52 } : Room) (va_Pc [.ref (ad 0), .int (nI ja), .int sg, .int (nI jc), .ref (ad 51)] (sPr (dC, dI) vCl [(cI, .int), (cL, .long), (cB, .object "CoinBag$Bag")] 52 ad N0 w)) (va_Qi (fun r u => r = nI 0 ∧ (∀ y, 43 ≤ y → ¬ y = 51 → u y = w y) ∧ ∃ o2 : Nat → Int64, u 51 = .inl (cL, 1, .inr (.inl o2)) ∧ ((((sg = 1 ∨ sg = -1) ∧ ∀ y, gPs (F ja y) sg → fM (F ja y) sg.toInt64) ∧ o2 0 = 1 ∧ sC ad cI cL cB u (va_up F jc (gP (F ja) sg))) ∨ (¬ ((sg = 1 ∨ sg = -1) ∧ ∀ y, gPs (F ja y) sg → fM (F ja y) sg.toInt64) ∧ o2 0 = 0 ∧ sC ad cI cL cB u F))) (sPr (dC, dI) vCl [(cI, .int), (cL, .long), (cB, .object "CoinBag$Bag")] 52 ad N0) (fun q => N0 ≤ q)) 0 0 (fun q => N0 ≤ q) := by
  refine va_MetW (cc := b_Law_part) (maxL := 6) (ret := (some .int)) (hh := [(0, 19, 22, 13)]) (by decide) rfl ?_
  intro p e s m args below meth c s₁ B hml hv
  obtain ⟨rfl, hP, hK, hD, hN, hAm⟩ := hv
  have hx := B.exec
  have hb := B.bytes
  have hr := B.returns
  have hts := atoms_spec (ws := ws_Law_part) B.pre
  have hown : s.vm.findClass "CoinBagLaw" = some m.cls := findClass_of_methodNamed B.named
  have hlocks := B.notSynchronized
  have hZ : sZ (dC, dI) vCl 52 ad (fun q => N0 ≤ q) s.heap w s.heap [] := ⟨hP, hD, va_S.rf⟩
  have hl := lv_entry ([.ref (ad 0), .int (nI ja), .int sg, .int (nI jc), .ref (ad 51)]) (n := 6) (Nat.le_of_ble_eq_true rfl)
  rw [lg_entry_eq]
  generalize (lg_sl ([.ref (ad 0), .int (nI ja), .int sg, .int (nI jc), .ref (ad 51)]) ++ List.replicate (6 - (lg_sl ([.ref (ad 0), .int (nI ja), .int sg, .int (nI jc), .ref (ad 51)])).length) Slot.unset).toArray = ls at hl ⊢
  have hl : lv_has ls 6 [(0, .ref (ad 0)), (1, .int (nI ja)), (2, .int sg), (3, .int (nI jc)), (4, .ref (ad 51))] := hl
  obtain ⟨fs0, h0⟩ := sC_0 hC
  refine lv_aload hx hb d_Law_part_0 (lv_at hl 4 rfl) ?_
  refine lv_iconst (v := (nI 0)) hx hb d_Law_part_2 rfl ?_
  refine lv_aload_n hx hb d_Law_part_3 rfl (lv_at hl 0 rfl) ?_
  refine lv_iload_n hx hb d_Law_part_4 rfl (lv_at hl 1 rfl) ?_
  refine lv_iload_n hx hb d_Law_part_5 rfl (lv_at hl 2 rfl) ?_
  refine lv_iload_n hx hb d_Law_part_6 rfl (lv_at hl 3 rfl) ?_
  refine q_calli (va_runV (As := [.int (nI ja), .int sg, .int (nI jc)]) (rest := [.int (nI 0), .ref (ad 51)]) ⟨hx, hb, hml, hown, hts⟩ (c_CB_part l dC dI cI cL cB ad N0 w F ja sg jc hC hja hjc) (cwV 3 hts (gI_V k_334 k_331 k_332 k_333 k_21) rfl rfl rfl (by decide +kernel) ⟨Nat.le_of_ble_eq_true rfl, Nat.le_of_ble_eq_true rfl⟩) (q_preV hK hAm hZ hN [.int (nI ja), .int sg, .int (nI jc)] (0) 2 (by decide) h0 rfl) rfl rfl hl.1 rfl (lv_room (Nat.le_of_ble_eq_true rfl)) d_Law_part_7 ⟨Nat.zero_le _, Nat.zero_le _⟩) hZ (fun r u_r H locs h_r hZ => ?_)
  have hk0 : ∀ y, 43 ≤ y → u_r y = w y := h_r.2
  have h51 := (hk0 51 (by omega)).trans h51
  refine lv_if_eq (tgt := 17) hx hb d_Law_part_10 (by decide) (fun h10 => ?_) (fun h10 => ?_)
  · skip
    refine lv_lconst (v := 0) hx hb d_Law_part_17 rfl ?_
    refine q_last hx hb hK hZ (51) 1 (0) (by decide) h51 rfl rfl (by omega) (by decide) d_Law_part_18 (fun H locs hZ => ?_)
    have hZ : sZ (dC, dI) vCl 52 ad (fun q => N0 ≤ q) s.heap (va_up u_r 51 (.inl (cL, 1, .inr (.inl (vp_updL o 0 0))))) H locs := hZ
    have h51 : va_up u_r 51 (.inl (cL, 1, .inr (.inl (vp_updL o 0 0)))) 51 = .inl (cL, 1, .inr (.inl (vp_updL o 0 0))) := va_up_self _ _ _
    have hk1 : ∀ y, 43 ≤ y → ¬ y = 51 → va_up u_r 51 (.inl (cL, 1, .inr (.inl (vp_updL o 0 0)))) y = w y := fun y h1 h2 => (va_up_ne _ _ h2).trans (hk0 y h1)
    have hlo : ∀ x, x < 43 → va_up u_r 51 (.inl (cL, 1, .inr (.inl (vp_updL o 0 0)))) x = u_r x := fun x h1 => va_up_ne _ _ (by omega)
    have ho : (vp_updL o 0 0) 0 = 0 := updL_s
    generalize va_up u_r 51 (.inl (cL, 1, .inr (.inl (vp_updL o 0 0)))) = w9 at hZ h51 hk1 hlo
    generalize (vp_updL o 0 0) = o2 at h51 ho
    refine lv_goto (tgt := 26) hx hb d_Law_part_19 (by decide) ?_
    refine lv_iconst (v := (nI 0)) hx hb d_Law_part_26 rfl ?_
    exact q_iret hx hb hr hlocks hK hAm hZ hN (⟨rfl, hk1, o2, h51, (by first | exact Or.inl ⟨(b3T h_r.1 h10).1, ho, sC_fr (b3T h_r.1 h10).2 hlo⟩ | exact Or.inr ⟨(b3F h_r.1 h10).1, ho, sC_fr (b3F h_r.1 h10).2 hlo⟩)⟩) d_Law_part_27
  · skip
    refine lv_lconst (v := 1) hx hb d_Law_part_13 rfl ?_
    refine lv_goto (tgt := 18) hx hb d_Law_part_14 (by decide) ?_
    refine q_last hx hb hK hZ (51) 1 (0) (by decide) h51 rfl rfl (by omega) (by decide) d_Law_part_18 (fun H locs hZ => ?_)
    have hZ : sZ (dC, dI) vCl 52 ad (fun q => N0 ≤ q) s.heap (va_up u_r 51 (.inl (cL, 1, .inr (.inl (vp_updL o 0 1))))) H locs := hZ
    have h51 : va_up u_r 51 (.inl (cL, 1, .inr (.inl (vp_updL o 0 1)))) 51 = .inl (cL, 1, .inr (.inl (vp_updL o 0 1))) := va_up_self _ _ _
    have hk1 : ∀ y, 43 ≤ y → ¬ y = 51 → va_up u_r 51 (.inl (cL, 1, .inr (.inl (vp_updL o 0 1)))) y = w y := fun y h1 h2 => (va_up_ne _ _ h2).trans (hk0 y h1)
    have hlo : ∀ x, x < 43 → va_up u_r 51 (.inl (cL, 1, .inr (.inl (vp_updL o 0 1)))) x = u_r x := fun x h1 => va_up_ne _ _ (by omega)
    have ho : (vp_updL o 0 1) 0 = 1 := updL_s
    generalize va_up u_r 51 (.inl (cL, 1, .inr (.inl (vp_updL o 0 1)))) = w9 at hZ h51 hk1 hlo
    generalize (vp_updL o 0 1) = o2 at h51 ho
    refine lv_goto (tgt := 26) hx hb d_Law_part_19 (by decide) ?_
    refine lv_iconst (v := (nI 0)) hx hb d_Law_part_26 rfl ?_
    exact q_iret hx hb hr hlocks hK hAm hZ hN (⟨rfl, hk1, o2, h51, (by first | exact Or.inl ⟨(b3T h_r.1 h10).1, ho, sC_fr (b3T h_r.1 h10).2 hlo⟩ | exact Or.inr ⟨(b3F h_r.1 h10).1, ho, sC_fr (b3F h_r.1 h10).2 hlo⟩)⟩) d_Law_part_27
set_option maxHeartbeats 4000000 in
set_option maxRecDepth 100000 in
theorem c_Law_only (l : Launch) (dC : Nat → ClassId) (dI : Nat → Nat → Nat) (cI cL cB : ClassId) (ad : Nat → Nat) (N0 : Nat) (w : Nat → va_E) (F : Nat → Int → Int64) (ja : Nat) (q iz : Int32) (jc : Nat) (hC : sC ad cI cL cB w F) (hja : ja < 8) (hjc : jc < 8) (hq : ¬ q < 0 ∧ ¬ 65536 ≤ q) (hiz : iz = 0 ∨ iz = 1) : Met l y_Law_only ws_Law_only ({ frames := 2, cells := 0, slots := 0, locals := 51 } : Room) (va_Pc [.ref (ad 0), .int (nI ja), .int q, .int iz, .int (nI jc)] (sPr (dC, dI) vCl [(cI, .int), (cL, .long), (cB, .object "CoinBag$Bag")] 52 ad N0 w)) (va_Qi (fun r u => r = nI 0 ∧ (∀ y, 43 ≤ y → u y = w y) ∧ sC ad cI cL cB u (va_up F jc (gO (F ja) q iz))) (sPr (dC, dI) vCl [(cI, .int), (cL, .long), (cB, .object "CoinBag$Bag")] 52 ad N0) (fun q => N0 ≤ q)) 0 0 (fun q => N0 ≤ q) := by
  refine va_MetW (cc := b_Law_only) (maxL := 6) (ret := (some .int)) (hh := [(0, 9, 12, 13), (0, 9, 16, 15)]) (by decide) rfl ?_
  intro p e s m args below meth c s₁ B hml hv
  obtain ⟨rfl, hP, hK, hD, hN, hAm⟩ := hv
  have hx := B.exec
  have hb := B.bytes
  have hr := B.returns
  have hts := atoms_spec (ws := ws_Law_only) B.pre
  have hown : s.vm.findClass "CoinBagLaw" = some m.cls := findClass_of_methodNamed B.named
  have hlocks := B.notSynchronized
  have hZ : sZ (dC, dI) vCl 52 ad (fun q => N0 ≤ q) s.heap w s.heap [] := ⟨hP, hD, va_S.rf⟩
  have hl := lv_entry ([.ref (ad 0), .int (nI ja), .int q, .int iz, .int (nI jc)]) (n := 6) (Nat.le_of_ble_eq_true rfl)
  rw [lg_entry_eq]
  generalize (lg_sl ([.ref (ad 0), .int (nI ja), .int q, .int iz, .int (nI jc)]) ++ List.replicate (6 - (lg_sl ([.ref (ad 0), .int (nI ja), .int q, .int iz, .int (nI jc)])).length) Slot.unset).toArray = ls at hl ⊢
  have hl : lv_has ls 6 [(0, .ref (ad 0)), (1, .int (nI ja)), (2, .int q), (3, .int iz), (4, .int (nI jc))] := hl
  obtain ⟨fs0, h0⟩ := sC_0 hC
  refine lv_aload_n hx hb d_Law_only_0 rfl (lv_at hl 0 rfl) ?_
  refine lv_iload_n hx hb d_Law_only_1 rfl (lv_at hl 1 rfl) ?_
  refine lv_iload_n hx hb d_Law_only_2 rfl (lv_at hl 2 rfl) ?_
  refine lv_iload_n hx hb d_Law_only_3 rfl (lv_at hl 3 rfl) ?_
  refine lv_iload hx hb d_Law_only_4 (lv_at hl 4 rfl) ?_
  refine q_callv (va_runV (As := [.int (nI ja), .int q, .int iz, .int (nI jc)]) (rest := []) ⟨hx, hb, hml, hown, hts⟩ (c_CB_only l dC dI cI cL cB ad N0 w F ja q iz jc hC hja hjc hq hiz) (cwV 4 hts (gI_V k_327 k_324 k_325 k_326 k_21) rfl rfl rfl (by decide +kernel) ⟨Nat.le_of_ble_eq_true rfl, Nat.le_of_ble_eq_true rfl⟩) (q_preV hK hAm hZ hN [.int (nI ja), .int q, .int iz, .int (nI jc)] (0) 2 (by decide) h0 rfl) rfl rfl hl.1 rfl (lv_room (Nat.le_of_ble_eq_true rfl)) d_Law_only_6 ⟨Nat.zero_le _, Nat.zero_le _⟩) hZ (fun u_r H locs h_r hZ => ?_)
  refine lv_goto (tgt := 20) hx hb d_Law_only_9 (by decide) ?_
  refine lv_iconst (v := (nI 0)) hx hb d_Law_only_20 rfl ?_
  exact q_iret hx hb hr hlocks hK hAm hZ hN (⟨rfl, h_r.2, h_r.1⟩) d_Law_only_21
set_option maxHeartbeats 4000000 in
set_option maxRecDepth 100000 in
theorem c_Law_clear (l : Launch) (dC : Nat → ClassId) (dI : Nat → Nat → Nat) (cI cL cB : ClassId) (ad : Nat → Nat) (N0 : Nat) (w : Nat → va_E) (F : Nat → Int → Int64) (j : Nat) (hC : sC ad cI cL cB w F) (hj : j < 8) : Met l y_Law_clear ws_Law_clear ({ frames := 2, cells := 0, slots := 0, locals := 41 } : Room) (va_Pc [.ref (ad 0), .int (nI j)] (sPr (dC, dI) vCl [(cI, .int), (cL, .long), (cB, .object "CoinBag$Bag")] 52 ad N0 w)) (va_Qi (fun r u => r = nI 0 ∧ (∀ y, 43 ≤ y → u y = w y) ∧ sC ad cI cL cB u (va_up F j (fun _ => 0))) (sPr (dC, dI) vCl [(cI, .int), (cL, .long), (cB, .object "CoinBag$Bag")] 52 ad N0) (fun q => N0 ≤ q)) 0 0 (fun q => N0 ≤ q) := by
  refine va_MetW (cc := b_Law_clear) (maxL := 3) (ret := (some .int)) (hh := [(0, 5, 8, 13)]) (by decide) rfl ?_
  intro p e s m args below meth c s₁ B hml hv
  obtain ⟨rfl, hP, hK, hD, hN, hAm⟩ := hv
  have hx := B.exec
  have hb := B.bytes
  have hr := B.returns
  have hts := atoms_spec (ws := ws_Law_clear) B.pre
  have hown : s.vm.findClass "CoinBagLaw" = some m.cls := findClass_of_methodNamed B.named
  have hlocks := B.notSynchronized
  have hZ : sZ (dC, dI) vCl 52 ad (fun q => N0 ≤ q) s.heap w s.heap [] := ⟨hP, hD, va_S.rf⟩
  have hl := lv_entry ([.ref (ad 0), .int (nI j)]) (n := 3) (Nat.le_of_ble_eq_true rfl)
  rw [lg_entry_eq]
  generalize (lg_sl ([.ref (ad 0), .int (nI j)]) ++ List.replicate (3 - (lg_sl ([.ref (ad 0), .int (nI j)])).length) Slot.unset).toArray = ls at hl ⊢
  have hl : lv_has ls 3 [(0, .ref (ad 0)), (1, .int (nI j))] := hl
  obtain ⟨fs0, h0⟩ := sC_0 hC
  refine lv_aload_n hx hb d_Law_clear_0 rfl (lv_at hl 0 rfl) ?_
  refine lv_iload_n hx hb d_Law_clear_1 rfl (lv_at hl 1 rfl) ?_
  refine q_callv (va_runV (As := [.int (nI j)]) (rest := []) ⟨hx, hb, hml, hown, hts⟩ (c_CB_clear l dC dI cI cL cB ad N0 w F j hC hj) (cwV 1 hts (gI_V k_341 k_338 k_339 k_340 k_21) rfl rfl rfl (by decide +kernel) ⟨Nat.le_of_ble_eq_true rfl, Nat.le_of_ble_eq_true rfl⟩) (q_preV hK hAm hZ hN [.int (nI j)] (0) 2 (by decide) h0 rfl) rfl rfl hl.1 rfl (lv_room (Nat.le_of_ble_eq_true rfl)) d_Law_clear_2 ⟨Nat.zero_le _, Nat.zero_le _⟩) hZ (fun u_r H locs h_r hZ => ?_)
  refine lv_goto (tgt := 11) hx hb d_Law_clear_5 (by decide) ?_
  refine lv_iconst (v := (nI 0)) hx hb d_Law_clear_11 rfl ?_
  exact q_iret hx hb hr hlocks hK hAm hZ hN (⟨rfl, h_r.2, h_r.1⟩) d_Law_clear_12
set_option maxHeartbeats 4000000 in
set_option maxRecDepth 100000 in
theorem c_Law_amount (l : Launch) (dC : Nat → ClassId) (dI : Nat → Nat → Nat) (cI cL cB : ClassId) (ad : Nat → Nat) (N0 : Nat) (w : Nat → va_E) (F : Nat → Int → Int64) (j : Nat) (q : Int32) (x : Int64) (o : Nat → Int64) (hC : sC ad cI cL cB w F) (hj : j < 8) (hq : ¬ q < 0 ∧ ¬ 65536 ≤ q) (h51 : w 51 = .inl (cL, 1, .inr (.inl o))) : Met l y_Law_amount ws_Law_amount ({ frames := 6, cells := 0, slots := 0, locals := 143 } : Room) (va_Pc [.ref (ad 0), .int (nI j), .int q, .long x, .ref (ad 51)] (sPr (dC, dI) vCl [(cI, .int), (cL, .long), (cB, .object "CoinBag$Bag")] 52 ad N0 w)) (va_Qi (fun r u => r = nI 0 ∧ (∀ y, 43 ≤ y → ¬ y = 51 → u y = w y) ∧ ∃ o2 : Nat → Int64, u 51 = .inl (cL, 1, .inr (.inl o2)) ∧ sC ad cI cL cB u F ∧ o2 0 = F j (kv q x)) (sPr (dC, dI) vCl [(cI, .int), (cL, .long), (cB, .object "CoinBag$Bag")] 52 ad N0) (fun q => N0 ≤ q)) 0 0 (fun q => N0 ≤ q) := by
  refine va_MetW (cc := b_Law_amount) (maxL := 7) (ret := (some .int)) (hh := [(0, 11, 14, 13), (0, 11, 18, 15)]) (by decide) rfl ?_
  intro p e s m args below meth c s₁ B hml hv
  obtain ⟨rfl, hP, hK, hD, hN, hAm⟩ := hv
  have hx := B.exec
  have hb := B.bytes
  have hr := B.returns
  have hts := atoms_spec (ws := ws_Law_amount) B.pre
  have hown : s.vm.findClass "CoinBagLaw" = some m.cls := findClass_of_methodNamed B.named
  have hlocks := B.notSynchronized
  have hZ : sZ (dC, dI) vCl 52 ad (fun q => N0 ≤ q) s.heap w s.heap [] := ⟨hP, hD, va_S.rf⟩
  have hl := lv_entry ([.ref (ad 0), .int (nI j), .int q, .long x, .ref (ad 51)]) (n := 7) (Nat.le_of_ble_eq_true rfl)
  rw [lg_entry_eq]
  generalize (lg_sl ([.ref (ad 0), .int (nI j), .int q, .long x, .ref (ad 51)]) ++ List.replicate (7 - (lg_sl ([.ref (ad 0), .int (nI j), .int q, .long x, .ref (ad 51)])).length) Slot.unset).toArray = ls at hl ⊢
  have hl : lv_has ls 7 [(0, .ref (ad 0)), (1, .int (nI j)), (2, .int q), (3, .long x), (5, .ref (ad 51))] := hl
  obtain ⟨fs0, h0⟩ := sC_0 hC
  refine lv_aload hx hb d_Law_amount_0 (lv_at hl 4 rfl) ?_
  refine lv_iconst (v := (nI 0)) hx hb d_Law_amount_2 rfl ?_
  refine lv_aload_n hx hb d_Law_amount_3 rfl (lv_at hl 0 rfl) ?_
  refine lv_iload_n hx hb d_Law_amount_4 rfl (lv_at hl 1 rfl) ?_
  refine lv_iload_n hx hb d_Law_amount_5 rfl (lv_at hl 2 rfl) ?_
  refine lv_lload_n hx hb d_Law_amount_6 rfl (lv_at hl 3 rfl) ?_
  refine q_calll (va_runV (As := [.int (nI j), .int q, .long x]) (rest := [.int (nI 0), .ref (ad 51)]) ⟨hx, hb, hml, hown, hts⟩ (c_CB_amount l dC dI cI cL cB ad N0 w F j q x hC hj hq) (cwV 3 hts (gI_V k_348 k_345 k_346 k_347 k_21) rfl rfl rfl (by decide +kernel) ⟨Nat.le_of_ble_eq_true rfl, Nat.le_of_ble_eq_true rfl⟩) (q_preV hK hAm hZ hN [.int (nI j), .int q, .long x] (0) 2 (by decide) h0 rfl) rfl rfl hl.1 rfl (lv_room (Nat.le_of_ble_eq_true rfl)) d_Law_amount_7 ⟨Nat.zero_le _, Nat.zero_le _⟩) hZ (fun r u_r H locs h_r hZ => ?_)
  have hk0 : ∀ y, 43 ≤ y → u_r y = w y := (fun y _ => by rw [h_r.1])
  have h51 := (hk0 51 (by omega)).trans h51
  refine q_last hx hb hK hZ (51) 1 (0) (by decide) h51 rfl rfl (by omega) (by decide) d_Law_amount_10 (fun H locs hZ => ?_)
  have hZ : sZ (dC, dI) vCl 52 ad (fun q => N0 ≤ q) s.heap (va_up u_r 51 (.inl (cL, 1, .inr (.inl (vp_updL o 0 r))))) H locs := hZ
  have h51 : va_up u_r 51 (.inl (cL, 1, .inr (.inl (vp_updL o 0 r)))) 51 = .inl (cL, 1, .inr (.inl (vp_updL o 0 r))) := va_up_self _ _ _
  have hk1 : ∀ y, 43 ≤ y → ¬ y = 51 → va_up u_r 51 (.inl (cL, 1, .inr (.inl (vp_updL o 0 r)))) y = w y := fun y h1 h2 => (va_up_ne _ _ h2).trans (hk0 y h1)
  have hlo : ∀ x, x < 43 → va_up u_r 51 (.inl (cL, 1, .inr (.inl (vp_updL o 0 r)))) x = u_r x := fun x h1 => va_up_ne _ _ (by omega)
  have ho : (vp_updL o 0 r) 0 = r := updL_s
  generalize va_up u_r 51 (.inl (cL, 1, .inr (.inl (vp_updL o 0 r)))) = w9 at hZ h51 hk1 hlo
  generalize (vp_updL o 0 r) = o2 at h51 ho
  refine lv_goto (tgt := 22) hx hb d_Law_amount_11 (by decide) ?_
  refine lv_iconst (v := (nI 0)) hx hb d_Law_amount_22 rfl ?_
  exact q_iret hx hb hr hlocks hK hAm hZ hN (⟨rfl, hk1, o2, h51, sC_fr (by rw [h_r.1]; exact hC) hlo, ho.trans h_r.2⟩) d_Law_amount_23
set_option maxHeartbeats 4000000 in
set_option maxRecDepth 100000 in
theorem c_Law_size (l : Launch) (dC : Nat → ClassId) (dI : Nat → Nat → Nat) (cI cL cB : ClassId) (ad : Nat → Nat) (N0 : Nat) (w : Nat → va_E) (F : Nat → Int → Int64) (j : Nat) (o : Nat → Int64) (hC : sC ad cI cL cB w F) (hj : j < 8) (h51 : w 51 = .inl (cL, 1, .inr (.inl o))) : Met l y_Law_size ws_Law_size ({ frames := 2, cells := 0, slots := 0, locals := 41 } : Room) (va_Pc [.ref (ad 0), .int (nI j), .ref (ad 51)] (sPr (dC, dI) vCl [(cI, .int), (cL, .long), (cB, .object "CoinBag$Bag")] 52 ad N0 w)) (va_Qi (fun r u => r = nI 0 ∧ (∀ y, 43 ≤ y → ¬ y = 51 → u y = w y) ∧ ∃ o2 : Nat → Int64, u 51 = .inl (cL, 1, .inr (.inl o2)) ∧ sC ad cI cL cB u F ∧ ∃ (z : Nat) (k : Nat → Int), o2 0 = (nI z).toInt64 ∧ z ≤ 64 ∧ eS z k ∧ eF z k (F j)) (sPr (dC, dI) vCl [(cI, .int), (cL, .long), (cB, .object "CoinBag$Bag")] 52 ad N0) (fun q => N0 ≤ q)) 0 0 (fun q => N0 ≤ q) := by
  refine va_MetW (cc := b_Law_size) (maxL := 4) (ret := (some .int)) (hh := [(0, 9, 12, 13)]) (by decide) rfl ?_
  intro p e s m args below meth c s₁ B hml hv
  obtain ⟨rfl, hP, hK, hD, hN, hAm⟩ := hv
  have hx := B.exec
  have hb := B.bytes
  have hr := B.returns
  have hts := atoms_spec (ws := ws_Law_size) B.pre
  have hown : s.vm.findClass "CoinBagLaw" = some m.cls := findClass_of_methodNamed B.named
  have hlocks := B.notSynchronized
  have hZ : sZ (dC, dI) vCl 52 ad (fun q => N0 ≤ q) s.heap w s.heap [] := ⟨hP, hD, va_S.rf⟩
  have hl := lv_entry ([.ref (ad 0), .int (nI j), .ref (ad 51)]) (n := 4) (Nat.le_of_ble_eq_true rfl)
  rw [lg_entry_eq]
  generalize (lg_sl ([.ref (ad 0), .int (nI j), .ref (ad 51)]) ++ List.replicate (4 - (lg_sl ([.ref (ad 0), .int (nI j), .ref (ad 51)])).length) Slot.unset).toArray = ls at hl ⊢
  have hl : lv_has ls 4 [(0, .ref (ad 0)), (1, .int (nI j)), (2, .ref (ad 51))] := hl
  obtain ⟨fs0, h0⟩ := sC_0 hC
  refine lv_aload_n hx hb d_Law_size_0 rfl (lv_at hl 2 rfl) ?_
  refine lv_iconst (v := (nI 0)) hx hb d_Law_size_1 rfl ?_
  refine lv_aload_n hx hb d_Law_size_2 rfl (lv_at hl 0 rfl) ?_
  refine lv_iload_n hx hb d_Law_size_3 rfl (lv_at hl 1 rfl) ?_
  refine q_calli (va_runV (As := [.int (nI j)]) (rest := [.int (nI 0), .ref (ad 51)]) ⟨hx, hb, hml, hown, hts⟩ (c_CB_size l dC dI cI cL cB ad N0 w F j hC hj) (cwV 1 hts (gI_V k_355 k_352 k_353 k_354 k_21) rfl rfl rfl (by decide +kernel) ⟨Nat.le_of_ble_eq_true rfl, Nat.le_of_ble_eq_true rfl⟩) (q_preV hK hAm hZ hN [.int (nI j)] (0) 2 (by decide) h0 rfl) rfl rfl hl.1 rfl (lv_room (Nat.le_of_ble_eq_true rfl)) d_Law_size_4 ⟨Nat.zero_le _, Nat.zero_le _⟩) hZ (fun r u_r H locs h_r hZ => ?_)
  have hk0 : ∀ y, 43 ≤ y → u_r y = w y := (fun y _ => by rw [h_r.1])
  have h51 := (hk0 51 (by omega)).trans h51
  refine lv_i2l (v := r.toInt64) hx hb d_Law_size_7 rfl ?_
  refine q_last hx hb hK hZ (51) 1 (0) (by decide) h51 rfl rfl (by omega) (by decide) d_Law_size_8 (fun H locs hZ => ?_)
  have hZ : sZ (dC, dI) vCl 52 ad (fun q => N0 ≤ q) s.heap (va_up u_r 51 (.inl (cL, 1, .inr (.inl (vp_updL o 0 (r.toInt64)))))) H locs := hZ
  have h51 : va_up u_r 51 (.inl (cL, 1, .inr (.inl (vp_updL o 0 (r.toInt64))))) 51 = .inl (cL, 1, .inr (.inl (vp_updL o 0 (r.toInt64)))) := va_up_self _ _ _
  have hk1 : ∀ y, 43 ≤ y → ¬ y = 51 → va_up u_r 51 (.inl (cL, 1, .inr (.inl (vp_updL o 0 (r.toInt64))))) y = w y := fun y h1 h2 => (va_up_ne _ _ h2).trans (hk0 y h1)
  have hlo : ∀ x, x < 43 → va_up u_r 51 (.inl (cL, 1, .inr (.inl (vp_updL o 0 (r.toInt64))))) x = u_r x := fun x h1 => va_up_ne _ _ (by omega)
  have ho : (vp_updL o 0 (r.toInt64)) 0 = (r.toInt64) := updL_s
  generalize va_up u_r 51 (.inl (cL, 1, .inr (.inl (vp_updL o 0 (r.toInt64))))) = w9 at hZ h51 hk1 hlo
  generalize (vp_updL o 0 (r.toInt64)) = o2 at h51 ho
  refine lv_goto (tgt := 15) hx hb d_Law_size_9 (by decide) ?_
  refine lv_iconst (v := (nI 0)) hx hb d_Law_size_15 rfl ?_
  exact q_iret hx hb hr hlocks hK hAm hZ hN (⟨rfl, hk1, o2, h51, sC_fr (by rw [h_r.1]; exact hC) hlo, (by obtain ⟨z, k, e1, e2⟩ := h_r.2; exact ⟨z, k, by rw [ho, e1], e2⟩)⟩) d_Law_size_16
set_option maxHeartbeats 4000000 in
set_option maxRecDepth 100000 in
theorem c_Law_at (l : Launch) (dC : Nat → ClassId) (dI : Nat → Nat → Nat) (cI cL cB : ClassId) (ad : Nat → Nat) (N0 : Nat) (w : Nat → va_E) (F : Nat → Int → Int64) (j i wh n : Nat) (kn : Nat → Int) (o : Nat → Int64) (hC : sC ad cI cL cB w F) (hj : j < 8) (hen : eI n kn) (hfn : eF n kn (F j)) (hin : i < n) (hwh : wh ≤ 2) (h51 : w 51 = .inl (cL, 1, .inr (.inl o))) : Met l y_Law_at ws_Law_at ({ frames := 2, cells := 0, slots := 0, locals := 44 } : Room) (va_Pc [.ref (ad 0), .int (nI j), .int (nI i), .int (nI wh), .ref (ad 51)] (sPr (dC, dI) vCl [(cI, .int), (cL, .long), (cB, .object "CoinBag$Bag")] 52 ad N0 w)) (va_Qi (fun r u => r = nI 0 ∧ (∀ y, 43 ≤ y → ¬ y = 51 → u y = w y) ∧ ∃ o2 : Nat → Int64, u 51 = .inl (cL, 1, .inr (.inl o2)) ∧ sC ad cI cL cB u F ∧ ∃ (z : Nat) (P : Nat → Int32) (N A : Nat → Int64), cRep z P N A (F j) ∧ i < z ∧ atR P N A i wh (o2 0)) (sPr (dC, dI) vCl [(cI, .int), (cL, .long), (cB, .object "CoinBag$Bag")] 52 ad N0) (fun q => N0 ≤ q)) 0 0 (fun q => N0 ≤ q) := by
  refine va_MetW (cc := b_Law_at) (maxL := 6) (ret := (some .int)) (hh := [(0, 11, 14, 13)]) (by decide) rfl ?_
  intro p e s m args below meth c s₁ B hml hv
  obtain ⟨rfl, hP, hK, hD, hN, hAm⟩ := hv
  have hx := B.exec
  have hb := B.bytes
  have hr := B.returns
  have hts := atoms_spec (ws := ws_Law_at) B.pre
  have hown : s.vm.findClass "CoinBagLaw" = some m.cls := findClass_of_methodNamed B.named
  have hlocks := B.notSynchronized
  have hZ : sZ (dC, dI) vCl 52 ad (fun q => N0 ≤ q) s.heap w s.heap [] := ⟨hP, hD, va_S.rf⟩
  have hl := lv_entry ([.ref (ad 0), .int (nI j), .int (nI i), .int (nI wh), .ref (ad 51)]) (n := 6) (Nat.le_of_ble_eq_true rfl)
  rw [lg_entry_eq]
  generalize (lg_sl ([.ref (ad 0), .int (nI j), .int (nI i), .int (nI wh), .ref (ad 51)]) ++ List.replicate (6 - (lg_sl ([.ref (ad 0), .int (nI j), .int (nI i), .int (nI wh), .ref (ad 51)])).length) Slot.unset).toArray = ls at hl ⊢
  have hl : lv_has ls 6 [(0, .ref (ad 0)), (1, .int (nI j)), (2, .int (nI i)), (3, .int (nI wh)), (4, .ref (ad 51))] := hl
  obtain ⟨fs0, h0⟩ := sC_0 hC
  refine lv_aload hx hb d_Law_at_0 (lv_at hl 4 rfl) ?_
  refine lv_iconst (v := (nI 0)) hx hb d_Law_at_2 rfl ?_
  refine lv_aload_n hx hb d_Law_at_3 rfl (lv_at hl 0 rfl) ?_
  refine lv_iload_n hx hb d_Law_at_4 rfl (lv_at hl 1 rfl) ?_
  refine lv_iload_n hx hb d_Law_at_5 rfl (lv_at hl 2 rfl) ?_
  refine lv_iload_n hx hb d_Law_at_6 rfl (lv_at hl 3 rfl) ?_
  refine q_calll (va_runV (As := [.int (nI j), .int (nI i), .int (nI wh)]) (rest := [.int (nI 0), .ref (ad 51)]) ⟨hx, hb, hml, hown, hts⟩ (c_CB_at l dC dI cI cL cB ad N0 w F j i wh n kn hC hj hen hfn hin hwh) (cwV 3 hts (gI_V k_362 k_359 k_360 k_361 k_21) rfl rfl rfl (by decide +kernel) ⟨Nat.le_of_ble_eq_true rfl, Nat.le_of_ble_eq_true rfl⟩) (q_preV hK hAm hZ hN [.int (nI j), .int (nI i), .int (nI wh)] (0) 2 (by decide) h0 rfl) rfl rfl hl.1 rfl (lv_room (Nat.le_of_ble_eq_true rfl)) d_Law_at_7 ⟨Nat.zero_le _, Nat.zero_le _⟩) hZ (fun r u_r H locs h_r hZ => ?_)
  have hk0 : ∀ y, 43 ≤ y → u_r y = w y := (fun y _ => by rw [h_r.1])
  have h51 := (hk0 51 (by omega)).trans h51
  refine q_last hx hb hK hZ (51) 1 (0) (by decide) h51 rfl rfl (by omega) (by decide) d_Law_at_10 (fun H locs hZ => ?_)
  have hZ : sZ (dC, dI) vCl 52 ad (fun q => N0 ≤ q) s.heap (va_up u_r 51 (.inl (cL, 1, .inr (.inl (vp_updL o 0 r))))) H locs := hZ
  have h51 : va_up u_r 51 (.inl (cL, 1, .inr (.inl (vp_updL o 0 r)))) 51 = .inl (cL, 1, .inr (.inl (vp_updL o 0 r))) := va_up_self _ _ _
  have hk1 : ∀ y, 43 ≤ y → ¬ y = 51 → va_up u_r 51 (.inl (cL, 1, .inr (.inl (vp_updL o 0 r)))) y = w y := fun y h1 h2 => (va_up_ne _ _ h2).trans (hk0 y h1)
  have hlo : ∀ x, x < 43 → va_up u_r 51 (.inl (cL, 1, .inr (.inl (vp_updL o 0 r)))) x = u_r x := fun x h1 => va_up_ne _ _ (by omega)
  have ho : (vp_updL o 0 r) 0 = r := updL_s
  generalize va_up u_r 51 (.inl (cL, 1, .inr (.inl (vp_updL o 0 r)))) = w9 at hZ h51 hk1 hlo
  generalize (vp_updL o 0 r) = o2 at h51 ho
  refine lv_goto (tgt := 18) hx hb d_Law_at_11 (by decide) ?_
  refine lv_iconst (v := (nI 0)) hx hb d_Law_at_18 rfl ?_
  exact q_iret hx hb hr hlocks hK hAm hZ hN (⟨rfl, hk1, o2, h51, sC_fr (by rw [h_r.1]; exact hC) hlo, (by rw [ho]; exact h_r.2)⟩) d_Law_at_19
set_option maxHeartbeats 4000000 in
set_option maxRecDepth 100000 in
theorem c_Law_compare (l : Launch) (dC : Nat → ClassId) (dI : Nat → Nat → Nat) (cI cL cB : ClassId) (ad : Nat → Nat) (N0 : Nat) (w : Nat → va_E) (F : Nat → Int → Int64) (ja jb : Nat) (o : Nat → Int64) (hC : sC ad cI cL cB w F) (hja : ja < 8) (hjb : jb < 8) (h51 : w 51 = .inl (cL, 1, .inr (.inl o))) : Met l y_Law_compare ws_Law_compare ({ frames := 6, cells := 0, slots := 0, locals := 146 } : Room) (va_Pc [.ref (ad 0), .int (nI ja), .int (nI jb), .ref (ad 51)] (sPr (dC, dI) vCl [(cI, .int), (cL, .long), (cB, .object "CoinBag$Bag")] 52 ad N0 w)) (va_Qi (fun r u => r = nI 0 ∧ (∀ y, 43 ≤ y → ¬ y = 51 → u y = w y) ∧ ∃ o2 : Nat → Int64, u 51 = .inl (cL, 1, .inr (.inl o2)) ∧ sC ad cI cL cB u F ∧ ∃ r0 : Int32, cmR (∃ y, F jb y < F ja y) (∃ y, F ja y < F jb y) r0 ∧ o2 0 = r0.toInt64) (sPr (dC, dI) vCl [(cI, .int), (cL, .long), (cB, .object "CoinBag$Bag")] 52 ad N0) (fun q => N0 ≤ q)) 0 0 (fun q => N0 ≤ q) := by
  refine va_MetW (cc := b_Law_compare) (maxL := 5) (ret := (some .int)) (hh := [(0, 10, 13, 13)]) (by decide) rfl ?_
  intro p e s m args below meth c s₁ B hml hv
  obtain ⟨rfl, hP, hK, hD, hN, hAm⟩ := hv
  have hx := B.exec
  have hb := B.bytes
  have hr := B.returns
  have hts := atoms_spec (ws := ws_Law_compare) B.pre
  have hown : s.vm.findClass "CoinBagLaw" = some m.cls := findClass_of_methodNamed B.named
  have hlocks := B.notSynchronized
  have hZ : sZ (dC, dI) vCl 52 ad (fun q => N0 ≤ q) s.heap w s.heap [] := ⟨hP, hD, va_S.rf⟩
  have hl := lv_entry ([.ref (ad 0), .int (nI ja), .int (nI jb), .ref (ad 51)]) (n := 5) (Nat.le_of_ble_eq_true rfl)
  rw [lg_entry_eq]
  generalize (lg_sl ([.ref (ad 0), .int (nI ja), .int (nI jb), .ref (ad 51)]) ++ List.replicate (5 - (lg_sl ([.ref (ad 0), .int (nI ja), .int (nI jb), .ref (ad 51)])).length) Slot.unset).toArray = ls at hl ⊢
  have hl : lv_has ls 5 [(0, .ref (ad 0)), (1, .int (nI ja)), (2, .int (nI jb)), (3, .ref (ad 51))] := hl
  obtain ⟨fs0, h0⟩ := sC_0 hC
  refine lv_aload_n hx hb d_Law_compare_0 rfl (lv_at hl 3 rfl) ?_
  refine lv_iconst (v := (nI 0)) hx hb d_Law_compare_1 rfl ?_
  refine lv_aload_n hx hb d_Law_compare_2 rfl (lv_at hl 0 rfl) ?_
  refine lv_iload_n hx hb d_Law_compare_3 rfl (lv_at hl 1 rfl) ?_
  refine lv_iload_n hx hb d_Law_compare_4 rfl (lv_at hl 2 rfl) ?_
  refine q_calli (va_runV (As := [.int (nI ja), .int (nI jb)]) (rest := [.int (nI 0), .ref (ad 51)]) ⟨hx, hb, hml, hown, hts⟩ (c_CB_compare l dC dI cI cL cB ad N0 w F ja jb hC hja hjb) (cwV 2 hts (gI_V k_371 k_368 k_369 k_370 k_21) rfl rfl rfl (by decide +kernel) ⟨Nat.le_of_ble_eq_true rfl, Nat.le_of_ble_eq_true rfl⟩) (q_preV hK hAm hZ hN [.int (nI ja), .int (nI jb)] (0) 2 (by decide) h0 rfl) rfl rfl hl.1 rfl (lv_room (Nat.le_of_ble_eq_true rfl)) d_Law_compare_5 ⟨Nat.zero_le _, Nat.zero_le _⟩) hZ (fun r u_r H locs h_r hZ => ?_)
  have hk0 : ∀ y, 43 ≤ y → u_r y = w y := h_r.2.2
  have h51 := (hk0 51 (by omega)).trans h51
  refine lv_i2l (v := r.toInt64) hx hb d_Law_compare_8 rfl ?_
  refine q_last hx hb hK hZ (51) 1 (0) (by decide) h51 rfl rfl (by omega) (by decide) d_Law_compare_9 (fun H locs hZ => ?_)
  have hZ : sZ (dC, dI) vCl 52 ad (fun q => N0 ≤ q) s.heap (va_up u_r 51 (.inl (cL, 1, .inr (.inl (vp_updL o 0 (r.toInt64)))))) H locs := hZ
  have h51 : va_up u_r 51 (.inl (cL, 1, .inr (.inl (vp_updL o 0 (r.toInt64))))) 51 = .inl (cL, 1, .inr (.inl (vp_updL o 0 (r.toInt64)))) := va_up_self _ _ _
  have hk1 : ∀ y, 43 ≤ y → ¬ y = 51 → va_up u_r 51 (.inl (cL, 1, .inr (.inl (vp_updL o 0 (r.toInt64))))) y = w y := fun y h1 h2 => (va_up_ne _ _ h2).trans (hk0 y h1)
  have hlo : ∀ x, x < 43 → va_up u_r 51 (.inl (cL, 1, .inr (.inl (vp_updL o 0 (r.toInt64))))) x = u_r x := fun x h1 => va_up_ne _ _ (by omega)
  have ho : (vp_updL o 0 (r.toInt64)) 0 = (r.toInt64) := updL_s
  generalize va_up u_r 51 (.inl (cL, 1, .inr (.inl (vp_updL o 0 (r.toInt64))))) = w9 at hZ h51 hk1 hlo
  generalize (vp_updL o 0 (r.toInt64)) = o2 at h51 ho
  refine lv_goto (tgt := 17) hx hb d_Law_compare_10 (by decide) ?_
  refine lv_iconst (v := (nI 0)) hx hb d_Law_compare_17 rfl ?_
  exact q_iret hx hb hr hlocks hK hAm hZ hN (⟨rfl, hk1, o2, h51, sC_fr (h_r.2.1) hlo, ⟨_, h_r.1, ho⟩⟩) d_Law_compare_18
set_option maxHeartbeats 4000000 in
set_option maxRecDepth 100000 in
theorem c_Law_into (l : Launch) (dC : Nat → ClassId) (dI : Nat → Nat → Nat) (cI cL cB : ClassId) (ad : Nat → Nat) (N0 : Nat) (w : Nat → va_E) (F : Nat → Int → Int64) (ja jb : Nat) (o : Nat → Int64) (hC : sC ad cI cL cB w F) (hja : ja < 8) (hjb : jb < 8) (h51 : w 51 = .inl (cL, 1, .inr (.inl o))) : Met l y_Law_into ws_Law_into ({ frames := 6, cells := 0, slots := 0, locals := 155 } : Room) (va_Pc [.ref (ad 0), .int (nI ja), .int (nI jb), .ref (ad 51)] (sPr (dC, dI) vCl [(cI, .int), (cL, .long), (cB, .object "CoinBag$Bag")] 52 ad N0 w)) (va_Qi (fun r u => r = nI 0 ∧ (∀ y, 43 ≤ y → ¬ y = 51 → u y = w y) ∧ ∃ o2 : Nat → Int64, u 51 = .inl (cL, 1, .inr (.inl o2)) ∧ sC ad cI cL cB u F ∧ iR (F ja) (F jb) (o2 0)) (sPr (dC, dI) vCl [(cI, .int), (cL, .long), (cB, .object "CoinBag$Bag")] 52 ad N0) (fun q => N0 ≤ q)) 0 0 (fun q => N0 ≤ q) := by
  refine va_MetW (cc := b_Law_into) (maxL := 5) (ret := (some .int)) (hh := [(0, 9, 12, 13)]) (by decide) rfl ?_
  intro p e s m args below meth c s₁ B hml hv
  obtain ⟨rfl, hP, hK, hD, hN, hAm⟩ := hv
  have hx := B.exec
  have hb := B.bytes
  have hr := B.returns
  have hts := atoms_spec (ws := ws_Law_into) B.pre
  have hown : s.vm.findClass "CoinBagLaw" = some m.cls := findClass_of_methodNamed B.named
  have hlocks := B.notSynchronized
  have hZ : sZ (dC, dI) vCl 52 ad (fun q => N0 ≤ q) s.heap w s.heap [] := ⟨hP, hD, va_S.rf⟩
  have hl := lv_entry ([.ref (ad 0), .int (nI ja), .int (nI jb), .ref (ad 51)]) (n := 5) (Nat.le_of_ble_eq_true rfl)
  rw [lg_entry_eq]
  generalize (lg_sl ([.ref (ad 0), .int (nI ja), .int (nI jb), .ref (ad 51)]) ++ List.replicate (5 - (lg_sl ([.ref (ad 0), .int (nI ja), .int (nI jb), .ref (ad 51)])).length) Slot.unset).toArray = ls at hl ⊢
  have hl : lv_has ls 5 [(0, .ref (ad 0)), (1, .int (nI ja)), (2, .int (nI jb)), (3, .ref (ad 51))] := hl
  obtain ⟨fs0, h0⟩ := sC_0 hC
  refine lv_aload_n hx hb d_Law_into_0 rfl (lv_at hl 3 rfl) ?_
  refine lv_iconst (v := (nI 0)) hx hb d_Law_into_1 rfl ?_
  refine lv_aload_n hx hb d_Law_into_2 rfl (lv_at hl 0 rfl) ?_
  refine lv_iload_n hx hb d_Law_into_3 rfl (lv_at hl 1 rfl) ?_
  refine lv_iload_n hx hb d_Law_into_4 rfl (lv_at hl 2 rfl) ?_
  refine q_calll (va_runV (As := [.int (nI ja), .int (nI jb)]) (rest := [.int (nI 0), .ref (ad 51)]) ⟨hx, hb, hml, hown, hts⟩ (c_CB_into l dC dI cI cL cB ad N0 w F ja jb hC hja hjb) (cwV 2 hts (gI_V k_385 k_382 k_383 k_384 k_21) rfl rfl rfl (by decide +kernel) ⟨Nat.le_of_ble_eq_true rfl, Nat.le_of_ble_eq_true rfl⟩) (q_preV hK hAm hZ hN [.int (nI ja), .int (nI jb)] (0) 2 (by decide) h0 rfl) rfl rfl hl.1 rfl (lv_room (Nat.le_of_ble_eq_true rfl)) d_Law_into_5 ⟨Nat.zero_le _, Nat.zero_le _⟩) hZ (fun r u_r H locs h_r hZ => ?_)
  have hk0 : ∀ y, 43 ≤ y → u_r y = w y := h_r.2.2
  have h51 := (hk0 51 (by omega)).trans h51
  refine q_last hx hb hK hZ (51) 1 (0) (by decide) h51 rfl rfl (by omega) (by decide) d_Law_into_8 (fun H locs hZ => ?_)
  have hZ : sZ (dC, dI) vCl 52 ad (fun q => N0 ≤ q) s.heap (va_up u_r 51 (.inl (cL, 1, .inr (.inl (vp_updL o 0 r))))) H locs := hZ
  have h51 : va_up u_r 51 (.inl (cL, 1, .inr (.inl (vp_updL o 0 r)))) 51 = .inl (cL, 1, .inr (.inl (vp_updL o 0 r))) := va_up_self _ _ _
  have hk1 : ∀ y, 43 ≤ y → ¬ y = 51 → va_up u_r 51 (.inl (cL, 1, .inr (.inl (vp_updL o 0 r)))) y = w y := fun y h1 h2 => (va_up_ne _ _ h2).trans (hk0 y h1)
  have hlo : ∀ x, x < 43 → va_up u_r 51 (.inl (cL, 1, .inr (.inl (vp_updL o 0 r)))) x = u_r x := fun x h1 => va_up_ne _ _ (by omega)
  have ho : (vp_updL o 0 r) 0 = r := updL_s
  generalize va_up u_r 51 (.inl (cL, 1, .inr (.inl (vp_updL o 0 r)))) = w9 at hZ h51 hk1 hlo
  generalize (vp_updL o 0 r) = o2 at h51 ho
  refine lv_goto (tgt := 16) hx hb d_Law_into_9 (by decide) ?_
  refine lv_iconst (v := (nI 0)) hx hb d_Law_into_16 rfl ?_
  exact q_iret hx hb hr hlocks hK hAm hZ hN (⟨rfl, hk1, o2, h51, sC_fr (h_r.2.1) hlo, (by rw [ho]; exact h_r.1)⟩) d_Law_into_17
set_option maxHeartbeats 4000000 in
set_option maxRecDepth 100000 in
theorem c_Law_look (l : Launch) (dC : Nat → ClassId) (dI : Nat → Nat → Nat) (cI cL cB : ClassId) (ad : Nat → Nat) (N0 : Nat) (w : Nat → va_E) (F : Nat → Int → Int64) (j : Nat) (q : Int32) (o : Nat → Int64) (hC : sC ad cI cL cB w F) (hj : j < 8) (h51 : w 51 = .inl (cL, 1, .inr (.inl o))) : Met l y_Law_look ws_Law_look ({ frames := 2, cells := 0, slots := 0, locals := 44 } : Room) (va_Pc [.ref (ad 0), .int (nI j), .int q, .ref (ad 51)] (sPr (dC, dI) vCl [(cI, .int), (cL, .long), (cB, .object "CoinBag$Bag")] 52 ad N0 w)) (va_Qi (fun r u => r = nI 0 ∧ (∀ y, 43 ≤ y → ¬ y = 51 → u y = w y) ∧ ∃ o2 : Nat → Int64, u 51 = .inl (cL, 1, .inr (.inl o2)) ∧ sC ad cI cL cB u F ∧ ∃ (z : Nat) (P : Nat → Int32) (N A : Nat → Int64) (r0 : Int32), cRep z P N A (F j) ∧ lkR P A z q r0 ∧ o2 0 = r0.toInt64) (sPr (dC, dI) vCl [(cI, .int), (cL, .long), (cB, .object "CoinBag$Bag")] 52 ad N0) (fun q => N0 ≤ q)) 0 0 (fun q => N0 ≤ q) := by
  refine va_MetW (cc := b_Law_look) (maxL := 5) (ret := (some .int)) (hh := [(0, 10, 13, 13)]) (by decide) rfl ?_
  intro p e s m args below meth c s₁ B hml hv
  obtain ⟨rfl, hP, hK, hD, hN, hAm⟩ := hv
  have hx := B.exec
  have hb := B.bytes
  have hr := B.returns
  have hts := atoms_spec (ws := ws_Law_look) B.pre
  have hown : s.vm.findClass "CoinBagLaw" = some m.cls := findClass_of_methodNamed B.named
  have hlocks := B.notSynchronized
  have hZ : sZ (dC, dI) vCl 52 ad (fun q => N0 ≤ q) s.heap w s.heap [] := ⟨hP, hD, va_S.rf⟩
  have hl := lv_entry ([.ref (ad 0), .int (nI j), .int q, .ref (ad 51)]) (n := 5) (Nat.le_of_ble_eq_true rfl)
  rw [lg_entry_eq]
  generalize (lg_sl ([.ref (ad 0), .int (nI j), .int q, .ref (ad 51)]) ++ List.replicate (5 - (lg_sl ([.ref (ad 0), .int (nI j), .int q, .ref (ad 51)])).length) Slot.unset).toArray = ls at hl ⊢
  have hl : lv_has ls 5 [(0, .ref (ad 0)), (1, .int (nI j)), (2, .int q), (3, .ref (ad 51))] := hl
  obtain ⟨fs0, h0⟩ := sC_0 hC
  refine lv_aload_n hx hb d_Law_look_0 rfl (lv_at hl 3 rfl) ?_
  refine lv_iconst (v := (nI 0)) hx hb d_Law_look_1 rfl ?_
  refine lv_aload_n hx hb d_Law_look_2 rfl (lv_at hl 0 rfl) ?_
  refine lv_iload_n hx hb d_Law_look_3 rfl (lv_at hl 1 rfl) ?_
  refine lv_iload_n hx hb d_Law_look_4 rfl (lv_at hl 2 rfl) ?_
  refine q_calli (va_runV (As := [.int (nI j), .int q]) (rest := [.int (nI 0), .ref (ad 51)]) ⟨hx, hb, hml, hown, hts⟩ (c_CB_look l dC dI cI cL cB ad N0 w F j q hC hj) (cwV 2 hts (gI_V k_401 k_398 k_399 k_400 k_21) rfl rfl rfl (by decide +kernel) ⟨Nat.le_of_ble_eq_true rfl, Nat.le_of_ble_eq_true rfl⟩) (q_preV hK hAm hZ hN [.int (nI j), .int q] (0) 2 (by decide) h0 rfl) rfl rfl hl.1 rfl (lv_room (Nat.le_of_ble_eq_true rfl)) d_Law_look_5 ⟨Nat.zero_le _, Nat.zero_le _⟩) hZ (fun r u_r H locs h_r hZ => ?_)
  have hk0 : ∀ y, 43 ≤ y → u_r y = w y := (fun y _ => by rw [h_r.1])
  have h51 := (hk0 51 (by omega)).trans h51
  refine lv_i2l (v := r.toInt64) hx hb d_Law_look_8 rfl ?_
  refine q_last hx hb hK hZ (51) 1 (0) (by decide) h51 rfl rfl (by omega) (by decide) d_Law_look_9 (fun H locs hZ => ?_)
  have hZ : sZ (dC, dI) vCl 52 ad (fun q => N0 ≤ q) s.heap (va_up u_r 51 (.inl (cL, 1, .inr (.inl (vp_updL o 0 (r.toInt64)))))) H locs := hZ
  have h51 : va_up u_r 51 (.inl (cL, 1, .inr (.inl (vp_updL o 0 (r.toInt64))))) 51 = .inl (cL, 1, .inr (.inl (vp_updL o 0 (r.toInt64)))) := va_up_self _ _ _
  have hk1 : ∀ y, 43 ≤ y → ¬ y = 51 → va_up u_r 51 (.inl (cL, 1, .inr (.inl (vp_updL o 0 (r.toInt64))))) y = w y := fun y h1 h2 => (va_up_ne _ _ h2).trans (hk0 y h1)
  have hlo : ∀ x, x < 43 → va_up u_r 51 (.inl (cL, 1, .inr (.inl (vp_updL o 0 (r.toInt64))))) x = u_r x := fun x h1 => va_up_ne _ _ (by omega)
  have ho : (vp_updL o 0 (r.toInt64)) 0 = (r.toInt64) := updL_s
  generalize va_up u_r 51 (.inl (cL, 1, .inr (.inl (vp_updL o 0 (r.toInt64))))) = w9 at hZ h51 hk1 hlo
  generalize (vp_updL o 0 (r.toInt64)) = o2 at h51 ho
  refine lv_goto (tgt := 17) hx hb d_Law_look_10 (by decide) ?_
  refine lv_iconst (v := (nI 0)) hx hb d_Law_look_17 rfl ?_
  exact q_iret hx hb hr hlocks hK hAm hZ hN (⟨rfl, hk1, o2, h51, sC_fr (by rw [h_r.1]; exact hC) hlo, (by obtain ⟨z, P, N, A, e1, e2⟩ := h_r.2; exact ⟨z, P, N, A, _, e1, e2, ho⟩)⟩) d_Law_look_18
set_option maxHeartbeats 4000000 in
set_option maxRecDepth 100000 in
theorem xb_Law_set (l : Launch) (hfl : l.stackTraces = false) (dC : Nat → ClassId) (dI : Nat → Nat → Nat) (cI cL cB : ClassId) (ad : Nat → Nat) (N0 : Nat) (w : Nat → va_E) (b : Int32) (q : Int32) (x : Int64) (v : Int64) (h0 : ∃ fs : List Value, w 0 = .inr (2, fs)) (hbad : ¬ (okB b)) : Met l y_Law_set ws_Law_set ({ frames := 8, cells := 1, slots := 6, locals := 128 } : Room) (va_Pc [.ref (ad 0), .int b, .int q, .long x, .long v, .ref (ad 51)] (sPr (dC, dI) vCl [(cI, .int), (cL, .long), (cB, .object "CoinBag$Bag")] 52 ad N0 w)) (va_Qi (fun r u => r = nI 1 ∧ u = w) (sPr (dC, dI) vCl [(cI, .int), (cL, .long), (cB, .object "CoinBag$Bag")] 52 ad N0) (fun q => N0 ≤ q)) 1 6 (fun q => N0 ≤ q) := by
  refine va_MetW (cc := b_Law_set) (maxL := 9) (ret := (some .int)) (hh := [(0, 21, 24, 13), (0, 21, 28, 15)]) (by decide) rfl ?_
  intro p e s m args below meth c s₁ B hml hv
  obtain ⟨rfl, hP, hK, hD, hN, hAm⟩ := hv
  have hx := B.exec
  have hb := B.bytes
  have hr := B.returns
  have hts := atoms_spec (ws := ws_Law_set) B.pre
  have hown : s.vm.findClass "CoinBagLaw" = some m.cls := findClass_of_methodNamed B.named
  have hlocks := B.notSynchronized
  have hZ : sZ (dC, dI) vCl 52 ad (fun q => N0 ≤ q) s.heap w s.heap [] := ⟨hP, hD, va_S.rf⟩
  have hl := lv_entry ([.ref (ad 0), .int b, .int q, .long x, .long v, .ref (ad 51)]) (n := 9) (Nat.le_of_ble_eq_true rfl)
  rw [lg_entry_eq]
  generalize (lg_sl ([.ref (ad 0), .int b, .int q, .long x, .long v, .ref (ad 51)]) ++ List.replicate (9 - (lg_sl ([.ref (ad 0), .int b, .int q, .long x, .long v, .ref (ad 51)])).length) Slot.unset).toArray = ls at hl ⊢
  have hl : lv_has ls 9 [(0, .ref (ad 0)), (1, .int b), (2, .int q), (3, .long x), (5, .long v), (7, .ref (ad 51))] := hl
  have htab : c.exceptionTable.toList = tableOf [(0, 21, 24, 13), (0, 21, 28, 15)] := vx_table (x := y_Law_set) B (hts _ List.mem_cons_self)
  have hz0 := h0
  obtain ⟨fs0, h0⟩ := hz0
  refine lv_aload hx hb d_Law_set_0 (lv_at hl 5 rfl) ?_
  refine lv_iconst (v := (nI 0)) hx hb d_Law_set_2 rfl ?_
  refine lv_aload_n hx hb d_Law_set_3 rfl (lv_at hl 0 rfl) ?_
  refine lv_iload_n hx hb d_Law_set_4 rfl (lv_at hl 1 rfl) ?_
  refine lv_iload_n hx hb d_Law_set_5 rfl (lv_at hl 2 rfl) ?_
  refine lv_lload_n hx hb d_Law_set_6 rfl (lv_at hl 3 rfl) ?_
  refine lv_lload hx hb d_Law_set_7 (lv_at hl 4 rfl) ?_
  refine q_xcall (vx_runV (As := [.int b, .int q, .long x, .long v]) (rest := [.int (nI 0), .ref (ad 51)]) ⟨hx, hb, hml, hown, hts⟩ (x_CB_set_b l hfl dC dI cI cL cB ad N0 w b q x v ⟨fs0, h0⟩ hbad) (cwV 4 hts (gI_V k_117 k_114 k_115 k_116 k_21) rfl rfl rfl (by decide +kernel) ⟨Nat.le_of_ble_eq_true rfl, Nat.le_of_ble_eq_true rfl⟩) (q_preV hK hAm hZ hN [.int b, .int q, .long x, .long v] (0) 2 (by decide) h0 rfl) rfl rfl hl.1 rfl (lv_room (Nat.le_of_ble_eq_true rfl)) d_Law_set_9 ⟨Nat.le_of_ble_eq_true rfl, Nat.le_of_ble_eq_true rfl⟩) hZ (fun ce q9 H locs hZ hce hcv hcl => ?_)
  refine vx_catch (name := "java/lang/IndexOutOfBoundsException") hown [] ⟨0, 21, 24, 13⟩ [⟨0, 21, 28, 15⟩] htab (fun z hz => nomatch hz) (by decide) (by decide) (hts _ (gm k_112)) (cast_I hAm) hce hcv hcl ?_
  refine W.eq (g2 := F0 m 24 ls [.ref q9]) rfl ?_
  refine lv_astore (lv' := [(8, .ref q9), (0, .ref (ad 0)), (1, .int b), (2, .int q), (3, .long x), (5, .long v), (7, .ref (ad 51))]) hx hb d_Law_set_24 hl (by decide) rfl (fun ls hl => ?_)
  refine lv_iconst (v := (nI 1)) hx hb d_Law_set_26 rfl ?_
  exact q_iret hx hb hr hlocks hK hAm hZ hN (⟨rfl, rfl⟩) d_Law_set_27
set_option maxHeartbeats 4000000 in
set_option maxRecDepth 100000 in
theorem xp_Law_set (l : Launch) (hfl : l.stackTraces = false) (dC : Nat → ClassId) (dI : Nat → Nat → Nat) (cI cL cB : ClassId) (ad : Nat → Nat) (N0 : Nat) (w : Nat → va_E) (b : Int32) (q : Int32) (x : Int64) (v : Int64) (h0 : ∃ fs : List Value, w 0 = .inr (2, fs)) (hg_b : okB b) (hbad : ¬ okP q) : Met l y_Law_set ws_Law_set ({ frames := 8, cells := 1, slots := 6, locals := 128 } : Room) (va_Pc [.ref (ad 0), .int b, .int q, .long x, .long v, .ref (ad 51)] (sPr (dC, dI) vCl [(cI, .int), (cL, .long), (cB, .object "CoinBag$Bag")] 52 ad N0 w)) (va_Qi (fun r u => r = nI 2 ∧ u = w) (sPr (dC, dI) vCl [(cI, .int), (cL, .long), (cB, .object "CoinBag$Bag")] 52 ad N0) (fun q => N0 ≤ q)) 1 6 (fun q => N0 ≤ q) := by
  refine va_MetW (cc := b_Law_set) (maxL := 9) (ret := (some .int)) (hh := [(0, 21, 24, 13), (0, 21, 28, 15)]) (by decide) rfl ?_
  intro p e s m args below meth c s₁ B hml hv
  obtain ⟨rfl, hP, hK, hD, hN, hAm⟩ := hv
  have hx := B.exec
  have hb := B.bytes
  have hr := B.returns
  have hts := atoms_spec (ws := ws_Law_set) B.pre
  have hown : s.vm.findClass "CoinBagLaw" = some m.cls := findClass_of_methodNamed B.named
  have hlocks := B.notSynchronized
  have hZ : sZ (dC, dI) vCl 52 ad (fun q => N0 ≤ q) s.heap w s.heap [] := ⟨hP, hD, va_S.rf⟩
  have hl := lv_entry ([.ref (ad 0), .int b, .int q, .long x, .long v, .ref (ad 51)]) (n := 9) (Nat.le_of_ble_eq_true rfl)
  rw [lg_entry_eq]
  generalize (lg_sl ([.ref (ad 0), .int b, .int q, .long x, .long v, .ref (ad 51)]) ++ List.replicate (9 - (lg_sl ([.ref (ad 0), .int b, .int q, .long x, .long v, .ref (ad 51)])).length) Slot.unset).toArray = ls at hl ⊢
  have hl : lv_has ls 9 [(0, .ref (ad 0)), (1, .int b), (2, .int q), (3, .long x), (5, .long v), (7, .ref (ad 51))] := hl
  have htab : c.exceptionTable.toList = tableOf [(0, 21, 24, 13), (0, 21, 28, 15)] := vx_table (x := y_Law_set) B (hts _ List.mem_cons_self)
  have hz0 := h0
  obtain ⟨fs0, h0⟩ := hz0
  refine lv_aload hx hb d_Law_set_0 (lv_at hl 5 rfl) ?_
  refine lv_iconst (v := (nI 0)) hx hb d_Law_set_2 rfl ?_
  refine lv_aload_n hx hb d_Law_set_3 rfl (lv_at hl 0 rfl) ?_
  refine lv_iload_n hx hb d_Law_set_4 rfl (lv_at hl 1 rfl) ?_
  refine lv_iload_n hx hb d_Law_set_5 rfl (lv_at hl 2 rfl) ?_
  refine lv_lload_n hx hb d_Law_set_6 rfl (lv_at hl 3 rfl) ?_
  refine lv_lload hx hb d_Law_set_7 (lv_at hl 4 rfl) ?_
  refine q_xcall (vx_runV (As := [.int b, .int q, .long x, .long v]) (rest := [.int (nI 0), .ref (ad 51)]) ⟨hx, hb, hml, hown, hts⟩ (x_CB_set_p l hfl dC dI cI cL cB ad N0 w b q x v ⟨fs0, h0⟩ hg_b hbad) (cwV 4 hts (gI_V k_117 k_114 k_115 k_116 k_21) rfl rfl rfl (by decide +kernel) ⟨Nat.le_of_ble_eq_true rfl, Nat.le_of_ble_eq_true rfl⟩) (q_preV hK hAm hZ hN [.int b, .int q, .long x, .long v] (0) 2 (by decide) h0 rfl) rfl rfl hl.1 rfl (lv_room (Nat.le_of_ble_eq_true rfl)) d_Law_set_9 ⟨Nat.le_of_ble_eq_true rfl, Nat.le_of_ble_eq_true rfl⟩) hZ (fun ce q9 H locs hZ hce hcv hcl => ?_)
  refine vx_catch (name := "java/lang/IllegalArgumentException") hown [⟨0, 21, 24, 13⟩] ⟨0, 21, 28, 15⟩ [] htab (fun z hz => by rcases List.mem_singleton.mp hz with rfl; exact Or.inr ⟨by decide, "java/lang/IndexOutOfBoundsException", hts _ (gm k_112), hAm.2.2.2.2.2.2.2.2.2.2.2⟩) (by decide) (by decide) (hts _ (gm k_113)) (cast_A hAm) hce hcv hcl ?_
  refine W.eq (g2 := F0 m 28 ls [.ref q9]) rfl ?_
  refine lv_astore (lv' := [(8, .ref q9), (0, .ref (ad 0)), (1, .int b), (2, .int q), (3, .long x), (5, .long v), (7, .ref (ad 51))]) hx hb d_Law_set_28 hl (by decide) rfl (fun ls hl => ?_)
  refine lv_iconst (v := (nI 2)) hx hb d_Law_set_30 rfl ?_
  exact q_iret hx hb hr hlocks hK hAm hZ hN (⟨rfl, rfl⟩) d_Law_set_31
set_option maxHeartbeats 4000000 in
set_option maxRecDepth 100000 in
theorem xb_Law_put (l : Launch) (hfl : l.stackTraces = false) (dC : Nat → ClassId) (dI : Nat → Nat → Nat) (cI cL cB : ClassId) (ad : Nat → Nat) (N0 : Nat) (w : Nat → va_E) (b : Int32) (q : Int32) (x : Int64) (v : Int64) (h0 : ∃ fs : List Value, w 0 = .inr (2, fs)) (hbad : ¬ (okB b)) : Met l y_Law_put ws_Law_put ({ frames := 8, cells := 1, slots := 6, locals := 130 } : Room) (va_Pc [.ref (ad 0), .int b, .int q, .long x, .long v, .ref (ad 51)] (sPr (dC, dI) vCl [(cI, .int), (cL, .long), (cB, .object "CoinBag$Bag")] 52 ad N0 w)) (va_Qi (fun r u => r = nI 1 ∧ u = w) (sPr (dC, dI) vCl [(cI, .int), (cL, .long), (cB, .object "CoinBag$Bag")] 52 ad N0) (fun q => N0 ≤ q)) 1 6 (fun q => N0 ≤ q) := by
  refine va_MetW (cc := b_Law_put) (maxL := 9) (ret := (some .int)) (hh := [(0, 21, 24, 13), (0, 21, 28, 15)]) (by decide) rfl ?_
  intro p e s m args below meth c s₁ B hml hv
  obtain ⟨rfl, hP, hK, hD, hN, hAm⟩ := hv
  have hx := B.exec
  have hb := B.bytes
  have hr := B.returns
  have hts := atoms_spec (ws := ws_Law_put) B.pre
  have hown : s.vm.findClass "CoinBagLaw" = some m.cls := findClass_of_methodNamed B.named
  have hlocks := B.notSynchronized
  have hZ : sZ (dC, dI) vCl 52 ad (fun q => N0 ≤ q) s.heap w s.heap [] := ⟨hP, hD, va_S.rf⟩
  have hl := lv_entry ([.ref (ad 0), .int b, .int q, .long x, .long v, .ref (ad 51)]) (n := 9) (Nat.le_of_ble_eq_true rfl)
  rw [lg_entry_eq]
  generalize (lg_sl ([.ref (ad 0), .int b, .int q, .long x, .long v, .ref (ad 51)]) ++ List.replicate (9 - (lg_sl ([.ref (ad 0), .int b, .int q, .long x, .long v, .ref (ad 51)])).length) Slot.unset).toArray = ls at hl ⊢
  have hl : lv_has ls 9 [(0, .ref (ad 0)), (1, .int b), (2, .int q), (3, .long x), (5, .long v), (7, .ref (ad 51))] := hl
  have htab : c.exceptionTable.toList = tableOf [(0, 21, 24, 13), (0, 21, 28, 15)] := vx_table (x := y_Law_put) B (hts _ List.mem_cons_self)
  have hz0 := h0
  obtain ⟨fs0, h0⟩ := hz0
  refine lv_aload hx hb d_Law_put_0 (lv_at hl 5 rfl) ?_
  refine lv_iconst (v := (nI 0)) hx hb d_Law_put_2 rfl ?_
  refine lv_aload_n hx hb d_Law_put_3 rfl (lv_at hl 0 rfl) ?_
  refine lv_iload_n hx hb d_Law_put_4 rfl (lv_at hl 1 rfl) ?_
  refine lv_iload_n hx hb d_Law_put_5 rfl (lv_at hl 2 rfl) ?_
  refine lv_lload_n hx hb d_Law_put_6 rfl (lv_at hl 3 rfl) ?_
  refine lv_lload hx hb d_Law_put_7 (lv_at hl 4 rfl) ?_
  refine q_xcall (vx_runV (As := [.int b, .int q, .long x, .long v]) (rest := [.int (nI 0), .ref (ad 51)]) ⟨hx, hb, hml, hown, hts⟩ (x_CB_put_b l hfl dC dI cI cL cB ad N0 w b q x v ⟨fs0, h0⟩ hbad) (cwV 4 hts (gI_V k_250 k_247 k_248 k_249 k_21) rfl rfl rfl (by decide +kernel) ⟨Nat.le_of_ble_eq_true rfl, Nat.le_of_ble_eq_true rfl⟩) (q_preV hK hAm hZ hN [.int b, .int q, .long x, .long v] (0) 2 (by decide) h0 rfl) rfl rfl hl.1 rfl (lv_room (Nat.le_of_ble_eq_true rfl)) d_Law_put_9 ⟨Nat.le_of_ble_eq_true rfl, Nat.le_of_ble_eq_true rfl⟩) hZ (fun ce q9 H locs hZ hce hcv hcl => ?_)
  refine vx_catch (name := "java/lang/IndexOutOfBoundsException") hown [] ⟨0, 21, 24, 13⟩ [⟨0, 21, 28, 15⟩] htab (fun z hz => nomatch hz) (by decide) (by decide) (hts _ (gm k_112)) (cast_I hAm) hce hcv hcl ?_
  refine W.eq (g2 := F0 m 24 ls [.ref q9]) rfl ?_
  refine lv_astore (lv' := [(8, .ref q9), (0, .ref (ad 0)), (1, .int b), (2, .int q), (3, .long x), (5, .long v), (7, .ref (ad 51))]) hx hb d_Law_put_24 hl (by decide) rfl (fun ls hl => ?_)
  refine lv_iconst (v := (nI 1)) hx hb d_Law_put_26 rfl ?_
  exact q_iret hx hb hr hlocks hK hAm hZ hN (⟨rfl, rfl⟩) d_Law_put_27
set_option maxHeartbeats 4000000 in
set_option maxRecDepth 100000 in
theorem xp_Law_put (l : Launch) (hfl : l.stackTraces = false) (dC : Nat → ClassId) (dI : Nat → Nat → Nat) (cI cL cB : ClassId) (ad : Nat → Nat) (N0 : Nat) (w : Nat → va_E) (b : Int32) (q : Int32) (x : Int64) (v : Int64) (h0 : ∃ fs : List Value, w 0 = .inr (2, fs)) (hg_b : okB b) (hbad : ¬ okP q) : Met l y_Law_put ws_Law_put ({ frames := 8, cells := 1, slots := 6, locals := 130 } : Room) (va_Pc [.ref (ad 0), .int b, .int q, .long x, .long v, .ref (ad 51)] (sPr (dC, dI) vCl [(cI, .int), (cL, .long), (cB, .object "CoinBag$Bag")] 52 ad N0 w)) (va_Qi (fun r u => r = nI 2 ∧ u = w) (sPr (dC, dI) vCl [(cI, .int), (cL, .long), (cB, .object "CoinBag$Bag")] 52 ad N0) (fun q => N0 ≤ q)) 1 6 (fun q => N0 ≤ q) := by
  refine va_MetW (cc := b_Law_put) (maxL := 9) (ret := (some .int)) (hh := [(0, 21, 24, 13), (0, 21, 28, 15)]) (by decide) rfl ?_
  intro p e s m args below meth c s₁ B hml hv
  obtain ⟨rfl, hP, hK, hD, hN, hAm⟩ := hv
  have hx := B.exec
  have hb := B.bytes
  have hr := B.returns
  have hts := atoms_spec (ws := ws_Law_put) B.pre
  have hown : s.vm.findClass "CoinBagLaw" = some m.cls := findClass_of_methodNamed B.named
  have hlocks := B.notSynchronized
  have hZ : sZ (dC, dI) vCl 52 ad (fun q => N0 ≤ q) s.heap w s.heap [] := ⟨hP, hD, va_S.rf⟩
  have hl := lv_entry ([.ref (ad 0), .int b, .int q, .long x, .long v, .ref (ad 51)]) (n := 9) (Nat.le_of_ble_eq_true rfl)
  rw [lg_entry_eq]
  generalize (lg_sl ([.ref (ad 0), .int b, .int q, .long x, .long v, .ref (ad 51)]) ++ List.replicate (9 - (lg_sl ([.ref (ad 0), .int b, .int q, .long x, .long v, .ref (ad 51)])).length) Slot.unset).toArray = ls at hl ⊢
  have hl : lv_has ls 9 [(0, .ref (ad 0)), (1, .int b), (2, .int q), (3, .long x), (5, .long v), (7, .ref (ad 51))] := hl
  have htab : c.exceptionTable.toList = tableOf [(0, 21, 24, 13), (0, 21, 28, 15)] := vx_table (x := y_Law_put) B (hts _ List.mem_cons_self)
  have hz0 := h0
  obtain ⟨fs0, h0⟩ := hz0
  refine lv_aload hx hb d_Law_put_0 (lv_at hl 5 rfl) ?_
  refine lv_iconst (v := (nI 0)) hx hb d_Law_put_2 rfl ?_
  refine lv_aload_n hx hb d_Law_put_3 rfl (lv_at hl 0 rfl) ?_
  refine lv_iload_n hx hb d_Law_put_4 rfl (lv_at hl 1 rfl) ?_
  refine lv_iload_n hx hb d_Law_put_5 rfl (lv_at hl 2 rfl) ?_
  refine lv_lload_n hx hb d_Law_put_6 rfl (lv_at hl 3 rfl) ?_
  refine lv_lload hx hb d_Law_put_7 (lv_at hl 4 rfl) ?_
  refine q_xcall (vx_runV (As := [.int b, .int q, .long x, .long v]) (rest := [.int (nI 0), .ref (ad 51)]) ⟨hx, hb, hml, hown, hts⟩ (x_CB_put_p l hfl dC dI cI cL cB ad N0 w b q x v ⟨fs0, h0⟩ hg_b hbad) (cwV 4 hts (gI_V k_250 k_247 k_248 k_249 k_21) rfl rfl rfl (by decide +kernel) ⟨Nat.le_of_ble_eq_true rfl, Nat.le_of_ble_eq_true rfl⟩) (q_preV hK hAm hZ hN [.int b, .int q, .long x, .long v] (0) 2 (by decide) h0 rfl) rfl rfl hl.1 rfl (lv_room (Nat.le_of_ble_eq_true rfl)) d_Law_put_9 ⟨Nat.le_of_ble_eq_true rfl, Nat.le_of_ble_eq_true rfl⟩) hZ (fun ce q9 H locs hZ hce hcv hcl => ?_)
  refine vx_catch (name := "java/lang/IllegalArgumentException") hown [⟨0, 21, 24, 13⟩] ⟨0, 21, 28, 15⟩ [] htab (fun z hz => by rcases List.mem_singleton.mp hz with rfl; exact Or.inr ⟨by decide, "java/lang/IndexOutOfBoundsException", hts _ (gm k_112), hAm.2.2.2.2.2.2.2.2.2.2.2⟩) (by decide) (by decide) (hts _ (gm k_113)) (cast_A hAm) hce hcv hcl ?_
  refine W.eq (g2 := F0 m 28 ls [.ref q9]) rfl ?_
  refine lv_astore (lv' := [(8, .ref q9), (0, .ref (ad 0)), (1, .int b), (2, .int q), (3, .long x), (5, .long v), (7, .ref (ad 51))]) hx hb d_Law_put_28 hl (by decide) rfl (fun ls hl => ?_)
  refine lv_iconst (v := (nI 2)) hx hb d_Law_put_30 rfl ?_
  exact q_iret hx hb hr hlocks hK hAm hZ hN (⟨rfl, rfl⟩) d_Law_put_31
set_option maxHeartbeats 4000000 in
set_option maxRecDepth 100000 in
theorem xb_Law_amount (l : Launch) (hfl : l.stackTraces = false) (dC : Nat → ClassId) (dI : Nat → Nat → Nat) (cI cL cB : ClassId) (ad : Nat → Nat) (N0 : Nat) (w : Nat → va_E) (b : Int32) (q : Int32) (x : Int64) (h0 : ∃ fs : List Value, w 0 = .inr (2, fs)) (hbad : ¬ (okB b)) : Met l y_Law_amount ws_Law_amount ({ frames := 8, cells := 1, slots := 6, locals := 126 } : Room) (va_Pc [.ref (ad 0), .int b, .int q, .long x, .ref (ad 51)] (sPr (dC, dI) vCl [(cI, .int), (cL, .long), (cB, .object "CoinBag$Bag")] 52 ad N0 w)) (va_Qi (fun r u => r = nI 1 ∧ u = w) (sPr (dC, dI) vCl [(cI, .int), (cL, .long), (cB, .object "CoinBag$Bag")] 52 ad N0) (fun q => N0 ≤ q)) 1 6 (fun q => N0 ≤ q) := by
  refine va_MetW (cc := b_Law_amount) (maxL := 7) (ret := (some .int)) (hh := [(0, 11, 14, 13), (0, 11, 18, 15)]) (by decide) rfl ?_
  intro p e s m args below meth c s₁ B hml hv
  obtain ⟨rfl, hP, hK, hD, hN, hAm⟩ := hv
  have hx := B.exec
  have hb := B.bytes
  have hr := B.returns
  have hts := atoms_spec (ws := ws_Law_amount) B.pre
  have hown : s.vm.findClass "CoinBagLaw" = some m.cls := findClass_of_methodNamed B.named
  have hlocks := B.notSynchronized
  have hZ : sZ (dC, dI) vCl 52 ad (fun q => N0 ≤ q) s.heap w s.heap [] := ⟨hP, hD, va_S.rf⟩
  have hl := lv_entry ([.ref (ad 0), .int b, .int q, .long x, .ref (ad 51)]) (n := 7) (Nat.le_of_ble_eq_true rfl)
  rw [lg_entry_eq]
  generalize (lg_sl ([.ref (ad 0), .int b, .int q, .long x, .ref (ad 51)]) ++ List.replicate (7 - (lg_sl ([.ref (ad 0), .int b, .int q, .long x, .ref (ad 51)])).length) Slot.unset).toArray = ls at hl ⊢
  have hl : lv_has ls 7 [(0, .ref (ad 0)), (1, .int b), (2, .int q), (3, .long x), (5, .ref (ad 51))] := hl
  have htab : c.exceptionTable.toList = tableOf [(0, 11, 14, 13), (0, 11, 18, 15)] := vx_table (x := y_Law_amount) B (hts _ List.mem_cons_self)
  have hz0 := h0
  obtain ⟨fs0, h0⟩ := hz0
  refine lv_aload hx hb d_Law_amount_0 (lv_at hl 4 rfl) ?_
  refine lv_iconst (v := (nI 0)) hx hb d_Law_amount_2 rfl ?_
  refine lv_aload_n hx hb d_Law_amount_3 rfl (lv_at hl 0 rfl) ?_
  refine lv_iload_n hx hb d_Law_amount_4 rfl (lv_at hl 1 rfl) ?_
  refine lv_iload_n hx hb d_Law_amount_5 rfl (lv_at hl 2 rfl) ?_
  refine lv_lload_n hx hb d_Law_amount_6 rfl (lv_at hl 3 rfl) ?_
  refine q_xcall (vx_runV (As := [.int b, .int q, .long x]) (rest := [.int (nI 0), .ref (ad 51)]) ⟨hx, hb, hml, hown, hts⟩ (x_CB_amount_b l hfl dC dI cI cL cB ad N0 w b q x ⟨fs0, h0⟩ hbad) (cwV 3 hts (gI_V k_348 k_345 k_346 k_347 k_21) rfl rfl rfl (by decide +kernel) ⟨Nat.le_of_ble_eq_true rfl, Nat.le_of_ble_eq_true rfl⟩) (q_preV hK hAm hZ hN [.int b, .int q, .long x] (0) 2 (by decide) h0 rfl) rfl rfl hl.1 rfl (lv_room (Nat.le_of_ble_eq_true rfl)) d_Law_amount_7 ⟨Nat.le_of_ble_eq_true rfl, Nat.le_of_ble_eq_true rfl⟩) hZ (fun ce q9 H locs hZ hce hcv hcl => ?_)
  refine vx_catch (name := "java/lang/IndexOutOfBoundsException") hown [] ⟨0, 11, 14, 13⟩ [⟨0, 11, 18, 15⟩] htab (fun z hz => nomatch hz) (by decide) (by decide) (hts _ (gm k_112)) (cast_I hAm) hce hcv hcl ?_
  refine W.eq (g2 := F0 m 14 ls [.ref q9]) rfl ?_
  refine lv_astore (lv' := [(6, .ref q9), (0, .ref (ad 0)), (1, .int b), (2, .int q), (3, .long x), (5, .ref (ad 51))]) hx hb d_Law_amount_14 hl (by decide) rfl (fun ls hl => ?_)
  refine lv_iconst (v := (nI 1)) hx hb d_Law_amount_16 rfl ?_
  exact q_iret hx hb hr hlocks hK hAm hZ hN (⟨rfl, rfl⟩) d_Law_amount_17
set_option maxHeartbeats 4000000 in
set_option maxRecDepth 100000 in
theorem xp_Law_amount (l : Launch) (hfl : l.stackTraces = false) (dC : Nat → ClassId) (dI : Nat → Nat → Nat) (cI cL cB : ClassId) (ad : Nat → Nat) (N0 : Nat) (w : Nat → va_E) (b : Int32) (q : Int32) (x : Int64) (h0 : ∃ fs : List Value, w 0 = .inr (2, fs)) (hg_b : okB b) (hbad : ¬ okP q) : Met l y_Law_amount ws_Law_amount ({ frames := 8, cells := 1, slots := 6, locals := 126 } : Room) (va_Pc [.ref (ad 0), .int b, .int q, .long x, .ref (ad 51)] (sPr (dC, dI) vCl [(cI, .int), (cL, .long), (cB, .object "CoinBag$Bag")] 52 ad N0 w)) (va_Qi (fun r u => r = nI 2 ∧ u = w) (sPr (dC, dI) vCl [(cI, .int), (cL, .long), (cB, .object "CoinBag$Bag")] 52 ad N0) (fun q => N0 ≤ q)) 1 6 (fun q => N0 ≤ q) := by
  refine va_MetW (cc := b_Law_amount) (maxL := 7) (ret := (some .int)) (hh := [(0, 11, 14, 13), (0, 11, 18, 15)]) (by decide) rfl ?_
  intro p e s m args below meth c s₁ B hml hv
  obtain ⟨rfl, hP, hK, hD, hN, hAm⟩ := hv
  have hx := B.exec
  have hb := B.bytes
  have hr := B.returns
  have hts := atoms_spec (ws := ws_Law_amount) B.pre
  have hown : s.vm.findClass "CoinBagLaw" = some m.cls := findClass_of_methodNamed B.named
  have hlocks := B.notSynchronized
  have hZ : sZ (dC, dI) vCl 52 ad (fun q => N0 ≤ q) s.heap w s.heap [] := ⟨hP, hD, va_S.rf⟩
  have hl := lv_entry ([.ref (ad 0), .int b, .int q, .long x, .ref (ad 51)]) (n := 7) (Nat.le_of_ble_eq_true rfl)
  rw [lg_entry_eq]
  generalize (lg_sl ([.ref (ad 0), .int b, .int q, .long x, .ref (ad 51)]) ++ List.replicate (7 - (lg_sl ([.ref (ad 0), .int b, .int q, .long x, .ref (ad 51)])).length) Slot.unset).toArray = ls at hl ⊢
  have hl : lv_has ls 7 [(0, .ref (ad 0)), (1, .int b), (2, .int q), (3, .long x), (5, .ref (ad 51))] := hl
  have htab : c.exceptionTable.toList = tableOf [(0, 11, 14, 13), (0, 11, 18, 15)] := vx_table (x := y_Law_amount) B (hts _ List.mem_cons_self)
  have hz0 := h0
  obtain ⟨fs0, h0⟩ := hz0
  refine lv_aload hx hb d_Law_amount_0 (lv_at hl 4 rfl) ?_
  refine lv_iconst (v := (nI 0)) hx hb d_Law_amount_2 rfl ?_
  refine lv_aload_n hx hb d_Law_amount_3 rfl (lv_at hl 0 rfl) ?_
  refine lv_iload_n hx hb d_Law_amount_4 rfl (lv_at hl 1 rfl) ?_
  refine lv_iload_n hx hb d_Law_amount_5 rfl (lv_at hl 2 rfl) ?_
  refine lv_lload_n hx hb d_Law_amount_6 rfl (lv_at hl 3 rfl) ?_
  refine q_xcall (vx_runV (As := [.int b, .int q, .long x]) (rest := [.int (nI 0), .ref (ad 51)]) ⟨hx, hb, hml, hown, hts⟩ (x_CB_amount_p l hfl dC dI cI cL cB ad N0 w b q x ⟨fs0, h0⟩ hg_b hbad) (cwV 3 hts (gI_V k_348 k_345 k_346 k_347 k_21) rfl rfl rfl (by decide +kernel) ⟨Nat.le_of_ble_eq_true rfl, Nat.le_of_ble_eq_true rfl⟩) (q_preV hK hAm hZ hN [.int b, .int q, .long x] (0) 2 (by decide) h0 rfl) rfl rfl hl.1 rfl (lv_room (Nat.le_of_ble_eq_true rfl)) d_Law_amount_7 ⟨Nat.le_of_ble_eq_true rfl, Nat.le_of_ble_eq_true rfl⟩) hZ (fun ce q9 H locs hZ hce hcv hcl => ?_)
  refine vx_catch (name := "java/lang/IllegalArgumentException") hown [⟨0, 11, 14, 13⟩] ⟨0, 11, 18, 15⟩ [] htab (fun z hz => by rcases List.mem_singleton.mp hz with rfl; exact Or.inr ⟨by decide, "java/lang/IndexOutOfBoundsException", hts _ (gm k_112), hAm.2.2.2.2.2.2.2.2.2.2.2⟩) (by decide) (by decide) (hts _ (gm k_113)) (cast_A hAm) hce hcv hcl ?_
  refine W.eq (g2 := F0 m 18 ls [.ref q9]) rfl ?_
  refine lv_astore (lv' := [(6, .ref q9), (0, .ref (ad 0)), (1, .int b), (2, .int q), (3, .long x), (5, .ref (ad 51))]) hx hb d_Law_amount_18 hl (by decide) rfl (fun ls hl => ?_)
  refine lv_iconst (v := (nI 2)) hx hb d_Law_amount_20 rfl ?_
  exact q_iret hx hb hr hlocks hK hAm hZ hN (⟨rfl, rfl⟩) d_Law_amount_21
set_option maxHeartbeats 4000000 in
set_option maxRecDepth 100000 in
theorem xb_Law_times (l : Launch) (hfl : l.stackTraces = false) (dC : Nat → ClassId) (dI : Nat → Nat → Nat) (cI cL cB : ClassId) (ad : Nat → Nat) (N0 : Nat) (w : Nat → va_E) (a : Int32) (v : Int64) (c2 : Int32) (h0 : ∃ fs : List Value, w 0 = .inr (2, fs)) (hbad : ¬ (okB a ∧ okB c2)) : Met l y_Law_times ws_Law_times ({ frames := 8, cells := 1, slots := 6, locals := 128 } : Room) (va_Pc [.ref (ad 0), .int a, .long v, .int c2, .ref (ad 51)] (sPr (dC, dI) vCl [(cI, .int), (cL, .long), (cB, .object "CoinBag$Bag")] 52 ad N0 w)) (va_Qi (fun r u => r = nI 1 ∧ u = w) (sPr (dC, dI) vCl [(cI, .int), (cL, .long), (cB, .object "CoinBag$Bag")] 52 ad N0) (fun q => N0 ≤ q)) 1 6 (fun q => N0 ≤ q) := by
  refine va_MetW (cc := b_Law_times) (maxL := 7) (ret := (some .int)) (hh := [(0, 20, 23, 13)]) (by decide) rfl ?_
  intro p e s m args below meth c s₁ B hml hv
  obtain ⟨rfl, hP, hK, hD, hN, hAm⟩ := hv
  have hx := B.exec
  have hb := B.bytes
  have hr := B.returns
  have hts := atoms_spec (ws := ws_Law_times) B.pre
  have hown : s.vm.findClass "CoinBagLaw" = some m.cls := findClass_of_methodNamed B.named
  have hlocks := B.notSynchronized
  have hZ : sZ (dC, dI) vCl 52 ad (fun q => N0 ≤ q) s.heap w s.heap [] := ⟨hP, hD, va_S.rf⟩
  have hl := lv_entry ([.ref (ad 0), .int a, .long v, .int c2, .ref (ad 51)]) (n := 7) (Nat.le_of_ble_eq_true rfl)
  rw [lg_entry_eq]
  generalize (lg_sl ([.ref (ad 0), .int a, .long v, .int c2, .ref (ad 51)]) ++ List.replicate (7 - (lg_sl ([.ref (ad 0), .int a, .long v, .int c2, .ref (ad 51)])).length) Slot.unset).toArray = ls at hl ⊢
  have hl : lv_has ls 7 [(0, .ref (ad 0)), (1, .int a), (2, .long v), (4, .int c2), (5, .ref (ad 51))] := hl
  have htab : c.exceptionTable.toList = tableOf [(0, 20, 23, 13)] := vx_table (x := y_Law_times) B (hts _ List.mem_cons_self)
  have hz0 := h0
  obtain ⟨fs0, h0⟩ := hz0
  refine lv_aload hx hb d_Law_times_0 (lv_at hl 4 rfl) ?_
  refine lv_iconst (v := (nI 0)) hx hb d_Law_times_2 rfl ?_
  refine lv_aload_n hx hb d_Law_times_3 rfl (lv_at hl 0 rfl) ?_
  refine lv_iload_n hx hb d_Law_times_4 rfl (lv_at hl 1 rfl) ?_
  refine lv_lload_n hx hb d_Law_times_5 rfl (lv_at hl 2 rfl) ?_
  refine lv_iload hx hb d_Law_times_6 (lv_at hl 3 rfl) ?_
  refine q_xcall (vx_runV (As := [.int a, .long v, .int c2]) (rest := [.int (nI 0), .ref (ad 51)]) ⟨hx, hb, hml, hown, hts⟩ (x_CB_times_b l hfl dC dI cI cL cB ad N0 w a v c2 ⟨fs0, h0⟩ hbad) (cwV 3 hts (gI_V k_316 k_313 k_314 k_315 k_21) rfl rfl rfl (by decide +kernel) ⟨Nat.le_of_ble_eq_true rfl, Nat.le_of_ble_eq_true rfl⟩) (q_preV hK hAm hZ hN [.int a, .long v, .int c2] (0) 2 (by decide) h0 rfl) rfl rfl hl.1 rfl (lv_room (Nat.le_of_ble_eq_true rfl)) d_Law_times_8 ⟨Nat.le_of_ble_eq_true rfl, Nat.le_of_ble_eq_true rfl⟩) hZ (fun ce q9 H locs hZ hce hcv hcl => ?_)
  refine vx_catch (name := "java/lang/IndexOutOfBoundsException") hown [] ⟨0, 20, 23, 13⟩ [] htab (fun z hz => nomatch hz) (by decide) (by decide) (hts _ (gm k_112)) (cast_I hAm) hce hcv hcl ?_
  refine W.eq (g2 := F0 m 23 ls [.ref q9]) rfl ?_
  refine lv_astore (lv' := [(6, .ref q9), (0, .ref (ad 0)), (1, .int a), (2, .long v), (4, .int c2), (5, .ref (ad 51))]) hx hb d_Law_times_23 hl (by decide) rfl (fun ls hl => ?_)
  refine lv_iconst (v := (nI 1)) hx hb d_Law_times_25 rfl ?_
  exact q_iret hx hb hr hlocks hK hAm hZ hN (⟨rfl, rfl⟩) d_Law_times_26
set_option maxHeartbeats 4000000 in
set_option maxRecDepth 100000 in
theorem xb_Law_only (l : Launch) (hfl : l.stackTraces = false) (dC : Nat → ClassId) (dI : Nat → Nat → Nat) (cI cL cB : ClassId) (ad : Nat → Nat) (N0 : Nat) (w : Nat → va_E) (a : Int32) (q : Int32) (iz : Int32) (c2 : Int32) (h0 : ∃ fs : List Value, w 0 = .inr (2, fs)) (hbad : ¬ (okB a ∧ okB c2)) : Met l y_Law_only ws_Law_only ({ frames := 8, cells := 1, slots := 6, locals := 128 } : Room) (va_Pc [.ref (ad 0), .int a, .int q, .int iz, .int c2] (sPr (dC, dI) vCl [(cI, .int), (cL, .long), (cB, .object "CoinBag$Bag")] 52 ad N0 w)) (va_Qi (fun r u => r = nI 1 ∧ u = w) (sPr (dC, dI) vCl [(cI, .int), (cL, .long), (cB, .object "CoinBag$Bag")] 52 ad N0) (fun q => N0 ≤ q)) 1 6 (fun q => N0 ≤ q) := by
  refine va_MetW (cc := b_Law_only) (maxL := 6) (ret := (some .int)) (hh := [(0, 9, 12, 13), (0, 9, 16, 15)]) (by decide) rfl ?_
  intro p e s m args below meth c s₁ B hml hv
  obtain ⟨rfl, hP, hK, hD, hN, hAm⟩ := hv
  have hx := B.exec
  have hb := B.bytes
  have hr := B.returns
  have hts := atoms_spec (ws := ws_Law_only) B.pre
  have hown : s.vm.findClass "CoinBagLaw" = some m.cls := findClass_of_methodNamed B.named
  have hlocks := B.notSynchronized
  have hZ : sZ (dC, dI) vCl 52 ad (fun q => N0 ≤ q) s.heap w s.heap [] := ⟨hP, hD, va_S.rf⟩
  have hl := lv_entry ([.ref (ad 0), .int a, .int q, .int iz, .int c2]) (n := 6) (Nat.le_of_ble_eq_true rfl)
  rw [lg_entry_eq]
  generalize (lg_sl ([.ref (ad 0), .int a, .int q, .int iz, .int c2]) ++ List.replicate (6 - (lg_sl ([.ref (ad 0), .int a, .int q, .int iz, .int c2])).length) Slot.unset).toArray = ls at hl ⊢
  have hl : lv_has ls 6 [(0, .ref (ad 0)), (1, .int a), (2, .int q), (3, .int iz), (4, .int c2)] := hl
  have htab : c.exceptionTable.toList = tableOf [(0, 9, 12, 13), (0, 9, 16, 15)] := vx_table (x := y_Law_only) B (hts _ List.mem_cons_self)
  have hz0 := h0
  obtain ⟨fs0, h0⟩ := hz0
  refine lv_aload_n hx hb d_Law_only_0 rfl (lv_at hl 0 rfl) ?_
  refine lv_iload_n hx hb d_Law_only_1 rfl (lv_at hl 1 rfl) ?_
  refine lv_iload_n hx hb d_Law_only_2 rfl (lv_at hl 2 rfl) ?_
  refine lv_iload_n hx hb d_Law_only_3 rfl (lv_at hl 3 rfl) ?_
  refine lv_iload hx hb d_Law_only_4 (lv_at hl 4 rfl) ?_
  refine q_xcall (vx_runV (As := [.int a, .int q, .int iz, .int c2]) (rest := []) ⟨hx, hb, hml, hown, hts⟩ (x_CB_only_b l hfl dC dI cI cL cB ad N0 w a q iz c2 ⟨fs0, h0⟩ hbad) (cwV 4 hts (gI_V k_327 k_324 k_325 k_326 k_21) rfl rfl rfl (by decide +kernel) ⟨Nat.le_of_ble_eq_true rfl, Nat.le_of_ble_eq_true rfl⟩) (q_preV hK hAm hZ hN [.int a, .int q, .int iz, .int c2] (0) 2 (by decide) h0 rfl) rfl rfl hl.1 rfl (lv_room (Nat.le_of_ble_eq_true rfl)) d_Law_only_6 ⟨Nat.le_of_ble_eq_true rfl, Nat.le_of_ble_eq_true rfl⟩) hZ (fun ce q9 H locs hZ hce hcv hcl => ?_)
  refine vx_catch (name := "java/lang/IndexOutOfBoundsException") hown [] ⟨0, 9, 12, 13⟩ [⟨0, 9, 16, 15⟩] htab (fun z hz => nomatch hz) (by decide) (by decide) (hts _ (gm k_112)) (cast_I hAm) hce hcv hcl ?_
  refine W.eq (g2 := F0 m 12 ls [.ref q9]) rfl ?_
  refine lv_astore (lv' := [(5, .ref q9), (0, .ref (ad 0)), (1, .int a), (2, .int q), (3, .int iz), (4, .int c2)]) hx hb d_Law_only_12 hl (by decide) rfl (fun ls hl => ?_)
  refine lv_iconst (v := (nI 1)) hx hb d_Law_only_14 rfl ?_
  exact q_iret hx hb hr hlocks hK hAm hZ hN (⟨rfl, rfl⟩) d_Law_only_15
set_option maxHeartbeats 4000000 in
set_option maxRecDepth 100000 in
theorem xp_Law_only (l : Launch) (hfl : l.stackTraces = false) (dC : Nat → ClassId) (dI : Nat → Nat → Nat) (cI cL cB : ClassId) (ad : Nat → Nat) (N0 : Nat) (w : Nat → va_E) (a : Int32) (q : Int32) (iz : Int32) (c2 : Int32) (h0 : ∃ fs : List Value, w 0 = .inr (2, fs)) (hg_a : okB a) (hg_c2 : okB c2) (hbad : ¬ okP q) : Met l y_Law_only ws_Law_only ({ frames := 8, cells := 1, slots := 6, locals := 128 } : Room) (va_Pc [.ref (ad 0), .int a, .int q, .int iz, .int c2] (sPr (dC, dI) vCl [(cI, .int), (cL, .long), (cB, .object "CoinBag$Bag")] 52 ad N0 w)) (va_Qi (fun r u => r = nI 2 ∧ u = w) (sPr (dC, dI) vCl [(cI, .int), (cL, .long), (cB, .object "CoinBag$Bag")] 52 ad N0) (fun q => N0 ≤ q)) 1 6 (fun q => N0 ≤ q) := by
  refine va_MetW (cc := b_Law_only) (maxL := 6) (ret := (some .int)) (hh := [(0, 9, 12, 13), (0, 9, 16, 15)]) (by decide) rfl ?_
  intro p e s m args below meth c s₁ B hml hv
  obtain ⟨rfl, hP, hK, hD, hN, hAm⟩ := hv
  have hx := B.exec
  have hb := B.bytes
  have hr := B.returns
  have hts := atoms_spec (ws := ws_Law_only) B.pre
  have hown : s.vm.findClass "CoinBagLaw" = some m.cls := findClass_of_methodNamed B.named
  have hlocks := B.notSynchronized
  have hZ : sZ (dC, dI) vCl 52 ad (fun q => N0 ≤ q) s.heap w s.heap [] := ⟨hP, hD, va_S.rf⟩
  have hl := lv_entry ([.ref (ad 0), .int a, .int q, .int iz, .int c2]) (n := 6) (Nat.le_of_ble_eq_true rfl)
  rw [lg_entry_eq]
  generalize (lg_sl ([.ref (ad 0), .int a, .int q, .int iz, .int c2]) ++ List.replicate (6 - (lg_sl ([.ref (ad 0), .int a, .int q, .int iz, .int c2])).length) Slot.unset).toArray = ls at hl ⊢
  have hl : lv_has ls 6 [(0, .ref (ad 0)), (1, .int a), (2, .int q), (3, .int iz), (4, .int c2)] := hl
  have htab : c.exceptionTable.toList = tableOf [(0, 9, 12, 13), (0, 9, 16, 15)] := vx_table (x := y_Law_only) B (hts _ List.mem_cons_self)
  have hz0 := h0
  obtain ⟨fs0, h0⟩ := hz0
  refine lv_aload_n hx hb d_Law_only_0 rfl (lv_at hl 0 rfl) ?_
  refine lv_iload_n hx hb d_Law_only_1 rfl (lv_at hl 1 rfl) ?_
  refine lv_iload_n hx hb d_Law_only_2 rfl (lv_at hl 2 rfl) ?_
  refine lv_iload_n hx hb d_Law_only_3 rfl (lv_at hl 3 rfl) ?_
  refine lv_iload hx hb d_Law_only_4 (lv_at hl 4 rfl) ?_
  refine q_xcall (vx_runV (As := [.int a, .int q, .int iz, .int c2]) (rest := []) ⟨hx, hb, hml, hown, hts⟩ (x_CB_only_p l hfl dC dI cI cL cB ad N0 w a q iz c2 ⟨fs0, h0⟩ hg_a hg_c2 hbad) (cwV 4 hts (gI_V k_327 k_324 k_325 k_326 k_21) rfl rfl rfl (by decide +kernel) ⟨Nat.le_of_ble_eq_true rfl, Nat.le_of_ble_eq_true rfl⟩) (q_preV hK hAm hZ hN [.int a, .int q, .int iz, .int c2] (0) 2 (by decide) h0 rfl) rfl rfl hl.1 rfl (lv_room (Nat.le_of_ble_eq_true rfl)) d_Law_only_6 ⟨Nat.le_of_ble_eq_true rfl, Nat.le_of_ble_eq_true rfl⟩) hZ (fun ce q9 H locs hZ hce hcv hcl => ?_)
  refine vx_catch (name := "java/lang/IllegalArgumentException") hown [⟨0, 9, 12, 13⟩] ⟨0, 9, 16, 15⟩ [] htab (fun z hz => by rcases List.mem_singleton.mp hz with rfl; exact Or.inr ⟨by decide, "java/lang/IndexOutOfBoundsException", hts _ (gm k_112), hAm.2.2.2.2.2.2.2.2.2.2.2⟩) (by decide) (by decide) (hts _ (gm k_113)) (cast_A hAm) hce hcv hcl ?_
  refine W.eq (g2 := F0 m 16 ls [.ref q9]) rfl ?_
  refine lv_astore (lv' := [(5, .ref q9), (0, .ref (ad 0)), (1, .int a), (2, .int q), (3, .int iz), (4, .int c2)]) hx hb d_Law_only_16 hl (by decide) rfl (fun ls hl => ?_)
  refine lv_iconst (v := (nI 2)) hx hb d_Law_only_18 rfl ?_
  exact q_iret hx hb hr hlocks hK hAm hZ hN (⟨rfl, rfl⟩) d_Law_only_19
set_option maxHeartbeats 4000000 in
set_option maxRecDepth 100000 in
theorem xb_Law_part (l : Launch) (hfl : l.stackTraces = false) (dC : Nat → ClassId) (dI : Nat → Nat → Nat) (cI cL cB : ClassId) (ad : Nat → Nat) (N0 : Nat) (w : Nat → va_E) (a : Int32) (sg : Int32) (c2 : Int32) (h0 : ∃ fs : List Value, w 0 = .inr (2, fs)) (hbad : ¬ (okB a ∧ okB c2)) : Met l y_Law_part ws_Law_part ({ frames := 8, cells := 1, slots := 6, locals := 129 } : Room) (va_Pc [.ref (ad 0), .int a, .int sg, .int c2, .ref (ad 51)] (sPr (dC, dI) vCl [(cI, .int), (cL, .long), (cB, .object "CoinBag$Bag")] 52 ad N0 w)) (va_Qi (fun r u => r = nI 1 ∧ u = w) (sPr (dC, dI) vCl [(cI, .int), (cL, .long), (cB, .object "CoinBag$Bag")] 52 ad N0) (fun q => N0 ≤ q)) 1 6 (fun q => N0 ≤ q) := by
  refine va_MetW (cc := b_Law_part) (maxL := 6) (ret := (some .int)) (hh := [(0, 19, 22, 13)]) (by decide) rfl ?_
  intro p e s m args below meth c s₁ B hml hv
  obtain ⟨rfl, hP, hK, hD, hN, hAm⟩ := hv
  have hx := B.exec
  have hb := B.bytes
  have hr := B.returns
  have hts := atoms_spec (ws := ws_Law_part) B.pre
  have hown : s.vm.findClass "CoinBagLaw" = some m.cls := findClass_of_methodNamed B.named
  have hlocks := B.notSynchronized
  have hZ : sZ (dC, dI) vCl 52 ad (fun q => N0 ≤ q) s.heap w s.heap [] := ⟨hP, hD, va_S.rf⟩
  have hl := lv_entry ([.ref (ad 0), .int a, .int sg, .int c2, .ref (ad 51)]) (n := 6) (Nat.le_of_ble_eq_true rfl)
  rw [lg_entry_eq]
  generalize (lg_sl ([.ref (ad 0), .int a, .int sg, .int c2, .ref (ad 51)]) ++ List.replicate (6 - (lg_sl ([.ref (ad 0), .int a, .int sg, .int c2, .ref (ad 51)])).length) Slot.unset).toArray = ls at hl ⊢
  have hl : lv_has ls 6 [(0, .ref (ad 0)), (1, .int a), (2, .int sg), (3, .int c2), (4, .ref (ad 51))] := hl
  have htab : c.exceptionTable.toList = tableOf [(0, 19, 22, 13)] := vx_table (x := y_Law_part) B (hts _ List.mem_cons_self)
  have hz0 := h0
  obtain ⟨fs0, h0⟩ := hz0
  refine lv_aload hx hb d_Law_part_0 (lv_at hl 4 rfl) ?_
  refine lv_iconst (v := (nI 0)) hx hb d_Law_part_2 rfl ?_
  refine lv_aload_n hx hb d_Law_part_3 rfl (lv_at hl 0 rfl) ?_
  refine lv_iload_n hx hb d_Law_part_4 rfl (lv_at hl 1 rfl) ?_
  refine lv_iload_n hx hb d_Law_part_5 rfl (lv_at hl 2 rfl) ?_
  refine lv_iload_n hx hb d_Law_part_6 rfl (lv_at hl 3 rfl) ?_
  refine q_xcall (vx_runV (As := [.int a, .int sg, .int c2]) (rest := [.int (nI 0), .ref (ad 51)]) ⟨hx, hb, hml, hown, hts⟩ (x_CB_part_b l hfl dC dI cI cL cB ad N0 w a sg c2 ⟨fs0, h0⟩ hbad) (cwV 3 hts (gI_V k_334 k_331 k_332 k_333 k_21) rfl rfl rfl (by decide +kernel) ⟨Nat.le_of_ble_eq_true rfl, Nat.le_of_ble_eq_true rfl⟩) (q_preV hK hAm hZ hN [.int a, .int sg, .int c2] (0) 2 (by decide) h0 rfl) rfl rfl hl.1 rfl (lv_room (Nat.le_of_ble_eq_true rfl)) d_Law_part_7 ⟨Nat.le_of_ble_eq_true rfl, Nat.le_of_ble_eq_true rfl⟩) hZ (fun ce q9 H locs hZ hce hcv hcl => ?_)
  refine vx_catch (name := "java/lang/IndexOutOfBoundsException") hown [] ⟨0, 19, 22, 13⟩ [] htab (fun z hz => nomatch hz) (by decide) (by decide) (hts _ (gm k_112)) (cast_I hAm) hce hcv hcl ?_
  refine W.eq (g2 := F0 m 22 ls [.ref q9]) rfl ?_
  refine lv_astore (lv' := [(5, .ref q9), (0, .ref (ad 0)), (1, .int a), (2, .int sg), (3, .int c2), (4, .ref (ad 51))]) hx hb d_Law_part_22 hl (by decide) rfl (fun ls hl => ?_)
  refine lv_iconst (v := (nI 1)) hx hb d_Law_part_24 rfl ?_
  exact q_iret hx hb hr hlocks hK hAm hZ hN (⟨rfl, rfl⟩) d_Law_part_25
set_option maxHeartbeats 4000000 in
set_option maxRecDepth 100000 in
theorem xb_Law_clear (l : Launch) (hfl : l.stackTraces = false) (dC : Nat → ClassId) (dI : Nat → Nat → Nat) (cI cL cB : ClassId) (ad : Nat → Nat) (N0 : Nat) (w : Nat → va_E) (b : Int32) (h0 : ∃ fs : List Value, w 0 = .inr (2, fs)) (hbad : ¬ (okB b)) : Met l y_Law_clear ws_Law_clear ({ frames := 8, cells := 1, slots := 6, locals := 123 } : Room) (va_Pc [.ref (ad 0), .int b] (sPr (dC, dI) vCl [(cI, .int), (cL, .long), (cB, .object "CoinBag$Bag")] 52 ad N0 w)) (va_Qi (fun r u => r = nI 1 ∧ u = w) (sPr (dC, dI) vCl [(cI, .int), (cL, .long), (cB, .object "CoinBag$Bag")] 52 ad N0) (fun q => N0 ≤ q)) 1 6 (fun q => N0 ≤ q) := by
  refine va_MetW (cc := b_Law_clear) (maxL := 3) (ret := (some .int)) (hh := [(0, 5, 8, 13)]) (by decide) rfl ?_
  intro p e s m args below meth c s₁ B hml hv
  obtain ⟨rfl, hP, hK, hD, hN, hAm⟩ := hv
  have hx := B.exec
  have hb := B.bytes
  have hr := B.returns
  have hts := atoms_spec (ws := ws_Law_clear) B.pre
  have hown : s.vm.findClass "CoinBagLaw" = some m.cls := findClass_of_methodNamed B.named
  have hlocks := B.notSynchronized
  have hZ : sZ (dC, dI) vCl 52 ad (fun q => N0 ≤ q) s.heap w s.heap [] := ⟨hP, hD, va_S.rf⟩
  have hl := lv_entry ([.ref (ad 0), .int b]) (n := 3) (Nat.le_of_ble_eq_true rfl)
  rw [lg_entry_eq]
  generalize (lg_sl ([.ref (ad 0), .int b]) ++ List.replicate (3 - (lg_sl ([.ref (ad 0), .int b])).length) Slot.unset).toArray = ls at hl ⊢
  have hl : lv_has ls 3 [(0, .ref (ad 0)), (1, .int b)] := hl
  have htab : c.exceptionTable.toList = tableOf [(0, 5, 8, 13)] := vx_table (x := y_Law_clear) B (hts _ List.mem_cons_self)
  have hz0 := h0
  obtain ⟨fs0, h0⟩ := hz0
  refine lv_aload_n hx hb d_Law_clear_0 rfl (lv_at hl 0 rfl) ?_
  refine lv_iload_n hx hb d_Law_clear_1 rfl (lv_at hl 1 rfl) ?_
  refine q_xcall (vx_runV (As := [.int b]) (rest := []) ⟨hx, hb, hml, hown, hts⟩ (x_CB_clear_b l hfl dC dI cI cL cB ad N0 w b ⟨fs0, h0⟩ hbad) (cwV 1 hts (gI_V k_341 k_338 k_339 k_340 k_21) rfl rfl rfl (by decide +kernel) ⟨Nat.le_of_ble_eq_true rfl, Nat.le_of_ble_eq_true rfl⟩) (q_preV hK hAm hZ hN [.int b] (0) 2 (by decide) h0 rfl) rfl rfl hl.1 rfl (lv_room (Nat.le_of_ble_eq_true rfl)) d_Law_clear_2 ⟨Nat.le_of_ble_eq_true rfl, Nat.le_of_ble_eq_true rfl⟩) hZ (fun ce q9 H locs hZ hce hcv hcl => ?_)
  refine vx_catch (name := "java/lang/IndexOutOfBoundsException") hown [] ⟨0, 5, 8, 13⟩ [] htab (fun z hz => nomatch hz) (by decide) (by decide) (hts _ (gm k_112)) (cast_I hAm) hce hcv hcl ?_
  refine W.eq (g2 := F0 m 8 ls [.ref q9]) rfl ?_
  refine lv_astore_n (lv' := [(2, .ref q9), (0, .ref (ad 0)), (1, .int b)]) hx hb d_Law_clear_8 rfl hl (by decide) rfl (fun ls hl => ?_)
  refine lv_iconst (v := (nI 1)) hx hb d_Law_clear_9 rfl ?_
  exact q_iret hx hb hr hlocks hK hAm hZ hN (⟨rfl, rfl⟩) d_Law_clear_10
set_option maxHeartbeats 4000000 in
set_option maxRecDepth 100000 in
theorem xb_Law_size (l : Launch) (hfl : l.stackTraces = false) (dC : Nat → ClassId) (dI : Nat → Nat → Nat) (cI cL cB : ClassId) (ad : Nat → Nat) (N0 : Nat) (w : Nat → va_E) (b : Int32) (h0 : ∃ fs : List Value, w 0 = .inr (2, fs)) (hbad : ¬ (okB b)) : Met l y_Law_size ws_Law_size ({ frames := 8, cells := 1, slots := 6, locals := 123 } : Room) (va_Pc [.ref (ad 0), .int b, .ref (ad 51)] (sPr (dC, dI) vCl [(cI, .int), (cL, .long), (cB, .object "CoinBag$Bag")] 52 ad N0 w)) (va_Qi (fun r u => r = nI 1 ∧ u = w) (sPr (dC, dI) vCl [(cI, .int), (cL, .long), (cB, .object "CoinBag$Bag")] 52 ad N0) (fun q => N0 ≤ q)) 1 6 (fun q => N0 ≤ q) := by
  refine va_MetW (cc := b_Law_size) (maxL := 4) (ret := (some .int)) (hh := [(0, 9, 12, 13)]) (by decide) rfl ?_
  intro p e s m args below meth c s₁ B hml hv
  obtain ⟨rfl, hP, hK, hD, hN, hAm⟩ := hv
  have hx := B.exec
  have hb := B.bytes
  have hr := B.returns
  have hts := atoms_spec (ws := ws_Law_size) B.pre
  have hown : s.vm.findClass "CoinBagLaw" = some m.cls := findClass_of_methodNamed B.named
  have hlocks := B.notSynchronized
  have hZ : sZ (dC, dI) vCl 52 ad (fun q => N0 ≤ q) s.heap w s.heap [] := ⟨hP, hD, va_S.rf⟩
  have hl := lv_entry ([.ref (ad 0), .int b, .ref (ad 51)]) (n := 4) (Nat.le_of_ble_eq_true rfl)
  rw [lg_entry_eq]
  generalize (lg_sl ([.ref (ad 0), .int b, .ref (ad 51)]) ++ List.replicate (4 - (lg_sl ([.ref (ad 0), .int b, .ref (ad 51)])).length) Slot.unset).toArray = ls at hl ⊢
  have hl : lv_has ls 4 [(0, .ref (ad 0)), (1, .int b), (2, .ref (ad 51))] := hl
  have htab : c.exceptionTable.toList = tableOf [(0, 9, 12, 13)] := vx_table (x := y_Law_size) B (hts _ List.mem_cons_self)
  have hz0 := h0
  obtain ⟨fs0, h0⟩ := hz0
  refine lv_aload_n hx hb d_Law_size_0 rfl (lv_at hl 2 rfl) ?_
  refine lv_iconst (v := (nI 0)) hx hb d_Law_size_1 rfl ?_
  refine lv_aload_n hx hb d_Law_size_2 rfl (lv_at hl 0 rfl) ?_
  refine lv_iload_n hx hb d_Law_size_3 rfl (lv_at hl 1 rfl) ?_
  refine q_xcall (vx_runV (As := [.int b]) (rest := [.int (nI 0), .ref (ad 51)]) ⟨hx, hb, hml, hown, hts⟩ (x_CB_size_b l hfl dC dI cI cL cB ad N0 w b ⟨fs0, h0⟩ hbad) (cwV 1 hts (gI_V k_355 k_352 k_353 k_354 k_21) rfl rfl rfl (by decide +kernel) ⟨Nat.le_of_ble_eq_true rfl, Nat.le_of_ble_eq_true rfl⟩) (q_preV hK hAm hZ hN [.int b] (0) 2 (by decide) h0 rfl) rfl rfl hl.1 rfl (lv_room (Nat.le_of_ble_eq_true rfl)) d_Law_size_4 ⟨Nat.le_of_ble_eq_true rfl, Nat.le_of_ble_eq_true rfl⟩) hZ (fun ce q9 H locs hZ hce hcv hcl => ?_)
  refine vx_catch (name := "java/lang/IndexOutOfBoundsException") hown [] ⟨0, 9, 12, 13⟩ [] htab (fun z hz => nomatch hz) (by decide) (by decide) (hts _ (gm k_112)) (cast_I hAm) hce hcv hcl ?_
  refine W.eq (g2 := F0 m 12 ls [.ref q9]) rfl ?_
  refine lv_astore_n (lv' := [(3, .ref q9), (0, .ref (ad 0)), (1, .int b), (2, .ref (ad 51))]) hx hb d_Law_size_12 rfl hl (by decide) rfl (fun ls hl => ?_)
  refine lv_iconst (v := (nI 1)) hx hb d_Law_size_13 rfl ?_
  exact q_iret hx hb hr hlocks hK hAm hZ hN (⟨rfl, rfl⟩) d_Law_size_14
set_option maxHeartbeats 4000000 in
set_option maxRecDepth 100000 in
theorem xb_Law_at (l : Launch) (hfl : l.stackTraces = false) (dC : Nat → ClassId) (dI : Nat → Nat → Nat) (cI cL cB : ClassId) (ad : Nat → Nat) (N0 : Nat) (w : Nat → va_E) (b : Int32) (i9 : Int32) (wh : Int32) (h0 : ∃ fs : List Value, w 0 = .inr (2, fs)) (hbad : ¬ (okB b)) : Met l y_Law_at ws_Law_at ({ frames := 8, cells := 1, slots := 6, locals := 126 } : Room) (va_Pc [.ref (ad 0), .int b, .int i9, .int wh, .ref (ad 51)] (sPr (dC, dI) vCl [(cI, .int), (cL, .long), (cB, .object "CoinBag$Bag")] 52 ad N0 w)) (va_Qi (fun r u => r = nI 1 ∧ u = w) (sPr (dC, dI) vCl [(cI, .int), (cL, .long), (cB, .object "CoinBag$Bag")] 52 ad N0) (fun q => N0 ≤ q)) 1 6 (fun q => N0 ≤ q) := by
  refine va_MetW (cc := b_Law_at) (maxL := 6) (ret := (some .int)) (hh := [(0, 11, 14, 13)]) (by decide) rfl ?_
  intro p e s m args below meth c s₁ B hml hv
  obtain ⟨rfl, hP, hK, hD, hN, hAm⟩ := hv
  have hx := B.exec
  have hb := B.bytes
  have hr := B.returns
  have hts := atoms_spec (ws := ws_Law_at) B.pre
  have hown : s.vm.findClass "CoinBagLaw" = some m.cls := findClass_of_methodNamed B.named
  have hlocks := B.notSynchronized
  have hZ : sZ (dC, dI) vCl 52 ad (fun q => N0 ≤ q) s.heap w s.heap [] := ⟨hP, hD, va_S.rf⟩
  have hl := lv_entry ([.ref (ad 0), .int b, .int i9, .int wh, .ref (ad 51)]) (n := 6) (Nat.le_of_ble_eq_true rfl)
  rw [lg_entry_eq]
  generalize (lg_sl ([.ref (ad 0), .int b, .int i9, .int wh, .ref (ad 51)]) ++ List.replicate (6 - (lg_sl ([.ref (ad 0), .int b, .int i9, .int wh, .ref (ad 51)])).length) Slot.unset).toArray = ls at hl ⊢
  have hl : lv_has ls 6 [(0, .ref (ad 0)), (1, .int b), (2, .int i9), (3, .int wh), (4, .ref (ad 51))] := hl
  have htab : c.exceptionTable.toList = tableOf [(0, 11, 14, 13)] := vx_table (x := y_Law_at) B (hts _ List.mem_cons_self)
  have hz0 := h0
  obtain ⟨fs0, h0⟩ := hz0
  refine lv_aload hx hb d_Law_at_0 (lv_at hl 4 rfl) ?_
  refine lv_iconst (v := (nI 0)) hx hb d_Law_at_2 rfl ?_
  refine lv_aload_n hx hb d_Law_at_3 rfl (lv_at hl 0 rfl) ?_
  refine lv_iload_n hx hb d_Law_at_4 rfl (lv_at hl 1 rfl) ?_
  refine lv_iload_n hx hb d_Law_at_5 rfl (lv_at hl 2 rfl) ?_
  refine lv_iload_n hx hb d_Law_at_6 rfl (lv_at hl 3 rfl) ?_
  refine q_xcall (vx_runV (As := [.int b, .int i9, .int wh]) (rest := [.int (nI 0), .ref (ad 51)]) ⟨hx, hb, hml, hown, hts⟩ (x_CB_at_b l hfl dC dI cI cL cB ad N0 w b i9 wh ⟨fs0, h0⟩ hbad) (cwV 3 hts (gI_V k_362 k_359 k_360 k_361 k_21) rfl rfl rfl (by decide +kernel) ⟨Nat.le_of_ble_eq_true rfl, Nat.le_of_ble_eq_true rfl⟩) (q_preV hK hAm hZ hN [.int b, .int i9, .int wh] (0) 2 (by decide) h0 rfl) rfl rfl hl.1 rfl (lv_room (Nat.le_of_ble_eq_true rfl)) d_Law_at_7 ⟨Nat.le_of_ble_eq_true rfl, Nat.le_of_ble_eq_true rfl⟩) hZ (fun ce q9 H locs hZ hce hcv hcl => ?_)
  refine vx_catch (name := "java/lang/IndexOutOfBoundsException") hown [] ⟨0, 11, 14, 13⟩ [] htab (fun z hz => nomatch hz) (by decide) (by decide) (hts _ (gm k_112)) (cast_I hAm) hce hcv hcl ?_
  refine W.eq (g2 := F0 m 14 ls [.ref q9]) rfl ?_
  refine lv_astore (lv' := [(5, .ref q9), (0, .ref (ad 0)), (1, .int b), (2, .int i9), (3, .int wh), (4, .ref (ad 51))]) hx hb d_Law_at_14 hl (by decide) rfl (fun ls hl => ?_)
  refine lv_iconst (v := (nI 1)) hx hb d_Law_at_16 rfl ?_
  exact q_iret hx hb hr hlocks hK hAm hZ hN (⟨rfl, rfl⟩) d_Law_at_17
set_option maxHeartbeats 4000000 in
set_option maxRecDepth 100000 in
theorem xb_Law_compare (l : Launch) (hfl : l.stackTraces = false) (dC : Nat → ClassId) (dI : Nat → Nat → Nat) (cI cL cB : ClassId) (ad : Nat → Nat) (N0 : Nat) (w : Nat → va_E) (a : Int32) (b : Int32) (h0 : ∃ fs : List Value, w 0 = .inr (2, fs)) (hbad : ¬ (okB a ∧ okB b)) : Met l y_Law_compare ws_Law_compare ({ frames := 8, cells := 1, slots := 6, locals := 127 } : Room) (va_Pc [.ref (ad 0), .int a, .int b, .ref (ad 51)] (sPr (dC, dI) vCl [(cI, .int), (cL, .long), (cB, .object "CoinBag$Bag")] 52 ad N0 w)) (va_Qi (fun r u => r = nI 1 ∧ u = w) (sPr (dC, dI) vCl [(cI, .int), (cL, .long), (cB, .object "CoinBag$Bag")] 52 ad N0) (fun q => N0 ≤ q)) 1 6 (fun q => N0 ≤ q) := by
  refine va_MetW (cc := b_Law_compare) (maxL := 5) (ret := (some .int)) (hh := [(0, 10, 13, 13)]) (by decide) rfl ?_
  intro p e s m args below meth c s₁ B hml hv
  obtain ⟨rfl, hP, hK, hD, hN, hAm⟩ := hv
  have hx := B.exec
  have hb := B.bytes
  have hr := B.returns
  have hts := atoms_spec (ws := ws_Law_compare) B.pre
  have hown : s.vm.findClass "CoinBagLaw" = some m.cls := findClass_of_methodNamed B.named
  have hlocks := B.notSynchronized
  have hZ : sZ (dC, dI) vCl 52 ad (fun q => N0 ≤ q) s.heap w s.heap [] := ⟨hP, hD, va_S.rf⟩
  have hl := lv_entry ([.ref (ad 0), .int a, .int b, .ref (ad 51)]) (n := 5) (Nat.le_of_ble_eq_true rfl)
  rw [lg_entry_eq]
  generalize (lg_sl ([.ref (ad 0), .int a, .int b, .ref (ad 51)]) ++ List.replicate (5 - (lg_sl ([.ref (ad 0), .int a, .int b, .ref (ad 51)])).length) Slot.unset).toArray = ls at hl ⊢
  have hl : lv_has ls 5 [(0, .ref (ad 0)), (1, .int a), (2, .int b), (3, .ref (ad 51))] := hl
  have htab : c.exceptionTable.toList = tableOf [(0, 10, 13, 13)] := vx_table (x := y_Law_compare) B (hts _ List.mem_cons_self)
  have hz0 := h0
  obtain ⟨fs0, h0⟩ := hz0
  refine lv_aload_n hx hb d_Law_compare_0 rfl (lv_at hl 3 rfl) ?_
  refine lv_iconst (v := (nI 0)) hx hb d_Law_compare_1 rfl ?_
  refine lv_aload_n hx hb d_Law_compare_2 rfl (lv_at hl 0 rfl) ?_
  refine lv_iload_n hx hb d_Law_compare_3 rfl (lv_at hl 1 rfl) ?_
  refine lv_iload_n hx hb d_Law_compare_4 rfl (lv_at hl 2 rfl) ?_
  refine q_xcall (vx_runV (As := [.int a, .int b]) (rest := [.int (nI 0), .ref (ad 51)]) ⟨hx, hb, hml, hown, hts⟩ (x_CB_compare_b l hfl dC dI cI cL cB ad N0 w a b ⟨fs0, h0⟩ hbad) (cwV 2 hts (gI_V k_371 k_368 k_369 k_370 k_21) rfl rfl rfl (by decide +kernel) ⟨Nat.le_of_ble_eq_true rfl, Nat.le_of_ble_eq_true rfl⟩) (q_preV hK hAm hZ hN [.int a, .int b] (0) 2 (by decide) h0 rfl) rfl rfl hl.1 rfl (lv_room (Nat.le_of_ble_eq_true rfl)) d_Law_compare_5 ⟨Nat.le_of_ble_eq_true rfl, Nat.le_of_ble_eq_true rfl⟩) hZ (fun ce q9 H locs hZ hce hcv hcl => ?_)
  refine vx_catch (name := "java/lang/IndexOutOfBoundsException") hown [] ⟨0, 10, 13, 13⟩ [] htab (fun z hz => nomatch hz) (by decide) (by decide) (hts _ (gm k_112)) (cast_I hAm) hce hcv hcl ?_
  refine W.eq (g2 := F0 m 13 ls [.ref q9]) rfl ?_
  refine lv_astore (lv' := [(4, .ref q9), (0, .ref (ad 0)), (1, .int a), (2, .int b), (3, .ref (ad 51))]) hx hb d_Law_compare_13 hl (by decide) rfl (fun ls hl => ?_)
  refine lv_iconst (v := (nI 1)) hx hb d_Law_compare_15 rfl ?_
  exact q_iret hx hb hr hlocks hK hAm hZ hN (⟨rfl, rfl⟩) d_Law_compare_16
set_option maxHeartbeats 4000000 in
set_option maxRecDepth 100000 in
theorem xb_Law_into (l : Launch) (hfl : l.stackTraces = false) (dC : Nat → ClassId) (dI : Nat → Nat → Nat) (cI cL cB : ClassId) (ad : Nat → Nat) (N0 : Nat) (w : Nat → va_E) (a : Int32) (b : Int32) (h0 : ∃ fs : List Value, w 0 = .inr (2, fs)) (hbad : ¬ (okB a ∧ okB b)) : Met l y_Law_into ws_Law_into ({ frames := 8, cells := 1, slots := 6, locals := 136 } : Room) (va_Pc [.ref (ad 0), .int a, .int b, .ref (ad 51)] (sPr (dC, dI) vCl [(cI, .int), (cL, .long), (cB, .object "CoinBag$Bag")] 52 ad N0 w)) (va_Qi (fun r u => r = nI 1 ∧ u = w) (sPr (dC, dI) vCl [(cI, .int), (cL, .long), (cB, .object "CoinBag$Bag")] 52 ad N0) (fun q => N0 ≤ q)) 1 6 (fun q => N0 ≤ q) := by
  refine va_MetW (cc := b_Law_into) (maxL := 5) (ret := (some .int)) (hh := [(0, 9, 12, 13)]) (by decide) rfl ?_
  intro p e s m args below meth c s₁ B hml hv
  obtain ⟨rfl, hP, hK, hD, hN, hAm⟩ := hv
  have hx := B.exec
  have hb := B.bytes
  have hr := B.returns
  have hts := atoms_spec (ws := ws_Law_into) B.pre
  have hown : s.vm.findClass "CoinBagLaw" = some m.cls := findClass_of_methodNamed B.named
  have hlocks := B.notSynchronized
  have hZ : sZ (dC, dI) vCl 52 ad (fun q => N0 ≤ q) s.heap w s.heap [] := ⟨hP, hD, va_S.rf⟩
  have hl := lv_entry ([.ref (ad 0), .int a, .int b, .ref (ad 51)]) (n := 5) (Nat.le_of_ble_eq_true rfl)
  rw [lg_entry_eq]
  generalize (lg_sl ([.ref (ad 0), .int a, .int b, .ref (ad 51)]) ++ List.replicate (5 - (lg_sl ([.ref (ad 0), .int a, .int b, .ref (ad 51)])).length) Slot.unset).toArray = ls at hl ⊢
  have hl : lv_has ls 5 [(0, .ref (ad 0)), (1, .int a), (2, .int b), (3, .ref (ad 51))] := hl
  have htab : c.exceptionTable.toList = tableOf [(0, 9, 12, 13)] := vx_table (x := y_Law_into) B (hts _ List.mem_cons_self)
  have hz0 := h0
  obtain ⟨fs0, h0⟩ := hz0
  refine lv_aload_n hx hb d_Law_into_0 rfl (lv_at hl 3 rfl) ?_
  refine lv_iconst (v := (nI 0)) hx hb d_Law_into_1 rfl ?_
  refine lv_aload_n hx hb d_Law_into_2 rfl (lv_at hl 0 rfl) ?_
  refine lv_iload_n hx hb d_Law_into_3 rfl (lv_at hl 1 rfl) ?_
  refine lv_iload_n hx hb d_Law_into_4 rfl (lv_at hl 2 rfl) ?_
  refine q_xcall (vx_runV (As := [.int a, .int b]) (rest := [.int (nI 0), .ref (ad 51)]) ⟨hx, hb, hml, hown, hts⟩ (x_CB_into_b l hfl dC dI cI cL cB ad N0 w a b ⟨fs0, h0⟩ hbad) (cwV 2 hts (gI_V k_385 k_382 k_383 k_384 k_21) rfl rfl rfl (by decide +kernel) ⟨Nat.le_of_ble_eq_true rfl, Nat.le_of_ble_eq_true rfl⟩) (q_preV hK hAm hZ hN [.int a, .int b] (0) 2 (by decide) h0 rfl) rfl rfl hl.1 rfl (lv_room (Nat.le_of_ble_eq_true rfl)) d_Law_into_5 ⟨Nat.le_of_ble_eq_true rfl, Nat.le_of_ble_eq_true rfl⟩) hZ (fun ce q9 H locs hZ hce hcv hcl => ?_)
  refine vx_catch (name := "java/lang/IndexOutOfBoundsException") hown [] ⟨0, 9, 12, 13⟩ [] htab (fun z hz => nomatch hz) (by decide) (by decide) (hts _ (gm k_112)) (cast_I hAm) hce hcv hcl ?_
  refine W.eq (g2 := F0 m 12 ls [.ref q9]) rfl ?_
  refine lv_astore (lv' := [(4, .ref q9), (0, .ref (ad 0)), (1, .int a), (2, .int b), (3, .ref (ad 51))]) hx hb d_Law_into_12 hl (by decide) rfl (fun ls hl => ?_)
  refine lv_iconst (v := (nI 1)) hx hb d_Law_into_14 rfl ?_
  exact q_iret hx hb hr hlocks hK hAm hZ hN (⟨rfl, rfl⟩) d_Law_into_15
set_option maxHeartbeats 4000000 in
set_option maxRecDepth 100000 in
theorem xb_Law_look (l : Launch) (hfl : l.stackTraces = false) (dC : Nat → ClassId) (dI : Nat → Nat → Nat) (cI cL cB : ClassId) (ad : Nat → Nat) (N0 : Nat) (w : Nat → va_E) (b : Int32) (q : Int32) (h0 : ∃ fs : List Value, w 0 = .inr (2, fs)) (hbad : ¬ (okB b)) : Met l y_Law_look ws_Law_look ({ frames := 8, cells := 1, slots := 6, locals := 124 } : Room) (va_Pc [.ref (ad 0), .int b, .int q, .ref (ad 51)] (sPr (dC, dI) vCl [(cI, .int), (cL, .long), (cB, .object "CoinBag$Bag")] 52 ad N0 w)) (va_Qi (fun r u => r = nI 1 ∧ u = w) (sPr (dC, dI) vCl [(cI, .int), (cL, .long), (cB, .object "CoinBag$Bag")] 52 ad N0) (fun q => N0 ≤ q)) 1 6 (fun q => N0 ≤ q) := by
  refine va_MetW (cc := b_Law_look) (maxL := 5) (ret := (some .int)) (hh := [(0, 10, 13, 13)]) (by decide) rfl ?_
  intro p e s m args below meth c s₁ B hml hv
  obtain ⟨rfl, hP, hK, hD, hN, hAm⟩ := hv
  have hx := B.exec
  have hb := B.bytes
  have hr := B.returns
  have hts := atoms_spec (ws := ws_Law_look) B.pre
  have hown : s.vm.findClass "CoinBagLaw" = some m.cls := findClass_of_methodNamed B.named
  have hlocks := B.notSynchronized
  have hZ : sZ (dC, dI) vCl 52 ad (fun q => N0 ≤ q) s.heap w s.heap [] := ⟨hP, hD, va_S.rf⟩
  have hl := lv_entry ([.ref (ad 0), .int b, .int q, .ref (ad 51)]) (n := 5) (Nat.le_of_ble_eq_true rfl)
  rw [lg_entry_eq]
  generalize (lg_sl ([.ref (ad 0), .int b, .int q, .ref (ad 51)]) ++ List.replicate (5 - (lg_sl ([.ref (ad 0), .int b, .int q, .ref (ad 51)])).length) Slot.unset).toArray = ls at hl ⊢
  have hl : lv_has ls 5 [(0, .ref (ad 0)), (1, .int b), (2, .int q), (3, .ref (ad 51))] := hl
  have htab : c.exceptionTable.toList = tableOf [(0, 10, 13, 13)] := vx_table (x := y_Law_look) B (hts _ List.mem_cons_self)
  have hz0 := h0
  obtain ⟨fs0, h0⟩ := hz0
  refine lv_aload_n hx hb d_Law_look_0 rfl (lv_at hl 3 rfl) ?_
  refine lv_iconst (v := (nI 0)) hx hb d_Law_look_1 rfl ?_
  refine lv_aload_n hx hb d_Law_look_2 rfl (lv_at hl 0 rfl) ?_
  refine lv_iload_n hx hb d_Law_look_3 rfl (lv_at hl 1 rfl) ?_
  refine lv_iload_n hx hb d_Law_look_4 rfl (lv_at hl 2 rfl) ?_
  refine q_xcall (vx_runV (As := [.int b, .int q]) (rest := [.int (nI 0), .ref (ad 51)]) ⟨hx, hb, hml, hown, hts⟩ (x_CB_look_b l hfl dC dI cI cL cB ad N0 w b q ⟨fs0, h0⟩ hbad) (cwV 2 hts (gI_V k_401 k_398 k_399 k_400 k_21) rfl rfl rfl (by decide +kernel) ⟨Nat.le_of_ble_eq_true rfl, Nat.le_of_ble_eq_true rfl⟩) (q_preV hK hAm hZ hN [.int b, .int q] (0) 2 (by decide) h0 rfl) rfl rfl hl.1 rfl (lv_room (Nat.le_of_ble_eq_true rfl)) d_Law_look_5 ⟨Nat.le_of_ble_eq_true rfl, Nat.le_of_ble_eq_true rfl⟩) hZ (fun ce q9 H locs hZ hce hcv hcl => ?_)
  refine vx_catch (name := "java/lang/IndexOutOfBoundsException") hown [] ⟨0, 10, 13, 13⟩ [] htab (fun z hz => nomatch hz) (by decide) (by decide) (hts _ (gm k_112)) (cast_I hAm) hce hcv hcl ?_
  refine W.eq (g2 := F0 m 13 ls [.ref q9]) rfl ?_
  refine lv_astore (lv' := [(4, .ref q9), (0, .ref (ad 0)), (1, .int b), (2, .int q), (3, .ref (ad 51))]) hx hb d_Law_look_13 hl (by decide) rfl (fun ls hl => ?_)
  refine lv_iconst (v := (nI 1)) hx hb d_Law_look_15 rfl ?_
  exact q_iret hx hb hr hlocks hK hAm hZ hN (⟨rfl, rfl⟩) d_Law_look_16
set_option maxHeartbeats 4000000 in
set_option maxRecDepth 100000 in
theorem xb_Law_sum (l : Launch) (hfl : l.stackTraces = false) (dC : Nat → ClassId) (dI : Nat → Nat → Nat) (cI cL cB : ClassId) (ad : Nat → Nat) (N0 : Nat) (w : Nat → va_E) (a : Int32) (b : Int32) (c2 : Int32) (h0 : ∃ fs : List Value, w 0 = .inr (2, fs)) (hbad : ¬ (okB a ∧ okB b ∧ okB c2)) : Met l y_Law_sum ws_Law_sum ({ frames := 9, cells := 1, slots := 6, locals := 154 } : Room) (va_Pc [.ref (ad 0), .int a, .int b, .int c2, .ref (ad 51)] (sPr (dC, dI) vCl [(cI, .int), (cL, .long), (cB, .object "CoinBag$Bag")] 52 ad N0 w)) (va_Qi (fun r u => r = nI 1 ∧ u = w) (sPr (dC, dI) vCl [(cI, .int), (cL, .long), (cB, .object "CoinBag$Bag")] 52 ad N0) (fun q => N0 ≤ q)) 1 6 (fun q => N0 ≤ q) := by
  refine va_MetW (cc := b_Law_sum) (maxL := 6) (ret := (some .int)) (hh := [(0, 19, 22, 13)]) (by decide) rfl ?_
  intro p e s m args below meth c s₁ B hml hv
  obtain ⟨rfl, hP, hK, hD, hN, hAm⟩ := hv
  have hx := B.exec
  have hb := B.bytes
  have hr := B.returns
  have hts := atoms_spec (ws := ws_Law_sum) B.pre
  have hown : s.vm.findClass "CoinBagLaw" = some m.cls := findClass_of_methodNamed B.named
  have hlocks := B.notSynchronized
  have hZ : sZ (dC, dI) vCl 52 ad (fun q => N0 ≤ q) s.heap w s.heap [] := ⟨hP, hD, va_S.rf⟩
  have hl := lv_entry ([.ref (ad 0), .int a, .int b, .int c2, .ref (ad 51)]) (n := 6) (Nat.le_of_ble_eq_true rfl)
  rw [lg_entry_eq]
  generalize (lg_sl ([.ref (ad 0), .int a, .int b, .int c2, .ref (ad 51)]) ++ List.replicate (6 - (lg_sl ([.ref (ad 0), .int a, .int b, .int c2, .ref (ad 51)])).length) Slot.unset).toArray = ls at hl ⊢
  have hl : lv_has ls 6 [(0, .ref (ad 0)), (1, .int a), (2, .int b), (3, .int c2), (4, .ref (ad 51))] := hl
  have htab : c.exceptionTable.toList = tableOf [(0, 19, 22, 13)] := vx_table (x := y_Law_sum) B (hts _ List.mem_cons_self)
  have hz0 := h0
  obtain ⟨fs0, h0⟩ := hz0
  refine lv_aload hx hb d_Law_sum_0 (lv_at hl 4 rfl) ?_
  refine lv_iconst (v := (nI 0)) hx hb d_Law_sum_2 rfl ?_
  refine lv_aload_n hx hb d_Law_sum_3 rfl (lv_at hl 0 rfl) ?_
  refine lv_iload_n hx hb d_Law_sum_4 rfl (lv_at hl 1 rfl) ?_
  refine lv_iload_n hx hb d_Law_sum_5 rfl (lv_at hl 2 rfl) ?_
  refine lv_iload_n hx hb d_Law_sum_6 rfl (lv_at hl 3 rfl) ?_
  refine q_xcall (vx_runV (As := [.int a, .int b, .int c2]) (rest := [.int (nI 0), .ref (ad 51)]) ⟨hx, hb, hml, hown, hts⟩ (x_CB_sum_b l hfl dC dI cI cL cB ad N0 w a b c2 ⟨fs0, h0⟩ hbad) (cwV 3 hts (gI_V k_266 k_263 k_264 k_265 k_21) rfl rfl rfl (by decide +kernel) ⟨Nat.le_of_ble_eq_true rfl, Nat.le_of_ble_eq_true rfl⟩) (q_preV hK hAm hZ hN [.int a, .int b, .int c2] (0) 2 (by decide) h0 rfl) rfl rfl hl.1 rfl (lv_room (Nat.le_of_ble_eq_true rfl)) d_Law_sum_7 ⟨Nat.le_of_ble_eq_true rfl, Nat.le_of_ble_eq_true rfl⟩) hZ (fun ce q9 H locs hZ hce hcv hcl => ?_)
  refine vx_catch (name := "java/lang/IndexOutOfBoundsException") hown [] ⟨0, 19, 22, 13⟩ [] htab (fun z hz => nomatch hz) (by decide) (by decide) (hts _ (gm k_112)) (cast_I hAm) hce hcv hcl ?_
  refine W.eq (g2 := F0 m 22 ls [.ref q9]) rfl ?_
  refine lv_astore (lv' := [(5, .ref q9), (0, .ref (ad 0)), (1, .int a), (2, .int b), (3, .int c2), (4, .ref (ad 51))]) hx hb d_Law_sum_22 hl (by decide) rfl (fun ls hl => ?_)
  refine lv_iconst (v := (nI 1)) hx hb d_Law_sum_24 rfl ?_
  exact q_iret hx hb hr hlocks hK hAm hZ hN (⟨rfl, rfl⟩) d_Law_sum_25
set_option maxHeartbeats 4000000 in
set_option maxRecDepth 100000 in
theorem xb_Law_less (l : Launch) (hfl : l.stackTraces = false) (dC : Nat → ClassId) (dI : Nat → Nat → Nat) (cI cL cB : ClassId) (ad : Nat → Nat) (N0 : Nat) (w : Nat → va_E) (a : Int32) (b : Int32) (c2 : Int32) (h0 : ∃ fs : List Value, w 0 = .inr (2, fs)) (hbad : ¬ (okB a ∧ okB b ∧ okB c2)) : Met l y_Law_less ws_Law_less ({ frames := 9, cells := 1, slots := 6, locals := 154 } : Room) (va_Pc [.ref (ad 0), .int a, .int b, .int c2, .ref (ad 51)] (sPr (dC, dI) vCl [(cI, .int), (cL, .long), (cB, .object "CoinBag$Bag")] 52 ad N0 w)) (va_Qi (fun r u => r = nI 1 ∧ u = w) (sPr (dC, dI) vCl [(cI, .int), (cL, .long), (cB, .object "CoinBag$Bag")] 52 ad N0) (fun q => N0 ≤ q)) 1 6 (fun q => N0 ≤ q) := by
  refine va_MetW (cc := b_Law_less) (maxL := 6) (ret := (some .int)) (hh := [(0, 19, 22, 13)]) (by decide) rfl ?_
  intro p e s m args below meth c s₁ B hml hv
  obtain ⟨rfl, hP, hK, hD, hN, hAm⟩ := hv
  have hx := B.exec
  have hb := B.bytes
  have hr := B.returns
  have hts := atoms_spec (ws := ws_Law_less) B.pre
  have hown : s.vm.findClass "CoinBagLaw" = some m.cls := findClass_of_methodNamed B.named
  have hlocks := B.notSynchronized
  have hZ : sZ (dC, dI) vCl 52 ad (fun q => N0 ≤ q) s.heap w s.heap [] := ⟨hP, hD, va_S.rf⟩
  have hl := lv_entry ([.ref (ad 0), .int a, .int b, .int c2, .ref (ad 51)]) (n := 6) (Nat.le_of_ble_eq_true rfl)
  rw [lg_entry_eq]
  generalize (lg_sl ([.ref (ad 0), .int a, .int b, .int c2, .ref (ad 51)]) ++ List.replicate (6 - (lg_sl ([.ref (ad 0), .int a, .int b, .int c2, .ref (ad 51)])).length) Slot.unset).toArray = ls at hl ⊢
  have hl : lv_has ls 6 [(0, .ref (ad 0)), (1, .int a), (2, .int b), (3, .int c2), (4, .ref (ad 51))] := hl
  have htab : c.exceptionTable.toList = tableOf [(0, 19, 22, 13)] := vx_table (x := y_Law_less) B (hts _ List.mem_cons_self)
  have hz0 := h0
  obtain ⟨fs0, h0⟩ := hz0
  refine lv_aload hx hb d_Law_less_0 (lv_at hl 4 rfl) ?_
  refine lv_iconst (v := (nI 0)) hx hb d_Law_less_2 rfl ?_
  refine lv_aload_n hx hb d_Law_less_3 rfl (lv_at hl 0 rfl) ?_
  refine lv_iload_n hx hb d_Law_less_4 rfl (lv_at hl 1 rfl) ?_
  refine lv_iload_n hx hb d_Law_less_5 rfl (lv_at hl 2 rfl) ?_
  refine lv_iload_n hx hb d_Law_less_6 rfl (lv_at hl 3 rfl) ?_
  refine q_xcall (vx_runV (As := [.int a, .int b, .int c2]) (rest := [.int (nI 0), .ref (ad 51)]) ⟨hx, hb, hml, hown, hts⟩ (x_CB_less_b l hfl dC dI cI cL cB ad N0 w a b c2 ⟨fs0, h0⟩ hbad) (cwV 3 hts (gI_V k_309 k_306 k_307 k_308 k_21) rfl rfl rfl (by decide +kernel) ⟨Nat.le_of_ble_eq_true rfl, Nat.le_of_ble_eq_true rfl⟩) (q_preV hK hAm hZ hN [.int a, .int b, .int c2] (0) 2 (by decide) h0 rfl) rfl rfl hl.1 rfl (lv_room (Nat.le_of_ble_eq_true rfl)) d_Law_less_7 ⟨Nat.le_of_ble_eq_true rfl, Nat.le_of_ble_eq_true rfl⟩) hZ (fun ce q9 H locs hZ hce hcv hcl => ?_)
  refine vx_catch (name := "java/lang/IndexOutOfBoundsException") hown [] ⟨0, 19, 22, 13⟩ [] htab (fun z hz => nomatch hz) (by decide) (by decide) (hts _ (gm k_112)) (cast_I hAm) hce hcv hcl ?_
  refine W.eq (g2 := F0 m 22 ls [.ref q9]) rfl ?_
  refine lv_astore (lv' := [(5, .ref q9), (0, .ref (ad 0)), (1, .int a), (2, .int b), (3, .int c2), (4, .ref (ad 51))]) hx hb d_Law_less_22 hl (by decide) rfl (fun ls hl => ?_)
  refine lv_iconst (v := (nI 1)) hx hb d_Law_less_24 rfl ?_
  exact q_iret hx hb hr hlocks hK hAm hZ hN (⟨rfl, rfl⟩) d_Law_less_25
set_option maxHeartbeats 4000000 in
set_option maxRecDepth 100000 in
theorem xb_Law_least (l : Launch) (hfl : l.stackTraces = false) (dC : Nat → ClassId) (dI : Nat → Nat → Nat) (cI cL cB : ClassId) (ad : Nat → Nat) (N0 : Nat) (w : Nat → va_E) (a : Int32) (b : Int32) (c2 : Int32) (h0 : ∃ fs : List Value, w 0 = .inr (2, fs)) (hbad : ¬ (okB a ∧ okB b ∧ okB c2)) : Met l y_Law_least ws_Law_least ({ frames := 9, cells := 1, slots := 6, locals := 154 } : Room) (va_Pc [.ref (ad 0), .int a, .int b, .int c2, .ref (ad 51)] (sPr (dC, dI) vCl [(cI, .int), (cL, .long), (cB, .object "CoinBag$Bag")] 52 ad N0 w)) (va_Qi (fun r u => r = nI 1 ∧ u = w) (sPr (dC, dI) vCl [(cI, .int), (cL, .long), (cB, .object "CoinBag$Bag")] 52 ad N0) (fun q => N0 ≤ q)) 1 6 (fun q => N0 ≤ q) := by
  refine va_MetW (cc := b_Law_least) (maxL := 6) (ret := (some .int)) (hh := [(0, 19, 22, 13)]) (by decide) rfl ?_
  intro p e s m args below meth c s₁ B hml hv
  obtain ⟨rfl, hP, hK, hD, hN, hAm⟩ := hv
  have hx := B.exec
  have hb := B.bytes
  have hr := B.returns
  have hts := atoms_spec (ws := ws_Law_least) B.pre
  have hown : s.vm.findClass "CoinBagLaw" = some m.cls := findClass_of_methodNamed B.named
  have hlocks := B.notSynchronized
  have hZ : sZ (dC, dI) vCl 52 ad (fun q => N0 ≤ q) s.heap w s.heap [] := ⟨hP, hD, va_S.rf⟩
  have hl := lv_entry ([.ref (ad 0), .int a, .int b, .int c2, .ref (ad 51)]) (n := 6) (Nat.le_of_ble_eq_true rfl)
  rw [lg_entry_eq]
  generalize (lg_sl ([.ref (ad 0), .int a, .int b, .int c2, .ref (ad 51)]) ++ List.replicate (6 - (lg_sl ([.ref (ad 0), .int a, .int b, .int c2, .ref (ad 51)])).length) Slot.unset).toArray = ls at hl ⊢
  have hl : lv_has ls 6 [(0, .ref (ad 0)), (1, .int a), (2, .int b), (3, .int c2), (4, .ref (ad 51))] := hl
  have htab : c.exceptionTable.toList = tableOf [(0, 19, 22, 13)] := vx_table (x := y_Law_least) B (hts _ List.mem_cons_self)
  have hz0 := h0
  obtain ⟨fs0, h0⟩ := hz0
  refine lv_aload hx hb d_Law_least_0 (lv_at hl 4 rfl) ?_
  refine lv_iconst (v := (nI 0)) hx hb d_Law_least_2 rfl ?_
  refine lv_aload_n hx hb d_Law_least_3 rfl (lv_at hl 0 rfl) ?_
  refine lv_iload_n hx hb d_Law_least_4 rfl (lv_at hl 1 rfl) ?_
  refine lv_iload_n hx hb d_Law_least_5 rfl (lv_at hl 2 rfl) ?_
  refine lv_iload_n hx hb d_Law_least_6 rfl (lv_at hl 3 rfl) ?_
  refine q_xcall (vx_runV (As := [.int a, .int b, .int c2]) (rest := [.int (nI 0), .ref (ad 51)]) ⟨hx, hb, hml, hown, hts⟩ (x_CB_least_b l hfl dC dI cI cL cB ad N0 w a b c2 ⟨fs0, h0⟩ hbad) (cwV 3 hts (gI_V k_378 k_375 k_376 k_377 k_21) rfl rfl rfl (by decide +kernel) ⟨Nat.le_of_ble_eq_true rfl, Nat.le_of_ble_eq_true rfl⟩) (q_preV hK hAm hZ hN [.int a, .int b, .int c2] (0) 2 (by decide) h0 rfl) rfl rfl hl.1 rfl (lv_room (Nat.le_of_ble_eq_true rfl)) d_Law_least_7 ⟨Nat.le_of_ble_eq_true rfl, Nat.le_of_ble_eq_true rfl⟩) hZ (fun ce q9 H locs hZ hce hcv hcl => ?_)
  refine vx_catch (name := "java/lang/IndexOutOfBoundsException") hown [] ⟨0, 19, 22, 13⟩ [] htab (fun z hz => nomatch hz) (by decide) (by decide) (hts _ (gm k_112)) (cast_I hAm) hce hcv hcl ?_
  refine W.eq (g2 := F0 m 22 ls [.ref q9]) rfl ?_
  refine lv_astore (lv' := [(5, .ref q9), (0, .ref (ad 0)), (1, .int a), (2, .int b), (3, .int c2), (4, .ref (ad 51))]) hx hb d_Law_least_22 hl (by decide) rfl (fun ls hl => ?_)
  refine lv_iconst (v := (nI 1)) hx hb d_Law_least_24 rfl ?_
  exact q_iret hx hb hr hlocks hK hAm hZ hN (⟨rfl, rfl⟩) d_Law_least_25
set_option maxHeartbeats 4000000 in
set_option maxRecDepth 100000 in
theorem xk_Law_at (l : Launch) (hfl : l.stackTraces = false) (dC : Nat → ClassId) (dI : Nat → Nat → Nat) (cI cL cB : ClassId) (ad : Nat → Nat) (N0 : Nat) (w : Nat → va_E) (F : Nat → Int → Int64) (j n : Nat) (kn : Nat → Int) (it wh : Int32) (hC : sC ad cI cL cB w F) (hj : j < 8) (hen : eI n kn) (hfn : eF n kn (F j)) (hbad : ¬ ((¬ it < 0 ∧ it < nI n) ∧ (wh = 0 ∨ wh = 1 ∨ wh = 2))) : Met l y_Law_at ws_Law_at ({ frames := 7, cells := 1, slots := 6, locals := 106 } : Room) (va_Pc [.ref (ad 0), .int (nI j), .int it, .int wh, .ref (ad 51)] (sPr (dC, dI) vCl [(cI, .int), (cL, .long), (cB, .object "CoinBag$Bag")] 52 ad N0 w)) (va_Qi (fun r u => r = nI 1 ∧ u = w) (sPr (dC, dI) vCl [(cI, .int), (cL, .long), (cB, .object "CoinBag$Bag")] 52 ad N0) (fun q => N0 ≤ q)) 1 6 (fun q => N0 ≤ q) := by
  refine va_MetW (cc := b_Law_at) (maxL := 6) (ret := (some .int)) (hh := [(0, 11, 14, 13)]) (by decide) rfl ?_
  intro p e s m args below meth c s₁ B hml hv
  obtain ⟨rfl, hP, hK, hD, hN, hAm⟩ := hv
  have hx := B.exec
  have hb := B.bytes
  have hr := B.returns
  have hts := atoms_spec (ws := ws_Law_at) B.pre
  have hown : s.vm.findClass "CoinBagLaw" = some m.cls := findClass_of_methodNamed B.named
  have hlocks := B.notSynchronized
  have hZ : sZ (dC, dI) vCl 52 ad (fun q => N0 ≤ q) s.heap w s.heap [] := ⟨hP, hD, va_S.rf⟩
  have hl := lv_entry ([.ref (ad 0), .int (nI j), .int it, .int wh, .ref (ad 51)]) (n := 6) (Nat.le_of_ble_eq_true rfl)
  rw [lg_entry_eq]
  generalize (lg_sl ([.ref (ad 0), .int (nI j), .int it, .int wh, .ref (ad 51)]) ++ List.replicate (6 - (lg_sl ([.ref (ad 0), .int (nI j), .int it, .int wh, .ref (ad 51)])).length) Slot.unset).toArray = ls at hl ⊢
  have hl : lv_has ls 6 [(0, .ref (ad 0)), (1, .int (nI j)), (2, .int it), (3, .int wh), (4, .ref (ad 51))] := hl
  have htab : c.exceptionTable.toList = tableOf [(0, 11, 14, 13)] := vx_table (x := y_Law_at) B (hts _ List.mem_cons_self)
  have hz0 := sC_0 hC
  obtain ⟨fs0, h0⟩ := hz0
  refine lv_aload hx hb d_Law_at_0 (lv_at hl 4 rfl) ?_
  refine lv_iconst (v := (nI 0)) hx hb d_Law_at_2 rfl ?_
  refine lv_aload_n hx hb d_Law_at_3 rfl (lv_at hl 0 rfl) ?_
  refine lv_iload_n hx hb d_Law_at_4 rfl (lv_at hl 1 rfl) ?_
  refine lv_iload_n hx hb d_Law_at_5 rfl (lv_at hl 2 rfl) ?_
  refine lv_iload_n hx hb d_Law_at_6 rfl (lv_at hl 3 rfl) ?_
  refine q_xcall (vx_runV (As := [.int (nI j), .int it, .int wh]) (rest := [.int (nI 0), .ref (ad 51)]) ⟨hx, hb, hml, hown, hts⟩ (x_CB_at_k l hfl dC dI cI cL cB ad N0 w F j n kn it wh hC hj hen hfn hbad) (cwV 3 hts (gI_V k_362 k_359 k_360 k_361 k_21) rfl rfl rfl (by decide +kernel) ⟨Nat.le_of_ble_eq_true rfl, Nat.le_of_ble_eq_true rfl⟩) (q_preV hK hAm hZ hN [.int (nI j), .int it, .int wh] (0) 2 (by decide) h0 rfl) rfl rfl hl.1 rfl (lv_room (Nat.le_of_ble_eq_true rfl)) d_Law_at_7 ⟨Nat.le_of_ble_eq_true rfl, Nat.le_of_ble_eq_true rfl⟩) hZ (fun ce q9 H locs hZ hce hcv hcl => ?_)
  refine vx_catch (name := "java/lang/IndexOutOfBoundsException") hown [] ⟨0, 11, 14, 13⟩ [] htab (fun z hz => nomatch hz) (by decide) (by decide) (hts _ (gm k_112)) (cast_I hAm) hce hcv hcl ?_
  refine W.eq (g2 := F0 m 14 ls [.ref q9]) rfl ?_
  refine lv_astore (lv' := [(5, .ref q9), (0, .ref (ad 0)), (1, .int (nI j)), (2, .int it), (3, .int wh), (4, .ref (ad 51))]) hx hb d_Law_at_14 hl (by decide) rfl (fun ls hl => ?_)
  refine lv_iconst (v := (nI 1)) hx hb d_Law_at_16 rfl ?_
  exact q_iret hx hb hr hlocks hK hAm hZ hN (⟨rfl, rfl⟩) d_Law_at_17
