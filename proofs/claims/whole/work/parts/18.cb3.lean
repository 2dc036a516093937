/-! the class CoinBag: times, only, part -/
theorem prs_k {ad : Nat → Nat} {cI cL : ClassId} {w u : Nat → va_E} {sp : Nat} (h : ∃ (c : Nat) (p : Nat → Int32) (n L R : Nat → Int64), isPrs ad cI cL w c p n L R) (hsp : sp < 9) (hf : fr w u (bb sp) (bb sp + 3)) : ∃ (c : Nat) (p : Nat → Int32) (n L R : Nat → Int64), isPrs ad cI cL u c p n L R := by
  obtain ⟨a1, a2, a3, a4, a5, a6⟩ := h
  exact ⟨a1, a2, a3, a4, a5, a6.fr hf (by have := bb_r hsp; omega)⟩
def gT (F : Int → Int64) (v : Int64) : Int → Int64 := fun y => F y * v
theorem gT_cov {z : Nat} {P : Nat → Int32} {N A : Nat → Int64} {F : Int → Int64} {v : Int64} (h : cRep z P N A F) : ∀ x, ¬ gT F v x = 0 → ∃ j, j < z ∧ kk P N j = x := fun x hx => h.2.2.1.2 x (fun q => hx (by unfold gT; rw [q, Int64.zero_mul]))
theorem gT_ok {z : Nat} {P : Nat → Int32} {N A : Nat → Int64} {F : Int → Int64} {v : Int64} (h : cRep z P N A F) (hk : ∀ y, y < z → fM (A y) v) : ∀ y, fM (F y) v := fun y => by
  by_cases q : F y = 0
  · rw [q]
    exact fM_0l v
  · obtain ⟨i, hi, e⟩ := h.2.2.1.2 y q
    have := hk i hi
    rw [h.2.2.2 i hi, e] at this
    exact this
def gO (F : Int → Int64) (q b : Int32) : Int → Int64 := fun y => if decide (pO y = q.toInt) = decide (b = 1) then F y else 0
theorem gO_y {F : Int → Int64} {q b : Int32} {y : Int} (h : decide (pO y = q.toInt) = decide (b = 1)) : gO F q b y = F y := if_pos h
theorem gO_n {F : Int → Int64} {q b : Int32} {y : Int} (h : ¬ decide (pO y = q.toInt) = decide (b = 1)) : gO F q b y = 0 := if_neg h
theorem gO_a {P : Nat → Int32} {N : Nat → Int64} {i : Nat} {q b : Int32} (h1 : P i = q) (hb : b = 0 ∨ b = 1) (h2 : nI 1 = b) : decide (pO (kk P N i) = q.toInt) = decide (b = 1) := by
  unfold kk
  rw [decide_eq_true (pO_iff.mp h1), decide_eq_true (show b = 1 from h2.symm)]
theorem gO_c {P : Nat → Int32} {N : Nat → Int64} {i : Nat} {q b : Int32} (h1 : ¬ P i = q) (hb : b = 0 ∨ b = 1) (h2 : nI 0 = b) : decide (pO (kk P N i) = q.toInt) = decide (b = 1) := by
  unfold kk
  rw [decide_eq_false (fun z => h1 (pO_iff.mpr z)), decide_eq_false (fun z => absurd (h2.trans z) (by decide))]
theorem gO_b {P : Nat → Int32} {N : Nat → Int64} {i : Nat} {q b : Int32} (h1 : P i = q) (hb : b = 0 ∨ b = 1) (h2 : ¬ nI 1 = b) : ¬ decide (pO (kk P N i) = q.toInt) = decide (b = 1) := by
  unfold kk
  rw [decide_eq_true (pO_iff.mp h1), decide_eq_false (fun z => h2 z.symm)]
  decide
theorem gO_d {P : Nat → Int32} {N : Nat → Int64} {i : Nat} {q b : Int32} (h1 : ¬ P i = q) (hb : b = 0 ∨ b = 1) (h2 : ¬ nI 0 = b) : ¬ decide (pO (kk P N i) = q.toInt) = decide (b = 1) := by
  unfold kk
  rw [decide_eq_false (fun z => h1 (pO_iff.mpr z)), decide_eq_true (hb.resolve_left (fun z => h2 z.symm))]
  decide
theorem gO_cov {z : Nat} {P : Nat → Int32} {N A : Nat → Int64} {F : Int → Int64} {q b : Int32} (h : cRep z P N A F) : ∀ x, ¬ gO F q b x = 0 → ∃ j, j < z ∧ kk P N j = x := fun x hx => h.2.2.1.2 x (fun y => hx (by unfold gO; rw [y]; split <;> rfl))
/-- the AMOUNTS that part takes -/
def gPs (a : Int64) (sg : Int32) : Prop := (0 < a ∧ sg = 1) ∨ (¬ 0 < a ∧ ¬ sg = 1)
noncomputable def gP (F : Int → Int64) (sg : Int32) : Int → Int64 := fun y => @ite _ (gPs (F y) sg) (Classical.propDecidable _) (F y * sg.toInt64) 0
theorem gP_y {F : Int → Int64} {sg : Int32} {y : Int} (h : gPs (F y) sg) : gP F sg y = F y * sg.toInt64 := if_pos h
theorem gP_n {F : Int → Int64} {sg : Int32} {y : Int} (h : ¬ gPs (F y) sg) : gP F sg y = 0 := if_neg h
theorem gP_cov {z : Nat} {P : Nat → Int32} {N A : Nat → Int64} {F : Int → Int64} {sg : Int32} (h : cRep z P N A F) : ∀ x, ¬ gP F sg x = 0 → ∃ j, j < z ∧ kk P N j = x := fun x hx => h.2.2.1.2 x (fun q => hx (by
  by_cases y : gPs (F x) sg
  · rw [gP_y y, q, Int64.zero_mul]
  · exact gP_n y))
theorem gP_ok {z : Nat} {P : Nat → Int32} {N A : Nat → Int64} {F : Int → Int64} {sg : Int32} (h : cRep z P N A F) (hk : ∀ y, y < z → gPs (A y) sg → fM (A y) sg.toInt64) : ∀ y, gPs (F y) sg → fM (F y) sg.toInt64 := fun y hy => by
  by_cases q : F y = 0
  · rw [q]
    exact fM_0l _
  · obtain ⟨i, hi, e⟩ := h.2.2.1.2 y q
    have := hk i hi
    rw [h.2.2.2 i hi, e] at this
    exact this hy
theorem gPs_a {a : Int64} {sg : Int32} (h1 : ¬ a ≤ 0) (h2 : ¬ sg ≤ 0) (hs : sg = 1 ∨ sg = -1) : gPs a sg := Or.inl ⟨Int64.not_le.mp h1, hs.resolve_right (fun z => h2 (by rw [z]; decide))⟩
theorem gPs_b {a : Int64} {sg : Int32} (h1 : a ≤ 0) (h2 : sg ≤ 0) (hs : sg = 1 ∨ sg = -1) : gPs a sg := Or.inr ⟨Int64.not_lt.mpr h1, fun z => by rw [z] at h2; exact absurd h2 (by decide)⟩
theorem gPs_c {a : Int64} {sg : Int32} (h1 : ¬ a ≤ 0) (h2 : sg ≤ 0) (hs : sg = 1 ∨ sg = -1) : ¬ gPs a sg := fun z => z.elim (fun z => by rw [z.2] at h2; exact absurd h2 (by decide)) (fun z => z.1 (Int64.not_le.mp h1))
theorem gPs_d {a : Int64} {sg : Int32} (h1 : a ≤ 0) (h2 : ¬ sg ≤ 0) (hs : sg = 1 ∨ sg = -1) : ¬ gPs a sg := fun z => z.elim (fun z => Int64.not_lt.mpr h1 z.1) (fun z => z.2 (hs.resolve_right (fun y => h2 (by rw [y]; decide))))
set_option maxHeartbeats 4000000 in
set_option maxRecDepth 100000 in
theorem c_CB_times (l : Launch) (dC : Nat → ClassId) (dI : Nat → Nat → Nat) (cI cL cB : ClassId) (ad : Nat → Nat) (N0 : Nat) (w : Nat → va_E) (F : Nat → Int → Int64) (ja : Nat) (v : Int64) (jc : Nat) (hC : sC ad cI cL cB w F) (hja : ja < 8) (hjc : jc < 8) : Met l y_CB_times ws_CB_times ({ frames := 1, cells := 0, slots := 0, locals := 25 } : Room) (va_Pc [.ref (ad 0), .int (nI ja), .long v, .int (nI jc)] (sPr (dC, dI) vCl [(cI, .int), (cL, .long), (cB, .object "CoinBag$Bag")] 52 ad N0 w)) (va_Qi (fun r u => (((∀ y, fM (F ja y) v) ∧ r = 1 ∧ sC ad cI cL cB u (va_up F jc (gT (F ja) v))) ∨ (¬ (∀ y, fM (F ja y) v) ∧ r = 0 ∧ sC ad cI cL cB u F)) ∧ ∀ y, 43 ≤ y → u y = w y) (sPr (dC, dI) vCl [(cI, .int), (cL, .long), (cB, .object "CoinBag$Bag")] 52 ad N0) (fun q => N0 ≤ q)) 0 0 (fun q => N0 ≤ q) := by
  refine Met.ofW (cc := b_CB_times) (maxL := 7) (ret := (some .boolean)) (by decide) rfl ?_
  intro p e s m args below meth c s₁ B hml hv
  obtain ⟨rfl, hP, hK, hD, hN, hAm⟩ := hv
  have hx := B.exec
  have hb := B.bytes
  have hr := B.returns
  have hts := atoms_spec (ws := ws_CB_times) B.pre
  have hown : s.vm.findClass "CoinBag" = some m.cls := findClass_of_methodNamed B.named
  have hlocks := B.notSynchronized
  have hZ : sZ (dC, dI) vCl 52 ad (fun q => N0 ≤ q) s.heap w s.heap [] := ⟨hP, hD, va_S.rf⟩
  have hl := lv_entry ([.ref (ad 0), .int (nI ja), .long v, .int (nI jc)]) (n := 7) (Nat.le_of_ble_eq_true rfl)
  rw [lg_entry_eq]
  generalize (lg_sl ([.ref (ad 0), .int (nI ja), .long v, .int (nI jc)]) ++ List.replicate (7 - (lg_sl ([.ref (ad 0), .int (nI ja), .long v, .int (nI jc)])).length) Slot.unset).toArray = ls at hl ⊢
  have hl : lv_has ls 7 [(0, .ref (ad 0)), (1, .int (nI ja)), (2, .long v), (4, .int (nI jc))] := hl
  obtain ⟨f, pi, sp, hX⟩ := hC
  have hX : sCx ad cI cL cB w F f pi sp := hX
  obtain ⟨h0, h1, hf, hpi, hinj, hsp, hbg, hspb, hprs⟩ := id hX
  obtain ⟨zs, Ps, Ns, As, hS⟩ := hspb
  have hch : ch2 w w sp := ch2_rf
  obtain ⟨za, Pa, Na, Aa, hBa, hRa⟩ := hbg ja hja
  have hka := (hpi ja hja).1
  have hza : za ≤ 64 := hBa.2.2.2.2
  refine lv_iload_n hx hb d_CB_times_0 rfl (lv_at hl 1 rfl) ?_
  refine q_callSv (va_runS (As := [.int (nI ja)]) (rest := []) ⟨hx, hb, hml, hown, hts⟩ (c_CB_requireBag l ja hja) (va_cwS 1 hts (gI_S k_120 k_118 k_119 k_21) rfl rfl rfl (by decide +kernel) ⟨Nat.le_of_ble_eq_true rfl, Nat.le_of_ble_eq_true rfl⟩) ⟨fun _ _ _ _ q => q, fun _ _ _ => ⟨rfl, trivial⟩⟩ rfl rfl hl.1 rfl (lv_room (Nat.le_of_ble_eq_true rfl)) d_CB_times_1 ⟨Nat.zero_le _, Nat.zero_le _⟩) ?_
  refine lv_iload hx hb d_CB_times_4 (lv_at hl 3 rfl) ?_
  refine q_callSv (va_runS (As := [.int (nI jc)]) (rest := []) ⟨hx, hb, hml, hown, hts⟩ (c_CB_requireBag l jc hjc) (va_cwS 1 hts (gI_S k_120 k_118 k_119 k_21) rfl rfl rfl (by decide +kernel) ⟨Nat.le_of_ble_eq_true rfl, Nat.le_of_ble_eq_true rfl⟩) ⟨fun _ _ _ _ q => q, fun _ _ _ => ⟨rfl, trivial⟩⟩ rfl rfl hl.1 rfl (lv_room (Nat.le_of_ble_eq_true rfl)) d_CB_times_6 ⟨Nat.zero_le _, Nat.zero_le _⟩) ?_
  refine lv_aload_n hx hb d_CB_times_9 rfl (lv_at hl 0 rfl) ?_
  refine q_get (C := R_CB) (T := T_CB) (N := 3) hx hb hts (fun w h => gm (inT_CB w h)) hown hK hZ (0) (by decide) h0 rfl 0 (by decide) (hts _ (gm k_99)) (fun _ h9 => h9) rfl d_CB_times_10 ?_
  refine lv_iload_n hx hb d_CB_times_13 rfl (lv_at hl 1 rfl) ?_
  refine q_aald hx hb hK hZ (1) 2 (ja) (by decide) h1 rfl rfl hja (by decide) (hf ja hja) d_CB_times_14 ?_
  refine lv_astore (lv' := [(5, .ref (ad (bb (pi ja)))), (0, .ref (ad 0)), (1, .int (nI ja)), (2, .long v), (4, .int (nI jc))]) hx hb d_CB_times_15 hl (by decide) rfl (fun ls hl => ?_)
  refine lv_aload_n hx hb d_CB_times_17 rfl (lv_at hl 1 rfl) ?_
  refine q_get (C := R_CB) (T := T_CB) (N := 3) hx hb hts (fun w h => gm (inT_CB w h)) hown hK hZ (0) (by decide) h0 rfl 2 (by decide) (hts _ (gm k_101)) (fun _ h9 => h9) rfl d_CB_times_18 ?_
  refine q_callv (va_runV (As := []) (rest := []) ⟨hx, hb, hml, hown, hts⟩ (c_Bag_empty l dC dI cI cL cB ad N0 w sp zs Ps Ns As hsp hS) (cwV 0 hts (gI_V k_282 k_279 k_280 k_281 k_22) rfl rfl rfl (by decide +kernel) ⟨Nat.le_of_ble_eq_true rfl, Nat.le_of_ble_eq_true rfl⟩) (q_preV hK hAm hZ hN [] (bb sp) 0 (by have := bb_r hsp; omega) hS.1 rfl) rfl rfl hl.1 rfl (lv_room (Nat.le_of_ble_eq_true rfl)) d_CB_times_21 ⟨Nat.zero_le _, Nat.zero_le _⟩) hZ (fun u_e H locs h_e hZ => ?_)
  obtain ⟨hS, hfe⟩ := h_e
  have hch := ch2_b hch hfe
  have h0 := ch2_0 hX hch
  have h1 := ch2_1 hX hch
  have hfs : fr w u_e (bb sp) (bb sp + 3) := hfe
  refine lv_iconst (v := (nI 0)) hx hb d_CB_times_24 rfl ?_
  refine lv_istore (lv' := [(6, .int (nI 0)), (5, .ref (ad (bb (pi ja)))), (0, .ref (ad 0)), (1, .int (nI ja)), (2, .long v), (4, .int (nI jc))]) hx hb d_CB_times_25 hl (by decide) rfl (fun ls hl => ?_)
  have loop27 : ∀ (fu27 : Nat) (i zs : Nat) (Ps : Nat → Int32) (Ns As : Nat → Int64) (u : Nat → va_E) (H : Heap) (locs : List Loc) (ls : Array Slot), (i ≤ za) → (za + 1 ≤ i + fu27) → (isBag ad cI cL u sp zs Ps Ns As) → (cRep zs Ps Ns As (gS (gT (F ja) v) (sU (kk Pa Na) i))) → (zs ≤ i) → (∀ y, y < i → fM (Aa y) v) → (fr w u (bb sp) (bb sp + 3)) → sZ (dC, dI) vCl 52 ad (fun q => N0 ≤ q) s.heap u H locs → lv_has ls 7 [(6, .int (nI i)), (0, .ref (ad 0)), (2, .long v), (4, .int (nI jc)), (5, .ref (ad (bb (pi ja))))] → W p l e (headSpec ws_CB_times ({ frames := 1, cells := 0, slots := 0, locals := 25 } : Room)).room s m ([.ref (ad 0), .int (nI ja), .long v, .int (nI jc)]).toArray below meth c H locs 0 0 (MQ below (va_Qi (fun r u => (((∀ y, fM (F ja y) v) ∧ r = 1 ∧ sC ad cI cL cB u (va_up F jc (gT (F ja) v))) ∨ (¬ (∀ y, fM (F ja y) v) ∧ r = 0 ∧ sC ad cI cL cB u F)) ∧ ∀ y, 43 ≤ y → u y = w y) (sPr (dC, dI) vCl [(cI, .int), (cL, .long), (cB, .object "CoinBag$Bag")] 52 ad N0) (fun q => N0 ≤ q)) ([.ref (ad 0), .int (nI ja), .long v, .int (nI jc)]).toArray s 0 0 (fun q => N0 ≤ q)) (F0 m 27 ls []) := by
    intro fu27
    induction fu27 with
    | zero =>
      intro i zs Ps Ns As u H locs ls hi hf9 hS hR hzi hok hfs
      omega
    | succ fu27 ih27 =>
      intro i zs Ps Ns As u H locs ls hi hf9 hS hR hzi hok hfs hZ hl
      have hch : ch2 w u sp := ch2_b ch2_rf hfs
      have h0 := ch2_0 hX hch
      have h1 := ch2_1 hX hch
      have hBa := ch2_bag hX hch hja hBa
      refine lv_iload hx hb d_CB_times_27 (lv_at hl 0 rfl) ?_
      refine lv_aload hx hb d_CB_times_29 (lv_at hl 4 rfl) ?_
      refine q_get (C := R_Bag) (T := T_Bag) (N := 4) hx hb hts (fun w h => gm (inT_Bag w h)) hown hK hZ (bb (pi ja)) (by have := bb_r hka; omega) hBa.1 rfl 3 (by decide) (hts _ (gm k_60)) (fun _ h9 => h9) rfl d_CB_times_31 ?_
      refine lv_icmp_ge (tgt := 94) hx hb d_CB_times_34 (by decide) (fun h34 => ?_) (fun h34 => ?_)
      · skip
        have h34 : za ≤ i := (nI_leI (a := za) (b := i) (by omega) (by omega)).mp h34
        have ei : i = za := by omega
        rw [ei] at hR hok
        have hRe := lay_end hR (gT_cov hRa)
        refine lv_aload_n hx hb d_CB_times_94 rfl (lv_at hl 1 rfl) ?_
        refine lv_iload hx hb d_CB_times_95 (lv_at hl 3 rfl) ?_
        refine q_callv (va_runV (As := [.int (nI jc)]) (rest := []) ⟨hx, hb, hml, hown, hts⟩ (c_CB_exchangeSpare l dC dI cI cL cB ad N0 u f sp (pi jc) jc zs Ps Ns As h0 h1 hjc (hf jc hjc) hsp hS) (cwV 1 hts (gI_V k_302 k_299 k_301 k_6 k_21) rfl rfl rfl (by decide +kernel) ⟨Nat.le_of_ble_eq_true rfl, Nat.le_of_ble_eq_true rfl⟩) (q_preV hK hAm hZ hN [.int (nI jc)] (0) 2 (by decide) h0 rfl) rfl rfl hl.1 rfl (lv_room (Nat.le_of_ble_eq_true rfl)) d_CB_times_97 ⟨Nat.zero_le _, Nat.zero_le _⟩) hZ (fun u_x H locs h_x hZ => ?_)
        have hsw := fun G hR hP => sC_swap (G := G) hX hch hjc hS hR hP h_x.1 h_x.2.1 h_x.2.2
        have hkp : ∀ y, 43 ≤ y → u_x y = w y := fun y hy => (h_x.2.2 y (by omega)).trans (hch y (by omega) (by have := bb_r hsp; omega))
        refine lv_iconst (v := (nI 1)) hx hb d_CB_times_100 rfl ?_
        exact q_zret hx hb hr rfl hlocks hK hAm hZ hN (⟨Or.inl ⟨gT_ok hRa hok, rfl, hsw _ hRe (prs_k hprs hsp hfs)⟩, hkp⟩) d_CB_times_101
      · skip
        have h34 : i < za := Nat.lt_of_not_le (fun z9 => h34 ((nI_leI (a := za) (b := i) (by omega) (by omega)).mpr z9))
        refine lv_aload hx hb d_CB_times_37 (lv_at hl 4 rfl) ?_
        refine q_get (C := R_Bag) (T := T_Bag) (N := 4) hx hb hts (fun w h => gm (inT_Bag w h)) hown hK hZ (bb (pi ja)) (by have := bb_r hka; omega) hBa.1 rfl 2 (by decide) (hts _ (gm k_57)) (fun _ h9 => h9) rfl d_CB_times_39 ?_
        refine lv_iload hx hb d_CB_times_42 (lv_at hl 0 rfl) ?_
        refine q_lald hx hb hK hZ (bb (pi ja) + 3) 1 (i) (by have := bb_r hka; omega) hBa.2.2.2.1 rfl rfl (by omega) (by decide) d_CB_times_44 ?_
        refine lv_lload_n hx hb d_CB_times_45 rfl (lv_at hl 2 rfl) ?_
        refine q_callSi (va_runS (As := [.long (Aa i), .long v]) (rest := []) ⟨hx, hb, hml, hown, hts⟩ (c_CB_productFits l _ _) (va_cwS 2 hts (gI_S k_319 k_317 k_318 k_21) rfl rfl rfl (by decide +kernel) ⟨Nat.le_of_ble_eq_true rfl, Nat.le_of_ble_eq_true rfl⟩) ⟨fun _ _ _ _ q => q, fun _ _ _ => ⟨rfl, trivial⟩⟩ rfl rfl hl.1 rfl (lv_room (Nat.le_of_ble_eq_true rfl)) d_CB_times_46 ⟨Nat.zero_le _, Nat.zero_le _⟩) (fun t h_t => ?_)
        refine lv_if_ne (tgt := 54) hx hb d_CB_times_49 (by decide) (fun h49 => ?_) (fun h49 => ?_)
        · skip
          have h_t1 : fM (Aa i) v := h_t.elim (fun y => y.1) (fun y => absurd y.2 h49)
          have eG : Aa i * v = gT (F ja) v (kk Pa Na i) := by show _ = F ja _ * v; rw [hRa.2.2.2 i h34]
          refine lv_aload_n hx hb d_CB_times_54 rfl (lv_at hl 1 rfl) ?_
          refine q_get (C := R_CB) (T := T_CB) (N := 3) hx hb hts (fun w h => gm (inT_CB w h)) hown hK hZ (0) (by decide) h0 rfl 2 (by decide) (hts _ (gm k_101)) (fun _ h9 => h9) rfl d_CB_times_55 ?_
          refine lv_aload hx hb d_CB_times_58 (lv_at hl 4 rfl) ?_
          refine q_get (C := R_Bag) (T := T_Bag) (N := 4) hx hb hts (fun w h => gm (inT_Bag w h)) hown hK hZ (bb (pi ja)) (by have := bb_r hka; omega) hBa.1 rfl 0 (by decide) (hts _ (gm k_51)) (fun _ h9 => h9) rfl d_CB_times_60 ?_
          refine lv_iload hx hb d_CB_times_63 (lv_at hl 0 rfl) ?_
          refine q_iald hx hb hK hZ (bb (pi ja) + 1) 0 (i) (by have := bb_r hka; omega) hBa.2.1 rfl rfl (by omega) (by decide) d_CB_times_65 ?_
          refine lv_aload hx hb d_CB_times_66 (lv_at hl 4 rfl) ?_
          refine q_get (C := R_Bag) (T := T_Bag) (N := 4) hx hb hts (fun w h => gm (inT_Bag w h)) hown hK hZ (bb (pi ja)) (by have := bb_r hka; omega) hBa.1 rfl 1 (by decide) (hts _ (gm k_54)) (fun _ h9 => h9) rfl d_CB_times_68 ?_
          refine lv_iload hx hb d_CB_times_71 (lv_at hl 0 rfl) ?_
          refine q_lald hx hb hK hZ (bb (pi ja) + 2) 1 (i) (by have := bb_r hka; omega) hBa.2.2.1 rfl rfl (by omega) (by decide) d_CB_times_73 ?_
          refine lv_aload hx hb d_CB_times_74 (lv_at hl 4 rfl) ?_
          refine q_get (C := R_Bag) (T := T_Bag) (N := 4) hx hb hts (fun w h => gm (inT_Bag w h)) hown hK hZ (bb (pi ja)) (by have := bb_r hka; omega) hBa.1 rfl 2 (by decide) (hts _ (gm k_57)) (fun _ h9 => h9) rfl d_CB_times_76 ?_
          refine lv_iload hx hb d_CB_times_79 (lv_at hl 0 rfl) ?_
          refine q_lald hx hb hK hZ (bb (pi ja) + 3) 1 (i) (by have := bb_r hka; omega) hBa.2.2.2.1 rfl rfl (by omega) (by decide) d_CB_times_81 ?_
          refine lv_lload_n hx hb d_CB_times_82 rfl (lv_at hl 2 rfl) ?_
          refine lv_lmul hx hb d_CB_times_83 ?_
          refine q_calli (va_runV (As := [.int (Pa i), .long (Na i), .long ((Aa i) * v)]) (rest := []) ⟨hx, hb, hml, hown, hts⟩ (c_Bag_append l dC dI cI cL cB ad N0 u sp zs Ps Ns As (Pa i) (Na i) ((Aa i) * v) hsp hS) (cwV 3 hts (gI_V k_298 k_295 k_296 k_297 k_22) rfl rfl rfl (by decide +kernel) ⟨Nat.le_of_ble_eq_true rfl, Nat.le_of_ble_eq_true rfl⟩) (q_preV hK hAm hZ hN [.int (Pa i), .long (Na i), .long ((Aa i) * v)] (bb sp) 0 (by have := bb_r hsp; omega) hS.1 rfl) rfl rfl hl.1 rfl (lv_room (Nat.le_of_ble_eq_true rfl)) d_CB_times_84 ⟨Nat.zero_le _, Nat.zero_le _⟩) hZ (fun r u_r H locs h_r hZ => ?_)
          rcases h_r with ⟨ha, hr1, hu⟩ | ⟨ha, hb9, hr1, hu⟩ | ⟨ha, hb9, hr1, hS9, hfa⟩
          · skip
            subst hr1
            rw [hu] at hZ
            refine lv_pop hx hb d_CB_times_87 rfl ?_
            refine lv_iinc (v := (nI (i + 1))) (lv' := [(6, .int (nI (i + 1))), (0, .ref (ad 0)), (2, .long v), (4, .int (nI jc)), (5, .ref (ad (bb (pi ja))))]) hx hb d_CB_times_88 hl (k := 0) rfl (nI_1 _) (by decide) rfl (fun ls hl => ?_)
            refine lv_goto (tgt := 27) hx hb d_CB_times_91 (by decide) ?_
            exact ih27 (i + 1) zs Ps Ns As u _ _ _ (by omega) (by omega) hS (lay_n hR (by rw [← eG]; exact ha)) (by omega) (lt_s hok h_t1) hfs hZ (lv_sub hl [0, 1, 2, 3, 4] rfl)
          · skip
            subst hr1
            rw [hu] at hZ
            exact absurd hb9 (by omega)
          · skip
            subst hr1
            have hch := ch2_b hch hfa
            have h0 := ch2_0 hX hch
            have h1 := ch2_1 hX hch
            refine lv_pop hx hb d_CB_times_87 rfl ?_
            refine lv_iinc (v := (nI (i + 1))) (lv' := [(6, .int (nI (i + 1))), (0, .ref (ad 0)), (2, .long v), (4, .int (nI jc)), (5, .ref (ad (bb (pi ja))))]) hx hb d_CB_times_88 hl (k := 0) rfl (nI_1 _) (by decide) rfl (fun ls hl => ?_)
            refine lv_goto (tgt := 27) hx hb d_CB_times_91 (by decide) ?_
            exact ih27 (i + 1) _ _ _ _ u_r _ _ _ (by omega) (by omega) hS9 (by have h7 := lay_y hR hRa.2.1 h34 rfl hb9 (by rw [← eG]; exact ha); rw [← eG] at h7; exact h7) (by omega) (lt_s hok h_t1) (fr_tr hfs hfa (Nat.le_refl _) (Nat.le_refl _)) hZ (lv_sub hl [0, 1, 2, 3, 4] rfl)
        · skip
          have h_t0 : ¬ fM (Aa i) v := h_t.elim (fun y => absurd (y.2.symm.trans h49) (by decide)) (fun y => y.1)
          refine lv_iconst (v := (nI 0)) hx hb d_CB_times_52 rfl ?_
          exact q_zret hx hb hr rfl hlocks hK hAm hZ hN (⟨Or.inr ⟨fun y => h_t0 (by rw [hRa.2.2.2 i h34]; exact y _), rfl, sC_spare hX hch ⟨_, _, _, _, hS⟩ (prs_k hprs hsp hfs)⟩, fun y hy => hch y (by omega) (by have := bb_r hsp; omega)⟩) d_CB_times_53
  exact loop27 (za + 1) 0 0 Ps Ns As u_e _ _ _ (Nat.zero_le za) (by omega) hS (lay_0 _ _ _) (Nat.le_refl 0) (fun y hy => absurd hy (Nat.not_lt_zero _)) hfs hZ (lv_sub hl [0, 2, 4, 5, 1] rfl)
set_option maxHeartbeats 4000000 in
set_option maxRecDepth 100000 in
theorem c_CB_only (l : Launch) (dC : Nat → ClassId) (dI : Nat → Nat → Nat) (cI cL cB : ClassId) (ad : Nat → Nat) (N0 : Nat) (w : Nat → va_E) (F : Nat → Int → Int64) (ja : Nat) (q b : Int32) (jc : Nat) (hC : sC ad cI cL cB w F) (hja : ja < 8) (hjc : jc < 8) (hq : ¬ q < 0 ∧ ¬ 65536 ≤ q) (hbb : b = 0 ∨ b = 1) : Met l y_CB_only ws_CB_only ({ frames := 1, cells := 0, slots := 0, locals := 25 } : Room) (va_Pc [.ref (ad 0), .int (nI ja), .int q, .int b, .int (nI jc)] (sPr (dC, dI) vCl [(cI, .int), (cL, .long), (cB, .object "CoinBag$Bag")] 52 ad N0 w)) (va_Qv (fun u => sC ad cI cL cB u (va_up F jc (gO (F ja) q b)) ∧ ∀ y, 43 ≤ y → u y = w y) (sPr (dC, dI) vCl [(cI, .int), (cL, .long), (cB, .object "CoinBag$Bag")] 52 ad N0) (fun q => N0 ≤ q)) 0 0 (fun q => N0 ≤ q) := by
  refine Met.ofW (cc := b_CB_only) (maxL := 7) (ret := none) (by decide) rfl ?_
  intro p e s m args below meth c s₁ B hml hv
  obtain ⟨rfl, hP, hK, hD, hN, hAm⟩ := hv
  have hx := B.exec
  have hb := B.bytes
  have hr := B.returns
  have hts := atoms_spec (ws := ws_CB_only) B.pre
  have hown : s.vm.findClass "CoinBag" = some m.cls := findClass_of_methodNamed B.named
  have hlocks := B.notSynchronized
  have hZ : sZ (dC, dI) vCl 52 ad (fun q => N0 ≤ q) s.heap w s.heap [] := ⟨hP, hD, va_S.rf⟩
  have hl := lv_entry ([.ref (ad 0), .int (nI ja), .int q, .int b, .int (nI jc)]) (n := 7) (Nat.le_of_ble_eq_true rfl)
  rw [lg_entry_eq]
  generalize (lg_sl ([.ref (ad 0), .int (nI ja), .int q, .int b, .int (nI jc)]) ++ List.replicate (7 - (lg_sl ([.ref (ad 0), .int (nI ja), .int q, .int b, .int (nI jc)])).length) Slot.unset).toArray = ls at hl ⊢
  have hl : lv_has ls 7 [(0, .ref (ad 0)), (1, .int (nI ja)), (2, .int q), (3, .int b), (4, .int (nI jc))] := hl
  obtain ⟨f, pi, sp, hX⟩ := hC
  have hX : sCx ad cI cL cB w F f pi sp := hX
  obtain ⟨h0, h1, hf, hpi, hinj, hsp, hbg, hspb, hprs⟩ := id hX
  obtain ⟨zs, Ps, Ns, As, hS⟩ := hspb
  have hch : ch2 w w sp := ch2_rf
  obtain ⟨za, Pa, Na, Aa, hBa, hRa⟩ := hbg ja hja
  have hka := (hpi ja hja).1
  have hza : za ≤ 64 := hBa.2.2.2.2
  refine lv_iload_n hx hb d_CB_only_0 rfl (lv_at hl 1 rfl) ?_
  refine q_callSv (va_runS (As := [.int (nI ja)]) (rest := []) ⟨hx, hb, hml, hown, hts⟩ (c_CB_requireBag l ja hja) (va_cwS 1 hts (gI_S k_120 k_118 k_119 k_21) rfl rfl rfl (by decide +kernel) ⟨Nat.le_of_ble_eq_true rfl, Nat.le_of_ble_eq_true rfl⟩) ⟨fun _ _ _ _ q => q, fun _ _ _ => ⟨rfl, trivial⟩⟩ rfl rfl hl.1 rfl (lv_room (Nat.le_of_ble_eq_true rfl)) d_CB_only_1 ⟨Nat.zero_le _, Nat.zero_le _⟩) ?_
  refine lv_iload hx hb d_CB_only_4 (lv_at hl 4 rfl) ?_
  refine q_callSv (va_runS (As := [.int (nI jc)]) (rest := []) ⟨hx, hb, hml, hown, hts⟩ (c_CB_requireBag l jc hjc) (va_cwS 1 hts (gI_S k_120 k_118 k_119 k_21) rfl rfl rfl (by decide +kernel) ⟨Nat.le_of_ble_eq_true rfl, Nat.le_of_ble_eq_true rfl⟩) ⟨fun _ _ _ _ q => q, fun _ _ _ => ⟨rfl, trivial⟩⟩ rfl rfl hl.1 rfl (lv_room (Nat.le_of_ble_eq_true rfl)) d_CB_only_6 ⟨Nat.zero_le _, Nat.zero_le _⟩) ?_
  refine lv_iload_n hx hb d_CB_only_9 rfl (lv_at hl 2 rfl) ?_
  refine q_callSv (va_runS (As := [.int q]) (rest := []) ⟨hx, hb, hml, hown, hts⟩ (c_CB_requirePolicy l q hq) (va_cwS 1 hts (gI_S k_190 k_188 k_189 k_21) rfl rfl rfl (by decide +kernel) ⟨Nat.le_of_ble_eq_true rfl, Nat.le_of_ble_eq_true rfl⟩) ⟨fun _ _ _ _ q => q, fun _ _ _ => ⟨rfl, trivial⟩⟩ rfl rfl hl.1 rfl (lv_room (Nat.le_of_ble_eq_true rfl)) d_CB_only_10 ⟨Nat.zero_le _, Nat.zero_le _⟩) ?_
  refine lv_aload_n hx hb d_CB_only_13 rfl (lv_at hl 0 rfl) ?_
  refine q_get (C := R_CB) (T := T_CB) (N := 3) hx hb hts (fun w h => gm (inT_CB w h)) hown hK hZ (0) (by decide) h0 rfl 0 (by decide) (hts _ (gm k_99)) (fun _ h9 => h9) rfl d_CB_only_14 ?_
  refine lv_iload_n hx hb d_CB_only_17 rfl (lv_at hl 1 rfl) ?_
  refine q_aald hx hb hK hZ (1) 2 (ja) (by decide) h1 rfl rfl hja (by decide) (hf ja hja) d_CB_only_18 ?_
  refine lv_astore (lv' := [(5, .ref (ad (bb (pi ja)))), (0, .ref (ad 0)), (1, .int (nI ja)), (2, .int q), (3, .int b), (4, .int (nI jc))]) hx hb d_CB_only_19 hl (by decide) rfl (fun ls hl => ?_)
  refine lv_aload_n hx hb d_CB_only_21 rfl (lv_at hl 1 rfl) ?_
  refine q_get (C := R_CB) (T := T_CB) (N := 3) hx hb hts (fun w h => gm (inT_CB w h)) hown hK hZ (0) (by decide) h0 rfl 2 (by decide) (hts _ (gm k_101)) (fun _ h9 => h9) rfl d_CB_only_22 ?_
  refine q_callv (va_runV (As := []) (rest := []) ⟨hx, hb, hml, hown, hts⟩ (c_Bag_empty l dC dI cI cL cB ad N0 w sp zs Ps Ns As hsp hS) (cwV 0 hts (gI_V k_282 k_279 k_280 k_281 k_22) rfl rfl rfl (by decide +kernel) ⟨Nat.le_of_ble_eq_true rfl, Nat.le_of_ble_eq_true rfl⟩) (q_preV hK hAm hZ hN [] (bb sp) 0 (by have := bb_r hsp; omega) hS.1 rfl) rfl rfl hl.1 rfl (lv_room (Nat.le_of_ble_eq_true rfl)) d_CB_only_25 ⟨Nat.zero_le _, Nat.zero_le _⟩) hZ (fun u_e H locs h_e hZ => ?_)
  obtain ⟨hS, hfe⟩ := h_e
  have hch := ch2_b hch hfe
  have h0 := ch2_0 hX hch
  have h1 := ch2_1 hX hch
  have hfs : fr w u_e (bb sp) (bb sp + 3) := hfe
  refine lv_iconst (v := (nI 0)) hx hb d_CB_only_28 rfl ?_
  refine lv_istore (lv' := [(6, .int (nI 0)), (5, .ref (ad (bb (pi ja)))), (0, .ref (ad 0)), (1, .int (nI ja)), (2, .int q), (3, .int b), (4, .int (nI jc))]) hx hb d_CB_only_29 hl (by decide) rfl (fun ls hl => ?_)
  have loop31 : ∀ (fu31 : Nat) (i zs : Nat) (Ps : Nat → Int32) (Ns As : Nat → Int64) (u : Nat → va_E) (H : Heap) (locs : List Loc) (ls : Array Slot), (i ≤ za) → (za + 1 ≤ i + fu31) → (isBag ad cI cL u sp zs Ps Ns As) → (cRep zs Ps Ns As (gS (gO (F ja) q b) (sU (kk Pa Na) i))) → (zs ≤ i) → (fr w u (bb sp) (bb sp + 3)) → sZ (dC, dI) vCl 52 ad (fun q => N0 ≤ q) s.heap u H locs → lv_has ls 7 [(6, .int (nI i)), (0, .ref (ad 0)), (2, .int q), (3, .int b), (4, .int (nI jc)), (5, .ref (ad (bb (pi ja))))] → W p l e (headSpec ws_CB_only ({ frames := 1, cells := 0, slots := 0, locals := 25 } : Room)).room s m ([.ref (ad 0), .int (nI ja), .int q, .int b, .int (nI jc)]).toArray below meth c H locs 0 0 (MQ below (va_Qv (fun u => sC ad cI cL cB u (va_up F jc (gO (F ja) q b)) ∧ ∀ y, 43 ≤ y → u y = w y) (sPr (dC, dI) vCl [(cI, .int), (cL, .long), (cB, .object "CoinBag$Bag")] 52 ad N0) (fun q => N0 ≤ q)) ([.ref (ad 0), .int (nI ja), .int q, .int b, .int (nI jc)]).toArray s 0 0 (fun q => N0 ≤ q)) (F0 m 31 ls []) := by
    intro fu31
    induction fu31 with
    | zero =>
      intro i zs Ps Ns As u H locs ls hi hf9 hS hR hzi hfs
      omega
    | succ fu31 ih31 =>
      intro i zs Ps Ns As u H locs ls hi hf9 hS hR hzi hfs hZ hl
      have hch : ch2 w u sp := ch2_b ch2_rf hfs
      have h0 := ch2_0 hX hch
      have h1 := ch2_1 hX hch
      have hBa := ch2_bag hX hch hja hBa
      refine lv_iload hx hb d_CB_only_31 (lv_at hl 0 rfl) ?_
      refine lv_aload hx hb d_CB_only_33 (lv_at hl 5 rfl) ?_
      refine q_get (C := R_Bag) (T := T_Bag) (N := 4) hx hb hts (fun w h => gm (inT_Bag w h)) hown hK hZ (bb (pi ja)) (by have := bb_r hka; omega) hBa.1 rfl 3 (by decide) (hts _ (gm k_60)) (fun _ h9 => h9) rfl d_CB_only_35 ?_
      refine lv_icmp_ge (tgt := 100) hx hb d_CB_only_38 (by decide) (fun h38 => ?_) (fun h38 => ?_)
      · skip
        have h38 : za ≤ i := (nI_leI (a := za) (b := i) (by omega) (by omega)).mp h38
        have ei : i = za := by omega
        rw [ei] at hR
        have hRe := lay_end hR (gO_cov hRa)
        refine lv_aload_n hx hb d_CB_only_100 rfl (lv_at hl 1 rfl) ?_
        refine lv_iload hx hb d_CB_only_101 (lv_at hl 4 rfl) ?_
        refine q_callv (va_runV (As := [.int (nI jc)]) (rest := []) ⟨hx, hb, hml, hown, hts⟩ (c_CB_exchangeSpare l dC dI cI cL cB ad N0 u f sp (pi jc) jc zs Ps Ns As h0 h1 hjc (hf jc hjc) hsp hS) (cwV 1 hts (gI_V k_302 k_299 k_301 k_6 k_21) rfl rfl rfl (by decide +kernel) ⟨Nat.le_of_ble_eq_true rfl, Nat.le_of_ble_eq_true rfl⟩) (q_preV hK hAm hZ hN [.int (nI jc)] (0) 2 (by decide) h0 rfl) rfl rfl hl.1 rfl (lv_room (Nat.le_of_ble_eq_true rfl)) d_CB_only_103 ⟨Nat.zero_le _, Nat.zero_le _⟩) hZ (fun u_x H locs h_x hZ => ?_)
        have hsw := fun G hR hP => sC_swap (G := G) hX hch hjc hS hR hP h_x.1 h_x.2.1 h_x.2.2
        have hkp : ∀ y, 43 ≤ y → u_x y = w y := fun y hy => (h_x.2.2 y (by omega)).trans (hch y (by omega) (by have := bb_r hsp; omega))
        exact q_vret hx hb hr hlocks hK hAm hZ hN (⟨hsw _ hRe (prs_k hprs hsp hfs), hkp⟩) d_CB_only_106
      · skip
        have h38 : i < za := Nat.lt_of_not_le (fun z9 => h38 ((nI_leI (a := za) (b := i) (by omega) (by omega)).mpr z9))
        refine lv_aload hx hb d_CB_only_41 (lv_at hl 5 rfl) ?_
        refine q_get (C := R_Bag) (T := T_Bag) (N := 4) hx hb hts (fun w h => gm (inT_Bag w h)) hown hK hZ (bb (pi ja)) (by have := bb_r hka; omega) hBa.1 rfl 0 (by decide) (hts _ (gm k_51)) (fun _ h9 => h9) rfl d_CB_only_43 ?_
        refine lv_iload hx hb d_CB_only_46 (lv_at hl 0 rfl) ?_
        refine q_iald hx hb hK hZ (bb (pi ja) + 1) 0 (i) (by have := bb_r hka; omega) hBa.2.1 rfl rfl (by omega) (by decide) d_CB_only_48 ?_
        refine lv_iload_n hx hb d_CB_only_49 rfl (lv_at hl 2 rfl) ?_
        refine lv_icmp_ne (tgt := 57) hx hb d_CB_only_50 (by decide) (fun h50 => ?_) (fun h50 => ?_)
        · skip
          refine lv_iconst (v := (nI 0)) hx hb d_CB_only_57 rfl ?_
          refine lv_iload_n hx hb d_CB_only_58 rfl (lv_at hl 3 rfl) ?_
          refine lv_icmp_ne (tgt := 94) hx hb d_CB_only_59 (by decide) (fun h59 => ?_) (fun h59 => ?_)
          · skip
            have e0 : gO (F ja) q b (kk Pa Na i) = 0 := gO_n (by first | exact gO_b h50 hbb h59 | exact gO_d h50 hbb h59)
            refine lv_iinc (v := (nI (i + 1))) (lv' := [(6, .int (nI (i + 1))), (0, .ref (ad 0)), (2, .int q), (3, .int b), (4, .int (nI jc)), (5, .ref (ad (bb (pi ja))))]) hx hb d_CB_only_94 hl (k := 0) rfl (nI_1 _) (by decide) rfl (fun ls hl => ?_)
            refine lv_goto (tgt := 31) hx hb d_CB_only_97 (by decide) ?_
            exact ih31 (i + 1) zs Ps Ns As u _ _ _ (by omega) (by omega) hS (lay_n hR e0) (by omega) hfs hZ (lv_sub hl [0, 1, 2, 3, 4, 5] rfl)
          · skip
            have eG : Aa i = gO (F ja) q b (kk Pa Na i) := by rw [gO_y (by first | exact gO_a h50 hbb h59 | exact gO_c h50 hbb h59)]; exact hRa.2.2.2 i h38
            refine lv_aload_n hx hb d_CB_only_62 rfl (lv_at hl 1 rfl) ?_
            refine q_get (C := R_CB) (T := T_CB) (N := 3) hx hb hts (fun w h => gm (inT_CB w h)) hown hK hZ (0) (by decide) h0 rfl 2 (by decide) (hts _ (gm k_101)) (fun _ h9 => h9) rfl d_CB_only_63 ?_
            refine lv_aload hx hb d_CB_only_66 (lv_at hl 5 rfl) ?_
            refine q_get (C := R_Bag) (T := T_Bag) (N := 4) hx hb hts (fun w h => gm (inT_Bag w h)) hown hK hZ (bb (pi ja)) (by have := bb_r hka; omega) hBa.1 rfl 0 (by decide) (hts _ (gm k_51)) (fun _ h9 => h9) rfl d_CB_only_68 ?_
            refine lv_iload hx hb d_CB_only_71 (lv_at hl 0 rfl) ?_
            refine q_iald hx hb hK hZ (bb (pi ja) + 1) 0 (i) (by have := bb_r hka; omega) hBa.2.1 rfl rfl (by omega) (by decide) d_CB_only_73 ?_
            refine lv_aload hx hb d_CB_only_74 (lv_at hl 5 rfl) ?_
            refine q_get (C := R_Bag) (T := T_Bag) (N := 4) hx hb hts (fun w h => gm (inT_Bag w h)) hown hK hZ (bb (pi ja)) (by have := bb_r hka; omega) hBa.1 rfl 1 (by decide) (hts _ (gm k_54)) (fun _ h9 => h9) rfl d_CB_only_76 ?_
            refine lv_iload hx hb d_CB_only_79 (lv_at hl 0 rfl) ?_
            refine q_lald hx hb hK hZ (bb (pi ja) + 2) 1 (i) (by have := bb_r hka; omega) hBa.2.2.1 rfl rfl (by omega) (by decide) d_CB_only_81 ?_
            refine lv_aload hx hb d_CB_only_82 (lv_at hl 5 rfl) ?_
            refine q_get (C := R_Bag) (T := T_Bag) (N := 4) hx hb hts (fun w h => gm (inT_Bag w h)) hown hK hZ (bb (pi ja)) (by have := bb_r hka; omega) hBa.1 rfl 2 (by decide) (hts _ (gm k_57)) (fun _ h9 => h9) rfl d_CB_only_84 ?_
            refine lv_iload hx hb d_CB_only_87 (lv_at hl 0 rfl) ?_
            refine q_lald hx hb hK hZ (bb (pi ja) + 3) 1 (i) (by have := bb_r hka; omega) hBa.2.2.2.1 rfl rfl (by omega) (by decide) d_CB_only_89 ?_
            refine q_calli (va_runV (As := [.int (Pa i), .long (Na i), .long (Aa i)]) (rest := []) ⟨hx, hb, hml, hown, hts⟩ (c_Bag_append l dC dI cI cL cB ad N0 u sp zs Ps Ns As (Pa i) (Na i) (Aa i) hsp hS) (cwV 3 hts (gI_V k_298 k_295 k_296 k_297 k_22) rfl rfl rfl (by decide +kernel) ⟨Nat.le_of_ble_eq_true rfl, Nat.le_of_ble_eq_true rfl⟩) (q_preV hK hAm hZ hN [.int (Pa i), .long (Na i), .long (Aa i)] (bb sp) 0 (by have := bb_r hsp; omega) hS.1 rfl) rfl rfl hl.1 rfl (lv_room (Nat.le_of_ble_eq_true rfl)) d_CB_only_90 ⟨Nat.zero_le _, Nat.zero_le _⟩) hZ (fun r u_r H locs h_r hZ => ?_)
            rcases h_r with ⟨ha, hr1, hu⟩ | ⟨ha, hb9, hr1, hu⟩ | ⟨ha, hb9, hr1, hS9, hfa⟩
            · skip
              subst hr1
              rw [hu] at hZ
              refine lv_pop hx hb d_CB_only_93 rfl ?_
              refine lv_iinc (v := (nI (i + 1))) (lv' := [(6, .int (nI (i + 1))), (0, .ref (ad 0)), (2, .int q), (3, .int b), (4, .int (nI jc)), (5, .ref (ad (bb (pi ja))))]) hx hb d_CB_only_94 hl (k := 0) rfl (nI_1 _) (by decide) rfl (fun ls hl => ?_)
              refine lv_goto (tgt := 31) hx hb d_CB_only_97 (by decide) ?_
              exact ih31 (i + 1) zs Ps Ns As u _ _ _ (by omega) (by omega) hS (lay_n hR (by rw [← eG]; exact ha)) (by omega) hfs hZ (lv_sub hl [0, 1, 2, 3, 4, 5] rfl)
            · skip
              subst hr1
              rw [hu] at hZ
              exact absurd hb9 (by omega)
            · skip
              subst hr1
              have hch := ch2_b hch hfa
              have h0 := ch2_0 hX hch
              have h1 := ch2_1 hX hch
              refine lv_pop hx hb d_CB_only_93 rfl ?_
              refine lv_iinc (v := (nI (i + 1))) (lv' := [(6, .int (nI (i + 1))), (0, .ref (ad 0)), (2, .int q), (3, .int b), (4, .int (nI jc)), (5, .ref (ad (bb (pi ja))))]) hx hb d_CB_only_94 hl (k := 0) rfl (nI_1 _) (by decide) rfl (fun ls hl => ?_)
              refine lv_goto (tgt := 31) hx hb d_CB_only_97 (by decide) ?_
              exact ih31 (i + 1) _ _ _ _ u_r _ _ _ (by omega) (by omega) hS9 (by have h7 := lay_y hR hRa.2.1 h38 rfl hb9 (by rw [← eG]; exact ha); rw [← eG] at h7; exact h7) (by omega) (fr_tr hfs hfa (Nat.le_refl _) (Nat.le_refl _)) hZ (lv_sub hl [0, 1, 2, 3, 4, 5] rfl)
        · skip
          refine lv_iconst (v := (nI 1)) hx hb d_CB_only_53 rfl ?_
          refine lv_goto (tgt := 58) hx hb d_CB_only_54 (by decide) ?_
          refine lv_iload_n hx hb d_CB_only_58 rfl (lv_at hl 3 rfl) ?_
          refine lv_icmp_ne (tgt := 94) hx hb d_CB_only_59 (by decide) (fun h59 => ?_) (fun h59 => ?_)
          · skip
            have e0 : gO (F ja) q b (kk Pa Na i) = 0 := gO_n (by first | exact gO_b h50 hbb h59 | exact gO_d h50 hbb h59)
            refine lv_iinc (v := (nI (i + 1))) (lv' := [(6, .int (nI (i + 1))), (0, .ref (ad 0)), (2, .int q), (3, .int b), (4, .int (nI jc)), (5, .ref (ad (bb (pi ja))))]) hx hb d_CB_only_94 hl (k := 0) rfl (nI_1 _) (by decide) rfl (fun ls hl => ?_)
            refine lv_goto (tgt := 31) hx hb d_CB_only_97 (by decide) ?_
            exact ih31 (i + 1) zs Ps Ns As u _ _ _ (by omega) (by omega) hS (lay_n hR e0) (by omega) hfs hZ (lv_sub hl [0, 1, 2, 3, 4, 5] rfl)
          · skip
            have eG : Aa i = gO (F ja) q b (kk Pa Na i) := by rw [gO_y (by first | exact gO_a h50 hbb h59 | exact gO_c h50 hbb h59)]; exact hRa.2.2.2 i h38
            refine lv_aload_n hx hb d_CB_only_62 rfl (lv_at hl 1 rfl) ?_
            refine q_get (C := R_CB) (T := T_CB) (N := 3) hx hb hts (fun w h => gm (inT_CB w h)) hown hK hZ (0) (by decide) h0 rfl 2 (by decide) (hts _ (gm k_101)) (fun _ h9 => h9) rfl d_CB_only_63 ?_
            refine lv_aload hx hb d_CB_only_66 (lv_at hl 5 rfl) ?_
            refine q_get (C := R_Bag) (T := T_Bag) (N := 4) hx hb hts (fun w h => gm (inT_Bag w h)) hown hK hZ (bb (pi ja)) (by have := bb_r hka; omega) hBa.1 rfl 0 (by decide) (hts _ (gm k_51)) (fun _ h9 => h9) rfl d_CB_only_68 ?_
            refine lv_iload hx hb d_CB_only_71 (lv_at hl 0 rfl) ?_
            refine q_iald hx hb hK hZ (bb (pi ja) + 1) 0 (i) (by have := bb_r hka; omega) hBa.2.1 rfl rfl (by omega) (by decide) d_CB_only_73 ?_
            refine lv_aload hx hb d_CB_only_74 (lv_at hl 5 rfl) ?_
            refine q_get (C := R_Bag) (T := T_Bag) (N := 4) hx hb hts (fun w h => gm (inT_Bag w h)) hown hK hZ (bb (pi ja)) (by have := bb_r hka; omega) hBa.1 rfl 1 (by decide) (hts _ (gm k_54)) (fun _ h9 => h9) rfl d_CB_only_76 ?_
            refine lv_iload hx hb d_CB_only_79 (lv_at hl 0 rfl) ?_
            refine q_lald hx hb hK hZ (bb (pi ja) + 2) 1 (i) (by have := bb_r hka; omega) hBa.2.2.1 rfl rfl (by omega) (by decide) d_CB_only_81 ?_
            refine lv_aload hx hb d_CB_only_82 (lv_at hl 5 rfl) ?_
            refine q_get (C := R_Bag) (T := T_Bag) (N := 4) hx hb hts (fun w h => gm (inT_Bag w h)) hown hK hZ (bb (pi ja)) (by have := bb_r hka; omega) hBa.1 rfl 2 (by decide) (hts _ (gm k_57)) (fun _ h9 => h9) rfl d_CB_only_84 ?_
            refine lv_iload hx hb d_CB_only_87 (lv_at hl 0 rfl) ?_
            refine q_lald hx hb hK hZ (bb (pi ja) + 3) 1 (i) (by have := bb_r hka; omega) hBa.2.2.2.1 rfl rfl (by omega) (by decide) d_CB_only_89 ?_
            refine q_calli (va_runV (As := [.int (Pa i), .long (Na i), .long (Aa i)]) (rest := []) ⟨hx, hb, hml, hown, hts⟩ (c_Bag_append l dC dI cI cL cB ad N0 u sp zs Ps Ns As (Pa i) (Na i) (Aa i) hsp hS) (cwV 3 hts (gI_V k_298 k_295 k_296 k_297 k_22) rfl rfl rfl (by decide +kernel) ⟨Nat.le_of_ble_eq_true rfl, Nat.le_of_ble_eq_true rfl⟩) (q_preV hK hAm hZ hN [.int (Pa i), .long (Na i), .long (Aa i)] (bb sp) 0 (by have := bb_r hsp; omega) hS.1 rfl) rfl rfl hl.1 rfl (lv_room (Nat.le_of_ble_eq_true rfl)) d_CB_only_90 ⟨Nat.zero_le _, Nat.zero_le _⟩) hZ (fun r u_r H locs h_r hZ => ?_)
            rcases h_r with ⟨ha, hr1, hu⟩ | ⟨ha, hb9, hr1, hu⟩ | ⟨ha, hb9, hr1, hS9, hfa⟩
            · skip
              subst hr1
              rw [hu] at hZ
              refine lv_pop hx hb d_CB_only_93 rfl ?_
              refine lv_iinc (v := (nI (i + 1))) (lv' := [(6, .int (nI (i + 1))), (0, .ref (ad 0)), (2, .int q), (3, .int b), (4, .int (nI jc)), (5, .ref (ad (bb (pi ja))))]) hx hb d_CB_only_94 hl (k := 0) rfl (nI_1 _) (by decide) rfl (fun ls hl => ?_)
              refine lv_goto (tgt := 31) hx hb d_CB_only_97 (by decide) ?_
              exact ih31 (i + 1) zs Ps Ns As u _ _ _ (by omega) (by omega) hS (lay_n hR (by rw [← eG]; exact ha)) (by omega) hfs hZ (lv_sub hl [0, 1, 2, 3, 4, 5] rfl)
            · skip
              subst hr1
              rw [hu] at hZ
              exact absurd hb9 (by omega)
            · skip
              subst hr1
              have hch := ch2_b hch hfa
              have h0 := ch2_0 hX hch
              have h1 := ch2_1 hX hch
              refine lv_pop hx hb d_CB_only_93 rfl ?_
              refine lv_iinc (v := (nI (i + 1))) (lv' := [(6, .int (nI (i + 1))), (0, .ref (ad 0)), (2, .int q), (3, .int b), (4, .int (nI jc)), (5, .ref (ad (bb (pi ja))))]) hx hb d_CB_only_94 hl (k := 0) rfl (nI_1 _) (by decide) rfl (fun ls hl => ?_)
              refine lv_goto (tgt := 31) hx hb d_CB_only_97 (by decide) ?_
              exact ih31 (i + 1) _ _ _ _ u_r _ _ _ (by omega) (by omega) hS9 (by have h7 := lay_y hR hRa.2.1 h38 rfl hb9 (by rw [← eG]; exact ha); rw [← eG] at h7; exact h7) (by omega) (fr_tr hfs hfa (Nat.le_refl _) (Nat.le_refl _)) hZ (lv_sub hl [0, 1, 2, 3, 4, 5] rfl)
  exact loop31 (za + 1) 0 0 Ps Ns As u_e _ _ _ (Nat.zero_le za) (by omega) hS (lay_0 _ _ _) (Nat.le_refl 0) hfs hZ (lv_sub hl [0, 2, 4, 5, 6, 1] rfl)
set_option maxHeartbeats 4000000 in
set_option maxRecDepth 100000 in
theorem c_CB_part (l : Launch) (dC : Nat → ClassId) (dI : Nat → Nat → Nat) (cI cL cB : ClassId) (ad : Nat → Nat) (N0 : Nat) (w : Nat → va_E) (F : Nat → Int → Int64) (ja : Nat) (sg : Int32) (jc : Nat) (hC : sC ad cI cL cB w F) (hja : ja < 8) (hjc : jc < 8) : Met l y_CB_part ws_CB_part ({ frames := 1, cells := 0, slots := 0, locals := 25 } : Room) (va_Pc [.ref (ad 0), .int (nI ja), .int sg, .int (nI jc)] (sPr (dC, dI) vCl [(cI, .int), (cL, .long), (cB, .object "CoinBag$Bag")] 52 ad N0 w)) (va_Qi (fun r u => ((((sg = 1 ∨ sg = -1) ∧ ∀ y, gPs (F ja y) sg → fM (F ja y) sg.toInt64) ∧ r = 1 ∧ sC ad cI cL cB u (va_up F jc (gP (F ja) sg))) ∨ (¬ ((sg = 1 ∨ sg = -1) ∧ ∀ y, gPs (F ja y) sg → fM (F ja y) sg.toInt64) ∧ r = 0 ∧ sC ad cI cL cB u F)) ∧ ∀ y, 43 ≤ y → u y = w y) (sPr (dC, dI) vCl [(cI, .int), (cL, .long), (cB, .object "CoinBag$Bag")] 52 ad N0) (fun q => N0 ≤ q)) 0 0 (fun q => N0 ≤ q) := by
  refine Met.ofW (cc := b_CB_part) (maxL := 8) (ret := (some .boolean)) (by decide) rfl ?_
  intro p e s m args below meth c s₁ B hml hv
  obtain ⟨rfl, hP, hK, hD, hN, hAm⟩ := hv
  have hx := B.exec
  have hb := B.bytes
  have hr := B.returns
  have hts := atoms_spec (ws := ws_CB_part) B.pre
  have hown : s.vm.findClass "CoinBag" = some m.cls := findClass_of_methodNamed B.named
  have hlocks := B.notSynchronized
  have hZ : sZ (dC, dI) vCl 52 ad (fun q => N0 ≤ q) s.heap w s.heap [] := ⟨hP, hD, va_S.rf⟩
  have hl := lv_entry ([.ref (ad 0), .int (nI ja), .int sg, .int (nI jc)]) (n := 8) (Nat.le_of_ble_eq_true rfl)
  rw [lg_entry_eq]
  generalize (lg_sl ([.ref (ad 0), .int (nI ja), .int sg, .int (nI jc)]) ++ List.replicate (8 - (lg_sl ([.ref (ad 0), .int (nI ja), .int sg, .int (nI jc)])).length) Slot.unset).toArray = ls at hl ⊢
  have hl : lv_has ls 8 [(0, .ref (ad 0)), (1, .int (nI ja)), (2, .int sg), (3, .int (nI jc))] := hl
  obtain ⟨f, pi, sp, hX⟩ := hC
  have hX : sCx ad cI cL cB w F f pi sp := hX
  obtain ⟨h0, h1, hf, hpi, hinj, hsp, hbg, hspb, hprs⟩ := id hX
  obtain ⟨zs, Ps, Ns, As, hS⟩ := hspb
  have hch : ch2 w w sp := ch2_rf
  obtain ⟨za, Pa, Na, Aa, hBa, hRa⟩ := hbg ja hja
  have hka := (hpi ja hja).1
  have hza : za ≤ 64 := hBa.2.2.2.2
  refine lv_iload_n hx hb d_CB_part_0 rfl (lv_at hl 1 rfl) ?_
  refine q_callSv (va_runS (As := [.int (nI ja)]) (rest := []) ⟨hx, hb, hml, hown, hts⟩ (c_CB_requireBag l ja hja) (va_cwS 1 hts (gI_S k_120 k_118 k_119 k_21) rfl rfl rfl (by decide +kernel) ⟨Nat.le_of_ble_eq_true rfl, Nat.le_of_ble_eq_true rfl⟩) ⟨fun _ _ _ _ q => q, fun _ _ _ => ⟨rfl, trivial⟩⟩ rfl rfl hl.1 rfl (lv_room (Nat.le_of_ble_eq_true rfl)) d_CB_part_1 ⟨Nat.zero_le _, Nat.zero_le _⟩) ?_
  refine lv_iload_n hx hb d_CB_part_4 rfl (lv_at hl 3 rfl) ?_
  refine q_callSv (va_runS (As := [.int (nI jc)]) (rest := []) ⟨hx, hb, hml, hown, hts⟩ (c_CB_requireBag l jc hjc) (va_cwS 1 hts (gI_S k_120 k_118 k_119 k_21) rfl rfl rfl (by decide +kernel) ⟨Nat.le_of_ble_eq_true rfl, Nat.le_of_ble_eq_true rfl⟩) ⟨fun _ _ _ _ q => q, fun _ _ _ => ⟨rfl, trivial⟩⟩ rfl rfl hl.1 rfl (lv_room (Nat.le_of_ble_eq_true rfl)) d_CB_part_5 ⟨Nat.zero_le _, Nat.zero_le _⟩) ?_
  refine lv_iload_n hx hb d_CB_part_8 rfl (lv_at hl 2 rfl) ?_
  refine lv_iconst (v := (nI 1)) hx hb d_CB_part_9 rfl ?_
  refine lv_icmp_eq (tgt := 20) hx hb d_CB_part_10 (by decide) (fun h10 => ?_) (fun h10 => ?_)
  · skip
    have hsg : sg = 1 ∨ sg = -1 := Or.inl h10
    refine lv_aload_n hx hb d_CB_part_20 rfl (lv_at hl 0 rfl) ?_
    refine q_get (C := R_CB) (T := T_CB) (N := 3) hx hb hts (fun w h => gm (inT_CB w h)) hown hK hZ (0) (by decide) h0 rfl 0 (by decide) (hts _ (gm k_99)) (fun _ h9 => h9) rfl d_CB_part_21 ?_
    refine lv_iload_n hx hb d_CB_part_24 rfl (lv_at hl 1 rfl) ?_
    refine q_aald hx hb hK hZ (1) 2 (ja) (by decide) h1 rfl rfl hja (by decide) (hf ja hja) d_CB_part_25 ?_
    refine lv_astore (lv' := [(4, .ref (ad (bb (pi ja)))), (0, .ref (ad 0)), (1, .int (nI ja)), (2, .int sg), (3, .int (nI jc))]) hx hb d_CB_part_26 hl (by decide) rfl (fun ls hl => ?_)
    refine lv_aload_n hx hb d_CB_part_28 rfl (lv_at hl 1 rfl) ?_
    refine q_get (C := R_CB) (T := T_CB) (N := 3) hx hb hts (fun w h => gm (inT_CB w h)) hown hK hZ (0) (by decide) h0 rfl 2 (by decide) (hts _ (gm k_101)) (fun _ h9 => h9) rfl d_CB_part_29 ?_
    refine q_callv (va_runV (As := []) (rest := []) ⟨hx, hb, hml, hown, hts⟩ (c_Bag_empty l dC dI cI cL cB ad N0 w sp zs Ps Ns As hsp hS) (cwV 0 hts (gI_V k_282 k_279 k_280 k_281 k_22) rfl rfl rfl (by decide +kernel) ⟨Nat.le_of_ble_eq_true rfl, Nat.le_of_ble_eq_true rfl⟩) (q_preV hK hAm hZ hN [] (bb sp) 0 (by have := bb_r hsp; omega) hS.1 rfl) rfl rfl hl.1 rfl (lv_room (Nat.le_of_ble_eq_true rfl)) d_CB_part_32 ⟨Nat.zero_le _, Nat.zero_le _⟩) hZ (fun u_e H locs h_e hZ => ?_)
    obtain ⟨hS, hfe⟩ := h_e
    have hch := ch2_b hch hfe
    have h0 := ch2_0 hX hch
    have h1 := ch2_1 hX hch
    have hfs : fr w u_e (bb sp) (bb sp + 3) := hfe
    refine lv_iconst (v := (nI 0)) hx hb d_CB_part_35 rfl ?_
    refine lv_istore (lv' := [(5, .int (nI 0)), (4, .ref (ad (bb (pi ja)))), (0, .ref (ad 0)), (1, .int (nI ja)), (2, .int sg), (3, .int (nI jc))]) hx hb d_CB_part_36 hl (by decide) rfl (fun ls hl => ?_)
    have loop38 : ∀ (fu38 : Nat) (i zs : Nat) (Ps : Nat → Int32) (Ns As : Nat → Int64) (u : Nat → va_E) (H : Heap) (locs : List Loc) (ls : Array Slot), (i ≤ za) → (za + 1 ≤ i + fu38) → (isBag ad cI cL u sp zs Ps Ns As) → (cRep zs Ps Ns As (gS (gP (F ja) sg) (sU (kk Pa Na) i))) → (zs ≤ i) → (∀ y, y < i → gPs (Aa y) sg → fM (Aa y) sg.toInt64) → (fr w u (bb sp) (bb sp + 3)) → sZ (dC, dI) vCl 52 ad (fun q => N0 ≤ q) s.heap u H locs → lv_has ls 8 [(5, .int (nI i)), (0, .ref (ad 0)), (2, .int sg), (3, .int (nI jc)), (4, .ref (ad (bb (pi ja))))] → W p l e (headSpec ws_CB_part ({ frames := 1, cells := 0, slots := 0, locals := 25 } : Room)).room s m ([.ref (ad 0), .int (nI ja), .int sg, .int (nI jc)]).toArray below meth c H locs 0 0 (MQ below (va_Qi (fun r u => ((((sg = 1 ∨ sg = -1) ∧ ∀ y, gPs (F ja y) sg → fM (F ja y) sg.toInt64) ∧ r = 1 ∧ sC ad cI cL cB u (va_up F jc (gP (F ja) sg))) ∨ (¬ ((sg = 1 ∨ sg = -1) ∧ ∀ y, gPs (F ja y) sg → fM (F ja y) sg.toInt64) ∧ r = 0 ∧ sC ad cI cL cB u F)) ∧ ∀ y, 43 ≤ y → u y = w y) (sPr (dC, dI) vCl [(cI, .int), (cL, .long), (cB, .object "CoinBag$Bag")] 52 ad N0) (fun q => N0 ≤ q)) ([.ref (ad 0), .int (nI ja), .int sg, .int (nI jc)]).toArray s 0 0 (fun q => N0 ≤ q)) (F0 m 38 ls []) := by
      intro fu38
      induction fu38 with
      | zero =>
        intro i zs Ps Ns As u H locs ls hi hf9 hS hR hzi hok hfs
        omega
      | succ fu38 ih38 =>
        intro i zs Ps Ns As u H locs ls hi hf9 hS hR hzi hok hfs hZ hl
        have hch : ch2 w u sp := ch2_b ch2_rf hfs
        have h0 := ch2_0 hX hch
        have h1 := ch2_1 hX hch
        have hBa := ch2_bag hX hch hja hBa
        refine lv_iload hx hb d_CB_part_38 (lv_at hl 0 rfl) ?_
        refine lv_aload hx hb d_CB_part_40 (lv_at hl 4 rfl) ?_
        refine q_get (C := R_Bag) (T := T_Bag) (N := 4) hx hb hts (fun w h => gm (inT_Bag w h)) hown hK hZ (bb (pi ja)) (by have := bb_r hka; omega) hBa.1 rfl 3 (by decide) (hts _ (gm k_60)) (fun _ h9 => h9) rfl d_CB_part_42 ?_
        refine lv_icmp_ge (tgt := 129) hx hb d_CB_part_45 (by decide) (fun h45 => ?_) (fun h45 => ?_)
        · skip
          have h45 : za ≤ i := (nI_leI (a := za) (b := i) (by omega) (by omega)).mp h45
          have ei : i = za := by omega
          rw [ei] at hR hok
          have hRe := lay_end hR (gP_cov hRa)
          refine lv_aload_n hx hb d_CB_part_129 rfl (lv_at hl 1 rfl) ?_
          refine lv_iload_n hx hb d_CB_part_130 rfl (lv_at hl 3 rfl) ?_
          refine q_callv (va_runV (As := [.int (nI jc)]) (rest := []) ⟨hx, hb, hml, hown, hts⟩ (c_CB_exchangeSpare l dC dI cI cL cB ad N0 u f sp (pi jc) jc zs Ps Ns As h0 h1 hjc (hf jc hjc) hsp hS) (cwV 1 hts (gI_V k_302 k_299 k_301 k_6 k_21) rfl rfl rfl (by decide +kernel) ⟨Nat.le_of_ble_eq_true rfl, Nat.le_of_ble_eq_true rfl⟩) (q_preV hK hAm hZ hN [.int (nI jc)] (0) 2 (by decide) h0 rfl) rfl rfl hl.1 rfl (lv_room (Nat.le_of_ble_eq_true rfl)) d_CB_part_131 ⟨Nat.zero_le _, Nat.zero_le _⟩) hZ (fun u_x H locs h_x hZ => ?_)
          have hsw := fun G hR hP => sC_swap (G := G) hX hch hjc hS hR hP h_x.1 h_x.2.1 h_x.2.2
          have hkp : ∀ y, 43 ≤ y → u_x y = w y := fun y hy => (h_x.2.2 y (by omega)).trans (hch y (by omega) (by have := bb_r hsp; omega))
          refine lv_iconst (v := (nI 1)) hx hb d_CB_part_134 rfl ?_
          exact q_zret hx hb hr rfl hlocks hK hAm hZ hN (⟨Or.inl ⟨⟨hsg, gP_ok hRa hok⟩, rfl, hsw _ hRe (prs_k hprs hsp hfs)⟩, hkp⟩) d_CB_part_135
        · skip
          have h45 : i < za := Nat.lt_of_not_le (fun z9 => h45 ((nI_leI (a := za) (b := i) (by omega) (by omega)).mpr z9))
          refine lv_aload hx hb d_CB_part_48 (lv_at hl 4 rfl) ?_
          refine q_get (C := R_Bag) (T := T_Bag) (N := 4) hx hb hts (fun w h => gm (inT_Bag w h)) hown hK hZ (bb (pi ja)) (by have := bb_r hka; omega) hBa.1 rfl 2 (by decide) (hts _ (gm k_57)) (fun _ h9 => h9) rfl d_CB_part_50 ?_
          refine lv_iload hx hb d_CB_part_53 (lv_at hl 0 rfl) ?_
          refine q_lald hx hb hK hZ (bb (pi ja) + 3) 1 (i) (by have := bb_r hka; omega) hBa.2.2.2.1 rfl rfl (by omega) (by decide) d_CB_part_55 ?_
          refine lv_lstore (lv' := [(6, .long (Aa i)), (5, .int (nI i)), (0, .ref (ad 0)), (2, .int sg), (3, .int (nI jc)), (4, .ref (ad (bb (pi ja))))]) hx hb d_CB_part_56 hl (by decide) rfl (fun ls hl => ?_)
          refine lv_lload hx hb d_CB_part_58 (lv_at hl 0 rfl) ?_
          refine lv_lconst (v := 0) hx hb d_CB_part_60 rfl ?_
          refine W.lcmp hx hb d_CB_part_61 ?_
          refine lv_if_le (tgt := 69) hx hb d_CB_part_62 (by decide) (fun h62 => ?_) (fun h62 => ?_)
          · skip
            rw [lg_cmp_le] at h62
            refine lv_iconst (v := (nI 0)) hx hb d_CB_part_69 rfl ?_
            refine lv_iload_n hx hb d_CB_part_70 rfl (lv_at hl 3 rfl) ?_
            refine lv_if_le (tgt := 78) hx hb d_CB_part_71 (by decide) (fun h71 => ?_) (fun h71 => ?_)
            · skip
              refine lv_iconst (v := (nI 0)) hx hb d_CB_part_78 rfl ?_
              refine lv_icmp_ne (tgt := 123) hx hb d_CB_part_79 (by decide) (fun h79 => ?_) (fun h79 => ?_)
              · skip
                have h79 : ¬ 0 = 0 := fun z9 => h79 ((nI_eq (a := 0) (b := 0) (by omega) (by omega)).mpr z9)
                exact absurd h79 (by decide)
              · skip
                have h79 : 0 = 0 := (nI_eq (a := 0) (b := 0) (by omega) (by omega)).mp h79
                have hps : gPs (Aa i) sg := by first | exact gPs_a h62 h71 hsg | exact gPs_b h62 h71 hsg
                have eG : Aa i * sg.toInt64 = gP (F ja) sg (kk Pa Na i) := by rw [gP_y (by rw [← hRa.2.2.2 i h45]; exact hps), ← hRa.2.2.2 i h45]
                refine lv_lload hx hb d_CB_part_82 (lv_at hl 0 rfl) ?_
                refine lv_iload_n hx hb d_CB_part_84 rfl (lv_at hl 3 rfl) ?_
                refine lv_i2l (v := sg.toInt64) hx hb d_CB_part_85 rfl ?_
                refine q_callSi (va_runS (As := [.long (Aa i), .long (sg.toInt64)]) (rest := []) ⟨hx, hb, hml, hown, hts⟩ (c_CB_productFits l _ _) (va_cwS 2 hts (gI_S k_319 k_317 k_318 k_21) rfl rfl rfl (by decide +kernel) ⟨Nat.le_of_ble_eq_true rfl, Nat.le_of_ble_eq_true rfl⟩) ⟨fun _ _ _ _ q => q, fun _ _ _ => ⟨rfl, trivial⟩⟩ rfl rfl hl.1 rfl (lv_room (Nat.le_of_ble_eq_true rfl)) d_CB_part_86 ⟨Nat.zero_le _, Nat.zero_le _⟩) (fun t h_t => ?_)
                refine lv_if_ne (tgt := 94) hx hb d_CB_part_89 (by decide) (fun h89 => ?_) (fun h89 => ?_)
                · skip
                  have h_t1 : fM (Aa i) sg.toInt64 := h_t.elim (fun y => y.1) (fun y => absurd y.2 h89)
                  refine lv_aload_n hx hb d_CB_part_94 rfl (lv_at hl 2 rfl) ?_
                  refine q_get (C := R_CB) (T := T_CB) (N := 3) hx hb hts (fun w h => gm (inT_CB w h)) hown hK hZ (0) (by decide) h0 rfl 2 (by decide) (hts _ (gm k_101)) (fun _ h9 => h9) rfl d_CB_part_95 ?_
                  refine lv_aload hx hb d_CB_part_98 (lv_at hl 5 rfl) ?_
                  refine q_get (C := R_Bag) (T := T_Bag) (N := 4) hx hb hts (fun w h => gm (inT_Bag w h)) hown hK hZ (bb (pi ja)) (by have := bb_r hka; omega) hBa.1 rfl 0 (by decide) (hts _ (gm k_51)) (fun _ h9 => h9) rfl d_CB_part_100 ?_
                  refine lv_iload hx hb d_CB_part_103 (lv_at hl 1 rfl) ?_
                  refine q_iald hx hb hK hZ (bb (pi ja) + 1) 0 (i) (by have := bb_r hka; omega) hBa.2.1 rfl rfl (by omega) (by decide) d_CB_part_105 ?_
                  refine lv_aload hx hb d_CB_part_106 (lv_at hl 5 rfl) ?_
                  refine q_get (C := R_Bag) (T := T_Bag) (N := 4) hx hb hts (fun w h => gm (inT_Bag w h)) hown hK hZ (bb (pi ja)) (by have := bb_r hka; omega) hBa.1 rfl 1 (by decide) (hts _ (gm k_54)) (fun _ h9 => h9) rfl d_CB_part_108 ?_
                  refine lv_iload hx hb d_CB_part_111 (lv_at hl 1 rfl) ?_
                  refine q_lald hx hb hK hZ (bb (pi ja) + 2) 1 (i) (by have := bb_r hka; omega) hBa.2.2.1 rfl rfl (by omega) (by decide) d_CB_part_113 ?_
                  refine lv_lload hx hb d_CB_part_114 (lv_at hl 0 rfl) ?_
                  refine lv_iload_n hx hb d_CB_part_116 rfl (lv_at hl 3 rfl) ?_
                  refine lv_i2l (v := sg.toInt64) hx hb d_CB_part_117 rfl ?_
                  refine lv_lmul hx hb d_CB_part_118 ?_
                  refine q_calli (va_runV (As := [.int (Pa i), .long (Na i), .long ((Aa i) * (sg.toInt64))]) (rest := []) ⟨hx, hb, hml, hown, hts⟩ (c_Bag_append l dC dI cI cL cB ad N0 u sp zs Ps Ns As (Pa i) (Na i) ((Aa i) * (sg.toInt64)) hsp hS) (cwV 3 hts (gI_V k_298 k_295 k_296 k_297 k_22) rfl rfl rfl (by decide +kernel) ⟨Nat.le_of_ble_eq_true rfl, Nat.le_of_ble_eq_true rfl⟩) (q_preV hK hAm hZ hN [.int (Pa i), .long (Na i), .long ((Aa i) * (sg.toInt64))] (bb sp) 0 (by have := bb_r hsp; omega) hS.1 rfl) rfl rfl hl.1 rfl (lv_room (Nat.le_of_ble_eq_true rfl)) d_CB_part_119 ⟨Nat.zero_le _, Nat.zero_le _⟩) hZ (fun r u_r H locs h_r hZ => ?_)
                  rcases h_r with ⟨ha, hr1, hu⟩ | ⟨ha, hb9, hr1, hu⟩ | ⟨ha, hb9, hr1, hS9, hfa⟩
                  · skip
                    subst hr1
                    rw [hu] at hZ
                    refine lv_pop hx hb d_CB_part_122 rfl ?_
                    refine lv_iinc (v := (nI (i + 1))) (lv' := [(5, .int (nI (i + 1))), (6, .long (Aa i)), (0, .ref (ad 0)), (2, .int sg), (3, .int (nI jc)), (4, .ref (ad (bb (pi ja))))]) hx hb d_CB_part_123 hl (k := 1) rfl (nI_1 _) (by decide) rfl (fun ls hl => ?_)
                    refine lv_goto (tgt := 38) hx hb d_CB_part_126 (by decide) ?_
                    exact ih38 (i + 1) zs Ps Ns As u _ _ _ (by omega) (by omega) hS (lay_n hR (by rw [← eG]; exact ha)) (by omega) (lt_s hok (fun _ => h_t1)) hfs hZ (lv_sub hl [0, 2, 3, 4, 5] rfl)
                  · skip
                    subst hr1
                    rw [hu] at hZ
                    exact absurd hb9 (by omega)
                  · skip
                    subst hr1
                    have hch := ch2_b hch hfa
                    have h0 := ch2_0 hX hch
                    have h1 := ch2_1 hX hch
                    refine lv_pop hx hb d_CB_part_122 rfl ?_
                    refine lv_iinc (v := (nI (i + 1))) (lv' := [(5, .int (nI (i + 1))), (6, .long (Aa i)), (0, .ref (ad 0)), (2, .int sg), (3, .int (nI jc)), (4, .ref (ad (bb (pi ja))))]) hx hb d_CB_part_123 hl (k := 1) rfl (nI_1 _) (by decide) rfl (fun ls hl => ?_)
                    refine lv_goto (tgt := 38) hx hb d_CB_part_126 (by decide) ?_
                    exact ih38 (i + 1) _ _ _ _ u_r _ _ _ (by omega) (by omega) hS9 (by have h7 := lay_y hR hRa.2.1 h45 rfl hb9 (by rw [← eG]; exact ha); rw [← eG] at h7; exact h7) (by omega) (lt_s hok (fun _ => h_t1)) (fr_tr hfs hfa (Nat.le_refl _) (Nat.le_refl _)) hZ (lv_sub hl [0, 2, 3, 4, 5] rfl)
                · skip
                  have h_t0 : ¬ fM (Aa i) sg.toInt64 := h_t.elim (fun y => absurd (y.2.symm.trans h89) (by decide)) (fun y => y.1)
                  refine lv_iconst (v := (nI 0)) hx hb d_CB_part_92 rfl ?_
                  exact q_zret hx hb hr rfl hlocks hK hAm hZ hN (⟨Or.inr ⟨fun y => h_t0 (by rw [hRa.2.2.2 i h45]; exact y.2 _ (by rw [← hRa.2.2.2 i h45]; exact hps)), rfl, sC_spare hX hch ⟨_, _, _, _, hS⟩ (prs_k hprs hsp hfs)⟩, fun y hy => hch y (by omega) (by have := bb_r hsp; omega)⟩) d_CB_part_93
            · skip
              refine lv_iconst (v := (nI 1)) hx hb d_CB_part_74 rfl ?_
              refine lv_goto (tgt := 79) hx hb d_CB_part_75 (by decide) ?_
              refine lv_icmp_ne (tgt := 123) hx hb d_CB_part_79 (by decide) (fun h79 => ?_) (fun h79 => ?_)
              · skip
                have h79 : ¬ 0 = 1 := fun z9 => h79 ((nI_eq (a := 0) (b := 1) (by omega) (by omega)).mpr z9)
                have hpn : ¬ gPs (Aa i) sg := by first | exact gPs_c h62 h71 hsg | exact gPs_d h62 h71 hsg
                have e0 : gP (F ja) sg (kk Pa Na i) = 0 := gP_n (by rw [← hRa.2.2.2 i h45]; exact hpn)
                refine lv_iinc (v := (nI (i + 1))) (lv' := [(5, .int (nI (i + 1))), (6, .long (Aa i)), (0, .ref (ad 0)), (2, .int sg), (3, .int (nI jc)), (4, .ref (ad (bb (pi ja))))]) hx hb d_CB_part_123 hl (k := 1) rfl (nI_1 _) (by decide) rfl (fun ls hl => ?_)
                refine lv_goto (tgt := 38) hx hb d_CB_part_126 (by decide) ?_
                exact ih38 (i + 1) zs Ps Ns As u _ _ _ (by omega) (by omega) hS (lay_n hR e0) (by omega) (lt_s hok (fun y => absurd y hpn)) hfs hZ (lv_sub hl [0, 2, 3, 4, 5] rfl)
              · skip
                have h79 : 0 = 1 := (nI_eq (a := 0) (b := 1) (by omega) (by omega)).mp h79
                exact absurd h79 (by decide)
          · skip
            rw [lg_cmp_le] at h62
            refine lv_iconst (v := (nI 1)) hx hb d_CB_part_65 rfl ?_
            refine lv_goto (tgt := 70) hx hb d_CB_part_66 (by decide) ?_
            refine lv_iload_n hx hb d_CB_part_70 rfl (lv_at hl 3 rfl) ?_
            refine lv_if_le (tgt := 78) hx hb d_CB_part_71 (by decide) (fun h71 => ?_) (fun h71 => ?_)
            · skip
              refine lv_iconst (v := (nI 0)) hx hb d_CB_part_78 rfl ?_
              refine lv_icmp_ne (tgt := 123) hx hb d_CB_part_79 (by decide) (fun h79 => ?_) (fun h79 => ?_)
              · skip
                have h79 : ¬ 1 = 0 := fun z9 => h79 ((nI_eq (a := 1) (b := 0) (by omega) (by omega)).mpr z9)
                have hpn : ¬ gPs (Aa i) sg := by first | exact gPs_c h62 h71 hsg | exact gPs_d h62 h71 hsg
                have e0 : gP (F ja) sg (kk Pa Na i) = 0 := gP_n (by rw [← hRa.2.2.2 i h45]; exact hpn)
                refine lv_iinc (v := (nI (i + 1))) (lv' := [(5, .int (nI (i + 1))), (6, .long (Aa i)), (0, .ref (ad 0)), (2, .int sg), (3, .int (nI jc)), (4, .ref (ad (bb (pi ja))))]) hx hb d_CB_part_123 hl (k := 1) rfl (nI_1 _) (by decide) rfl (fun ls hl => ?_)
                refine lv_goto (tgt := 38) hx hb d_CB_part_126 (by decide) ?_
                exact ih38 (i + 1) zs Ps Ns As u _ _ _ (by omega) (by omega) hS (lay_n hR e0) (by omega) (lt_s hok (fun y => absurd y hpn)) hfs hZ (lv_sub hl [0, 2, 3, 4, 5] rfl)
              · skip
                have h79 : 1 = 0 := (nI_eq (a := 1) (b := 0) (by omega) (by omega)).mp h79
                exact absurd h79 (by decide)
            · skip
              refine lv_iconst (v := (nI 1)) hx hb d_CB_part_74 rfl ?_
              refine lv_goto (tgt := 79) hx hb d_CB_part_75 (by decide) ?_
              refine lv_icmp_ne (tgt := 123) hx hb d_CB_part_79 (by decide) (fun h79 => ?_) (fun h79 => ?_)
              · skip
                have h79 : ¬ 1 = 1 := fun z9 => h79 ((nI_eq (a := 1) (b := 1) (by omega) (by omega)).mpr z9)
                exact absurd h79 (by decide)
              · skip
                have h79 : 1 = 1 := (nI_eq (a := 1) (b := 1) (by omega) (by omega)).mp h79
                have hps : gPs (Aa i) sg := by first | exact gPs_a h62 h71 hsg | exact gPs_b h62 h71 hsg
                have eG : Aa i * sg.toInt64 = gP (F ja) sg (kk Pa Na i) := by rw [gP_y (by rw [← hRa.2.2.2 i h45]; exact hps), ← hRa.2.2.2 i h45]
                refine lv_lload hx hb d_CB_part_82 (lv_at hl 0 rfl) ?_
                refine lv_iload_n hx hb d_CB_part_84 rfl (lv_at hl 3 rfl) ?_
                refine lv_i2l (v := sg.toInt64) hx hb d_CB_part_85 rfl ?_
                refine q_callSi (va_runS (As := [.long (Aa i), .long (sg.toInt64)]) (rest := []) ⟨hx, hb, hml, hown, hts⟩ (c_CB_productFits l _ _) (va_cwS 2 hts (gI_S k_319 k_317 k_318 k_21) rfl rfl rfl (by decide +kernel) ⟨Nat.le_of_ble_eq_true rfl, Nat.le_of_ble_eq_true rfl⟩) ⟨fun _ _ _ _ q => q, fun _ _ _ => ⟨rfl, trivial⟩⟩ rfl rfl hl.1 rfl (lv_room (Nat.le_of_ble_eq_true rfl)) d_CB_part_86 ⟨Nat.zero_le _, Nat.zero_le _⟩) (fun t h_t => ?_)
                refine lv_if_ne (tgt := 94) hx hb d_CB_part_89 (by decide) (fun h89 => ?_) (fun h89 => ?_)
                · skip
                  have h_t1 : fM (Aa i) sg.toInt64 := h_t.elim (fun y => y.1) (fun y => absurd y.2 h89)
                  refine lv_aload_n hx hb d_CB_part_94 rfl (lv_at hl 2 rfl) ?_
                  refine q_get (C := R_CB) (T := T_CB) (N := 3) hx hb hts (fun w h => gm (inT_CB w h)) hown hK hZ (0) (by decide) h0 rfl 2 (by decide) (hts _ (gm k_101)) (fun _ h9 => h9) rfl d_CB_part_95 ?_
                  refine lv_aload hx hb d_CB_part_98 (lv_at hl 5 rfl) ?_
                  refine q_get (C := R_Bag) (T := T_Bag) (N := 4) hx hb hts (fun w h => gm (inT_Bag w h)) hown hK hZ (bb (pi ja)) (by have := bb_r hka; omega) hBa.1 rfl 0 (by decide) (hts _ (gm k_51)) (fun _ h9 => h9) rfl d_CB_part_100 ?_
                  refine lv_iload hx hb d_CB_part_103 (lv_at hl 1 rfl) ?_
                  refine q_iald hx hb hK hZ (bb (pi ja) + 1) 0 (i) (by have := bb_r hka; omega) hBa.2.1 rfl rfl (by omega) (by decide) d_CB_part_105 ?_
                  refine lv_aload hx hb d_CB_part_106 (lv_at hl 5 rfl) ?_
                  refine q_get (C := R_Bag) (T := T_Bag) (N := 4) hx hb hts (fun w h => gm (inT_Bag w h)) hown hK hZ (bb (pi ja)) (by have := bb_r hka; omega) hBa.1 rfl 1 (by decide) (hts _ (gm k_54)) (fun _ h9 => h9) rfl d_CB_part_108 ?_
                  refine lv_iload hx hb d_CB_part_111 (lv_at hl 1 rfl) ?_
                  refine q_lald hx hb hK hZ (bb (pi ja) + 2) 1 (i) (by have := bb_r hka; omega) hBa.2.2.1 rfl rfl (by omega) (by decide) d_CB_part_113 ?_
                  refine lv_lload hx hb d_CB_part_114 (lv_at hl 0 rfl) ?_
                  refine lv_iload_n hx hb d_CB_part_116 rfl (lv_at hl 3 rfl) ?_
                  refine lv_i2l (v := sg.toInt64) hx hb d_CB_part_117 rfl ?_
                  refine lv_lmul hx hb d_CB_part_118 ?_
                  refine q_calli (va_runV (As := [.int (Pa i), .long (Na i), .long ((Aa i) * (sg.toInt64))]) (rest := []) ⟨hx, hb, hml, hown, hts⟩ (c_Bag_append l dC dI cI cL cB ad N0 u sp zs Ps Ns As (Pa i) (Na i) ((Aa i) * (sg.toInt64)) hsp hS) (cwV 3 hts (gI_V k_298 k_295 k_296 k_297 k_22) rfl rfl rfl (by decide +kernel) ⟨Nat.le_of_ble_eq_true rfl, Nat.le_of_ble_eq_true rfl⟩) (q_preV hK hAm hZ hN [.int (Pa i), .long (Na i), .long ((Aa i) * (sg.toInt64))] (bb sp) 0 (by have := bb_r hsp; omega) hS.1 rfl) rfl rfl hl.1 rfl (lv_room (Nat.le_of_ble_eq_true rfl)) d_CB_part_119 ⟨Nat.zero_le _, Nat.zero_le _⟩) hZ (fun r u_r H locs h_r hZ => ?_)
                  rcases h_r with ⟨ha, hr1, hu⟩ | ⟨ha, hb9, hr1, hu⟩ | ⟨ha, hb9, hr1, hS9, hfa⟩
                  · skip
                    subst hr1
                    rw [hu] at hZ
                    refine lv_pop hx hb d_CB_part_122 rfl ?_
                    refine lv_iinc (v := (nI (i + 1))) (lv' := [(5, .int (nI (i + 1))), (6, .long (Aa i)), (0, .ref (ad 0)), (2, .int sg), (3, .int (nI jc)), (4, .ref (ad (bb (pi ja))))]) hx hb d_CB_part_123 hl (k := 1) rfl (nI_1 _) (by decide) rfl (fun ls hl => ?_)
                    refine lv_goto (tgt := 38) hx hb d_CB_part_126 (by decide) ?_
                    exact ih38 (i + 1) zs Ps Ns As u _ _ _ (by omega) (by omega) hS (lay_n hR (by rw [← eG]; exact ha)) (by omega) (lt_s hok (fun _ => h_t1)) hfs hZ (lv_sub hl [0, 2, 3, 4, 5] rfl)
                  · skip
                    subst hr1
                    rw [hu] at hZ
                    exact absurd hb9 (by omega)
                  · skip
                    subst hr1
                    have hch := ch2_b hch hfa
                    have h0 := ch2_0 hX hch
                    have h1 := ch2_1 hX hch
                    refine lv_pop hx hb d_CB_part_122 rfl ?_
                    refine lv_iinc (v := (nI (i + 1))) (lv' := [(5, .int (nI (i + 1))), (6, .long (Aa i)), (0, .ref (ad 0)), (2, .int sg), (3, .int (nI jc)), (4, .ref (ad (bb (pi ja))))]) hx hb d_CB_part_123 hl (k := 1) rfl (nI_1 _) (by decide) rfl (fun ls hl => ?_)
                    refine lv_goto (tgt := 38) hx hb d_CB_part_126 (by decide) ?_
                    exact ih38 (i + 1) _ _ _ _ u_r _ _ _ (by omega) (by omega) hS9 (by have h7 := lay_y hR hRa.2.1 h45 rfl hb9 (by rw [← eG]; exact ha); rw [← eG] at h7; exact h7) (by omega) (lt_s hok (fun _ => h_t1)) (fr_tr hfs hfa (Nat.le_refl _) (Nat.le_refl _)) hZ (lv_sub hl [0, 2, 3, 4, 5] rfl)
                · skip
                  have h_t0 : ¬ fM (Aa i) sg.toInt64 := h_t.elim (fun y => absurd (y.2.symm.trans h89) (by decide)) (fun y => y.1)
                  refine lv_iconst (v := (nI 0)) hx hb d_CB_part_92 rfl ?_
                  exact q_zret hx hb hr rfl hlocks hK hAm hZ hN (⟨Or.inr ⟨fun y => h_t0 (by rw [hRa.2.2.2 i h45]; exact y.2 _ (by rw [← hRa.2.2.2 i h45]; exact hps)), rfl, sC_spare hX hch ⟨_, _, _, _, hS⟩ (prs_k hprs hsp hfs)⟩, fun y hy => hch y (by omega) (by have := bb_r hsp; omega)⟩) d_CB_part_93
    exact loop38 (za + 1) 0 0 Ps Ns As u_e _ _ _ (Nat.zero_le za) (by omega) hS (lay_0 _ _ _) (Nat.le_refl 0) (fun y hy => absurd hy (Nat.not_lt_zero _)) hfs hZ (lv_sub hl [0, 2, 4, 5, 1] rfl)
  · skip
    refine lv_iload_n hx hb d_CB_part_13 rfl (lv_at hl 2 rfl) ?_
    refine lv_iconst (v := (-1)) hx hb d_CB_part_14 rfl ?_
    refine lv_icmp_eq (tgt := 20) hx hb d_CB_part_15 (by decide) (fun h15 => ?_) (fun h15 => ?_)
    · skip
      have hsg : sg = 1 ∨ sg = -1 := Or.inr h15
      refine lv_aload_n hx hb d_CB_part_20 rfl (lv_at hl 0 rfl) ?_
      refine q_get (C := R_CB) (T := T_CB) (N := 3) hx hb hts (fun w h => gm (inT_CB w h)) hown hK hZ (0) (by decide) h0 rfl 0 (by decide) (hts _ (gm k_99)) (fun _ h9 => h9) rfl d_CB_part_21 ?_
      refine lv_iload_n hx hb d_CB_part_24 rfl (lv_at hl 1 rfl) ?_
      refine q_aald hx hb hK hZ (1) 2 (ja) (by decide) h1 rfl rfl hja (by decide) (hf ja hja) d_CB_part_25 ?_
      refine lv_astore (lv' := [(4, .ref (ad (bb (pi ja)))), (0, .ref (ad 0)), (1, .int (nI ja)), (2, .int sg), (3, .int (nI jc))]) hx hb d_CB_part_26 hl (by decide) rfl (fun ls hl => ?_)
      refine lv_aload_n hx hb d_CB_part_28 rfl (lv_at hl 1 rfl) ?_
      refine q_get (C := R_CB) (T := T_CB) (N := 3) hx hb hts (fun w h => gm (inT_CB w h)) hown hK hZ (0) (by decide) h0 rfl 2 (by decide) (hts _ (gm k_101)) (fun _ h9 => h9) rfl d_CB_part_29 ?_
      refine q_callv (va_runV (As := []) (rest := []) ⟨hx, hb, hml, hown, hts⟩ (c_Bag_empty l dC dI cI cL cB ad N0 w sp zs Ps Ns As hsp hS) (cwV 0 hts (gI_V k_282 k_279 k_280 k_281 k_22) rfl rfl rfl (by decide +kernel) ⟨Nat.le_of_ble_eq_true rfl, Nat.le_of_ble_eq_true rfl⟩) (q_preV hK hAm hZ hN [] (bb sp) 0 (by have := bb_r hsp; omega) hS.1 rfl) rfl rfl hl.1 rfl (lv_room (Nat.le_of_ble_eq_true rfl)) d_CB_part_32 ⟨Nat.zero_le _, Nat.zero_le _⟩) hZ (fun u_e H locs h_e hZ => ?_)
      obtain ⟨hS, hfe⟩ := h_e
      have hch := ch2_b hch hfe
      have h0 := ch2_0 hX hch
      have h1 := ch2_1 hX hch
      have hfs : fr w u_e (bb sp) (bb sp + 3) := hfe
      refine lv_iconst (v := (nI 0)) hx hb d_CB_part_35 rfl ?_
      refine lv_istore (lv' := [(5, .int (nI 0)), (4, .ref (ad (bb (pi ja)))), (0, .ref (ad 0)), (1, .int (nI ja)), (2, .int sg), (3, .int (nI jc))]) hx hb d_CB_part_36 hl (by decide) rfl (fun ls hl => ?_)
      have loop38 : ∀ (fu38 : Nat) (i zs : Nat) (Ps : Nat → Int32) (Ns As : Nat → Int64) (u : Nat → va_E) (H : Heap) (locs : List Loc) (ls : Array Slot), (i ≤ za) → (za + 1 ≤ i + fu38) → (isBag ad cI cL u sp zs Ps Ns As) → (cRep zs Ps Ns As (gS (gP (F ja) sg) (sU (kk Pa Na) i))) → (zs ≤ i) → (∀ y, y < i → gPs (Aa y) sg → fM (Aa y) sg.toInt64) → (fr w u (bb sp) (bb sp + 3)) → sZ (dC, dI) vCl 52 ad (fun q => N0 ≤ q) s.heap u H locs → lv_has ls 8 [(5, .int (nI i)), (0, .ref (ad 0)), (2, .int sg), (3, .int (nI jc)), (4, .ref (ad (bb (pi ja))))] → W p l e (headSpec ws_CB_part ({ frames := 1, cells := 0, slots := 0, locals := 25 } : Room)).room s m ([.ref (ad 0), .int (nI ja), .int sg, .int (nI jc)]).toArray below meth c H locs 0 0 (MQ below (va_Qi (fun r u => ((((sg = 1 ∨ sg = -1) ∧ ∀ y, gPs (F ja y) sg → fM (F ja y) sg.toInt64) ∧ r = 1 ∧ sC ad cI cL cB u (va_up F jc (gP (F ja) sg))) ∨ (¬ ((sg = 1 ∨ sg = -1) ∧ ∀ y, gPs (F ja y) sg → fM (F ja y) sg.toInt64) ∧ r = 0 ∧ sC ad cI cL cB u F)) ∧ ∀ y, 43 ≤ y → u y = w y) (sPr (dC, dI) vCl [(cI, .int), (cL, .long), (cB, .object "CoinBag$Bag")] 52 ad N0) (fun q => N0 ≤ q)) ([.ref (ad 0), .int (nI ja), .int sg, .int (nI jc)]).toArray s 0 0 (fun q => N0 ≤ q)) (F0 m 38 ls []) := by
        intro fu38
        induction fu38 with
        | zero =>
          intro i zs Ps Ns As u H locs ls hi hf9 hS hR hzi hok hfs
          omega
        | succ fu38 ih38 =>
          intro i zs Ps Ns As u H locs ls hi hf9 hS hR hzi hok hfs hZ hl
          have hch : ch2 w u sp := ch2_b ch2_rf hfs
          have h0 := ch2_0 hX hch
          have h1 := ch2_1 hX hch
          have hBa := ch2_bag hX hch hja hBa
          refine lv_iload hx hb d_CB_part_38 (lv_at hl 0 rfl) ?_
          refine lv_aload hx hb d_CB_part_40 (lv_at hl 4 rfl) ?_
          refine q_get (C := R_Bag) (T := T_Bag) (N := 4) hx hb hts (fun w h => gm (inT_Bag w h)) hown hK hZ (bb (pi ja)) (by have := bb_r hka; omega) hBa.1 rfl 3 (by decide) (hts _ (gm k_60)) (fun _ h9 => h9) rfl d_CB_part_42 ?_
          refine lv_icmp_ge (tgt := 129) hx hb d_CB_part_45 (by decide) (fun h45 => ?_) (fun h45 => ?_)
          · skip
            have h45 : za ≤ i := (nI_leI (a := za) (b := i) (by omega) (by omega)).mp h45
            have ei : i = za := by omega
            rw [ei] at hR hok
            have hRe := lay_end hR (gP_cov hRa)
            refine lv_aload_n hx hb d_CB_part_129 rfl (lv_at hl 1 rfl) ?_
            refine lv_iload_n hx hb d_CB_part_130 rfl (lv_at hl 3 rfl) ?_
            refine q_callv (va_runV (As := [.int (nI jc)]) (rest := []) ⟨hx, hb, hml, hown, hts⟩ (c_CB_exchangeSpare l dC dI cI cL cB ad N0 u f sp (pi jc) jc zs Ps Ns As h0 h1 hjc (hf jc hjc) hsp hS) (cwV 1 hts (gI_V k_302 k_299 k_301 k_6 k_21) rfl rfl rfl (by decide +kernel) ⟨Nat.le_of_ble_eq_true rfl, Nat.le_of_ble_eq_true rfl⟩) (q_preV hK hAm hZ hN [.int (nI jc)] (0) 2 (by decide) h0 rfl) rfl rfl hl.1 rfl (lv_room (Nat.le_of_ble_eq_true rfl)) d_CB_part_131 ⟨Nat.zero_le _, Nat.zero_le _⟩) hZ (fun u_x H locs h_x hZ => ?_)
            have hsw := fun G hR hP => sC_swap (G := G) hX hch hjc hS hR hP h_x.1 h_x.2.1 h_x.2.2
            have hkp : ∀ y, 43 ≤ y → u_x y = w y := fun y hy => (h_x.2.2 y (by omega)).trans (hch y (by omega) (by have := bb_r hsp; omega))
            refine lv_iconst (v := (nI 1)) hx hb d_CB_part_134 rfl ?_
            exact q_zret hx hb hr rfl hlocks hK hAm hZ hN (⟨Or.inl ⟨⟨hsg, gP_ok hRa hok⟩, rfl, hsw _ hRe (prs_k hprs hsp hfs)⟩, hkp⟩) d_CB_part_135
          · skip
            have h45 : i < za := Nat.lt_of_not_le (fun z9 => h45 ((nI_leI (a := za) (b := i) (by omega) (by omega)).mpr z9))
            refine lv_aload hx hb d_CB_part_48 (lv_at hl 4 rfl) ?_
            refine q_get (C := R_Bag) (T := T_Bag) (N := 4) hx hb hts (fun w h => gm (inT_Bag w h)) hown hK hZ (bb (pi ja)) (by have := bb_r hka; omega) hBa.1 rfl 2 (by decide) (hts _ (gm k_57)) (fun _ h9 => h9) rfl d_CB_part_50 ?_
            refine lv_iload hx hb d_CB_part_53 (lv_at hl 0 rfl) ?_
            refine q_lald hx hb hK hZ (bb (pi ja) + 3) 1 (i) (by have := bb_r hka; omega) hBa.2.2.2.1 rfl rfl (by omega) (by decide) d_CB_part_55 ?_
            refine lv_lstore (lv' := [(6, .long (Aa i)), (5, .int (nI i)), (0, .ref (ad 0)), (2, .int sg), (3, .int (nI jc)), (4, .ref (ad (bb (pi ja))))]) hx hb d_CB_part_56 hl (by decide) rfl (fun ls hl => ?_)
            refine lv_lload hx hb d_CB_part_58 (lv_at hl 0 rfl) ?_
            refine lv_lconst (v := 0) hx hb d_CB_part_60 rfl ?_
            refine W.lcmp hx hb d_CB_part_61 ?_
            refine lv_if_le (tgt := 69) hx hb d_CB_part_62 (by decide) (fun h62 => ?_) (fun h62 => ?_)
            · skip
              rw [lg_cmp_le] at h62
              refine lv_iconst (v := (nI 0)) hx hb d_CB_part_69 rfl ?_
              refine lv_iload_n hx hb d_CB_part_70 rfl (lv_at hl 3 rfl) ?_
              refine lv_if_le (tgt := 78) hx hb d_CB_part_71 (by decide) (fun h71 => ?_) (fun h71 => ?_)
              · skip
                refine lv_iconst (v := (nI 0)) hx hb d_CB_part_78 rfl ?_
                refine lv_icmp_ne (tgt := 123) hx hb d_CB_part_79 (by decide) (fun h79 => ?_) (fun h79 => ?_)
                · skip
                  have h79 : ¬ 0 = 0 := fun z9 => h79 ((nI_eq (a := 0) (b := 0) (by omega) (by omega)).mpr z9)
                  exact absurd h79 (by decide)
                · skip
                  have h79 : 0 = 0 := (nI_eq (a := 0) (b := 0) (by omega) (by omega)).mp h79
                  have hps : gPs (Aa i) sg := by first | exact gPs_a h62 h71 hsg | exact gPs_b h62 h71 hsg
                  have eG : Aa i * sg.toInt64 = gP (F ja) sg (kk Pa Na i) := by rw [gP_y (by rw [← hRa.2.2.2 i h45]; exact hps), ← hRa.2.2.2 i h45]
                  refine lv_lload hx hb d_CB_part_82 (lv_at hl 0 rfl) ?_
                  refine lv_iload_n hx hb d_CB_part_84 rfl (lv_at hl 3 rfl) ?_
                  refine lv_i2l (v := sg.toInt64) hx hb d_CB_part_85 rfl ?_
                  refine q_callSi (va_runS (As := [.long (Aa i), .long (sg.toInt64)]) (rest := []) ⟨hx, hb, hml, hown, hts⟩ (c_CB_productFits l _ _) (va_cwS 2 hts (gI_S k_319 k_317 k_318 k_21) rfl rfl rfl (by decide +kernel) ⟨Nat.le_of_ble_eq_true rfl, Nat.le_of_ble_eq_true rfl⟩) ⟨fun _ _ _ _ q => q, fun _ _ _ => ⟨rfl, trivial⟩⟩ rfl rfl hl.1 rfl (lv_room (Nat.le_of_ble_eq_true rfl)) d_CB_part_86 ⟨Nat.zero_le _, Nat.zero_le _⟩) (fun t h_t => ?_)
                  refine lv_if_ne (tgt := 94) hx hb d_CB_part_89 (by decide) (fun h89 => ?_) (fun h89 => ?_)
                  · skip
                    have h_t1 : fM (Aa i) sg.toInt64 := h_t.elim (fun y => y.1) (fun y => absurd y.2 h89)
                    refine lv_aload_n hx hb d_CB_part_94 rfl (lv_at hl 2 rfl) ?_
                    refine q_get (C := R_CB) (T := T_CB) (N := 3) hx hb hts (fun w h => gm (inT_CB w h)) hown hK hZ (0) (by decide) h0 rfl 2 (by decide) (hts _ (gm k_101)) (fun _ h9 => h9) rfl d_CB_part_95 ?_
                    refine lv_aload hx hb d_CB_part_98 (lv_at hl 5 rfl) ?_
                    refine q_get (C := R_Bag) (T := T_Bag) (N := 4) hx hb hts (fun w h => gm (inT_Bag w h)) hown hK hZ (bb (pi ja)) (by have := bb_r hka; omega) hBa.1 rfl 0 (by decide) (hts _ (gm k_51)) (fun _ h9 => h9) rfl d_CB_part_100 ?_
                    refine lv_iload hx hb d_CB_part_103 (lv_at hl 1 rfl) ?_
                    refine q_iald hx hb hK hZ (bb (pi ja) + 1) 0 (i) (by have := bb_r hka; omega) hBa.2.1 rfl rfl (by omega) (by decide) d_CB_part_105 ?_
                    refine lv_aload hx hb d_CB_part_106 (lv_at hl 5 rfl) ?_
                    refine q_get (C := R_Bag) (T := T_Bag) (N := 4) hx hb hts (fun w h => gm (inT_Bag w h)) hown hK hZ (bb (pi ja)) (by have := bb_r hka; omega) hBa.1 rfl 1 (by decide) (hts _ (gm k_54)) (fun _ h9 => h9) rfl d_CB_part_108 ?_
                    refine lv_iload hx hb d_CB_part_111 (lv_at hl 1 rfl) ?_
                    refine q_lald hx hb hK hZ (bb (pi ja) + 2) 1 (i) (by have := bb_r hka; omega) hBa.2.2.1 rfl rfl (by omega) (by decide) d_CB_part_113 ?_
                    refine lv_lload hx hb d_CB_part_114 (lv_at hl 0 rfl) ?_
                    refine lv_iload_n hx hb d_CB_part_116 rfl (lv_at hl 3 rfl) ?_
                    refine lv_i2l (v := sg.toInt64) hx hb d_CB_part_117 rfl ?_
                    refine lv_lmul hx hb d_CB_part_118 ?_
                    refine q_calli (va_runV (As := [.int (Pa i), .long (Na i), .long ((Aa i) * (sg.toInt64))]) (rest := []) ⟨hx, hb, hml, hown, hts⟩ (c_Bag_append l dC dI cI cL cB ad N0 u sp zs Ps Ns As (Pa i) (Na i) ((Aa i) * (sg.toInt64)) hsp hS) (cwV 3 hts (gI_V k_298 k_295 k_296 k_297 k_22) rfl rfl rfl (by decide +kernel) ⟨Nat.le_of_ble_eq_true rfl, Nat.le_of_ble_eq_true rfl⟩) (q_preV hK hAm hZ hN [.int (Pa i), .long (Na i), .long ((Aa i) * (sg.toInt64))] (bb sp) 0 (by have := bb_r hsp; omega) hS.1 rfl) rfl rfl hl.1 rfl (lv_room (Nat.le_of_ble_eq_true rfl)) d_CB_part_119 ⟨Nat.zero_le _, Nat.zero_le _⟩) hZ (fun r u_r H locs h_r hZ => ?_)
                    rcases h_r with ⟨ha, hr1, hu⟩ | ⟨ha, hb9, hr1, hu⟩ | ⟨ha, hb9, hr1, hS9, hfa⟩
                    · skip
                      subst hr1
                      rw [hu] at hZ
                      refine lv_pop hx hb d_CB_part_122 rfl ?_
                      refine lv_iinc (v := (nI (i + 1))) (lv' := [(5, .int (nI (i + 1))), (6, .long (Aa i)), (0, .ref (ad 0)), (2, .int sg), (3, .int (nI jc)), (4, .ref (ad (bb (pi ja))))]) hx hb d_CB_part_123 hl (k := 1) rfl (nI_1 _) (by decide) rfl (fun ls hl => ?_)
                      refine lv_goto (tgt := 38) hx hb d_CB_part_126 (by decide) ?_
                      exact ih38 (i + 1) zs Ps Ns As u _ _ _ (by omega) (by omega) hS (lay_n hR (by rw [← eG]; exact ha)) (by omega) (lt_s hok (fun _ => h_t1)) hfs hZ (lv_sub hl [0, 2, 3, 4, 5] rfl)
                    · skip
                      subst hr1
                      rw [hu] at hZ
                      exact absurd hb9 (by omega)
                    · skip
                      subst hr1
                      have hch := ch2_b hch hfa
                      have h0 := ch2_0 hX hch
                      have h1 := ch2_1 hX hch
                      refine lv_pop hx hb d_CB_part_122 rfl ?_
                      refine lv_iinc (v := (nI (i + 1))) (lv' := [(5, .int (nI (i + 1))), (6, .long (Aa i)), (0, .ref (ad 0)), (2, .int sg), (3, .int (nI jc)), (4, .ref (ad (bb (pi ja))))]) hx hb d_CB_part_123 hl (k := 1) rfl (nI_1 _) (by decide) rfl (fun ls hl => ?_)
                      refine lv_goto (tgt := 38) hx hb d_CB_part_126 (by decide) ?_
                      exact ih38 (i + 1) _ _ _ _ u_r _ _ _ (by omega) (by omega) hS9 (by have h7 := lay_y hR hRa.2.1 h45 rfl hb9 (by rw [← eG]; exact ha); rw [← eG] at h7; exact h7) (by omega) (lt_s hok (fun _ => h_t1)) (fr_tr hfs hfa (Nat.le_refl _) (Nat.le_refl _)) hZ (lv_sub hl [0, 2, 3, 4, 5] rfl)
                  · skip
                    have h_t0 : ¬ fM (Aa i) sg.toInt64 := h_t.elim (fun y => absurd (y.2.symm.trans h89) (by decide)) (fun y => y.1)
                    refine lv_iconst (v := (nI 0)) hx hb d_CB_part_92 rfl ?_
                    exact q_zret hx hb hr rfl hlocks hK hAm hZ hN (⟨Or.inr ⟨fun y => h_t0 (by rw [hRa.2.2.2 i h45]; exact y.2 _ (by rw [← hRa.2.2.2 i h45]; exact hps)), rfl, sC_spare hX hch ⟨_, _, _, _, hS⟩ (prs_k hprs hsp hfs)⟩, fun y hy => hch y (by omega) (by have := bb_r hsp; omega)⟩) d_CB_part_93
              · skip
                refine lv_iconst (v := (nI 1)) hx hb d_CB_part_74 rfl ?_
                refine lv_goto (tgt := 79) hx hb d_CB_part_75 (by decide) ?_
                refine lv_icmp_ne (tgt := 123) hx hb d_CB_part_79 (by decide) (fun h79 => ?_) (fun h79 => ?_)
                · skip
                  have h79 : ¬ 0 = 1 := fun z9 => h79 ((nI_eq (a := 0) (b := 1) (by omega) (by omega)).mpr z9)
                  have hpn : ¬ gPs (Aa i) sg := by first | exact gPs_c h62 h71 hsg | exact gPs_d h62 h71 hsg
                  have e0 : gP (F ja) sg (kk Pa Na i) = 0 := gP_n (by rw [← hRa.2.2.2 i h45]; exact hpn)
                  refine lv_iinc (v := (nI (i + 1))) (lv' := [(5, .int (nI (i + 1))), (6, .long (Aa i)), (0, .ref (ad 0)), (2, .int sg), (3, .int (nI jc)), (4, .ref (ad (bb (pi ja))))]) hx hb d_CB_part_123 hl (k := 1) rfl (nI_1 _) (by decide) rfl (fun ls hl => ?_)
                  refine lv_goto (tgt := 38) hx hb d_CB_part_126 (by decide) ?_
                  exact ih38 (i + 1) zs Ps Ns As u _ _ _ (by omega) (by omega) hS (lay_n hR e0) (by omega) (lt_s hok (fun y => absurd y hpn)) hfs hZ (lv_sub hl [0, 2, 3, 4, 5] rfl)
                · skip
                  have h79 : 0 = 1 := (nI_eq (a := 0) (b := 1) (by omega) (by omega)).mp h79
                  exact absurd h79 (by decide)
            · skip
              rw [lg_cmp_le] at h62
              refine lv_iconst (v := (nI 1)) hx hb d_CB_part_65 rfl ?_
              refine lv_goto (tgt := 70) hx hb d_CB_part_66 (by decide) ?_
              refine lv_iload_n hx hb d_CB_part_70 rfl (lv_at hl 3 rfl) ?_
              refine lv_if_le (tgt := 78) hx hb d_CB_part_71 (by decide) (fun h71 => ?_) (fun h71 => ?_)
              · skip
                refine lv_iconst (v := (nI 0)) hx hb d_CB_part_78 rfl ?_
                refine lv_icmp_ne (tgt := 123) hx hb d_CB_part_79 (by decide) (fun h79 => ?_) (fun h79 => ?_)
                · skip
                  have h79 : ¬ 1 = 0 := fun z9 => h79 ((nI_eq (a := 1) (b := 0) (by omega) (by omega)).mpr z9)
                  have hpn : ¬ gPs (Aa i) sg := by first | exact gPs_c h62 h71 hsg | exact gPs_d h62 h71 hsg
                  have e0 : gP (F ja) sg (kk Pa Na i) = 0 := gP_n (by rw [← hRa.2.2.2 i h45]; exact hpn)
                  refine lv_iinc (v := (nI (i + 1))) (lv' := [(5, .int (nI (i + 1))), (6, .long (Aa i)), (0, .ref (ad 0)), (2, .int sg), (3, .int (nI jc)), (4, .ref (ad (bb (pi ja))))]) hx hb d_CB_part_123 hl (k := 1) rfl (nI_1 _) (by decide) rfl (fun ls hl => ?_)
                  refine lv_goto (tgt := 38) hx hb d_CB_part_126 (by decide) ?_
                  exact ih38 (i + 1) zs Ps Ns As u _ _ _ (by omega) (by omega) hS (lay_n hR e0) (by omega) (lt_s hok (fun y => absurd y hpn)) hfs hZ (lv_sub hl [0, 2, 3, 4, 5] rfl)
                · skip
                  have h79 : 1 = 0 := (nI_eq (a := 1) (b := 0) (by omega) (by omega)).mp h79
                  exact absurd h79 (by decide)
              · skip
                refine lv_iconst (v := (nI 1)) hx hb d_CB_part_74 rfl ?_
                refine lv_goto (tgt := 79) hx hb d_CB_part_75 (by decide) ?_
                refine lv_icmp_ne (tgt := 123) hx hb d_CB_part_79 (by decide) (fun h79 => ?_) (fun h79 => ?_)
                · skip
                  have h79 : ¬ 1 = 1 := fun z9 => h79 ((nI_eq (a := 1) (b := 1) (by omega) (by omega)).mpr z9)
                  exact absurd h79 (by decide)
                · skip
                  have h79 : 1 = 1 := (nI_eq (a := 1) (b := 1) (by omega) (by omega)).mp h79
                  have hps : gPs (Aa i) sg := by first | exact gPs_a h62 h71 hsg | exact gPs_b h62 h71 hsg
                  have eG : Aa i * sg.toInt64 = gP (F ja) sg (kk Pa Na i) := by rw [gP_y (by rw [← hRa.2.2.2 i h45]; exact hps), ← hRa.2.2.2 i h45]
                  refine lv_lload hx hb d_CB_part_82 (lv_at hl 0 rfl) ?_
                  refine lv_iload_n hx hb d_CB_part_84 rfl (lv_at hl 3 rfl) ?_
                  refine lv_i2l (v := sg.toInt64) hx hb d_CB_part_85 rfl ?_
                  refine q_callSi (va_runS (As := [.long (Aa i), .long (sg.toInt64)]) (rest := []) ⟨hx, hb, hml, hown, hts⟩ (c_CB_productFits l _ _) (va_cwS 2 hts (gI_S k_319 k_317 k_318 k_21) rfl rfl rfl (by decide +kernel) ⟨Nat.le_of_ble_eq_true rfl, Nat.le_of_ble_eq_true rfl⟩) ⟨fun _ _ _ _ q => q, fun _ _ _ => ⟨rfl, trivial⟩⟩ rfl rfl hl.1 rfl (lv_room (Nat.le_of_ble_eq_true rfl)) d_CB_part_86 ⟨Nat.zero_le _, Nat.zero_le _⟩) (fun t h_t => ?_)
                  refine lv_if_ne (tgt := 94) hx hb d_CB_part_89 (by decide) (fun h89 => ?_) (fun h89 => ?_)
                  · skip
                    have h_t1 : fM (Aa i) sg.toInt64 := h_t.elim (fun y => y.1) (fun y => absurd y.2 h89)
                    refine lv_aload_n hx hb d_CB_part_94 rfl (lv_at hl 2 rfl) ?_
                    refine q_get (C := R_CB) (T := T_CB) (N := 3) hx hb hts (fun w h => gm (inT_CB w h)) hown hK hZ (0) (by decide) h0 rfl 2 (by decide) (hts _ (gm k_101)) (fun _ h9 => h9) rfl d_CB_part_95 ?_
                    refine lv_aload hx hb d_CB_part_98 (lv_at hl 5 rfl) ?_
                    refine q_get (C := R_Bag) (T := T_Bag) (N := 4) hx hb hts (fun w h => gm (inT_Bag w h)) hown hK hZ (bb (pi ja)) (by have := bb_r hka; omega) hBa.1 rfl 0 (by decide) (hts _ (gm k_51)) (fun _ h9 => h9) rfl d_CB_part_100 ?_
                    refine lv_iload hx hb d_CB_part_103 (lv_at hl 1 rfl) ?_
                    refine q_iald hx hb hK hZ (bb (pi ja) + 1) 0 (i) (by have := bb_r hka; omega) hBa.2.1 rfl rfl (by omega) (by decide) d_CB_part_105 ?_
                    refine lv_aload hx hb d_CB_part_106 (lv_at hl 5 rfl) ?_
                    refine q_get (C := R_Bag) (T := T_Bag) (N := 4) hx hb hts (fun w h => gm (inT_Bag w h)) hown hK hZ (bb (pi ja)) (by have := bb_r hka; omega) hBa.1 rfl 1 (by decide) (hts _ (gm k_54)) (fun _ h9 => h9) rfl d_CB_part_108 ?_
                    refine lv_iload hx hb d_CB_part_111 (lv_at hl 1 rfl) ?_
                    refine q_lald hx hb hK hZ (bb (pi ja) + 2) 1 (i) (by have := bb_r hka; omega) hBa.2.2.1 rfl rfl (by omega) (by decide) d_CB_part_113 ?_
                    refine lv_lload hx hb d_CB_part_114 (lv_at hl 0 rfl) ?_
                    refine lv_iload_n hx hb d_CB_part_116 rfl (lv_at hl 3 rfl) ?_
                    refine lv_i2l (v := sg.toInt64) hx hb d_CB_part_117 rfl ?_
                    refine lv_lmul hx hb d_CB_part_118 ?_
                    refine q_calli (va_runV (As := [.int (Pa i), .long (Na i), .long ((Aa i) * (sg.toInt64))]) (rest := []) ⟨hx, hb, hml, hown, hts⟩ (c_Bag_append l dC dI cI cL cB ad N0 u sp zs Ps Ns As (Pa i) (Na i) ((Aa i) * (sg.toInt64)) hsp hS) (cwV 3 hts (gI_V k_298 k_295 k_296 k_297 k_22) rfl rfl rfl (by decide +kernel) ⟨Nat.le_of_ble_eq_true rfl, Nat.le_of_ble_eq_true rfl⟩) (q_preV hK hAm hZ hN [.int (Pa i), .long (Na i), .long ((Aa i) * (sg.toInt64))] (bb sp) 0 (by have := bb_r hsp; omega) hS.1 rfl) rfl rfl hl.1 rfl (lv_room (Nat.le_of_ble_eq_true rfl)) d_CB_part_119 ⟨Nat.zero_le _, Nat.zero_le _⟩) hZ (fun r u_r H locs h_r hZ => ?_)
                    rcases h_r with ⟨ha, hr1, hu⟩ | ⟨ha, hb9, hr1, hu⟩ | ⟨ha, hb9, hr1, hS9, hfa⟩
                    · skip
                      subst hr1
                      rw [hu] at hZ
                      refine lv_pop hx hb d_CB_part_122 rfl ?_
                      refine lv_iinc (v := (nI (i + 1))) (lv' := [(5, .int (nI (i + 1))), (6, .long (Aa i)), (0, .ref (ad 0)), (2, .int sg), (3, .int (nI jc)), (4, .ref (ad (bb (pi ja))))]) hx hb d_CB_part_123 hl (k := 1) rfl (nI_1 _) (by decide) rfl (fun ls hl => ?_)
                      refine lv_goto (tgt := 38) hx hb d_CB_part_126 (by decide) ?_
                      exact ih38 (i + 1) zs Ps Ns As u _ _ _ (by omega) (by omega) hS (lay_n hR (by rw [← eG]; exact ha)) (by omega) (lt_s hok (fun _ => h_t1)) hfs hZ (lv_sub hl [0, 2, 3, 4, 5] rfl)
                    · skip
                      subst hr1
                      rw [hu] at hZ
                      exact absurd hb9 (by omega)
                    · skip
                      subst hr1
                      have hch := ch2_b hch hfa
                      have h0 := ch2_0 hX hch
                      have h1 := ch2_1 hX hch
                      refine lv_pop hx hb d_CB_part_122 rfl ?_
                      refine lv_iinc (v := (nI (i + 1))) (lv' := [(5, .int (nI (i + 1))), (6, .long (Aa i)), (0, .ref (ad 0)), (2, .int sg), (3, .int (nI jc)), (4, .ref (ad (bb (pi ja))))]) hx hb d_CB_part_123 hl (k := 1) rfl (nI_1 _) (by decide) rfl (fun ls hl => ?_)
                      refine lv_goto (tgt := 38) hx hb d_CB_part_126 (by decide) ?_
                      exact ih38 (i + 1) _ _ _ _ u_r _ _ _ (by omega) (by omega) hS9 (by have h7 := lay_y hR hRa.2.1 h45 rfl hb9 (by rw [← eG]; exact ha); rw [← eG] at h7; exact h7) (by omega) (lt_s hok (fun _ => h_t1)) (fr_tr hfs hfa (Nat.le_refl _) (Nat.le_refl _)) hZ (lv_sub hl [0, 2, 3, 4, 5] rfl)
                  · skip
                    have h_t0 : ¬ fM (Aa i) sg.toInt64 := h_t.elim (fun y => absurd (y.2.symm.trans h89) (by decide)) (fun y => y.1)
                    refine lv_iconst (v := (nI 0)) hx hb d_CB_part_92 rfl ?_
                    exact q_zret hx hb hr rfl hlocks hK hAm hZ hN (⟨Or.inr ⟨fun y => h_t0 (by rw [hRa.2.2.2 i h45]; exact y.2 _ (by rw [← hRa.2.2.2 i h45]; exact hps)), rfl, sC_spare hX hch ⟨_, _, _, _, hS⟩ (prs_k hprs hsp hfs)⟩, fun y hy => hch y (by omega) (by have := bb_r hsp; omega)⟩) d_CB_part_93
      exact loop38 (za + 1) 0 0 Ps Ns As u_e _ _ _ (Nat.zero_le za) (by omega) hS (lay_0 _ _ _) (Nat.le_refl 0) (fun y hy => absurd hy (Nat.not_lt_zero _)) hfs hZ (lv_sub hl [0, 2, 4, 5, 1] rfl)
    · skip
      refine lv_iconst (v := (nI 0)) hx hb d_CB_part_18 rfl ?_
      exact q_zret hx hb hr rfl hlocks hK hAm hZ hN (⟨Or.inr ⟨fun y => y.1.elim h10 h15, rfl, sC_of hX⟩, fun y _ => rfl⟩) d_CB_part_19
