/-! the class Pairs -/
theorem i32_ng {r : Int32} (h : r < 0) : ¬ 0 < r := by
  rw [Int32.lt_iff_toInt_lt] at h ⊢
  omega
theorem i32_nl {r : Int32} (h : 0 < r) : ¬ r < 0 := by
  rw [Int32.lt_iff_toInt_lt] at h ⊢
  omega
theorem i32_n0g {r : Int32} (h : r = 0) : ¬ 0 < r := by
  rw [h]
  decide
theorem i32_n0l {r : Int32} (h : r = 0) : ¬ r < 0 := by
  rw [h]
  decide
theorem al_cases {r : Int32} {za zb i j : Nat} {x y : Int} (h : (za ≤ i ∧ r = 1) ∨ (i < za ∧ zb ≤ j ∧ r = -1) ∨ (i < za ∧ j < zb ∧ (r < 0 ↔ x < y) ∧ (r = 0 ↔ x = y))) (ho : i < za ∨ j < zb) :
    (r < 0 ∧ i < za ∧ (j < zb → x < y)) ∨ (r = 0 ∧ i < za ∧ j < zb ∧ x = y) ∨ (0 < r ∧ j < zb ∧ (i < za → y < x)) := by
  rcases h with ⟨h1, h2⟩ | ⟨h1, h2, h3⟩ | ⟨h1, h2, h3, h4⟩
  · exact Or.inr (Or.inr ⟨by rw [h2]; decide, by omega, fun y => by omega⟩)
  · exact Or.inl ⟨by rw [h3]; decide, h1, fun y => by omega⟩
  · by_cases a : r < 0
    · exact Or.inl ⟨a, h1, fun _ => h3.mp a⟩
    · by_cases b : r = 0
      · exact Or.inr (Or.inl ⟨b, h1, h2, h4.mp b⟩)
      · refine Or.inr (Or.inr ⟨?_, h2, fun _ => ?_⟩)
        · rw [Int32.lt_iff_toInt_lt] at a ⊢
          have : r.toInt ≠ (0 : Int32).toInt := fun z => b (Int32.toInt_inj.mp z)
          omega
        · have a' : ¬ x < y := fun z => a (h3.mpr z)
          have b' : ¬ x = y := fun z => b (h4.mpr z)
          omega
set_option maxHeartbeats 4000000 in
set_option maxRecDepth 100000 in
theorem c_Prs_orderOfNext (l : Launch) (dC : Nat → ClassId) (dI : Nat → Nat → Nat) (cI cL cB : ClassId) (ad : Nat → Nat) (N0 : Nat) (w : Nat → va_E) (ka za : Nat) (Pa : Nat → Int32) (Na Aa : Nat → Int64) (kb zb : Nat) (Pb : Nat → Int32) (Nb Ab : Nat → Int64) (i j : Nat) (hka : ka < 9) (hA : isBag ad cI cL w ka za Pa Na Aa) (hkb : kb < 9) (hB : isBag ad cI cL w kb zb Pb Nb Ab) (hi : i ≤ za) (hj : j ≤ zb) : Met l y_Prs_orderOfNext ws_Prs_orderOfNext ({ frames := 3, cells := 0, slots := 0, locals := 71 } : Room) (va_Pc [.ref (ad (bb ka)), .int (nI i), .ref (ad (bb kb)), .int (nI j)] (sPr (dC, dI) vCl [(cI, .int), (cL, .long), (cB, .object "CoinBag$Bag")] 52 ad N0 w)) (va_Qi (fun r u => u = w ∧ ((za ≤ i ∧ r = 1) ∨ (i < za ∧ zb ≤ j ∧ r = -1) ∨ (i < za ∧ j < zb ∧ (r < 0 ↔ kk Pa Na i < kk Pb Nb j) ∧ (r = 0 ↔ kk Pa Na i = kk Pb Nb j)))) (sPr (dC, dI) vCl [(cI, .int), (cL, .long), (cB, .object "CoinBag$Bag")] 52 ad N0) (fun q => N0 ≤ q)) 0 0 (fun q => N0 ≤ q) := by
  refine Met.ofW (cc := b_Prs_orderOfNext) (maxL := 4) (ret := (some .int)) (by decide) rfl ?_
  intro p e s m args below meth c s₁ B hml hv
  obtain ⟨rfl, hP, hK, hD, hN, hAm⟩ := hv
  have hx := B.exec
  have hb := B.bytes
  have hr := B.returns
  have hts := atoms_spec (ws := ws_Prs_orderOfNext) B.pre
  have hown : s.vm.findClass "CoinBag$Pairs" = some m.cls := findClass_of_methodNamed B.named
  have hlocks := B.notSynchronized
  have hZ : sZ (dC, dI) vCl 52 ad (fun q => N0 ≤ q) s.heap w s.heap [] := ⟨hP, hD, va_S.rf⟩
  have hl := lv_entry ([.ref (ad (bb ka)), .int (nI i), .ref (ad (bb kb)), .int (nI j)]) (n := 4) (Nat.le_of_ble_eq_true rfl)
  rw [lg_entry_eq]
  generalize (lg_sl ([.ref (ad (bb ka)), .int (nI i), .ref (ad (bb kb)), .int (nI j)]) ++ List.replicate (4 - (lg_sl ([.ref (ad (bb ka)), .int (nI i), .ref (ad (bb kb)), .int (nI j)])).length) Slot.unset).toArray = ls at hl ⊢
  have hl : lv_has ls 4 [(0, .ref (ad (bb ka))), (1, .int (nI i)), (2, .ref (ad (bb kb))), (3, .int (nI j))] := hl
  have hza : za ≤ 64 := hA.2.2.2.2
  have hzb : zb ≤ 64 := hB.2.2.2.2
  refine lv_iload_n hx hb d_Prs_orderOfNext_0 rfl (lv_at hl 1 rfl) ?_
  refine lv_aload_n hx hb d_Prs_orderOfNext_1 rfl (lv_at hl 0 rfl) ?_
  refine q_get (C := R_Bag) (T := T_Bag) (N := 4) hx hb hts (fun w h => gm (inT_Bag w h)) hown hK hZ (bb ka) (by have := bb_r hka; omega) hA.1 rfl 3 (by decide) (hts _ (gm k_59)) (fun _ h9 => h9) rfl d_Prs_orderOfNext_2 ?_
  refine lv_icmp_lt (tgt := 10) hx hb d_Prs_orderOfNext_5 (by decide) (fun h5 => ?_) (fun h5 => ?_)
  · skip
    have h5 : i < za := (nI_ltI (a := i) (b := za) (by omega) (by omega)).mp h5
    refine lv_iload_n hx hb d_Prs_orderOfNext_10 rfl (lv_at hl 3 rfl) ?_
    refine lv_aload_n hx hb d_Prs_orderOfNext_11 rfl (lv_at hl 2 rfl) ?_
    refine q_get (C := R_Bag) (T := T_Bag) (N := 4) hx hb hts (fun w h => gm (inT_Bag w h)) hown hK hZ (bb kb) (by have := bb_r hkb; omega) hB.1 rfl 3 (by decide) (hts _ (gm k_59)) (fun _ h9 => h9) rfl d_Prs_orderOfNext_12 ?_
    refine lv_icmp_lt (tgt := 20) hx hb d_Prs_orderOfNext_15 (by decide) (fun h15 => ?_) (fun h15 => ?_)
    · skip
      have h15 : j < zb := (nI_ltI (a := j) (b := zb) (by omega) (by omega)).mp h15
      refine lv_aload_n hx hb d_Prs_orderOfNext_20 rfl (lv_at hl 0 rfl) ?_
      refine q_get (C := R_Bag) (T := T_Bag) (N := 4) hx hb hts (fun w h => gm (inT_Bag w h)) hown hK hZ (bb ka) (by have := bb_r hka; omega) hA.1 rfl 0 (by decide) (hts _ (gm k_50)) (fun _ h9 => h9) rfl d_Prs_orderOfNext_21 ?_
      refine lv_iload_n hx hb d_Prs_orderOfNext_24 rfl (lv_at hl 1 rfl) ?_
      refine q_iald hx hb hK hZ (bb ka + 1) 0 (i) (by have := bb_r hka; omega) hA.2.1 rfl rfl (by omega) (by decide) d_Prs_orderOfNext_25 ?_
      refine lv_aload_n hx hb d_Prs_orderOfNext_26 rfl (lv_at hl 0 rfl) ?_
      refine q_get (C := R_Bag) (T := T_Bag) (N := 4) hx hb hts (fun w h => gm (inT_Bag w h)) hown hK hZ (bb ka) (by have := bb_r hka; omega) hA.1 rfl 1 (by decide) (hts _ (gm k_53)) (fun _ h9 => h9) rfl d_Prs_orderOfNext_27 ?_
      refine lv_iload_n hx hb d_Prs_orderOfNext_30 rfl (lv_at hl 1 rfl) ?_
      refine q_lald hx hb hK hZ (bb ka + 2) 1 (i) (by have := bb_r hka; omega) hA.2.2.1 rfl rfl (by omega) (by decide) d_Prs_orderOfNext_31 ?_
      refine lv_aload_n hx hb d_Prs_orderOfNext_32 rfl (lv_at hl 2 rfl) ?_
      refine q_get (C := R_Bag) (T := T_Bag) (N := 4) hx hb hts (fun w h => gm (inT_Bag w h)) hown hK hZ (bb kb) (by have := bb_r hkb; omega) hB.1 rfl 0 (by decide) (hts _ (gm k_50)) (fun _ h9 => h9) rfl d_Prs_orderOfNext_33 ?_
      refine lv_iload_n hx hb d_Prs_orderOfNext_36 rfl (lv_at hl 3 rfl) ?_
      refine q_iald hx hb hK hZ (bb kb + 1) 0 (j) (by have := bb_r hkb; omega) hB.2.1 rfl rfl (by omega) (by decide) d_Prs_orderOfNext_37 ?_
      refine lv_aload_n hx hb d_Prs_orderOfNext_38 rfl (lv_at hl 2 rfl) ?_
      refine q_get (C := R_Bag) (T := T_Bag) (N := 4) hx hb hts (fun w h => gm (inT_Bag w h)) hown hK hZ (bb kb) (by have := bb_r hkb; omega) hB.1 rfl 1 (by decide) (hts _ (gm k_53)) (fun _ h9 => h9) rfl d_Prs_orderOfNext_39 ?_
      refine lv_iload_n hx hb d_Prs_orderOfNext_42 rfl (lv_at hl 3 rfl) ?_
      refine q_lald hx hb hK hZ (bb kb + 2) 1 (j) (by have := bb_r hkb; omega) hB.2.2.1 rfl rfl (by omega) (by decide) d_Prs_orderOfNext_43 ?_
      refine q_callSi (va_runSN (As := [.int (Pa i), .long (Na i), .int (Pb j), .long (Nb j)]) (rest := []) ⟨hx, hb, hml, hown, hts⟩ (c_CB_orderOf l _ _ _ _) ⟨va_cnB 4 hts (gI k_218) rfl rfl rfl (hAm.2.2.2.2.1) (hts _ (gm k_21)) (by decide +kernel) ⟨Nat.le_of_ble_eq_true rfl, Nat.le_of_ble_eq_true rfl⟩, hts _ (gm k_217), trivial⟩ ⟨fun _ _ _ _ q => q, fun _ _ _ => ⟨rfl, trivial⟩⟩ rfl rfl hl.1 rfl (lv_room (Nat.le_of_ble_eq_true rfl)) d_Prs_orderOfNext_44 ⟨Nat.zero_le _, Nat.zero_le _⟩) (fun r h_r => ?_)
      exact q_iret hx hb hr hlocks hK hAm hZ hN (⟨rfl, Or.inr (Or.inr ⟨h5, h15, h_r⟩)⟩) d_Prs_orderOfNext_47
    · skip
      have h15 : zb ≤ j := Nat.le_of_not_lt (fun z9 => h15 ((nI_ltI (a := j) (b := zb) (by omega) (by omega)).mpr z9))
      refine lv_iconst (v := (-1)) hx hb d_Prs_orderOfNext_18 rfl ?_
      exact q_iret hx hb hr hlocks hK hAm hZ hN (⟨rfl, Or.inr (Or.inl ⟨h5, h15, rfl⟩)⟩) d_Prs_orderOfNext_19
  · skip
    have h5 : za ≤ i := Nat.le_of_not_lt (fun z9 => h5 ((nI_ltI (a := i) (b := za) (by omega) (by omega)).mpr z9))
    refine lv_iconst (v := (nI 1)) hx hb d_Prs_orderOfNext_8 rfl ?_
    exact q_iret hx hb hr hlocks hK hAm hZ hN (⟨rfl, Or.inl ⟨h5, rfl⟩⟩) d_Prs_orderOfNext_9
set_option maxHeartbeats 4000000 in
set_option maxRecDepth 100000 in
theorem c_Prs_align (l : Launch) (dC : Nat → ClassId) (dI : Nat → Nat → Nat) (cI cL cB : ClassId) (ad : Nat → Nat) (N0 : Nat) (w : Nat → va_E) (ka za : Nat) (Pa : Nat → Int32) (Na Aa : Nat → Int64) (kb zb : Nat) (Pb : Nat → Int32) (Nb Ab : Nat → Int64) (Fa Fb : Int → Int64) (d0 : Nat) (P0 : Nat → Int32) (N1 L0 R0 : Nat → Int64) (hka : ka < 9) (hA : isBag ad cI cL w ka za Pa Na Aa) (hkb : kb < 9) (hB : isBag ad cI cL w kb zb Pb Nb Ab) (hCa : cRep za Pa Na Aa Fa) (hCb : cRep zb Pb Nb Ab Fb) (hPr : isPrs ad cI cL w d0 P0 N1 L0 R0) : Met l y_Prs_align ws_Prs_align ({ frames := 4, cells := 0, slots := 0, locals := 94 } : Room) (va_Pc [.ref (ad 34), .ref (ad (bb ka)), .ref (ad (bb kb))] (sPr (dC, dI) vCl [(cI, .int), (cL, .long), (cB, .object "CoinBag$Bag")] 52 ad N0 w)) (va_Qv (fun u => fr w u 34 38 ∧ ∃ (d : Nat) (P : Nat → Int32) (N L R : Nat → Int64), isPrs ad cI cL u d P N L R ∧ pRep d P N L R Fa Fb) (sPr (dC, dI) vCl [(cI, .int), (cL, .long), (cB, .object "CoinBag$Bag")] 52 ad N0) (fun q => N0 ≤ q)) 0 0 (fun q => N0 ≤ q) := by
  refine Met.ofW (cc := b_Prs_align) (maxL := 8) (ret := none) (by decide) rfl ?_
  intro p e s m args below meth c s₁ B hml hv
  obtain ⟨rfl, hP, hK, hD, hN, hAm⟩ := hv
  have hx := B.exec
  have hb := B.bytes
  have hr := B.returns
  have hts := atoms_spec (ws := ws_Prs_align) B.pre
  have hown : s.vm.findClass "CoinBag$Pairs" = some m.cls := findClass_of_methodNamed B.named
  have hlocks := B.notSynchronized
  have hZ : sZ (dC, dI) vCl 52 ad (fun q => N0 ≤ q) s.heap w s.heap [] := ⟨hP, hD, va_S.rf⟩
  have hl := lv_entry ([.ref (ad 34), .ref (ad (bb ka)), .ref (ad (bb kb))]) (n := 8) (Nat.le_of_ble_eq_true rfl)
  rw [lg_entry_eq]
  generalize (lg_sl ([.ref (ad 34), .ref (ad (bb ka)), .ref (ad (bb kb))]) ++ List.replicate (8 - (lg_sl ([.ref (ad 34), .ref (ad (bb ka)), .ref (ad (bb kb))])).length) Slot.unset).toArray = ls at hl ⊢
  have hl : lv_has ls 8 [(0, .ref (ad 34)), (1, .ref (ad (bb ka))), (2, .ref (ad (bb kb)))] := hl
  have hza : za ≤ 64 := hA.2.2.2.2
  have hzb : zb ≤ 64 := hB.2.2.2.2
  have hfr : fr w w 34 38 := fr_rf
  refine lv_iconst (v := (nI 0)) hx hb d_Prs_align_0 rfl ?_
  refine lv_istore_n (lv' := [(3, .int (nI 0)), (0, .ref (ad 34)), (1, .ref (ad (bb ka))), (2, .ref (ad (bb kb)))]) hx hb d_Prs_align_1 rfl hl (by decide) rfl (fun ls hl => ?_)
  refine lv_iconst (v := (nI 0)) hx hb d_Prs_align_2 rfl ?_
  refine lv_istore (lv' := [(4, .int (nI 0)), (3, .int (nI 0)), (0, .ref (ad 34)), (1, .ref (ad (bb ka))), (2, .ref (ad (bb kb)))]) hx hb d_Prs_align_3 hl (by decide) rfl (fun ls hl => ?_)
  refine lv_aload_n hx hb d_Prs_align_5 rfl (lv_at hl 2 rfl) ?_
  refine lv_iconst (v := (nI 0)) hx hb d_Prs_align_6 rfl ?_
  refine q_put (C := R_Prs) (T := T_Prs) (N := 5) (ty := .int) (v := .int (nI 0)) hx hb hts (fun w h => gm (inT_Prs w h)) ty_Prs tyo_Prs nm_Prs hown hK hZ (34) (by decide) hPr.1 rfl 4 (by decide) (hts _ (gm k_86)) (fun _ h9 => h9) rfl (by decide +kernel) (rfl) (rfl) (Nat.le_of_ble_eq_true rfl) d_Prs_align_7 (fun H locs hZ => ?_)
  have hPr := hPr.upC (c' := 0) (by omega)
  have hA := hA.off (x := 34) (e := .inr (1, [.ref (ad 35), .ref (ad 36), .ref (ad 37), .ref (ad 38), .int (nI 0)])) (by have := bb_r hka; omega)
  have hB := hB.off (x := 34) (e := .inr (1, [.ref (ad 35), .ref (ad 36), .ref (ad 37), .ref (ad 38), .int (nI 0)])) (by have := bb_r hkb; omega)
  have hfr := fr_up (x := 34) (e := .inr (1, [.ref (ad 35), .ref (ad 36), .ref (ad 37), .ref (ad 38), .int (nI 0)])) hfr (by omega) (by omega)
  have hZ : sZ (dC, dI) vCl 52 ad (fun q => N0 ≤ q) s.heap (va_up w 34 (.inr (1, [.ref (ad 35), .ref (ad 36), .ref (ad 37), .ref (ad 38), .int (nI 0)]))) H locs := hZ
  generalize va_up w 34 (.inr (1, [.ref (ad 35), .ref (ad 36), .ref (ad 37), .ref (ad 38), .int (nI 0)])) = w18 at hZ hPr hfr hA hB
  have loop10 : ∀ (fu10 : Nat) (i j d : Nat) (P : Nat → Int32) (N L R : Nat → Int64) (u : Nat → va_E) (H : Heap) (locs : List Loc) (ls : Array Slot), (za + zb + 1 ≤ i + j + fu10) → (isBag ad cI cL u ka za Pa Na Aa) → (isBag ad cI cL u kb zb Pb Nb Ab) → (isPrs ad cI cL u d P N L R) → (fr w u 34 38) → (mG za (kk Pa Na) Fa zb (kk Pb Nb) Fb i j d P N L R) → sZ (dC, dI) vCl 52 ad (fun q => N0 ≤ q) s.heap u H locs → lv_has ls 8 [(3, .int (nI i)), (4, .int (nI j)), (0, .ref (ad 34)), (1, .ref (ad (bb ka))), (2, .ref (ad (bb kb)))] → W p l e (headSpec ws_Prs_align ({ frames := 4, cells := 0, slots := 0, locals := 94 } : Room)).room s m ([.ref (ad 34), .ref (ad (bb ka)), .ref (ad (bb kb))]).toArray below meth c H locs 0 0 (MQ below (va_Qv (fun u => fr w u 34 38 ∧ ∃ (d : Nat) (P : Nat → Int32) (N L R : Nat → Int64), isPrs ad cI cL u d P N L R ∧ pRep d P N L R Fa Fb) (sPr (dC, dI) vCl [(cI, .int), (cL, .long), (cB, .object "CoinBag$Bag")] 52 ad N0) (fun q => N0 ≤ q)) ([.ref (ad 34), .ref (ad (bb ka)), .ref (ad (bb kb))]).toArray s 0 0 (fun q => N0 ≤ q)) (F0 m 10 ls []) := by
    intro fu10
    induction fu10 with
    | zero =>
      intro i j d P N L R u H locs ls hf hA hB hPr hfr hM
      exact absurd hM.1 (by omega)
    | succ fu10 ih10 =>
      intro i j d P N L R u H locs ls hf hA hB hPr hfr hM hZ hl
      have hM1 := hM.1
      have hd := hPr.2.2.2.2.2
      refine lv_aload_n hx hb d_Prs_align_10 rfl (lv_at hl 2 rfl) ?_
      refine q_get (C := R_Prs) (T := T_Prs) (N := 5) hx hb hts (fun w h => gm (inT_Prs w h)) hown hK hZ (34) (by decide) hPr.1 rfl 4 (by decide) (hts _ (gm k_86)) (fun _ h9 => h9) rfl d_Prs_align_11 ?_
      refine lv_sipush (v := (nI 128)) hx hb d_Prs_align_14 rfl ?_
      refine lv_icmp_ge (tgt := 196) hx hb d_Prs_align_17 (by decide) (fun h17 => ?_) (fun h17 => ?_)
      · skip
        have h17 : 128 ≤ d := (nI_leI (a := 128) (b := d) (by omega) (by omega)).mp h17
        exact q_vret hx hb hr hlocks hK hAm hZ hN (⟨hfr, d, _, _, _, _, hPr, mG_end hCa.2.2.1 hCb.2.2.1 (show mG za (kk Pa Na) Fa zb (kk Pb Nb) Fb za zb d _ _ _ _ from by have q1 := hM.1; have ei : i = za := (by omega); have ej : j = zb := (by omega); rw [ei, ej] at hM; exact hM)⟩) d_Prs_align_196
      · skip
        have h17 : d < 128 := Nat.lt_of_not_le (fun z9 => h17 ((nI_leI (a := 128) (b := d) (by omega) (by omega)).mpr z9))
        refine lv_iload_n hx hb d_Prs_align_20 rfl (lv_at hl 0 rfl) ?_
        refine lv_aload_n hx hb d_Prs_align_21 rfl (lv_at hl 3 rfl) ?_
        refine q_get (C := R_Bag) (T := T_Bag) (N := 4) hx hb hts (fun w h => gm (inT_Bag w h)) hown hK hZ (bb ka) (by have := bb_r hka; omega) hA.1 rfl 3 (by decide) (hts _ (gm k_59)) (fun _ h9 => h9) rfl d_Prs_align_22 ?_
        refine lv_icmp_lt (tgt := 37) hx hb d_Prs_align_25 (by decide) (fun h25 => ?_) (fun h25 => ?_)
        · skip
          have h25 : i < za := (nI_ltI (a := i) (b := za) (by omega) (by omega)).mp h25
          refine lv_aload_n hx hb d_Prs_align_37 rfl (lv_at hl 3 rfl) ?_
          refine lv_iload_n hx hb d_Prs_align_38 rfl (lv_at hl 0 rfl) ?_
          refine lv_aload_n hx hb d_Prs_align_39 rfl (lv_at hl 4 rfl) ?_
          refine lv_iload hx hb d_Prs_align_40 (lv_at hl 1 rfl) ?_
          refine q_calli (va_runS (As := [.ref (ad (bb ka)), .int (nI i), .ref (ad (bb kb)), .int (nI j)]) (rest := []) ⟨hx, hb, hml, hown, hts⟩ (c_Prs_orderOfNext l dC dI cI cL cB ad N0 u ka za Pa Na Aa kb zb Pb Nb Ab i j hka hA hkb hB (by omega) (by omega)) (va_cwS 4 hts (gI_S k_277 k_275 k_276 k_23) rfl rfl rfl (by decide +kernel) ⟨Nat.le_of_ble_eq_true rfl, Nat.le_of_ble_eq_true rfl⟩) (q_pre hK hAm hZ hN [.ref (ad (bb ka)), .int (nI i), .ref (ad (bb kb)), .int (nI j)]) rfl rfl hl.1 rfl (lv_room (Nat.le_of_ble_eq_true rfl)) d_Prs_align_42 ⟨Nat.zero_le _, Nat.zero_le _⟩) hZ (fun r u_r H locs h_r hZ => ?_)
          obtain ⟨e_r, h_r⟩ := h_r
          rw [e_r] at hZ
          rcases al_cases h_r (by first | exact Or.inl h25 | exact Or.inr h34) with hc | hc | hc
          · skip
            obtain ⟨hrs, hc⟩ := hc
            obtain ⟨hiz, hjk⟩ := hc
            refine lv_istore (lv' := [(5, .int r), (3, .int (nI i)), (4, .int (nI j)), (0, .ref (ad 34)), (1, .ref (ad (bb ka))), (2, .ref (ad (bb kb)))]) hx hb d_Prs_align_45 hl (by decide) rfl (fun ls hl => ?_)
            refine lv_iload hx hb d_Prs_align_47 (lv_at hl 0 rfl) ?_
            refine lv_if_gt (tgt := 56) hx hb d_Prs_align_49 (by decide) (fun h49 => ?_) (fun h49 => ?_)
            · skip
              exact absurd h49 (i32_ng hrs)
            · skip
              refine lv_aload_n hx hb d_Prs_align_52 rfl (lv_at hl 4 rfl) ?_
              refine lv_goto (tgt := 57) hx hb d_Prs_align_53 (by decide) ?_
              refine lv_astore (lv' := [(6, .ref (ad (bb ka))), (5, .int r), (3, .int (nI i)), (4, .int (nI j)), (0, .ref (ad 34)), (1, .ref (ad (bb ka))), (2, .ref (ad (bb kb)))]) hx hb d_Prs_align_57 hl (by decide) rfl (fun ls hl => ?_)
              refine lv_iload hx hb d_Prs_align_59 (lv_at hl 1 rfl) ?_
              refine lv_if_gt (tgt := 68) hx hb d_Prs_align_61 (by decide) (fun h61 => ?_) (fun h61 => ?_)
              · skip
                exact absurd h61 (i32_ng hrs)
              · skip
                refine lv_iload_n hx hb d_Prs_align_64 rfl (lv_at hl 2 rfl) ?_
                refine lv_goto (tgt := 70) hx hb d_Prs_align_65 (by decide) ?_
                refine lv_istore (lv' := [(7, .int (nI i)), (6, .ref (ad (bb ka))), (5, .int r), (3, .int (nI i)), (4, .int (nI j)), (0, .ref (ad 34)), (1, .ref (ad (bb ka))), (2, .ref (ad (bb kb)))]) hx hb d_Prs_align_70 hl (by decide) rfl (fun ls hl => ?_)
                refine lv_aload_n hx hb d_Prs_align_72 rfl (lv_at hl 5 rfl) ?_
                refine q_get (C := R_Prs) (T := T_Prs) (N := 5) hx hb hts (fun w h => gm (inT_Prs w h)) hown hK hZ (34) (by decide) hPr.1 rfl 0 (by decide) (hts _ (gm k_78)) (fun _ h9 => h9) rfl d_Prs_align_73 ?_
                refine lv_aload_n hx hb d_Prs_align_76 rfl (lv_at hl 5 rfl) ?_
                refine q_get (C := R_Prs) (T := T_Prs) (N := 5) hx hb hts (fun w h => gm (inT_Prs w h)) hown hK hZ (34) (by decide) hPr.1 rfl 4 (by decide) (hts _ (gm k_86)) (fun _ h9 => h9) rfl d_Prs_align_77 ?_
                refine lv_aload hx hb d_Prs_align_80 (lv_at hl 1 rfl) ?_
                refine q_get (C := R_Bag) (T := T_Bag) (N := 4) hx hb hts (fun w h => gm (inT_Bag w h)) hown hK hZ (bb ka) (by have := bb_r hka; omega) hA.1 rfl 0 (by decide) (hts _ (gm k_50)) (fun _ h9 => h9) rfl d_Prs_align_82 ?_
                refine lv_iload hx hb d_Prs_align_85 (lv_at hl 0 rfl) ?_
                refine q_iald hx hb hK hZ (bb ka + 1) 0 (i) (by have := bb_r hka; omega) hA.2.1 rfl rfl (by omega) (by decide) d_Prs_align_87 ?_
                refine q_iast hx hb hK hZ (35) 0 (d) (by decide) hPr.2.1 rfl rfl (by omega) (by decide) d_Prs_align_88 (fun H locs hZ => ?_)
                have hPr := hPr.upP ((upd P d (Pa i)))
                have hA := hA.off (x := 35) (e := .inl (cI, 128, .inl (upd P d (Pa i)))) (by have := bb_r hka; omega)
                have hB := hB.off (x := 35) (e := .inl (cI, 128, .inl (upd P d (Pa i)))) (by have := bb_r hkb; omega)
                have hfr := fr_up (x := 35) (e := .inl (cI, 128, .inl (upd P d (Pa i)))) hfr (by omega) (by omega)
                have hZ : sZ (dC, dI) vCl 52 ad (fun q => N0 ≤ q) s.heap (va_up u 35 (.inl (cI, 128, .inl (upd P d (Pa i))))) H locs := hZ
                generalize va_up u 35 (.inl (cI, 128, .inl (upd P d (Pa i)))) = w19 at hZ hPr hfr hA hB
                refine lv_aload_n hx hb d_Prs_align_89 rfl (lv_at hl 5 rfl) ?_
                refine q_get (C := R_Prs) (T := T_Prs) (N := 5) hx hb hts (fun w h => gm (inT_Prs w h)) hown hK hZ (34) (by decide) hPr.1 rfl 1 (by decide) (hts _ (gm k_80)) (fun _ h9 => h9) rfl d_Prs_align_90 ?_
                refine lv_aload_n hx hb d_Prs_align_93 rfl (lv_at hl 5 rfl) ?_
                refine q_get (C := R_Prs) (T := T_Prs) (N := 5) hx hb hts (fun w h => gm (inT_Prs w h)) hown hK hZ (34) (by decide) hPr.1 rfl 4 (by decide) (hts _ (gm k_86)) (fun _ h9 => h9) rfl d_Prs_align_94 ?_
                refine lv_aload hx hb d_Prs_align_97 (lv_at hl 1 rfl) ?_
                refine q_get (C := R_Bag) (T := T_Bag) (N := 4) hx hb hts (fun w h => gm (inT_Bag w h)) hown hK hZ (bb ka) (by have := bb_r hka; omega) hA.1 rfl 1 (by decide) (hts _ (gm k_53)) (fun _ h9 => h9) rfl d_Prs_align_99 ?_
                refine lv_iload hx hb d_Prs_align_102 (lv_at hl 0 rfl) ?_
                refine q_lald hx hb hK hZ (bb ka + 2) 1 (i) (by have := bb_r hka; omega) hA.2.2.1 rfl rfl (by omega) (by decide) d_Prs_align_104 ?_
                refine q_last hx hb hK hZ (36) 1 (d) (by decide) hPr.2.2.1 rfl rfl (by omega) (by decide) d_Prs_align_105 (fun H locs hZ => ?_)
                have hPr := hPr.upN ((vp_updL N d (Na i)))
                have hA := hA.off (x := 36) (e := .inl (cL, 128, .inr (.inl (vp_updL N d (Na i))))) (by have := bb_r hka; omega)
                have hB := hB.off (x := 36) (e := .inl (cL, 128, .inr (.inl (vp_updL N d (Na i))))) (by have := bb_r hkb; omega)
                have hfr := fr_up (x := 36) (e := .inl (cL, 128, .inr (.inl (vp_updL N d (Na i))))) hfr (by omega) (by omega)
                have hZ : sZ (dC, dI) vCl 52 ad (fun q => N0 ≤ q) s.heap (va_up w19 36 (.inl (cL, 128, .inr (.inl (vp_updL N d (Na i)))))) H locs := hZ
                generalize va_up w19 36 (.inl (cL, 128, .inr (.inl (vp_updL N d (Na i))))) = w20 at hZ hPr hfr hA hB
                refine lv_aload_n hx hb d_Prs_align_106 rfl (lv_at hl 5 rfl) ?_
                refine q_get (C := R_Prs) (T := T_Prs) (N := 5) hx hb hts (fun w h => gm (inT_Prs w h)) hown hK hZ (34) (by decide) hPr.1 rfl 2 (by decide) (hts _ (gm k_82)) (fun _ h9 => h9) rfl d_Prs_align_107 ?_
                refine lv_aload_n hx hb d_Prs_align_110 rfl (lv_at hl 5 rfl) ?_
                refine q_get (C := R_Prs) (T := T_Prs) (N := 5) hx hb hts (fun w h => gm (inT_Prs w h)) hown hK hZ (34) (by decide) hPr.1 rfl 4 (by decide) (hts _ (gm k_86)) (fun _ h9 => h9) rfl d_Prs_align_111 ?_
                refine lv_iload hx hb d_Prs_align_114 (lv_at hl 2 rfl) ?_
                refine lv_if_gt (tgt := 128) hx hb d_Prs_align_116 (by decide) (fun h116 => ?_) (fun h116 => ?_)
                · skip
                  exact absurd h116 (i32_ng hrs)
                · skip
                  refine lv_aload_n hx hb d_Prs_align_119 rfl (lv_at hl 6 rfl) ?_
                  refine q_get (C := R_Bag) (T := T_Bag) (N := 4) hx hb hts (fun w h => gm (inT_Bag w h)) hown hK hZ (bb ka) (by have := bb_r hka; omega) hA.1 rfl 2 (by decide) (hts _ (gm k_56)) (fun _ h9 => h9) rfl d_Prs_align_120 ?_
                  refine lv_iload_n hx hb d_Prs_align_123 rfl (lv_at hl 3 rfl) ?_
                  refine q_lald hx hb hK hZ (bb ka + 3) 1 (i) (by have := bb_r hka; omega) hA.2.2.2.1 rfl rfl (by omega) (by decide) d_Prs_align_124 ?_
                  refine lv_goto (tgt := 129) hx hb d_Prs_align_125 (by decide) ?_
                  refine q_last hx hb hK hZ (37) 1 (d) (by decide) hPr.2.2.2.1 rfl rfl (by omega) (by decide) d_Prs_align_129 (fun H locs hZ => ?_)
                  have hPr := hPr.upL ((vp_updL L d (Aa i)))
                  have hA := hA.off (x := 37) (e := .inl (cL, 128, .inr (.inl (vp_updL L d (Aa i))))) (by have := bb_r hka; omega)
                  have hB := hB.off (x := 37) (e := .inl (cL, 128, .inr (.inl (vp_updL L d (Aa i))))) (by have := bb_r hkb; omega)
                  have hfr := fr_up (x := 37) (e := .inl (cL, 128, .inr (.inl (vp_updL L d (Aa i))))) hfr (by omega) (by omega)
                  have hZ : sZ (dC, dI) vCl 52 ad (fun q => N0 ≤ q) s.heap (va_up w20 37 (.inl (cL, 128, .inr (.inl (vp_updL L d (Aa i)))))) H locs := hZ
                  generalize va_up w20 37 (.inl (cL, 128, .inr (.inl (vp_updL L d (Aa i))))) = w21 at hZ hPr hfr hA hB
                  refine lv_aload_n hx hb d_Prs_align_130 rfl (lv_at hl 5 rfl) ?_
                  refine q_get (C := R_Prs) (T := T_Prs) (N := 5) hx hb hts (fun w h => gm (inT_Prs w h)) hown hK hZ (34) (by decide) hPr.1 rfl 3 (by decide) (hts _ (gm k_84)) (fun _ h9 => h9) rfl d_Prs_align_131 ?_
                  refine lv_aload_n hx hb d_Prs_align_134 rfl (lv_at hl 5 rfl) ?_
                  refine q_get (C := R_Prs) (T := T_Prs) (N := 5) hx hb hts (fun w h => gm (inT_Prs w h)) hown hK hZ (34) (by decide) hPr.1 rfl 4 (by decide) (hts _ (gm k_86)) (fun _ h9 => h9) rfl d_Prs_align_135 ?_
                  refine lv_iload hx hb d_Prs_align_138 (lv_at hl 2 rfl) ?_
                  refine lv_if_lt (tgt := 153) hx hb d_Prs_align_140 (by decide) (fun h140 => ?_) (fun h140 => ?_)
                  · skip
                    refine lv_lconst (v := 0) hx hb d_Prs_align_153 rfl ?_
                    refine q_last hx hb hK hZ (38) 1 (d) (by decide) hPr.2.2.2.2.1 rfl rfl (by omega) (by decide) d_Prs_align_154 (fun H locs hZ => ?_)
                    have hPr := hPr.upR ((vp_updL R d 0))
                    have hA := hA.off (x := 38) (e := .inl (cL, 128, .inr (.inl (vp_updL R d 0)))) (by have := bb_r hka; omega)
                    have hB := hB.off (x := 38) (e := .inl (cL, 128, .inr (.inl (vp_updL R d 0)))) (by have := bb_r hkb; omega)
                    have hfr := fr_up (x := 38) (e := .inl (cL, 128, .inr (.inl (vp_updL R d 0)))) hfr (by omega) (by omega)
                    have hZ : sZ (dC, dI) vCl 52 ad (fun q => N0 ≤ q) s.heap (va_up w21 38 (.inl (cL, 128, .inr (.inl (vp_updL R d 0))))) H locs := hZ
                    generalize va_up w21 38 (.inl (cL, 128, .inr (.inl (vp_updL R d 0)))) = w22 at hZ hPr hfr hA hB
                    refine lv_iload_n hx hb d_Prs_align_155 rfl (lv_at hl 3 rfl) ?_
                    refine lv_iload hx hb d_Prs_align_156 (lv_at hl 2 rfl) ?_
                    refine lv_if_gt (tgt := 165) hx hb d_Prs_align_158 (by decide) (fun h158 => ?_) (fun h158 => ?_)
                    · skip
                      exact absurd h158 (i32_ng hrs)
                    · skip
                      refine lv_iconst (v := (nI 1)) hx hb d_Prs_align_161 rfl ?_
                      refine lv_goto (tgt := 166) hx hb d_Prs_align_162 (by decide) ?_
                      refine lv_iadd hx hb d_Prs_align_166 ?_
                      refine q_topi (y := nI (i + 1)) (nI_add _ _) ?_
                      refine lv_istore_n (lv' := [(3, .int (nI (i + 1))), (7, .int (nI i)), (6, .ref (ad (bb ka))), (5, .int r), (4, .int (nI j)), (0, .ref (ad 34)), (1, .ref (ad (bb ka))), (2, .ref (ad (bb kb)))]) hx hb d_Prs_align_167 rfl hl (by decide) rfl (fun ls hl => ?_)
                      refine lv_iload hx hb d_Prs_align_168 (lv_at hl 4 rfl) ?_
                      refine lv_iload hx hb d_Prs_align_170 (lv_at hl 3 rfl) ?_
                      refine lv_if_lt (tgt := 179) hx hb d_Prs_align_172 (by decide) (fun h172 => ?_) (fun h172 => ?_)
                      · skip
                        refine lv_iconst (v := (nI 0)) hx hb d_Prs_align_179 rfl ?_
                        refine lv_iadd hx hb d_Prs_align_180 ?_
                        refine q_topi (y := nI (j + 0)) (nI_add _ _) ?_
                        refine lv_istore (lv' := [(4, .int (nI (j + 0))), (3, .int (nI (i + 1))), (7, .int (nI i)), (6, .ref (ad (bb ka))), (5, .int r), (0, .ref (ad 34)), (1, .ref (ad (bb ka))), (2, .ref (ad (bb kb)))]) hx hb d_Prs_align_181 hl (by decide) rfl (fun ls hl => ?_)
                        refine lv_aload_n hx hb d_Prs_align_183 rfl (lv_at hl 5 rfl) ?_
                        refine lv_dup hx hb d_Prs_align_184 rfl ?_
                        refine q_get (C := R_Prs) (T := T_Prs) (N := 5) hx hb hts (fun w h => gm (inT_Prs w h)) hown hK hZ (34) (by decide) hPr.1 rfl 4 (by decide) (hts _ (gm k_86)) (fun _ h9 => h9) rfl d_Prs_align_185 ?_
                        refine lv_iconst (v := (nI 1)) hx hb d_Prs_align_188 rfl ?_
                        refine lv_iadd hx hb d_Prs_align_189 ?_
                        refine q_topi (y := nI (d + 1)) (nI_add _ _) ?_
                        refine q_put (C := R_Prs) (T := T_Prs) (N := 5) (ty := .int) (v := .int (nI (d + 1))) hx hb hts (fun w h => gm (inT_Prs w h)) ty_Prs tyo_Prs nm_Prs hown hK hZ (34) (by decide) hPr.1 rfl 4 (by decide) (hts _ (gm k_86)) (fun _ h9 => h9) rfl (by decide +kernel) (rfl) (rfl) (Nat.le_of_ble_eq_true rfl) d_Prs_align_190 (fun H locs hZ => ?_)
                        have hPr := hPr.upC (c' := (d + 1)) (by omega)
                        have hA := hA.off (x := 34) (e := .inr (1, [.ref (ad 35), .ref (ad 36), .ref (ad 37), .ref (ad 38), .int (nI (d + 1))])) (by have := bb_r hka; omega)
                        have hB := hB.off (x := 34) (e := .inr (1, [.ref (ad 35), .ref (ad 36), .ref (ad 37), .ref (ad 38), .int (nI (d + 1))])) (by have := bb_r hkb; omega)
                        have hfr := fr_up (x := 34) (e := .inr (1, [.ref (ad 35), .ref (ad 36), .ref (ad 37), .ref (ad 38), .int (nI (d + 1))])) hfr (by omega) (by omega)
                        have hZ : sZ (dC, dI) vCl 52 ad (fun q => N0 ≤ q) s.heap (va_up w22 34 (.inr (1, [.ref (ad 35), .ref (ad 36), .ref (ad 37), .ref (ad 38), .int (nI (d + 1))]))) H locs := hZ
                        generalize va_up w22 34 (.inr (1, [.ref (ad 35), .ref (ad 36), .ref (ad 37), .ref (ad 38), .int (nI (d + 1))])) = w23 at hZ hPr hfr hA hB
                        refine lv_goto (tgt := 10) hx hb d_Prs_align_193 (by decide) ?_
                        have hlt : ∀ t, t < d → kk P N t < kv (Pa i) (Na i) := fun t ht => (hM.2.2.2.1 t ht).1 hiz
                        have hM := mG_step (i' := i + 1) (j' := j + 0) (lv := Aa i) (rv := 0) hM hlt (hCa.2.2.2 i hiz) (mG_no hCb.2.1 hCb.2.2.1 hM.2.2.2.2.2 hlt hjk).symm (Or.inr ⟨rfl, hiz, rfl⟩) (Or.inl rfl) (by omega) (fun y => hCa.2.1 i (i + 1) (by omega) y) (fun y => hjk y)
                        exact ih10 (i + 1) (j + 0) (d + 1) _ _ _ _ w23 _ _ _ (by omega) hA hB hPr hfr hM hZ (lv_sub hl [1, 0, 5, 6, 7] rfl)
                      · skip
                        exact absurd hrs h172
                  · skip
                    exact absurd hrs h140
          · skip
            obtain ⟨hrs, hc⟩ := hc
            obtain ⟨hiz, hjz, heq⟩ := hc
            refine lv_istore (lv' := [(5, .int r), (3, .int (nI i)), (4, .int (nI j)), (0, .ref (ad 34)), (1, .ref (ad (bb ka))), (2, .ref (ad (bb kb)))]) hx hb d_Prs_align_45 hl (by decide) rfl (fun ls hl => ?_)
            refine lv_iload hx hb d_Prs_align_47 (lv_at hl 0 rfl) ?_
            refine lv_if_gt (tgt := 56) hx hb d_Prs_align_49 (by decide) (fun h49 => ?_) (fun h49 => ?_)
            · skip
              exact absurd h49 (i32_n0g hrs)
            · skip
              refine lv_aload_n hx hb d_Prs_align_52 rfl (lv_at hl 4 rfl) ?_
              refine lv_goto (tgt := 57) hx hb d_Prs_align_53 (by decide) ?_
              refine lv_astore (lv' := [(6, .ref (ad (bb ka))), (5, .int r), (3, .int (nI i)), (4, .int (nI j)), (0, .ref (ad 34)), (1, .ref (ad (bb ka))), (2, .ref (ad (bb kb)))]) hx hb d_Prs_align_57 hl (by decide) rfl (fun ls hl => ?_)
              refine lv_iload hx hb d_Prs_align_59 (lv_at hl 1 rfl) ?_
              refine lv_if_gt (tgt := 68) hx hb d_Prs_align_61 (by decide) (fun h61 => ?_) (fun h61 => ?_)
              · skip
                exact absurd h61 (i32_n0g hrs)
              · skip
                refine lv_iload_n hx hb d_Prs_align_64 rfl (lv_at hl 2 rfl) ?_
                refine lv_goto (tgt := 70) hx hb d_Prs_align_65 (by decide) ?_
                refine lv_istore (lv' := [(7, .int (nI i)), (6, .ref (ad (bb ka))), (5, .int r), (3, .int (nI i)), (4, .int (nI j)), (0, .ref (ad 34)), (1, .ref (ad (bb ka))), (2, .ref (ad (bb kb)))]) hx hb d_Prs_align_70 hl (by decide) rfl (fun ls hl => ?_)
                refine lv_aload_n hx hb d_Prs_align_72 rfl (lv_at hl 5 rfl) ?_
                refine q_get (C := R_Prs) (T := T_Prs) (N := 5) hx hb hts (fun w h => gm (inT_Prs w h)) hown hK hZ (34) (by decide) hPr.1 rfl 0 (by decide) (hts _ (gm k_78)) (fun _ h9 => h9) rfl d_Prs_align_73 ?_
                refine lv_aload_n hx hb d_Prs_align_76 rfl (lv_at hl 5 rfl) ?_
                refine q_get (C := R_Prs) (T := T_Prs) (N := 5) hx hb hts (fun w h => gm (inT_Prs w h)) hown hK hZ (34) (by decide) hPr.1 rfl 4 (by decide) (hts _ (gm k_86)) (fun _ h9 => h9) rfl d_Prs_align_77 ?_
                refine lv_aload hx hb d_Prs_align_80 (lv_at hl 1 rfl) ?_
                refine q_get (C := R_Bag) (T := T_Bag) (N := 4) hx hb hts (fun w h => gm (inT_Bag w h)) hown hK hZ (bb ka) (by have := bb_r hka; omega) hA.1 rfl 0 (by decide) (hts _ (gm k_50)) (fun _ h9 => h9) rfl d_Prs_align_82 ?_
                refine lv_iload hx hb d_Prs_align_85 (lv_at hl 0 rfl) ?_
                refine q_iald hx hb hK hZ (bb ka + 1) 0 (i) (by have := bb_r hka; omega) hA.2.1 rfl rfl (by omega) (by decide) d_Prs_align_87 ?_
                refine q_iast hx hb hK hZ (35) 0 (d) (by decide) hPr.2.1 rfl rfl (by omega) (by decide) d_Prs_align_88 (fun H locs hZ => ?_)
                have hPr := hPr.upP ((upd P d (Pa i)))
                have hA := hA.off (x := 35) (e := .inl (cI, 128, .inl (upd P d (Pa i)))) (by have := bb_r hka; omega)
                have hB := hB.off (x := 35) (e := .inl (cI, 128, .inl (upd P d (Pa i)))) (by have := bb_r hkb; omega)
                have hfr := fr_up (x := 35) (e := .inl (cI, 128, .inl (upd P d (Pa i)))) hfr (by omega) (by omega)
                have hZ : sZ (dC, dI) vCl 52 ad (fun q => N0 ≤ q) s.heap (va_up u 35 (.inl (cI, 128, .inl (upd P d (Pa i))))) H locs := hZ
                generalize va_up u 35 (.inl (cI, 128, .inl (upd P d (Pa i)))) = w24 at hZ hPr hfr hA hB
                refine lv_aload_n hx hb d_Prs_align_89 rfl (lv_at hl 5 rfl) ?_
                refine q_get (C := R_Prs) (T := T_Prs) (N := 5) hx hb hts (fun w h => gm (inT_Prs w h)) hown hK hZ (34) (by decide) hPr.1 rfl 1 (by decide) (hts _ (gm k_80)) (fun _ h9 => h9) rfl d_Prs_align_90 ?_
                refine lv_aload_n hx hb d_Prs_align_93 rfl (lv_at hl 5 rfl) ?_
                refine q_get (C := R_Prs) (T := T_Prs) (N := 5) hx hb hts (fun w h => gm (inT_Prs w h)) hown hK hZ (34) (by decide) hPr.1 rfl 4 (by decide) (hts _ (gm k_86)) (fun _ h9 => h9) rfl d_Prs_align_94 ?_
                refine lv_aload hx hb d_Prs_align_97 (lv_at hl 1 rfl) ?_
                refine q_get (C := R_Bag) (T := T_Bag) (N := 4) hx hb hts (fun w h => gm (inT_Bag w h)) hown hK hZ (bb ka) (by have := bb_r hka; omega) hA.1 rfl 1 (by decide) (hts _ (gm k_53)) (fun _ h9 => h9) rfl d_Prs_align_99 ?_
                refine lv_iload hx hb d_Prs_align_102 (lv_at hl 0 rfl) ?_
                refine q_lald hx hb hK hZ (bb ka + 2) 1 (i) (by have := bb_r hka; omega) hA.2.2.1 rfl rfl (by omega) (by decide) d_Prs_align_104 ?_
                refine q_last hx hb hK hZ (36) 1 (d) (by decide) hPr.2.2.1 rfl rfl (by omega) (by decide) d_Prs_align_105 (fun H locs hZ => ?_)
                have hPr := hPr.upN ((vp_updL N d (Na i)))
                have hA := hA.off (x := 36) (e := .inl (cL, 128, .inr (.inl (vp_updL N d (Na i))))) (by have := bb_r hka; omega)
                have hB := hB.off (x := 36) (e := .inl (cL, 128, .inr (.inl (vp_updL N d (Na i))))) (by have := bb_r hkb; omega)
                have hfr := fr_up (x := 36) (e := .inl (cL, 128, .inr (.inl (vp_updL N d (Na i))))) hfr (by omega) (by omega)
                have hZ : sZ (dC, dI) vCl 52 ad (fun q => N0 ≤ q) s.heap (va_up w24 36 (.inl (cL, 128, .inr (.inl (vp_updL N d (Na i)))))) H locs := hZ
                generalize va_up w24 36 (.inl (cL, 128, .inr (.inl (vp_updL N d (Na i))))) = w25 at hZ hPr hfr hA hB
                refine lv_aload_n hx hb d_Prs_align_106 rfl (lv_at hl 5 rfl) ?_
                refine q_get (C := R_Prs) (T := T_Prs) (N := 5) hx hb hts (fun w h => gm (inT_Prs w h)) hown hK hZ (34) (by decide) hPr.1 rfl 2 (by decide) (hts _ (gm k_82)) (fun _ h9 => h9) rfl d_Prs_align_107 ?_
                refine lv_aload_n hx hb d_Prs_align_110 rfl (lv_at hl 5 rfl) ?_
                refine q_get (C := R_Prs) (T := T_Prs) (N := 5) hx hb hts (fun w h => gm (inT_Prs w h)) hown hK hZ (34) (by decide) hPr.1 rfl 4 (by decide) (hts _ (gm k_86)) (fun _ h9 => h9) rfl d_Prs_align_111 ?_
                refine lv_iload hx hb d_Prs_align_114 (lv_at hl 2 rfl) ?_
                refine lv_if_gt (tgt := 128) hx hb d_Prs_align_116 (by decide) (fun h116 => ?_) (fun h116 => ?_)
                · skip
                  exact absurd h116 (i32_n0g hrs)
                · skip
                  refine lv_aload_n hx hb d_Prs_align_119 rfl (lv_at hl 6 rfl) ?_
                  refine q_get (C := R_Bag) (T := T_Bag) (N := 4) hx hb hts (fun w h => gm (inT_Bag w h)) hown hK hZ (bb ka) (by have := bb_r hka; omega) hA.1 rfl 2 (by decide) (hts _ (gm k_56)) (fun _ h9 => h9) rfl d_Prs_align_120 ?_
                  refine lv_iload_n hx hb d_Prs_align_123 rfl (lv_at hl 3 rfl) ?_
                  refine q_lald hx hb hK hZ (bb ka + 3) 1 (i) (by have := bb_r hka; omega) hA.2.2.2.1 rfl rfl (by omega) (by decide) d_Prs_align_124 ?_
                  refine lv_goto (tgt := 129) hx hb d_Prs_align_125 (by decide) ?_
                  refine q_last hx hb hK hZ (37) 1 (d) (by decide) hPr.2.2.2.1 rfl rfl (by omega) (by decide) d_Prs_align_129 (fun H locs hZ => ?_)
                  have hPr := hPr.upL ((vp_updL L d (Aa i)))
                  have hA := hA.off (x := 37) (e := .inl (cL, 128, .inr (.inl (vp_updL L d (Aa i))))) (by have := bb_r hka; omega)
                  have hB := hB.off (x := 37) (e := .inl (cL, 128, .inr (.inl (vp_updL L d (Aa i))))) (by have := bb_r hkb; omega)
                  have hfr := fr_up (x := 37) (e := .inl (cL, 128, .inr (.inl (vp_updL L d (Aa i))))) hfr (by omega) (by omega)
                  have hZ : sZ (dC, dI) vCl 52 ad (fun q => N0 ≤ q) s.heap (va_up w25 37 (.inl (cL, 128, .inr (.inl (vp_updL L d (Aa i)))))) H locs := hZ
                  generalize va_up w25 37 (.inl (cL, 128, .inr (.inl (vp_updL L d (Aa i))))) = w26 at hZ hPr hfr hA hB
                  refine lv_aload_n hx hb d_Prs_align_130 rfl (lv_at hl 5 rfl) ?_
                  refine q_get (C := R_Prs) (T := T_Prs) (N := 5) hx hb hts (fun w h => gm (inT_Prs w h)) hown hK hZ (34) (by decide) hPr.1 rfl 3 (by decide) (hts _ (gm k_84)) (fun _ h9 => h9) rfl d_Prs_align_131 ?_
                  refine lv_aload_n hx hb d_Prs_align_134 rfl (lv_at hl 5 rfl) ?_
                  refine q_get (C := R_Prs) (T := T_Prs) (N := 5) hx hb hts (fun w h => gm (inT_Prs w h)) hown hK hZ (34) (by decide) hPr.1 rfl 4 (by decide) (hts _ (gm k_86)) (fun _ h9 => h9) rfl d_Prs_align_135 ?_
                  refine lv_iload hx hb d_Prs_align_138 (lv_at hl 2 rfl) ?_
                  refine lv_if_lt (tgt := 153) hx hb d_Prs_align_140 (by decide) (fun h140 => ?_) (fun h140 => ?_)
                  · skip
                    exact absurd h140 (i32_n0l hrs)
                  · skip
                    refine lv_aload_n hx hb d_Prs_align_143 rfl (lv_at hl 7 rfl) ?_
                    refine q_get (C := R_Bag) (T := T_Bag) (N := 4) hx hb hts (fun w h => gm (inT_Bag w h)) hown hK hZ (bb kb) (by have := bb_r hkb; omega) hB.1 rfl 2 (by decide) (hts _ (gm k_56)) (fun _ h9 => h9) rfl d_Prs_align_144 ?_
                    refine lv_iload hx hb d_Prs_align_147 (lv_at hl 4 rfl) ?_
                    refine q_lald hx hb hK hZ (bb kb + 3) 1 (j) (by have := bb_r hkb; omega) hB.2.2.2.1 rfl rfl (by omega) (by decide) d_Prs_align_149 ?_
                    refine lv_goto (tgt := 154) hx hb d_Prs_align_150 (by decide) ?_
                    refine q_last hx hb hK hZ (38) 1 (d) (by decide) hPr.2.2.2.2.1 rfl rfl (by omega) (by decide) d_Prs_align_154 (fun H locs hZ => ?_)
                    have hPr := hPr.upR ((vp_updL R d (Ab j)))
                    have hA := hA.off (x := 38) (e := .inl (cL, 128, .inr (.inl (vp_updL R d (Ab j))))) (by have := bb_r hka; omega)
                    have hB := hB.off (x := 38) (e := .inl (cL, 128, .inr (.inl (vp_updL R d (Ab j))))) (by have := bb_r hkb; omega)
                    have hfr := fr_up (x := 38) (e := .inl (cL, 128, .inr (.inl (vp_updL R d (Ab j))))) hfr (by omega) (by omega)
                    have hZ : sZ (dC, dI) vCl 52 ad (fun q => N0 ≤ q) s.heap (va_up w26 38 (.inl (cL, 128, .inr (.inl (vp_updL R d (Ab j)))))) H locs := hZ
                    generalize va_up w26 38 (.inl (cL, 128, .inr (.inl (vp_updL R d (Ab j))))) = w27 at hZ hPr hfr hA hB
                    refine lv_iload_n hx hb d_Prs_align_155 rfl (lv_at hl 3 rfl) ?_
                    refine lv_iload hx hb d_Prs_align_156 (lv_at hl 2 rfl) ?_
                    refine lv_if_gt (tgt := 165) hx hb d_Prs_align_158 (by decide) (fun h158 => ?_) (fun h158 => ?_)
                    · skip
                      exact absurd h158 (i32_n0g hrs)
                    · skip
                      refine lv_iconst (v := (nI 1)) hx hb d_Prs_align_161 rfl ?_
                      refine lv_goto (tgt := 166) hx hb d_Prs_align_162 (by decide) ?_
                      refine lv_iadd hx hb d_Prs_align_166 ?_
                      refine q_topi (y := nI (i + 1)) (nI_add _ _) ?_
                      refine lv_istore_n (lv' := [(3, .int (nI (i + 1))), (7, .int (nI i)), (6, .ref (ad (bb ka))), (5, .int r), (4, .int (nI j)), (0, .ref (ad 34)), (1, .ref (ad (bb ka))), (2, .ref (ad (bb kb)))]) hx hb d_Prs_align_167 rfl hl (by decide) rfl (fun ls hl => ?_)
                      refine lv_iload hx hb d_Prs_align_168 (lv_at hl 4 rfl) ?_
                      refine lv_iload hx hb d_Prs_align_170 (lv_at hl 3 rfl) ?_
                      refine lv_if_lt (tgt := 179) hx hb d_Prs_align_172 (by decide) (fun h172 => ?_) (fun h172 => ?_)
                      · skip
                        exact absurd h172 (i32_n0l hrs)
                      · skip
                        refine lv_iconst (v := (nI 1)) hx hb d_Prs_align_175 rfl ?_
                        refine lv_goto (tgt := 180) hx hb d_Prs_align_176 (by decide) ?_
                        refine lv_iadd hx hb d_Prs_align_180 ?_
                        refine q_topi (y := nI (j + 1)) (nI_add _ _) ?_
                        refine lv_istore (lv' := [(4, .int (nI (j + 1))), (3, .int (nI (i + 1))), (7, .int (nI i)), (6, .ref (ad (bb ka))), (5, .int r), (0, .ref (ad 34)), (1, .ref (ad (bb ka))), (2, .ref (ad (bb kb)))]) hx hb d_Prs_align_181 hl (by decide) rfl (fun ls hl => ?_)
                        refine lv_aload_n hx hb d_Prs_align_183 rfl (lv_at hl 5 rfl) ?_
                        refine lv_dup hx hb d_Prs_align_184 rfl ?_
                        refine q_get (C := R_Prs) (T := T_Prs) (N := 5) hx hb hts (fun w h => gm (inT_Prs w h)) hown hK hZ (34) (by decide) hPr.1 rfl 4 (by decide) (hts _ (gm k_86)) (fun _ h9 => h9) rfl d_Prs_align_185 ?_
                        refine lv_iconst (v := (nI 1)) hx hb d_Prs_align_188 rfl ?_
                        refine lv_iadd hx hb d_Prs_align_189 ?_
                        refine q_topi (y := nI (d + 1)) (nI_add _ _) ?_
                        refine q_put (C := R_Prs) (T := T_Prs) (N := 5) (ty := .int) (v := .int (nI (d + 1))) hx hb hts (fun w h => gm (inT_Prs w h)) ty_Prs tyo_Prs nm_Prs hown hK hZ (34) (by decide) hPr.1 rfl 4 (by decide) (hts _ (gm k_86)) (fun _ h9 => h9) rfl (by decide +kernel) (rfl) (rfl) (Nat.le_of_ble_eq_true rfl) d_Prs_align_190 (fun H locs hZ => ?_)
                        have hPr := hPr.upC (c' := (d + 1)) (by omega)
                        have hA := hA.off (x := 34) (e := .inr (1, [.ref (ad 35), .ref (ad 36), .ref (ad 37), .ref (ad 38), .int (nI (d + 1))])) (by have := bb_r hka; omega)
                        have hB := hB.off (x := 34) (e := .inr (1, [.ref (ad 35), .ref (ad 36), .ref (ad 37), .ref (ad 38), .int (nI (d + 1))])) (by have := bb_r hkb; omega)
                        have hfr := fr_up (x := 34) (e := .inr (1, [.ref (ad 35), .ref (ad 36), .ref (ad 37), .ref (ad 38), .int (nI (d + 1))])) hfr (by omega) (by omega)
                        have hZ : sZ (dC, dI) vCl 52 ad (fun q => N0 ≤ q) s.heap (va_up w27 34 (.inr (1, [.ref (ad 35), .ref (ad 36), .ref (ad 37), .ref (ad 38), .int (nI (d + 1))]))) H locs := hZ
                        generalize va_up w27 34 (.inr (1, [.ref (ad 35), .ref (ad 36), .ref (ad 37), .ref (ad 38), .int (nI (d + 1))])) = w28 at hZ hPr hfr hA hB
                        refine lv_goto (tgt := 10) hx hb d_Prs_align_193 (by decide) ?_
                        have hlt : ∀ t, t < d → kk P N t < kv (Pa i) (Na i) := fun t ht => (hM.2.2.2.1 t ht).1 hiz
                        have hM := mG_step (i' := i + 1) (j' := j + 1) (lv := Aa i) (rv := Ab j) hM hlt (hCa.2.2.2 i hiz) (by rw [hCb.2.2.2 j hjz, ← heq]; rfl) (Or.inr ⟨rfl, hiz, rfl⟩) (Or.inr ⟨rfl, hjz, heq.symm⟩) (by omega) (fun y => hCa.2.1 i (i + 1) (by omega) y) (fun y => by have h9 := hCb.2.1 j (j + 1) (by omega) y; rw [← heq] at h9; exact h9)
                        exact ih10 (i + 1) (j + 1) (d + 1) _ _ _ _ w28 _ _ _ (by omega) hA hB hPr hfr hM hZ (lv_sub hl [1, 0, 5, 6, 7] rfl)
          · skip
            obtain ⟨hrs, hc⟩ := hc
            obtain ⟨hjz, hik⟩ := hc
            refine lv_istore (lv' := [(5, .int r), (3, .int (nI i)), (4, .int (nI j)), (0, .ref (ad 34)), (1, .ref (ad (bb ka))), (2, .ref (ad (bb kb)))]) hx hb d_Prs_align_45 hl (by decide) rfl (fun ls hl => ?_)
            refine lv_iload hx hb d_Prs_align_47 (lv_at hl 0 rfl) ?_
            refine lv_if_gt (tgt := 56) hx hb d_Prs_align_49 (by decide) (fun h49 => ?_) (fun h49 => ?_)
            · skip
              refine lv_aload_n hx hb d_Prs_align_56 rfl (lv_at hl 5 rfl) ?_
              refine lv_astore (lv' := [(6, .ref (ad (bb kb))), (5, .int r), (3, .int (nI i)), (4, .int (nI j)), (0, .ref (ad 34)), (1, .ref (ad (bb ka))), (2, .ref (ad (bb kb)))]) hx hb d_Prs_align_57 hl (by decide) rfl (fun ls hl => ?_)
              refine lv_iload hx hb d_Prs_align_59 (lv_at hl 1 rfl) ?_
              refine lv_if_gt (tgt := 68) hx hb d_Prs_align_61 (by decide) (fun h61 => ?_) (fun h61 => ?_)
              · skip
                refine lv_iload hx hb d_Prs_align_68 (lv_at hl 3 rfl) ?_
                refine lv_istore (lv' := [(7, .int (nI j)), (6, .ref (ad (bb kb))), (5, .int r), (3, .int (nI i)), (4, .int (nI j)), (0, .ref (ad 34)), (1, .ref (ad (bb ka))), (2, .ref (ad (bb kb)))]) hx hb d_Prs_align_70 hl (by decide) rfl (fun ls hl => ?_)
                refine lv_aload_n hx hb d_Prs_align_72 rfl (lv_at hl 5 rfl) ?_
                refine q_get (C := R_Prs) (T := T_Prs) (N := 5) hx hb hts (fun w h => gm (inT_Prs w h)) hown hK hZ (34) (by decide) hPr.1 rfl 0 (by decide) (hts _ (gm k_78)) (fun _ h9 => h9) rfl d_Prs_align_73 ?_
                refine lv_aload_n hx hb d_Prs_align_76 rfl (lv_at hl 5 rfl) ?_
                refine q_get (C := R_Prs) (T := T_Prs) (N := 5) hx hb hts (fun w h => gm (inT_Prs w h)) hown hK hZ (34) (by decide) hPr.1 rfl 4 (by decide) (hts _ (gm k_86)) (fun _ h9 => h9) rfl d_Prs_align_77 ?_
                refine lv_aload hx hb d_Prs_align_80 (lv_at hl 1 rfl) ?_
                refine q_get (C := R_Bag) (T := T_Bag) (N := 4) hx hb hts (fun w h => gm (inT_Bag w h)) hown hK hZ (bb kb) (by have := bb_r hkb; omega) hB.1 rfl 0 (by decide) (hts _ (gm k_50)) (fun _ h9 => h9) rfl d_Prs_align_82 ?_
                refine lv_iload hx hb d_Prs_align_85 (lv_at hl 0 rfl) ?_
                refine q_iald hx hb hK hZ (bb kb + 1) 0 (j) (by have := bb_r hkb; omega) hB.2.1 rfl rfl (by omega) (by decide) d_Prs_align_87 ?_
                refine q_iast hx hb hK hZ (35) 0 (d) (by decide) hPr.2.1 rfl rfl (by omega) (by decide) d_Prs_align_88 (fun H locs hZ => ?_)
                have hPr := hPr.upP ((upd P d (Pb j)))
                have hA := hA.off (x := 35) (e := .inl (cI, 128, .inl (upd P d (Pb j)))) (by have := bb_r hka; omega)
                have hB := hB.off (x := 35) (e := .inl (cI, 128, .inl (upd P d (Pb j)))) (by have := bb_r hkb; omega)
                have hfr := fr_up (x := 35) (e := .inl (cI, 128, .inl (upd P d (Pb j)))) hfr (by omega) (by omega)
                have hZ : sZ (dC, dI) vCl 52 ad (fun q => N0 ≤ q) s.heap (va_up u 35 (.inl (cI, 128, .inl (upd P d (Pb j))))) H locs := hZ
                generalize va_up u 35 (.inl (cI, 128, .inl (upd P d (Pb j)))) = w29 at hZ hPr hfr hA hB
                refine lv_aload_n hx hb d_Prs_align_89 rfl (lv_at hl 5 rfl) ?_
                refine q_get (C := R_Prs) (T := T_Prs) (N := 5) hx hb hts (fun w h => gm (inT_Prs w h)) hown hK hZ (34) (by decide) hPr.1 rfl 1 (by decide) (hts _ (gm k_80)) (fun _ h9 => h9) rfl d_Prs_align_90 ?_
                refine lv_aload_n hx hb d_Prs_align_93 rfl (lv_at hl 5 rfl) ?_
                refine q_get (C := R_Prs) (T := T_Prs) (N := 5) hx hb hts (fun w h => gm (inT_Prs w h)) hown hK hZ (34) (by decide) hPr.1 rfl 4 (by decide) (hts _ (gm k_86)) (fun _ h9 => h9) rfl d_Prs_align_94 ?_
                refine lv_aload hx hb d_Prs_align_97 (lv_at hl 1 rfl) ?_
                refine q_get (C := R_Bag) (T := T_Bag) (N := 4) hx hb hts (fun w h => gm (inT_Bag w h)) hown hK hZ (bb kb) (by have := bb_r hkb; omega) hB.1 rfl 1 (by decide) (hts _ (gm k_53)) (fun _ h9 => h9) rfl d_Prs_align_99 ?_
                refine lv_iload hx hb d_Prs_align_102 (lv_at hl 0 rfl) ?_
                refine q_lald hx hb hK hZ (bb kb + 2) 1 (j) (by have := bb_r hkb; omega) hB.2.2.1 rfl rfl (by omega) (by decide) d_Prs_align_104 ?_
                refine q_last hx hb hK hZ (36) 1 (d) (by decide) hPr.2.2.1 rfl rfl (by omega) (by decide) d_Prs_align_105 (fun H locs hZ => ?_)
                have hPr := hPr.upN ((vp_updL N d (Nb j)))
                have hA := hA.off (x := 36) (e := .inl (cL, 128, .inr (.inl (vp_updL N d (Nb j))))) (by have := bb_r hka; omega)
                have hB := hB.off (x := 36) (e := .inl (cL, 128, .inr (.inl (vp_updL N d (Nb j))))) (by have := bb_r hkb; omega)
                have hfr := fr_up (x := 36) (e := .inl (cL, 128, .inr (.inl (vp_updL N d (Nb j))))) hfr (by omega) (by omega)
                have hZ : sZ (dC, dI) vCl 52 ad (fun q => N0 ≤ q) s.heap (va_up w29 36 (.inl (cL, 128, .inr (.inl (vp_updL N d (Nb j)))))) H locs := hZ
                generalize va_up w29 36 (.inl (cL, 128, .inr (.inl (vp_updL N d (Nb j))))) = w30 at hZ hPr hfr hA hB
                refine lv_aload_n hx hb d_Prs_align_106 rfl (lv_at hl 5 rfl) ?_
                refine q_get (C := R_Prs) (T := T_Prs) (N := 5) hx hb hts (fun w h => gm (inT_Prs w h)) hown hK hZ (34) (by decide) hPr.1 rfl 2 (by decide) (hts _ (gm k_82)) (fun _ h9 => h9) rfl d_Prs_align_107 ?_
                refine lv_aload_n hx hb d_Prs_align_110 rfl (lv_at hl 5 rfl) ?_
                refine q_get (C := R_Prs) (T := T_Prs) (N := 5) hx hb hts (fun w h => gm (inT_Prs w h)) hown hK hZ (34) (by decide) hPr.1 rfl 4 (by decide) (hts _ (gm k_86)) (fun _ h9 => h9) rfl d_Prs_align_111 ?_
                refine lv_iload hx hb d_Prs_align_114 (lv_at hl 2 rfl) ?_
                refine lv_if_gt (tgt := 128) hx hb d_Prs_align_116 (by decide) (fun h116 => ?_) (fun h116 => ?_)
                · skip
                  refine lv_lconst (v := 0) hx hb d_Prs_align_128 rfl ?_
                  refine q_last hx hb hK hZ (37) 1 (d) (by decide) hPr.2.2.2.1 rfl rfl (by omega) (by decide) d_Prs_align_129 (fun H locs hZ => ?_)
                  have hPr := hPr.upL ((vp_updL L d 0))
                  have hA := hA.off (x := 37) (e := .inl (cL, 128, .inr (.inl (vp_updL L d 0)))) (by have := bb_r hka; omega)
                  have hB := hB.off (x := 37) (e := .inl (cL, 128, .inr (.inl (vp_updL L d 0)))) (by have := bb_r hkb; omega)
                  have hfr := fr_up (x := 37) (e := .inl (cL, 128, .inr (.inl (vp_updL L d 0)))) hfr (by omega) (by omega)
                  have hZ : sZ (dC, dI) vCl 52 ad (fun q => N0 ≤ q) s.heap (va_up w30 37 (.inl (cL, 128, .inr (.inl (vp_updL L d 0))))) H locs := hZ
                  generalize va_up w30 37 (.inl (cL, 128, .inr (.inl (vp_updL L d 0)))) = w31 at hZ hPr hfr hA hB
                  refine lv_aload_n hx hb d_Prs_align_130 rfl (lv_at hl 5 rfl) ?_
                  refine q_get (C := R_Prs) (T := T_Prs) (N := 5) hx hb hts (fun w h => gm (inT_Prs w h)) hown hK hZ (34) (by decide) hPr.1 rfl 3 (by decide) (hts _ (gm k_84)) (fun _ h9 => h9) rfl d_Prs_align_131 ?_
                  refine lv_aload_n hx hb d_Prs_align_134 rfl (lv_at hl 5 rfl) ?_
                  refine q_get (C := R_Prs) (T := T_Prs) (N := 5) hx hb hts (fun w h => gm (inT_Prs w h)) hown hK hZ (34) (by decide) hPr.1 rfl 4 (by decide) (hts _ (gm k_86)) (fun _ h9 => h9) rfl d_Prs_align_135 ?_
                  refine lv_iload hx hb d_Prs_align_138 (lv_at hl 2 rfl) ?_
                  refine lv_if_lt (tgt := 153) hx hb d_Prs_align_140 (by decide) (fun h140 => ?_) (fun h140 => ?_)
                  · skip
                    exact absurd h140 (i32_nl hrs)
                  · skip
                    refine lv_aload_n hx hb d_Prs_align_143 rfl (lv_at hl 7 rfl) ?_
                    refine q_get (C := R_Bag) (T := T_Bag) (N := 4) hx hb hts (fun w h => gm (inT_Bag w h)) hown hK hZ (bb kb) (by have := bb_r hkb; omega) hB.1 rfl 2 (by decide) (hts _ (gm k_56)) (fun _ h9 => h9) rfl d_Prs_align_144 ?_
                    refine lv_iload hx hb d_Prs_align_147 (lv_at hl 4 rfl) ?_
                    refine q_lald hx hb hK hZ (bb kb + 3) 1 (j) (by have := bb_r hkb; omega) hB.2.2.2.1 rfl rfl (by omega) (by decide) d_Prs_align_149 ?_
                    refine lv_goto (tgt := 154) hx hb d_Prs_align_150 (by decide) ?_
                    refine q_last hx hb hK hZ (38) 1 (d) (by decide) hPr.2.2.2.2.1 rfl rfl (by omega) (by decide) d_Prs_align_154 (fun H locs hZ => ?_)
                    have hPr := hPr.upR ((vp_updL R d (Ab j)))
                    have hA := hA.off (x := 38) (e := .inl (cL, 128, .inr (.inl (vp_updL R d (Ab j))))) (by have := bb_r hka; omega)
                    have hB := hB.off (x := 38) (e := .inl (cL, 128, .inr (.inl (vp_updL R d (Ab j))))) (by have := bb_r hkb; omega)
                    have hfr := fr_up (x := 38) (e := .inl (cL, 128, .inr (.inl (vp_updL R d (Ab j))))) hfr (by omega) (by omega)
                    have hZ : sZ (dC, dI) vCl 52 ad (fun q => N0 ≤ q) s.heap (va_up w31 38 (.inl (cL, 128, .inr (.inl (vp_updL R d (Ab j)))))) H locs := hZ
                    generalize va_up w31 38 (.inl (cL, 128, .inr (.inl (vp_updL R d (Ab j))))) = w32 at hZ hPr hfr hA hB
                    refine lv_iload_n hx hb d_Prs_align_155 rfl (lv_at hl 3 rfl) ?_
                    refine lv_iload hx hb d_Prs_align_156 (lv_at hl 2 rfl) ?_
                    refine lv_if_gt (tgt := 165) hx hb d_Prs_align_158 (by decide) (fun h158 => ?_) (fun h158 => ?_)
                    · skip
                      refine lv_iconst (v := (nI 0)) hx hb d_Prs_align_165 rfl ?_
                      refine lv_iadd hx hb d_Prs_align_166 ?_
                      refine q_topi (y := nI (i + 0)) (nI_add _ _) ?_
                      refine lv_istore_n (lv' := [(3, .int (nI (i + 0))), (7, .int (nI j)), (6, .ref (ad (bb kb))), (5, .int r), (4, .int (nI j)), (0, .ref (ad 34)), (1, .ref (ad (bb ka))), (2, .ref (ad (bb kb)))]) hx hb d_Prs_align_167 rfl hl (by decide) rfl (fun ls hl => ?_)
                      refine lv_iload hx hb d_Prs_align_168 (lv_at hl 4 rfl) ?_
                      refine lv_iload hx hb d_Prs_align_170 (lv_at hl 3 rfl) ?_
                      refine lv_if_lt (tgt := 179) hx hb d_Prs_align_172 (by decide) (fun h172 => ?_) (fun h172 => ?_)
                      · skip
                        exact absurd h172 (i32_nl hrs)
                      · skip
                        refine lv_iconst (v := (nI 1)) hx hb d_Prs_align_175 rfl ?_
                        refine lv_goto (tgt := 180) hx hb d_Prs_align_176 (by decide) ?_
                        refine lv_iadd hx hb d_Prs_align_180 ?_
                        refine q_topi (y := nI (j + 1)) (nI_add _ _) ?_
                        refine lv_istore (lv' := [(4, .int (nI (j + 1))), (3, .int (nI (i + 0))), (7, .int (nI j)), (6, .ref (ad (bb kb))), (5, .int r), (0, .ref (ad 34)), (1, .ref (ad (bb ka))), (2, .ref (ad (bb kb)))]) hx hb d_Prs_align_181 hl (by decide) rfl (fun ls hl => ?_)
                        refine lv_aload_n hx hb d_Prs_align_183 rfl (lv_at hl 5 rfl) ?_
                        refine lv_dup hx hb d_Prs_align_184 rfl ?_
                        refine q_get (C := R_Prs) (T := T_Prs) (N := 5) hx hb hts (fun w h => gm (inT_Prs w h)) hown hK hZ (34) (by decide) hPr.1 rfl 4 (by decide) (hts _ (gm k_86)) (fun _ h9 => h9) rfl d_Prs_align_185 ?_
                        refine lv_iconst (v := (nI 1)) hx hb d_Prs_align_188 rfl ?_
                        refine lv_iadd hx hb d_Prs_align_189 ?_
                        refine q_topi (y := nI (d + 1)) (nI_add _ _) ?_
                        refine q_put (C := R_Prs) (T := T_Prs) (N := 5) (ty := .int) (v := .int (nI (d + 1))) hx hb hts (fun w h => gm (inT_Prs w h)) ty_Prs tyo_Prs nm_Prs hown hK hZ (34) (by decide) hPr.1 rfl 4 (by decide) (hts _ (gm k_86)) (fun _ h9 => h9) rfl (by decide +kernel) (rfl) (rfl) (Nat.le_of_ble_eq_true rfl) d_Prs_align_190 (fun H locs hZ => ?_)
                        have hPr := hPr.upC (c' := (d + 1)) (by omega)
                        have hA := hA.off (x := 34) (e := .inr (1, [.ref (ad 35), .ref (ad 36), .ref (ad 37), .ref (ad 38), .int (nI (d + 1))])) (by have := bb_r hka; omega)
                        have hB := hB.off (x := 34) (e := .inr (1, [.ref (ad 35), .ref (ad 36), .ref (ad 37), .ref (ad 38), .int (nI (d + 1))])) (by have := bb_r hkb; omega)
                        have hfr := fr_up (x := 34) (e := .inr (1, [.ref (ad 35), .ref (ad 36), .ref (ad 37), .ref (ad 38), .int (nI (d + 1))])) hfr (by omega) (by omega)
                        have hZ : sZ (dC, dI) vCl 52 ad (fun q => N0 ≤ q) s.heap (va_up w32 34 (.inr (1, [.ref (ad 35), .ref (ad 36), .ref (ad 37), .ref (ad 38), .int (nI (d + 1))]))) H locs := hZ
                        generalize va_up w32 34 (.inr (1, [.ref (ad 35), .ref (ad 36), .ref (ad 37), .ref (ad 38), .int (nI (d + 1))])) = w33 at hZ hPr hfr hA hB
                        refine lv_goto (tgt := 10) hx hb d_Prs_align_193 (by decide) ?_
                        have hlt : ∀ t, t < d → kk P N t < kv (Pb j) (Nb j) := fun t ht => (hM.2.2.2.1 t ht).2 hjz
                        have hM := mG_step (i' := i + 0) (j' := j + 1) (lv := 0) (rv := Ab j) hM hlt (mG_no hCa.2.1 hCa.2.2.1 hM.2.2.2.2.1 hlt hik).symm (hCb.2.2.2 j hjz) (Or.inl rfl) (Or.inr ⟨rfl, hjz, rfl⟩) (by omega) (fun y => hik y) (fun y => hCb.2.1 j (j + 1) (by omega) y)
                        exact ih10 (i + 0) (j + 1) (d + 1) _ _ _ _ w33 _ _ _ (by omega) hA hB hPr hfr hM hZ (lv_sub hl [1, 0, 5, 6, 7] rfl)
                    · skip
                      exact absurd hrs h158
                · skip
                  exact absurd hrs h116
              · skip
                exact absurd hrs h61
            · skip
              exact absurd hrs h49
        · skip
          have h25 : za ≤ i := Nat.le_of_not_lt (fun z9 => h25 ((nI_ltI (a := i) (b := za) (by omega) (by omega)).mpr z9))
          refine lv_iload hx hb d_Prs_align_28 (lv_at hl 1 rfl) ?_
          refine lv_aload_n hx hb d_Prs_align_30 rfl (lv_at hl 4 rfl) ?_
          refine q_get (C := R_Bag) (T := T_Bag) (N := 4) hx hb hts (fun w h => gm (inT_Bag w h)) hown hK hZ (bb kb) (by have := bb_r hkb; omega) hB.1 rfl 3 (by decide) (hts _ (gm k_59)) (fun _ h9 => h9) rfl d_Prs_align_31 ?_
          refine lv_icmp_ge (tgt := 196) hx hb d_Prs_align_34 (by decide) (fun h34 => ?_) (fun h34 => ?_)
          · skip
            have h34 : zb ≤ j := (nI_leI (a := zb) (b := j) (by omega) (by omega)).mp h34
            exact q_vret hx hb hr hlocks hK hAm hZ hN (⟨hfr, d, _, _, _, _, hPr, mG_end hCa.2.2.1 hCb.2.2.1 (show mG za (kk Pa Na) Fa zb (kk Pb Nb) Fb za zb d _ _ _ _ from by have q1 := hM.1; have ei : i = za := (by omega); have ej : j = zb := (by omega); rw [ei, ej] at hM; exact hM)⟩) d_Prs_align_196
          · skip
            have h34 : j < zb := Nat.lt_of_not_le (fun z9 => h34 ((nI_leI (a := zb) (b := j) (by omega) (by omega)).mpr z9))
            refine lv_aload_n hx hb d_Prs_align_37 rfl (lv_at hl 3 rfl) ?_
            refine lv_iload_n hx hb d_Prs_align_38 rfl (lv_at hl 0 rfl) ?_
            refine lv_aload_n hx hb d_Prs_align_39 rfl (lv_at hl 4 rfl) ?_
            refine lv_iload hx hb d_Prs_align_40 (lv_at hl 1 rfl) ?_
            refine q_calli (va_runS (As := [.ref (ad (bb ka)), .int (nI i), .ref (ad (bb kb)), .int (nI j)]) (rest := []) ⟨hx, hb, hml, hown, hts⟩ (c_Prs_orderOfNext l dC dI cI cL cB ad N0 u ka za Pa Na Aa kb zb Pb Nb Ab i j hka hA hkb hB (by omega) (by omega)) (va_cwS 4 hts (gI_S k_277 k_275 k_276 k_23) rfl rfl rfl (by decide +kernel) ⟨Nat.le_of_ble_eq_true rfl, Nat.le_of_ble_eq_true rfl⟩) (q_pre hK hAm hZ hN [.ref (ad (bb ka)), .int (nI i), .ref (ad (bb kb)), .int (nI j)]) rfl rfl hl.1 rfl (lv_room (Nat.le_of_ble_eq_true rfl)) d_Prs_align_42 ⟨Nat.zero_le _, Nat.zero_le _⟩) hZ (fun r u_r H locs h_r hZ => ?_)
            obtain ⟨e_r, h_r⟩ := h_r
            rw [e_r] at hZ
            rcases al_cases h_r (by first | exact Or.inl h25 | exact Or.inr h34) with hc | hc | hc
            · skip
              obtain ⟨hrs, hc⟩ := hc
              obtain ⟨hiz, hjk⟩ := hc
              refine lv_istore (lv' := [(5, .int r), (3, .int (nI i)), (4, .int (nI j)), (0, .ref (ad 34)), (1, .ref (ad (bb ka))), (2, .ref (ad (bb kb)))]) hx hb d_Prs_align_45 hl (by decide) rfl (fun ls hl => ?_)
              refine lv_iload hx hb d_Prs_align_47 (lv_at hl 0 rfl) ?_
              refine lv_if_gt (tgt := 56) hx hb d_Prs_align_49 (by decide) (fun h49 => ?_) (fun h49 => ?_)
              · skip
                exact absurd h49 (i32_ng hrs)
              · skip
                refine lv_aload_n hx hb d_Prs_align_52 rfl (lv_at hl 4 rfl) ?_
                refine lv_goto (tgt := 57) hx hb d_Prs_align_53 (by decide) ?_
                refine lv_astore (lv' := [(6, .ref (ad (bb ka))), (5, .int r), (3, .int (nI i)), (4, .int (nI j)), (0, .ref (ad 34)), (1, .ref (ad (bb ka))), (2, .ref (ad (bb kb)))]) hx hb d_Prs_align_57 hl (by decide) rfl (fun ls hl => ?_)
                refine lv_iload hx hb d_Prs_align_59 (lv_at hl 1 rfl) ?_
                refine lv_if_gt (tgt := 68) hx hb d_Prs_align_61 (by decide) (fun h61 => ?_) (fun h61 => ?_)
                · skip
                  exact absurd h61 (i32_ng hrs)
                · skip
                  refine lv_iload_n hx hb d_Prs_align_64 rfl (lv_at hl 2 rfl) ?_
                  refine lv_goto (tgt := 70) hx hb d_Prs_align_65 (by decide) ?_
                  refine lv_istore (lv' := [(7, .int (nI i)), (6, .ref (ad (bb ka))), (5, .int r), (3, .int (nI i)), (4, .int (nI j)), (0, .ref (ad 34)), (1, .ref (ad (bb ka))), (2, .ref (ad (bb kb)))]) hx hb d_Prs_align_70 hl (by decide) rfl (fun ls hl => ?_)
                  refine lv_aload_n hx hb d_Prs_align_72 rfl (lv_at hl 5 rfl) ?_
                  refine q_get (C := R_Prs) (T := T_Prs) (N := 5) hx hb hts (fun w h => gm (inT_Prs w h)) hown hK hZ (34) (by decide) hPr.1 rfl 0 (by decide) (hts _ (gm k_78)) (fun _ h9 => h9) rfl d_Prs_align_73 ?_
                  refine lv_aload_n hx hb d_Prs_align_76 rfl (lv_at hl 5 rfl) ?_
                  refine q_get (C := R_Prs) (T := T_Prs) (N := 5) hx hb hts (fun w h => gm (inT_Prs w h)) hown hK hZ (34) (by decide) hPr.1 rfl 4 (by decide) (hts _ (gm k_86)) (fun _ h9 => h9) rfl d_Prs_align_77 ?_
                  refine lv_aload hx hb d_Prs_align_80 (lv_at hl 1 rfl) ?_
                  refine q_get (C := R_Bag) (T := T_Bag) (N := 4) hx hb hts (fun w h => gm (inT_Bag w h)) hown hK hZ (bb ka) (by have := bb_r hka; omega) hA.1 rfl 0 (by decide) (hts _ (gm k_50)) (fun _ h9 => h9) rfl d_Prs_align_82 ?_
                  refine lv_iload hx hb d_Prs_align_85 (lv_at hl 0 rfl) ?_
                  refine q_iald hx hb hK hZ (bb ka + 1) 0 (i) (by have := bb_r hka; omega) hA.2.1 rfl rfl (by omega) (by decide) d_Prs_align_87 ?_
                  refine q_iast hx hb hK hZ (35) 0 (d) (by decide) hPr.2.1 rfl rfl (by omega) (by decide) d_Prs_align_88 (fun H locs hZ => ?_)
                  have hPr := hPr.upP ((upd P d (Pa i)))
                  have hA := hA.off (x := 35) (e := .inl (cI, 128, .inl (upd P d (Pa i)))) (by have := bb_r hka; omega)
                  have hB := hB.off (x := 35) (e := .inl (cI, 128, .inl (upd P d (Pa i)))) (by have := bb_r hkb; omega)
                  have hfr := fr_up (x := 35) (e := .inl (cI, 128, .inl (upd P d (Pa i)))) hfr (by omega) (by omega)
                  have hZ : sZ (dC, dI) vCl 52 ad (fun q => N0 ≤ q) s.heap (va_up u 35 (.inl (cI, 128, .inl (upd P d (Pa i))))) H locs := hZ
                  generalize va_up u 35 (.inl (cI, 128, .inl (upd P d (Pa i)))) = w34 at hZ hPr hfr hA hB
                  refine lv_aload_n hx hb d_Prs_align_89 rfl (lv_at hl 5 rfl) ?_
                  refine q_get (C := R_Prs) (T := T_Prs) (N := 5) hx hb hts (fun w h => gm (inT_Prs w h)) hown hK hZ (34) (by decide) hPr.1 rfl 1 (by decide) (hts _ (gm k_80)) (fun _ h9 => h9) rfl d_Prs_align_90 ?_
                  refine lv_aload_n hx hb d_Prs_align_93 rfl (lv_at hl 5 rfl) ?_
                  refine q_get (C := R_Prs) (T := T_Prs) (N := 5) hx hb hts (fun w h => gm (inT_Prs w h)) hown hK hZ (34) (by decide) hPr.1 rfl 4 (by decide) (hts _ (gm k_86)) (fun _ h9 => h9) rfl d_Prs_align_94 ?_
                  refine lv_aload hx hb d_Prs_align_97 (lv_at hl 1 rfl) ?_
                  refine q_get (C := R_Bag) (T := T_Bag) (N := 4) hx hb hts (fun w h => gm (inT_Bag w h)) hown hK hZ (bb ka) (by have := bb_r hka; omega) hA.1 rfl 1 (by decide) (hts _ (gm k_53)) (fun _ h9 => h9) rfl d_Prs_align_99 ?_
                  refine lv_iload hx hb d_Prs_align_102 (lv_at hl 0 rfl) ?_
                  refine q_lald hx hb hK hZ (bb ka + 2) 1 (i) (by have := bb_r hka; omega) hA.2.2.1 rfl rfl (by omega) (by decide) d_Prs_align_104 ?_
                  refine q_last hx hb hK hZ (36) 1 (d) (by decide) hPr.2.2.1 rfl rfl (by omega) (by decide) d_Prs_align_105 (fun H locs hZ => ?_)
                  have hPr := hPr.upN ((vp_updL N d (Na i)))
                  have hA := hA.off (x := 36) (e := .inl (cL, 128, .inr (.inl (vp_updL N d (Na i))))) (by have := bb_r hka; omega)
                  have hB := hB.off (x := 36) (e := .inl (cL, 128, .inr (.inl (vp_updL N d (Na i))))) (by have := bb_r hkb; omega)
                  have hfr := fr_up (x := 36) (e := .inl (cL, 128, .inr (.inl (vp_updL N d (Na i))))) hfr (by omega) (by omega)
                  have hZ : sZ (dC, dI) vCl 52 ad (fun q => N0 ≤ q) s.heap (va_up w34 36 (.inl (cL, 128, .inr (.inl (vp_updL N d (Na i)))))) H locs := hZ
                  generalize va_up w34 36 (.inl (cL, 128, .inr (.inl (vp_updL N d (Na i))))) = w35 at hZ hPr hfr hA hB
                  refine lv_aload_n hx hb d_Prs_align_106 rfl (lv_at hl 5 rfl) ?_
                  refine q_get (C := R_Prs) (T := T_Prs) (N := 5) hx hb hts (fun w h => gm (inT_Prs w h)) hown hK hZ (34) (by decide) hPr.1 rfl 2 (by decide) (hts _ (gm k_82)) (fun _ h9 => h9) rfl d_Prs_align_107 ?_
                  refine lv_aload_n hx hb d_Prs_align_110 rfl (lv_at hl 5 rfl) ?_
                  refine q_get (C := R_Prs) (T := T_Prs) (N := 5) hx hb hts (fun w h => gm (inT_Prs w h)) hown hK hZ (34) (by decide) hPr.1 rfl 4 (by decide) (hts _ (gm k_86)) (fun _ h9 => h9) rfl d_Prs_align_111 ?_
                  refine lv_iload hx hb d_Prs_align_114 (lv_at hl 2 rfl) ?_
                  refine lv_if_gt (tgt := 128) hx hb d_Prs_align_116 (by decide) (fun h116 => ?_) (fun h116 => ?_)
                  · skip
                    exact absurd h116 (i32_ng hrs)
                  · skip
                    refine lv_aload_n hx hb d_Prs_align_119 rfl (lv_at hl 6 rfl) ?_
                    refine q_get (C := R_Bag) (T := T_Bag) (N := 4) hx hb hts (fun w h => gm (inT_Bag w h)) hown hK hZ (bb ka) (by have := bb_r hka; omega) hA.1 rfl 2 (by decide) (hts _ (gm k_56)) (fun _ h9 => h9) rfl d_Prs_align_120 ?_
                    refine lv_iload_n hx hb d_Prs_align_123 rfl (lv_at hl 3 rfl) ?_
                    refine q_lald hx hb hK hZ (bb ka + 3) 1 (i) (by have := bb_r hka; omega) hA.2.2.2.1 rfl rfl (by omega) (by decide) d_Prs_align_124 ?_
                    refine lv_goto (tgt := 129) hx hb d_Prs_align_125 (by decide) ?_
                    refine q_last hx hb hK hZ (37) 1 (d) (by decide) hPr.2.2.2.1 rfl rfl (by omega) (by decide) d_Prs_align_129 (fun H locs hZ => ?_)
                    have hPr := hPr.upL ((vp_updL L d (Aa i)))
                    have hA := hA.off (x := 37) (e := .inl (cL, 128, .inr (.inl (vp_updL L d (Aa i))))) (by have := bb_r hka; omega)
                    have hB := hB.off (x := 37) (e := .inl (cL, 128, .inr (.inl (vp_updL L d (Aa i))))) (by have := bb_r hkb; omega)
                    have hfr := fr_up (x := 37) (e := .inl (cL, 128, .inr (.inl (vp_updL L d (Aa i))))) hfr (by omega) (by omega)
                    have hZ : sZ (dC, dI) vCl 52 ad (fun q => N0 ≤ q) s.heap (va_up w35 37 (.inl (cL, 128, .inr (.inl (vp_updL L d (Aa i)))))) H locs := hZ
                    generalize va_up w35 37 (.inl (cL, 128, .inr (.inl (vp_updL L d (Aa i))))) = w36 at hZ hPr hfr hA hB
                    refine lv_aload_n hx hb d_Prs_align_130 rfl (lv_at hl 5 rfl) ?_
                    refine q_get (C := R_Prs) (T := T_Prs) (N := 5) hx hb hts (fun w h => gm (inT_Prs w h)) hown hK hZ (34) (by decide) hPr.1 rfl 3 (by decide) (hts _ (gm k_84)) (fun _ h9 => h9) rfl d_Prs_align_131 ?_
                    refine lv_aload_n hx hb d_Prs_align_134 rfl (lv_at hl 5 rfl) ?_
                    refine q_get (C := R_Prs) (T := T_Prs) (N := 5) hx hb hts (fun w h => gm (inT_Prs w h)) hown hK hZ (34) (by decide) hPr.1 rfl 4 (by decide) (hts _ (gm k_86)) (fun _ h9 => h9) rfl d_Prs_align_135 ?_
                    refine lv_iload hx hb d_Prs_align_138 (lv_at hl 2 rfl) ?_
                    refine lv_if_lt (tgt := 153) hx hb d_Prs_align_140 (by decide) (fun h140 => ?_) (fun h140 => ?_)
                    · skip
                      refine lv_lconst (v := 0) hx hb d_Prs_align_153 rfl ?_
                      refine q_last hx hb hK hZ (38) 1 (d) (by decide) hPr.2.2.2.2.1 rfl rfl (by omega) (by decide) d_Prs_align_154 (fun H locs hZ => ?_)
                      have hPr := hPr.upR ((vp_updL R d 0))
                      have hA := hA.off (x := 38) (e := .inl (cL, 128, .inr (.inl (vp_updL R d 0)))) (by have := bb_r hka; omega)
                      have hB := hB.off (x := 38) (e := .inl (cL, 128, .inr (.inl (vp_updL R d 0)))) (by have := bb_r hkb; omega)
                      have hfr := fr_up (x := 38) (e := .inl (cL, 128, .inr (.inl (vp_updL R d 0)))) hfr (by omega) (by omega)
                      have hZ : sZ (dC, dI) vCl 52 ad (fun q => N0 ≤ q) s.heap (va_up w36 38 (.inl (cL, 128, .inr (.inl (vp_updL R d 0))))) H locs := hZ
                      generalize va_up w36 38 (.inl (cL, 128, .inr (.inl (vp_updL R d 0)))) = w37 at hZ hPr hfr hA hB
                      refine lv_iload_n hx hb d_Prs_align_155 rfl (lv_at hl 3 rfl) ?_
                      refine lv_iload hx hb d_Prs_align_156 (lv_at hl 2 rfl) ?_
                      refine lv_if_gt (tgt := 165) hx hb d_Prs_align_158 (by decide) (fun h158 => ?_) (fun h158 => ?_)
                      · skip
                        exact absurd h158 (i32_ng hrs)
                      · skip
                        refine lv_iconst (v := (nI 1)) hx hb d_Prs_align_161 rfl ?_
                        refine lv_goto (tgt := 166) hx hb d_Prs_align_162 (by decide) ?_
                        refine lv_iadd hx hb d_Prs_align_166 ?_
                        refine q_topi (y := nI (i + 1)) (nI_add _ _) ?_
                        refine lv_istore_n (lv' := [(3, .int (nI (i + 1))), (7, .int (nI i)), (6, .ref (ad (bb ka))), (5, .int r), (4, .int (nI j)), (0, .ref (ad 34)), (1, .ref (ad (bb ka))), (2, .ref (ad (bb kb)))]) hx hb d_Prs_align_167 rfl hl (by decide) rfl (fun ls hl => ?_)
                        refine lv_iload hx hb d_Prs_align_168 (lv_at hl 4 rfl) ?_
                        refine lv_iload hx hb d_Prs_align_170 (lv_at hl 3 rfl) ?_
                        refine lv_if_lt (tgt := 179) hx hb d_Prs_align_172 (by decide) (fun h172 => ?_) (fun h172 => ?_)
                        · skip
                          refine lv_iconst (v := (nI 0)) hx hb d_Prs_align_179 rfl ?_
                          refine lv_iadd hx hb d_Prs_align_180 ?_
                          refine q_topi (y := nI (j + 0)) (nI_add _ _) ?_
                          refine lv_istore (lv' := [(4, .int (nI (j + 0))), (3, .int (nI (i + 1))), (7, .int (nI i)), (6, .ref (ad (bb ka))), (5, .int r), (0, .ref (ad 34)), (1, .ref (ad (bb ka))), (2, .ref (ad (bb kb)))]) hx hb d_Prs_align_181 hl (by decide) rfl (fun ls hl => ?_)
                          refine lv_aload_n hx hb d_Prs_align_183 rfl (lv_at hl 5 rfl) ?_
                          refine lv_dup hx hb d_Prs_align_184 rfl ?_
                          refine q_get (C := R_Prs) (T := T_Prs) (N := 5) hx hb hts (fun w h => gm (inT_Prs w h)) hown hK hZ (34) (by decide) hPr.1 rfl 4 (by decide) (hts _ (gm k_86)) (fun _ h9 => h9) rfl d_Prs_align_185 ?_
                          refine lv_iconst (v := (nI 1)) hx hb d_Prs_align_188 rfl ?_
                          refine lv_iadd hx hb d_Prs_align_189 ?_
                          refine q_topi (y := nI (d + 1)) (nI_add _ _) ?_
                          refine q_put (C := R_Prs) (T := T_Prs) (N := 5) (ty := .int) (v := .int (nI (d + 1))) hx hb hts (fun w h => gm (inT_Prs w h)) ty_Prs tyo_Prs nm_Prs hown hK hZ (34) (by decide) hPr.1 rfl 4 (by decide) (hts _ (gm k_86)) (fun _ h9 => h9) rfl (by decide +kernel) (rfl) (rfl) (Nat.le_of_ble_eq_true rfl) d_Prs_align_190 (fun H locs hZ => ?_)
                          have hPr := hPr.upC (c' := (d + 1)) (by omega)
                          have hA := hA.off (x := 34) (e := .inr (1, [.ref (ad 35), .ref (ad 36), .ref (ad 37), .ref (ad 38), .int (nI (d + 1))])) (by have := bb_r hka; omega)
                          have hB := hB.off (x := 34) (e := .inr (1, [.ref (ad 35), .ref (ad 36), .ref (ad 37), .ref (ad 38), .int (nI (d + 1))])) (by have := bb_r hkb; omega)
                          have hfr := fr_up (x := 34) (e := .inr (1, [.ref (ad 35), .ref (ad 36), .ref (ad 37), .ref (ad 38), .int (nI (d + 1))])) hfr (by omega) (by omega)
                          have hZ : sZ (dC, dI) vCl 52 ad (fun q => N0 ≤ q) s.heap (va_up w37 34 (.inr (1, [.ref (ad 35), .ref (ad 36), .ref (ad 37), .ref (ad 38), .int (nI (d + 1))]))) H locs := hZ
                          generalize va_up w37 34 (.inr (1, [.ref (ad 35), .ref (ad 36), .ref (ad 37), .ref (ad 38), .int (nI (d + 1))])) = w38 at hZ hPr hfr hA hB
                          refine lv_goto (tgt := 10) hx hb d_Prs_align_193 (by decide) ?_
                          have hlt : ∀ t, t < d → kk P N t < kv (Pa i) (Na i) := fun t ht => (hM.2.2.2.1 t ht).1 hiz
                          have hM := mG_step (i' := i + 1) (j' := j + 0) (lv := Aa i) (rv := 0) hM hlt (hCa.2.2.2 i hiz) (mG_no hCb.2.1 hCb.2.2.1 hM.2.2.2.2.2 hlt hjk).symm (Or.inr ⟨rfl, hiz, rfl⟩) (Or.inl rfl) (by omega) (fun y => hCa.2.1 i (i + 1) (by omega) y) (fun y => hjk y)
                          exact ih10 (i + 1) (j + 0) (d + 1) _ _ _ _ w38 _ _ _ (by omega) hA hB hPr hfr hM hZ (lv_sub hl [1, 0, 5, 6, 7] rfl)
                        · skip
                          exact absurd hrs h172
                    · skip
                      exact absurd hrs h140
            · skip
              obtain ⟨hrs, hc⟩ := hc
              obtain ⟨hiz, hjz, heq⟩ := hc
              refine lv_istore (lv' := [(5, .int r), (3, .int (nI i)), (4, .int (nI j)), (0, .ref (ad 34)), (1, .ref (ad (bb ka))), (2, .ref (ad (bb kb)))]) hx hb d_Prs_align_45 hl (by decide) rfl (fun ls hl => ?_)
              refine lv_iload hx hb d_Prs_align_47 (lv_at hl 0 rfl) ?_
              refine lv_if_gt (tgt := 56) hx hb d_Prs_align_49 (by decide) (fun h49 => ?_) (fun h49 => ?_)
              · skip
                exact absurd h49 (i32_n0g hrs)
              · skip
                refine lv_aload_n hx hb d_Prs_align_52 rfl (lv_at hl 4 rfl) ?_
                refine lv_goto (tgt := 57) hx hb d_Prs_align_53 (by decide) ?_
                refine lv_astore (lv' := [(6, .ref (ad (bb ka))), (5, .int r), (3, .int (nI i)), (4, .int (nI j)), (0, .ref (ad 34)), (1, .ref (ad (bb ka))), (2, .ref (ad (bb kb)))]) hx hb d_Prs_align_57 hl (by decide) rfl (fun ls hl => ?_)
                refine lv_iload hx hb d_Prs_align_59 (lv_at hl 1 rfl) ?_
                refine lv_if_gt (tgt := 68) hx hb d_Prs_align_61 (by decide) (fun h61 => ?_) (fun h61 => ?_)
                · skip
                  exact absurd h61 (i32_n0g hrs)
                · skip
                  refine lv_iload_n hx hb d_Prs_align_64 rfl (lv_at hl 2 rfl) ?_
                  refine lv_goto (tgt := 70) hx hb d_Prs_align_65 (by decide) ?_
                  refine lv_istore (lv' := [(7, .int (nI i)), (6, .ref (ad (bb ka))), (5, .int r), (3, .int (nI i)), (4, .int (nI j)), (0, .ref (ad 34)), (1, .ref (ad (bb ka))), (2, .ref (ad (bb kb)))]) hx hb d_Prs_align_70 hl (by decide) rfl (fun ls hl => ?_)
                  refine lv_aload_n hx hb d_Prs_align_72 rfl (lv_at hl 5 rfl) ?_
                  refine q_get (C := R_Prs) (T := T_Prs) (N := 5) hx hb hts (fun w h => gm (inT_Prs w h)) hown hK hZ (34) (by decide) hPr.1 rfl 0 (by decide) (hts _ (gm k_78)) (fun _ h9 => h9) rfl d_Prs_align_73 ?_
                  refine lv_aload_n hx hb d_Prs_align_76 rfl (lv_at hl 5 rfl) ?_
                  refine q_get (C := R_Prs) (T := T_Prs) (N := 5) hx hb hts (fun w h => gm (inT_Prs w h)) hown hK hZ (34) (by decide) hPr.1 rfl 4 (by decide) (hts _ (gm k_86)) (fun _ h9 => h9) rfl d_Prs_align_77 ?_
                  refine lv_aload hx hb d_Prs_align_80 (lv_at hl 1 rfl) ?_
                  refine q_get (C := R_Bag) (T := T_Bag) (N := 4) hx hb hts (fun w h => gm (inT_Bag w h)) hown hK hZ (bb ka) (by have := bb_r hka; omega) hA.1 rfl 0 (by decide) (hts _ (gm k_50)) (fun _ h9 => h9) rfl d_Prs_align_82 ?_
                  refine lv_iload hx hb d_Prs_align_85 (lv_at hl 0 rfl) ?_
                  refine q_iald hx hb hK hZ (bb ka + 1) 0 (i) (by have := bb_r hka; omega) hA.2.1 rfl rfl (by omega) (by decide) d_Prs_align_87 ?_
                  refine q_iast hx hb hK hZ (35) 0 (d) (by decide) hPr.2.1 rfl rfl (by omega) (by decide) d_Prs_align_88 (fun H locs hZ => ?_)
                  have hPr := hPr.upP ((upd P d (Pa i)))
                  have hA := hA.off (x := 35) (e := .inl (cI, 128, .inl (upd P d (Pa i)))) (by have := bb_r hka; omega)
                  have hB := hB.off (x := 35) (e := .inl (cI, 128, .inl (upd P d (Pa i)))) (by have := bb_r hkb; omega)
                  have hfr := fr_up (x := 35) (e := .inl (cI, 128, .inl (upd P d (Pa i)))) hfr (by omega) (by omega)
                  have hZ : sZ (dC, dI) vCl 52 ad (fun q => N0 ≤ q) s.heap (va_up u 35 (.inl (cI, 128, .inl (upd P d (Pa i))))) H locs := hZ
                  generalize va_up u 35 (.inl (cI, 128, .inl (upd P d (Pa i)))) = w39 at hZ hPr hfr hA hB
                  refine lv_aload_n hx hb d_Prs_align_89 rfl (lv_at hl 5 rfl) ?_
                  refine q_get (C := R_Prs) (T := T_Prs) (N := 5) hx hb hts (fun w h => gm (inT_Prs w h)) hown hK hZ (34) (by decide) hPr.1 rfl 1 (by decide) (hts _ (gm k_80)) (fun _ h9 => h9) rfl d_Prs_align_90 ?_
                  refine lv_aload_n hx hb d_Prs_align_93 rfl (lv_at hl 5 rfl) ?_
                  refine q_get (C := R_Prs) (T := T_Prs) (N := 5) hx hb hts (fun w h => gm (inT_Prs w h)) hown hK hZ (34) (by decide) hPr.1 rfl 4 (by decide) (hts _ (gm k_86)) (fun _ h9 => h9) rfl d_Prs_align_94 ?_
                  refine lv_aload hx hb d_Prs_align_97 (lv_at hl 1 rfl) ?_
                  refine q_get (C := R_Bag) (T := T_Bag) (N := 4) hx hb hts (fun w h => gm (inT_Bag w h)) hown hK hZ (bb ka) (by have := bb_r hka; omega) hA.1 rfl 1 (by decide) (hts _ (gm k_53)) (fun _ h9 => h9) rfl d_Prs_align_99 ?_
                  refine lv_iload hx hb d_Prs_align_102 (lv_at hl 0 rfl) ?_
                  refine q_lald hx hb hK hZ (bb ka + 2) 1 (i) (by have := bb_r hka; omega) hA.2.2.1 rfl rfl (by omega) (by decide) d_Prs_align_104 ?_
                  refine q_last hx hb hK hZ (36) 1 (d) (by decide) hPr.2.2.1 rfl rfl (by omega) (by decide) d_Prs_align_105 (fun H locs hZ => ?_)
                  have hPr := hPr.upN ((vp_updL N d (Na i)))
                  have hA := hA.off (x := 36) (e := .inl (cL, 128, .inr (.inl (vp_updL N d (Na i))))) (by have := bb_r hka; omega)
                  have hB := hB.off (x := 36) (e := .inl (cL, 128, .inr (.inl (vp_updL N d (Na i))))) (by have := bb_r hkb; omega)
                  have hfr := fr_up (x := 36) (e := .inl (cL, 128, .inr (.inl (vp_updL N d (Na i))))) hfr (by omega) (by omega)
                  have hZ : sZ (dC, dI) vCl 52 ad (fun q => N0 ≤ q) s.heap (va_up w39 36 (.inl (cL, 128, .inr (.inl (vp_updL N d (Na i)))))) H locs := hZ
                  generalize va_up w39 36 (.inl (cL, 128, .inr (.inl (vp_updL N d (Na i))))) = w40 at hZ hPr hfr hA hB
                  refine lv_aload_n hx hb d_Prs_align_106 rfl (lv_at hl 5 rfl) ?_
                  refine q_get (C := R_Prs) (T := T_Prs) (N := 5) hx hb hts (fun w h => gm (inT_Prs w h)) hown hK hZ (34) (by decide) hPr.1 rfl 2 (by decide) (hts _ (gm k_82)) (fun _ h9 => h9) rfl d_Prs_align_107 ?_
                  refine lv_aload_n hx hb d_Prs_align_110 rfl (lv_at hl 5 rfl) ?_
                  refine q_get (C := R_Prs) (T := T_Prs) (N := 5) hx hb hts (fun w h => gm (inT_Prs w h)) hown hK hZ (34) (by decide) hPr.1 rfl 4 (by decide) (hts _ (gm k_86)) (fun _ h9 => h9) rfl d_Prs_align_111 ?_
                  refine lv_iload hx hb d_Prs_align_114 (lv_at hl 2 rfl) ?_
                  refine lv_if_gt (tgt := 128) hx hb d_Prs_align_116 (by decide) (fun h116 => ?_) (fun h116 => ?_)
                  · skip
                    exact absurd h116 (i32_n0g hrs)
                  · skip
                    refine lv_aload_n hx hb d_Prs_align_119 rfl (lv_at hl 6 rfl) ?_
                    refine q_get (C := R_Bag) (T := T_Bag) (N := 4) hx hb hts (fun w h => gm (inT_Bag w h)) hown hK hZ (bb ka) (by have := bb_r hka; omega) hA.1 rfl 2 (by decide) (hts _ (gm k_56)) (fun _ h9 => h9) rfl d_Prs_align_120 ?_
                    refine lv_iload_n hx hb d_Prs_align_123 rfl (lv_at hl 3 rfl) ?_
                    refine q_lald hx hb hK hZ (bb ka + 3) 1 (i) (by have := bb_r hka; omega) hA.2.2.2.1 rfl rfl (by omega) (by decide) d_Prs_align_124 ?_
                    refine lv_goto (tgt := 129) hx hb d_Prs_align_125 (by decide) ?_
                    refine q_last hx hb hK hZ (37) 1 (d) (by decide) hPr.2.2.2.1 rfl rfl (by omega) (by decide) d_Prs_align_129 (fun H locs hZ => ?_)
                    have hPr := hPr.upL ((vp_updL L d (Aa i)))
                    have hA := hA.off (x := 37) (e := .inl (cL, 128, .inr (.inl (vp_updL L d (Aa i))))) (by have := bb_r hka; omega)
                    have hB := hB.off (x := 37) (e := .inl (cL, 128, .inr (.inl (vp_updL L d (Aa i))))) (by have := bb_r hkb; omega)
                    have hfr := fr_up (x := 37) (e := .inl (cL, 128, .inr (.inl (vp_updL L d (Aa i))))) hfr (by omega) (by omega)
                    have hZ : sZ (dC, dI) vCl 52 ad (fun q => N0 ≤ q) s.heap (va_up w40 37 (.inl (cL, 128, .inr (.inl (vp_updL L d (Aa i)))))) H locs := hZ
                    generalize va_up w40 37 (.inl (cL, 128, .inr (.inl (vp_updL L d (Aa i))))) = w41 at hZ hPr hfr hA hB
                    refine lv_aload_n hx hb d_Prs_align_130 rfl (lv_at hl 5 rfl) ?_
                    refine q_get (C := R_Prs) (T := T_Prs) (N := 5) hx hb hts (fun w h => gm (inT_Prs w h)) hown hK hZ (34) (by decide) hPr.1 rfl 3 (by decide) (hts _ (gm k_84)) (fun _ h9 => h9) rfl d_Prs_align_131 ?_
                    refine lv_aload_n hx hb d_Prs_align_134 rfl (lv_at hl 5 rfl) ?_
                    refine q_get (C := R_Prs) (T := T_Prs) (N := 5) hx hb hts (fun w h => gm (inT_Prs w h)) hown hK hZ (34) (by decide) hPr.1 rfl 4 (by decide) (hts _ (gm k_86)) (fun _ h9 => h9) rfl d_Prs_align_135 ?_
                    refine lv_iload hx hb d_Prs_align_138 (lv_at hl 2 rfl) ?_
                    refine lv_if_lt (tgt := 153) hx hb d_Prs_align_140 (by decide) (fun h140 => ?_) (fun h140 => ?_)
                    · skip
                      exact absurd h140 (i32_n0l hrs)
                    · skip
                      refine lv_aload_n hx hb d_Prs_align_143 rfl (lv_at hl 7 rfl) ?_
                      refine q_get (C := R_Bag) (T := T_Bag) (N := 4) hx hb hts (fun w h => gm (inT_Bag w h)) hown hK hZ (bb kb) (by have := bb_r hkb; omega) hB.1 rfl 2 (by decide) (hts _ (gm k_56)) (fun _ h9 => h9) rfl d_Prs_align_144 ?_
                      refine lv_iload hx hb d_Prs_align_147 (lv_at hl 4 rfl) ?_
                      refine q_lald hx hb hK hZ (bb kb + 3) 1 (j) (by have := bb_r hkb; omega) hB.2.2.2.1 rfl rfl (by omega) (by decide) d_Prs_align_149 ?_
                      refine lv_goto (tgt := 154) hx hb d_Prs_align_150 (by decide) ?_
                      refine q_last hx hb hK hZ (38) 1 (d) (by decide) hPr.2.2.2.2.1 rfl rfl (by omega) (by decide) d_Prs_align_154 (fun H locs hZ => ?_)
                      have hPr := hPr.upR ((vp_updL R d (Ab j)))
                      have hA := hA.off (x := 38) (e := .inl (cL, 128, .inr (.inl (vp_updL R d (Ab j))))) (by have := bb_r hka; omega)
                      have hB := hB.off (x := 38) (e := .inl (cL, 128, .inr (.inl (vp_updL R d (Ab j))))) (by have := bb_r hkb; omega)
                      have hfr := fr_up (x := 38) (e := .inl (cL, 128, .inr (.inl (vp_updL R d (Ab j))))) hfr (by omega) (by omega)
                      have hZ : sZ (dC, dI) vCl 52 ad (fun q => N0 ≤ q) s.heap (va_up w41 38 (.inl (cL, 128, .inr (.inl (vp_updL R d (Ab j)))))) H locs := hZ
                      generalize va_up w41 38 (.inl (cL, 128, .inr (.inl (vp_updL R d (Ab j))))) = w42 at hZ hPr hfr hA hB
                      refine lv_iload_n hx hb d_Prs_align_155 rfl (lv_at hl 3 rfl) ?_
                      refine lv_iload hx hb d_Prs_align_156 (lv_at hl 2 rfl) ?_
                      refine lv_if_gt (tgt := 165) hx hb d_Prs_align_158 (by decide) (fun h158 => ?_) (fun h158 => ?_)
                      · skip
                        exact absurd h158 (i32_n0g hrs)
                      · skip
                        refine lv_iconst (v := (nI 1)) hx hb d_Prs_align_161 rfl ?_
                        refine lv_goto (tgt := 166) hx hb d_Prs_align_162 (by decide) ?_
                        refine lv_iadd hx hb d_Prs_align_166 ?_
                        refine q_topi (y := nI (i + 1)) (nI_add _ _) ?_
                        refine lv_istore_n (lv' := [(3, .int (nI (i + 1))), (7, .int (nI i)), (6, .ref (ad (bb ka))), (5, .int r), (4, .int (nI j)), (0, .ref (ad 34)), (1, .ref (ad (bb ka))), (2, .ref (ad (bb kb)))]) hx hb d_Prs_align_167 rfl hl (by decide) rfl (fun ls hl => ?_)
                        refine lv_iload hx hb d_Prs_align_168 (lv_at hl 4 rfl) ?_
                        refine lv_iload hx hb d_Prs_align_170 (lv_at hl 3 rfl) ?_
                        refine lv_if_lt (tgt := 179) hx hb d_Prs_align_172 (by decide) (fun h172 => ?_) (fun h172 => ?_)
                        · skip
                          exact absurd h172 (i32_n0l hrs)
                        · skip
                          refine lv_iconst (v := (nI 1)) hx hb d_Prs_align_175 rfl ?_
                          refine lv_goto (tgt := 180) hx hb d_Prs_align_176 (by decide) ?_
                          refine lv_iadd hx hb d_Prs_align_180 ?_
                          refine q_topi (y := nI (j + 1)) (nI_add _ _) ?_
                          refine lv_istore (lv' := [(4, .int (nI (j + 1))), (3, .int (nI (i + 1))), (7, .int (nI i)), (6, .ref (ad (bb ka))), (5, .int r), (0, .ref (ad 34)), (1, .ref (ad (bb ka))), (2, .ref (ad (bb kb)))]) hx hb d_Prs_align_181 hl (by decide) rfl (fun ls hl => ?_)
                          refine lv_aload_n hx hb d_Prs_align_183 rfl (lv_at hl 5 rfl) ?_
                          refine lv_dup hx hb d_Prs_align_184 rfl ?_
                          refine q_get (C := R_Prs) (T := T_Prs) (N := 5) hx hb hts (fun w h => gm (inT_Prs w h)) hown hK hZ (34) (by decide) hPr.1 rfl 4 (by decide) (hts _ (gm k_86)) (fun _ h9 => h9) rfl d_Prs_align_185 ?_
                          refine lv_iconst (v := (nI 1)) hx hb d_Prs_align_188 rfl ?_
                          refine lv_iadd hx hb d_Prs_align_189 ?_
                          refine q_topi (y := nI (d + 1)) (nI_add _ _) ?_
                          refine q_put (C := R_Prs) (T := T_Prs) (N := 5) (ty := .int) (v := .int (nI (d + 1))) hx hb hts (fun w h => gm (inT_Prs w h)) ty_Prs tyo_Prs nm_Prs hown hK hZ (34) (by decide) hPr.1 rfl 4 (by decide) (hts _ (gm k_86)) (fun _ h9 => h9) rfl (by decide +kernel) (rfl) (rfl) (Nat.le_of_ble_eq_true rfl) d_Prs_align_190 (fun H locs hZ => ?_)
                          have hPr := hPr.upC (c' := (d + 1)) (by omega)
                          have hA := hA.off (x := 34) (e := .inr (1, [.ref (ad 35), .ref (ad 36), .ref (ad 37), .ref (ad 38), .int (nI (d + 1))])) (by have := bb_r hka; omega)
                          have hB := hB.off (x := 34) (e := .inr (1, [.ref (ad 35), .ref (ad 36), .ref (ad 37), .ref (ad 38), .int (nI (d + 1))])) (by have := bb_r hkb; omega)
                          have hfr := fr_up (x := 34) (e := .inr (1, [.ref (ad 35), .ref (ad 36), .ref (ad 37), .ref (ad 38), .int (nI (d + 1))])) hfr (by omega) (by omega)
                          have hZ : sZ (dC, dI) vCl 52 ad (fun q => N0 ≤ q) s.heap (va_up w42 34 (.inr (1, [.ref (ad 35), .ref (ad 36), .ref (ad 37), .ref (ad 38), .int (nI (d + 1))]))) H locs := hZ
                          generalize va_up w42 34 (.inr (1, [.ref (ad 35), .ref (ad 36), .ref (ad 37), .ref (ad 38), .int (nI (d + 1))])) = w43 at hZ hPr hfr hA hB
                          refine lv_goto (tgt := 10) hx hb d_Prs_align_193 (by decide) ?_
                          have hlt : ∀ t, t < d → kk P N t < kv (Pa i) (Na i) := fun t ht => (hM.2.2.2.1 t ht).1 hiz
                          have hM := mG_step (i' := i + 1) (j' := j + 1) (lv := Aa i) (rv := Ab j) hM hlt (hCa.2.2.2 i hiz) (by rw [hCb.2.2.2 j hjz, ← heq]; rfl) (Or.inr ⟨rfl, hiz, rfl⟩) (Or.inr ⟨rfl, hjz, heq.symm⟩) (by omega) (fun y => hCa.2.1 i (i + 1) (by omega) y) (fun y => by have h9 := hCb.2.1 j (j + 1) (by omega) y; rw [← heq] at h9; exact h9)
                          exact ih10 (i + 1) (j + 1) (d + 1) _ _ _ _ w43 _ _ _ (by omega) hA hB hPr hfr hM hZ (lv_sub hl [1, 0, 5, 6, 7] rfl)
            · skip
              obtain ⟨hrs, hc⟩ := hc
              obtain ⟨hjz, hik⟩ := hc
              refine lv_istore (lv' := [(5, .int r), (3, .int (nI i)), (4, .int (nI j)), (0, .ref (ad 34)), (1, .ref (ad (bb ka))), (2, .ref (ad (bb kb)))]) hx hb d_Prs_align_45 hl (by decide) rfl (fun ls hl => ?_)
              refine lv_iload hx hb d_Prs_align_47 (lv_at hl 0 rfl) ?_
              refine lv_if_gt (tgt := 56) hx hb d_Prs_align_49 (by decide) (fun h49 => ?_) (fun h49 => ?_)
              · skip
                refine lv_aload_n hx hb d_Prs_align_56 rfl (lv_at hl 5 rfl) ?_
                refine lv_astore (lv' := [(6, .ref (ad (bb kb))), (5, .int r), (3, .int (nI i)), (4, .int (nI j)), (0, .ref (ad 34)), (1, .ref (ad (bb ka))), (2, .ref (ad (bb kb)))]) hx hb d_Prs_align_57 hl (by decide) rfl (fun ls hl => ?_)
                refine lv_iload hx hb d_Prs_align_59 (lv_at hl 1 rfl) ?_
                refine lv_if_gt (tgt := 68) hx hb d_Prs_align_61 (by decide) (fun h61 => ?_) (fun h61 => ?_)
                · skip
                  refine lv_iload hx hb d_Prs_align_68 (lv_at hl 3 rfl) ?_
                  refine lv_istore (lv' := [(7, .int (nI j)), (6, .ref (ad (bb kb))), (5, .int r), (3, .int (nI i)), (4, .int (nI j)), (0, .ref (ad 34)), (1, .ref (ad (bb ka))), (2, .ref (ad (bb kb)))]) hx hb d_Prs_align_70 hl (by decide) rfl (fun ls hl => ?_)
                  refine lv_aload_n hx hb d_Prs_align_72 rfl (lv_at hl 5 rfl) ?_
                  refine q_get (C := R_Prs) (T := T_Prs) (N := 5) hx hb hts (fun w h => gm (inT_Prs w h)) hown hK hZ (34) (by decide) hPr.1 rfl 0 (by decide) (hts _ (gm k_78)) (fun _ h9 => h9) rfl d_Prs_align_73 ?_
                  refine lv_aload_n hx hb d_Prs_align_76 rfl (lv_at hl 5 rfl) ?_
                  refine q_get (C := R_Prs) (T := T_Prs) (N := 5) hx hb hts (fun w h => gm (inT_Prs w h)) hown hK hZ (34) (by decide) hPr.1 rfl 4 (by decide) (hts _ (gm k_86)) (fun _ h9 => h9) rfl d_Prs_align_77 ?_
                  refine lv_aload hx hb d_Prs_align_80 (lv_at hl 1 rfl) ?_
                  refine q_get (C := R_Bag) (T := T_Bag) (N := 4) hx hb hts (fun w h => gm (inT_Bag w h)) hown hK hZ (bb kb) (by have := bb_r hkb; omega) hB.1 rfl 0 (by decide) (hts _ (gm k_50)) (fun _ h9 => h9) rfl d_Prs_align_82 ?_
                  refine lv_iload hx hb d_Prs_align_85 (lv_at hl 0 rfl) ?_
                  refine q_iald hx hb hK hZ (bb kb + 1) 0 (j) (by have := bb_r hkb; omega) hB.2.1 rfl rfl (by omega) (by decide) d_Prs_align_87 ?_
                  refine q_iast hx hb hK hZ (35) 0 (d) (by decide) hPr.2.1 rfl rfl (by omega) (by decide) d_Prs_align_88 (fun H locs hZ => ?_)
                  have hPr := hPr.upP ((upd P d (Pb j)))
                  have hA := hA.off (x := 35) (e := .inl (cI, 128, .inl (upd P d (Pb j)))) (by have := bb_r hka; omega)
                  have hB := hB.off (x := 35) (e := .inl (cI, 128, .inl (upd P d (Pb j)))) (by have := bb_r hkb; omega)
                  have hfr := fr_up (x := 35) (e := .inl (cI, 128, .inl (upd P d (Pb j)))) hfr (by omega) (by omega)
                  have hZ : sZ (dC, dI) vCl 52 ad (fun q => N0 ≤ q) s.heap (va_up u 35 (.inl (cI, 128, .inl (upd P d (Pb j))))) H locs := hZ
                  generalize va_up u 35 (.inl (cI, 128, .inl (upd P d (Pb j)))) = w44 at hZ hPr hfr hA hB
                  refine lv_aload_n hx hb d_Prs_align_89 rfl (lv_at hl 5 rfl) ?_
                  refine q_get (C := R_Prs) (T := T_Prs) (N := 5) hx hb hts (fun w h => gm (inT_Prs w h)) hown hK hZ (34) (by decide) hPr.1 rfl 1 (by decide) (hts _ (gm k_80)) (fun _ h9 => h9) rfl d_Prs_align_90 ?_
                  refine lv_aload_n hx hb d_Prs_align_93 rfl (lv_at hl 5 rfl) ?_
                  refine q_get (C := R_Prs) (T := T_Prs) (N := 5) hx hb hts (fun w h => gm (inT_Prs w h)) hown hK hZ (34) (by decide) hPr.1 rfl 4 (by decide) (hts _ (gm k_86)) (fun _ h9 => h9) rfl d_Prs_align_94 ?_
                  refine lv_aload hx hb d_Prs_align_97 (lv_at hl 1 rfl) ?_
                  refine q_get (C := R_Bag) (T := T_Bag) (N := 4) hx hb hts (fun w h => gm (inT_Bag w h)) hown hK hZ (bb kb) (by have := bb_r hkb; omega) hB.1 rfl 1 (by decide) (hts _ (gm k_53)) (fun _ h9 => h9) rfl d_Prs_align_99 ?_
                  refine lv_iload hx hb d_Prs_align_102 (lv_at hl 0 rfl) ?_
                  refine q_lald hx hb hK hZ (bb kb + 2) 1 (j) (by have := bb_r hkb; omega) hB.2.2.1 rfl rfl (by omega) (by decide) d_Prs_align_104 ?_
                  refine q_last hx hb hK hZ (36) 1 (d) (by decide) hPr.2.2.1 rfl rfl (by omega) (by decide) d_Prs_align_105 (fun H locs hZ => ?_)
                  have hPr := hPr.upN ((vp_updL N d (Nb j)))
                  have hA := hA.off (x := 36) (e := .inl (cL, 128, .inr (.inl (vp_updL N d (Nb j))))) (by have := bb_r hka; omega)
                  have hB := hB.off (x := 36) (e := .inl (cL, 128, .inr (.inl (vp_updL N d (Nb j))))) (by have := bb_r hkb; omega)
                  have hfr := fr_up (x := 36) (e := .inl (cL, 128, .inr (.inl (vp_updL N d (Nb j))))) hfr (by omega) (by omega)
                  have hZ : sZ (dC, dI) vCl 52 ad (fun q => N0 ≤ q) s.heap (va_up w44 36 (.inl (cL, 128, .inr (.inl (vp_updL N d (Nb j)))))) H locs := hZ
                  generalize va_up w44 36 (.inl (cL, 128, .inr (.inl (vp_updL N d (Nb j))))) = w45 at hZ hPr hfr hA hB
                  refine lv_aload_n hx hb d_Prs_align_106 rfl (lv_at hl 5 rfl) ?_
                  refine q_get (C := R_Prs) (T := T_Prs) (N := 5) hx hb hts (fun w h => gm (inT_Prs w h)) hown hK hZ (34) (by decide) hPr.1 rfl 2 (by decide) (hts _ (gm k_82)) (fun _ h9 => h9) rfl d_Prs_align_107 ?_
                  refine lv_aload_n hx hb d_Prs_align_110 rfl (lv_at hl 5 rfl) ?_
                  refine q_get (C := R_Prs) (T := T_Prs) (N := 5) hx hb hts (fun w h => gm (inT_Prs w h)) hown hK hZ (34) (by decide) hPr.1 rfl 4 (by decide) (hts _ (gm k_86)) (fun _ h9 => h9) rfl d_Prs_align_111 ?_
                  refine lv_iload hx hb d_Prs_align_114 (lv_at hl 2 rfl) ?_
                  refine lv_if_gt (tgt := 128) hx hb d_Prs_align_116 (by decide) (fun h116 => ?_) (fun h116 => ?_)
                  · skip
                    refine lv_lconst (v := 0) hx hb d_Prs_align_128 rfl ?_
                    refine q_last hx hb hK hZ (37) 1 (d) (by decide) hPr.2.2.2.1 rfl rfl (by omega) (by decide) d_Prs_align_129 (fun H locs hZ => ?_)
                    have hPr := hPr.upL ((vp_updL L d 0))
                    have hA := hA.off (x := 37) (e := .inl (cL, 128, .inr (.inl (vp_updL L d 0)))) (by have := bb_r hka; omega)
                    have hB := hB.off (x := 37) (e := .inl (cL, 128, .inr (.inl (vp_updL L d 0)))) (by have := bb_r hkb; omega)
                    have hfr := fr_up (x := 37) (e := .inl (cL, 128, .inr (.inl (vp_updL L d 0)))) hfr (by omega) (by omega)
                    have hZ : sZ (dC, dI) vCl 52 ad (fun q => N0 ≤ q) s.heap (va_up w45 37 (.inl (cL, 128, .inr (.inl (vp_updL L d 0))))) H locs := hZ
                    generalize va_up w45 37 (.inl (cL, 128, .inr (.inl (vp_updL L d 0)))) = w46 at hZ hPr hfr hA hB
                    refine lv_aload_n hx hb d_Prs_align_130 rfl (lv_at hl 5 rfl) ?_
                    refine q_get (C := R_Prs) (T := T_Prs) (N := 5) hx hb hts (fun w h => gm (inT_Prs w h)) hown hK hZ (34) (by decide) hPr.1 rfl 3 (by decide) (hts _ (gm k_84)) (fun _ h9 => h9) rfl d_Prs_align_131 ?_
                    refine lv_aload_n hx hb d_Prs_align_134 rfl (lv_at hl 5 rfl) ?_
                    refine q_get (C := R_Prs) (T := T_Prs) (N := 5) hx hb hts (fun w h => gm (inT_Prs w h)) hown hK hZ (34) (by decide) hPr.1 rfl 4 (by decide) (hts _ (gm k_86)) (fun _ h9 => h9) rfl d_Prs_align_135 ?_
                    refine lv_iload hx hb d_Prs_align_138 (lv_at hl 2 rfl) ?_
                    refine lv_if_lt (tgt := 153) hx hb d_Prs_align_140 (by decide) (fun h140 => ?_) (fun h140 => ?_)
                    · skip
                      exact absurd h140 (i32_nl hrs)
                    · skip
                      refine lv_aload_n hx hb d_Prs_align_143 rfl (lv_at hl 7 rfl) ?_
                      refine q_get (C := R_Bag) (T := T_Bag) (N := 4) hx hb hts (fun w h => gm (inT_Bag w h)) hown hK hZ (bb kb) (by have := bb_r hkb; omega) hB.1 rfl 2 (by decide) (hts _ (gm k_56)) (fun _ h9 => h9) rfl d_Prs_align_144 ?_
                      refine lv_iload hx hb d_Prs_align_147 (lv_at hl 4 rfl) ?_
                      refine q_lald hx hb hK hZ (bb kb + 3) 1 (j) (by have := bb_r hkb; omega) hB.2.2.2.1 rfl rfl (by omega) (by decide) d_Prs_align_149 ?_
                      refine lv_goto (tgt := 154) hx hb d_Prs_align_150 (by decide) ?_
                      refine q_last hx hb hK hZ (38) 1 (d) (by decide) hPr.2.2.2.2.1 rfl rfl (by omega) (by decide) d_Prs_align_154 (fun H locs hZ => ?_)
                      have hPr := hPr.upR ((vp_updL R d (Ab j)))
                      have hA := hA.off (x := 38) (e := .inl (cL, 128, .inr (.inl (vp_updL R d (Ab j))))) (by have := bb_r hka; omega)
                      have hB := hB.off (x := 38) (e := .inl (cL, 128, .inr (.inl (vp_updL R d (Ab j))))) (by have := bb_r hkb; omega)
                      have hfr := fr_up (x := 38) (e := .inl (cL, 128, .inr (.inl (vp_updL R d (Ab j))))) hfr (by omega) (by omega)
                      have hZ : sZ (dC, dI) vCl 52 ad (fun q => N0 ≤ q) s.heap (va_up w46 38 (.inl (cL, 128, .inr (.inl (vp_updL R d (Ab j)))))) H locs := hZ
                      generalize va_up w46 38 (.inl (cL, 128, .inr (.inl (vp_updL R d (Ab j))))) = w47 at hZ hPr hfr hA hB
                      refine lv_iload_n hx hb d_Prs_align_155 rfl (lv_at hl 3 rfl) ?_
                      refine lv_iload hx hb d_Prs_align_156 (lv_at hl 2 rfl) ?_
                      refine lv_if_gt (tgt := 165) hx hb d_Prs_align_158 (by decide) (fun h158 => ?_) (fun h158 => ?_)
                      · skip
                        refine lv_iconst (v := (nI 0)) hx hb d_Prs_align_165 rfl ?_
                        refine lv_iadd hx hb d_Prs_align_166 ?_
                        refine q_topi (y := nI (i + 0)) (nI_add _ _) ?_
                        refine lv_istore_n (lv' := [(3, .int (nI (i + 0))), (7, .int (nI j)), (6, .ref (ad (bb kb))), (5, .int r), (4, .int (nI j)), (0, .ref (ad 34)), (1, .ref (ad (bb ka))), (2, .ref (ad (bb kb)))]) hx hb d_Prs_align_167 rfl hl (by decide) rfl (fun ls hl => ?_)
                        refine lv_iload hx hb d_Prs_align_168 (lv_at hl 4 rfl) ?_
                        refine lv_iload hx hb d_Prs_align_170 (lv_at hl 3 rfl) ?_
                        refine lv_if_lt (tgt := 179) hx hb d_Prs_align_172 (by decide) (fun h172 => ?_) (fun h172 => ?_)
                        · skip
                          exact absurd h172 (i32_nl hrs)
                        · skip
                          refine lv_iconst (v := (nI 1)) hx hb d_Prs_align_175 rfl ?_
                          refine lv_goto (tgt := 180) hx hb d_Prs_align_176 (by decide) ?_
                          refine lv_iadd hx hb d_Prs_align_180 ?_
                          refine q_topi (y := nI (j + 1)) (nI_add _ _) ?_
                          refine lv_istore (lv' := [(4, .int (nI (j + 1))), (3, .int (nI (i + 0))), (7, .int (nI j)), (6, .ref (ad (bb kb))), (5, .int r), (0, .ref (ad 34)), (1, .ref (ad (bb ka))), (2, .ref (ad (bb kb)))]) hx hb d_Prs_align_181 hl (by decide) rfl (fun ls hl => ?_)
                          refine lv_aload_n hx hb d_Prs_align_183 rfl (lv_at hl 5 rfl) ?_
                          refine lv_dup hx hb d_Prs_align_184 rfl ?_
                          refine q_get (C := R_Prs) (T := T_Prs) (N := 5) hx hb hts (fun w h => gm (inT_Prs w h)) hown hK hZ (34) (by decide) hPr.1 rfl 4 (by decide) (hts _ (gm k_86)) (fun _ h9 => h9) rfl d_Prs_align_185 ?_
                          refine lv_iconst (v := (nI 1)) hx hb d_Prs_align_188 rfl ?_
                          refine lv_iadd hx hb d_Prs_align_189 ?_
                          refine q_topi (y := nI (d + 1)) (nI_add _ _) ?_
                          refine q_put (C := R_Prs) (T := T_Prs) (N := 5) (ty := .int) (v := .int (nI (d + 1))) hx hb hts (fun w h => gm (inT_Prs w h)) ty_Prs tyo_Prs nm_Prs hown hK hZ (34) (by decide) hPr.1 rfl 4 (by decide) (hts _ (gm k_86)) (fun _ h9 => h9) rfl (by decide +kernel) (rfl) (rfl) (Nat.le_of_ble_eq_true rfl) d_Prs_align_190 (fun H locs hZ => ?_)
                          have hPr := hPr.upC (c' := (d + 1)) (by omega)
                          have hA := hA.off (x := 34) (e := .inr (1, [.ref (ad 35), .ref (ad 36), .ref (ad 37), .ref (ad 38), .int (nI (d + 1))])) (by have := bb_r hka; omega)
                          have hB := hB.off (x := 34) (e := .inr (1, [.ref (ad 35), .ref (ad 36), .ref (ad 37), .ref (ad 38), .int (nI (d + 1))])) (by have := bb_r hkb; omega)
                          have hfr := fr_up (x := 34) (e := .inr (1, [.ref (ad 35), .ref (ad 36), .ref (ad 37), .ref (ad 38), .int (nI (d + 1))])) hfr (by omega) (by omega)
                          have hZ : sZ (dC, dI) vCl 52 ad (fun q => N0 ≤ q) s.heap (va_up w47 34 (.inr (1, [.ref (ad 35), .ref (ad 36), .ref (ad 37), .ref (ad 38), .int (nI (d + 1))]))) H locs := hZ
                          generalize va_up w47 34 (.inr (1, [.ref (ad 35), .ref (ad 36), .ref (ad 37), .ref (ad 38), .int (nI (d + 1))])) = w48 at hZ hPr hfr hA hB
                          refine lv_goto (tgt := 10) hx hb d_Prs_align_193 (by decide) ?_
                          have hlt : ∀ t, t < d → kk P N t < kv (Pb j) (Nb j) := fun t ht => (hM.2.2.2.1 t ht).2 hjz
                          have hM := mG_step (i' := i + 0) (j' := j + 1) (lv := 0) (rv := Ab j) hM hlt (mG_no hCa.2.1 hCa.2.2.1 hM.2.2.2.2.1 hlt hik).symm (hCb.2.2.2 j hjz) (Or.inl rfl) (Or.inr ⟨rfl, hjz, rfl⟩) (by omega) (fun y => hik y) (fun y => hCb.2.1 j (j + 1) (by omega) y)
                          exact ih10 (i + 0) (j + 1) (d + 1) _ _ _ _ w48 _ _ _ (by omega) hA hB hPr hfr hM hZ (lv_sub hl [1, 0, 5, 6, 7] rfl)
                      · skip
                        exact absurd hrs h158
                  · skip
                    exact absurd hrs h116
                · skip
                  exact absurd hrs h61
              · skip
                exact absurd hrs h49
  exact loop10 (za + zb + 1) 0 0 0 _ _ _ _ w18 _ _ _ (by omega) hA hB hPr hfr (mG_0 _ _ _ _) hZ (lv_sub hl [1, 0, 2, 3, 4] rfl)
