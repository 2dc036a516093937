/-! the class Bag: store, and what look asks -/
/-- the place of the greatest as the class tells it -/
def bI (j : Nat) : Int32 := if j = 0 then -1 else nI (j - 1)
theorem nI_nm1 {n : Nat} (h : n < 2 ^ 31) : ¬ nI n = -1 := fun e => by
  have := nI_toInt h
  rw [e, show (-1 : Int32).toInt = -1 by decide] at this
  omega
set_option maxHeartbeats 4000000 in
set_option maxRecDepth 100000 in
theorem c_Bag_store (l : Launch) (dC : Nat → ClassId) (dI : Nat → Nat → Nat) (cI cL cB : ClassId) (ad : Nat → Nat) (N0 : Nat) (w : Nat → va_E) (k z : Nat) (P : Nat → Int32) (N A : Nat → Int64) (q : Int32) (x : Int64) (v : Int64) (F : Int → Int64) (hk : k < 9) (hB : isBag ad cI cL w k z P N A) (hC : cRep z P N A F) : Met l y_Bag_store ws_Bag_store ({ frames := 4, cells := 0, slots := 0, locals := 95 } : Room) (va_Pc [.ref (ad (bb k)), .int q, .long x, .long v] (sPr (dC, dI) vCl [(cI, .int), (cL, .long), (cB, .object "CoinBag$Bag")] 52 ad N0 w)) (va_Qi (fun r u => (eC (fUp F (kv q x) v) ∧ r = 1 ∧ (∃ (z2 : Nat) (P2 : Nat → Int32) (N2 A2 : Nat → Int64), isBag ad cI cL u k z2 P2 N2 A2 ∧ cRep z2 P2 N2 A2 (fUp F (kv q x) v)) ∧ fr w u (bb k) (bb k + 3)) ∨ (¬ eC (fUp F (kv q x) v) ∧ r = 0 ∧ u = w)) (sPr (dC, dI) vCl [(cI, .int), (cL, .long), (cB, .object "CoinBag$Bag")] 52 ad N0) (fun q => N0 ≤ q)) 0 0 (fun q => N0 ≤ q) := by
  refine Met.ofW (cc := b_Bag_store) (maxL := 8) (ret := (some .boolean)) (by decide) rfl ?_
  intro p e s m args below meth c s₁ B hml hv
  obtain ⟨rfl, hP, hK, hD, hN, hAm⟩ := hv
  have hx := B.exec
  have hb := B.bytes
  have hr := B.returns
  have hts := atoms_spec (ws := ws_Bag_store) B.pre
  have hown : s.vm.findClass "CoinBag$Bag" = some m.cls := findClass_of_methodNamed B.named
  have hlocks := B.notSynchronized
  have hZ : sZ (dC, dI) vCl 52 ad (fun q => N0 ≤ q) s.heap w s.heap [] := ⟨hP, hD, va_S.rf⟩
  have hl := lv_entry ([.ref (ad (bb k)), .int q, .long x, .long v]) (n := 8) (Nat.le_of_ble_eq_true rfl)
  rw [lg_entry_eq]
  generalize (lg_sl ([.ref (ad (bb k)), .int q, .long x, .long v]) ++ List.replicate (8 - (lg_sl ([.ref (ad (bb k)), .int q, .long x, .long v])).length) Slot.unset).toArray = ls at hl ⊢
  have hl : lv_has ls 8 [(0, .ref (ad (bb k))), (1, .int q), (2, .long x), (4, .long v)] := hl
  have hz : z ≤ 64 := hB.2.2.2.2
  have hfr : fr w w (bb k) (bb k + 3) := fr_rf
  refine lv_aload_n hx hb d_Bag_store_0 rfl (lv_at hl 0 rfl) ?_
  refine lv_iload_n hx hb d_Bag_store_1 rfl (lv_at hl 1 rfl) ?_
  refine lv_lload_n hx hb d_Bag_store_2 rfl (lv_at hl 2 rfl) ?_
  refine q_calli (va_runV (As := [.int q, .long x]) (rest := []) ⟨hx, hb, hml, hown, hts⟩ (c_Bag_placeFor l dC dI cI cL cB ad N0 w k z P N A q x hk hB) (cwV 2 hts (gI_V k_215 k_212 k_214 k_1 k_22) rfl rfl rfl (by decide +kernel) ⟨Nat.le_of_ble_eq_true rfl, Nat.le_of_ble_eq_true rfl⟩) (q_preV hK hAm hZ hN [.int q, .long x] (bb k) 0 (by have := bb_r hk; omega) hB.1 rfl) rfl rfl hl.1 rfl (lv_room (Nat.le_of_ble_eq_true rfl)) d_Bag_store_3 ⟨Nat.zero_le _, Nat.zero_le _⟩) hZ (fun r u_r H locs h_r hZ => ?_)
  obtain ⟨e_r, i, rfl, hp⟩ := h_r
  rw [e_r] at hZ
  have hi : i ≤ z := hp.1
  refine lv_istore (lv' := [(6, .int (nI i)), (0, .ref (ad (bb k))), (1, .int q), (2, .long x), (4, .long v)]) hx hb d_Bag_store_6 hl (by decide) rfl (fun ls hl => ?_)
  refine lv_aload_n hx hb d_Bag_store_8 rfl (lv_at hl 1 rfl) ?_
  refine lv_iload hx hb d_Bag_store_9 (lv_at hl 0 rfl) ?_
  refine lv_iload_n hx hb d_Bag_store_11 rfl (lv_at hl 2 rfl) ?_
  refine lv_lload_n hx hb d_Bag_store_12 rfl (lv_at hl 3 rfl) ?_
  refine q_calli (va_runV (As := [.int (nI i), .int q, .long x]) (rest := []) ⟨hx, hb, hml, hown, hts⟩ (c_Bag_holdsAt l dC dI cI cL cB ad N0 w k z P N A i q x hk hB (by omega)) (cwV 3 hts (gI_V k_232 k_229 k_231 k_2 k_22) rfl rfl rfl (by decide +kernel) ⟨Nat.le_of_ble_eq_true rfl, Nat.le_of_ble_eq_true rfl⟩) (q_preV hK hAm hZ hN [.int (nI i), .int q, .long x] (bb k) 0 (by have := bb_r hk; omega) hB.1 rfl) rfl rfl hl.1 rfl (lv_room (Nat.le_of_ble_eq_true rfl)) d_Bag_store_13 ⟨Nat.zero_le _, Nat.zero_le _⟩) hZ (fun t u_t H locs h_t hZ => ?_)
  obtain ⟨e_t, ht⟩ := h_t
  rw [e_t] at hZ
  refine lv_istore (lv' := [(7, .int t), (6, .int (nI i)), (0, .ref (ad (bb k))), (1, .int q), (2, .long x), (4, .long v)]) hx hb d_Bag_store_16 hl (by decide) rfl (fun ls hl => ?_)
  refine lv_lload hx hb d_Bag_store_18 (lv_at hl 5 rfl) ?_
  refine lv_lconst (v := 0) hx hb d_Bag_store_20 rfl ?_
  refine W.lcmp hx hb d_Bag_store_21 ?_
  refine lv_if_ne (tgt := 38) hx hb d_Bag_store_22 (by decide) (fun h22 => ?_) (fun h22 => ?_)
  · skip
    rw [lg_cmp_eq] at h22
    refine lv_iload hx hb d_Bag_store_38 (lv_at hl 0 rfl) ?_
    refine lv_if_ne (tgt := 76) hx hb d_Bag_store_40 (by decide) (fun h40 => ?_) (fun h40 => ?_)
    · skip
      have ht0 : i < z ∧ kk P N i = kv q x := ht.elim (fun y => y.1) (fun y => absurd y.2 h40)
      have hiz := ht0.1
      refine lv_aload_n hx hb d_Bag_store_76 rfl (lv_at hl 2 rfl) ?_
      refine q_get (C := R_Bag) (T := T_Bag) (N := 4) hx hb hts (fun w h => gm (inT_Bag w h)) hown hK hZ (bb k) (by have := bb_r hk; omega) hB.1 rfl 2 (by decide) (hts _ (gm k_55)) (fun _ h9 => h9) rfl d_Bag_store_77 ?_
      refine lv_iload hx hb d_Bag_store_80 (lv_at hl 1 rfl) ?_
      refine lv_lload hx hb d_Bag_store_82 (lv_at hl 5 rfl) ?_
      refine q_last hx hb hK hZ (bb k + 3) 1 (i) (by have := bb_r hk; omega) hB.2.2.2.1 rfl rfl (by omega) (by decide) d_Bag_store_84 (fun H locs hZ => ?_)
      have hB := hB.upA ((vp_updL A i v))
      have hZ : sZ (dC, dI) vCl 52 ad (fun q => N0 ≤ q) s.heap (va_up w (bb k + 3) (.inl (cL, 64, .inr (.inl (vp_updL A i v))))) H locs := hZ
      have hfr := fr_up (x := bb k + 3) (e := .inl (cL, 64, .inr (.inl (vp_updL A i v)))) hfr (by omega) (by omega)
      generalize va_up w (bb k + 3) (.inl (cL, 64, .inr (.inl (vp_updL A i v)))) = w14 at hZ hB hfr
      refine lv_iconst (v := (nI 1)) hx hb d_Bag_store_85 rfl ?_
      exact q_zret hx hb hr rfl hlocks hK hAm hZ hN ((by first | exact Or.inl ⟨cRep_C (rep_set hC ht0.1 ht0.2 h22), rfl, ⟨_, _, _, _, hB, rep_set hC ht0.1 ht0.2 h22⟩, hfr⟩ | (have hR := rep_ins hC h49 hp ht0 rfl h22 (fun j => rfl) (fun j => rfl) (fun j => rfl); exact Or.inl ⟨cRep_C hR, rfl, ⟨_, _, _, _, hB, hR⟩, hfr⟩))) d_Bag_store_86
    · skip
      have ht0 : ¬ (i < z ∧ kk P N i = kv q x) := ht.elim (fun y => absurd (y.2.symm.trans h40) (by decide)) (fun y => y.1)
      refine lv_aload_n hx hb d_Bag_store_43 rfl (lv_at hl 2 rfl) ?_
      refine q_get (C := R_Bag) (T := T_Bag) (N := 4) hx hb hts (fun w h => gm (inT_Bag w h)) hown hK hZ (bb k) (by have := bb_r hk; omega) hB.1 rfl 3 (by decide) (hts _ (gm k_58)) (fun _ h9 => h9) rfl d_Bag_store_44 ?_
      refine lv_bipush (v := (nI 64)) hx hb d_Bag_store_47 rfl ?_
      refine lv_icmp_lt (tgt := 54) hx hb d_Bag_store_49 (by decide) (fun h49 => ?_) (fun h49 => ?_)
      · skip
        have h49 : z < 64 := (nI_ltI (a := z) (b := 64) (by omega) (by omega)).mp h49
        refine lv_aload_n hx hb d_Bag_store_54 rfl (lv_at hl 2 rfl) ?_
        refine lv_iload hx hb d_Bag_store_55 (lv_at hl 1 rfl) ?_
        refine q_callv (va_runV (As := [.int (nI i)]) (rest := []) ⟨hx, hb, hml, hown, hts⟩ (c_Bag_makeRoomAt l dC dI cI cL cB ad N0 w k z P N A i hk hB (by omega) (by omega)) (cwV 1 hts (gI_V k_243 k_240 k_242 k_4 k_22) rfl rfl rfl (by decide +kernel) ⟨Nat.le_of_ble_eq_true rfl, Nat.le_of_ble_eq_true rfl⟩) (q_preV hK hAm hZ hN [.int (nI i)] (bb k) 0 (by have := bb_r hk; omega) hB.1 rfl) rfl rfl hl.1 rfl (lv_room (Nat.le_of_ble_eq_true rfl)) d_Bag_store_57 ⟨Nat.zero_le _, Nat.zero_le _⟩) hZ (fun u_s H locs h_s hZ => ?_)
        obtain ⟨hB, hfr⟩ := h_s
        refine lv_aload_n hx hb d_Bag_store_60 rfl (lv_at hl 2 rfl) ?_
        refine q_get (C := R_Bag) (T := T_Bag) (N := 4) hx hb hts (fun w h => gm (inT_Bag w h)) hown hK hZ (bb k) (by have := bb_r hk; omega) hB.1 rfl 0 (by decide) (hts _ (gm k_49)) (fun _ h9 => h9) rfl d_Bag_store_61 ?_
        refine lv_iload hx hb d_Bag_store_64 (lv_at hl 1 rfl) ?_
        refine lv_iload_n hx hb d_Bag_store_66 rfl (lv_at hl 3 rfl) ?_
        refine q_iast hx hb hK hZ (bb k + 1) 0 (i) (by have := bb_r hk; omega) hB.2.1 rfl rfl (by omega) (by decide) d_Bag_store_67 (fun H locs hZ => ?_)
        have hB := hB.upP ((upd (va_cpy P P i (i + 1) (z - i)) i q))
        have hZ : sZ (dC, dI) vCl 52 ad (fun q => N0 ≤ q) s.heap (va_up u_s (bb k + 1) (.inl (cI, 64, .inl (upd (va_cpy P P i (i + 1) (z - i)) i q)))) H locs := hZ
        have hfr := fr_up (x := bb k + 1) (e := .inl (cI, 64, .inl (upd (va_cpy P P i (i + 1) (z - i)) i q))) hfr (by omega) (by omega)
        generalize va_up u_s (bb k + 1) (.inl (cI, 64, .inl (upd (va_cpy P P i (i + 1) (z - i)) i q))) = w15 at hZ hB hfr
        refine lv_aload_n hx hb d_Bag_store_68 rfl (lv_at hl 2 rfl) ?_
        refine q_get (C := R_Bag) (T := T_Bag) (N := 4) hx hb hts (fun w h => gm (inT_Bag w h)) hown hK hZ (bb k) (by have := bb_r hk; omega) hB.1 rfl 1 (by decide) (hts _ (gm k_52)) (fun _ h9 => h9) rfl d_Bag_store_69 ?_
        refine lv_iload hx hb d_Bag_store_72 (lv_at hl 1 rfl) ?_
        refine lv_lload_n hx hb d_Bag_store_74 rfl (lv_at hl 4 rfl) ?_
        refine q_last hx hb hK hZ (bb k + 2) 1 (i) (by have := bb_r hk; omega) hB.2.2.1 rfl rfl (by omega) (by decide) d_Bag_store_75 (fun H locs hZ => ?_)
        have hB := hB.upN ((vp_updL (va_cpy N N i (i + 1) (z - i)) i x))
        have hZ : sZ (dC, dI) vCl 52 ad (fun q => N0 ≤ q) s.heap (va_up w15 (bb k + 2) (.inl (cL, 64, .inr (.inl (vp_updL (va_cpy N N i (i + 1) (z - i)) i x))))) H locs := hZ
        have hfr := fr_up (x := bb k + 2) (e := .inl (cL, 64, .inr (.inl (vp_updL (va_cpy N N i (i + 1) (z - i)) i x)))) hfr (by omega) (by omega)
        generalize va_up w15 (bb k + 2) (.inl (cL, 64, .inr (.inl (vp_updL (va_cpy N N i (i + 1) (z - i)) i x)))) = w16 at hZ hB hfr
        refine lv_aload_n hx hb d_Bag_store_76 rfl (lv_at hl 2 rfl) ?_
        refine q_get (C := R_Bag) (T := T_Bag) (N := 4) hx hb hts (fun w h => gm (inT_Bag w h)) hown hK hZ (bb k) (by have := bb_r hk; omega) hB.1 rfl 2 (by decide) (hts _ (gm k_55)) (fun _ h9 => h9) rfl d_Bag_store_77 ?_
        refine lv_iload hx hb d_Bag_store_80 (lv_at hl 1 rfl) ?_
        refine lv_lload hx hb d_Bag_store_82 (lv_at hl 5 rfl) ?_
        refine q_last hx hb hK hZ (bb k + 3) 1 (i) (by have := bb_r hk; omega) hB.2.2.2.1 rfl rfl (by omega) (by decide) d_Bag_store_84 (fun H locs hZ => ?_)
        have hB := hB.upA ((vp_updL (va_cpy A A i (i + 1) (z - i)) i v))
        have hZ : sZ (dC, dI) vCl 52 ad (fun q => N0 ≤ q) s.heap (va_up w16 (bb k + 3) (.inl (cL, 64, .inr (.inl (vp_updL (va_cpy A A i (i + 1) (z - i)) i v))))) H locs := hZ
        have hfr := fr_up (x := bb k + 3) (e := .inl (cL, 64, .inr (.inl (vp_updL (va_cpy A A i (i + 1) (z - i)) i v)))) hfr (by omega) (by omega)
        generalize va_up w16 (bb k + 3) (.inl (cL, 64, .inr (.inl (vp_updL (va_cpy A A i (i + 1) (z - i)) i v)))) = w17 at hZ hB hfr
        refine lv_iconst (v := (nI 1)) hx hb d_Bag_store_85 rfl ?_
        exact q_zret hx hb hr rfl hlocks hK hAm hZ hN ((by first | exact Or.inl ⟨cRep_C (rep_set hC ht0.1 ht0.2 h22), rfl, ⟨_, _, _, _, hB, rep_set hC ht0.1 ht0.2 h22⟩, hfr⟩ | (have hR := rep_ins hC h49 hp ht0 rfl h22 (fun j => rfl) (fun j => rfl) (fun j => rfl); exact Or.inl ⟨cRep_C hR, rfl, ⟨_, _, _, _, hB, hR⟩, hfr⟩))) d_Bag_store_86
      · skip
        have h49 : 64 ≤ z := Nat.le_of_not_lt (fun z9 => h49 ((nI_ltI (a := z) (b := 64) (by omega) (by omega)).mpr z9))
        refine lv_iconst (v := (nI 0)) hx hb d_Bag_store_52 rfl ?_
        exact q_zret hx hb hr rfl hlocks hK hAm hZ hN (Or.inr ⟨full_not (cRep_M hC) h49 (look_n hC hp ht0) h22, rfl, rfl⟩) d_Bag_store_53
  · skip
    rw [lg_cmp_eq] at h22
    subst h22
    refine lv_iload hx hb d_Bag_store_25 (lv_at hl 0 rfl) ?_
    refine lv_if_eq (tgt := 36) hx hb d_Bag_store_27 (by decide) (fun h27 => ?_) (fun h27 => ?_)
    · skip
      have ht0 : ¬ (i < z ∧ kk P N i = kv q x) := ht.elim (fun y => absurd (y.2.symm.trans h27) (by decide)) (fun y => y.1)
      refine lv_iconst (v := (nI 1)) hx hb d_Bag_store_36 rfl ?_
      exact q_zret hx hb hr rfl hlocks hK hAm hZ hN ((by first | exact Or.inl ⟨cRep_C (rep_del hC ht0.1 ht0.2), rfl, ⟨_, _, _, _, hB, rep_del hC ht0.1 ht0.2⟩, hfr⟩ | (have e0 : fUp F (kv q x) 0 = F := fUp_0 (look_n hC hp ht0); exact Or.inl ⟨by rw [e0]; exact cRep_C hC, rfl, ⟨_, _, _, _, hB, by rw [e0]; exact hC⟩, hfr⟩))) d_Bag_store_37
    · skip
      have ht0 : i < z ∧ kk P N i = kv q x := ht.elim (fun y => y.1) (fun y => absurd y.2 h27)
      have hiz := ht0.1
      refine lv_aload_n hx hb d_Bag_store_30 rfl (lv_at hl 2 rfl) ?_
      refine lv_iload hx hb d_Bag_store_31 (lv_at hl 1 rfl) ?_
      refine q_callv (va_runV (As := [.int (nI i)]) (rest := []) ⟨hx, hb, hml, hown, hts⟩ (c_Bag_removeAt l dC dI cI cL cB ad N0 w k z P N A i hk hB hiz) (cwV 1 hts (gI_V k_236 k_233 k_235 k_3 k_22) rfl rfl rfl (by decide +kernel) ⟨Nat.le_of_ble_eq_true rfl, Nat.le_of_ble_eq_true rfl⟩) (q_preV hK hAm hZ hN [.int (nI i)] (bb k) 0 (by have := bb_r hk; omega) hB.1 rfl) rfl rfl hl.1 rfl (lv_room (Nat.le_of_ble_eq_true rfl)) d_Bag_store_33 ⟨Nat.zero_le _, Nat.zero_le _⟩) hZ (fun u_s H locs h_s hZ => ?_)
      obtain ⟨hB, hfr⟩ := h_s
      refine lv_iconst (v := (nI 1)) hx hb d_Bag_store_36 rfl ?_
      exact q_zret hx hb hr rfl hlocks hK hAm hZ hN ((by first | exact Or.inl ⟨cRep_C (rep_del hC ht0.1 ht0.2), rfl, ⟨_, _, _, _, hB, rep_del hC ht0.1 ht0.2⟩, hfr⟩ | (have e0 : fUp F (kv q x) 0 = F := fUp_0 (look_n hC hp ht0); exact Or.inl ⟨by rw [e0]; exact cRep_C hC, rfl, ⟨_, _, _, _, hB, by rw [e0]; exact hC⟩, hfr⟩))) d_Bag_store_37
set_option maxHeartbeats 4000000 in
set_option maxRecDepth 100000 in
theorem c_Bag_countPolicies (l : Launch) (dC : Nat → ClassId) (dI : Nat → Nat → Nat) (cI cL cB : ClassId) (ad : Nat → Nat) (N0 : Nat) (w : Nat → va_E) (k z : Nat) (P : Nat → Int32) (N A : Nat → Int64)  (hk : k < 9) (hB : isBag ad cI cL w k z P N A) : Met l y_Bag_countPolicies ws_Bag_countPolicies ({ frames := 0, cells := 0, slots := 0, locals := 0 } : Room) (va_Pc [.ref (ad (bb k))] (sPr (dC, dI) vCl [(cI, .int), (cL, .long), (cB, .object "CoinBag$Bag")] 52 ad N0 w)) (va_Qi (fun r u => u = w ∧ r = nI (cP P z)) (sPr (dC, dI) vCl [(cI, .int), (cL, .long), (cB, .object "CoinBag$Bag")] 52 ad N0) (fun q => N0 ≤ q)) 0 0 (fun q => N0 ≤ q) := by
  refine Met.ofW (cc := b_Bag_countPolicies) (maxL := 3) (ret := (some .int)) (by decide) rfl ?_
  intro p e s m args below meth c s₁ B hml hv
  obtain ⟨rfl, hP, hK, hD, hN, hAm⟩ := hv
  have hx := B.exec
  have hb := B.bytes
  have hr := B.returns
  have hts := atoms_spec (ws := ws_Bag_countPolicies) B.pre
  have hown : s.vm.findClass "CoinBag$Bag" = some m.cls := findClass_of_methodNamed B.named
  have hlocks := B.notSynchronized
  have hZ : sZ (dC, dI) vCl 52 ad (fun q => N0 ≤ q) s.heap w s.heap [] := ⟨hP, hD, va_S.rf⟩
  have hl := lv_entry ([.ref (ad (bb k))]) (n := 3) (Nat.le_of_ble_eq_true rfl)
  rw [lg_entry_eq]
  generalize (lg_sl ([.ref (ad (bb k))]) ++ List.replicate (3 - (lg_sl ([.ref (ad (bb k))])).length) Slot.unset).toArray = ls at hl ⊢
  have hl : lv_has ls 3 [(0, .ref (ad (bb k)))] := hl
  have hz : z ≤ 64 := hB.2.2.2.2
  refine lv_iconst (v := (nI 0)) hx hb d_Bag_countPolicies_0 rfl ?_
  refine lv_istore_n (lv' := [(1, .int (nI 0)), (0, .ref (ad (bb k)))]) hx hb d_Bag_countPolicies_1 rfl hl (by decide) rfl (fun ls hl => ?_)
  refine lv_iconst (v := (nI 0)) hx hb d_Bag_countPolicies_2 rfl ?_
  refine lv_istore_n (lv' := [(2, .int (nI 0)), (1, .int (nI 0)), (0, .ref (ad (bb k)))]) hx hb d_Bag_countPolicies_3 rfl hl (by decide) rfl (fun ls hl => ?_)
  have loop4 : ∀ (fu4 : Nat) (i : Nat) (H : Heap) (locs : List Loc) (ls : Array Slot), (i ≤ z) → (z + 1 ≤ i + fu4) → sZ (dC, dI) vCl 52 ad (fun q => N0 ≤ q) s.heap w H locs → lv_has ls 3 [(1, .int (nI (cP P i))), (2, .int (nI i)), (0, .ref (ad (bb k)))] → W p l e (headSpec ws_Bag_countPolicies ({ frames := 0, cells := 0, slots := 0, locals := 0 } : Room)).room s m ([.ref (ad (bb k))]).toArray below meth c H locs 0 0 (MQ below (va_Qi (fun r u => u = w ∧ r = nI (cP P z)) (sPr (dC, dI) vCl [(cI, .int), (cL, .long), (cB, .object "CoinBag$Bag")] 52 ad N0) (fun q => N0 ≤ q)) ([.ref (ad (bb k))]).toArray s 0 0 (fun q => N0 ≤ q)) (F0 m 4 ls []) := by
    intro fu4
    induction fu4 with
    | zero =>
      intro i H locs ls hi hf
      omega
    | succ fu4 ih4 =>
      intro i H locs ls hi hf hZ hl
      refine lv_iload_n hx hb d_Bag_countPolicies_4 rfl (lv_at hl 1 rfl) ?_
      refine lv_aload_n hx hb d_Bag_countPolicies_5 rfl (lv_at hl 2 rfl) ?_
      refine q_get (C := R_Bag) (T := T_Bag) (N := 4) hx hb hts (fun w h => gm (inT_Bag w h)) hown hK hZ (bb k) (by have := bb_r hk; omega) hB.1 rfl 3 (by decide) (hts _ (gm k_58)) (fun _ h9 => h9) rfl d_Bag_countPolicies_6 ?_
      refine lv_icmp_ge (tgt := 42) hx hb d_Bag_countPolicies_9 (by decide) (fun h9 => ?_) (fun h9 => ?_)
      · skip
        have h9 : z ≤ i := (nI_leI (a := z) (b := i) (by omega) (by omega)).mp h9
        refine lv_iload_n hx hb d_Bag_countPolicies_42 rfl (lv_at hl 0 rfl) ?_
        exact q_iret hx hb hr hlocks hK hAm hZ hN (⟨rfl, by rw [show i = z by omega]⟩) d_Bag_countPolicies_43
      · skip
        have h9 : i < z := Nat.lt_of_not_le (fun z9 => h9 ((nI_leI (a := z) (b := i) (by omega) (by omega)).mpr z9))
        refine lv_iload_n hx hb d_Bag_countPolicies_12 rfl (lv_at hl 1 rfl) ?_
        refine lv_if_eq (tgt := 33) hx hb d_Bag_countPolicies_13 (by decide) (fun h13 => ?_) (fun h13 => ?_)
        · skip
          have h13 : i = 0 := (nI_eq (a := i) (b := 0) (by omega) (by omega)).mp h13
          refine lv_iinc (v := (nI ((cP P i) + 1))) (lv' := [(1, .int (nI ((cP P i) + 1))), (2, .int (nI i)), (0, .ref (ad (bb k)))]) hx hb d_Bag_countPolicies_33 hl (k := 0) rfl (nI_1 _) (by decide) rfl (fun ls hl => ?_)
          refine lv_iinc (v := (nI (i + 1))) (lv' := [(2, .int (nI (i + 1))), (1, .int (nI ((cP P i) + 1))), (0, .ref (ad (bb k)))]) hx hb d_Bag_countPolicies_36 hl (k := 1) rfl (nI_1 _) (by decide) rfl (fun ls hl => ?_)
          refine lv_goto (tgt := 4) hx hb d_Bag_countPolicies_39 (by decide) ?_
          have e9 : cP P (i + 1) = cP P i + 1 := by
            show cP P i + (if i = 0 ∨ ¬ P i = P (i - 1) then 1 else 0) = _
            rw [if_pos (by first | exact Or.inl h13 | exact Or.inr h30)]
          rw [← e9] at hl
          exact ih4 (i + 1) _ _ _ (by omega) (by omega) hZ (lv_sub hl [1, 0, 2] rfl)
        · skip
          have h13 : ¬ i = 0 := fun z9 => h13 ((nI_eq (a := i) (b := 0) (by omega) (by omega)).mpr z9)
          refine lv_aload_n hx hb d_Bag_countPolicies_16 rfl (lv_at hl 2 rfl) ?_
          refine q_get (C := R_Bag) (T := T_Bag) (N := 4) hx hb hts (fun w h => gm (inT_Bag w h)) hown hK hZ (bb k) (by have := bb_r hk; omega) hB.1 rfl 0 (by decide) (hts _ (gm k_49)) (fun _ h9 => h9) rfl d_Bag_countPolicies_17 ?_
          refine lv_iload_n hx hb d_Bag_countPolicies_20 rfl (lv_at hl 1 rfl) ?_
          refine q_iald hx hb hK hZ (bb k + 1) 0 (i) (by have := bb_r hk; omega) hB.2.1 rfl rfl (by omega) (by decide) d_Bag_countPolicies_21 ?_
          refine lv_aload_n hx hb d_Bag_countPolicies_22 rfl (lv_at hl 2 rfl) ?_
          refine q_get (C := R_Bag) (T := T_Bag) (N := 4) hx hb hts (fun w h => gm (inT_Bag w h)) hown hK hZ (bb k) (by have := bb_r hk; omega) hB.1 rfl 0 (by decide) (hts _ (gm k_49)) (fun _ h9 => h9) rfl d_Bag_countPolicies_23 ?_
          refine lv_iload_n hx hb d_Bag_countPolicies_26 rfl (lv_at hl 1 rfl) ?_
          refine lv_iconst (v := (nI 1)) hx hb d_Bag_countPolicies_27 rfl ?_
          refine lv_isub hx hb d_Bag_countPolicies_28 ?_
          refine q_topi (y := nI (i - 1)) (pk_sub (by omega)) ?_
          refine q_iald hx hb hK hZ (bb k + 1) 0 ((i - 1)) (by have := bb_r hk; omega) hB.2.1 rfl rfl (by omega) (by decide) d_Bag_countPolicies_29 ?_
          refine lv_icmp_eq (tgt := 36) hx hb d_Bag_countPolicies_30 (by decide) (fun h30 => ?_) (fun h30 => ?_)
          · skip
            refine lv_iinc (v := (nI (i + 1))) (lv' := [(2, .int (nI (i + 1))), (1, .int (nI (cP P i))), (0, .ref (ad (bb k)))]) hx hb d_Bag_countPolicies_36 hl (k := 1) rfl (nI_1 _) (by decide) rfl (fun ls hl => ?_)
            refine lv_goto (tgt := 4) hx hb d_Bag_countPolicies_39 (by decide) ?_
            have e9 : cP P (i + 1) = cP P i := by
              show cP P i + (if i = 0 ∨ ¬ P i = P (i - 1) then 1 else 0) = _
              rw [if_neg (by first | exact fun y => y.elim h13 (fun y => y h30)), Nat.add_zero]
            rw [← e9] at hl
            exact ih4 (i + 1) _ _ _ (by omega) (by omega) hZ (lv_sub hl [1, 0, 2] rfl)
          · skip
            refine lv_iinc (v := (nI ((cP P i) + 1))) (lv' := [(1, .int (nI ((cP P i) + 1))), (2, .int (nI i)), (0, .ref (ad (bb k)))]) hx hb d_Bag_countPolicies_33 hl (k := 0) rfl (nI_1 _) (by decide) rfl (fun ls hl => ?_)
            refine lv_iinc (v := (nI (i + 1))) (lv' := [(2, .int (nI (i + 1))), (1, .int (nI ((cP P i) + 1))), (0, .ref (ad (bb k)))]) hx hb d_Bag_countPolicies_36 hl (k := 1) rfl (nI_1 _) (by decide) rfl (fun ls hl => ?_)
            refine lv_goto (tgt := 4) hx hb d_Bag_countPolicies_39 (by decide) ?_
            have e9 : cP P (i + 1) = cP P i + 1 := by
              show cP P i + (if i = 0 ∨ ¬ P i = P (i - 1) then 1 else 0) = _
              rw [if_pos (by first | exact Or.inl h13 | exact Or.inr h30)]
            rw [← e9] at hl
            exact ih4 (i + 1) _ _ _ (by omega) (by omega) hZ (lv_sub hl [1, 0, 2] rfl)
  exact loop4 (z + 1) 0 _ _ _ (Nat.zero_le z) (by omega) hZ (lv_sub hl [1, 0, 2] rfl)
set_option maxHeartbeats 4000000 in
set_option maxRecDepth 100000 in
theorem c_Bag_countBelowZero (l : Launch) (dC : Nat → ClassId) (dI : Nat → Nat → Nat) (cI cL cB : ClassId) (ad : Nat → Nat) (N0 : Nat) (w : Nat → va_E) (k z : Nat) (P : Nat → Int32) (N A : Nat → Int64)  (hk : k < 9) (hB : isBag ad cI cL w k z P N A) : Met l y_Bag_countBelowZero ws_Bag_countBelowZero ({ frames := 0, cells := 0, slots := 0, locals := 0 } : Room) (va_Pc [.ref (ad (bb k))] (sPr (dC, dI) vCl [(cI, .int), (cL, .long), (cB, .object "CoinBag$Bag")] 52 ad N0 w)) (va_Qi (fun r u => u = w ∧ r = nI (cN A z)) (sPr (dC, dI) vCl [(cI, .int), (cL, .long), (cB, .object "CoinBag$Bag")] 52 ad N0) (fun q => N0 ≤ q)) 0 0 (fun q => N0 ≤ q) := by
  refine Met.ofW (cc := b_Bag_countBelowZero) (maxL := 3) (ret := (some .int)) (by decide) rfl ?_
  intro p e s m args below meth c s₁ B hml hv
  obtain ⟨rfl, hP, hK, hD, hN, hAm⟩ := hv
  have hx := B.exec
  have hb := B.bytes
  have hr := B.returns
  have hts := atoms_spec (ws := ws_Bag_countBelowZero) B.pre
  have hown : s.vm.findClass "CoinBag$Bag" = some m.cls := findClass_of_methodNamed B.named
  have hlocks := B.notSynchronized
  have hZ : sZ (dC, dI) vCl 52 ad (fun q => N0 ≤ q) s.heap w s.heap [] := ⟨hP, hD, va_S.rf⟩
  have hl := lv_entry ([.ref (ad (bb k))]) (n := 3) (Nat.le_of_ble_eq_true rfl)
  rw [lg_entry_eq]
  generalize (lg_sl ([.ref (ad (bb k))]) ++ List.replicate (3 - (lg_sl ([.ref (ad (bb k))])).length) Slot.unset).toArray = ls at hl ⊢
  have hl : lv_has ls 3 [(0, .ref (ad (bb k)))] := hl
  have hz : z ≤ 64 := hB.2.2.2.2
  refine lv_iconst (v := (nI 0)) hx hb d_Bag_countBelowZero_0 rfl ?_
  refine lv_istore_n (lv' := [(1, .int (nI 0)), (0, .ref (ad (bb k)))]) hx hb d_Bag_countBelowZero_1 rfl hl (by decide) rfl (fun ls hl => ?_)
  refine lv_iconst (v := (nI 0)) hx hb d_Bag_countBelowZero_2 rfl ?_
  refine lv_istore_n (lv' := [(2, .int (nI 0)), (1, .int (nI 0)), (0, .ref (ad (bb k)))]) hx hb d_Bag_countBelowZero_3 rfl hl (by decide) rfl (fun ls hl => ?_)
  have loop4 : ∀ (fu4 : Nat) (i : Nat) (H : Heap) (locs : List Loc) (ls : Array Slot), (i ≤ z) → (z + 1 ≤ i + fu4) → sZ (dC, dI) vCl 52 ad (fun q => N0 ≤ q) s.heap w H locs → lv_has ls 3 [(1, .int (nI (cN A i))), (2, .int (nI i)), (0, .ref (ad (bb k)))] → W p l e (headSpec ws_Bag_countBelowZero ({ frames := 0, cells := 0, slots := 0, locals := 0 } : Room)).room s m ([.ref (ad (bb k))]).toArray below meth c H locs 0 0 (MQ below (va_Qi (fun r u => u = w ∧ r = nI (cN A z)) (sPr (dC, dI) vCl [(cI, .int), (cL, .long), (cB, .object "CoinBag$Bag")] 52 ad N0) (fun q => N0 ≤ q)) ([.ref (ad (bb k))]).toArray s 0 0 (fun q => N0 ≤ q)) (F0 m 4 ls []) := by
    intro fu4
    induction fu4 with
    | zero =>
      intro i H locs ls hi hf
      omega
    | succ fu4 ih4 =>
      intro i H locs ls hi hf hZ hl
      refine lv_iload_n hx hb d_Bag_countBelowZero_4 rfl (lv_at hl 1 rfl) ?_
      refine lv_aload_n hx hb d_Bag_countBelowZero_5 rfl (lv_at hl 2 rfl) ?_
      refine q_get (C := R_Bag) (T := T_Bag) (N := 4) hx hb hts (fun w h => gm (inT_Bag w h)) hown hK hZ (bb k) (by have := bb_r hk; omega) hB.1 rfl 3 (by decide) (hts _ (gm k_58)) (fun _ h9 => h9) rfl d_Bag_countBelowZero_6 ?_
      refine lv_icmp_ge (tgt := 32) hx hb d_Bag_countBelowZero_9 (by decide) (fun h9 => ?_) (fun h9 => ?_)
      · skip
        have h9 : z ≤ i := (nI_leI (a := z) (b := i) (by omega) (by omega)).mp h9
        refine lv_iload_n hx hb d_Bag_countBelowZero_32 rfl (lv_at hl 0 rfl) ?_
        exact q_iret hx hb hr hlocks hK hAm hZ hN (⟨rfl, by rw [show i = z by omega]⟩) d_Bag_countBelowZero_33
      · skip
        have h9 : i < z := Nat.lt_of_not_le (fun z9 => h9 ((nI_leI (a := z) (b := i) (by omega) (by omega)).mpr z9))
        refine lv_aload_n hx hb d_Bag_countBelowZero_12 rfl (lv_at hl 2 rfl) ?_
        refine q_get (C := R_Bag) (T := T_Bag) (N := 4) hx hb hts (fun w h => gm (inT_Bag w h)) hown hK hZ (bb k) (by have := bb_r hk; omega) hB.1 rfl 2 (by decide) (hts _ (gm k_55)) (fun _ h9 => h9) rfl d_Bag_countBelowZero_13 ?_
        refine lv_iload_n hx hb d_Bag_countBelowZero_16 rfl (lv_at hl 1 rfl) ?_
        refine q_lald hx hb hK hZ (bb k + 3) 1 (i) (by have := bb_r hk; omega) hB.2.2.2.1 rfl rfl (by omega) (by decide) d_Bag_countBelowZero_17 ?_
        refine lv_lconst (v := 0) hx hb d_Bag_countBelowZero_18 rfl ?_
        refine W.lcmp hx hb d_Bag_countBelowZero_19 ?_
        refine lv_if_ge (tgt := 26) hx hb d_Bag_countBelowZero_20 (by decide) (fun h20 => ?_) (fun h20 => ?_)
        · skip
          rw [lg_cmp_ge] at h20
          refine lv_iinc (v := (nI (i + 1))) (lv' := [(2, .int (nI (i + 1))), (1, .int (nI (cN A i))), (0, .ref (ad (bb k)))]) hx hb d_Bag_countBelowZero_26 hl (k := 1) rfl (nI_1 _) (by decide) rfl (fun ls hl => ?_)
          refine lv_goto (tgt := 4) hx hb d_Bag_countBelowZero_29 (by decide) ?_
          have e9 : cN A (i + 1) = cN A i := by
            show cN A i + (if A i < 0 then 1 else 0) = _
            rw [if_neg (by first | exact Int64.not_lt.mpr h20), Nat.add_zero]
          rw [← e9] at hl
          exact ih4 (i + 1) _ _ _ (by omega) (by omega) hZ (lv_sub hl [1, 0, 2] rfl)
        · skip
          rw [lg_cmp_ge] at h20
          refine lv_iinc (v := (nI ((cN A i) + 1))) (lv' := [(1, .int (nI ((cN A i) + 1))), (2, .int (nI i)), (0, .ref (ad (bb k)))]) hx hb d_Bag_countBelowZero_23 hl (k := 0) rfl (nI_1 _) (by decide) rfl (fun ls hl => ?_)
          refine lv_iinc (v := (nI (i + 1))) (lv' := [(2, .int (nI (i + 1))), (1, .int (nI ((cN A i) + 1))), (0, .ref (ad (bb k)))]) hx hb d_Bag_countBelowZero_26 hl (k := 1) rfl (nI_1 _) (by decide) rfl (fun ls hl => ?_)
          refine lv_goto (tgt := 4) hx hb d_Bag_countBelowZero_29 (by decide) ?_
          have e9 : cN A (i + 1) = cN A i + 1 := by
            show cN A i + (if A i < 0 then 1 else 0) = _
            rw [if_pos (by first | exact Int64.not_le.mp h20)]
          rw [← e9] at hl
          exact ih4 (i + 1) _ _ _ (by omega) (by omega) hZ (lv_sub hl [1, 0, 2] rfl)
  exact loop4 (z + 1) 0 _ _ _ (Nat.zero_le z) (by omega) hZ (lv_sub hl [1, 0, 2] rfl)
set_option maxHeartbeats 4000000 in
set_option maxRecDepth 100000 in
theorem c_Bag_placeOfGreatest (l : Launch) (dC : Nat → ClassId) (dI : Nat → Nat → Nat) (cI cL cB : ClassId) (ad : Nat → Nat) (N0 : Nat) (w : Nat → va_E) (k z : Nat) (P : Nat → Int32) (N A : Nat → Int64)  (hk : k < 9) (hB : isBag ad cI cL w k z P N A) : Met l y_Bag_placeOfGreatest ws_Bag_placeOfGreatest ({ frames := 0, cells := 0, slots := 0, locals := 0 } : Room) (va_Pc [.ref (ad (bb k))] (sPr (dC, dI) vCl [(cI, .int), (cL, .long), (cB, .object "CoinBag$Bag")] 52 ad N0 w)) (va_Qi (fun r u => u = w ∧ r = bI (cGr A z)) (sPr (dC, dI) vCl [(cI, .int), (cL, .long), (cB, .object "CoinBag$Bag")] 52 ad N0) (fun q => N0 ≤ q)) 0 0 (fun q => N0 ≤ q) := by
  refine Met.ofW (cc := b_Bag_placeOfGreatest) (maxL := 3) (ret := (some .int)) (by decide) rfl ?_
  intro p e s m args below meth c s₁ B hml hv
  obtain ⟨rfl, hP, hK, hD, hN, hAm⟩ := hv
  have hx := B.exec
  have hb := B.bytes
  have hr := B.returns
  have hts := atoms_spec (ws := ws_Bag_placeOfGreatest) B.pre
  have hown : s.vm.findClass "CoinBag$Bag" = some m.cls := findClass_of_methodNamed B.named
  have hlocks := B.notSynchronized
  have hZ : sZ (dC, dI) vCl 52 ad (fun q => N0 ≤ q) s.heap w s.heap [] := ⟨hP, hD, va_S.rf⟩
  have hl := lv_entry ([.ref (ad (bb k))]) (n := 3) (Nat.le_of_ble_eq_true rfl)
  rw [lg_entry_eq]
  generalize (lg_sl ([.ref (ad (bb k))]) ++ List.replicate (3 - (lg_sl ([.ref (ad (bb k))])).length) Slot.unset).toArray = ls at hl ⊢
  have hl : lv_has ls 3 [(0, .ref (ad (bb k)))] := hl
  have hz : z ≤ 64 := hB.2.2.2.2
  refine lv_iconst (v := (-1)) hx hb d_Bag_placeOfGreatest_0 rfl ?_
  refine lv_istore_n (lv' := [(1, .int (-1)), (0, .ref (ad (bb k)))]) hx hb d_Bag_placeOfGreatest_1 rfl hl (by decide) rfl (fun ls hl => ?_)
  refine lv_iconst (v := (nI 0)) hx hb d_Bag_placeOfGreatest_2 rfl ?_
  refine lv_istore_n (lv' := [(2, .int (nI 0)), (1, .int (-1)), (0, .ref (ad (bb k)))]) hx hb d_Bag_placeOfGreatest_3 rfl hl (by decide) rfl (fun ls hl => ?_)
  have loop4 : ∀ (fu4 : Nat) (i : Nat) (H : Heap) (locs : List Loc) (ls : Array Slot), (i ≤ z) → (z + 1 ≤ i + fu4) → sZ (dC, dI) vCl 52 ad (fun q => N0 ≤ q) s.heap w H locs → lv_has ls 3 [(1, .int (bI (cGr A i))), (2, .int (nI i)), (0, .ref (ad (bb k)))] → W p l e (headSpec ws_Bag_placeOfGreatest ({ frames := 0, cells := 0, slots := 0, locals := 0 } : Room)).room s m ([.ref (ad (bb k))]).toArray below meth c H locs 0 0 (MQ below (va_Qi (fun r u => u = w ∧ r = bI (cGr A z)) (sPr (dC, dI) vCl [(cI, .int), (cL, .long), (cB, .object "CoinBag$Bag")] 52 ad N0) (fun q => N0 ≤ q)) ([.ref (ad (bb k))]).toArray s 0 0 (fun q => N0 ≤ q)) (F0 m 4 ls []) := by
    intro fu4
    induction fu4 with
    | zero =>
      intro i H locs ls hi hf
      omega
    | succ fu4 ih4 =>
      intro i H locs ls hi hf hZ hl
      refine lv_iload_n hx hb d_Bag_placeOfGreatest_4 rfl (lv_at hl 1 rfl) ?_
      refine lv_aload_n hx hb d_Bag_placeOfGreatest_5 rfl (lv_at hl 2 rfl) ?_
      refine q_get (C := R_Bag) (T := T_Bag) (N := 4) hx hb hts (fun w h => gm (inT_Bag w h)) hown hK hZ (bb k) (by have := bb_r hk; omega) hB.1 rfl 3 (by decide) (hts _ (gm k_58)) (fun _ h9 => h9) rfl d_Bag_placeOfGreatest_6 ?_
      refine lv_icmp_ge (tgt := 41) hx hb d_Bag_placeOfGreatest_9 (by decide) (fun h9 => ?_) (fun h9 => ?_)
      · skip
        have h9 : z ≤ i := (nI_leI (a := z) (b := i) (by omega) (by omega)).mp h9
        refine lv_iload_n hx hb d_Bag_placeOfGreatest_41 rfl (lv_at hl 0 rfl) ?_
        exact q_iret hx hb hr hlocks hK hAm hZ hN (⟨rfl, by rw [show i = z by omega]⟩) d_Bag_placeOfGreatest_42
      · skip
        have h9 : i < z := Nat.lt_of_not_le (fun z9 => h9 ((nI_leI (a := z) (b := i) (by omega) (by omega)).mpr z9))
        have hcb := cGr_le A i
        by_cases hb0 : cGr A i = 0
        · skip
          have e1 : bI (cGr A i) = (-1) := if_pos hb0
          rw [e1] at hl
          refine lv_iload_n hx hb d_Bag_placeOfGreatest_12 rfl (lv_at hl 0 rfl) ?_
          refine lv_iconst (v := (-1)) hx hb d_Bag_placeOfGreatest_13 rfl ?_
          refine lv_icmp_eq (tgt := 33) hx hb d_Bag_placeOfGreatest_14 (by decide) (fun h14 => ?_) (fun h14 => ?_)
          · skip
            refine lv_iload_n hx hb d_Bag_placeOfGreatest_33 rfl (lv_at hl 1 rfl) ?_
            refine lv_istore_n (lv' := [(1, .int (nI i)), (2, .int (nI i)), (0, .ref (ad (bb k)))]) hx hb d_Bag_placeOfGreatest_34 rfl hl (by decide) rfl (fun ls hl => ?_)
            refine lv_iinc (v := (nI (i + 1))) (lv' := [(2, .int (nI (i + 1))), (1, .int (nI i)), (0, .ref (ad (bb k)))]) hx hb d_Bag_placeOfGreatest_35 hl (k := 1) rfl (nI_1 _) (by decide) rfl (fun ls hl => ?_)
            refine lv_goto (tgt := 4) hx hb d_Bag_placeOfGreatest_38 (by decide) ?_
            have e8 : cGr A (i + 1) = i + 1 := by
              show (if cGr A i = 0 ∨ A (cGr A i - 1) < A i then i + 1 else cGr A i) = _
              rw [if_pos (by first | exact Or.inl hb0 | exact Or.inr (Int64.not_le.mp h30))]
            have e9 : bI (cGr A (i + 1)) = nI i := by rw [e8]; rfl
            rw [← e9] at hl
            exact ih4 (i + 1) _ _ _ (by omega) (by omega) hZ (lv_sub hl [1, 0, 2] rfl)
          · skip
            exact absurd rfl h14
        · skip
          have e1 : bI (cGr A i) = (nI (cGr A i - 1)) := if_neg hb0
          rw [e1] at hl
          refine lv_iload_n hx hb d_Bag_placeOfGreatest_12 rfl (lv_at hl 0 rfl) ?_
          refine lv_iconst (v := (-1)) hx hb d_Bag_placeOfGreatest_13 rfl ?_
          refine lv_icmp_eq (tgt := 33) hx hb d_Bag_placeOfGreatest_14 (by decide) (fun h14 => ?_) (fun h14 => ?_)
          · skip
            exact absurd h14 (nI_nm1 (by omega))
          · skip
            refine lv_aload_n hx hb d_Bag_placeOfGreatest_17 rfl (lv_at hl 2 rfl) ?_
            refine q_get (C := R_Bag) (T := T_Bag) (N := 4) hx hb hts (fun w h => gm (inT_Bag w h)) hown hK hZ (bb k) (by have := bb_r hk; omega) hB.1 rfl 2 (by decide) (hts _ (gm k_55)) (fun _ h9 => h9) rfl d_Bag_placeOfGreatest_18 ?_
            refine lv_iload_n hx hb d_Bag_placeOfGreatest_21 rfl (lv_at hl 1 rfl) ?_
            refine q_lald hx hb hK hZ (bb k + 3) 1 (i) (by have := bb_r hk; omega) hB.2.2.2.1 rfl rfl (by omega) (by decide) d_Bag_placeOfGreatest_22 ?_
            refine lv_aload_n hx hb d_Bag_placeOfGreatest_23 rfl (lv_at hl 2 rfl) ?_
            refine q_get (C := R_Bag) (T := T_Bag) (N := 4) hx hb hts (fun w h => gm (inT_Bag w h)) hown hK hZ (bb k) (by have := bb_r hk; omega) hB.1 rfl 2 (by decide) (hts _ (gm k_55)) (fun _ h9 => h9) rfl d_Bag_placeOfGreatest_24 ?_
            refine lv_iload_n hx hb d_Bag_placeOfGreatest_27 rfl (lv_at hl 0 rfl) ?_
            refine q_lald hx hb hK hZ (bb k + 3) 1 ((cGr A i - 1)) (by have := bb_r hk; omega) hB.2.2.2.1 rfl rfl (by omega) (by decide) d_Bag_placeOfGreatest_28 ?_
            refine W.lcmp hx hb d_Bag_placeOfGreatest_29 ?_
            refine lv_if_le (tgt := 35) hx hb d_Bag_placeOfGreatest_30 (by decide) (fun h30 => ?_) (fun h30 => ?_)
            · skip
              rw [lg_cmp_le] at h30
              refine lv_iinc (v := (nI (i + 1))) (lv' := [(2, .int (nI (i + 1))), (1, .int (nI (cGr A i - 1))), (0, .ref (ad (bb k)))]) hx hb d_Bag_placeOfGreatest_35 hl (k := 1) rfl (nI_1 _) (by decide) rfl (fun ls hl => ?_)
              refine lv_goto (tgt := 4) hx hb d_Bag_placeOfGreatest_38 (by decide) ?_
              have e8 : cGr A (i + 1) = cGr A i := by
                show (if cGr A i = 0 ∨ A (cGr A i - 1) < A i then i + 1 else cGr A i) = _
                rw [if_neg (fun y => y.elim hb0 (Int64.not_lt.mpr h30))]
              have e9 : bI (cGr A (i + 1)) = nI (cGr A i - 1) := by rw [e8]; exact e1
              rw [← e9] at hl
              exact ih4 (i + 1) _ _ _ (by omega) (by omega) hZ (lv_sub hl [1, 0, 2] rfl)
            · skip
              rw [lg_cmp_le] at h30
              refine lv_iload_n hx hb d_Bag_placeOfGreatest_33 rfl (lv_at hl 1 rfl) ?_
              refine lv_istore_n (lv' := [(1, .int (nI i)), (2, .int (nI i)), (0, .ref (ad (bb k)))]) hx hb d_Bag_placeOfGreatest_34 rfl hl (by decide) rfl (fun ls hl => ?_)
              refine lv_iinc (v := (nI (i + 1))) (lv' := [(2, .int (nI (i + 1))), (1, .int (nI i)), (0, .ref (ad (bb k)))]) hx hb d_Bag_placeOfGreatest_35 hl (k := 1) rfl (nI_1 _) (by decide) rfl (fun ls hl => ?_)
              refine lv_goto (tgt := 4) hx hb d_Bag_placeOfGreatest_38 (by decide) ?_
              have e8 : cGr A (i + 1) = i + 1 := by
                show (if cGr A i = 0 ∨ A (cGr A i - 1) < A i then i + 1 else cGr A i) = _
                rw [if_pos (by first | exact Or.inl hb0 | exact Or.inr (Int64.not_le.mp h30))]
              have e9 : bI (cGr A (i + 1)) = nI i := by rw [e8]; rfl
              rw [← e9] at hl
              exact ih4 (i + 1) _ _ _ (by omega) (by omega) hZ (lv_sub hl [1, 0, 2] rfl)
  exact loop4 (z + 1) 0 _ _ _ (Nat.zero_le z) (by omega) hZ (lv_sub hl [1, 0, 2] rfl)
