/-! the reference: its private methods -/
theorem fno_s {Q : Nat → Prop} {k : Nat} (h : ∀ i, i < k → ¬ Q i) (hk : ¬ Q k) : ∀ i, i < k + 1 → ¬ Q i := fun i hi => by
  by_cases z : i = k
  · rw [z]
    exact hk
  · exact h i (by omega)
theorem bT {Q : Prop} {r : Int32} (h : (Q ∧ r = 1) ∨ (¬ Q ∧ r = 0)) (h0 : ¬ r = 0) : Q := h.elim (fun z => z.1) (fun z => absurd z.2 h0)
theorem bF {Q : Prop} {r : Int32} (h : (Q ∧ r = 1) ∨ (¬ Q ∧ r = 0)) (h0 : r = 0) : ¬ Q := h.elim (fun z => absurd (z.2.symm.trans h0) (by decide)) (fun z => z.1)
theorem cLt_y {m : Nat → Int} {x : Int} {y : Nat} (h : m y < x) : cLt m x y + 1 = cLt m x (y + 1) := by
  show _ = cLt m x y + (if m y < x then 1 else 0)
  rw [if_pos h]
theorem cLt_n {m : Nat → Int} {x : Int} {y : Nat} (h : ¬ m y < x) : cLt m x y + 0 = cLt m x (y + 1) := by
  show _ = cLt m x y + (if m y < x then 1 else 0)
  rw [if_neg h]
theorem i64_nle {y : Int64} (h : ¬ y ≤ 0) : 0 ≤ y := Int64.le_of_lt (Int64.not_le.mp h)
theorem cp_0 {α : Type} {P rP : Nat → α} {j : Nat} : (∀ i, i < 0 → P (64 * j + i) = rP i) ∧ ∀ y, (y < 64 * j ∨ 64 * j + 64 ≤ y) → P y = P y := ⟨fun i hi => absurd hi (Nat.not_lt_zero _), fun _ _ => rfl⟩
theorem io_s {P : Nat → Int32} {N : Nat → Int64} {j z i0 k : Nat} {fo : Int32} (h : (fo = -1 ∧ ∀ i, i < k → ¬ cLt (kM P N j) (kM P N j i) z = i0) ∨ (∃ i, i < k ∧ fo = nI i ∧ cLt (kM P N j) (kM P N j i) z = i0)) (h0 : ¬ cLt (kM P N j) (kM P N j k) z = i0) : (fo = -1 ∧ ∀ i, i < k + 1 → ¬ cLt (kM P N j) (kM P N j i) z = i0) ∨ (∃ i, i < k + 1 ∧ fo = nI i ∧ cLt (kM P N j) (kM P N j i) z = i0) :=
  h.imp (fun a => ⟨a.1, fno_s (Q := fun i => cLt (kM P N j) (kM P N j i) z = i0) a.2 h0⟩) (fun ⟨i, a, b⟩ => ⟨i, by omega, b⟩)
theorem io_end {P : Nat → Int32} {N : Nat → Int64} {j z i0 z2 : Nat} {fo : Int32} {P2 : Nat → Int32} {N2 A A2 : Nat → Int64} {G : Int → Int64} (hm : mRep z (fun i => P (64 * j + i)) (fun i => N (64 * j + i)) (fun i => A (64 * j + i)) G) (hR : cRep z2 P2 N2 A2 G) (hi : i0 < z2) (h : (fo = -1 ∧ ∀ i, i < z → ¬ cLt (kM P N j) (kM P N j i) z = i0) ∨ (∃ i, i < z ∧ fo = nI i ∧ cLt (kM P N j) (kM P N j i) z = i0)) : ∃ k, k < z ∧ fo = nI k ∧ P (64 * j + k) = P2 i0 ∧ N (64 * j + k) = N2 i0 ∧ A (64 * j + k) = A2 i0 := by
  rcases h with ⟨-, a⟩ | ⟨i, a, b, d⟩
  · exact (io_no hm hR hi a).elim
  · exact ⟨i, a, b, io_yes hm hR hi a d⟩
theorem mS_del2 {mn P : Nat → Int32} {N A : Nat → Int64} {F : Nat → Int → Int64} {j z k : Nat} {q : Int32} {x v : Int64} (h : mBag mn P N A F) (hj : j < 8) (hc : z ≤ 64) (e : mn j = nI z) (hk : k < z) (ek : kM P N j k = kv q x) (hv : v = 0) :
    mBag (upd mn j (nI (z - 1))) (upd (upd P (64 * j + k) q) (64 * j + k) (upd P (64 * j + k) q (64 * j + (z - 1)))) (vp_updL (vp_updL N (64 * j + k) x) (64 * j + k) (vp_updL N (64 * j + k) x (64 * j + (z - 1)))) (vp_updL (vp_updL A (64 * j + k) v) (64 * j + k) (vp_updL A (64 * j + k) v (64 * j + (z - 1)))) (va_up F j (fUp (F j) (kv q x) v)) := by
  subst hv
  exact mS_del h hj hc e hk ek
theorem mB_self {mn P : Nat → Int32} {N A : Nat → Int64} {F : Nat → Int → Int64} {j : Nat} {G : Int → Int64} (h : mBag mn P N A (va_up F j G)) (hj : j < 8) : eC G := by
  obtain ⟨c, h1, h2, h3⟩ := h j hj
  rw [va_up_self] at h3
  exact mRep_C h3 h1
set_option maxHeartbeats 4000000 in
set_option maxRecDepth 100000 in
theorem c_Mod_find (l : Launch) (dC : Nat → ClassId) (dI : Nat → Nat → Nat) (cI cL cB : ClassId) (ad : Nat → Nat) (N0 : Nat) (w : Nat → va_E) (t : Int32) (mn P : Nat → Int32) (N A : Nat → Int64) (rm : Int32) (rP : Nat → Int32) (rN rA : Nat → Int64) (bd : Int32) (j z : Nat) (q : Int32) (x : Int64) (hM : isMod ad cI cL w t mn P N A rm rP rN rA bd) (hj : j < 8) (hz : z ≤ 64) (hmn : mn j = nI z) : Met l y_Mod_find ws_Mod_find ({ frames := 0, cells := 0, slots := 0, locals := 0 } : Room) (va_Pc [.ref (ad 43), .int (nI j), .int q, .long x] (sPr (dC, dI) vCl [(cI, .int), (cL, .long), (cB, .object "CoinBag$Bag")] 52 ad N0 w)) (va_Qi (fun r u => u = w ∧ ((∃ k, k < z ∧ r = nI k ∧ kM P N j k = kv q x) ∨ ((∀ k, k < z → ¬ kM P N j k = kv q x) ∧ r = -1))) (sPr (dC, dI) vCl [(cI, .int), (cL, .long), (cB, .object "CoinBag$Bag")] 52 ad N0) (fun q => N0 ≤ q)) 0 0 (fun q => N0 ≤ q) := by
  refine Met.ofW (cc := b_Mod_find) (maxL := 6) (ret := (some .int)) (by decide) rfl ?_
  intro p e s m args below meth c s₁ B hml hv
  obtain ⟨rfl, hP, hK, hD, hN, hAm⟩ := hv
  have hx := B.exec
  have hb := B.bytes
  have hr := B.returns
  have hts := atoms_spec (ws := ws_Mod_find) B.pre
  have hown : s.vm.findClass "CoinBagModel" = some m.cls := findClass_of_methodNamed B.named
  have hlocks := B.notSynchronized
  have hZ : sZ (dC, dI) vCl 52 ad (fun q => N0 ≤ q) s.heap w s.heap [] := ⟨hP, hD, va_S.rf⟩
  have hl := lv_entry ([.ref (ad 43), .int (nI j), .int q, .long x]) (n := 6) (Nat.le_of_ble_eq_true rfl)
  rw [lg_entry_eq]
  generalize (lg_sl ([.ref (ad 43), .int (nI j), .int q, .long x]) ++ List.replicate (6 - (lg_sl ([.ref (ad 43), .int (nI j), .int q, .long x])).length) Slot.unset).toArray = ls at hl ⊢
  have hl : lv_has ls 6 [(0, .ref (ad 43)), (1, .int (nI j)), (2, .int q), (3, .long x)] := hl
  refine lv_iconst (v := (nI 0)) hx hb d_Mod_find_0 rfl ?_
  refine lv_istore (lv' := [(5, .int (nI 0)), (0, .ref (ad 43)), (1, .int (nI j)), (2, .int q), (3, .long x)]) hx hb d_Mod_find_1 hl (by decide) rfl (fun ls hl => ?_)
  have loop3 : ∀ (fu3 : Nat) (k : Nat) (H : Heap) (locs : List Loc) (ls : Array Slot), (k ≤ z) → (z + 1 ≤ k + fu3) → (∀ i, i < k → ¬ kM P N j i = kv q x) → sZ (dC, dI) vCl 52 ad (fun q => N0 ≤ q) s.heap w H locs → lv_has ls 6 [(5, .int (nI k)), (0, .ref (ad 43)), (1, .int (nI j)), (2, .int q), (3, .long x)] → W p l e (headSpec ws_Mod_find ({ frames := 0, cells := 0, slots := 0, locals := 0 } : Room)).room s m ([.ref (ad 43), .int (nI j), .int q, .long x]).toArray below meth c H locs 0 0 (MQ below (va_Qi (fun r u => u = w ∧ ((∃ k, k < z ∧ r = nI k ∧ kM P N j k = kv q x) ∨ ((∀ k, k < z → ¬ kM P N j k = kv q x) ∧ r = -1))) (sPr (dC, dI) vCl [(cI, .int), (cL, .long), (cB, .object "CoinBag$Bag")] 52 ad N0) (fun q => N0 ≤ q)) ([.ref (ad 43), .int (nI j), .int q, .long x]).toArray s 0 0 (fun q => N0 ≤ q)) (F0 m 3 ls []) := by
    intro fu3
    induction fu3 with
    | zero =>
      intro k H locs ls hk hf9 hno
      omega
    | succ fu3 ih3 =>
      intro k H locs ls hk hf9 hno hZ hl
      refine lv_iload hx hb d_Mod_find_3 (lv_at hl 0 rfl) ?_
      refine lv_aload_n hx hb d_Mod_find_5 rfl (lv_at hl 1 rfl) ?_
      refine q_get (C := R_Mod) (T := T_Mod) (N := 10) hx hb hts (fun w h => gm (inT_Mod w h)) hown hK hZ (43) (by decide) hM.1 rfl 1 (by decide) (hts _ (gm k_421)) (fun _ h9 => h9) rfl d_Mod_find_6 ?_
      refine lv_iload_n hx hb d_Mod_find_9 rfl (lv_at hl 2 rfl) ?_
      refine q_iald hx hb hK hZ (44) 0 (j) (by decide) hM.2.1 rfl rfl (by omega) (by decide) d_Mod_find_10 ?_
      refine q_topi (y := nI z) (hmn) ?_
      refine lv_icmp_ge (tgt := 56) hx hb d_Mod_find_11 (by decide) (fun h11 => ?_) (fun h11 => ?_)
      · skip
        have h11 : z ≤ k := (nI_leI (a := z) (b := k) (by omega) (by omega)).mp h11
        refine lv_iconst (v := (-1)) hx hb d_Mod_find_56 rfl ?_
        exact q_iret hx hb hr hlocks hK hAm hZ hN (⟨rfl, Or.inr ⟨fun i hi => hno i (by omega), rfl⟩⟩) d_Mod_find_57
      · skip
        have h11 : k < z := Nat.lt_of_not_le (fun z9 => h11 ((nI_leI (a := z) (b := k) (by omega) (by omega)).mpr z9))
        refine lv_aload_n hx hb d_Mod_find_14 rfl (lv_at hl 1 rfl) ?_
        refine q_get (C := R_Mod) (T := T_Mod) (N := 10) hx hb hts (fun w h => gm (inT_Mod w h)) hown hK hZ (43) (by decide) hM.1 rfl 2 (by decide) (hts _ (gm k_422)) (fun _ h9 => h9) rfl d_Mod_find_15 ?_
        refine lv_bipush (v := (nI 64)) hx hb d_Mod_find_18 rfl ?_
        refine lv_iload_n hx hb d_Mod_find_20 rfl (lv_at hl 2 rfl) ?_
        refine lv_imul hx hb d_Mod_find_21 ?_
        refine q_topi (y := nI (64 * j)) (pk_mul _ _) ?_
        refine lv_iload hx hb d_Mod_find_22 (lv_at hl 0 rfl) ?_
        refine lv_iadd hx hb d_Mod_find_24 ?_
        refine q_topi (y := nI ((64 * j) + k)) (nI_add _ _) ?_
        refine q_iald hx hb hK hZ (45) 0 (((64 * j) + k)) (by decide) hM.2.2.1 rfl rfl (by omega) (by decide) d_Mod_find_25 ?_
        refine lv_iload_n hx hb d_Mod_find_26 rfl (lv_at hl 3 rfl) ?_
        refine lv_icmp_ne (tgt := 50) hx hb d_Mod_find_27 (by decide) (fun h27 => ?_) (fun h27 => ?_)
        · skip
          refine lv_iinc (v := (nI (k + 1))) (lv' := [(5, .int (nI (k + 1))), (0, .ref (ad 43)), (1, .int (nI j)), (2, .int q), (3, .long x)]) hx hb d_Mod_find_50 hl (k := 0) rfl (nI_1 _) (by decide) rfl (fun ls hl => ?_)
          refine lv_goto (tgt := 3) hx hb d_Mod_find_53 (by decide) ?_
          exact ih3 (k + 1) _ _ _ (by omega) (by omega) (fno_s hno (by first | exact fun y => h27 (kv_inj.mp y).1 | exact fun y => h44 (kv_inj.mp y).2)) hZ (lv_sub hl [0, 1, 2, 3, 4] rfl)
        · skip
          refine lv_aload_n hx hb d_Mod_find_30 rfl (lv_at hl 1 rfl) ?_
          refine q_get (C := R_Mod) (T := T_Mod) (N := 10) hx hb hts (fun w h => gm (inT_Mod w h)) hown hK hZ (43) (by decide) hM.1 rfl 3 (by decide) (hts _ (gm k_423)) (fun _ h9 => h9) rfl d_Mod_find_31 ?_
          refine lv_bipush (v := (nI 64)) hx hb d_Mod_find_34 rfl ?_
          refine lv_iload_n hx hb d_Mod_find_36 rfl (lv_at hl 2 rfl) ?_
          refine lv_imul hx hb d_Mod_find_37 ?_
          refine q_topi (y := nI (64 * j)) (pk_mul _ _) ?_
          refine lv_iload hx hb d_Mod_find_38 (lv_at hl 0 rfl) ?_
          refine lv_iadd hx hb d_Mod_find_40 ?_
          refine q_topi (y := nI ((64 * j) + k)) (nI_add _ _) ?_
          refine q_lald hx hb hK hZ (46) 1 (((64 * j) + k)) (by decide) hM.2.2.2.1 rfl rfl (by omega) (by decide) d_Mod_find_41 ?_
          refine lv_lload_n hx hb d_Mod_find_42 rfl (lv_at hl 4 rfl) ?_
          refine W.lcmp hx hb d_Mod_find_43 ?_
          refine lv_if_ne (tgt := 50) hx hb d_Mod_find_44 (by decide) (fun h44 => ?_) (fun h44 => ?_)
          · skip
            rw [lg_cmp_eq] at h44
            refine lv_iinc (v := (nI (k + 1))) (lv' := [(5, .int (nI (k + 1))), (0, .ref (ad 43)), (1, .int (nI j)), (2, .int q), (3, .long x)]) hx hb d_Mod_find_50 hl (k := 0) rfl (nI_1 _) (by decide) rfl (fun ls hl => ?_)
            refine lv_goto (tgt := 3) hx hb d_Mod_find_53 (by decide) ?_
            exact ih3 (k + 1) _ _ _ (by omega) (by omega) (fno_s hno (by first | exact fun y => h27 (kv_inj.mp y).1 | exact fun y => h44 (kv_inj.mp y).2)) hZ (lv_sub hl [0, 1, 2, 3, 4] rfl)
          · skip
            rw [lg_cmp_eq] at h44
            refine lv_iload hx hb d_Mod_find_47 (lv_at hl 0 rfl) ?_
            exact q_iret hx hb hr hlocks hK hAm hZ hN (⟨rfl, Or.inl ⟨k, h11, rfl, kv_inj.mpr ⟨h27, h44⟩⟩⟩) d_Mod_find_49
  exact loop3 (z + 1) 0 _ _ _ (Nat.zero_le z) (by omega) (fun i hi => absurd hi (Nat.not_lt_zero _)) hZ (lv_sub hl [0, 1, 2, 3, 4] rfl)
set_option maxHeartbeats 4000000 in
set_option maxRecDepth 100000 in
theorem c_Mod_valueOf (l : Launch) (dC : Nat → ClassId) (dI : Nat → Nat → Nat) (cI cL cB : ClassId) (ad : Nat → Nat) (N0 : Nat) (w : Nat → va_E) (t : Int32) (mn P : Nat → Int32) (N A : Nat → Int64) (rm : Int32) (rP : Nat → Int32) (rN rA : Nat → Int64) (bd : Int32) (j z : Nat) (G : Int → Int64) (q : Int32) (x : Int64) (hM : isMod ad cI cL w t mn P N A rm rP rN rA bd) (hj : j < 8) (hz : z ≤ 64) (hmn : mn j = nI z) (hR : mRep z (fun i => P (64 * j + i)) (fun i => N (64 * j + i)) (fun i => A (64 * j + i)) G) : Met l y_Mod_valueOf ws_Mod_valueOf ({ frames := 1, cells := 0, slots := 0, locals := 25 } : Room) (va_Pc [.ref (ad 43), .int (nI j), .int q, .long x] (sPr (dC, dI) vCl [(cI, .int), (cL, .long), (cB, .object "CoinBag$Bag")] 52 ad N0 w)) (va_Ql (fun r u => u = w ∧ r = G (kv q x)) (sPr (dC, dI) vCl [(cI, .int), (cL, .long), (cB, .object "CoinBag$Bag")] 52 ad N0) (fun q => N0 ≤ q)) 0 0 (fun q => N0 ≤ q) := by
  refine Met.ofW (cc := b_Mod_valueOf) (maxL := 6) (ret := (some .long)) (by decide) rfl ?_
  intro p e s m args below meth c s₁ B hml hv
  obtain ⟨rfl, hP, hK, hD, hN, hAm⟩ := hv
  have hx := B.exec
  have hb := B.bytes
  have hr := B.returns
  have hts := atoms_spec (ws := ws_Mod_valueOf) B.pre
  have hown : s.vm.findClass "CoinBagModel" = some m.cls := findClass_of_methodNamed B.named
  have hlocks := B.notSynchronized
  have hZ : sZ (dC, dI) vCl 52 ad (fun q => N0 ≤ q) s.heap w s.heap [] := ⟨hP, hD, va_S.rf⟩
  have hl := lv_entry ([.ref (ad 43), .int (nI j), .int q, .long x]) (n := 6) (Nat.le_of_ble_eq_true rfl)
  rw [lg_entry_eq]
  generalize (lg_sl ([.ref (ad 43), .int (nI j), .int q, .long x]) ++ List.replicate (6 - (lg_sl ([.ref (ad 43), .int (nI j), .int q, .long x])).length) Slot.unset).toArray = ls at hl ⊢
  have hl : lv_has ls 6 [(0, .ref (ad 43)), (1, .int (nI j)), (2, .int q), (3, .long x)] := hl
  refine lv_aload_n hx hb d_Mod_valueOf_0 rfl (lv_at hl 0 rfl) ?_
  refine lv_iload_n hx hb d_Mod_valueOf_1 rfl (lv_at hl 1 rfl) ?_
  refine lv_iload_n hx hb d_Mod_valueOf_2 rfl (lv_at hl 2 rfl) ?_
  refine lv_lload_n hx hb d_Mod_valueOf_3 rfl (lv_at hl 3 rfl) ?_
  refine q_calli (va_runV (As := [.int (nI j), .int q, .long x]) (rest := []) ⟨hx, hb, hml, hown, hts⟩ (c_Mod_find l dC dI cI cL cB ad N0 w t mn P N A rm rP rN rA bd j z q x hM hj hz hmn) (cwV 3 hts (gI_V k_477 k_474 k_476 k_9 k_24) rfl rfl rfl (by decide +kernel) ⟨Nat.le_of_ble_eq_true rfl, Nat.le_of_ble_eq_true rfl⟩) (q_preV hK hAm hZ hN [.int (nI j), .int q, .long x] (43) 3 (by decide) hM.1 rfl) rfl rfl hl.1 rfl (lv_room (Nat.le_of_ble_eq_true rfl)) d_Mod_valueOf_4 ⟨Nat.zero_le _, Nat.zero_le _⟩) hZ (fun r u_r H locs h_r hZ => ?_)
  obtain ⟨e_r, h_r⟩ := h_r
  rw [e_r] at hZ
  rcases h_r with ⟨k, hk, e_k, ek⟩ | ⟨hno, e_k⟩
  · skip
    subst e_k
    refine lv_istore (lv' := [(5, .int (nI k)), (0, .ref (ad 43)), (1, .int (nI j)), (2, .int q), (3, .long x)]) hx hb d_Mod_valueOf_7 hl (by decide) rfl (fun ls hl => ?_)
    refine lv_iload hx hb d_Mod_valueOf_9 (lv_at hl 0 rfl) ?_
    refine lv_if_ge (tgt := 18) hx hb d_Mod_valueOf_11 (by decide) (fun h11 => ?_) (fun h11 => ?_)
    · skip
      have h11 : 0 ≤ k := (nI_leI (a := 0) (b := k) (by omega) (by omega)).mp h11
      refine lv_aload_n hx hb d_Mod_valueOf_18 rfl (lv_at hl 1 rfl) ?_
      refine q_get (C := R_Mod) (T := T_Mod) (N := 10) hx hb hts (fun w h => gm (inT_Mod w h)) hown hK hZ (43) (by decide) hM.1 rfl 4 (by decide) (hts _ (gm k_424)) (fun _ h9 => h9) rfl d_Mod_valueOf_19 ?_
      refine lv_bipush (v := (nI 64)) hx hb d_Mod_valueOf_22 rfl ?_
      refine lv_iload_n hx hb d_Mod_valueOf_24 rfl (lv_at hl 2 rfl) ?_
      refine lv_imul hx hb d_Mod_valueOf_25 ?_
      refine q_topi (y := nI (64 * j)) (pk_mul _ _) ?_
      refine lv_iload hx hb d_Mod_valueOf_26 (lv_at hl 0 rfl) ?_
      refine lv_iadd hx hb d_Mod_valueOf_28 ?_
      refine q_topi (y := nI ((64 * j) + k)) (nI_add _ _) ?_
      refine q_lald hx hb hK hZ (47) 1 (((64 * j) + k)) (by decide) hM.2.2.2.2.1 rfl rfl (by omega) (by decide) d_Mod_valueOf_29 ?_
      exact q_lret hx hb hr hlocks hK hAm hZ hN (⟨rfl, (mB_yes hR hk ek).1.symm⟩) d_Mod_valueOf_30
    · skip
      have h11 : k < 0 := Nat.lt_of_not_le (fun z9 => h11 ((nI_leI (a := 0) (b := k) (by omega) (by omega)).mpr z9))
      exact absurd h11 (by omega)
  · skip
    subst e_k
    refine lv_istore (lv' := [(5, .int (-1)), (0, .ref (ad 43)), (1, .int (nI j)), (2, .int q), (3, .long x)]) hx hb d_Mod_valueOf_7 hl (by decide) rfl (fun ls hl => ?_)
    refine lv_iload hx hb d_Mod_valueOf_9 (lv_at hl 0 rfl) ?_
    refine lv_if_ge (tgt := 18) hx hb d_Mod_valueOf_11 (by decide) (fun h11 => ?_) (fun h11 => ?_)
    · skip
      exact absurd h11 (by decide)
    · skip
      refine lv_lconst (v := 0) hx hb d_Mod_valueOf_14 rfl ?_
      refine lv_goto (tgt := 30) hx hb d_Mod_valueOf_15 (by decide) ?_
      exact q_lret hx hb hr hlocks hK hAm hZ hN (⟨rfl, (mB_no hR hno).symm⟩) d_Mod_valueOf_30
set_option maxHeartbeats 4000000 in
set_option maxRecDepth 100000 in
theorem c_Mod_isBefore (l : Launch) (dC : Nat → ClassId) (dI : Nat → Nat → Nat) (cI cL cB : ClassId) (ad : Nat → Nat) (N0 : Nat) (w : Nat → va_E) (t : Int32) (mn P : Nat → Int32) (N A : Nat → Int64) (rm : Int32) (rP : Nat → Int32) (rN rA : Nat → Int64) (bd : Int32) (j ia ib : Nat) (hM : isMod ad cI cL w t mn P N A rm rP rN rA bd) (hj : j < 8) (hia : ia < 64) (hib : ib < 64) : Met l y_Mod_isBefore ws_Mod_isBefore ({ frames := 0, cells := 0, slots := 0, locals := 0 } : Room) (va_Pc [.ref (ad 43), .int (nI j), .int (nI ia), .int (nI ib)] (sPr (dC, dI) vCl [(cI, .int), (cL, .long), (cB, .object "CoinBag$Bag")] 52 ad N0 w)) (va_Qi (fun r u => u = w ∧ ((kM P N j ia < kM P N j ib ∧ r = 1) ∨ (¬ kM P N j ia < kM P N j ib ∧ r = 0))) (sPr (dC, dI) vCl [(cI, .int), (cL, .long), (cB, .object "CoinBag$Bag")] 52 ad N0) (fun q => N0 ≤ q)) 0 0 (fun q => N0 ≤ q) := by
  refine Met.ofW (cc := b_Mod_isBefore) (maxL := 6) (ret := (some .boolean)) (by decide) rfl ?_
  intro p e s m args below meth c s₁ B hml hv
  obtain ⟨rfl, hP, hK, hD, hN, hAm⟩ := hv
  have hx := B.exec
  have hb := B.bytes
  have hr := B.returns
  have hts := atoms_spec (ws := ws_Mod_isBefore) B.pre
  have hown : s.vm.findClass "CoinBagModel" = some m.cls := findClass_of_methodNamed B.named
  have hlocks := B.notSynchronized
  have hZ : sZ (dC, dI) vCl 52 ad (fun q => N0 ≤ q) s.heap w s.heap [] := ⟨hP, hD, va_S.rf⟩
  have hl := lv_entry ([.ref (ad 43), .int (nI j), .int (nI ia), .int (nI ib)]) (n := 6) (Nat.le_of_ble_eq_true rfl)
  rw [lg_entry_eq]
  generalize (lg_sl ([.ref (ad 43), .int (nI j), .int (nI ia), .int (nI ib)]) ++ List.replicate (6 - (lg_sl ([.ref (ad 43), .int (nI j), .int (nI ia), .int (nI ib)])).length) Slot.unset).toArray = ls at hl ⊢
  have hl : lv_has ls 6 [(0, .ref (ad 43)), (1, .int (nI j)), (2, .int (nI ia)), (3, .int (nI ib))] := hl
  refine lv_bipush (v := (nI 64)) hx hb d_Mod_isBefore_0 rfl ?_
  refine lv_iload_n hx hb d_Mod_isBefore_2 rfl (lv_at hl 1 rfl) ?_
  refine lv_imul hx hb d_Mod_isBefore_3 ?_
  refine q_topi (y := nI (64 * j)) (pk_mul _ _) ?_
  refine lv_iload_n hx hb d_Mod_isBefore_4 rfl (lv_at hl 2 rfl) ?_
  refine lv_iadd hx hb d_Mod_isBefore_5 ?_
  refine q_topi (y := nI ((64 * j) + ia)) (nI_add _ _) ?_
  refine lv_istore (lv' := [(4, .int (nI ((64 * j) + ia))), (0, .ref (ad 43)), (1, .int (nI j)), (2, .int (nI ia)), (3, .int (nI ib))]) hx hb d_Mod_isBefore_6 hl (by decide) rfl (fun ls hl => ?_)
  refine lv_bipush (v := (nI 64)) hx hb d_Mod_isBefore_8 rfl ?_
  refine lv_iload_n hx hb d_Mod_isBefore_10 rfl (lv_at hl 2 rfl) ?_
  refine lv_imul hx hb d_Mod_isBefore_11 ?_
  refine q_topi (y := nI (64 * j)) (pk_mul _ _) ?_
  refine lv_iload_n hx hb d_Mod_isBefore_12 rfl (lv_at hl 4 rfl) ?_
  refine lv_iadd hx hb d_Mod_isBefore_13 ?_
  refine q_topi (y := nI ((64 * j) + ib)) (nI_add _ _) ?_
  refine lv_istore (lv' := [(5, .int (nI ((64 * j) + ib))), (4, .int (nI ((64 * j) + ia))), (0, .ref (ad 43)), (1, .int (nI j)), (2, .int (nI ia)), (3, .int (nI ib))]) hx hb d_Mod_isBefore_14 hl (by decide) rfl (fun ls hl => ?_)
  refine lv_aload_n hx hb d_Mod_isBefore_16 rfl (lv_at hl 2 rfl) ?_
  refine q_get (C := R_Mod) (T := T_Mod) (N := 10) hx hb hts (fun w h => gm (inT_Mod w h)) hown hK hZ (43) (by decide) hM.1 rfl 2 (by decide) (hts _ (gm k_422)) (fun _ h9 => h9) rfl d_Mod_isBefore_17 ?_
  refine lv_iload hx hb d_Mod_isBefore_20 (lv_at hl 1 rfl) ?_
  refine q_iald hx hb hK hZ (45) 0 (((64 * j) + ia)) (by decide) hM.2.2.1 rfl rfl (by omega) (by decide) d_Mod_isBefore_22 ?_
  refine lv_aload_n hx hb d_Mod_isBefore_23 rfl (lv_at hl 2 rfl) ?_
  refine q_get (C := R_Mod) (T := T_Mod) (N := 10) hx hb hts (fun w h => gm (inT_Mod w h)) hown hK hZ (43) (by decide) hM.1 rfl 2 (by decide) (hts _ (gm k_422)) (fun _ h9 => h9) rfl d_Mod_isBefore_24 ?_
  refine lv_iload hx hb d_Mod_isBefore_27 (lv_at hl 0 rfl) ?_
  refine q_iald hx hb hK hZ (45) 0 (((64 * j) + ib)) (by decide) hM.2.2.1 rfl rfl (by omega) (by decide) d_Mod_isBefore_29 ?_
  refine lv_icmp_lt (tgt := 76) hx hb d_Mod_isBefore_30 (by decide) (fun h30 => ?_) (fun h30 => ?_)
  · skip
    refine lv_iconst (v := (nI 1)) hx hb d_Mod_isBefore_76 rfl ?_
    refine lv_goto (tgt := 81) hx hb d_Mod_isBefore_77 (by decide) ?_
    exact q_zret hx hb hr rfl hlocks hK hAm hZ hN (⟨rfl, (by first | exact Or.inl ⟨kv_lt.mpr (Or.inl h30), rfl⟩ | exact Or.inl ⟨kv_lt.mpr (Or.inr ⟨h47, Int64.not_le.mp h73⟩), rfl⟩ | exact Or.inr ⟨fun y => (kv_lt.mp y).elim h30 (fun y => h47 y.1), rfl⟩ | exact Or.inr ⟨fun y => (kv_lt.mp y).elim h30 (fun y => absurd y.2 (Int64.not_lt.mpr h73)), rfl⟩)⟩) d_Mod_isBefore_81
  · skip
    refine lv_aload_n hx hb d_Mod_isBefore_33 rfl (lv_at hl 2 rfl) ?_
    refine q_get (C := R_Mod) (T := T_Mod) (N := 10) hx hb hts (fun w h => gm (inT_Mod w h)) hown hK hZ (43) (by decide) hM.1 rfl 2 (by decide) (hts _ (gm k_422)) (fun _ h9 => h9) rfl d_Mod_isBefore_34 ?_
    refine lv_iload hx hb d_Mod_isBefore_37 (lv_at hl 1 rfl) ?_
    refine q_iald hx hb hK hZ (45) 0 (((64 * j) + ia)) (by decide) hM.2.2.1 rfl rfl (by omega) (by decide) d_Mod_isBefore_39 ?_
    refine lv_aload_n hx hb d_Mod_isBefore_40 rfl (lv_at hl 2 rfl) ?_
    refine q_get (C := R_Mod) (T := T_Mod) (N := 10) hx hb hts (fun w h => gm (inT_Mod w h)) hown hK hZ (43) (by decide) hM.1 rfl 2 (by decide) (hts _ (gm k_422)) (fun _ h9 => h9) rfl d_Mod_isBefore_41 ?_
    refine lv_iload hx hb d_Mod_isBefore_44 (lv_at hl 0 rfl) ?_
    refine q_iald hx hb hK hZ (45) 0 (((64 * j) + ib)) (by decide) hM.2.2.1 rfl rfl (by omega) (by decide) d_Mod_isBefore_46 ?_
    refine lv_icmp_ne (tgt := 80) hx hb d_Mod_isBefore_47 (by decide) (fun h47 => ?_) (fun h47 => ?_)
    · skip
      refine lv_iconst (v := (nI 0)) hx hb d_Mod_isBefore_80 rfl ?_
      exact q_zret hx hb hr rfl hlocks hK hAm hZ hN (⟨rfl, (by first | exact Or.inl ⟨kv_lt.mpr (Or.inl h30), rfl⟩ | exact Or.inl ⟨kv_lt.mpr (Or.inr ⟨h47, Int64.not_le.mp h73⟩), rfl⟩ | exact Or.inr ⟨fun y => (kv_lt.mp y).elim h30 (fun y => h47 y.1), rfl⟩ | exact Or.inr ⟨fun y => (kv_lt.mp y).elim h30 (fun y => absurd y.2 (Int64.not_lt.mpr h73)), rfl⟩)⟩) d_Mod_isBefore_81
    · skip
      refine lv_aload_n hx hb d_Mod_isBefore_50 rfl (lv_at hl 2 rfl) ?_
      refine q_get (C := R_Mod) (T := T_Mod) (N := 10) hx hb hts (fun w h => gm (inT_Mod w h)) hown hK hZ (43) (by decide) hM.1 rfl 3 (by decide) (hts _ (gm k_423)) (fun _ h9 => h9) rfl d_Mod_isBefore_51 ?_
      refine lv_iload hx hb d_Mod_isBefore_54 (lv_at hl 1 rfl) ?_
      refine q_lald hx hb hK hZ (46) 1 (((64 * j) + ia)) (by decide) hM.2.2.2.1 rfl rfl (by omega) (by decide) d_Mod_isBefore_56 ?_
      refine lv_ldc2 (v := (-9223372036854775808)) hx hb hown (hts _ (gm k_491)) d_Mod_isBefore_57 ?_
      refine lv_ladd hx hb d_Mod_isBefore_60 ?_
      refine lv_aload_n hx hb d_Mod_isBefore_61 rfl (lv_at hl 2 rfl) ?_
      refine q_get (C := R_Mod) (T := T_Mod) (N := 10) hx hb hts (fun w h => gm (inT_Mod w h)) hown hK hZ (43) (by decide) hM.1 rfl 3 (by decide) (hts _ (gm k_423)) (fun _ h9 => h9) rfl d_Mod_isBefore_62 ?_
      refine lv_iload hx hb d_Mod_isBefore_65 (lv_at hl 0 rfl) ?_
      refine q_lald hx hb hK hZ (46) 1 (((64 * j) + ib)) (by decide) hM.2.2.2.1 rfl rfl (by omega) (by decide) d_Mod_isBefore_67 ?_
      refine lv_ldc2 (v := (-9223372036854775808)) hx hb hown (hts _ (gm k_491)) d_Mod_isBefore_68 ?_
      refine lv_ladd hx hb d_Mod_isBefore_71 ?_
      refine W.lcmp hx hb d_Mod_isBefore_72 ?_
      refine lv_if_ge (tgt := 80) hx hb d_Mod_isBefore_73 (by decide) (fun h73 => ?_) (fun h73 => ?_)
      · skip
        rw [lg_cmp_ge] at h73
        refine lv_iconst (v := (nI 0)) hx hb d_Mod_isBefore_80 rfl ?_
        exact q_zret hx hb hr rfl hlocks hK hAm hZ hN (⟨rfl, (by first | exact Or.inl ⟨kv_lt.mpr (Or.inl h30), rfl⟩ | exact Or.inl ⟨kv_lt.mpr (Or.inr ⟨h47, Int64.not_le.mp h73⟩), rfl⟩ | exact Or.inr ⟨fun y => (kv_lt.mp y).elim h30 (fun y => h47 y.1), rfl⟩ | exact Or.inr ⟨fun y => (kv_lt.mp y).elim h30 (fun y => absurd y.2 (Int64.not_lt.mpr h73)), rfl⟩)⟩) d_Mod_isBefore_81
      · skip
        rw [lg_cmp_ge] at h73
        refine lv_iconst (v := (nI 1)) hx hb d_Mod_isBefore_76 rfl ?_
        refine lv_goto (tgt := 81) hx hb d_Mod_isBefore_77 (by decide) ?_
        exact q_zret hx hb hr rfl hlocks hK hAm hZ hN (⟨rfl, (by first | exact Or.inl ⟨kv_lt.mpr (Or.inl h30), rfl⟩ | exact Or.inl ⟨kv_lt.mpr (Or.inr ⟨h47, Int64.not_le.mp h73⟩), rfl⟩ | exact Or.inr ⟨fun y => (kv_lt.mp y).elim h30 (fun y => h47 y.1), rfl⟩ | exact Or.inr ⟨fun y => (kv_lt.mp y).elim h30 (fun y => absurd y.2 (Int64.not_lt.mpr h73)), rfl⟩)⟩) d_Mod_isBefore_81
set_option maxHeartbeats 4000000 in
set_option maxRecDepth 100000 in
theorem c_Mod_inOrder (l : Launch) (dC : Nat → ClassId) (dI : Nat → Nat → Nat) (cI cL cB : ClassId) (ad : Nat → Nat) (N0 : Nat) (w : Nat → va_E) (t : Int32) (mn P : Nat → Int32) (N A : Nat → Int64) (rm : Int32) (rP : Nat → Int32) (rN rA : Nat → Int64) (bd : Int32) (j z i0 z2 : Nat) (P2 : Nat → Int32) (N2 A2 : Nat → Int64) (G : Int → Int64) (hM : isMod ad cI cL w t mn P N A rm rP rN rA bd) (hj : j < 8) (hz : z ≤ 64) (hmn : mn j = nI z) (hR : mRep z (fun i => P (64 * j + i)) (fun i => N (64 * j + i)) (fun i => A (64 * j + i)) G) (hRc : cRep z2 P2 N2 A2 G) (hi0 : i0 < z2) : Met l y_Mod_inOrder ws_Mod_inOrder ({ frames := 1, cells := 0, slots := 0, locals := 25 } : Room) (va_Pc [.ref (ad 43), .int (nI j), .int (nI i0)] (sPr (dC, dI) vCl [(cI, .int), (cL, .long), (cB, .object "CoinBag$Bag")] 52 ad N0 w)) (va_Qi (fun r u => u = w ∧ ∃ k, k < z ∧ r = nI k ∧ P (64 * j + k) = P2 i0 ∧ N (64 * j + k) = N2 i0 ∧ A (64 * j + k) = A2 i0) (sPr (dC, dI) vCl [(cI, .int), (cL, .long), (cB, .object "CoinBag$Bag")] 52 ad N0) (fun q => N0 ≤ q)) 0 0 (fun q => N0 ≤ q) := by
  refine Met.ofW (cc := b_Mod_inOrder) (maxL := 7) (ret := (some .int)) (by decide) rfl ?_
  intro p e s m args below meth c s₁ B hml hv
  obtain ⟨rfl, hP, hK, hD, hN, hAm⟩ := hv
  have hx := B.exec
  have hb := B.bytes
  have hr := B.returns
  have hts := atoms_spec (ws := ws_Mod_inOrder) B.pre
  have hown : s.vm.findClass "CoinBagModel" = some m.cls := findClass_of_methodNamed B.named
  have hlocks := B.notSynchronized
  have hZ : sZ (dC, dI) vCl 52 ad (fun q => N0 ≤ q) s.heap w s.heap [] := ⟨hP, hD, va_S.rf⟩
  have hl := lv_entry ([.ref (ad 43), .int (nI j), .int (nI i0)]) (n := 7) (Nat.le_of_ble_eq_true rfl)
  rw [lg_entry_eq]
  generalize (lg_sl ([.ref (ad 43), .int (nI j), .int (nI i0)]) ++ List.replicate (7 - (lg_sl ([.ref (ad 43), .int (nI j), .int (nI i0)])).length) Slot.unset).toArray = ls at hl ⊢
  have hl : lv_has ls 7 [(0, .ref (ad 43)), (1, .int (nI j)), (2, .int (nI i0))] := hl
  have hi64 : i0 < 64 := Nat.lt_of_lt_of_le hi0 hRc.1
  refine lv_iconst (v := (-1)) hx hb d_Mod_inOrder_0 rfl ?_
  refine lv_istore_n (lv' := [(3, .int (-1)), (0, .ref (ad 43)), (1, .int (nI j)), (2, .int (nI i0))]) hx hb d_Mod_inOrder_1 rfl hl (by decide) rfl (fun ls hl => ?_)
  refine lv_iconst (v := (nI 0)) hx hb d_Mod_inOrder_2 rfl ?_
  refine lv_istore (lv' := [(4, .int (nI 0)), (3, .int (-1)), (0, .ref (ad 43)), (1, .int (nI j)), (2, .int (nI i0))]) hx hb d_Mod_inOrder_3 hl (by decide) rfl (fun ls hl => ?_)
  have loop5 : ∀ (fu5 : Nat) (k : Nat) (fo : Int32) (H : Heap) (locs : List Loc) (ls : Array Slot), (k ≤ z) → (z + 1 ≤ k + fu5) → ((fo = -1 ∧ ∀ i, i < k → ¬ cLt (kM P N j) (kM P N j i) z = i0) ∨ (∃ i, i < k ∧ fo = nI i ∧ cLt (kM P N j) (kM P N j i) z = i0)) → sZ (dC, dI) vCl 52 ad (fun q => N0 ≤ q) s.heap w H locs → lv_has ls 7 [(4, .int (nI k)), (3, .int fo), (0, .ref (ad 43)), (1, .int (nI j)), (2, .int (nI i0))] → W p l e (headSpec ws_Mod_inOrder ({ frames := 1, cells := 0, slots := 0, locals := 25 } : Room)).room s m ([.ref (ad 43), .int (nI j), .int (nI i0)]).toArray below meth c H locs 0 0 (MQ below (va_Qi (fun r u => u = w ∧ ∃ k, k < z ∧ r = nI k ∧ P (64 * j + k) = P2 i0 ∧ N (64 * j + k) = N2 i0 ∧ A (64 * j + k) = A2 i0) (sPr (dC, dI) vCl [(cI, .int), (cL, .long), (cB, .object "CoinBag$Bag")] 52 ad N0) (fun q => N0 ≤ q)) ([.ref (ad 43), .int (nI j), .int (nI i0)]).toArray s 0 0 (fun q => N0 ≤ q)) (F0 m 5 ls []) := by
    intro fu5
    induction fu5 with
    | zero =>
      intro k fo H locs ls hk hf9 hfo
      omega
    | succ fu5 ih5 =>
      intro k fo H locs ls hk hf9 hfo hZ hl
      refine lv_iload hx hb d_Mod_inOrder_5 (lv_at hl 0 rfl) ?_
      refine lv_aload_n hx hb d_Mod_inOrder_7 rfl (lv_at hl 2 rfl) ?_
      refine q_get (C := R_Mod) (T := T_Mod) (N := 10) hx hb hts (fun w h => gm (inT_Mod w h)) hown hK hZ (43) (by decide) hM.1 rfl 1 (by decide) (hts _ (gm k_421)) (fun _ h9 => h9) rfl d_Mod_inOrder_8 ?_
      refine lv_iload_n hx hb d_Mod_inOrder_11 rfl (lv_at hl 3 rfl) ?_
      refine q_iald hx hb hK hZ (44) 0 (j) (by decide) hM.2.1 rfl rfl (by omega) (by decide) d_Mod_inOrder_12 ?_
      refine q_topi (y := nI z) (hmn) ?_
      refine lv_icmp_ge (tgt := 80) hx hb d_Mod_inOrder_13 (by decide) (fun h13 => ?_) (fun h13 => ?_)
      · skip
        have h13 : z ≤ k := (nI_leI (a := z) (b := k) (by omega) (by omega)).mp h13
        refine lv_iload_n hx hb d_Mod_inOrder_80 rfl (lv_at hl 1 rfl) ?_
        exact q_iret hx hb hr hlocks hK hAm hZ hN (⟨rfl, by have ek : k = z := (by omega); rw [ek] at hfo; exact io_end hR hRc hi0 hfo⟩) d_Mod_inOrder_81
      · skip
        have h13 : k < z := Nat.lt_of_not_le (fun z9 => h13 ((nI_leI (a := z) (b := k) (by omega) (by omega)).mpr z9))
        refine lv_iconst (v := (nI 0)) hx hb d_Mod_inOrder_16 rfl ?_
        refine lv_istore (lv' := [(5, .int (nI 0)), (4, .int (nI k)), (3, .int fo), (0, .ref (ad 43)), (1, .int (nI j)), (2, .int (nI i0))]) hx hb d_Mod_inOrder_17 hl (by decide) rfl (fun ls hl => ?_)
        refine lv_iconst (v := (nI 0)) hx hb d_Mod_inOrder_19 rfl ?_
        refine lv_istore (lv' := [(6, .int (nI 0)), (5, .int (nI 0)), (4, .int (nI k)), (3, .int fo), (0, .ref (ad 43)), (1, .int (nI j)), (2, .int (nI i0))]) hx hb d_Mod_inOrder_20 hl (by decide) rfl (fun ls hl => ?_)
        have loop22 : ∀ (fu22 : Nat) (y : Nat) (H : Heap) (locs : List Loc) (ls : Array Slot), (y ≤ z) → (z + 1 ≤ y + fu22) → sZ (dC, dI) vCl 52 ad (fun q => N0 ≤ q) s.heap w H locs → lv_has ls 7 [(6, .int (nI y)), (5, .int (nI (cLt (kM P N j) (kM P N j k) y))), (4, .int (nI k)), (3, .int fo), (0, .ref (ad 43)), (1, .int (nI j)), (2, .int (nI i0))] → W p l e (headSpec ws_Mod_inOrder ({ frames := 1, cells := 0, slots := 0, locals := 25 } : Room)).room s m ([.ref (ad 43), .int (nI j), .int (nI i0)]).toArray below meth c H locs 0 0 (MQ below (va_Qi (fun r u => u = w ∧ ∃ k, k < z ∧ r = nI k ∧ P (64 * j + k) = P2 i0 ∧ N (64 * j + k) = N2 i0 ∧ A (64 * j + k) = A2 i0) (sPr (dC, dI) vCl [(cI, .int), (cL, .long), (cB, .object "CoinBag$Bag")] 52 ad N0) (fun q => N0 ≤ q)) ([.ref (ad 43), .int (nI j), .int (nI i0)]).toArray s 0 0 (fun q => N0 ≤ q)) (F0 m 22 ls []) := by
          intro fu22
          induction fu22 with
          | zero =>
            intro y H locs ls hy hf8
            omega
          | succ fu22 ih22 =>
            intro y H locs ls hy hf8 hZ hl
            have hcl := cLt_le (kM P N j) (kM P N j k) y
            refine lv_iload hx hb d_Mod_inOrder_22 (lv_at hl 0 rfl) ?_
            refine lv_aload_n hx hb d_Mod_inOrder_24 rfl (lv_at hl 4 rfl) ?_
            refine q_get (C := R_Mod) (T := T_Mod) (N := 10) hx hb hts (fun w h => gm (inT_Mod w h)) hown hK hZ (43) (by decide) hM.1 rfl 1 (by decide) (hts _ (gm k_421)) (fun _ h9 => h9) rfl d_Mod_inOrder_25 ?_
            refine lv_iload_n hx hb d_Mod_inOrder_28 rfl (lv_at hl 5 rfl) ?_
            refine q_iald hx hb hK hZ (44) 0 (j) (by decide) hM.2.1 rfl rfl (by omega) (by decide) d_Mod_inOrder_29 ?_
            refine q_topi (y := nI z) (hmn) ?_
            refine lv_icmp_ge (tgt := 61) hx hb d_Mod_inOrder_30 (by decide) (fun h30 => ?_) (fun h30 => ?_)
            · skip
              have h30 : z ≤ y := (nI_leI (a := z) (b := y) (by omega) (by omega)).mp h30
              refine lv_iload hx hb d_Mod_inOrder_61 (lv_at hl 1 rfl) ?_
              have ey : y = z := by omega
              refine q_topi (y := nI (cLt (kM P N j) (kM P N j k) z)) (by rw [ey]) ?_
              have hcl := cLt_le (kM P N j) (kM P N j k) z
              refine lv_iload_n hx hb d_Mod_inOrder_63 rfl (lv_at hl 6 rfl) ?_
              refine lv_icmp_ne (tgt := 72) hx hb d_Mod_inOrder_64 (by decide) (fun h64 => ?_) (fun h64 => ?_)
              · skip
                have h64 : ¬ (cLt (kM P N j) (kM P N j k) z) = i0 := fun z9 => h64 ((nI_eq (a := (cLt (kM P N j) (kM P N j k) z)) (b := i0) (by omega) (by omega)).mpr z9)
                refine lv_iload_n hx hb d_Mod_inOrder_72 rfl (lv_at hl 3 rfl) ?_
                refine lv_istore_n (lv' := [(3, .int fo), (6, .int (nI y)), (5, .int (nI (cLt (kM P N j) (kM P N j k) y))), (4, .int (nI k)), (0, .ref (ad 43)), (1, .int (nI j)), (2, .int (nI i0))]) hx hb d_Mod_inOrder_73 rfl hl (by decide) rfl (fun ls hl => ?_)
                refine lv_iinc (v := (nI (k + 1))) (lv' := [(4, .int (nI (k + 1))), (3, .int fo), (6, .int (nI y)), (5, .int (nI (cLt (kM P N j) (kM P N j k) y))), (0, .ref (ad 43)), (1, .int (nI j)), (2, .int (nI i0))]) hx hb d_Mod_inOrder_74 hl (k := 3) rfl (nI_1 _) (by decide) rfl (fun ls hl => ?_)
                refine lv_goto (tgt := 5) hx hb d_Mod_inOrder_77 (by decide) ?_
                exact ih5 (k + 1) fo _ _ _ (by omega) (by omega) (by first | exact Or.inr ⟨k, by omega, rfl, h64⟩ | exact io_s hfo h64) hZ (lv_sub hl [0, 1, 4, 5, 6] rfl)
              · skip
                have h64 : (cLt (kM P N j) (kM P N j k) z) = i0 := (nI_eq (a := (cLt (kM P N j) (kM P N j k) z)) (b := i0) (by omega) (by omega)).mp h64
                refine lv_iload hx hb d_Mod_inOrder_67 (lv_at hl 2 rfl) ?_
                refine lv_goto (tgt := 73) hx hb d_Mod_inOrder_69 (by decide) ?_
                refine lv_istore_n (lv' := [(3, .int (nI k)), (6, .int (nI y)), (5, .int (nI (cLt (kM P N j) (kM P N j k) y))), (4, .int (nI k)), (0, .ref (ad 43)), (1, .int (nI j)), (2, .int (nI i0))]) hx hb d_Mod_inOrder_73 rfl hl (by decide) rfl (fun ls hl => ?_)
                refine lv_iinc (v := (nI (k + 1))) (lv' := [(4, .int (nI (k + 1))), (3, .int (nI k)), (6, .int (nI y)), (5, .int (nI (cLt (kM P N j) (kM P N j k) y))), (0, .ref (ad 43)), (1, .int (nI j)), (2, .int (nI i0))]) hx hb d_Mod_inOrder_74 hl (k := 3) rfl (nI_1 _) (by decide) rfl (fun ls hl => ?_)
                refine lv_goto (tgt := 5) hx hb d_Mod_inOrder_77 (by decide) ?_
                exact ih5 (k + 1) (nI k) _ _ _ (by omega) (by omega) (by first | exact Or.inr ⟨k, by omega, rfl, h64⟩ | exact io_s hfo h64) hZ (lv_sub hl [0, 1, 4, 5, 6] rfl)
            · skip
              have h30 : y < z := Nat.lt_of_not_le (fun z9 => h30 ((nI_leI (a := z) (b := y) (by omega) (by omega)).mpr z9))
              refine lv_iload hx hb d_Mod_inOrder_33 (lv_at hl 1 rfl) ?_
              refine lv_aload_n hx hb d_Mod_inOrder_35 rfl (lv_at hl 4 rfl) ?_
              refine lv_iload_n hx hb d_Mod_inOrder_36 rfl (lv_at hl 5 rfl) ?_
              refine lv_iload hx hb d_Mod_inOrder_37 (lv_at hl 0 rfl) ?_
              refine lv_iload hx hb d_Mod_inOrder_39 (lv_at hl 2 rfl) ?_
              refine q_calli (va_runV (As := [.int (nI j), .int (nI y), .int (nI k)]) (rest := [.int (nI (cLt (kM P N j) (kM P N j k) y))]) ⟨hx, hb, hml, hown, hts⟩ (c_Mod_isBefore l dC dI cI cL cB ad N0 w t mn P N A rm rP rN rA bd j y k hM hj (by omega) (by omega)) (cwV 3 hts (gI_V k_564 k_561 k_563 k_19 k_24) rfl rfl rfl (by decide +kernel) ⟨Nat.le_of_ble_eq_true rfl, Nat.le_of_ble_eq_true rfl⟩) (q_preV hK hAm hZ hN [.int (nI j), .int (nI y), .int (nI k)] (43) 3 (by decide) hM.1 rfl) rfl rfl hl.1 rfl (lv_room (Nat.le_of_ble_eq_true rfl)) d_Mod_inOrder_41 ⟨Nat.zero_le _, Nat.zero_le _⟩) hZ (fun r u_r H locs h_r hZ => ?_)
              obtain ⟨e_r, h_r⟩ := h_r
              rw [e_r] at hZ
              refine lv_if_eq (tgt := 51) hx hb d_Mod_inOrder_44 (by decide) (fun h44 => ?_) (fun h44 => ?_)
              · skip
                refine lv_iconst (v := (nI 0)) hx hb d_Mod_inOrder_51 rfl ?_
                refine lv_iadd hx hb d_Mod_inOrder_52 ?_
                refine q_topi (y := nI ((cLt (kM P N j) (kM P N j k) y) + 0)) (nI_add _ _) ?_
                refine q_topi (y := nI (cLt (kM P N j) (kM P N j k) (y + 1))) (congrArg nI (cLt_n (bF h_r h44))) ?_
                refine lv_istore (lv' := [(5, .int (nI (cLt (kM P N j) (kM P N j k) (y + 1)))), (6, .int (nI y)), (4, .int (nI k)), (3, .int fo), (0, .ref (ad 43)), (1, .int (nI j)), (2, .int (nI i0))]) hx hb d_Mod_inOrder_53 hl (by decide) rfl (fun ls hl => ?_)
                refine lv_iinc (v := (nI (y + 1))) (lv' := [(6, .int (nI (y + 1))), (5, .int (nI (cLt (kM P N j) (kM P N j k) (y + 1)))), (4, .int (nI k)), (3, .int fo), (0, .ref (ad 43)), (1, .int (nI j)), (2, .int (nI i0))]) hx hb d_Mod_inOrder_55 hl (k := 1) rfl (nI_1 _) (by decide) rfl (fun ls hl => ?_)
                refine lv_goto (tgt := 22) hx hb d_Mod_inOrder_58 (by decide) ?_
                exact ih22 (y + 1) _ _ _ (by omega) (by omega) hZ (lv_sub hl [0, 1, 2, 3, 4, 5, 6] rfl)
              · skip
                refine lv_iconst (v := (nI 1)) hx hb d_Mod_inOrder_47 rfl ?_
                refine lv_goto (tgt := 52) hx hb d_Mod_inOrder_48 (by decide) ?_
                refine lv_iadd hx hb d_Mod_inOrder_52 ?_
                refine q_topi (y := nI ((cLt (kM P N j) (kM P N j k) y) + 1)) (nI_add _ _) ?_
                refine q_topi (y := nI (cLt (kM P N j) (kM P N j k) (y + 1))) (congrArg nI (cLt_y (bT h_r h44))) ?_
                refine lv_istore (lv' := [(5, .int (nI (cLt (kM P N j) (kM P N j k) (y + 1)))), (6, .int (nI y)), (4, .int (nI k)), (3, .int fo), (0, .ref (ad 43)), (1, .int (nI j)), (2, .int (nI i0))]) hx hb d_Mod_inOrder_53 hl (by decide) rfl (fun ls hl => ?_)
                refine lv_iinc (v := (nI (y + 1))) (lv' := [(6, .int (nI (y + 1))), (5, .int (nI (cLt (kM P N j) (kM P N j k) (y + 1)))), (4, .int (nI k)), (3, .int fo), (0, .ref (ad 43)), (1, .int (nI j)), (2, .int (nI i0))]) hx hb d_Mod_inOrder_55 hl (k := 1) rfl (nI_1 _) (by decide) rfl (fun ls hl => ?_)
                refine lv_goto (tgt := 22) hx hb d_Mod_inOrder_58 (by decide) ?_
                exact ih22 (y + 1) _ _ _ (by omega) (by omega) hZ (lv_sub hl [0, 1, 2, 3, 4, 5, 6] rfl)
        exact loop22 (z + 1) 0 _ _ _ (Nat.zero_le z) (by omega) hZ (lv_sub hl [0, 1, 2, 3, 4, 5, 6] rfl)
  exact loop5 (z + 1) 0 (-1) _ _ _ (Nat.zero_le z) (by omega) (Or.inl ⟨rfl, fun i hi => absurd hi (Nat.not_lt_zero _)⟩) hZ (lv_sub hl [0, 1, 2, 3, 4] rfl)
set_option maxHeartbeats 4000000 in
set_option maxRecDepth 100000 in
theorem c_Mod_lay (l : Launch) (dC : Nat → ClassId) (dI : Nat → Nat → Nat) (cI cL cB : ClassId) (ad : Nat → Nat) (N0 : Nat) (w : Nat → va_E) (t : Int32) (mn P : Nat → Int32) (N A : Nat → Int64) (rm : Nat) (rP : Nat → Int32) (rN rA : Nat → Int64) (bd : Int32) (q : Int32) (x v : Int64) (hM : isMod ad cI cL w t mn P N A (nI rm) rP rN rA bd) (hrm : rm < 130) : Met l y_Mod_lay ws_Mod_lay ({ frames := 0, cells := 0, slots := 0, locals := 0 } : Room) (va_Pc [.ref (ad 43), .int q, .long x, .long v] (sPr (dC, dI) vCl [(cI, .int), (cL, .long), (cB, .object "CoinBag$Bag")] 52 ad N0 w)) (va_Qv (fun u => fr w u 43 50 ∧ ((v = 0 ∧ u = w) ∨ (¬ v = 0 ∧ isMod ad cI cL u t mn P N A (nI (rm + 1)) (upd rP rm q) (vp_updL rN rm x) (vp_updL rA rm v) bd))) (sPr (dC, dI) vCl [(cI, .int), (cL, .long), (cB, .object "CoinBag$Bag")] 52 ad N0) (fun q => N0 ≤ q)) 0 0 (fun q => N0 ≤ q) := by
  refine Met.ofW (cc := b_Mod_lay) (maxL := 6) (ret := none) (by decide) rfl ?_
  intro p e s m args below meth c s₁ B hml hv
  obtain ⟨rfl, hP, hK, hD, hN, hAm⟩ := hv
  have hx := B.exec
  have hb := B.bytes
  have hr := B.returns
  have hts := atoms_spec (ws := ws_Mod_lay) B.pre
  have hown : s.vm.findClass "CoinBagModel" = some m.cls := findClass_of_methodNamed B.named
  have hlocks := B.notSynchronized
  have hZ : sZ (dC, dI) vCl 52 ad (fun q => N0 ≤ q) s.heap w s.heap [] := ⟨hP, hD, va_S.rf⟩
  have hl := lv_entry ([.ref (ad 43), .int q, .long x, .long v]) (n := 6) (Nat.le_of_ble_eq_true rfl)
  rw [lg_entry_eq]
  generalize (lg_sl ([.ref (ad 43), .int q, .long x, .long v]) ++ List.replicate (6 - (lg_sl ([.ref (ad 43), .int q, .long x, .long v])).length) Slot.unset).toArray = ls at hl ⊢
  have hl : lv_has ls 6 [(0, .ref (ad 43)), (1, .int q), (2, .long x), (4, .long v)] := hl
  have hfr : fr w w 43 50 := fr_rf
  refine lv_lload hx hb d_Mod_lay_0 (lv_at hl 3 rfl) ?_
  refine lv_lconst (v := 0) hx hb d_Mod_lay_2 rfl ?_
  refine W.lcmp hx hb d_Mod_lay_3 ?_
  refine lv_if_eq (tgt := 48) hx hb d_Mod_lay_4 (by decide) (fun h4 => ?_) (fun h4 => ?_)
  · skip
    rw [lg_cmp_eq] at h4
    exact q_vret hx hb hr hlocks hK hAm hZ hN (⟨hfr, (by first | exact Or.inl ⟨h4, rfl⟩ | exact Or.inr ⟨h4, hM⟩)⟩) d_Mod_lay_48
  · skip
    rw [lg_cmp_eq] at h4
    refine lv_aload_n hx hb d_Mod_lay_7 rfl (lv_at hl 0 rfl) ?_
    refine q_get (C := R_Mod) (T := T_Mod) (N := 10) hx hb hts (fun w h => gm (inT_Mod w h)) hown hK hZ (43) (by decide) hM.1 rfl 6 (by decide) (hts _ (gm k_426)) (fun _ h9 => h9) rfl d_Mod_lay_8 ?_
    refine lv_aload_n hx hb d_Mod_lay_11 rfl (lv_at hl 0 rfl) ?_
    refine q_get (C := R_Mod) (T := T_Mod) (N := 10) hx hb hts (fun w h => gm (inT_Mod w h)) hown hK hZ (43) (by decide) hM.1 rfl 5 (by decide) (hts _ (gm k_425)) (fun _ h9 => h9) rfl d_Mod_lay_12 ?_
    refine lv_iload_n hx hb d_Mod_lay_15 rfl (lv_at hl 1 rfl) ?_
    refine q_iast hx hb hK hZ (48) 0 (rm) (by decide) hM.2.2.2.2.2.1 rfl rfl (by omega) (by decide) d_Mod_lay_16 (fun H locs hZ => ?_)
    have hM := hM.up48 (upd rP rm q)
    have hfr := fr_up (x := 48) (e := .inl (cI, 130, .inl (upd rP rm q))) hfr (by omega) (by omega)
    have hZ : sZ (dC, dI) vCl 52 ad (fun q => N0 ≤ q) s.heap (va_up w 48 (.inl (cI, 130, .inl (upd rP rm q)))) H locs := hZ
    generalize va_up w 48 (.inl (cI, 130, .inl (upd rP rm q))) = w1 at hZ hM hfr
    refine lv_aload_n hx hb d_Mod_lay_17 rfl (lv_at hl 0 rfl) ?_
    refine q_get (C := R_Mod) (T := T_Mod) (N := 10) hx hb hts (fun w h => gm (inT_Mod w h)) hown hK hZ (43) (by decide) hM.1 rfl 7 (by decide) (hts _ (gm k_427)) (fun _ h9 => h9) rfl d_Mod_lay_18 ?_
    refine lv_aload_n hx hb d_Mod_lay_21 rfl (lv_at hl 0 rfl) ?_
    refine q_get (C := R_Mod) (T := T_Mod) (N := 10) hx hb hts (fun w h => gm (inT_Mod w h)) hown hK hZ (43) (by decide) hM.1 rfl 5 (by decide) (hts _ (gm k_425)) (fun _ h9 => h9) rfl d_Mod_lay_22 ?_
    refine lv_lload_n hx hb d_Mod_lay_25 rfl (lv_at hl 2 rfl) ?_
    refine q_last hx hb hK hZ (49) 1 (rm) (by decide) hM.2.2.2.2.2.2.1 rfl rfl (by omega) (by decide) d_Mod_lay_26 (fun H locs hZ => ?_)
    have hM := hM.up49 (vp_updL rN rm x)
    have hfr := fr_up (x := 49) (e := .inl (cL, 130, .inr (.inl (vp_updL rN rm x)))) hfr (by omega) (by omega)
    have hZ : sZ (dC, dI) vCl 52 ad (fun q => N0 ≤ q) s.heap (va_up w1 49 (.inl (cL, 130, .inr (.inl (vp_updL rN rm x))))) H locs := hZ
    generalize va_up w1 49 (.inl (cL, 130, .inr (.inl (vp_updL rN rm x)))) = w2 at hZ hM hfr
    refine lv_aload_n hx hb d_Mod_lay_27 rfl (lv_at hl 0 rfl) ?_
    refine q_get (C := R_Mod) (T := T_Mod) (N := 10) hx hb hts (fun w h => gm (inT_Mod w h)) hown hK hZ (43) (by decide) hM.1 rfl 8 (by decide) (hts _ (gm k_428)) (fun _ h9 => h9) rfl d_Mod_lay_28 ?_
    refine lv_aload_n hx hb d_Mod_lay_31 rfl (lv_at hl 0 rfl) ?_
    refine q_get (C := R_Mod) (T := T_Mod) (N := 10) hx hb hts (fun w h => gm (inT_Mod w h)) hown hK hZ (43) (by decide) hM.1 rfl 5 (by decide) (hts _ (gm k_425)) (fun _ h9 => h9) rfl d_Mod_lay_32 ?_
    refine lv_lload hx hb d_Mod_lay_35 (lv_at hl 3 rfl) ?_
    refine q_last hx hb hK hZ (50) 1 (rm) (by decide) hM.2.2.2.2.2.2.2 rfl rfl (by omega) (by decide) d_Mod_lay_37 (fun H locs hZ => ?_)
    have hM := hM.up50 (vp_updL rA rm v)
    have hfr := fr_up (x := 50) (e := .inl (cL, 130, .inr (.inl (vp_updL rA rm v)))) hfr (by omega) (by omega)
    have hZ : sZ (dC, dI) vCl 52 ad (fun q => N0 ≤ q) s.heap (va_up w2 50 (.inl (cL, 130, .inr (.inl (vp_updL rA rm v))))) H locs := hZ
    generalize va_up w2 50 (.inl (cL, 130, .inr (.inl (vp_updL rA rm v)))) = w3 at hZ hM hfr
    refine lv_aload_n hx hb d_Mod_lay_38 rfl (lv_at hl 0 rfl) ?_
    refine lv_dup hx hb d_Mod_lay_39 rfl ?_
    refine q_get (C := R_Mod) (T := T_Mod) (N := 10) hx hb hts (fun w h => gm (inT_Mod w h)) hown hK hZ (43) (by decide) hM.1 rfl 5 (by decide) (hts _ (gm k_425)) (fun _ h9 => h9) rfl d_Mod_lay_40 ?_
    refine lv_iconst (v := (nI 1)) hx hb d_Mod_lay_43 rfl ?_
    refine lv_iadd hx hb d_Mod_lay_44 ?_
    refine q_topi (y := nI (rm + 1)) (nI_add _ _) ?_
    refine q_put (C := R_Mod) (T := T_Mod) (N := 10) (ty := .int) (v := .int (nI (rm + 1))) hx hb hts (fun w h => gm (inT_Mod w h)) ty_Mod tyo_Mod nm_Mod hown hK hZ (43) (by decide) hM.1 rfl 5 (by decide) (hts _ (gm k_425)) (fun _ h9 => h9) rfl (by decide +kernel) (rfl) (rfl) (Nat.le_of_ble_eq_true rfl) d_Mod_lay_45 (fun H locs hZ => ?_)
    have hM := hM.up43 t (nI (rm + 1)) bd
    have hfr := fr_up (x := 43) (e := .inr (3, [.int t, .ref (ad 44), .ref (ad 45), .ref (ad 46), .ref (ad 47), .int (nI (rm + 1)), .ref (ad 48), .ref (ad 49), .ref (ad 50), .int bd])) hfr (by omega) (by omega)
    have hZ : sZ (dC, dI) vCl 52 ad (fun q => N0 ≤ q) s.heap (va_up w3 43 (.inr (3, [.int t, .ref (ad 44), .ref (ad 45), .ref (ad 46), .ref (ad 47), .int (nI (rm + 1)), .ref (ad 48), .ref (ad 49), .ref (ad 50), .int bd]))) H locs := hZ
    generalize va_up w3 43 (.inr (3, [.int t, .ref (ad 44), .ref (ad 45), .ref (ad 46), .ref (ad 47), .int (nI (rm + 1)), .ref (ad 48), .ref (ad 49), .ref (ad 50), .int bd])) = w4 at hZ hM hfr
    exact q_vret hx hb hr hlocks hK hAm hZ hN (⟨hfr, (by first | exact Or.inl ⟨h4, rfl⟩ | exact Or.inr ⟨h4, hM⟩)⟩) d_Mod_lay_48
set_option maxHeartbeats 4000000 in
set_option maxRecDepth 100000 in
theorem c_Mod_begin (l : Launch) (dC : Nat → ClassId) (dI : Nat → Nat → Nat) (cI cL cB : ClassId) (ad : Nat → Nat) (N0 : Nat) (w : Nat → va_E) (t : Int32) (mn P : Nat → Int32) (N A : Nat → Int64) (rm : Int32) (rP : Nat → Int32) (rN rA : Nat → Int64) (bd : Int32)  (hM : isMod ad cI cL w t mn P N A rm rP rN rA bd) : Met l y_Mod_begin ws_Mod_begin ({ frames := 0, cells := 0, slots := 0, locals := 0 } : Room) (va_Pc [.ref (ad 43)] (sPr (dC, dI) vCl [(cI, .int), (cL, .long), (cB, .object "CoinBag$Bag")] 52 ad N0 w)) (va_Qv (fun u => fr w u 43 50 ∧ isMod ad cI cL u t mn P N A (nI 0) rP rN rA (nI 0)) (sPr (dC, dI) vCl [(cI, .int), (cL, .long), (cB, .object "CoinBag$Bag")] 52 ad N0) (fun q => N0 ≤ q)) 0 0 (fun q => N0 ≤ q) := by
  refine Met.ofW (cc := b_Mod_begin) (maxL := 1) (ret := none) (by decide) rfl ?_
  intro p e s m args below meth c s₁ B hml hv
  obtain ⟨rfl, hP, hK, hD, hN, hAm⟩ := hv
  have hx := B.exec
  have hb := B.bytes
  have hr := B.returns
  have hts := atoms_spec (ws := ws_Mod_begin) B.pre
  have hown : s.vm.findClass "CoinBagModel" = some m.cls := findClass_of_methodNamed B.named
  have hlocks := B.notSynchronized
  have hZ : sZ (dC, dI) vCl 52 ad (fun q => N0 ≤ q) s.heap w s.heap [] := ⟨hP, hD, va_S.rf⟩
  have hl := lv_entry ([.ref (ad 43)]) (n := 1) (Nat.le_of_ble_eq_true rfl)
  rw [lg_entry_eq]
  generalize (lg_sl ([.ref (ad 43)]) ++ List.replicate (1 - (lg_sl ([.ref (ad 43)])).length) Slot.unset).toArray = ls at hl ⊢
  have hl : lv_has ls 1 [(0, .ref (ad 43))] := hl
  have hfr : fr w w 43 50 := fr_rf
  refine lv_aload_n hx hb d_Mod_begin_0 rfl (lv_at hl 0 rfl) ?_
  refine lv_iconst (v := (nI 0)) hx hb d_Mod_begin_1 rfl ?_
  refine q_put (C := R_Mod) (T := T_Mod) (N := 10) (ty := .int) (v := .int (nI 0)) hx hb hts (fun w h => gm (inT_Mod w h)) ty_Mod tyo_Mod nm_Mod hown hK hZ (43) (by decide) hM.1 rfl 5 (by decide) (hts _ (gm k_425)) (fun _ h9 => h9) rfl (by decide +kernel) (rfl) (rfl) (Nat.le_of_ble_eq_true rfl) d_Mod_begin_2 (fun H locs hZ => ?_)
  have hM := hM.up43 t (nI 0) bd
  have hfr := fr_up (x := 43) (e := .inr (3, [.int t, .ref (ad 44), .ref (ad 45), .ref (ad 46), .ref (ad 47), .int (nI 0), .ref (ad 48), .ref (ad 49), .ref (ad 50), .int bd])) hfr (by omega) (by omega)
  have hZ : sZ (dC, dI) vCl 52 ad (fun q => N0 ≤ q) s.heap (va_up w 43 (.inr (3, [.int t, .ref (ad 44), .ref (ad 45), .ref (ad 46), .ref (ad 47), .int (nI 0), .ref (ad 48), .ref (ad 49), .ref (ad 50), .int bd]))) H locs := hZ
  generalize va_up w 43 (.inr (3, [.int t, .ref (ad 44), .ref (ad 45), .ref (ad 46), .ref (ad 47), .int (nI 0), .ref (ad 48), .ref (ad 49), .ref (ad 50), .int bd])) = w5 at hZ hM hfr
  refine lv_aload_n hx hb d_Mod_begin_5 rfl (lv_at hl 0 rfl) ?_
  refine lv_iconst (v := (nI 0)) hx hb d_Mod_begin_6 rfl ?_
  refine q_put (C := R_Mod) (T := T_Mod) (N := 10) (ty := .boolean) (v := .int (nI 0)) hx hb hts (fun w h => gm (inT_Mod w h)) ty_Mod tyo_Mod nm_Mod hown hK hZ (43) (by decide) hM.1 rfl 9 (by decide) (hts _ (gm k_429)) (fun _ h9 => h9) rfl (by decide +kernel) (rfl) (rfl) (Nat.le_of_ble_eq_true rfl) d_Mod_begin_7 (fun H locs hZ => ?_)
  have hM := hM.up43 t (nI 0) (nI 0)
  have hfr := fr_up (x := 43) (e := .inr (3, [.int t, .ref (ad 44), .ref (ad 45), .ref (ad 46), .ref (ad 47), .int (nI 0), .ref (ad 48), .ref (ad 49), .ref (ad 50), .int (nI 0)])) hfr (by omega) (by omega)
  have hZ : sZ (dC, dI) vCl 52 ad (fun q => N0 ≤ q) s.heap (va_up w5 43 (.inr (3, [.int t, .ref (ad 44), .ref (ad 45), .ref (ad 46), .ref (ad 47), .int (nI 0), .ref (ad 48), .ref (ad 49), .ref (ad 50), .int (nI 0)]))) H locs := hZ
  generalize va_up w5 43 (.inr (3, [.int t, .ref (ad 44), .ref (ad 45), .ref (ad 46), .ref (ad 47), .int (nI 0), .ref (ad 48), .ref (ad 49), .ref (ad 50), .int (nI 0)])) = w6 at hZ hM hfr
  exact q_vret hx hb hr hlocks hK hAm hZ hN (⟨hfr, hM⟩) d_Mod_begin_10
set_option maxHeartbeats 4000000 in
set_option maxRecDepth 100000 in
theorem c_Mod_becomes (l : Launch) (dC : Nat → ClassId) (dI : Nat → Nat → Nat) (cI cL cB : ClassId) (ad : Nat → Nat) (N0 : Nat) (w : Nat → va_E) (t : Int32) (mn P : Nat → Int32) (N A : Nat → Int64) (rm : Nat) (rP : Nat → Int32) (rN rA : Nat → Int64) (bd : Int32) (j : Nat) (F : Nat → Int → Int64) (G : Int → Int64) (hM : isMod ad cI cL w t mn P N A (nI rm) rP rN rA bd) (hj : j < 8) (hrm : rm ≤ 130) (hB : mBag mn P N A F) (hR : mRep rm rP rN rA G) : Met l y_Mod_becomes ws_Mod_becomes ({ frames := 0, cells := 0, slots := 0, locals := 0 } : Room) (va_Pc [.ref (ad 43), .int (nI j)] (sPr (dC, dI) vCl [(cI, .int), (cL, .long), (cB, .object "CoinBag$Bag")] 52 ad N0 w)) (va_Qi (fun r u => fr w u 43 50 ∧ (((bd = 0 ∧ rm ≤ 64) ∧ r = 1 ∧ sM ad cI cL u t (va_up F j G)) ∨ (¬ (bd = 0 ∧ rm ≤ 64) ∧ r = 0 ∧ sM ad cI cL u t F))) (sPr (dC, dI) vCl [(cI, .int), (cL, .long), (cB, .object "CoinBag$Bag")] 52 ad N0) (fun q => N0 ≤ q)) 0 0 (fun q => N0 ≤ q) := by
  refine Met.ofW (cc := b_Mod_becomes) (maxL := 3) (ret := (some .boolean)) (by decide) rfl ?_
  intro p e s m args below meth c s₁ B hml hv
  obtain ⟨rfl, hP, hK, hD, hN, hAm⟩ := hv
  have hx := B.exec
  have hb := B.bytes
  have hr := B.returns
  have hts := atoms_spec (ws := ws_Mod_becomes) B.pre
  have hown : s.vm.findClass "CoinBagModel" = some m.cls := findClass_of_methodNamed B.named
  have hlocks := B.notSynchronized
  have hZ : sZ (dC, dI) vCl 52 ad (fun q => N0 ≤ q) s.heap w s.heap [] := ⟨hP, hD, va_S.rf⟩
  have hl := lv_entry ([.ref (ad 43), .int (nI j)]) (n := 3) (Nat.le_of_ble_eq_true rfl)
  rw [lg_entry_eq]
  generalize (lg_sl ([.ref (ad 43), .int (nI j)]) ++ List.replicate (3 - (lg_sl ([.ref (ad 43), .int (nI j)])).length) Slot.unset).toArray = ls at hl ⊢
  have hl : lv_has ls 3 [(0, .ref (ad 43)), (1, .int (nI j))] := hl
  have hfr : fr w w 43 50 := fr_rf
  refine lv_aload_n hx hb d_Mod_becomes_0 rfl (lv_at hl 0 rfl) ?_
  refine q_get (C := R_Mod) (T := T_Mod) (N := 10) hx hb hts (fun w h => gm (inT_Mod w h)) hown hK hZ (43) (by decide) hM.1 rfl 9 (by decide) (hts _ (gm k_429)) (fun _ h9 => h9) rfl d_Mod_becomes_1 ?_
  refine lv_if_ne (tgt := 16) hx hb d_Mod_becomes_4 (by decide) (fun h4 => ?_) (fun h4 => ?_)
  · skip
    refine lv_iconst (v := (nI 0)) hx hb d_Mod_becomes_16 rfl ?_
    exact q_zret hx hb hr rfl hlocks hK hAm hZ hN (⟨hfr, Or.inr ⟨(by first | exact fun y => h4 y.1 | exact fun y => absurd y.2 (by omega)), rfl, ⟨_, _, _, _, _, _, _, _, _, hM, hB⟩⟩⟩) d_Mod_becomes_17
  · skip
    refine lv_aload_n hx hb d_Mod_becomes_7 rfl (lv_at hl 0 rfl) ?_
    refine q_get (C := R_Mod) (T := T_Mod) (N := 10) hx hb hts (fun w h => gm (inT_Mod w h)) hown hK hZ (43) (by decide) hM.1 rfl 5 (by decide) (hts _ (gm k_425)) (fun _ h9 => h9) rfl d_Mod_becomes_8 ?_
    refine lv_bipush (v := (nI 64)) hx hb d_Mod_becomes_11 rfl ?_
    refine lv_icmp_le (tgt := 18) hx hb d_Mod_becomes_13 (by decide) (fun h13 => ?_) (fun h13 => ?_)
    · skip
      have h13 : rm ≤ 64 := (nI_leI (a := rm) (b := 64) (by omega) (by omega)).mp h13
      refine lv_aload_n hx hb d_Mod_becomes_18 rfl (lv_at hl 0 rfl) ?_
      refine q_get (C := R_Mod) (T := T_Mod) (N := 10) hx hb hts (fun w h => gm (inT_Mod w h)) hown hK hZ (43) (by decide) hM.1 rfl 1 (by decide) (hts _ (gm k_421)) (fun _ h9 => h9) rfl d_Mod_becomes_19 ?_
      refine lv_iload_n hx hb d_Mod_becomes_22 rfl (lv_at hl 1 rfl) ?_
      refine lv_aload_n hx hb d_Mod_becomes_23 rfl (lv_at hl 0 rfl) ?_
      refine q_get (C := R_Mod) (T := T_Mod) (N := 10) hx hb hts (fun w h => gm (inT_Mod w h)) hown hK hZ (43) (by decide) hM.1 rfl 5 (by decide) (hts _ (gm k_425)) (fun _ h9 => h9) rfl d_Mod_becomes_24 ?_
      refine q_iast hx hb hK hZ (44) 0 (j) (by decide) hM.2.1 rfl rfl (by omega) (by decide) d_Mod_becomes_27 (fun H locs hZ => ?_)
      have hM := hM.up44 (upd mn j (nI rm))
      have hfr := fr_up (x := 44) (e := .inl (cI, 8, .inl (upd mn j (nI rm)))) hfr (by omega) (by omega)
      have hZ : sZ (dC, dI) vCl 52 ad (fun q => N0 ≤ q) s.heap (va_up w 44 (.inl (cI, 8, .inl (upd mn j (nI rm))))) H locs := hZ
      generalize va_up w 44 (.inl (cI, 8, .inl (upd mn j (nI rm)))) = w7 at hZ hM hfr
      refine lv_iconst (v := (nI 0)) hx hb d_Mod_becomes_28 rfl ?_
      refine lv_istore_n (lv' := [(2, .int (nI 0)), (0, .ref (ad 43)), (1, .int (nI j))]) hx hb d_Mod_becomes_29 rfl hl (by decide) rfl (fun ls hl => ?_)
      have loop30 : ∀ (fu30 : Nat) (k : Nat) (P1 : Nat → Int32) (N1 A1 : Nat → Int64) (u : Nat → va_E) (H : Heap) (locs : List Loc) (ls : Array Slot), (k ≤ rm) → (rm + 1 ≤ k + fu30) → (isMod ad cI cL u t (upd mn j (nI rm)) P1 N1 A1 (nI rm) rP rN rA bd) → ((∀ i, i < k → P1 (64 * j + i) = rP i) ∧ ∀ y, (y < 64 * j ∨ 64 * j + 64 ≤ y) → P1 y = P y) → ((∀ i, i < k → N1 (64 * j + i) = rN i) ∧ ∀ y, (y < 64 * j ∨ 64 * j + 64 ≤ y) → N1 y = N y) → ((∀ i, i < k → A1 (64 * j + i) = rA i) ∧ ∀ y, (y < 64 * j ∨ 64 * j + 64 ≤ y) → A1 y = A y) → (fr w u 43 50) → sZ (dC, dI) vCl 52 ad (fun q => N0 ≤ q) s.heap u H locs → lv_has ls 3 [(2, .int (nI k)), (0, .ref (ad 43)), (1, .int (nI j))] → W p l e (headSpec ws_Mod_becomes ({ frames := 0, cells := 0, slots := 0, locals := 0 } : Room)).room s m ([.ref (ad 43), .int (nI j)]).toArray below meth c H locs 0 0 (MQ below (va_Qi (fun r u => fr w u 43 50 ∧ (((bd = 0 ∧ rm ≤ 64) ∧ r = 1 ∧ sM ad cI cL u t (va_up F j G)) ∨ (¬ (bd = 0 ∧ rm ≤ 64) ∧ r = 0 ∧ sM ad cI cL u t F))) (sPr (dC, dI) vCl [(cI, .int), (cL, .long), (cB, .object "CoinBag$Bag")] 52 ad N0) (fun q => N0 ≤ q)) ([.ref (ad 43), .int (nI j)]).toArray s 0 0 (fun q => N0 ≤ q)) (F0 m 30 ls []) := by
        intro fu30
        induction fu30 with
        | zero =>
          intro k P1 N1 A1 u H locs ls hk hf9 hM hP1 hN1 hA1 hfr
          omega
        | succ fu30 ih30 =>
          intro k P1 N1 A1 u H locs ls hk hf9 hM hP1 hN1 hA1 hfr hZ hl
          refine lv_iload_n hx hb d_Mod_becomes_30 rfl (lv_at hl 0 rfl) ?_
          refine lv_aload_n hx hb d_Mod_becomes_31 rfl (lv_at hl 1 rfl) ?_
          refine q_get (C := R_Mod) (T := T_Mod) (N := 10) hx hb hts (fun w h => gm (inT_Mod w h)) hown hK hZ (43) (by decide) hM.1 rfl 5 (by decide) (hts _ (gm k_425)) (fun _ h9 => h9) rfl d_Mod_becomes_32 ?_
          refine lv_icmp_ge (tgt := 95) hx hb d_Mod_becomes_35 (by decide) (fun h35 => ?_) (fun h35 => ?_)
          · skip
            have h35 : rm ≤ k := (nI_leI (a := rm) (b := k) (by omega) (by omega)).mp h35
            refine lv_iconst (v := (nI 1)) hx hb d_Mod_becomes_95 rfl ?_
            exact q_zret hx hb hr rfl hlocks hK hAm hZ hN (⟨hfr, Or.inl ⟨⟨h4, h13⟩, rfl, ⟨_, _, _, _, _, _, _, _, _, hM, by have ek : k = rm := (by omega); rw [ek] at hP1 hN1 hA1; exact mS_row hB h13 hR hP1 hN1 hA1⟩⟩⟩) d_Mod_becomes_96
          · skip
            have h35 : k < rm := Nat.lt_of_not_le (fun z9 => h35 ((nI_leI (a := rm) (b := k) (by omega) (by omega)).mpr z9))
            refine lv_aload_n hx hb d_Mod_becomes_38 rfl (lv_at hl 1 rfl) ?_
            refine q_get (C := R_Mod) (T := T_Mod) (N := 10) hx hb hts (fun w h => gm (inT_Mod w h)) hown hK hZ (43) (by decide) hM.1 rfl 2 (by decide) (hts _ (gm k_422)) (fun _ h9 => h9) rfl d_Mod_becomes_39 ?_
            refine lv_bipush (v := (nI 64)) hx hb d_Mod_becomes_42 rfl ?_
            refine lv_iload_n hx hb d_Mod_becomes_44 rfl (lv_at hl 2 rfl) ?_
            refine lv_imul hx hb d_Mod_becomes_45 ?_
            refine q_topi (y := nI (64 * j)) (pk_mul _ _) ?_
            refine lv_iload_n hx hb d_Mod_becomes_46 rfl (lv_at hl 0 rfl) ?_
            refine lv_iadd hx hb d_Mod_becomes_47 ?_
            refine q_topi (y := nI ((64 * j) + k)) (nI_add _ _) ?_
            refine lv_aload_n hx hb d_Mod_becomes_48 rfl (lv_at hl 1 rfl) ?_
            refine q_get (C := R_Mod) (T := T_Mod) (N := 10) hx hb hts (fun w h => gm (inT_Mod w h)) hown hK hZ (43) (by decide) hM.1 rfl 6 (by decide) (hts _ (gm k_426)) (fun _ h9 => h9) rfl d_Mod_becomes_49 ?_
            refine lv_iload_n hx hb d_Mod_becomes_52 rfl (lv_at hl 0 rfl) ?_
            refine q_iald hx hb hK hZ (48) 0 (k) (by decide) hM.2.2.2.2.2.1 rfl rfl (by omega) (by decide) d_Mod_becomes_53 ?_
            refine q_iast hx hb hK hZ (45) 0 (((64 * j) + k)) (by decide) hM.2.2.1 rfl rfl (by omega) (by decide) d_Mod_becomes_54 (fun H locs hZ => ?_)
            have hM := hM.up45 (upd P1 ((64 * j) + k) (rP k))
            have hfr := fr_up (x := 45) (e := .inl (cI, 512, .inl (upd P1 ((64 * j) + k) (rP k)))) hfr (by omega) (by omega)
            have hZ : sZ (dC, dI) vCl 52 ad (fun q => N0 ≤ q) s.heap (va_up u 45 (.inl (cI, 512, .inl (upd P1 ((64 * j) + k) (rP k))))) H locs := hZ
            generalize va_up u 45 (.inl (cI, 512, .inl (upd P1 ((64 * j) + k) (rP k)))) = w8 at hZ hM hfr
            refine lv_aload_n hx hb d_Mod_becomes_55 rfl (lv_at hl 1 rfl) ?_
            refine q_get (C := R_Mod) (T := T_Mod) (N := 10) hx hb hts (fun w h => gm (inT_Mod w h)) hown hK hZ (43) (by decide) hM.1 rfl 3 (by decide) (hts _ (gm k_423)) (fun _ h9 => h9) rfl d_Mod_becomes_56 ?_
            refine lv_bipush (v := (nI 64)) hx hb d_Mod_becomes_59 rfl ?_
            refine lv_iload_n hx hb d_Mod_becomes_61 rfl (lv_at hl 2 rfl) ?_
            refine lv_imul hx hb d_Mod_becomes_62 ?_
            refine q_topi (y := nI (64 * j)) (pk_mul _ _) ?_
            refine lv_iload_n hx hb d_Mod_becomes_63 rfl (lv_at hl 0 rfl) ?_
            refine lv_iadd hx hb d_Mod_becomes_64 ?_
            refine q_topi (y := nI ((64 * j) + k)) (nI_add _ _) ?_
            refine lv_aload_n hx hb d_Mod_becomes_65 rfl (lv_at hl 1 rfl) ?_
            refine q_get (C := R_Mod) (T := T_Mod) (N := 10) hx hb hts (fun w h => gm (inT_Mod w h)) hown hK hZ (43) (by decide) hM.1 rfl 7 (by decide) (hts _ (gm k_427)) (fun _ h9 => h9) rfl d_Mod_becomes_66 ?_
            refine lv_iload_n hx hb d_Mod_becomes_69 rfl (lv_at hl 0 rfl) ?_
            refine q_lald hx hb hK hZ (49) 1 (k) (by decide) hM.2.2.2.2.2.2.1 rfl rfl (by omega) (by decide) d_Mod_becomes_70 ?_
            refine q_last hx hb hK hZ (46) 1 (((64 * j) + k)) (by decide) hM.2.2.2.1 rfl rfl (by omega) (by decide) d_Mod_becomes_71 (fun H locs hZ => ?_)
            have hM := hM.up46 (vp_updL N1 ((64 * j) + k) (rN k))
            have hfr := fr_up (x := 46) (e := .inl (cL, 512, .inr (.inl (vp_updL N1 ((64 * j) + k) (rN k))))) hfr (by omega) (by omega)
            have hZ : sZ (dC, dI) vCl 52 ad (fun q => N0 ≤ q) s.heap (va_up w8 46 (.inl (cL, 512, .inr (.inl (vp_updL N1 ((64 * j) + k) (rN k)))))) H locs := hZ
            generalize va_up w8 46 (.inl (cL, 512, .inr (.inl (vp_updL N1 ((64 * j) + k) (rN k))))) = w9 at hZ hM hfr
            refine lv_aload_n hx hb d_Mod_becomes_72 rfl (lv_at hl 1 rfl) ?_
            refine q_get (C := R_Mod) (T := T_Mod) (N := 10) hx hb hts (fun w h => gm (inT_Mod w h)) hown hK hZ (43) (by decide) hM.1 rfl 4 (by decide) (hts _ (gm k_424)) (fun _ h9 => h9) rfl d_Mod_becomes_73 ?_
            refine lv_bipush (v := (nI 64)) hx hb d_Mod_becomes_76 rfl ?_
            refine lv_iload_n hx hb d_Mod_becomes_78 rfl (lv_at hl 2 rfl) ?_
            refine lv_imul hx hb d_Mod_becomes_79 ?_
            refine q_topi (y := nI (64 * j)) (pk_mul _ _) ?_
            refine lv_iload_n hx hb d_Mod_becomes_80 rfl (lv_at hl 0 rfl) ?_
            refine lv_iadd hx hb d_Mod_becomes_81 ?_
            refine q_topi (y := nI ((64 * j) + k)) (nI_add _ _) ?_
            refine lv_aload_n hx hb d_Mod_becomes_82 rfl (lv_at hl 1 rfl) ?_
            refine q_get (C := R_Mod) (T := T_Mod) (N := 10) hx hb hts (fun w h => gm (inT_Mod w h)) hown hK hZ (43) (by decide) hM.1 rfl 8 (by decide) (hts _ (gm k_428)) (fun _ h9 => h9) rfl d_Mod_becomes_83 ?_
            refine lv_iload_n hx hb d_Mod_becomes_86 rfl (lv_at hl 0 rfl) ?_
            refine q_lald hx hb hK hZ (50) 1 (k) (by decide) hM.2.2.2.2.2.2.2 rfl rfl (by omega) (by decide) d_Mod_becomes_87 ?_
            refine q_last hx hb hK hZ (47) 1 (((64 * j) + k)) (by decide) hM.2.2.2.2.1 rfl rfl (by omega) (by decide) d_Mod_becomes_88 (fun H locs hZ => ?_)
            have hM := hM.up47 (vp_updL A1 ((64 * j) + k) (rA k))
            have hfr := fr_up (x := 47) (e := .inl (cL, 512, .inr (.inl (vp_updL A1 ((64 * j) + k) (rA k))))) hfr (by omega) (by omega)
            have hZ : sZ (dC, dI) vCl 52 ad (fun q => N0 ≤ q) s.heap (va_up w9 47 (.inl (cL, 512, .inr (.inl (vp_updL A1 ((64 * j) + k) (rA k)))))) H locs := hZ
            generalize va_up w9 47 (.inl (cL, 512, .inr (.inl (vp_updL A1 ((64 * j) + k) (rA k))))) = w10 at hZ hM hfr
            refine lv_iinc (v := (nI (k + 1))) (lv' := [(2, .int (nI (k + 1))), (0, .ref (ad 43)), (1, .int (nI j))]) hx hb d_Mod_becomes_89 hl (k := 0) rfl (nI_1 _) (by decide) rfl (fun ls hl => ?_)
            refine lv_goto (tgt := 30) hx hb d_Mod_becomes_92 (by decide) ?_
            exact ih30 (k + 1) _ _ _ w10 _ _ _ (by omega) (by omega) hM (cpI_s hP1 (by omega)) (cpL_s hN1 (by omega)) (cpL_s hA1 (by omega)) hfr hZ (lv_sub hl [0, 1, 2] rfl)
      exact loop30 (rm + 1) 0 P N A w7 _ _ _ (Nat.zero_le rm) (by omega) hM cp_0 cp_0 cp_0 hfr hZ (lv_sub hl [0, 1, 2] rfl)
    · skip
      have h13 : 64 < rm := Nat.lt_of_not_le (fun z9 => h13 ((nI_leI (a := rm) (b := 64) (by omega) (by omega)).mpr z9))
      refine lv_iconst (v := (nI 0)) hx hb d_Mod_becomes_16 rfl ?_
      exact q_zret hx hb hr rfl hlocks hK hAm hZ hN (⟨hfr, Or.inr ⟨(by first | exact fun y => h4 y.1 | exact fun y => absurd y.2 (by omega)), rfl, ⟨_, _, _, _, _, _, _, _, _, hM, hB⟩⟩⟩) d_Mod_becomes_17
set_option maxHeartbeats 4000000 in
set_option maxRecDepth 100000 in
theorem c_Mod_added (l : Launch) (dC : Nat → ClassId) (dI : Nat → Nat → Nat) (cI cL cB : ClassId) (ad : Nat → Nat) (N0 : Nat) (w : Nat → va_E) (t : Int32) (mn P : Nat → Int32) (N A : Nat → Int64) (rm : Int32) (rP : Nat → Int32) (rN rA : Nat → Int64) (bd : Int32) (x y : Int64) (hM : isMod ad cI cL w t mn P N A rm rP rN rA bd) : Met l y_Mod_added ws_Mod_added ({ frames := 0, cells := 0, slots := 0, locals := 0 } : Room) (va_Pc [.ref (ad 43), .long x, .long y] (sPr (dC, dI) vCl [(cI, .int), (cL, .long), (cB, .object "CoinBag$Bag")] 52 ad N0 w)) (va_Ql (fun r u => fr w u 43 50 ∧ r = x + y ∧ ∃ b2 : Int32, isMod ad cI cL u t mn P N A rm rP rN rA b2 ∧ bZ b2 (bd = 0 ∧ fH 0 x y)) (sPr (dC, dI) vCl [(cI, .int), (cL, .long), (cB, .object "CoinBag$Bag")] 52 ad N0) (fun q => N0 ≤ q)) 0 0 (fun q => N0 ≤ q) := by
  refine Met.ofW (cc := b_Mod_added) (maxL := 5) (ret := (some .long)) (by decide) rfl ?_
  intro p e s m args below meth c s₁ B hml hv
  obtain ⟨rfl, hP, hK, hD, hN, hAm⟩ := hv
  have hx := B.exec
  have hb := B.bytes
  have hr := B.returns
  have hts := atoms_spec (ws := ws_Mod_added) B.pre
  have hown : s.vm.findClass "CoinBagModel" = some m.cls := findClass_of_methodNamed B.named
  have hlocks := B.notSynchronized
  have hZ : sZ (dC, dI) vCl 52 ad (fun q => N0 ≤ q) s.heap w s.heap [] := ⟨hP, hD, va_S.rf⟩
  have hl := lv_entry ([.ref (ad 43), .long x, .long y]) (n := 5) (Nat.le_of_ble_eq_true rfl)
  rw [lg_entry_eq]
  generalize (lg_sl ([.ref (ad 43), .long x, .long y]) ++ List.replicate (5 - (lg_sl ([.ref (ad 43), .long x, .long y])).length) Slot.unset).toArray = ls at hl ⊢
  have hl : lv_has ls 5 [(0, .ref (ad 43)), (1, .long x), (3, .long y)] := hl
  have hfr : fr w w 43 50 := fr_rf
  refine lv_aload_n hx hb d_Mod_added_0 rfl (lv_at hl 0 rfl) ?_
  refine lv_aload_n hx hb d_Mod_added_1 rfl (lv_at hl 0 rfl) ?_
  refine q_get (C := R_Mod) (T := T_Mod) (N := 10) hx hb hts (fun w h => gm (inT_Mod w h)) hown hK hZ (43) (by decide) hM.1 rfl 9 (by decide) (hts _ (gm k_429)) (fun _ h9 => h9) rfl d_Mod_added_2 ?_
  refine lv_if_ne (tgt := 37) hx hb d_Mod_added_5 (by decide) (fun h5 => ?_) (fun h5 => ?_)
  · skip
    refine lv_iconst (v := (nI 1)) hx hb d_Mod_added_37 rfl ?_
    refine lv_goto (tgt := 42) hx hb d_Mod_added_38 (by decide) ?_
    refine q_put (C := R_Mod) (T := T_Mod) (N := 10) (ty := .boolean) (v := .int (nI 1)) hx hb hts (fun w h => gm (inT_Mod w h)) ty_Mod tyo_Mod nm_Mod hown hK hZ (43) (by decide) hM.1 rfl 9 (by decide) (hts _ (gm k_429)) (fun _ h9 => h9) rfl (by decide +kernel) (rfl) (rfl) (Nat.le_of_ble_eq_true rfl) d_Mod_added_42 (fun H locs hZ => ?_)
    have hM := hM.up43 t rm (nI 1)
    have hfr := fr_up (x := 43) (e := .inr (3, [.int t, .ref (ad 44), .ref (ad 45), .ref (ad 46), .ref (ad 47), .int rm, .ref (ad 48), .ref (ad 49), .ref (ad 50), .int (nI 1)])) hfr (by omega) (by omega)
    have hZ : sZ (dC, dI) vCl 52 ad (fun q => N0 ≤ q) s.heap (va_up w 43 (.inr (3, [.int t, .ref (ad 44), .ref (ad 45), .ref (ad 46), .ref (ad 47), .int rm, .ref (ad 48), .ref (ad 49), .ref (ad 50), .int (nI 1)]))) H locs := hZ
    generalize va_up w 43 (.inr (3, [.int t, .ref (ad 44), .ref (ad 45), .ref (ad 46), .ref (ad 47), .int rm, .ref (ad 48), .ref (ad 49), .ref (ad 50), .int (nI 1)])) = w11 at hZ hM hfr
    refine lv_lload_n hx hb d_Mod_added_45 rfl (lv_at hl 1 rfl) ?_
    refine lv_lload_n hx hb d_Mod_added_46 rfl (lv_at hl 2 rfl) ?_
    refine lv_ladd hx hb d_Mod_added_47 ?_
    exact q_lret hx hb hr hlocks hK hAm hZ hN (⟨hfr, rfl, _, hM, (by first | exact bZ_1 (fun a => h5 a.1) | exact bZ_0 ⟨h5, (sum_lt (Int64.not_lt.mpr h11)).mp h34⟩ | exact bZ_1 (fun a => h34 ((sum_lt (Int64.not_lt.mpr h11)).mpr a.2)) | exact bZ_0 ⟨h5, (sum_ge (i64_nle h11)).mp h21⟩ | exact bZ_1 (fun a => h21 ((sum_ge (i64_nle h11)).mpr a.2)))⟩) d_Mod_added_48
  · skip
    refine lv_lload_n hx hb d_Mod_added_8 rfl (lv_at hl 2 rfl) ?_
    refine lv_lconst (v := 0) hx hb d_Mod_added_9 rfl ?_
    refine W.lcmp hx hb d_Mod_added_10 ?_
    refine lv_if_le (tgt := 27) hx hb d_Mod_added_11 (by decide) (fun h11 => ?_) (fun h11 => ?_)
    · skip
      rw [lg_cmp_le] at h11
      refine lv_lload_n hx hb d_Mod_added_27 rfl (lv_at hl 1 rfl) ?_
      refine lv_ldc2 (v := (-9223372036854775808)) hx hb hown (hts _ (gm k_491)) d_Mod_added_28 ?_
      refine lv_lload_n hx hb d_Mod_added_31 rfl (lv_at hl 2 rfl) ?_
      refine lv_lsub hx hb d_Mod_added_32 ?_
      refine W.lcmp hx hb d_Mod_added_33 ?_
      refine lv_if_ge (tgt := 41) hx hb d_Mod_added_34 (by decide) (fun h34 => ?_) (fun h34 => ?_)
      · skip
        rw [lg_cmp_ge] at h34
        refine lv_iconst (v := (nI 0)) hx hb d_Mod_added_41 rfl ?_
        refine q_put (C := R_Mod) (T := T_Mod) (N := 10) (ty := .boolean) (v := .int (nI 0)) hx hb hts (fun w h => gm (inT_Mod w h)) ty_Mod tyo_Mod nm_Mod hown hK hZ (43) (by decide) hM.1 rfl 9 (by decide) (hts _ (gm k_429)) (fun _ h9 => h9) rfl (by decide +kernel) (rfl) (rfl) (Nat.le_of_ble_eq_true rfl) d_Mod_added_42 (fun H locs hZ => ?_)
        have hM := hM.up43 t rm (nI 0)
        have hfr := fr_up (x := 43) (e := .inr (3, [.int t, .ref (ad 44), .ref (ad 45), .ref (ad 46), .ref (ad 47), .int rm, .ref (ad 48), .ref (ad 49), .ref (ad 50), .int (nI 0)])) hfr (by omega) (by omega)
        have hZ : sZ (dC, dI) vCl 52 ad (fun q => N0 ≤ q) s.heap (va_up w 43 (.inr (3, [.int t, .ref (ad 44), .ref (ad 45), .ref (ad 46), .ref (ad 47), .int rm, .ref (ad 48), .ref (ad 49), .ref (ad 50), .int (nI 0)]))) H locs := hZ
        generalize va_up w 43 (.inr (3, [.int t, .ref (ad 44), .ref (ad 45), .ref (ad 46), .ref (ad 47), .int rm, .ref (ad 48), .ref (ad 49), .ref (ad 50), .int (nI 0)])) = w12 at hZ hM hfr
        refine lv_lload_n hx hb d_Mod_added_45 rfl (lv_at hl 1 rfl) ?_
        refine lv_lload_n hx hb d_Mod_added_46 rfl (lv_at hl 2 rfl) ?_
        refine lv_ladd hx hb d_Mod_added_47 ?_
        exact q_lret hx hb hr hlocks hK hAm hZ hN (⟨hfr, rfl, _, hM, (by first | exact bZ_1 (fun a => h5 a.1) | exact bZ_0 ⟨h5, (sum_lt (Int64.not_lt.mpr h11)).mp h34⟩ | exact bZ_1 (fun a => h34 ((sum_lt (Int64.not_lt.mpr h11)).mpr a.2)) | exact bZ_0 ⟨h5, (sum_ge (i64_nle h11)).mp h21⟩ | exact bZ_1 (fun a => h21 ((sum_ge (i64_nle h11)).mpr a.2)))⟩) d_Mod_added_48
      · skip
        rw [lg_cmp_ge] at h34
        refine lv_iconst (v := (nI 1)) hx hb d_Mod_added_37 rfl ?_
        refine lv_goto (tgt := 42) hx hb d_Mod_added_38 (by decide) ?_
        refine q_put (C := R_Mod) (T := T_Mod) (N := 10) (ty := .boolean) (v := .int (nI 1)) hx hb hts (fun w h => gm (inT_Mod w h)) ty_Mod tyo_Mod nm_Mod hown hK hZ (43) (by decide) hM.1 rfl 9 (by decide) (hts _ (gm k_429)) (fun _ h9 => h9) rfl (by decide +kernel) (rfl) (rfl) (Nat.le_of_ble_eq_true rfl) d_Mod_added_42 (fun H locs hZ => ?_)
        have hM := hM.up43 t rm (nI 1)
        have hfr := fr_up (x := 43) (e := .inr (3, [.int t, .ref (ad 44), .ref (ad 45), .ref (ad 46), .ref (ad 47), .int rm, .ref (ad 48), .ref (ad 49), .ref (ad 50), .int (nI 1)])) hfr (by omega) (by omega)
        have hZ : sZ (dC, dI) vCl 52 ad (fun q => N0 ≤ q) s.heap (va_up w 43 (.inr (3, [.int t, .ref (ad 44), .ref (ad 45), .ref (ad 46), .ref (ad 47), .int rm, .ref (ad 48), .ref (ad 49), .ref (ad 50), .int (nI 1)]))) H locs := hZ
        generalize va_up w 43 (.inr (3, [.int t, .ref (ad 44), .ref (ad 45), .ref (ad 46), .ref (ad 47), .int rm, .ref (ad 48), .ref (ad 49), .ref (ad 50), .int (nI 1)])) = w13 at hZ hM hfr
        refine lv_lload_n hx hb d_Mod_added_45 rfl (lv_at hl 1 rfl) ?_
        refine lv_lload_n hx hb d_Mod_added_46 rfl (lv_at hl 2 rfl) ?_
        refine lv_ladd hx hb d_Mod_added_47 ?_
        exact q_lret hx hb hr hlocks hK hAm hZ hN (⟨hfr, rfl, _, hM, (by first | exact bZ_1 (fun a => h5 a.1) | exact bZ_0 ⟨h5, (sum_lt (Int64.not_lt.mpr h11)).mp h34⟩ | exact bZ_1 (fun a => h34 ((sum_lt (Int64.not_lt.mpr h11)).mpr a.2)) | exact bZ_0 ⟨h5, (sum_ge (i64_nle h11)).mp h21⟩ | exact bZ_1 (fun a => h21 ((sum_ge (i64_nle h11)).mpr a.2)))⟩) d_Mod_added_48
    · skip
      rw [lg_cmp_le] at h11
      refine lv_lload_n hx hb d_Mod_added_14 rfl (lv_at hl 1 rfl) ?_
      refine lv_ldc2 (v := 9223372036854775807) hx hb hown (hts _ (gm k_490)) d_Mod_added_15 ?_
      refine lv_lload_n hx hb d_Mod_added_18 rfl (lv_at hl 2 rfl) ?_
      refine lv_lsub hx hb d_Mod_added_19 ?_
      refine W.lcmp hx hb d_Mod_added_20 ?_
      refine lv_if_le (tgt := 41) hx hb d_Mod_added_21 (by decide) (fun h21 => ?_) (fun h21 => ?_)
      · skip
        rw [lg_cmp_le] at h21
        refine lv_iconst (v := (nI 0)) hx hb d_Mod_added_41 rfl ?_
        refine q_put (C := R_Mod) (T := T_Mod) (N := 10) (ty := .boolean) (v := .int (nI 0)) hx hb hts (fun w h => gm (inT_Mod w h)) ty_Mod tyo_Mod nm_Mod hown hK hZ (43) (by decide) hM.1 rfl 9 (by decide) (hts _ (gm k_429)) (fun _ h9 => h9) rfl (by decide +kernel) (rfl) (rfl) (Nat.le_of_ble_eq_true rfl) d_Mod_added_42 (fun H locs hZ => ?_)
        have hM := hM.up43 t rm (nI 0)
        have hfr := fr_up (x := 43) (e := .inr (3, [.int t, .ref (ad 44), .ref (ad 45), .ref (ad 46), .ref (ad 47), .int rm, .ref (ad 48), .ref (ad 49), .ref (ad 50), .int (nI 0)])) hfr (by omega) (by omega)
        have hZ : sZ (dC, dI) vCl 52 ad (fun q => N0 ≤ q) s.heap (va_up w 43 (.inr (3, [.int t, .ref (ad 44), .ref (ad 45), .ref (ad 46), .ref (ad 47), .int rm, .ref (ad 48), .ref (ad 49), .ref (ad 50), .int (nI 0)]))) H locs := hZ
        generalize va_up w 43 (.inr (3, [.int t, .ref (ad 44), .ref (ad 45), .ref (ad 46), .ref (ad 47), .int rm, .ref (ad 48), .ref (ad 49), .ref (ad 50), .int (nI 0)])) = w14 at hZ hM hfr
        refine lv_lload_n hx hb d_Mod_added_45 rfl (lv_at hl 1 rfl) ?_
        refine lv_lload_n hx hb d_Mod_added_46 rfl (lv_at hl 2 rfl) ?_
        refine lv_ladd hx hb d_Mod_added_47 ?_
        exact q_lret hx hb hr hlocks hK hAm hZ hN (⟨hfr, rfl, _, hM, (by first | exact bZ_1 (fun a => h5 a.1) | exact bZ_0 ⟨h5, (sum_lt (Int64.not_lt.mpr h11)).mp h34⟩ | exact bZ_1 (fun a => h34 ((sum_lt (Int64.not_lt.mpr h11)).mpr a.2)) | exact bZ_0 ⟨h5, (sum_ge (i64_nle h11)).mp h21⟩ | exact bZ_1 (fun a => h21 ((sum_ge (i64_nle h11)).mpr a.2)))⟩) d_Mod_added_48
      · skip
        rw [lg_cmp_le] at h21
        refine lv_goto (tgt := 37) hx hb d_Mod_added_24 (by decide) ?_
        refine lv_iconst (v := (nI 1)) hx hb d_Mod_added_37 rfl ?_
        refine lv_goto (tgt := 42) hx hb d_Mod_added_38 (by decide) ?_
        refine q_put (C := R_Mod) (T := T_Mod) (N := 10) (ty := .boolean) (v := .int (nI 1)) hx hb hts (fun w h => gm (inT_Mod w h)) ty_Mod tyo_Mod nm_Mod hown hK hZ (43) (by decide) hM.1 rfl 9 (by decide) (hts _ (gm k_429)) (fun _ h9 => h9) rfl (by decide +kernel) (rfl) (rfl) (Nat.le_of_ble_eq_true rfl) d_Mod_added_42 (fun H locs hZ => ?_)
        have hM := hM.up43 t rm (nI 1)
        have hfr := fr_up (x := 43) (e := .inr (3, [.int t, .ref (ad 44), .ref (ad 45), .ref (ad 46), .ref (ad 47), .int rm, .ref (ad 48), .ref (ad 49), .ref (ad 50), .int (nI 1)])) hfr (by omega) (by omega)
        have hZ : sZ (dC, dI) vCl 52 ad (fun q => N0 ≤ q) s.heap (va_up w 43 (.inr (3, [.int t, .ref (ad 44), .ref (ad 45), .ref (ad 46), .ref (ad 47), .int rm, .ref (ad 48), .ref (ad 49), .ref (ad 50), .int (nI 1)]))) H locs := hZ
        generalize va_up w 43 (.inr (3, [.int t, .ref (ad 44), .ref (ad 45), .ref (ad 46), .ref (ad 47), .int rm, .ref (ad 48), .ref (ad 49), .ref (ad 50), .int (nI 1)])) = w15 at hZ hM hfr
        refine lv_lload_n hx hb d_Mod_added_45 rfl (lv_at hl 1 rfl) ?_
        refine lv_lload_n hx hb d_Mod_added_46 rfl (lv_at hl 2 rfl) ?_
        refine lv_ladd hx hb d_Mod_added_47 ?_
        exact q_lret hx hb hr hlocks hK hAm hZ hN (⟨hfr, rfl, _, hM, (by first | exact bZ_1 (fun a => h5 a.1) | exact bZ_0 ⟨h5, (sum_lt (Int64.not_lt.mpr h11)).mp h34⟩ | exact bZ_1 (fun a => h34 ((sum_lt (Int64.not_lt.mpr h11)).mpr a.2)) | exact bZ_0 ⟨h5, (sum_ge (i64_nle h11)).mp h21⟩ | exact bZ_1 (fun a => h21 ((sum_ge (i64_nle h11)).mpr a.2)))⟩) d_Mod_added_48
set_option maxHeartbeats 4000000 in
set_option maxRecDepth 100000 in
theorem c_Mod_subtracted (l : Launch) (dC : Nat → ClassId) (dI : Nat → Nat → Nat) (cI cL cB : ClassId) (ad : Nat → Nat) (N0 : Nat) (w : Nat → va_E) (t : Int32) (mn P : Nat → Int32) (N A : Nat → Int64) (rm : Int32) (rP : Nat → Int32) (rN rA : Nat → Int64) (bd : Int32) (x y : Int64) (hM : isMod ad cI cL w t mn P N A rm rP rN rA bd) : Met l y_Mod_subtracted ws_Mod_subtracted ({ frames := 0, cells := 0, slots := 0, locals := 0 } : Room) (va_Pc [.ref (ad 43), .long x, .long y] (sPr (dC, dI) vCl [(cI, .int), (cL, .long), (cB, .object "CoinBag$Bag")] 52 ad N0 w)) (va_Ql (fun r u => fr w u 43 50 ∧ r = x - y ∧ ∃ b2 : Int32, isMod ad cI cL u t mn P N A rm rP rN rA b2 ∧ bZ b2 (bd = 0 ∧ fH 1 x y)) (sPr (dC, dI) vCl [(cI, .int), (cL, .long), (cB, .object "CoinBag$Bag")] 52 ad N0) (fun q => N0 ≤ q)) 0 0 (fun q => N0 ≤ q) := by
  refine Met.ofW (cc := b_Mod_subtracted) (maxL := 5) (ret := (some .long)) (by decide) rfl ?_
  intro p e s m args below meth c s₁ B hml hv
  obtain ⟨rfl, hP, hK, hD, hN, hAm⟩ := hv
  have hx := B.exec
  have hb := B.bytes
  have hr := B.returns
  have hts := atoms_spec (ws := ws_Mod_subtracted) B.pre
  have hown : s.vm.findClass "CoinBagModel" = some m.cls := findClass_of_methodNamed B.named
  have hlocks := B.notSynchronized
  have hZ : sZ (dC, dI) vCl 52 ad (fun q => N0 ≤ q) s.heap w s.heap [] := ⟨hP, hD, va_S.rf⟩
  have hl := lv_entry ([.ref (ad 43), .long x, .long y]) (n := 5) (Nat.le_of_ble_eq_true rfl)
  rw [lg_entry_eq]
  generalize (lg_sl ([.ref (ad 43), .long x, .long y]) ++ List.replicate (5 - (lg_sl ([.ref (ad 43), .long x, .long y])).length) Slot.unset).toArray = ls at hl ⊢
  have hl : lv_has ls 5 [(0, .ref (ad 43)), (1, .long x), (3, .long y)] := hl
  have hfr : fr w w 43 50 := fr_rf
  refine lv_aload_n hx hb d_Mod_subtracted_0 rfl (lv_at hl 0 rfl) ?_
  refine lv_aload_n hx hb d_Mod_subtracted_1 rfl (lv_at hl 0 rfl) ?_
  refine q_get (C := R_Mod) (T := T_Mod) (N := 10) hx hb hts (fun w h => gm (inT_Mod w h)) hown hK hZ (43) (by decide) hM.1 rfl 9 (by decide) (hts _ (gm k_429)) (fun _ h9 => h9) rfl d_Mod_subtracted_2 ?_
  refine lv_if_ne (tgt := 37) hx hb d_Mod_subtracted_5 (by decide) (fun h5 => ?_) (fun h5 => ?_)
  · skip
    refine lv_iconst (v := (nI 1)) hx hb d_Mod_subtracted_37 rfl ?_
    refine lv_goto (tgt := 42) hx hb d_Mod_subtracted_38 (by decide) ?_
    refine q_put (C := R_Mod) (T := T_Mod) (N := 10) (ty := .boolean) (v := .int (nI 1)) hx hb hts (fun w h => gm (inT_Mod w h)) ty_Mod tyo_Mod nm_Mod hown hK hZ (43) (by decide) hM.1 rfl 9 (by decide) (hts _ (gm k_429)) (fun _ h9 => h9) rfl (by decide +kernel) (rfl) (rfl) (Nat.le_of_ble_eq_true rfl) d_Mod_subtracted_42 (fun H locs hZ => ?_)
    have hM := hM.up43 t rm (nI 1)
    have hfr := fr_up (x := 43) (e := .inr (3, [.int t, .ref (ad 44), .ref (ad 45), .ref (ad 46), .ref (ad 47), .int rm, .ref (ad 48), .ref (ad 49), .ref (ad 50), .int (nI 1)])) hfr (by omega) (by omega)
    have hZ : sZ (dC, dI) vCl 52 ad (fun q => N0 ≤ q) s.heap (va_up w 43 (.inr (3, [.int t, .ref (ad 44), .ref (ad 45), .ref (ad 46), .ref (ad 47), .int rm, .ref (ad 48), .ref (ad 49), .ref (ad 50), .int (nI 1)]))) H locs := hZ
    generalize va_up w 43 (.inr (3, [.int t, .ref (ad 44), .ref (ad 45), .ref (ad 46), .ref (ad 47), .int rm, .ref (ad 48), .ref (ad 49), .ref (ad 50), .int (nI 1)])) = w16 at hZ hM hfr
    refine lv_lload_n hx hb d_Mod_subtracted_45 rfl (lv_at hl 1 rfl) ?_
    refine lv_lload_n hx hb d_Mod_subtracted_46 rfl (lv_at hl 2 rfl) ?_
    refine lv_lsub hx hb d_Mod_subtracted_47 ?_
    exact q_lret hx hb hr hlocks hK hAm hZ hN (⟨hfr, rfl, _, hM, (by first | exact bZ_1 (fun a => h5 a.1) | exact bZ_0 ⟨h5, (dif_ge h11).mp h34⟩ | exact bZ_1 (fun a => h34 ((dif_ge h11).mpr a.2)) | exact bZ_0 ⟨h5, (dif_lt h11).mp h21⟩ | exact bZ_1 (fun a => h21 ((dif_lt h11).mpr a.2)))⟩) d_Mod_subtracted_48
  · skip
    refine lv_lload_n hx hb d_Mod_subtracted_8 rfl (lv_at hl 2 rfl) ?_
    refine lv_lconst (v := 0) hx hb d_Mod_subtracted_9 rfl ?_
    refine W.lcmp hx hb d_Mod_subtracted_10 ?_
    refine lv_if_ge (tgt := 27) hx hb d_Mod_subtracted_11 (by decide) (fun h11 => ?_) (fun h11 => ?_)
    · skip
      rw [lg_cmp_ge] at h11
      refine lv_lload_n hx hb d_Mod_subtracted_27 rfl (lv_at hl 1 rfl) ?_
      refine lv_ldc2 (v := (-9223372036854775808)) hx hb hown (hts _ (gm k_491)) d_Mod_subtracted_28 ?_
      refine lv_lload_n hx hb d_Mod_subtracted_31 rfl (lv_at hl 2 rfl) ?_
      refine lv_ladd hx hb d_Mod_subtracted_32 ?_
      refine W.lcmp hx hb d_Mod_subtracted_33 ?_
      refine lv_if_ge (tgt := 41) hx hb d_Mod_subtracted_34 (by decide) (fun h34 => ?_) (fun h34 => ?_)
      · skip
        rw [lg_cmp_ge] at h34
        refine lv_iconst (v := (nI 0)) hx hb d_Mod_subtracted_41 rfl ?_
        refine q_put (C := R_Mod) (T := T_Mod) (N := 10) (ty := .boolean) (v := .int (nI 0)) hx hb hts (fun w h => gm (inT_Mod w h)) ty_Mod tyo_Mod nm_Mod hown hK hZ (43) (by decide) hM.1 rfl 9 (by decide) (hts _ (gm k_429)) (fun _ h9 => h9) rfl (by decide +kernel) (rfl) (rfl) (Nat.le_of_ble_eq_true rfl) d_Mod_subtracted_42 (fun H locs hZ => ?_)
        have hM := hM.up43 t rm (nI 0)
        have hfr := fr_up (x := 43) (e := .inr (3, [.int t, .ref (ad 44), .ref (ad 45), .ref (ad 46), .ref (ad 47), .int rm, .ref (ad 48), .ref (ad 49), .ref (ad 50), .int (nI 0)])) hfr (by omega) (by omega)
        have hZ : sZ (dC, dI) vCl 52 ad (fun q => N0 ≤ q) s.heap (va_up w 43 (.inr (3, [.int t, .ref (ad 44), .ref (ad 45), .ref (ad 46), .ref (ad 47), .int rm, .ref (ad 48), .ref (ad 49), .ref (ad 50), .int (nI 0)]))) H locs := hZ
        generalize va_up w 43 (.inr (3, [.int t, .ref (ad 44), .ref (ad 45), .ref (ad 46), .ref (ad 47), .int rm, .ref (ad 48), .ref (ad 49), .ref (ad 50), .int (nI 0)])) = w17 at hZ hM hfr
        refine lv_lload_n hx hb d_Mod_subtracted_45 rfl (lv_at hl 1 rfl) ?_
        refine lv_lload_n hx hb d_Mod_subtracted_46 rfl (lv_at hl 2 rfl) ?_
        refine lv_lsub hx hb d_Mod_subtracted_47 ?_
        exact q_lret hx hb hr hlocks hK hAm hZ hN (⟨hfr, rfl, _, hM, (by first | exact bZ_1 (fun a => h5 a.1) | exact bZ_0 ⟨h5, (dif_ge h11).mp h34⟩ | exact bZ_1 (fun a => h34 ((dif_ge h11).mpr a.2)) | exact bZ_0 ⟨h5, (dif_lt h11).mp h21⟩ | exact bZ_1 (fun a => h21 ((dif_lt h11).mpr a.2)))⟩) d_Mod_subtracted_48
      · skip
        rw [lg_cmp_ge] at h34
        refine lv_iconst (v := (nI 1)) hx hb d_Mod_subtracted_37 rfl ?_
        refine lv_goto (tgt := 42) hx hb d_Mod_subtracted_38 (by decide) ?_
        refine q_put (C := R_Mod) (T := T_Mod) (N := 10) (ty := .boolean) (v := .int (nI 1)) hx hb hts (fun w h => gm (inT_Mod w h)) ty_Mod tyo_Mod nm_Mod hown hK hZ (43) (by decide) hM.1 rfl 9 (by decide) (hts _ (gm k_429)) (fun _ h9 => h9) rfl (by decide +kernel) (rfl) (rfl) (Nat.le_of_ble_eq_true rfl) d_Mod_subtracted_42 (fun H locs hZ => ?_)
        have hM := hM.up43 t rm (nI 1)
        have hfr := fr_up (x := 43) (e := .inr (3, [.int t, .ref (ad 44), .ref (ad 45), .ref (ad 46), .ref (ad 47), .int rm, .ref (ad 48), .ref (ad 49), .ref (ad 50), .int (nI 1)])) hfr (by omega) (by omega)
        have hZ : sZ (dC, dI) vCl 52 ad (fun q => N0 ≤ q) s.heap (va_up w 43 (.inr (3, [.int t, .ref (ad 44), .ref (ad 45), .ref (ad 46), .ref (ad 47), .int rm, .ref (ad 48), .ref (ad 49), .ref (ad 50), .int (nI 1)]))) H locs := hZ
        generalize va_up w 43 (.inr (3, [.int t, .ref (ad 44), .ref (ad 45), .ref (ad 46), .ref (ad 47), .int rm, .ref (ad 48), .ref (ad 49), .ref (ad 50), .int (nI 1)])) = w18 at hZ hM hfr
        refine lv_lload_n hx hb d_Mod_subtracted_45 rfl (lv_at hl 1 rfl) ?_
        refine lv_lload_n hx hb d_Mod_subtracted_46 rfl (lv_at hl 2 rfl) ?_
        refine lv_lsub hx hb d_Mod_subtracted_47 ?_
        exact q_lret hx hb hr hlocks hK hAm hZ hN (⟨hfr, rfl, _, hM, (by first | exact bZ_1 (fun a => h5 a.1) | exact bZ_0 ⟨h5, (dif_ge h11).mp h34⟩ | exact bZ_1 (fun a => h34 ((dif_ge h11).mpr a.2)) | exact bZ_0 ⟨h5, (dif_lt h11).mp h21⟩ | exact bZ_1 (fun a => h21 ((dif_lt h11).mpr a.2)))⟩) d_Mod_subtracted_48
    · skip
      rw [lg_cmp_ge] at h11
      refine lv_lload_n hx hb d_Mod_subtracted_14 rfl (lv_at hl 1 rfl) ?_
      refine lv_ldc2 (v := 9223372036854775807) hx hb hown (hts _ (gm k_490)) d_Mod_subtracted_15 ?_
      refine lv_lload_n hx hb d_Mod_subtracted_18 rfl (lv_at hl 2 rfl) ?_
      refine lv_ladd hx hb d_Mod_subtracted_19 ?_
      refine W.lcmp hx hb d_Mod_subtracted_20 ?_
      refine lv_if_le (tgt := 41) hx hb d_Mod_subtracted_21 (by decide) (fun h21 => ?_) (fun h21 => ?_)
      · skip
        rw [lg_cmp_le] at h21
        refine lv_iconst (v := (nI 0)) hx hb d_Mod_subtracted_41 rfl ?_
        refine q_put (C := R_Mod) (T := T_Mod) (N := 10) (ty := .boolean) (v := .int (nI 0)) hx hb hts (fun w h => gm (inT_Mod w h)) ty_Mod tyo_Mod nm_Mod hown hK hZ (43) (by decide) hM.1 rfl 9 (by decide) (hts _ (gm k_429)) (fun _ h9 => h9) rfl (by decide +kernel) (rfl) (rfl) (Nat.le_of_ble_eq_true rfl) d_Mod_subtracted_42 (fun H locs hZ => ?_)
        have hM := hM.up43 t rm (nI 0)
        have hfr := fr_up (x := 43) (e := .inr (3, [.int t, .ref (ad 44), .ref (ad 45), .ref (ad 46), .ref (ad 47), .int rm, .ref (ad 48), .ref (ad 49), .ref (ad 50), .int (nI 0)])) hfr (by omega) (by omega)
        have hZ : sZ (dC, dI) vCl 52 ad (fun q => N0 ≤ q) s.heap (va_up w 43 (.inr (3, [.int t, .ref (ad 44), .ref (ad 45), .ref (ad 46), .ref (ad 47), .int rm, .ref (ad 48), .ref (ad 49), .ref (ad 50), .int (nI 0)]))) H locs := hZ
        generalize va_up w 43 (.inr (3, [.int t, .ref (ad 44), .ref (ad 45), .ref (ad 46), .ref (ad 47), .int rm, .ref (ad 48), .ref (ad 49), .ref (ad 50), .int (nI 0)])) = w19 at hZ hM hfr
        refine lv_lload_n hx hb d_Mod_subtracted_45 rfl (lv_at hl 1 rfl) ?_
        refine lv_lload_n hx hb d_Mod_subtracted_46 rfl (lv_at hl 2 rfl) ?_
        refine lv_lsub hx hb d_Mod_subtracted_47 ?_
        exact q_lret hx hb hr hlocks hK hAm hZ hN (⟨hfr, rfl, _, hM, (by first | exact bZ_1 (fun a => h5 a.1) | exact bZ_0 ⟨h5, (dif_ge h11).mp h34⟩ | exact bZ_1 (fun a => h34 ((dif_ge h11).mpr a.2)) | exact bZ_0 ⟨h5, (dif_lt h11).mp h21⟩ | exact bZ_1 (fun a => h21 ((dif_lt h11).mpr a.2)))⟩) d_Mod_subtracted_48
      · skip
        rw [lg_cmp_le] at h21
        refine lv_goto (tgt := 37) hx hb d_Mod_subtracted_24 (by decide) ?_
        refine lv_iconst (v := (nI 1)) hx hb d_Mod_subtracted_37 rfl ?_
        refine lv_goto (tgt := 42) hx hb d_Mod_subtracted_38 (by decide) ?_
        refine q_put (C := R_Mod) (T := T_Mod) (N := 10) (ty := .boolean) (v := .int (nI 1)) hx hb hts (fun w h => gm (inT_Mod w h)) ty_Mod tyo_Mod nm_Mod hown hK hZ (43) (by decide) hM.1 rfl 9 (by decide) (hts _ (gm k_429)) (fun _ h9 => h9) rfl (by decide +kernel) (rfl) (rfl) (Nat.le_of_ble_eq_true rfl) d_Mod_subtracted_42 (fun H locs hZ => ?_)
        have hM := hM.up43 t rm (nI 1)
        have hfr := fr_up (x := 43) (e := .inr (3, [.int t, .ref (ad 44), .ref (ad 45), .ref (ad 46), .ref (ad 47), .int rm, .ref (ad 48), .ref (ad 49), .ref (ad 50), .int (nI 1)])) hfr (by omega) (by omega)
        have hZ : sZ (dC, dI) vCl 52 ad (fun q => N0 ≤ q) s.heap (va_up w 43 (.inr (3, [.int t, .ref (ad 44), .ref (ad 45), .ref (ad 46), .ref (ad 47), .int rm, .ref (ad 48), .ref (ad 49), .ref (ad 50), .int (nI 1)]))) H locs := hZ
        generalize va_up w 43 (.inr (3, [.int t, .ref (ad 44), .ref (ad 45), .ref (ad 46), .ref (ad 47), .int rm, .ref (ad 48), .ref (ad 49), .ref (ad 50), .int (nI 1)])) = w20 at hZ hM hfr
        refine lv_lload_n hx hb d_Mod_subtracted_45 rfl (lv_at hl 1 rfl) ?_
        refine lv_lload_n hx hb d_Mod_subtracted_46 rfl (lv_at hl 2 rfl) ?_
        refine lv_lsub hx hb d_Mod_subtracted_47 ?_
        exact q_lret hx hb hr hlocks hK hAm hZ hN (⟨hfr, rfl, _, hM, (by first | exact bZ_1 (fun a => h5 a.1) | exact bZ_0 ⟨h5, (dif_ge h11).mp h34⟩ | exact bZ_1 (fun a => h34 ((dif_ge h11).mpr a.2)) | exact bZ_0 ⟨h5, (dif_lt h11).mp h21⟩ | exact bZ_1 (fun a => h21 ((dif_lt h11).mpr a.2)))⟩) d_Mod_subtracted_48
set_option maxHeartbeats 4000000 in
set_option maxRecDepth 100000 in
theorem c_Mod_multiplied (l : Launch) (dC : Nat → ClassId) (dI : Nat → Nat → Nat) (cI cL cB : ClassId) (ad : Nat → Nat) (N0 : Nat) (w : Nat → va_E) (t : Int32) (mn P : Nat → Int32) (N A : Nat → Int64) (rm : Int32) (rP : Nat → Int32) (rN rA : Nat → Int64) (bd : Int32) (x y : Int64) (hM : isMod ad cI cL w t mn P N A rm rP rN rA bd) : Met l y_Mod_multiplied ws_Mod_multiplied ({ frames := 0, cells := 0, slots := 0, locals := 0 } : Room) (va_Pc [.ref (ad 43), .long x, .long y] (sPr (dC, dI) vCl [(cI, .int), (cL, .long), (cB, .object "CoinBag$Bag")] 52 ad N0 w)) (va_Ql (fun r u => fr w u 43 50 ∧ r = x * y ∧ ∃ b2 : Int32, isMod ad cI cL u t mn P N A rm rP rN rA b2 ∧ bZ b2 (bd = 0 ∧ fM x y)) (sPr (dC, dI) vCl [(cI, .int), (cL, .long), (cB, .object "CoinBag$Bag")] 52 ad N0) (fun q => N0 ≤ q)) 0 0 (fun q => N0 ≤ q) := by
  refine Met.ofW (cc := b_Mod_multiplied) (maxL := 6) (ret := (some .long)) (by decide) rfl ?_
  intro p e s m args below meth c s₁ B hml hv
  obtain ⟨rfl, hP, hK, hD, hN, hAm⟩ := hv
  have hx := B.exec
  have hb := B.bytes
  have hr := B.returns
  have hts := atoms_spec (ws := ws_Mod_multiplied) B.pre
  have hown : s.vm.findClass "CoinBagModel" = some m.cls := findClass_of_methodNamed B.named
  have hlocks := B.notSynchronized
  have hZ : sZ (dC, dI) vCl 52 ad (fun q => N0 ≤ q) s.heap w s.heap [] := ⟨hP, hD, va_S.rf⟩
  have hl := lv_entry ([.ref (ad 43), .long x, .long y]) (n := 6) (Nat.le_of_ble_eq_true rfl)
  rw [lg_entry_eq]
  generalize (lg_sl ([.ref (ad 43), .long x, .long y]) ++ List.replicate (6 - (lg_sl ([.ref (ad 43), .long x, .long y])).length) Slot.unset).toArray = ls at hl ⊢
  have hl : lv_has ls 6 [(0, .ref (ad 43)), (1, .long x), (3, .long y)] := hl
  have hfr : fr w w 43 50 := fr_rf
  refine lv_lload_n hx hb d_Mod_multiplied_0 rfl (lv_at hl 1 rfl) ?_
  refine lv_ldc2 (v := (-9223372036854775808)) hx hb hown (hts _ (gm k_491)) d_Mod_multiplied_1 ?_
  refine W.lcmp hx hb d_Mod_multiplied_4 ?_
  refine lv_if_ne (tgt := 16) hx hb d_Mod_multiplied_5 (by decide) (fun h5 => ?_) (fun h5 => ?_)
  · skip
    rw [lg_cmp_eq] at h5
    refine lv_lload_n hx hb d_Mod_multiplied_16 rfl (lv_at hl 2 rfl) ?_
    refine lv_ldc2 (v := (-9223372036854775808)) hx hb hown (hts _ (gm k_491)) d_Mod_multiplied_17 ?_
    refine W.lcmp hx hb d_Mod_multiplied_20 ?_
    refine lv_if_ne (tgt := 36) hx hb d_Mod_multiplied_21 (by decide) (fun h21 => ?_) (fun h21 => ?_)
    · skip
      rw [lg_cmp_eq] at h21
      refine lv_iconst (v := (nI 0)) hx hb d_Mod_multiplied_36 rfl ?_
      refine lv_istore (lv' := [(5, .int (nI 0)), (0, .ref (ad 43)), (1, .long x), (3, .long y)]) hx hb d_Mod_multiplied_37 hl (by decide) rfl (fun ls hl => ?_)
      refine lv_aload_n hx hb d_Mod_multiplied_39 rfl (lv_at hl 1 rfl) ?_
      refine lv_aload_n hx hb d_Mod_multiplied_40 rfl (lv_at hl 1 rfl) ?_
      refine q_get (C := R_Mod) (T := T_Mod) (N := 10) hx hb hts (fun w h => gm (inT_Mod w h)) hown hK hZ (43) (by decide) hM.1 rfl 9 (by decide) (hts _ (gm k_429)) (fun _ h9 => h9) rfl d_Mod_multiplied_41 ?_
      refine lv_if_ne (tgt := 68) hx hb d_Mod_multiplied_44 (by decide) (fun h44 => ?_) (fun h44 => ?_)
      · skip
        refine lv_iconst (v := (nI 1)) hx hb d_Mod_multiplied_68 rfl ?_
        refine lv_goto (tgt := 73) hx hb d_Mod_multiplied_69 (by decide) ?_
        refine q_put (C := R_Mod) (T := T_Mod) (N := 10) (ty := .boolean) (v := .int (nI 1)) hx hb hts (fun w h => gm (inT_Mod w h)) ty_Mod tyo_Mod nm_Mod hown hK hZ (43) (by decide) hM.1 rfl 9 (by decide) (hts _ (gm k_429)) (fun _ h9 => h9) rfl (by decide +kernel) (rfl) (rfl) (Nat.le_of_ble_eq_true rfl) d_Mod_multiplied_73 (fun H locs hZ => ?_)
        have hM := hM.up43 t rm (nI 1)
        have hfr := fr_up (x := 43) (e := .inr (3, [.int t, .ref (ad 44), .ref (ad 45), .ref (ad 46), .ref (ad 47), .int rm, .ref (ad 48), .ref (ad 49), .ref (ad 50), .int (nI 1)])) hfr (by omega) (by omega)
        have hZ : sZ (dC, dI) vCl 52 ad (fun q => N0 ≤ q) s.heap (va_up w 43 (.inr (3, [.int t, .ref (ad 44), .ref (ad 45), .ref (ad 46), .ref (ad 47), .int rm, .ref (ad 48), .ref (ad 49), .ref (ad 50), .int (nI 1)]))) H locs := hZ
        generalize va_up w 43 (.inr (3, [.int t, .ref (ad 44), .ref (ad 45), .ref (ad 46), .ref (ad 47), .int rm, .ref (ad 48), .ref (ad 49), .ref (ad 50), .int (nI 1)])) = w21 at hZ hM hfr
        refine lv_lload_n hx hb d_Mod_multiplied_76 rfl (lv_at hl 2 rfl) ?_
        refine lv_lload_n hx hb d_Mod_multiplied_77 rfl (lv_at hl 3 rfl) ?_
        refine lv_lmul hx hb d_Mod_multiplied_78 ?_
        exact q_lret hx hb hr hlocks hK hAm hZ hN (⟨hfr, rfl, _, hM, (by first | exact bZ_1 (fun a => h44 a.1) | exact bZ_1 (fun a => fM_bad1 (Or.inl ⟨h5, h13⟩) a.2) | exact bZ_1 (fun a => fM_bad1 (Or.inr ⟨h21, h29⟩) a.2) | exact bZ_0 ⟨h44, by rw [h55]; exact fM_0l _⟩ | exact bZ_0 ⟨h44, (mul_fits2 h55 (by rintro ⟨z1, z2⟩; first | exact h5 z1 | exact h13 z2) (by rintro ⟨z1, z2⟩; first | exact h21 z1 | exact h29 z2)).mp h65⟩ | exact bZ_1 (fun a => h65 ((mul_fits2 h55 (by rintro ⟨z1, z2⟩; first | exact h5 z1 | exact h13 z2) (by rintro ⟨z1, z2⟩; first | exact h21 z1 | exact h29 z2)).mpr a.2)))⟩) d_Mod_multiplied_79
      · skip
        refine lv_iload hx hb d_Mod_multiplied_47 (lv_at hl 0 rfl) ?_
        refine lv_if_ne (tgt := 68) hx hb d_Mod_multiplied_49 (by decide) (fun h49 => ?_) (fun h49 => ?_)
        · skip
          have h49 : ¬ 0 = 0 := fun z9 => h49 ((nI_eq (a := 0) (b := 0) (by omega) (by omega)).mpr z9)
          exact absurd h49 (by decide)
        · skip
          have h49 : 0 = 0 := (nI_eq (a := 0) (b := 0) (by omega) (by omega)).mp h49
          refine lv_lload_n hx hb d_Mod_multiplied_52 rfl (lv_at hl 2 rfl) ?_
          refine lv_lconst (v := 0) hx hb d_Mod_multiplied_53 rfl ?_
          refine W.lcmp hx hb d_Mod_multiplied_54 ?_
          refine lv_if_eq (tgt := 72) hx hb d_Mod_multiplied_55 (by decide) (fun h55 => ?_) (fun h55 => ?_)
          · skip
            rw [lg_cmp_eq] at h55
            refine lv_iconst (v := (nI 0)) hx hb d_Mod_multiplied_72 rfl ?_
            refine q_put (C := R_Mod) (T := T_Mod) (N := 10) (ty := .boolean) (v := .int (nI 0)) hx hb hts (fun w h => gm (inT_Mod w h)) ty_Mod tyo_Mod nm_Mod hown hK hZ (43) (by decide) hM.1 rfl 9 (by decide) (hts _ (gm k_429)) (fun _ h9 => h9) rfl (by decide +kernel) (rfl) (rfl) (Nat.le_of_ble_eq_true rfl) d_Mod_multiplied_73 (fun H locs hZ => ?_)
            have hM := hM.up43 t rm (nI 0)
            have hfr := fr_up (x := 43) (e := .inr (3, [.int t, .ref (ad 44), .ref (ad 45), .ref (ad 46), .ref (ad 47), .int rm, .ref (ad 48), .ref (ad 49), .ref (ad 50), .int (nI 0)])) hfr (by omega) (by omega)
            have hZ : sZ (dC, dI) vCl 52 ad (fun q => N0 ≤ q) s.heap (va_up w 43 (.inr (3, [.int t, .ref (ad 44), .ref (ad 45), .ref (ad 46), .ref (ad 47), .int rm, .ref (ad 48), .ref (ad 49), .ref (ad 50), .int (nI 0)]))) H locs := hZ
            generalize va_up w 43 (.inr (3, [.int t, .ref (ad 44), .ref (ad 45), .ref (ad 46), .ref (ad 47), .int rm, .ref (ad 48), .ref (ad 49), .ref (ad 50), .int (nI 0)])) = w22 at hZ hM hfr
            refine lv_lload_n hx hb d_Mod_multiplied_76 rfl (lv_at hl 2 rfl) ?_
            refine lv_lload_n hx hb d_Mod_multiplied_77 rfl (lv_at hl 3 rfl) ?_
            refine lv_lmul hx hb d_Mod_multiplied_78 ?_
            exact q_lret hx hb hr hlocks hK hAm hZ hN (⟨hfr, rfl, _, hM, (by first | exact bZ_1 (fun a => h44 a.1) | exact bZ_1 (fun a => fM_bad1 (Or.inl ⟨h5, h13⟩) a.2) | exact bZ_1 (fun a => fM_bad1 (Or.inr ⟨h21, h29⟩) a.2) | exact bZ_0 ⟨h44, by rw [h55]; exact fM_0l _⟩ | exact bZ_0 ⟨h44, (mul_fits2 h55 (by rintro ⟨z1, z2⟩; first | exact h5 z1 | exact h13 z2) (by rintro ⟨z1, z2⟩; first | exact h21 z1 | exact h29 z2)).mp h65⟩ | exact bZ_1 (fun a => h65 ((mul_fits2 h55 (by rintro ⟨z1, z2⟩; first | exact h5 z1 | exact h13 z2) (by rintro ⟨z1, z2⟩; first | exact h21 z1 | exact h29 z2)).mpr a.2)))⟩) d_Mod_multiplied_79
          · skip
            rw [lg_cmp_eq] at h55
            refine lv_lload_n hx hb d_Mod_multiplied_58 rfl (lv_at hl 2 rfl) ?_
            refine lv_lload_n hx hb d_Mod_multiplied_59 rfl (lv_at hl 3 rfl) ?_
            refine lv_lmul hx hb d_Mod_multiplied_60 ?_
            refine lv_lload_n hx hb d_Mod_multiplied_61 rfl (lv_at hl 2 rfl) ?_
            refine lv_ldiv hx hb d_Mod_multiplied_62 (h55) ?_
            refine lv_lload_n hx hb d_Mod_multiplied_63 rfl (lv_at hl 3 rfl) ?_
            refine W.lcmp hx hb d_Mod_multiplied_64 ?_
            refine lv_if_eq (tgt := 72) hx hb d_Mod_multiplied_65 (by decide) (fun h65 => ?_) (fun h65 => ?_)
            · skip
              rw [lg_cmp_eq] at h65
              refine lv_iconst (v := (nI 0)) hx hb d_Mod_multiplied_72 rfl ?_
              refine q_put (C := R_Mod) (T := T_Mod) (N := 10) (ty := .boolean) (v := .int (nI 0)) hx hb hts (fun w h => gm (inT_Mod w h)) ty_Mod tyo_Mod nm_Mod hown hK hZ (43) (by decide) hM.1 rfl 9 (by decide) (hts _ (gm k_429)) (fun _ h9 => h9) rfl (by decide +kernel) (rfl) (rfl) (Nat.le_of_ble_eq_true rfl) d_Mod_multiplied_73 (fun H locs hZ => ?_)
              have hM := hM.up43 t rm (nI 0)
              have hfr := fr_up (x := 43) (e := .inr (3, [.int t, .ref (ad 44), .ref (ad 45), .ref (ad 46), .ref (ad 47), .int rm, .ref (ad 48), .ref (ad 49), .ref (ad 50), .int (nI 0)])) hfr (by omega) (by omega)
              have hZ : sZ (dC, dI) vCl 52 ad (fun q => N0 ≤ q) s.heap (va_up w 43 (.inr (3, [.int t, .ref (ad 44), .ref (ad 45), .ref (ad 46), .ref (ad 47), .int rm, .ref (ad 48), .ref (ad 49), .ref (ad 50), .int (nI 0)]))) H locs := hZ
              generalize va_up w 43 (.inr (3, [.int t, .ref (ad 44), .ref (ad 45), .ref (ad 46), .ref (ad 47), .int rm, .ref (ad 48), .ref (ad 49), .ref (ad 50), .int (nI 0)])) = w23 at hZ hM hfr
              refine lv_lload_n hx hb d_Mod_multiplied_76 rfl (lv_at hl 2 rfl) ?_
              refine lv_lload_n hx hb d_Mod_multiplied_77 rfl (lv_at hl 3 rfl) ?_
              refine lv_lmul hx hb d_Mod_multiplied_78 ?_
              exact q_lret hx hb hr hlocks hK hAm hZ hN (⟨hfr, rfl, _, hM, (by first | exact bZ_1 (fun a => h44 a.1) | exact bZ_1 (fun a => fM_bad1 (Or.inl ⟨h5, h13⟩) a.2) | exact bZ_1 (fun a => fM_bad1 (Or.inr ⟨h21, h29⟩) a.2) | exact bZ_0 ⟨h44, by rw [h55]; exact fM_0l _⟩ | exact bZ_0 ⟨h44, (mul_fits2 h55 (by rintro ⟨z1, z2⟩; first | exact h5 z1 | exact h13 z2) (by rintro ⟨z1, z2⟩; first | exact h21 z1 | exact h29 z2)).mp h65⟩ | exact bZ_1 (fun a => h65 ((mul_fits2 h55 (by rintro ⟨z1, z2⟩; first | exact h5 z1 | exact h13 z2) (by rintro ⟨z1, z2⟩; first | exact h21 z1 | exact h29 z2)).mpr a.2)))⟩) d_Mod_multiplied_79
            · skip
              rw [lg_cmp_eq] at h65
              refine lv_iconst (v := (nI 1)) hx hb d_Mod_multiplied_68 rfl ?_
              refine lv_goto (tgt := 73) hx hb d_Mod_multiplied_69 (by decide) ?_
              refine q_put (C := R_Mod) (T := T_Mod) (N := 10) (ty := .boolean) (v := .int (nI 1)) hx hb hts (fun w h => gm (inT_Mod w h)) ty_Mod tyo_Mod nm_Mod hown hK hZ (43) (by decide) hM.1 rfl 9 (by decide) (hts _ (gm k_429)) (fun _ h9 => h9) rfl (by decide +kernel) (rfl) (rfl) (Nat.le_of_ble_eq_true rfl) d_Mod_multiplied_73 (fun H locs hZ => ?_)
              have hM := hM.up43 t rm (nI 1)
              have hfr := fr_up (x := 43) (e := .inr (3, [.int t, .ref (ad 44), .ref (ad 45), .ref (ad 46), .ref (ad 47), .int rm, .ref (ad 48), .ref (ad 49), .ref (ad 50), .int (nI 1)])) hfr (by omega) (by omega)
              have hZ : sZ (dC, dI) vCl 52 ad (fun q => N0 ≤ q) s.heap (va_up w 43 (.inr (3, [.int t, .ref (ad 44), .ref (ad 45), .ref (ad 46), .ref (ad 47), .int rm, .ref (ad 48), .ref (ad 49), .ref (ad 50), .int (nI 1)]))) H locs := hZ
              generalize va_up w 43 (.inr (3, [.int t, .ref (ad 44), .ref (ad 45), .ref (ad 46), .ref (ad 47), .int rm, .ref (ad 48), .ref (ad 49), .ref (ad 50), .int (nI 1)])) = w24 at hZ hM hfr
              refine lv_lload_n hx hb d_Mod_multiplied_76 rfl (lv_at hl 2 rfl) ?_
              refine lv_lload_n hx hb d_Mod_multiplied_77 rfl (lv_at hl 3 rfl) ?_
              refine lv_lmul hx hb d_Mod_multiplied_78 ?_
              exact q_lret hx hb hr hlocks hK hAm hZ hN (⟨hfr, rfl, _, hM, (by first | exact bZ_1 (fun a => h44 a.1) | exact bZ_1 (fun a => fM_bad1 (Or.inl ⟨h5, h13⟩) a.2) | exact bZ_1 (fun a => fM_bad1 (Or.inr ⟨h21, h29⟩) a.2) | exact bZ_0 ⟨h44, by rw [h55]; exact fM_0l _⟩ | exact bZ_0 ⟨h44, (mul_fits2 h55 (by rintro ⟨z1, z2⟩; first | exact h5 z1 | exact h13 z2) (by rintro ⟨z1, z2⟩; first | exact h21 z1 | exact h29 z2)).mp h65⟩ | exact bZ_1 (fun a => h65 ((mul_fits2 h55 (by rintro ⟨z1, z2⟩; first | exact h5 z1 | exact h13 z2) (by rintro ⟨z1, z2⟩; first | exact h21 z1 | exact h29 z2)).mpr a.2)))⟩) d_Mod_multiplied_79
    · skip
      rw [lg_cmp_eq] at h21
      refine lv_lload_n hx hb d_Mod_multiplied_24 rfl (lv_at hl 1 rfl) ?_
      refine lv_ldc2 (v := (-1)) hx hb hown (hts _ (gm k_528)) d_Mod_multiplied_25 ?_
      refine W.lcmp hx hb d_Mod_multiplied_28 ?_
      refine lv_if_ne (tgt := 36) hx hb d_Mod_multiplied_29 (by decide) (fun h29 => ?_) (fun h29 => ?_)
      · skip
        rw [lg_cmp_eq] at h29
        refine lv_iconst (v := (nI 0)) hx hb d_Mod_multiplied_36 rfl ?_
        refine lv_istore (lv' := [(5, .int (nI 0)), (0, .ref (ad 43)), (1, .long x), (3, .long y)]) hx hb d_Mod_multiplied_37 hl (by decide) rfl (fun ls hl => ?_)
        refine lv_aload_n hx hb d_Mod_multiplied_39 rfl (lv_at hl 1 rfl) ?_
        refine lv_aload_n hx hb d_Mod_multiplied_40 rfl (lv_at hl 1 rfl) ?_
        refine q_get (C := R_Mod) (T := T_Mod) (N := 10) hx hb hts (fun w h => gm (inT_Mod w h)) hown hK hZ (43) (by decide) hM.1 rfl 9 (by decide) (hts _ (gm k_429)) (fun _ h9 => h9) rfl d_Mod_multiplied_41 ?_
        refine lv_if_ne (tgt := 68) hx hb d_Mod_multiplied_44 (by decide) (fun h44 => ?_) (fun h44 => ?_)
        · skip
          refine lv_iconst (v := (nI 1)) hx hb d_Mod_multiplied_68 rfl ?_
          refine lv_goto (tgt := 73) hx hb d_Mod_multiplied_69 (by decide) ?_
          refine q_put (C := R_Mod) (T := T_Mod) (N := 10) (ty := .boolean) (v := .int (nI 1)) hx hb hts (fun w h => gm (inT_Mod w h)) ty_Mod tyo_Mod nm_Mod hown hK hZ (43) (by decide) hM.1 rfl 9 (by decide) (hts _ (gm k_429)) (fun _ h9 => h9) rfl (by decide +kernel) (rfl) (rfl) (Nat.le_of_ble_eq_true rfl) d_Mod_multiplied_73 (fun H locs hZ => ?_)
          have hM := hM.up43 t rm (nI 1)
          have hfr := fr_up (x := 43) (e := .inr (3, [.int t, .ref (ad 44), .ref (ad 45), .ref (ad 46), .ref (ad 47), .int rm, .ref (ad 48), .ref (ad 49), .ref (ad 50), .int (nI 1)])) hfr (by omega) (by omega)
          have hZ : sZ (dC, dI) vCl 52 ad (fun q => N0 ≤ q) s.heap (va_up w 43 (.inr (3, [.int t, .ref (ad 44), .ref (ad 45), .ref (ad 46), .ref (ad 47), .int rm, .ref (ad 48), .ref (ad 49), .ref (ad 50), .int (nI 1)]))) H locs := hZ
          generalize va_up w 43 (.inr (3, [.int t, .ref (ad 44), .ref (ad 45), .ref (ad 46), .ref (ad 47), .int rm, .ref (ad 48), .ref (ad 49), .ref (ad 50), .int (nI 1)])) = w25 at hZ hM hfr
          refine lv_lload_n hx hb d_Mod_multiplied_76 rfl (lv_at hl 2 rfl) ?_
          refine lv_lload_n hx hb d_Mod_multiplied_77 rfl (lv_at hl 3 rfl) ?_
          refine lv_lmul hx hb d_Mod_multiplied_78 ?_
          exact q_lret hx hb hr hlocks hK hAm hZ hN (⟨hfr, rfl, _, hM, (by first | exact bZ_1 (fun a => h44 a.1) | exact bZ_1 (fun a => fM_bad1 (Or.inl ⟨h5, h13⟩) a.2) | exact bZ_1 (fun a => fM_bad1 (Or.inr ⟨h21, h29⟩) a.2) | exact bZ_0 ⟨h44, by rw [h55]; exact fM_0l _⟩ | exact bZ_0 ⟨h44, (mul_fits2 h55 (by rintro ⟨z1, z2⟩; first | exact h5 z1 | exact h13 z2) (by rintro ⟨z1, z2⟩; first | exact h21 z1 | exact h29 z2)).mp h65⟩ | exact bZ_1 (fun a => h65 ((mul_fits2 h55 (by rintro ⟨z1, z2⟩; first | exact h5 z1 | exact h13 z2) (by rintro ⟨z1, z2⟩; first | exact h21 z1 | exact h29 z2)).mpr a.2)))⟩) d_Mod_multiplied_79
        · skip
          refine lv_iload hx hb d_Mod_multiplied_47 (lv_at hl 0 rfl) ?_
          refine lv_if_ne (tgt := 68) hx hb d_Mod_multiplied_49 (by decide) (fun h49 => ?_) (fun h49 => ?_)
          · skip
            have h49 : ¬ 0 = 0 := fun z9 => h49 ((nI_eq (a := 0) (b := 0) (by omega) (by omega)).mpr z9)
            exact absurd h49 (by decide)
          · skip
            have h49 : 0 = 0 := (nI_eq (a := 0) (b := 0) (by omega) (by omega)).mp h49
            refine lv_lload_n hx hb d_Mod_multiplied_52 rfl (lv_at hl 2 rfl) ?_
            refine lv_lconst (v := 0) hx hb d_Mod_multiplied_53 rfl ?_
            refine W.lcmp hx hb d_Mod_multiplied_54 ?_
            refine lv_if_eq (tgt := 72) hx hb d_Mod_multiplied_55 (by decide) (fun h55 => ?_) (fun h55 => ?_)
            · skip
              rw [lg_cmp_eq] at h55
              refine lv_iconst (v := (nI 0)) hx hb d_Mod_multiplied_72 rfl ?_
              refine q_put (C := R_Mod) (T := T_Mod) (N := 10) (ty := .boolean) (v := .int (nI 0)) hx hb hts (fun w h => gm (inT_Mod w h)) ty_Mod tyo_Mod nm_Mod hown hK hZ (43) (by decide) hM.1 rfl 9 (by decide) (hts _ (gm k_429)) (fun _ h9 => h9) rfl (by decide +kernel) (rfl) (rfl) (Nat.le_of_ble_eq_true rfl) d_Mod_multiplied_73 (fun H locs hZ => ?_)
              have hM := hM.up43 t rm (nI 0)
              have hfr := fr_up (x := 43) (e := .inr (3, [.int t, .ref (ad 44), .ref (ad 45), .ref (ad 46), .ref (ad 47), .int rm, .ref (ad 48), .ref (ad 49), .ref (ad 50), .int (nI 0)])) hfr (by omega) (by omega)
              have hZ : sZ (dC, dI) vCl 52 ad (fun q => N0 ≤ q) s.heap (va_up w 43 (.inr (3, [.int t, .ref (ad 44), .ref (ad 45), .ref (ad 46), .ref (ad 47), .int rm, .ref (ad 48), .ref (ad 49), .ref (ad 50), .int (nI 0)]))) H locs := hZ
              generalize va_up w 43 (.inr (3, [.int t, .ref (ad 44), .ref (ad 45), .ref (ad 46), .ref (ad 47), .int rm, .ref (ad 48), .ref (ad 49), .ref (ad 50), .int (nI 0)])) = w26 at hZ hM hfr
              refine lv_lload_n hx hb d_Mod_multiplied_76 rfl (lv_at hl 2 rfl) ?_
              refine lv_lload_n hx hb d_Mod_multiplied_77 rfl (lv_at hl 3 rfl) ?_
              refine lv_lmul hx hb d_Mod_multiplied_78 ?_
              exact q_lret hx hb hr hlocks hK hAm hZ hN (⟨hfr, rfl, _, hM, (by first | exact bZ_1 (fun a => h44 a.1) | exact bZ_1 (fun a => fM_bad1 (Or.inl ⟨h5, h13⟩) a.2) | exact bZ_1 (fun a => fM_bad1 (Or.inr ⟨h21, h29⟩) a.2) | exact bZ_0 ⟨h44, by rw [h55]; exact fM_0l _⟩ | exact bZ_0 ⟨h44, (mul_fits2 h55 (by rintro ⟨z1, z2⟩; first | exact h5 z1 | exact h13 z2) (by rintro ⟨z1, z2⟩; first | exact h21 z1 | exact h29 z2)).mp h65⟩ | exact bZ_1 (fun a => h65 ((mul_fits2 h55 (by rintro ⟨z1, z2⟩; first | exact h5 z1 | exact h13 z2) (by rintro ⟨z1, z2⟩; first | exact h21 z1 | exact h29 z2)).mpr a.2)))⟩) d_Mod_multiplied_79
            · skip
              rw [lg_cmp_eq] at h55
              refine lv_lload_n hx hb d_Mod_multiplied_58 rfl (lv_at hl 2 rfl) ?_
              refine lv_lload_n hx hb d_Mod_multiplied_59 rfl (lv_at hl 3 rfl) ?_
              refine lv_lmul hx hb d_Mod_multiplied_60 ?_
              refine lv_lload_n hx hb d_Mod_multiplied_61 rfl (lv_at hl 2 rfl) ?_
              refine lv_ldiv hx hb d_Mod_multiplied_62 (h55) ?_
              refine lv_lload_n hx hb d_Mod_multiplied_63 rfl (lv_at hl 3 rfl) ?_
              refine W.lcmp hx hb d_Mod_multiplied_64 ?_
              refine lv_if_eq (tgt := 72) hx hb d_Mod_multiplied_65 (by decide) (fun h65 => ?_) (fun h65 => ?_)
              · skip
                rw [lg_cmp_eq] at h65
                refine lv_iconst (v := (nI 0)) hx hb d_Mod_multiplied_72 rfl ?_
                refine q_put (C := R_Mod) (T := T_Mod) (N := 10) (ty := .boolean) (v := .int (nI 0)) hx hb hts (fun w h => gm (inT_Mod w h)) ty_Mod tyo_Mod nm_Mod hown hK hZ (43) (by decide) hM.1 rfl 9 (by decide) (hts _ (gm k_429)) (fun _ h9 => h9) rfl (by decide +kernel) (rfl) (rfl) (Nat.le_of_ble_eq_true rfl) d_Mod_multiplied_73 (fun H locs hZ => ?_)
                have hM := hM.up43 t rm (nI 0)
                have hfr := fr_up (x := 43) (e := .inr (3, [.int t, .ref (ad 44), .ref (ad 45), .ref (ad 46), .ref (ad 47), .int rm, .ref (ad 48), .ref (ad 49), .ref (ad 50), .int (nI 0)])) hfr (by omega) (by omega)
                have hZ : sZ (dC, dI) vCl 52 ad (fun q => N0 ≤ q) s.heap (va_up w 43 (.inr (3, [.int t, .ref (ad 44), .ref (ad 45), .ref (ad 46), .ref (ad 47), .int rm, .ref (ad 48), .ref (ad 49), .ref (ad 50), .int (nI 0)]))) H locs := hZ
                generalize va_up w 43 (.inr (3, [.int t, .ref (ad 44), .ref (ad 45), .ref (ad 46), .ref (ad 47), .int rm, .ref (ad 48), .ref (ad 49), .ref (ad 50), .int (nI 0)])) = w27 at hZ hM hfr
                refine lv_lload_n hx hb d_Mod_multiplied_76 rfl (lv_at hl 2 rfl) ?_
                refine lv_lload_n hx hb d_Mod_multiplied_77 rfl (lv_at hl 3 rfl) ?_
                refine lv_lmul hx hb d_Mod_multiplied_78 ?_
                exact q_lret hx hb hr hlocks hK hAm hZ hN (⟨hfr, rfl, _, hM, (by first | exact bZ_1 (fun a => h44 a.1) | exact bZ_1 (fun a => fM_bad1 (Or.inl ⟨h5, h13⟩) a.2) | exact bZ_1 (fun a => fM_bad1 (Or.inr ⟨h21, h29⟩) a.2) | exact bZ_0 ⟨h44, by rw [h55]; exact fM_0l _⟩ | exact bZ_0 ⟨h44, (mul_fits2 h55 (by rintro ⟨z1, z2⟩; first | exact h5 z1 | exact h13 z2) (by rintro ⟨z1, z2⟩; first | exact h21 z1 | exact h29 z2)).mp h65⟩ | exact bZ_1 (fun a => h65 ((mul_fits2 h55 (by rintro ⟨z1, z2⟩; first | exact h5 z1 | exact h13 z2) (by rintro ⟨z1, z2⟩; first | exact h21 z1 | exact h29 z2)).mpr a.2)))⟩) d_Mod_multiplied_79
              · skip
                rw [lg_cmp_eq] at h65
                refine lv_iconst (v := (nI 1)) hx hb d_Mod_multiplied_68 rfl ?_
                refine lv_goto (tgt := 73) hx hb d_Mod_multiplied_69 (by decide) ?_
                refine q_put (C := R_Mod) (T := T_Mod) (N := 10) (ty := .boolean) (v := .int (nI 1)) hx hb hts (fun w h => gm (inT_Mod w h)) ty_Mod tyo_Mod nm_Mod hown hK hZ (43) (by decide) hM.1 rfl 9 (by decide) (hts _ (gm k_429)) (fun _ h9 => h9) rfl (by decide +kernel) (rfl) (rfl) (Nat.le_of_ble_eq_true rfl) d_Mod_multiplied_73 (fun H locs hZ => ?_)
                have hM := hM.up43 t rm (nI 1)
                have hfr := fr_up (x := 43) (e := .inr (3, [.int t, .ref (ad 44), .ref (ad 45), .ref (ad 46), .ref (ad 47), .int rm, .ref (ad 48), .ref (ad 49), .ref (ad 50), .int (nI 1)])) hfr (by omega) (by omega)
                have hZ : sZ (dC, dI) vCl 52 ad (fun q => N0 ≤ q) s.heap (va_up w 43 (.inr (3, [.int t, .ref (ad 44), .ref (ad 45), .ref (ad 46), .ref (ad 47), .int rm, .ref (ad 48), .ref (ad 49), .ref (ad 50), .int (nI 1)]))) H locs := hZ
                generalize va_up w 43 (.inr (3, [.int t, .ref (ad 44), .ref (ad 45), .ref (ad 46), .ref (ad 47), .int rm, .ref (ad 48), .ref (ad 49), .ref (ad 50), .int (nI 1)])) = w28 at hZ hM hfr
                refine lv_lload_n hx hb d_Mod_multiplied_76 rfl (lv_at hl 2 rfl) ?_
                refine lv_lload_n hx hb d_Mod_multiplied_77 rfl (lv_at hl 3 rfl) ?_
                refine lv_lmul hx hb d_Mod_multiplied_78 ?_
                exact q_lret hx hb hr hlocks hK hAm hZ hN (⟨hfr, rfl, _, hM, (by first | exact bZ_1 (fun a => h44 a.1) | exact bZ_1 (fun a => fM_bad1 (Or.inl ⟨h5, h13⟩) a.2) | exact bZ_1 (fun a => fM_bad1 (Or.inr ⟨h21, h29⟩) a.2) | exact bZ_0 ⟨h44, by rw [h55]; exact fM_0l _⟩ | exact bZ_0 ⟨h44, (mul_fits2 h55 (by rintro ⟨z1, z2⟩; first | exact h5 z1 | exact h13 z2) (by rintro ⟨z1, z2⟩; first | exact h21 z1 | exact h29 z2)).mp h65⟩ | exact bZ_1 (fun a => h65 ((mul_fits2 h55 (by rintro ⟨z1, z2⟩; first | exact h5 z1 | exact h13 z2) (by rintro ⟨z1, z2⟩; first | exact h21 z1 | exact h29 z2)).mpr a.2)))⟩) d_Mod_multiplied_79
      · skip
        rw [lg_cmp_eq] at h29
        refine lv_iconst (v := (nI 1)) hx hb d_Mod_multiplied_32 rfl ?_
        refine lv_goto (tgt := 37) hx hb d_Mod_multiplied_33 (by decide) ?_
        refine lv_istore (lv' := [(5, .int (nI 1)), (0, .ref (ad 43)), (1, .long x), (3, .long y)]) hx hb d_Mod_multiplied_37 hl (by decide) rfl (fun ls hl => ?_)
        refine lv_aload_n hx hb d_Mod_multiplied_39 rfl (lv_at hl 1 rfl) ?_
        refine lv_aload_n hx hb d_Mod_multiplied_40 rfl (lv_at hl 1 rfl) ?_
        refine q_get (C := R_Mod) (T := T_Mod) (N := 10) hx hb hts (fun w h => gm (inT_Mod w h)) hown hK hZ (43) (by decide) hM.1 rfl 9 (by decide) (hts _ (gm k_429)) (fun _ h9 => h9) rfl d_Mod_multiplied_41 ?_
        refine lv_if_ne (tgt := 68) hx hb d_Mod_multiplied_44 (by decide) (fun h44 => ?_) (fun h44 => ?_)
        · skip
          refine lv_iconst (v := (nI 1)) hx hb d_Mod_multiplied_68 rfl ?_
          refine lv_goto (tgt := 73) hx hb d_Mod_multiplied_69 (by decide) ?_
          refine q_put (C := R_Mod) (T := T_Mod) (N := 10) (ty := .boolean) (v := .int (nI 1)) hx hb hts (fun w h => gm (inT_Mod w h)) ty_Mod tyo_Mod nm_Mod hown hK hZ (43) (by decide) hM.1 rfl 9 (by decide) (hts _ (gm k_429)) (fun _ h9 => h9) rfl (by decide +kernel) (rfl) (rfl) (Nat.le_of_ble_eq_true rfl) d_Mod_multiplied_73 (fun H locs hZ => ?_)
          have hM := hM.up43 t rm (nI 1)
          have hfr := fr_up (x := 43) (e := .inr (3, [.int t, .ref (ad 44), .ref (ad 45), .ref (ad 46), .ref (ad 47), .int rm, .ref (ad 48), .ref (ad 49), .ref (ad 50), .int (nI 1)])) hfr (by omega) (by omega)
          have hZ : sZ (dC, dI) vCl 52 ad (fun q => N0 ≤ q) s.heap (va_up w 43 (.inr (3, [.int t, .ref (ad 44), .ref (ad 45), .ref (ad 46), .ref (ad 47), .int rm, .ref (ad 48), .ref (ad 49), .ref (ad 50), .int (nI 1)]))) H locs := hZ
          generalize va_up w 43 (.inr (3, [.int t, .ref (ad 44), .ref (ad 45), .ref (ad 46), .ref (ad 47), .int rm, .ref (ad 48), .ref (ad 49), .ref (ad 50), .int (nI 1)])) = w29 at hZ hM hfr
          refine lv_lload_n hx hb d_Mod_multiplied_76 rfl (lv_at hl 2 rfl) ?_
          refine lv_lload_n hx hb d_Mod_multiplied_77 rfl (lv_at hl 3 rfl) ?_
          refine lv_lmul hx hb d_Mod_multiplied_78 ?_
          exact q_lret hx hb hr hlocks hK hAm hZ hN (⟨hfr, rfl, _, hM, (by first | exact bZ_1 (fun a => h44 a.1) | exact bZ_1 (fun a => fM_bad1 (Or.inl ⟨h5, h13⟩) a.2) | exact bZ_1 (fun a => fM_bad1 (Or.inr ⟨h21, h29⟩) a.2) | exact bZ_0 ⟨h44, by rw [h55]; exact fM_0l _⟩ | exact bZ_0 ⟨h44, (mul_fits2 h55 (by rintro ⟨z1, z2⟩; first | exact h5 z1 | exact h13 z2) (by rintro ⟨z1, z2⟩; first | exact h21 z1 | exact h29 z2)).mp h65⟩ | exact bZ_1 (fun a => h65 ((mul_fits2 h55 (by rintro ⟨z1, z2⟩; first | exact h5 z1 | exact h13 z2) (by rintro ⟨z1, z2⟩; first | exact h21 z1 | exact h29 z2)).mpr a.2)))⟩) d_Mod_multiplied_79
        · skip
          refine lv_iload hx hb d_Mod_multiplied_47 (lv_at hl 0 rfl) ?_
          refine lv_if_ne (tgt := 68) hx hb d_Mod_multiplied_49 (by decide) (fun h49 => ?_) (fun h49 => ?_)
          · skip
            have h49 : ¬ 1 = 0 := fun z9 => h49 ((nI_eq (a := 1) (b := 0) (by omega) (by omega)).mpr z9)
            refine lv_iconst (v := (nI 1)) hx hb d_Mod_multiplied_68 rfl ?_
            refine lv_goto (tgt := 73) hx hb d_Mod_multiplied_69 (by decide) ?_
            refine q_put (C := R_Mod) (T := T_Mod) (N := 10) (ty := .boolean) (v := .int (nI 1)) hx hb hts (fun w h => gm (inT_Mod w h)) ty_Mod tyo_Mod nm_Mod hown hK hZ (43) (by decide) hM.1 rfl 9 (by decide) (hts _ (gm k_429)) (fun _ h9 => h9) rfl (by decide +kernel) (rfl) (rfl) (Nat.le_of_ble_eq_true rfl) d_Mod_multiplied_73 (fun H locs hZ => ?_)
            have hM := hM.up43 t rm (nI 1)
            have hfr := fr_up (x := 43) (e := .inr (3, [.int t, .ref (ad 44), .ref (ad 45), .ref (ad 46), .ref (ad 47), .int rm, .ref (ad 48), .ref (ad 49), .ref (ad 50), .int (nI 1)])) hfr (by omega) (by omega)
            have hZ : sZ (dC, dI) vCl 52 ad (fun q => N0 ≤ q) s.heap (va_up w 43 (.inr (3, [.int t, .ref (ad 44), .ref (ad 45), .ref (ad 46), .ref (ad 47), .int rm, .ref (ad 48), .ref (ad 49), .ref (ad 50), .int (nI 1)]))) H locs := hZ
            generalize va_up w 43 (.inr (3, [.int t, .ref (ad 44), .ref (ad 45), .ref (ad 46), .ref (ad 47), .int rm, .ref (ad 48), .ref (ad 49), .ref (ad 50), .int (nI 1)])) = w30 at hZ hM hfr
            refine lv_lload_n hx hb d_Mod_multiplied_76 rfl (lv_at hl 2 rfl) ?_
            refine lv_lload_n hx hb d_Mod_multiplied_77 rfl (lv_at hl 3 rfl) ?_
            refine lv_lmul hx hb d_Mod_multiplied_78 ?_
            exact q_lret hx hb hr hlocks hK hAm hZ hN (⟨hfr, rfl, _, hM, (by first | exact bZ_1 (fun a => h44 a.1) | exact bZ_1 (fun a => fM_bad1 (Or.inl ⟨h5, h13⟩) a.2) | exact bZ_1 (fun a => fM_bad1 (Or.inr ⟨h21, h29⟩) a.2) | exact bZ_0 ⟨h44, by rw [h55]; exact fM_0l _⟩ | exact bZ_0 ⟨h44, (mul_fits2 h55 (by rintro ⟨z1, z2⟩; first | exact h5 z1 | exact h13 z2) (by rintro ⟨z1, z2⟩; first | exact h21 z1 | exact h29 z2)).mp h65⟩ | exact bZ_1 (fun a => h65 ((mul_fits2 h55 (by rintro ⟨z1, z2⟩; first | exact h5 z1 | exact h13 z2) (by rintro ⟨z1, z2⟩; first | exact h21 z1 | exact h29 z2)).mpr a.2)))⟩) d_Mod_multiplied_79
          · skip
            have h49 : 1 = 0 := (nI_eq (a := 1) (b := 0) (by omega) (by omega)).mp h49
            exact absurd h49 (by decide)
  · skip
    rw [lg_cmp_eq] at h5
    refine lv_lload_n hx hb d_Mod_multiplied_8 rfl (lv_at hl 2 rfl) ?_
    refine lv_ldc2 (v := (-1)) hx hb hown (hts _ (gm k_528)) d_Mod_multiplied_9 ?_
    refine W.lcmp hx hb d_Mod_multiplied_12 ?_
    refine lv_if_eq (tgt := 32) hx hb d_Mod_multiplied_13 (by decide) (fun h13 => ?_) (fun h13 => ?_)
    · skip
      rw [lg_cmp_eq] at h13
      refine lv_iconst (v := (nI 1)) hx hb d_Mod_multiplied_32 rfl ?_
      refine lv_goto (tgt := 37) hx hb d_Mod_multiplied_33 (by decide) ?_
      refine lv_istore (lv' := [(5, .int (nI 1)), (0, .ref (ad 43)), (1, .long x), (3, .long y)]) hx hb d_Mod_multiplied_37 hl (by decide) rfl (fun ls hl => ?_)
      refine lv_aload_n hx hb d_Mod_multiplied_39 rfl (lv_at hl 1 rfl) ?_
      refine lv_aload_n hx hb d_Mod_multiplied_40 rfl (lv_at hl 1 rfl) ?_
      refine q_get (C := R_Mod) (T := T_Mod) (N := 10) hx hb hts (fun w h => gm (inT_Mod w h)) hown hK hZ (43) (by decide) hM.1 rfl 9 (by decide) (hts _ (gm k_429)) (fun _ h9 => h9) rfl d_Mod_multiplied_41 ?_
      refine lv_if_ne (tgt := 68) hx hb d_Mod_multiplied_44 (by decide) (fun h44 => ?_) (fun h44 => ?_)
      · skip
        refine lv_iconst (v := (nI 1)) hx hb d_Mod_multiplied_68 rfl ?_
        refine lv_goto (tgt := 73) hx hb d_Mod_multiplied_69 (by decide) ?_
        refine q_put (C := R_Mod) (T := T_Mod) (N := 10) (ty := .boolean) (v := .int (nI 1)) hx hb hts (fun w h => gm (inT_Mod w h)) ty_Mod tyo_Mod nm_Mod hown hK hZ (43) (by decide) hM.1 rfl 9 (by decide) (hts _ (gm k_429)) (fun _ h9 => h9) rfl (by decide +kernel) (rfl) (rfl) (Nat.le_of_ble_eq_true rfl) d_Mod_multiplied_73 (fun H locs hZ => ?_)
        have hM := hM.up43 t rm (nI 1)
        have hfr := fr_up (x := 43) (e := .inr (3, [.int t, .ref (ad 44), .ref (ad 45), .ref (ad 46), .ref (ad 47), .int rm, .ref (ad 48), .ref (ad 49), .ref (ad 50), .int (nI 1)])) hfr (by omega) (by omega)
        have hZ : sZ (dC, dI) vCl 52 ad (fun q => N0 ≤ q) s.heap (va_up w 43 (.inr (3, [.int t, .ref (ad 44), .ref (ad 45), .ref (ad 46), .ref (ad 47), .int rm, .ref (ad 48), .ref (ad 49), .ref (ad 50), .int (nI 1)]))) H locs := hZ
        generalize va_up w 43 (.inr (3, [.int t, .ref (ad 44), .ref (ad 45), .ref (ad 46), .ref (ad 47), .int rm, .ref (ad 48), .ref (ad 49), .ref (ad 50), .int (nI 1)])) = w31 at hZ hM hfr
        refine lv_lload_n hx hb d_Mod_multiplied_76 rfl (lv_at hl 2 rfl) ?_
        refine lv_lload_n hx hb d_Mod_multiplied_77 rfl (lv_at hl 3 rfl) ?_
        refine lv_lmul hx hb d_Mod_multiplied_78 ?_
        exact q_lret hx hb hr hlocks hK hAm hZ hN (⟨hfr, rfl, _, hM, (by first | exact bZ_1 (fun a => h44 a.1) | exact bZ_1 (fun a => fM_bad1 (Or.inl ⟨h5, h13⟩) a.2) | exact bZ_1 (fun a => fM_bad1 (Or.inr ⟨h21, h29⟩) a.2) | exact bZ_0 ⟨h44, by rw [h55]; exact fM_0l _⟩ | exact bZ_0 ⟨h44, (mul_fits2 h55 (by rintro ⟨z1, z2⟩; first | exact h5 z1 | exact h13 z2) (by rintro ⟨z1, z2⟩; first | exact h21 z1 | exact h29 z2)).mp h65⟩ | exact bZ_1 (fun a => h65 ((mul_fits2 h55 (by rintro ⟨z1, z2⟩; first | exact h5 z1 | exact h13 z2) (by rintro ⟨z1, z2⟩; first | exact h21 z1 | exact h29 z2)).mpr a.2)))⟩) d_Mod_multiplied_79
      · skip
        refine lv_iload hx hb d_Mod_multiplied_47 (lv_at hl 0 rfl) ?_
        refine lv_if_ne (tgt := 68) hx hb d_Mod_multiplied_49 (by decide) (fun h49 => ?_) (fun h49 => ?_)
        · skip
          have h49 : ¬ 1 = 0 := fun z9 => h49 ((nI_eq (a := 1) (b := 0) (by omega) (by omega)).mpr z9)
          refine lv_iconst (v := (nI 1)) hx hb d_Mod_multiplied_68 rfl ?_
          refine lv_goto (tgt := 73) hx hb d_Mod_multiplied_69 (by decide) ?_
          refine q_put (C := R_Mod) (T := T_Mod) (N := 10) (ty := .boolean) (v := .int (nI 1)) hx hb hts (fun w h => gm (inT_Mod w h)) ty_Mod tyo_Mod nm_Mod hown hK hZ (43) (by decide) hM.1 rfl 9 (by decide) (hts _ (gm k_429)) (fun _ h9 => h9) rfl (by decide +kernel) (rfl) (rfl) (Nat.le_of_ble_eq_true rfl) d_Mod_multiplied_73 (fun H locs hZ => ?_)
          have hM := hM.up43 t rm (nI 1)
          have hfr := fr_up (x := 43) (e := .inr (3, [.int t, .ref (ad 44), .ref (ad 45), .ref (ad 46), .ref (ad 47), .int rm, .ref (ad 48), .ref (ad 49), .ref (ad 50), .int (nI 1)])) hfr (by omega) (by omega)
          have hZ : sZ (dC, dI) vCl 52 ad (fun q => N0 ≤ q) s.heap (va_up w 43 (.inr (3, [.int t, .ref (ad 44), .ref (ad 45), .ref (ad 46), .ref (ad 47), .int rm, .ref (ad 48), .ref (ad 49), .ref (ad 50), .int (nI 1)]))) H locs := hZ
          generalize va_up w 43 (.inr (3, [.int t, .ref (ad 44), .ref (ad 45), .ref (ad 46), .ref (ad 47), .int rm, .ref (ad 48), .ref (ad 49), .ref (ad 50), .int (nI 1)])) = w32 at hZ hM hfr
          refine lv_lload_n hx hb d_Mod_multiplied_76 rfl (lv_at hl 2 rfl) ?_
          refine lv_lload_n hx hb d_Mod_multiplied_77 rfl (lv_at hl 3 rfl) ?_
          refine lv_lmul hx hb d_Mod_multiplied_78 ?_
          exact q_lret hx hb hr hlocks hK hAm hZ hN (⟨hfr, rfl, _, hM, (by first | exact bZ_1 (fun a => h44 a.1) | exact bZ_1 (fun a => fM_bad1 (Or.inl ⟨h5, h13⟩) a.2) | exact bZ_1 (fun a => fM_bad1 (Or.inr ⟨h21, h29⟩) a.2) | exact bZ_0 ⟨h44, by rw [h55]; exact fM_0l _⟩ | exact bZ_0 ⟨h44, (mul_fits2 h55 (by rintro ⟨z1, z2⟩; first | exact h5 z1 | exact h13 z2) (by rintro ⟨z1, z2⟩; first | exact h21 z1 | exact h29 z2)).mp h65⟩ | exact bZ_1 (fun a => h65 ((mul_fits2 h55 (by rintro ⟨z1, z2⟩; first | exact h5 z1 | exact h13 z2) (by rintro ⟨z1, z2⟩; first | exact h21 z1 | exact h29 z2)).mpr a.2)))⟩) d_Mod_multiplied_79
        · skip
          have h49 : 1 = 0 := (nI_eq (a := 1) (b := 0) (by omega) (by omega)).mp h49
          exact absurd h49 (by decide)
    · skip
      rw [lg_cmp_eq] at h13
      refine lv_lload_n hx hb d_Mod_multiplied_16 rfl (lv_at hl 2 rfl) ?_
      refine lv_ldc2 (v := (-9223372036854775808)) hx hb hown (hts _ (gm k_491)) d_Mod_multiplied_17 ?_
      refine W.lcmp hx hb d_Mod_multiplied_20 ?_
      refine lv_if_ne (tgt := 36) hx hb d_Mod_multiplied_21 (by decide) (fun h21 => ?_) (fun h21 => ?_)
      · skip
        rw [lg_cmp_eq] at h21
        refine lv_iconst (v := (nI 0)) hx hb d_Mod_multiplied_36 rfl ?_
        refine lv_istore (lv' := [(5, .int (nI 0)), (0, .ref (ad 43)), (1, .long x), (3, .long y)]) hx hb d_Mod_multiplied_37 hl (by decide) rfl (fun ls hl => ?_)
        refine lv_aload_n hx hb d_Mod_multiplied_39 rfl (lv_at hl 1 rfl) ?_
        refine lv_aload_n hx hb d_Mod_multiplied_40 rfl (lv_at hl 1 rfl) ?_
        refine q_get (C := R_Mod) (T := T_Mod) (N := 10) hx hb hts (fun w h => gm (inT_Mod w h)) hown hK hZ (43) (by decide) hM.1 rfl 9 (by decide) (hts _ (gm k_429)) (fun _ h9 => h9) rfl d_Mod_multiplied_41 ?_
        refine lv_if_ne (tgt := 68) hx hb d_Mod_multiplied_44 (by decide) (fun h44 => ?_) (fun h44 => ?_)
        · skip
          refine lv_iconst (v := (nI 1)) hx hb d_Mod_multiplied_68 rfl ?_
          refine lv_goto (tgt := 73) hx hb d_Mod_multiplied_69 (by decide) ?_
          refine q_put (C := R_Mod) (T := T_Mod) (N := 10) (ty := .boolean) (v := .int (nI 1)) hx hb hts (fun w h => gm (inT_Mod w h)) ty_Mod tyo_Mod nm_Mod hown hK hZ (43) (by decide) hM.1 rfl 9 (by decide) (hts _ (gm k_429)) (fun _ h9 => h9) rfl (by decide +kernel) (rfl) (rfl) (Nat.le_of_ble_eq_true rfl) d_Mod_multiplied_73 (fun H locs hZ => ?_)
          have hM := hM.up43 t rm (nI 1)
          have hfr := fr_up (x := 43) (e := .inr (3, [.int t, .ref (ad 44), .ref (ad 45), .ref (ad 46), .ref (ad 47), .int rm, .ref (ad 48), .ref (ad 49), .ref (ad 50), .int (nI 1)])) hfr (by omega) (by omega)
          have hZ : sZ (dC, dI) vCl 52 ad (fun q => N0 ≤ q) s.heap (va_up w 43 (.inr (3, [.int t, .ref (ad 44), .ref (ad 45), .ref (ad 46), .ref (ad 47), .int rm, .ref (ad 48), .ref (ad 49), .ref (ad 50), .int (nI 1)]))) H locs := hZ
          generalize va_up w 43 (.inr (3, [.int t, .ref (ad 44), .ref (ad 45), .ref (ad 46), .ref (ad 47), .int rm, .ref (ad 48), .ref (ad 49), .ref (ad 50), .int (nI 1)])) = w33 at hZ hM hfr
          refine lv_lload_n hx hb d_Mod_multiplied_76 rfl (lv_at hl 2 rfl) ?_
          refine lv_lload_n hx hb d_Mod_multiplied_77 rfl (lv_at hl 3 rfl) ?_
          refine lv_lmul hx hb d_Mod_multiplied_78 ?_
          exact q_lret hx hb hr hlocks hK hAm hZ hN (⟨hfr, rfl, _, hM, (by first | exact bZ_1 (fun a => h44 a.1) | exact bZ_1 (fun a => fM_bad1 (Or.inl ⟨h5, h13⟩) a.2) | exact bZ_1 (fun a => fM_bad1 (Or.inr ⟨h21, h29⟩) a.2) | exact bZ_0 ⟨h44, by rw [h55]; exact fM_0l _⟩ | exact bZ_0 ⟨h44, (mul_fits2 h55 (by rintro ⟨z1, z2⟩; first | exact h5 z1 | exact h13 z2) (by rintro ⟨z1, z2⟩; first | exact h21 z1 | exact h29 z2)).mp h65⟩ | exact bZ_1 (fun a => h65 ((mul_fits2 h55 (by rintro ⟨z1, z2⟩; first | exact h5 z1 | exact h13 z2) (by rintro ⟨z1, z2⟩; first | exact h21 z1 | exact h29 z2)).mpr a.2)))⟩) d_Mod_multiplied_79
        · skip
          refine lv_iload hx hb d_Mod_multiplied_47 (lv_at hl 0 rfl) ?_
          refine lv_if_ne (tgt := 68) hx hb d_Mod_multiplied_49 (by decide) (fun h49 => ?_) (fun h49 => ?_)
          · skip
            have h49 : ¬ 0 = 0 := fun z9 => h49 ((nI_eq (a := 0) (b := 0) (by omega) (by omega)).mpr z9)
            exact absurd h49 (by decide)
          · skip
            have h49 : 0 = 0 := (nI_eq (a := 0) (b := 0) (by omega) (by omega)).mp h49
            refine lv_lload_n hx hb d_Mod_multiplied_52 rfl (lv_at hl 2 rfl) ?_
            refine lv_lconst (v := 0) hx hb d_Mod_multiplied_53 rfl ?_
            refine W.lcmp hx hb d_Mod_multiplied_54 ?_
            refine lv_if_eq (tgt := 72) hx hb d_Mod_multiplied_55 (by decide) (fun h55 => ?_) (fun h55 => ?_)
            · skip
              rw [lg_cmp_eq] at h55
              refine lv_iconst (v := (nI 0)) hx hb d_Mod_multiplied_72 rfl ?_
              refine q_put (C := R_Mod) (T := T_Mod) (N := 10) (ty := .boolean) (v := .int (nI 0)) hx hb hts (fun w h => gm (inT_Mod w h)) ty_Mod tyo_Mod nm_Mod hown hK hZ (43) (by decide) hM.1 rfl 9 (by decide) (hts _ (gm k_429)) (fun _ h9 => h9) rfl (by decide +kernel) (rfl) (rfl) (Nat.le_of_ble_eq_true rfl) d_Mod_multiplied_73 (fun H locs hZ => ?_)
              have hM := hM.up43 t rm (nI 0)
              have hfr := fr_up (x := 43) (e := .inr (3, [.int t, .ref (ad 44), .ref (ad 45), .ref (ad 46), .ref (ad 47), .int rm, .ref (ad 48), .ref (ad 49), .ref (ad 50), .int (nI 0)])) hfr (by omega) (by omega)
              have hZ : sZ (dC, dI) vCl 52 ad (fun q => N0 ≤ q) s.heap (va_up w 43 (.inr (3, [.int t, .ref (ad 44), .ref (ad 45), .ref (ad 46), .ref (ad 47), .int rm, .ref (ad 48), .ref (ad 49), .ref (ad 50), .int (nI 0)]))) H locs := hZ
              generalize va_up w 43 (.inr (3, [.int t, .ref (ad 44), .ref (ad 45), .ref (ad 46), .ref (ad 47), .int rm, .ref (ad 48), .ref (ad 49), .ref (ad 50), .int (nI 0)])) = w34 at hZ hM hfr
              refine lv_lload_n hx hb d_Mod_multiplied_76 rfl (lv_at hl 2 rfl) ?_
              refine lv_lload_n hx hb d_Mod_multiplied_77 rfl (lv_at hl 3 rfl) ?_
              refine lv_lmul hx hb d_Mod_multiplied_78 ?_
              exact q_lret hx hb hr hlocks hK hAm hZ hN (⟨hfr, rfl, _, hM, (by first | exact bZ_1 (fun a => h44 a.1) | exact bZ_1 (fun a => fM_bad1 (Or.inl ⟨h5, h13⟩) a.2) | exact bZ_1 (fun a => fM_bad1 (Or.inr ⟨h21, h29⟩) a.2) | exact bZ_0 ⟨h44, by rw [h55]; exact fM_0l _⟩ | exact bZ_0 ⟨h44, (mul_fits2 h55 (by rintro ⟨z1, z2⟩; first | exact h5 z1 | exact h13 z2) (by rintro ⟨z1, z2⟩; first | exact h21 z1 | exact h29 z2)).mp h65⟩ | exact bZ_1 (fun a => h65 ((mul_fits2 h55 (by rintro ⟨z1, z2⟩; first | exact h5 z1 | exact h13 z2) (by rintro ⟨z1, z2⟩; first | exact h21 z1 | exact h29 z2)).mpr a.2)))⟩) d_Mod_multiplied_79
            · skip
              rw [lg_cmp_eq] at h55
              refine lv_lload_n hx hb d_Mod_multiplied_58 rfl (lv_at hl 2 rfl) ?_
              refine lv_lload_n hx hb d_Mod_multiplied_59 rfl (lv_at hl 3 rfl) ?_
              refine lv_lmul hx hb d_Mod_multiplied_60 ?_
              refine lv_lload_n hx hb d_Mod_multiplied_61 rfl (lv_at hl 2 rfl) ?_
              refine lv_ldiv hx hb d_Mod_multiplied_62 (h55) ?_
              refine lv_lload_n hx hb d_Mod_multiplied_63 rfl (lv_at hl 3 rfl) ?_
              refine W.lcmp hx hb d_Mod_multiplied_64 ?_
              refine lv_if_eq (tgt := 72) hx hb d_Mod_multiplied_65 (by decide) (fun h65 => ?_) (fun h65 => ?_)
              · skip
                rw [lg_cmp_eq] at h65
                refine lv_iconst (v := (nI 0)) hx hb d_Mod_multiplied_72 rfl ?_
                refine q_put (C := R_Mod) (T := T_Mod) (N := 10) (ty := .boolean) (v := .int (nI 0)) hx hb hts (fun w h => gm (inT_Mod w h)) ty_Mod tyo_Mod nm_Mod hown hK hZ (43) (by decide) hM.1 rfl 9 (by decide) (hts _ (gm k_429)) (fun _ h9 => h9) rfl (by decide +kernel) (rfl) (rfl) (Nat.le_of_ble_eq_true rfl) d_Mod_multiplied_73 (fun H locs hZ => ?_)
                have hM := hM.up43 t rm (nI 0)
                have hfr := fr_up (x := 43) (e := .inr (3, [.int t, .ref (ad 44), .ref (ad 45), .ref (ad 46), .ref (ad 47), .int rm, .ref (ad 48), .ref (ad 49), .ref (ad 50), .int (nI 0)])) hfr (by omega) (by omega)
                have hZ : sZ (dC, dI) vCl 52 ad (fun q => N0 ≤ q) s.heap (va_up w 43 (.inr (3, [.int t, .ref (ad 44), .ref (ad 45), .ref (ad 46), .ref (ad 47), .int rm, .ref (ad 48), .ref (ad 49), .ref (ad 50), .int (nI 0)]))) H locs := hZ
                generalize va_up w 43 (.inr (3, [.int t, .ref (ad 44), .ref (ad 45), .ref (ad 46), .ref (ad 47), .int rm, .ref (ad 48), .ref (ad 49), .ref (ad 50), .int (nI 0)])) = w35 at hZ hM hfr
                refine lv_lload_n hx hb d_Mod_multiplied_76 rfl (lv_at hl 2 rfl) ?_
                refine lv_lload_n hx hb d_Mod_multiplied_77 rfl (lv_at hl 3 rfl) ?_
                refine lv_lmul hx hb d_Mod_multiplied_78 ?_
                exact q_lret hx hb hr hlocks hK hAm hZ hN (⟨hfr, rfl, _, hM, (by first | exact bZ_1 (fun a => h44 a.1) | exact bZ_1 (fun a => fM_bad1 (Or.inl ⟨h5, h13⟩) a.2) | exact bZ_1 (fun a => fM_bad1 (Or.inr ⟨h21, h29⟩) a.2) | exact bZ_0 ⟨h44, by rw [h55]; exact fM_0l _⟩ | exact bZ_0 ⟨h44, (mul_fits2 h55 (by rintro ⟨z1, z2⟩; first | exact h5 z1 | exact h13 z2) (by rintro ⟨z1, z2⟩; first | exact h21 z1 | exact h29 z2)).mp h65⟩ | exact bZ_1 (fun a => h65 ((mul_fits2 h55 (by rintro ⟨z1, z2⟩; first | exact h5 z1 | exact h13 z2) (by rintro ⟨z1, z2⟩; first | exact h21 z1 | exact h29 z2)).mpr a.2)))⟩) d_Mod_multiplied_79
              · skip
                rw [lg_cmp_eq] at h65
                refine lv_iconst (v := (nI 1)) hx hb d_Mod_multiplied_68 rfl ?_
                refine lv_goto (tgt := 73) hx hb d_Mod_multiplied_69 (by decide) ?_
                refine q_put (C := R_Mod) (T := T_Mod) (N := 10) (ty := .boolean) (v := .int (nI 1)) hx hb hts (fun w h => gm (inT_Mod w h)) ty_Mod tyo_Mod nm_Mod hown hK hZ (43) (by decide) hM.1 rfl 9 (by decide) (hts _ (gm k_429)) (fun _ h9 => h9) rfl (by decide +kernel) (rfl) (rfl) (Nat.le_of_ble_eq_true rfl) d_Mod_multiplied_73 (fun H locs hZ => ?_)
                have hM := hM.up43 t rm (nI 1)
                have hfr := fr_up (x := 43) (e := .inr (3, [.int t, .ref (ad 44), .ref (ad 45), .ref (ad 46), .ref (ad 47), .int rm, .ref (ad 48), .ref (ad 49), .ref (ad 50), .int (nI 1)])) hfr (by omega) (by omega)
                have hZ : sZ (dC, dI) vCl 52 ad (fun q => N0 ≤ q) s.heap (va_up w 43 (.inr (3, [.int t, .ref (ad 44), .ref (ad 45), .ref (ad 46), .ref (ad 47), .int rm, .ref (ad 48), .ref (ad 49), .ref (ad 50), .int (nI 1)]))) H locs := hZ
                generalize va_up w 43 (.inr (3, [.int t, .ref (ad 44), .ref (ad 45), .ref (ad 46), .ref (ad 47), .int rm, .ref (ad 48), .ref (ad 49), .ref (ad 50), .int (nI 1)])) = w36 at hZ hM hfr
                refine lv_lload_n hx hb d_Mod_multiplied_76 rfl (lv_at hl 2 rfl) ?_
                refine lv_lload_n hx hb d_Mod_multiplied_77 rfl (lv_at hl 3 rfl) ?_
                refine lv_lmul hx hb d_Mod_multiplied_78 ?_
                exact q_lret hx hb hr hlocks hK hAm hZ hN (⟨hfr, rfl, _, hM, (by first | exact bZ_1 (fun a => h44 a.1) | exact bZ_1 (fun a => fM_bad1 (Or.inl ⟨h5, h13⟩) a.2) | exact bZ_1 (fun a => fM_bad1 (Or.inr ⟨h21, h29⟩) a.2) | exact bZ_0 ⟨h44, by rw [h55]; exact fM_0l _⟩ | exact bZ_0 ⟨h44, (mul_fits2 h55 (by rintro ⟨z1, z2⟩; first | exact h5 z1 | exact h13 z2) (by rintro ⟨z1, z2⟩; first | exact h21 z1 | exact h29 z2)).mp h65⟩ | exact bZ_1 (fun a => h65 ((mul_fits2 h55 (by rintro ⟨z1, z2⟩; first | exact h5 z1 | exact h13 z2) (by rintro ⟨z1, z2⟩; first | exact h21 z1 | exact h29 z2)).mpr a.2)))⟩) d_Mod_multiplied_79
      · skip
        rw [lg_cmp_eq] at h21
        refine lv_lload_n hx hb d_Mod_multiplied_24 rfl (lv_at hl 1 rfl) ?_
        refine lv_ldc2 (v := (-1)) hx hb hown (hts _ (gm k_528)) d_Mod_multiplied_25 ?_
        refine W.lcmp hx hb d_Mod_multiplied_28 ?_
        refine lv_if_ne (tgt := 36) hx hb d_Mod_multiplied_29 (by decide) (fun h29 => ?_) (fun h29 => ?_)
        · skip
          rw [lg_cmp_eq] at h29
          refine lv_iconst (v := (nI 0)) hx hb d_Mod_multiplied_36 rfl ?_
          refine lv_istore (lv' := [(5, .int (nI 0)), (0, .ref (ad 43)), (1, .long x), (3, .long y)]) hx hb d_Mod_multiplied_37 hl (by decide) rfl (fun ls hl => ?_)
          refine lv_aload_n hx hb d_Mod_multiplied_39 rfl (lv_at hl 1 rfl) ?_
          refine lv_aload_n hx hb d_Mod_multiplied_40 rfl (lv_at hl 1 rfl) ?_
          refine q_get (C := R_Mod) (T := T_Mod) (N := 10) hx hb hts (fun w h => gm (inT_Mod w h)) hown hK hZ (43) (by decide) hM.1 rfl 9 (by decide) (hts _ (gm k_429)) (fun _ h9 => h9) rfl d_Mod_multiplied_41 ?_
          refine lv_if_ne (tgt := 68) hx hb d_Mod_multiplied_44 (by decide) (fun h44 => ?_) (fun h44 => ?_)
          · skip
            refine lv_iconst (v := (nI 1)) hx hb d_Mod_multiplied_68 rfl ?_
            refine lv_goto (tgt := 73) hx hb d_Mod_multiplied_69 (by decide) ?_
            refine q_put (C := R_Mod) (T := T_Mod) (N := 10) (ty := .boolean) (v := .int (nI 1)) hx hb hts (fun w h => gm (inT_Mod w h)) ty_Mod tyo_Mod nm_Mod hown hK hZ (43) (by decide) hM.1 rfl 9 (by decide) (hts _ (gm k_429)) (fun _ h9 => h9) rfl (by decide +kernel) (rfl) (rfl) (Nat.le_of_ble_eq_true rfl) d_Mod_multiplied_73 (fun H locs hZ => ?_)
            have hM := hM.up43 t rm (nI 1)
            have hfr := fr_up (x := 43) (e := .inr (3, [.int t, .ref (ad 44), .ref (ad 45), .ref (ad 46), .ref (ad 47), .int rm, .ref (ad 48), .ref (ad 49), .ref (ad 50), .int (nI 1)])) hfr (by omega) (by omega)
            have hZ : sZ (dC, dI) vCl 52 ad (fun q => N0 ≤ q) s.heap (va_up w 43 (.inr (3, [.int t, .ref (ad 44), .ref (ad 45), .ref (ad 46), .ref (ad 47), .int rm, .ref (ad 48), .ref (ad 49), .ref (ad 50), .int (nI 1)]))) H locs := hZ
            generalize va_up w 43 (.inr (3, [.int t, .ref (ad 44), .ref (ad 45), .ref (ad 46), .ref (ad 47), .int rm, .ref (ad 48), .ref (ad 49), .ref (ad 50), .int (nI 1)])) = w37 at hZ hM hfr
            refine lv_lload_n hx hb d_Mod_multiplied_76 rfl (lv_at hl 2 rfl) ?_
            refine lv_lload_n hx hb d_Mod_multiplied_77 rfl (lv_at hl 3 rfl) ?_
            refine lv_lmul hx hb d_Mod_multiplied_78 ?_
            exact q_lret hx hb hr hlocks hK hAm hZ hN (⟨hfr, rfl, _, hM, (by first | exact bZ_1 (fun a => h44 a.1) | exact bZ_1 (fun a => fM_bad1 (Or.inl ⟨h5, h13⟩) a.2) | exact bZ_1 (fun a => fM_bad1 (Or.inr ⟨h21, h29⟩) a.2) | exact bZ_0 ⟨h44, by rw [h55]; exact fM_0l _⟩ | exact bZ_0 ⟨h44, (mul_fits2 h55 (by rintro ⟨z1, z2⟩; first | exact h5 z1 | exact h13 z2) (by rintro ⟨z1, z2⟩; first | exact h21 z1 | exact h29 z2)).mp h65⟩ | exact bZ_1 (fun a => h65 ((mul_fits2 h55 (by rintro ⟨z1, z2⟩; first | exact h5 z1 | exact h13 z2) (by rintro ⟨z1, z2⟩; first | exact h21 z1 | exact h29 z2)).mpr a.2)))⟩) d_Mod_multiplied_79
          · skip
            refine lv_iload hx hb d_Mod_multiplied_47 (lv_at hl 0 rfl) ?_
            refine lv_if_ne (tgt := 68) hx hb d_Mod_multiplied_49 (by decide) (fun h49 => ?_) (fun h49 => ?_)
            · skip
              have h49 : ¬ 0 = 0 := fun z9 => h49 ((nI_eq (a := 0) (b := 0) (by omega) (by omega)).mpr z9)
              exact absurd h49 (by decide)
            · skip
              have h49 : 0 = 0 := (nI_eq (a := 0) (b := 0) (by omega) (by omega)).mp h49
              refine lv_lload_n hx hb d_Mod_multiplied_52 rfl (lv_at hl 2 rfl) ?_
              refine lv_lconst (v := 0) hx hb d_Mod_multiplied_53 rfl ?_
              refine W.lcmp hx hb d_Mod_multiplied_54 ?_
              refine lv_if_eq (tgt := 72) hx hb d_Mod_multiplied_55 (by decide) (fun h55 => ?_) (fun h55 => ?_)
              · skip
                rw [lg_cmp_eq] at h55
                refine lv_iconst (v := (nI 0)) hx hb d_Mod_multiplied_72 rfl ?_
                refine q_put (C := R_Mod) (T := T_Mod) (N := 10) (ty := .boolean) (v := .int (nI 0)) hx hb hts (fun w h => gm (inT_Mod w h)) ty_Mod tyo_Mod nm_Mod hown hK hZ (43) (by decide) hM.1 rfl 9 (by decide) (hts _ (gm k_429)) (fun _ h9 => h9) rfl (by decide +kernel) (rfl) (rfl) (Nat.le_of_ble_eq_true rfl) d_Mod_multiplied_73 (fun H locs hZ => ?_)
                have hM := hM.up43 t rm (nI 0)
                have hfr := fr_up (x := 43) (e := .inr (3, [.int t, .ref (ad 44), .ref (ad 45), .ref (ad 46), .ref (ad 47), .int rm, .ref (ad 48), .ref (ad 49), .ref (ad 50), .int (nI 0)])) hfr (by omega) (by omega)
                have hZ : sZ (dC, dI) vCl 52 ad (fun q => N0 ≤ q) s.heap (va_up w 43 (.inr (3, [.int t, .ref (ad 44), .ref (ad 45), .ref (ad 46), .ref (ad 47), .int rm, .ref (ad 48), .ref (ad 49), .ref (ad 50), .int (nI 0)]))) H locs := hZ
                generalize va_up w 43 (.inr (3, [.int t, .ref (ad 44), .ref (ad 45), .ref (ad 46), .ref (ad 47), .int rm, .ref (ad 48), .ref (ad 49), .ref (ad 50), .int (nI 0)])) = w38 at hZ hM hfr
                refine lv_lload_n hx hb d_Mod_multiplied_76 rfl (lv_at hl 2 rfl) ?_
                refine lv_lload_n hx hb d_Mod_multiplied_77 rfl (lv_at hl 3 rfl) ?_
                refine lv_lmul hx hb d_Mod_multiplied_78 ?_
                exact q_lret hx hb hr hlocks hK hAm hZ hN (⟨hfr, rfl, _, hM, (by first | exact bZ_1 (fun a => h44 a.1) | exact bZ_1 (fun a => fM_bad1 (Or.inl ⟨h5, h13⟩) a.2) | exact bZ_1 (fun a => fM_bad1 (Or.inr ⟨h21, h29⟩) a.2) | exact bZ_0 ⟨h44, by rw [h55]; exact fM_0l _⟩ | exact bZ_0 ⟨h44, (mul_fits2 h55 (by rintro ⟨z1, z2⟩; first | exact h5 z1 | exact h13 z2) (by rintro ⟨z1, z2⟩; first | exact h21 z1 | exact h29 z2)).mp h65⟩ | exact bZ_1 (fun a => h65 ((mul_fits2 h55 (by rintro ⟨z1, z2⟩; first | exact h5 z1 | exact h13 z2) (by rintro ⟨z1, z2⟩; first | exact h21 z1 | exact h29 z2)).mpr a.2)))⟩) d_Mod_multiplied_79
              · skip
                rw [lg_cmp_eq] at h55
                refine lv_lload_n hx hb d_Mod_multiplied_58 rfl (lv_at hl 2 rfl) ?_
                refine lv_lload_n hx hb d_Mod_multiplied_59 rfl (lv_at hl 3 rfl) ?_
                refine lv_lmul hx hb d_Mod_multiplied_60 ?_
                refine lv_lload_n hx hb d_Mod_multiplied_61 rfl (lv_at hl 2 rfl) ?_
                refine lv_ldiv hx hb d_Mod_multiplied_62 (h55) ?_
                refine lv_lload_n hx hb d_Mod_multiplied_63 rfl (lv_at hl 3 rfl) ?_
                refine W.lcmp hx hb d_Mod_multiplied_64 ?_
                refine lv_if_eq (tgt := 72) hx hb d_Mod_multiplied_65 (by decide) (fun h65 => ?_) (fun h65 => ?_)
                · skip
                  rw [lg_cmp_eq] at h65
                  refine lv_iconst (v := (nI 0)) hx hb d_Mod_multiplied_72 rfl ?_
                  refine q_put (C := R_Mod) (T := T_Mod) (N := 10) (ty := .boolean) (v := .int (nI 0)) hx hb hts (fun w h => gm (inT_Mod w h)) ty_Mod tyo_Mod nm_Mod hown hK hZ (43) (by decide) hM.1 rfl 9 (by decide) (hts _ (gm k_429)) (fun _ h9 => h9) rfl (by decide +kernel) (rfl) (rfl) (Nat.le_of_ble_eq_true rfl) d_Mod_multiplied_73 (fun H locs hZ => ?_)
                  have hM := hM.up43 t rm (nI 0)
                  have hfr := fr_up (x := 43) (e := .inr (3, [.int t, .ref (ad 44), .ref (ad 45), .ref (ad 46), .ref (ad 47), .int rm, .ref (ad 48), .ref (ad 49), .ref (ad 50), .int (nI 0)])) hfr (by omega) (by omega)
                  have hZ : sZ (dC, dI) vCl 52 ad (fun q => N0 ≤ q) s.heap (va_up w 43 (.inr (3, [.int t, .ref (ad 44), .ref (ad 45), .ref (ad 46), .ref (ad 47), .int rm, .ref (ad 48), .ref (ad 49), .ref (ad 50), .int (nI 0)]))) H locs := hZ
                  generalize va_up w 43 (.inr (3, [.int t, .ref (ad 44), .ref (ad 45), .ref (ad 46), .ref (ad 47), .int rm, .ref (ad 48), .ref (ad 49), .ref (ad 50), .int (nI 0)])) = w39 at hZ hM hfr
                  refine lv_lload_n hx hb d_Mod_multiplied_76 rfl (lv_at hl 2 rfl) ?_
                  refine lv_lload_n hx hb d_Mod_multiplied_77 rfl (lv_at hl 3 rfl) ?_
                  refine lv_lmul hx hb d_Mod_multiplied_78 ?_
                  exact q_lret hx hb hr hlocks hK hAm hZ hN (⟨hfr, rfl, _, hM, (by first | exact bZ_1 (fun a => h44 a.1) | exact bZ_1 (fun a => fM_bad1 (Or.inl ⟨h5, h13⟩) a.2) | exact bZ_1 (fun a => fM_bad1 (Or.inr ⟨h21, h29⟩) a.2) | exact bZ_0 ⟨h44, by rw [h55]; exact fM_0l _⟩ | exact bZ_0 ⟨h44, (mul_fits2 h55 (by rintro ⟨z1, z2⟩; first | exact h5 z1 | exact h13 z2) (by rintro ⟨z1, z2⟩; first | exact h21 z1 | exact h29 z2)).mp h65⟩ | exact bZ_1 (fun a => h65 ((mul_fits2 h55 (by rintro ⟨z1, z2⟩; first | exact h5 z1 | exact h13 z2) (by rintro ⟨z1, z2⟩; first | exact h21 z1 | exact h29 z2)).mpr a.2)))⟩) d_Mod_multiplied_79
                · skip
                  rw [lg_cmp_eq] at h65
                  refine lv_iconst (v := (nI 1)) hx hb d_Mod_multiplied_68 rfl ?_
                  refine lv_goto (tgt := 73) hx hb d_Mod_multiplied_69 (by decide) ?_
                  refine q_put (C := R_Mod) (T := T_Mod) (N := 10) (ty := .boolean) (v := .int (nI 1)) hx hb hts (fun w h => gm (inT_Mod w h)) ty_Mod tyo_Mod nm_Mod hown hK hZ (43) (by decide) hM.1 rfl 9 (by decide) (hts _ (gm k_429)) (fun _ h9 => h9) rfl (by decide +kernel) (rfl) (rfl) (Nat.le_of_ble_eq_true rfl) d_Mod_multiplied_73 (fun H locs hZ => ?_)
                  have hM := hM.up43 t rm (nI 1)
                  have hfr := fr_up (x := 43) (e := .inr (3, [.int t, .ref (ad 44), .ref (ad 45), .ref (ad 46), .ref (ad 47), .int rm, .ref (ad 48), .ref (ad 49), .ref (ad 50), .int (nI 1)])) hfr (by omega) (by omega)
                  have hZ : sZ (dC, dI) vCl 52 ad (fun q => N0 ≤ q) s.heap (va_up w 43 (.inr (3, [.int t, .ref (ad 44), .ref (ad 45), .ref (ad 46), .ref (ad 47), .int rm, .ref (ad 48), .ref (ad 49), .ref (ad 50), .int (nI 1)]))) H locs := hZ
                  generalize va_up w 43 (.inr (3, [.int t, .ref (ad 44), .ref (ad 45), .ref (ad 46), .ref (ad 47), .int rm, .ref (ad 48), .ref (ad 49), .ref (ad 50), .int (nI 1)])) = w40 at hZ hM hfr
                  refine lv_lload_n hx hb d_Mod_multiplied_76 rfl (lv_at hl 2 rfl) ?_
                  refine lv_lload_n hx hb d_Mod_multiplied_77 rfl (lv_at hl 3 rfl) ?_
                  refine lv_lmul hx hb d_Mod_multiplied_78 ?_
                  exact q_lret hx hb hr hlocks hK hAm hZ hN (⟨hfr, rfl, _, hM, (by first | exact bZ_1 (fun a => h44 a.1) | exact bZ_1 (fun a => fM_bad1 (Or.inl ⟨h5, h13⟩) a.2) | exact bZ_1 (fun a => fM_bad1 (Or.inr ⟨h21, h29⟩) a.2) | exact bZ_0 ⟨h44, by rw [h55]; exact fM_0l _⟩ | exact bZ_0 ⟨h44, (mul_fits2 h55 (by rintro ⟨z1, z2⟩; first | exact h5 z1 | exact h13 z2) (by rintro ⟨z1, z2⟩; first | exact h21 z1 | exact h29 z2)).mp h65⟩ | exact bZ_1 (fun a => h65 ((mul_fits2 h55 (by rintro ⟨z1, z2⟩; first | exact h5 z1 | exact h13 z2) (by rintro ⟨z1, z2⟩; first | exact h21 z1 | exact h29 z2)).mpr a.2)))⟩) d_Mod_multiplied_79
        · skip
          rw [lg_cmp_eq] at h29
          refine lv_iconst (v := (nI 1)) hx hb d_Mod_multiplied_32 rfl ?_
          refine lv_goto (tgt := 37) hx hb d_Mod_multiplied_33 (by decide) ?_
          refine lv_istore (lv' := [(5, .int (nI 1)), (0, .ref (ad 43)), (1, .long x), (3, .long y)]) hx hb d_Mod_multiplied_37 hl (by decide) rfl (fun ls hl => ?_)
          refine lv_aload_n hx hb d_Mod_multiplied_39 rfl (lv_at hl 1 rfl) ?_
          refine lv_aload_n hx hb d_Mod_multiplied_40 rfl (lv_at hl 1 rfl) ?_
          refine q_get (C := R_Mod) (T := T_Mod) (N := 10) hx hb hts (fun w h => gm (inT_Mod w h)) hown hK hZ (43) (by decide) hM.1 rfl 9 (by decide) (hts _ (gm k_429)) (fun _ h9 => h9) rfl d_Mod_multiplied_41 ?_
          refine lv_if_ne (tgt := 68) hx hb d_Mod_multiplied_44 (by decide) (fun h44 => ?_) (fun h44 => ?_)
          · skip
            refine lv_iconst (v := (nI 1)) hx hb d_Mod_multiplied_68 rfl ?_
            refine lv_goto (tgt := 73) hx hb d_Mod_multiplied_69 (by decide) ?_
            refine q_put (C := R_Mod) (T := T_Mod) (N := 10) (ty := .boolean) (v := .int (nI 1)) hx hb hts (fun w h => gm (inT_Mod w h)) ty_Mod tyo_Mod nm_Mod hown hK hZ (43) (by decide) hM.1 rfl 9 (by decide) (hts _ (gm k_429)) (fun _ h9 => h9) rfl (by decide +kernel) (rfl) (rfl) (Nat.le_of_ble_eq_true rfl) d_Mod_multiplied_73 (fun H locs hZ => ?_)
            have hM := hM.up43 t rm (nI 1)
            have hfr := fr_up (x := 43) (e := .inr (3, [.int t, .ref (ad 44), .ref (ad 45), .ref (ad 46), .ref (ad 47), .int rm, .ref (ad 48), .ref (ad 49), .ref (ad 50), .int (nI 1)])) hfr (by omega) (by omega)
            have hZ : sZ (dC, dI) vCl 52 ad (fun q => N0 ≤ q) s.heap (va_up w 43 (.inr (3, [.int t, .ref (ad 44), .ref (ad 45), .ref (ad 46), .ref (ad 47), .int rm, .ref (ad 48), .ref (ad 49), .ref (ad 50), .int (nI 1)]))) H locs := hZ
            generalize va_up w 43 (.inr (3, [.int t, .ref (ad 44), .ref (ad 45), .ref (ad 46), .ref (ad 47), .int rm, .ref (ad 48), .ref (ad 49), .ref (ad 50), .int (nI 1)])) = w41 at hZ hM hfr
            refine lv_lload_n hx hb d_Mod_multiplied_76 rfl (lv_at hl 2 rfl) ?_
            refine lv_lload_n hx hb d_Mod_multiplied_77 rfl (lv_at hl 3 rfl) ?_
            refine lv_lmul hx hb d_Mod_multiplied_78 ?_
            exact q_lret hx hb hr hlocks hK hAm hZ hN (⟨hfr, rfl, _, hM, (by first | exact bZ_1 (fun a => h44 a.1) | exact bZ_1 (fun a => fM_bad1 (Or.inl ⟨h5, h13⟩) a.2) | exact bZ_1 (fun a => fM_bad1 (Or.inr ⟨h21, h29⟩) a.2) | exact bZ_0 ⟨h44, by rw [h55]; exact fM_0l _⟩ | exact bZ_0 ⟨h44, (mul_fits2 h55 (by rintro ⟨z1, z2⟩; first | exact h5 z1 | exact h13 z2) (by rintro ⟨z1, z2⟩; first | exact h21 z1 | exact h29 z2)).mp h65⟩ | exact bZ_1 (fun a => h65 ((mul_fits2 h55 (by rintro ⟨z1, z2⟩; first | exact h5 z1 | exact h13 z2) (by rintro ⟨z1, z2⟩; first | exact h21 z1 | exact h29 z2)).mpr a.2)))⟩) d_Mod_multiplied_79
          · skip
            refine lv_iload hx hb d_Mod_multiplied_47 (lv_at hl 0 rfl) ?_
            refine lv_if_ne (tgt := 68) hx hb d_Mod_multiplied_49 (by decide) (fun h49 => ?_) (fun h49 => ?_)
            · skip
              have h49 : ¬ 1 = 0 := fun z9 => h49 ((nI_eq (a := 1) (b := 0) (by omega) (by omega)).mpr z9)
              refine lv_iconst (v := (nI 1)) hx hb d_Mod_multiplied_68 rfl ?_
              refine lv_goto (tgt := 73) hx hb d_Mod_multiplied_69 (by decide) ?_
              refine q_put (C := R_Mod) (T := T_Mod) (N := 10) (ty := .boolean) (v := .int (nI 1)) hx hb hts (fun w h => gm (inT_Mod w h)) ty_Mod tyo_Mod nm_Mod hown hK hZ (43) (by decide) hM.1 rfl 9 (by decide) (hts _ (gm k_429)) (fun _ h9 => h9) rfl (by decide +kernel) (rfl) (rfl) (Nat.le_of_ble_eq_true rfl) d_Mod_multiplied_73 (fun H locs hZ => ?_)
              have hM := hM.up43 t rm (nI 1)
              have hfr := fr_up (x := 43) (e := .inr (3, [.int t, .ref (ad 44), .ref (ad 45), .ref (ad 46), .ref (ad 47), .int rm, .ref (ad 48), .ref (ad 49), .ref (ad 50), .int (nI 1)])) hfr (by omega) (by omega)
              have hZ : sZ (dC, dI) vCl 52 ad (fun q => N0 ≤ q) s.heap (va_up w 43 (.inr (3, [.int t, .ref (ad 44), .ref (ad 45), .ref (ad 46), .ref (ad 47), .int rm, .ref (ad 48), .ref (ad 49), .ref (ad 50), .int (nI 1)]))) H locs := hZ
              generalize va_up w 43 (.inr (3, [.int t, .ref (ad 44), .ref (ad 45), .ref (ad 46), .ref (ad 47), .int rm, .ref (ad 48), .ref (ad 49), .ref (ad 50), .int (nI 1)])) = w42 at hZ hM hfr
              refine lv_lload_n hx hb d_Mod_multiplied_76 rfl (lv_at hl 2 rfl) ?_
              refine lv_lload_n hx hb d_Mod_multiplied_77 rfl (lv_at hl 3 rfl) ?_
              refine lv_lmul hx hb d_Mod_multiplied_78 ?_
              exact q_lret hx hb hr hlocks hK hAm hZ hN (⟨hfr, rfl, _, hM, (by first | exact bZ_1 (fun a => h44 a.1) | exact bZ_1 (fun a => fM_bad1 (Or.inl ⟨h5, h13⟩) a.2) | exact bZ_1 (fun a => fM_bad1 (Or.inr ⟨h21, h29⟩) a.2) | exact bZ_0 ⟨h44, by rw [h55]; exact fM_0l _⟩ | exact bZ_0 ⟨h44, (mul_fits2 h55 (by rintro ⟨z1, z2⟩; first | exact h5 z1 | exact h13 z2) (by rintro ⟨z1, z2⟩; first | exact h21 z1 | exact h29 z2)).mp h65⟩ | exact bZ_1 (fun a => h65 ((mul_fits2 h55 (by rintro ⟨z1, z2⟩; first | exact h5 z1 | exact h13 z2) (by rintro ⟨z1, z2⟩; first | exact h21 z1 | exact h29 z2)).mpr a.2)))⟩) d_Mod_multiplied_79
            · skip
              have h49 : 1 = 0 := (nI_eq (a := 1) (b := 0) (by omega) (by omega)).mp h49
              exact absurd h49 (by decide)
set_option maxHeartbeats 4000000 in
set_option maxRecDepth 100000 in
theorem c_Mod_wrong (l : Launch) (dC : Nat → ClassId) (dI : Nat → Nat → Nat) (cI cL cB : ClassId) (ad : Nat → Nat) (N0 : Nat) (w : Nat → va_E) (t : Int32) (mn P : Nat → Int32) (N A : Nat → Int64) (rm : Int32) (rP : Nat → Int32) (rN rA : Nat → Int64) (bd : Int32) (a b c2 q : Int32) (hM : isMod ad cI cL w t mn P N A rm rP rN rA bd) : Met l y_Mod_wrong ws_Mod_wrong ({ frames := 1, cells := 0, slots := 0, locals := 20 } : Room) (va_Pc [.ref (ad 43), .int a, .int b, .int c2, .int q] (sPr (dC, dI) vCl [(cI, .int), (cL, .long), (cB, .object "CoinBag$Bag")] 52 ad N0 w)) (va_Qi (fun r u => u = w ∧ ((¬ (okB a ∧ okB b ∧ okB c2) ∧ r = 1) ∨ ((okB a ∧ okB b ∧ okB c2) ∧ ¬ okP q ∧ r = 2) ∨ ((okB a ∧ okB b ∧ okB c2) ∧ okP q ∧ r = 0))) (sPr (dC, dI) vCl [(cI, .int), (cL, .long), (cB, .object "CoinBag$Bag")] 52 ad N0) (fun q => N0 ≤ q)) 0 0 (fun q => N0 ≤ q) := by
  refine Met.ofW (cc := b_Mod_wrong) (maxL := 5) (ret := (some .int)) (by decide) rfl ?_
  intro p e s m args below meth c s₁ B hml hv
  obtain ⟨rfl, hP, hK, hD, hN, hAm⟩ := hv
  have hx := B.exec
  have hb := B.bytes
  have hr := B.returns
  have hts := atoms_spec (ws := ws_Mod_wrong) B.pre
  have hown : s.vm.findClass "CoinBagModel" = some m.cls := findClass_of_methodNamed B.named
  have hlocks := B.notSynchronized
  have hZ : sZ (dC, dI) vCl 52 ad (fun q => N0 ≤ q) s.heap w s.heap [] := ⟨hP, hD, va_S.rf⟩
  have hl := lv_entry ([.ref (ad 43), .int a, .int b, .int c2, .int q]) (n := 5) (Nat.le_of_ble_eq_true rfl)
  rw [lg_entry_eq]
  generalize (lg_sl ([.ref (ad 43), .int a, .int b, .int c2, .int q]) ++ List.replicate (5 - (lg_sl ([.ref (ad 43), .int a, .int b, .int c2, .int q])).length) Slot.unset).toArray = ls at hl ⊢
  have hl : lv_has ls 5 [(0, .ref (ad 43)), (1, .int a), (2, .int b), (3, .int c2), (4, .int q)] := hl
  refine lv_iload_n hx hb d_Mod_wrong_0 rfl (lv_at hl 1 rfl) ?_
  refine q_callSi (va_runS (As := [.int a]) (rest := []) ⟨hx, hb, hml, hown, hts⟩ (c_Mod_isBag l a) (va_cwS 1 hts (gI_S k_465 k_463 k_464 k_24) rfl rfl rfl (by decide +kernel) ⟨Nat.le_of_ble_eq_true rfl, Nat.le_of_ble_eq_true rfl⟩) ⟨fun _ _ _ _ q => q, fun _ _ _ => ⟨rfl, trivial⟩⟩ rfl rfl hl.1 rfl (lv_room (Nat.le_of_ble_eq_true rfl)) d_Mod_wrong_1 ⟨Nat.zero_le _, Nat.zero_le _⟩) (fun r1 h_r1 => ?_)
  refine lv_if_eq (tgt := 21) hx hb d_Mod_wrong_4 (by decide) (fun h4 => ?_) (fun h4 => ?_)
  · skip
    have o_a : ¬ okB a := bF h_r1 h4
    refine lv_iconst (v := (nI 1)) hx hb d_Mod_wrong_21 rfl ?_
    refine lv_goto (tgt := 38) hx hb d_Mod_wrong_22 (by decide) ?_
    exact q_iret hx hb hr hlocks hK hAm hZ hN (⟨rfl, (by first | exact Or.inl ⟨fun y => o_a y.1, rfl⟩ | exact Or.inl ⟨fun y => o_b y.2.1, rfl⟩ | exact Or.inl ⟨fun y => o_c2 y.2.2, rfl⟩ | exact Or.inr (Or.inl ⟨⟨o_a, o_b, o_c2⟩, o_q, rfl⟩) | exact Or.inr (Or.inr ⟨⟨o_a, o_b, o_c2⟩, o_q, rfl⟩))⟩) d_Mod_wrong_38
  · skip
    have o_a : okB a := bT h_r1 h4
    refine lv_iload_n hx hb d_Mod_wrong_7 rfl (lv_at hl 2 rfl) ?_
    refine q_callSi (va_runS (As := [.int b]) (rest := []) ⟨hx, hb, hml, hown, hts⟩ (c_Mod_isBag l b) (va_cwS 1 hts (gI_S k_465 k_463 k_464 k_24) rfl rfl rfl (by decide +kernel) ⟨Nat.le_of_ble_eq_true rfl, Nat.le_of_ble_eq_true rfl⟩) ⟨fun _ _ _ _ q => q, fun _ _ _ => ⟨rfl, trivial⟩⟩ rfl rfl hl.1 rfl (lv_room (Nat.le_of_ble_eq_true rfl)) d_Mod_wrong_8 ⟨Nat.zero_le _, Nat.zero_le _⟩) (fun r2 h_r2 => ?_)
    refine lv_if_eq (tgt := 21) hx hb d_Mod_wrong_11 (by decide) (fun h11 => ?_) (fun h11 => ?_)
    · skip
      have o_b : ¬ okB b := bF h_r2 h11
      refine lv_iconst (v := (nI 1)) hx hb d_Mod_wrong_21 rfl ?_
      refine lv_goto (tgt := 38) hx hb d_Mod_wrong_22 (by decide) ?_
      exact q_iret hx hb hr hlocks hK hAm hZ hN (⟨rfl, (by first | exact Or.inl ⟨fun y => o_a y.1, rfl⟩ | exact Or.inl ⟨fun y => o_b y.2.1, rfl⟩ | exact Or.inl ⟨fun y => o_c2 y.2.2, rfl⟩ | exact Or.inr (Or.inl ⟨⟨o_a, o_b, o_c2⟩, o_q, rfl⟩) | exact Or.inr (Or.inr ⟨⟨o_a, o_b, o_c2⟩, o_q, rfl⟩))⟩) d_Mod_wrong_38
    · skip
      have o_b : okB b := bT h_r2 h11
      refine lv_iload_n hx hb d_Mod_wrong_14 rfl (lv_at hl 3 rfl) ?_
      refine q_callSi (va_runS (As := [.int c2]) (rest := []) ⟨hx, hb, hml, hown, hts⟩ (c_Mod_isBag l c2) (va_cwS 1 hts (gI_S k_465 k_463 k_464 k_24) rfl rfl rfl (by decide +kernel) ⟨Nat.le_of_ble_eq_true rfl, Nat.le_of_ble_eq_true rfl⟩) ⟨fun _ _ _ _ q => q, fun _ _ _ => ⟨rfl, trivial⟩⟩ rfl rfl hl.1 rfl (lv_room (Nat.le_of_ble_eq_true rfl)) d_Mod_wrong_15 ⟨Nat.zero_le _, Nat.zero_le _⟩) (fun r3 h_r3 => ?_)
      refine lv_if_ne (tgt := 25) hx hb d_Mod_wrong_18 (by decide) (fun h18 => ?_) (fun h18 => ?_)
      · skip
        have o_c2 : okB c2 := bT h_r3 h18
        refine lv_iload hx hb d_Mod_wrong_25 (lv_at hl 4 rfl) ?_
        refine q_callSi (va_runS (As := [.int q]) (rest := []) ⟨hx, hb, hml, hown, hts⟩ (c_Mod_isPolicy l q) (va_cwS 1 hts (gI_S k_468 k_466 k_467 k_24) rfl rfl rfl (by decide +kernel) ⟨Nat.le_of_ble_eq_true rfl, Nat.le_of_ble_eq_true rfl⟩) ⟨fun _ _ _ _ q => q, fun _ _ _ => ⟨rfl, trivial⟩⟩ rfl rfl hl.1 rfl (lv_room (Nat.le_of_ble_eq_true rfl)) d_Mod_wrong_27 ⟨Nat.zero_le _, Nat.zero_le _⟩) (fun r4 h_r4 => ?_)
        refine lv_if_ne (tgt := 37) hx hb d_Mod_wrong_30 (by decide) (fun h30 => ?_) (fun h30 => ?_)
        · skip
          have o_q : okP q := bT h_r4 h30
          refine lv_iconst (v := (nI 0)) hx hb d_Mod_wrong_37 rfl ?_
          exact q_iret hx hb hr hlocks hK hAm hZ hN (⟨rfl, (by first | exact Or.inl ⟨fun y => o_a y.1, rfl⟩ | exact Or.inl ⟨fun y => o_b y.2.1, rfl⟩ | exact Or.inl ⟨fun y => o_c2 y.2.2, rfl⟩ | exact Or.inr (Or.inl ⟨⟨o_a, o_b, o_c2⟩, o_q, rfl⟩) | exact Or.inr (Or.inr ⟨⟨o_a, o_b, o_c2⟩, o_q, rfl⟩))⟩) d_Mod_wrong_38
        · skip
          have o_q : ¬ okP q := bF h_r4 h30
          refine lv_iconst (v := (nI 2)) hx hb d_Mod_wrong_33 rfl ?_
          refine lv_goto (tgt := 38) hx hb d_Mod_wrong_34 (by decide) ?_
          exact q_iret hx hb hr hlocks hK hAm hZ hN (⟨rfl, (by first | exact Or.inl ⟨fun y => o_a y.1, rfl⟩ | exact Or.inl ⟨fun y => o_b y.2.1, rfl⟩ | exact Or.inl ⟨fun y => o_c2 y.2.2, rfl⟩ | exact Or.inr (Or.inl ⟨⟨o_a, o_b, o_c2⟩, o_q, rfl⟩) | exact Or.inr (Or.inr ⟨⟨o_a, o_b, o_c2⟩, o_q, rfl⟩))⟩) d_Mod_wrong_38
      · skip
        have o_c2 : ¬ okB c2 := bF h_r3 h18
        refine lv_iconst (v := (nI 1)) hx hb d_Mod_wrong_21 rfl ?_
        refine lv_goto (tgt := 38) hx hb d_Mod_wrong_22 (by decide) ?_
        exact q_iret hx hb hr hlocks hK hAm hZ hN (⟨rfl, (by first | exact Or.inl ⟨fun y => o_a y.1, rfl⟩ | exact Or.inl ⟨fun y => o_b y.2.1, rfl⟩ | exact Or.inl ⟨fun y => o_c2 y.2.2, rfl⟩ | exact Or.inr (Or.inl ⟨⟨o_a, o_b, o_c2⟩, o_q, rfl⟩) | exact Or.inr (Or.inr ⟨⟨o_a, o_b, o_c2⟩, o_q, rfl⟩))⟩) d_Mod_wrong_38
set_option maxHeartbeats 4000000 in
set_option maxRecDepth 100000 in
theorem c_Mod_store (l : Launch) (dC : Nat → ClassId) (dI : Nat → Nat → Nat) (cI cL cB : ClassId) (ad : Nat → Nat) (N0 : Nat) (w : Nat → va_E) (t : Int32) (mn P : Nat → Int32) (N A : Nat → Int64) (rm : Int32) (rP : Nat → Int32) (rN rA : Nat → Int64) (bd : Int32) (j : Nat) (F : Nat → Int → Int64) (q : Int32) (x v : Int64) (hM : isMod ad cI cL w t mn P N A rm rP rN rA bd) (hj : j < 8) (hB : mBag mn P N A F) : Met l y_Mod_store ws_Mod_store ({ frames := 1, cells := 0, slots := 0, locals := 25 } : Room) (va_Pc [.ref (ad 43), .int (nI j), .int q, .long x, .long v] (sPr (dC, dI) vCl [(cI, .int), (cL, .long), (cB, .object "CoinBag$Bag")] 52 ad N0 w)) (va_Qi (fun r u => fr w u 43 50 ∧ ((eC (fUp (F j) (kv q x) v) ∧ r = 1 ∧ sM ad cI cL u t (va_up F j (fUp (F j) (kv q x) v))) ∨ (¬ eC (fUp (F j) (kv q x) v) ∧ r = 0 ∧ sM ad cI cL u t F))) (sPr (dC, dI) vCl [(cI, .int), (cL, .long), (cB, .object "CoinBag$Bag")] 52 ad N0) (fun q => N0 ≤ q)) 0 0 (fun q => N0 ≤ q) := by
  refine Met.ofW (cc := b_Mod_store) (maxL := 10) (ret := (some .boolean)) (by decide) rfl ?_
  intro p e s m args below meth c s₁ B hml hv
  obtain ⟨rfl, hP, hK, hD, hN, hAm⟩ := hv
  have hx := B.exec
  have hb := B.bytes
  have hr := B.returns
  have hts := atoms_spec (ws := ws_Mod_store) B.pre
  have hown : s.vm.findClass "CoinBagModel" = some m.cls := findClass_of_methodNamed B.named
  have hlocks := B.notSynchronized
  have hZ : sZ (dC, dI) vCl 52 ad (fun q => N0 ≤ q) s.heap w s.heap [] := ⟨hP, hD, va_S.rf⟩
  have hl := lv_entry ([.ref (ad 43), .int (nI j), .int q, .long x, .long v]) (n := 10) (Nat.le_of_ble_eq_true rfl)
  rw [lg_entry_eq]
  generalize (lg_sl ([.ref (ad 43), .int (nI j), .int q, .long x, .long v]) ++ List.replicate (10 - (lg_sl ([.ref (ad 43), .int (nI j), .int q, .long x, .long v])).length) Slot.unset).toArray = ls at hl ⊢
  have hl : lv_has ls 10 [(0, .ref (ad 43)), (1, .int (nI j)), (2, .int q), (3, .long x), (5, .long v)] := hl
  obtain ⟨z, hz, hmn, hR⟩ := mB_at hB hj
  have hfr : fr w w 43 50 := fr_rf
  refine lv_aload_n hx hb d_Mod_store_0 rfl (lv_at hl 0 rfl) ?_
  refine lv_iload_n hx hb d_Mod_store_1 rfl (lv_at hl 1 rfl) ?_
  refine lv_iload_n hx hb d_Mod_store_2 rfl (lv_at hl 2 rfl) ?_
  refine lv_lload_n hx hb d_Mod_store_3 rfl (lv_at hl 3 rfl) ?_
  refine q_calli (va_runV (As := [.int (nI j), .int q, .long x]) (rest := []) ⟨hx, hb, hml, hown, hts⟩ (c_Mod_find l dC dI cI cL cB ad N0 w t mn P N A rm rP rN rA bd j z q x hM hj hz hmn) (cwV 3 hts (gI_V k_477 k_474 k_476 k_9 k_24) rfl rfl rfl (by decide +kernel) ⟨Nat.le_of_ble_eq_true rfl, Nat.le_of_ble_eq_true rfl⟩) (q_preV hK hAm hZ hN [.int (nI j), .int q, .long x] (43) 3 (by decide) hM.1 rfl) rfl rfl hl.1 rfl (lv_room (Nat.le_of_ble_eq_true rfl)) d_Mod_store_4 ⟨Nat.zero_le _, Nat.zero_le _⟩) hZ (fun r u_r H locs h_r hZ => ?_)
  obtain ⟨e_r, h_r⟩ := h_r
  rw [e_r] at hZ
  rcases h_r with ⟨k, hk, e_k, ek⟩ | ⟨hno, e_k⟩
  · skip
    subst e_k
    have hy := mB_yes hR hk ek
    refine lv_istore (lv' := [(7, .int (nI k)), (0, .ref (ad 43)), (1, .int (nI j)), (2, .int q), (3, .long x), (5, .long v)]) hx hb d_Mod_store_7 hl (by decide) rfl (fun ls hl => ?_)
    refine lv_iload hx hb d_Mod_store_9 (lv_at hl 0 rfl) ?_
    refine lv_if_ge (tgt := 23) hx hb d_Mod_store_11 (by decide) (fun h11 => ?_) (fun h11 => ?_)
    · skip
      have h11 : 0 ≤ k := (nI_leI (a := 0) (b := k) (by omega) (by omega)).mp h11
      refine lv_iload hx hb d_Mod_store_23 (lv_at hl 0 rfl) ?_
      refine lv_if_ge (tgt := 59) hx hb d_Mod_store_25 (by decide) (fun h25 => ?_) (fun h25 => ?_)
      · skip
        have h25 : 0 ≤ k := (nI_leI (a := 0) (b := k) (by omega) (by omega)).mp h25
        refine lv_bipush (v := (nI 64)) hx hb d_Mod_store_59 rfl ?_
        refine lv_iload_n hx hb d_Mod_store_61 rfl (lv_at hl 2 rfl) ?_
        refine lv_imul hx hb d_Mod_store_62 ?_
        refine q_topi (y := nI (64 * j)) (pk_mul _ _) ?_
        refine lv_iload hx hb d_Mod_store_63 (lv_at hl 0 rfl) ?_
        refine lv_iadd hx hb d_Mod_store_65 ?_
        refine q_topi (y := nI ((64 * j) + k)) (nI_add _ _) ?_
        refine lv_istore (lv' := [(8, .int (nI ((64 * j) + k))), (7, .int (nI k)), (0, .ref (ad 43)), (1, .int (nI j)), (2, .int q), (3, .long x), (5, .long v)]) hx hb d_Mod_store_66 hl (by decide) rfl (fun ls hl => ?_)
        refine lv_aload_n hx hb d_Mod_store_68 rfl (lv_at hl 2 rfl) ?_
        refine q_get (C := R_Mod) (T := T_Mod) (N := 10) hx hb hts (fun w h => gm (inT_Mod w h)) hown hK hZ (43) (by decide) hM.1 rfl 2 (by decide) (hts _ (gm k_422)) (fun _ h9 => h9) rfl d_Mod_store_69 ?_
        refine lv_iload hx hb d_Mod_store_72 (lv_at hl 0 rfl) ?_
        refine lv_iload_n hx hb d_Mod_store_74 rfl (lv_at hl 4 rfl) ?_
        refine q_iast hx hb hK hZ (45) 0 (((64 * j) + k)) (by decide) hM.2.2.1 rfl rfl (by omega) (by decide) d_Mod_store_75 (fun H locs hZ => ?_)
        have hM := hM.up45 (upd P ((64 * j) + k) q)
        have hfr := fr_up (x := 45) (e := .inl (cI, 512, .inl (upd P ((64 * j) + k) q))) hfr (by omega) (by omega)
        have hZ : sZ (dC, dI) vCl 52 ad (fun q => N0 ≤ q) s.heap (va_up w 45 (.inl (cI, 512, .inl (upd P ((64 * j) + k) q)))) H locs := hZ
        generalize va_up w 45 (.inl (cI, 512, .inl (upd P ((64 * j) + k) q))) = w43 at hZ hM hfr
        refine lv_aload_n hx hb d_Mod_store_76 rfl (lv_at hl 2 rfl) ?_
        refine q_get (C := R_Mod) (T := T_Mod) (N := 10) hx hb hts (fun w h => gm (inT_Mod w h)) hown hK hZ (43) (by decide) hM.1 rfl 3 (by decide) (hts _ (gm k_423)) (fun _ h9 => h9) rfl d_Mod_store_77 ?_
        refine lv_iload hx hb d_Mod_store_80 (lv_at hl 0 rfl) ?_
        refine lv_lload_n hx hb d_Mod_store_82 rfl (lv_at hl 5 rfl) ?_
        refine q_last hx hb hK hZ (46) 1 (((64 * j) + k)) (by decide) hM.2.2.2.1 rfl rfl (by omega) (by decide) d_Mod_store_83 (fun H locs hZ => ?_)
        have hM := hM.up46 (vp_updL N ((64 * j) + k) x)
        have hfr := fr_up (x := 46) (e := .inl (cL, 512, .inr (.inl (vp_updL N ((64 * j) + k) x)))) hfr (by omega) (by omega)
        have hZ : sZ (dC, dI) vCl 52 ad (fun q => N0 ≤ q) s.heap (va_up w43 46 (.inl (cL, 512, .inr (.inl (vp_updL N ((64 * j) + k) x))))) H locs := hZ
        generalize va_up w43 46 (.inl (cL, 512, .inr (.inl (vp_updL N ((64 * j) + k) x)))) = w44 at hZ hM hfr
        refine lv_aload_n hx hb d_Mod_store_84 rfl (lv_at hl 2 rfl) ?_
        refine q_get (C := R_Mod) (T := T_Mod) (N := 10) hx hb hts (fun w h => gm (inT_Mod w h)) hown hK hZ (43) (by decide) hM.1 rfl 4 (by decide) (hts _ (gm k_424)) (fun _ h9 => h9) rfl d_Mod_store_85 ?_
        refine lv_iload hx hb d_Mod_store_88 (lv_at hl 0 rfl) ?_
        refine lv_lload hx hb d_Mod_store_90 (lv_at hl 6 rfl) ?_
        refine q_last hx hb hK hZ (47) 1 (((64 * j) + k)) (by decide) hM.2.2.2.2.1 rfl rfl (by omega) (by decide) d_Mod_store_92 (fun H locs hZ => ?_)
        have hM := hM.up47 (vp_updL A ((64 * j) + k) v)
        have hfr := fr_up (x := 47) (e := .inl (cL, 512, .inr (.inl (vp_updL A ((64 * j) + k) v)))) hfr (by omega) (by omega)
        have hZ : sZ (dC, dI) vCl 52 ad (fun q => N0 ≤ q) s.heap (va_up w44 47 (.inl (cL, 512, .inr (.inl (vp_updL A ((64 * j) + k) v))))) H locs := hZ
        generalize va_up w44 47 (.inl (cL, 512, .inr (.inl (vp_updL A ((64 * j) + k) v)))) = w45 at hZ hM hfr
        refine lv_lload hx hb d_Mod_store_93 (lv_at hl 6 rfl) ?_
        refine lv_lconst (v := 0) hx hb d_Mod_store_95 rfl ?_
        refine W.lcmp hx hb d_Mod_store_96 ?_
        refine lv_if_ne (tgt := 165) hx hb d_Mod_store_97 (by decide) (fun h97 => ?_) (fun h97 => ?_)
        · skip
          rw [lg_cmp_eq] at h97
          refine lv_iconst (v := (nI 1)) hx hb d_Mod_store_165 rfl ?_
          exact q_zret hx hb hr rfl hlocks hK hAm hZ hN (⟨hfr, Or.inl ⟨up_C0 (mRep_C hR hz) (Or.inr hy.2), rfl, ⟨_, _, _, _, _, _, _, _, _, hM, mS_set hB hj hz hmn hk ek h97⟩⟩⟩) d_Mod_store_166
        · skip
          rw [lg_cmp_eq] at h97
          refine lv_aload_n hx hb d_Mod_store_100 rfl (lv_at hl 2 rfl) ?_
          refine q_get (C := R_Mod) (T := T_Mod) (N := 10) hx hb hts (fun w h => gm (inT_Mod w h)) hown hK hZ (43) (by decide) hM.1 rfl 1 (by decide) (hts _ (gm k_421)) (fun _ h9 => h9) rfl d_Mod_store_101 ?_
          refine lv_iload_n hx hb d_Mod_store_104 rfl (lv_at hl 3 rfl) ?_
          refine lv_dup2_11 hx hb d_Mod_store_105 rfl rfl ?_
          refine q_iald hx hb hK hZ (44) 0 (j) (by decide) hM.2.1 rfl rfl (by omega) (by decide) d_Mod_store_106 ?_
          refine q_topi (y := nI z) (hmn) ?_
          refine lv_iconst (v := (nI 1)) hx hb d_Mod_store_107 rfl ?_
          refine lv_isub hx hb d_Mod_store_108 ?_
          refine q_topi (y := nI (z - 1)) (pk_sub (by omega)) ?_
          refine q_iast hx hb hK hZ (44) 0 (j) (by decide) hM.2.1 rfl rfl (by omega) (by decide) d_Mod_store_109 (fun H locs hZ => ?_)
          have hM := hM.up44 (upd mn j (nI (z - 1)))
          have hfr := fr_up (x := 44) (e := .inl (cI, 8, .inl (upd mn j (nI (z - 1))))) hfr (by omega) (by omega)
          have hZ : sZ (dC, dI) vCl 52 ad (fun q => N0 ≤ q) s.heap (va_up w45 44 (.inl (cI, 8, .inl (upd mn j (nI (z - 1)))))) H locs := hZ
          generalize va_up w45 44 (.inl (cI, 8, .inl (upd mn j (nI (z - 1))))) = w46 at hZ hM hfr
          refine lv_bipush (v := (nI 64)) hx hb d_Mod_store_110 rfl ?_
          refine lv_iload_n hx hb d_Mod_store_112 rfl (lv_at hl 3 rfl) ?_
          refine lv_imul hx hb d_Mod_store_113 ?_
          refine q_topi (y := nI (64 * j)) (pk_mul _ _) ?_
          refine lv_aload_n hx hb d_Mod_store_114 rfl (lv_at hl 2 rfl) ?_
          refine q_get (C := R_Mod) (T := T_Mod) (N := 10) hx hb hts (fun w h => gm (inT_Mod w h)) hown hK hZ (43) (by decide) hM.1 rfl 1 (by decide) (hts _ (gm k_421)) (fun _ h9 => h9) rfl d_Mod_store_115 ?_
          refine lv_iload_n hx hb d_Mod_store_118 rfl (lv_at hl 3 rfl) ?_
          refine q_iald hx hb hK hZ (44) 0 (j) (by decide) hM.2.1 rfl rfl (by omega) (by decide) d_Mod_store_119 ?_
          refine q_topi (y := nI (z - 1)) (upd_s) ?_
          refine lv_iadd hx hb d_Mod_store_120 ?_
          refine q_topi (y := nI ((64 * j) + (z - 1))) (nI_add _ _) ?_
          refine lv_istore (lv' := [(9, .int (nI ((64 * j) + (z - 1)))), (8, .int (nI ((64 * j) + k))), (7, .int (nI k)), (0, .ref (ad 43)), (1, .int (nI j)), (2, .int q), (3, .long x), (5, .long v)]) hx hb d_Mod_store_121 hl (by decide) rfl (fun ls hl => ?_)
          refine lv_aload_n hx hb d_Mod_store_123 rfl (lv_at hl 3 rfl) ?_
          refine q_get (C := R_Mod) (T := T_Mod) (N := 10) hx hb hts (fun w h => gm (inT_Mod w h)) hown hK hZ (43) (by decide) hM.1 rfl 2 (by decide) (hts _ (gm k_422)) (fun _ h9 => h9) rfl d_Mod_store_124 ?_
          refine lv_iload hx hb d_Mod_store_127 (lv_at hl 1 rfl) ?_
          refine lv_aload_n hx hb d_Mod_store_129 rfl (lv_at hl 3 rfl) ?_
          refine q_get (C := R_Mod) (T := T_Mod) (N := 10) hx hb hts (fun w h => gm (inT_Mod w h)) hown hK hZ (43) (by decide) hM.1 rfl 2 (by decide) (hts _ (gm k_422)) (fun _ h9 => h9) rfl d_Mod_store_130 ?_
          refine lv_iload hx hb d_Mod_store_133 (lv_at hl 0 rfl) ?_
          refine q_iald hx hb hK hZ (45) 0 (((64 * j) + (z - 1))) (by decide) hM.2.2.1 rfl rfl (by omega) (by decide) d_Mod_store_135 ?_
          refine q_iast hx hb hK hZ (45) 0 (((64 * j) + k)) (by decide) hM.2.2.1 rfl rfl (by omega) (by decide) d_Mod_store_136 (fun H locs hZ => ?_)
          have hM := hM.up45 (upd (upd P ((64 * j) + k) q) ((64 * j) + k) ((upd P ((64 * j) + k) q) ((64 * j) + (z - 1))))
          have hfr := fr_up (x := 45) (e := .inl (cI, 512, .inl (upd (upd P ((64 * j) + k) q) ((64 * j) + k) ((upd P ((64 * j) + k) q) ((64 * j) + (z - 1)))))) hfr (by omega) (by omega)
          have hZ : sZ (dC, dI) vCl 52 ad (fun q => N0 ≤ q) s.heap (va_up w46 45 (.inl (cI, 512, .inl (upd (upd P ((64 * j) + k) q) ((64 * j) + k) ((upd P ((64 * j) + k) q) ((64 * j) + (z - 1))))))) H locs := hZ
          generalize va_up w46 45 (.inl (cI, 512, .inl (upd (upd P ((64 * j) + k) q) ((64 * j) + k) ((upd P ((64 * j) + k) q) ((64 * j) + (z - 1)))))) = w47 at hZ hM hfr
          refine lv_aload_n hx hb d_Mod_store_137 rfl (lv_at hl 3 rfl) ?_
          refine q_get (C := R_Mod) (T := T_Mod) (N := 10) hx hb hts (fun w h => gm (inT_Mod w h)) hown hK hZ (43) (by decide) hM.1 rfl 3 (by decide) (hts _ (gm k_423)) (fun _ h9 => h9) rfl d_Mod_store_138 ?_
          refine lv_iload hx hb d_Mod_store_141 (lv_at hl 1 rfl) ?_
          refine lv_aload_n hx hb d_Mod_store_143 rfl (lv_at hl 3 rfl) ?_
          refine q_get (C := R_Mod) (T := T_Mod) (N := 10) hx hb hts (fun w h => gm (inT_Mod w h)) hown hK hZ (43) (by decide) hM.1 rfl 3 (by decide) (hts _ (gm k_423)) (fun _ h9 => h9) rfl d_Mod_store_144 ?_
          refine lv_iload hx hb d_Mod_store_147 (lv_at hl 0 rfl) ?_
          refine q_lald hx hb hK hZ (46) 1 (((64 * j) + (z - 1))) (by decide) hM.2.2.2.1 rfl rfl (by omega) (by decide) d_Mod_store_149 ?_
          refine q_last hx hb hK hZ (46) 1 (((64 * j) + k)) (by decide) hM.2.2.2.1 rfl rfl (by omega) (by decide) d_Mod_store_150 (fun H locs hZ => ?_)
          have hM := hM.up46 (vp_updL (vp_updL N ((64 * j) + k) x) ((64 * j) + k) ((vp_updL N ((64 * j) + k) x) ((64 * j) + (z - 1))))
          have hfr := fr_up (x := 46) (e := .inl (cL, 512, .inr (.inl (vp_updL (vp_updL N ((64 * j) + k) x) ((64 * j) + k) ((vp_updL N ((64 * j) + k) x) ((64 * j) + (z - 1))))))) hfr (by omega) (by omega)
          have hZ : sZ (dC, dI) vCl 52 ad (fun q => N0 ≤ q) s.heap (va_up w47 46 (.inl (cL, 512, .inr (.inl (vp_updL (vp_updL N ((64 * j) + k) x) ((64 * j) + k) ((vp_updL N ((64 * j) + k) x) ((64 * j) + (z - 1)))))))) H locs := hZ
          generalize va_up w47 46 (.inl (cL, 512, .inr (.inl (vp_updL (vp_updL N ((64 * j) + k) x) ((64 * j) + k) ((vp_updL N ((64 * j) + k) x) ((64 * j) + (z - 1))))))) = w48 at hZ hM hfr
          refine lv_aload_n hx hb d_Mod_store_151 rfl (lv_at hl 3 rfl) ?_
          refine q_get (C := R_Mod) (T := T_Mod) (N := 10) hx hb hts (fun w h => gm (inT_Mod w h)) hown hK hZ (43) (by decide) hM.1 rfl 4 (by decide) (hts _ (gm k_424)) (fun _ h9 => h9) rfl d_Mod_store_152 ?_
          refine lv_iload hx hb d_Mod_store_155 (lv_at hl 1 rfl) ?_
          refine lv_aload_n hx hb d_Mod_store_157 rfl (lv_at hl 3 rfl) ?_
          refine q_get (C := R_Mod) (T := T_Mod) (N := 10) hx hb hts (fun w h => gm (inT_Mod w h)) hown hK hZ (43) (by decide) hM.1 rfl 4 (by decide) (hts _ (gm k_424)) (fun _ h9 => h9) rfl d_Mod_store_158 ?_
          refine lv_iload hx hb d_Mod_store_161 (lv_at hl 0 rfl) ?_
          refine q_lald hx hb hK hZ (47) 1 (((64 * j) + (z - 1))) (by decide) hM.2.2.2.2.1 rfl rfl (by omega) (by decide) d_Mod_store_163 ?_
          refine q_last hx hb hK hZ (47) 1 (((64 * j) + k)) (by decide) hM.2.2.2.2.1 rfl rfl (by omega) (by decide) d_Mod_store_164 (fun H locs hZ => ?_)
          have hM := hM.up47 (vp_updL (vp_updL A ((64 * j) + k) v) ((64 * j) + k) ((vp_updL A ((64 * j) + k) v) ((64 * j) + (z - 1))))
          have hfr := fr_up (x := 47) (e := .inl (cL, 512, .inr (.inl (vp_updL (vp_updL A ((64 * j) + k) v) ((64 * j) + k) ((vp_updL A ((64 * j) + k) v) ((64 * j) + (z - 1))))))) hfr (by omega) (by omega)
          have hZ : sZ (dC, dI) vCl 52 ad (fun q => N0 ≤ q) s.heap (va_up w48 47 (.inl (cL, 512, .inr (.inl (vp_updL (vp_updL A ((64 * j) + k) v) ((64 * j) + k) ((vp_updL A ((64 * j) + k) v) ((64 * j) + (z - 1)))))))) H locs := hZ
          generalize va_up w48 47 (.inl (cL, 512, .inr (.inl (vp_updL (vp_updL A ((64 * j) + k) v) ((64 * j) + k) ((vp_updL A ((64 * j) + k) v) ((64 * j) + (z - 1))))))) = w49 at hZ hM hfr
          refine lv_iconst (v := (nI 1)) hx hb d_Mod_store_165 rfl ?_
          exact q_zret hx hb hr rfl hlocks hK hAm hZ hN (⟨hfr, Or.inl ⟨up_C0 (mRep_C hR hz) (Or.inl h97), rfl, ⟨_, _, _, _, _, _, _, _, _, hM, mS_del2 hB hj hz hmn hk ek h97⟩⟩⟩) d_Mod_store_166
      · skip
        have h25 : k < 0 := Nat.lt_of_not_le (fun z9 => h25 ((nI_leI (a := 0) (b := k) (by omega) (by omega)).mpr z9))
        exact absurd h25 (by omega)
    · skip
      have h11 : k < 0 := Nat.lt_of_not_le (fun z9 => h11 ((nI_leI (a := 0) (b := k) (by omega) (by omega)).mpr z9))
      exact absurd h11 (by omega)
  · skip
    subst e_k
    have hy : F j (kv q x) = 0 := mB_no hR hno
    refine lv_istore (lv' := [(7, .int (-1)), (0, .ref (ad 43)), (1, .int (nI j)), (2, .int q), (3, .long x), (5, .long v)]) hx hb d_Mod_store_7 hl (by decide) rfl (fun ls hl => ?_)
    refine lv_iload hx hb d_Mod_store_9 (lv_at hl 0 rfl) ?_
    refine lv_if_ge (tgt := 23) hx hb d_Mod_store_11 (by decide) (fun h11 => ?_) (fun h11 => ?_)
    · skip
      exact absurd h11 (by decide)
    · skip
      refine lv_lload hx hb d_Mod_store_14 (lv_at hl 5 rfl) ?_
      refine lv_lconst (v := 0) hx hb d_Mod_store_16 rfl ?_
      refine W.lcmp hx hb d_Mod_store_17 ?_
      refine lv_if_ne (tgt := 23) hx hb d_Mod_store_18 (by decide) (fun h18 => ?_) (fun h18 => ?_)
      · skip
        rw [lg_cmp_eq] at h18
        refine lv_iload hx hb d_Mod_store_23 (lv_at hl 0 rfl) ?_
        refine lv_if_ge (tgt := 59) hx hb d_Mod_store_25 (by decide) (fun h25 => ?_) (fun h25 => ?_)
        · skip
          exact absurd h25 (by decide)
        · skip
          refine lv_aload_n hx hb d_Mod_store_28 rfl (lv_at hl 1 rfl) ?_
          refine q_get (C := R_Mod) (T := T_Mod) (N := 10) hx hb hts (fun w h => gm (inT_Mod w h)) hown hK hZ (43) (by decide) hM.1 rfl 1 (by decide) (hts _ (gm k_421)) (fun _ h9 => h9) rfl d_Mod_store_29 ?_
          refine lv_iload_n hx hb d_Mod_store_32 rfl (lv_at hl 2 rfl) ?_
          refine q_iald hx hb hK hZ (44) 0 (j) (by decide) hM.2.1 rfl rfl (by omega) (by decide) d_Mod_store_33 ?_
          refine q_topi (y := nI z) (hmn) ?_
          refine lv_bipush (v := (nI 64)) hx hb d_Mod_store_34 rfl ?_
          refine lv_icmp_ne (tgt := 41) hx hb d_Mod_store_36 (by decide) (fun h36 => ?_) (fun h36 => ?_)
          · skip
            have h36 : ¬ z = 64 := fun z9 => h36 ((nI_eq (a := z) (b := 64) (by omega) (by omega)).mpr z9)
            refine lv_aload_n hx hb d_Mod_store_41 rfl (lv_at hl 1 rfl) ?_
            refine q_get (C := R_Mod) (T := T_Mod) (N := 10) hx hb hts (fun w h => gm (inT_Mod w h)) hown hK hZ (43) (by decide) hM.1 rfl 1 (by decide) (hts _ (gm k_421)) (fun _ h9 => h9) rfl d_Mod_store_42 ?_
            refine lv_iload_n hx hb d_Mod_store_45 rfl (lv_at hl 2 rfl) ?_
            refine q_iald hx hb hK hZ (44) 0 (j) (by decide) hM.2.1 rfl rfl (by omega) (by decide) d_Mod_store_46 ?_
            refine q_topi (y := nI z) (hmn) ?_
            refine lv_istore (lv' := [(7, .int (nI z)), (0, .ref (ad 43)), (1, .int (nI j)), (2, .int q), (3, .long x), (5, .long v)]) hx hb d_Mod_store_47 hl (by decide) rfl (fun ls hl => ?_)
            refine lv_aload_n hx hb d_Mod_store_49 rfl (lv_at hl 1 rfl) ?_
            refine q_get (C := R_Mod) (T := T_Mod) (N := 10) hx hb hts (fun w h => gm (inT_Mod w h)) hown hK hZ (43) (by decide) hM.1 rfl 1 (by decide) (hts _ (gm k_421)) (fun _ h9 => h9) rfl d_Mod_store_50 ?_
            refine lv_iload_n hx hb d_Mod_store_53 rfl (lv_at hl 2 rfl) ?_
            refine lv_dup2_11 hx hb d_Mod_store_54 rfl rfl ?_
            refine q_iald hx hb hK hZ (44) 0 (j) (by decide) hM.2.1 rfl rfl (by omega) (by decide) d_Mod_store_55 ?_
            refine q_topi (y := nI z) (hmn) ?_
            refine lv_iconst (v := (nI 1)) hx hb d_Mod_store_56 rfl ?_
            refine lv_iadd hx hb d_Mod_store_57 ?_
            refine q_topi (y := nI (z + 1)) (nI_add _ _) ?_
            refine q_iast hx hb hK hZ (44) 0 (j) (by decide) hM.2.1 rfl rfl (by omega) (by decide) d_Mod_store_58 (fun H locs hZ => ?_)
            have hM := hM.up44 (upd mn j (nI (z + 1)))
            have hfr := fr_up (x := 44) (e := .inl (cI, 8, .inl (upd mn j (nI (z + 1))))) hfr (by omega) (by omega)
            have hZ : sZ (dC, dI) vCl 52 ad (fun q => N0 ≤ q) s.heap (va_up w 44 (.inl (cI, 8, .inl (upd mn j (nI (z + 1)))))) H locs := hZ
            generalize va_up w 44 (.inl (cI, 8, .inl (upd mn j (nI (z + 1))))) = w50 at hZ hM hfr
            refine lv_bipush (v := (nI 64)) hx hb d_Mod_store_59 rfl ?_
            refine lv_iload_n hx hb d_Mod_store_61 rfl (lv_at hl 2 rfl) ?_
            refine lv_imul hx hb d_Mod_store_62 ?_
            refine q_topi (y := nI (64 * j)) (pk_mul _ _) ?_
            refine lv_iload hx hb d_Mod_store_63 (lv_at hl 0 rfl) ?_
            refine lv_iadd hx hb d_Mod_store_65 ?_
            refine q_topi (y := nI ((64 * j) + z)) (nI_add _ _) ?_
            refine lv_istore (lv' := [(8, .int (nI ((64 * j) + z))), (7, .int (nI z)), (0, .ref (ad 43)), (1, .int (nI j)), (2, .int q), (3, .long x), (5, .long v)]) hx hb d_Mod_store_66 hl (by decide) rfl (fun ls hl => ?_)
            refine lv_aload_n hx hb d_Mod_store_68 rfl (lv_at hl 2 rfl) ?_
            refine q_get (C := R_Mod) (T := T_Mod) (N := 10) hx hb hts (fun w h => gm (inT_Mod w h)) hown hK hZ (43) (by decide) hM.1 rfl 2 (by decide) (hts _ (gm k_422)) (fun _ h9 => h9) rfl d_Mod_store_69 ?_
            refine lv_iload hx hb d_Mod_store_72 (lv_at hl 0 rfl) ?_
            refine lv_iload_n hx hb d_Mod_store_74 rfl (lv_at hl 4 rfl) ?_
            refine q_iast hx hb hK hZ (45) 0 (((64 * j) + z)) (by decide) hM.2.2.1 rfl rfl (by omega) (by decide) d_Mod_store_75 (fun H locs hZ => ?_)
            have hM := hM.up45 (upd P ((64 * j) + z) q)
            have hfr := fr_up (x := 45) (e := .inl (cI, 512, .inl (upd P ((64 * j) + z) q))) hfr (by omega) (by omega)
            have hZ : sZ (dC, dI) vCl 52 ad (fun q => N0 ≤ q) s.heap (va_up w50 45 (.inl (cI, 512, .inl (upd P ((64 * j) + z) q)))) H locs := hZ
            generalize va_up w50 45 (.inl (cI, 512, .inl (upd P ((64 * j) + z) q))) = w51 at hZ hM hfr
            refine lv_aload_n hx hb d_Mod_store_76 rfl (lv_at hl 2 rfl) ?_
            refine q_get (C := R_Mod) (T := T_Mod) (N := 10) hx hb hts (fun w h => gm (inT_Mod w h)) hown hK hZ (43) (by decide) hM.1 rfl 3 (by decide) (hts _ (gm k_423)) (fun _ h9 => h9) rfl d_Mod_store_77 ?_
            refine lv_iload hx hb d_Mod_store_80 (lv_at hl 0 rfl) ?_
            refine lv_lload_n hx hb d_Mod_store_82 rfl (lv_at hl 5 rfl) ?_
            refine q_last hx hb hK hZ (46) 1 (((64 * j) + z)) (by decide) hM.2.2.2.1 rfl rfl (by omega) (by decide) d_Mod_store_83 (fun H locs hZ => ?_)
            have hM := hM.up46 (vp_updL N ((64 * j) + z) x)
            have hfr := fr_up (x := 46) (e := .inl (cL, 512, .inr (.inl (vp_updL N ((64 * j) + z) x)))) hfr (by omega) (by omega)
            have hZ : sZ (dC, dI) vCl 52 ad (fun q => N0 ≤ q) s.heap (va_up w51 46 (.inl (cL, 512, .inr (.inl (vp_updL N ((64 * j) + z) x))))) H locs := hZ
            generalize va_up w51 46 (.inl (cL, 512, .inr (.inl (vp_updL N ((64 * j) + z) x)))) = w52 at hZ hM hfr
            refine lv_aload_n hx hb d_Mod_store_84 rfl (lv_at hl 2 rfl) ?_
            refine q_get (C := R_Mod) (T := T_Mod) (N := 10) hx hb hts (fun w h => gm (inT_Mod w h)) hown hK hZ (43) (by decide) hM.1 rfl 4 (by decide) (hts _ (gm k_424)) (fun _ h9 => h9) rfl d_Mod_store_85 ?_
            refine lv_iload hx hb d_Mod_store_88 (lv_at hl 0 rfl) ?_
            refine lv_lload hx hb d_Mod_store_90 (lv_at hl 6 rfl) ?_
            refine q_last hx hb hK hZ (47) 1 (((64 * j) + z)) (by decide) hM.2.2.2.2.1 rfl rfl (by omega) (by decide) d_Mod_store_92 (fun H locs hZ => ?_)
            have hM := hM.up47 (vp_updL A ((64 * j) + z) v)
            have hfr := fr_up (x := 47) (e := .inl (cL, 512, .inr (.inl (vp_updL A ((64 * j) + z) v)))) hfr (by omega) (by omega)
            have hZ : sZ (dC, dI) vCl 52 ad (fun q => N0 ≤ q) s.heap (va_up w52 47 (.inl (cL, 512, .inr (.inl (vp_updL A ((64 * j) + z) v))))) H locs := hZ
            generalize va_up w52 47 (.inl (cL, 512, .inr (.inl (vp_updL A ((64 * j) + z) v)))) = w53 at hZ hM hfr
            refine lv_lload hx hb d_Mod_store_93 (lv_at hl 6 rfl) ?_
            refine lv_lconst (v := 0) hx hb d_Mod_store_95 rfl ?_
            refine W.lcmp hx hb d_Mod_store_96 ?_
            refine lv_if_ne (tgt := 165) hx hb d_Mod_store_97 (by decide) (fun h97 => ?_) (fun h97 => ?_)
            · skip
              rw [lg_cmp_eq] at h97
              refine lv_iconst (v := (nI 1)) hx hb d_Mod_store_165 rfl ?_
              exact q_zret hx hb hr rfl hlocks hK hAm hZ hN (⟨hfr, Or.inl ⟨mB_self (mS_app hB hj (by omega) hmn hy h18) hj, rfl, ⟨_, _, _, _, _, _, _, _, _, hM, mS_app hB hj (by omega) hmn hy h18⟩⟩⟩) d_Mod_store_166
            · skip
              rw [lg_cmp_eq] at h97
              exact absurd h97 h18
          · skip
            have h36 : z = 64 := (nI_eq (a := z) (b := 64) (by omega) (by omega)).mp h36
            refine lv_iconst (v := (nI 0)) hx hb d_Mod_store_39 rfl ?_
            exact q_zret hx hb hr rfl hlocks hK hAm hZ hN (⟨hfr, Or.inr ⟨full_not hR (by omega) hy h18, rfl, ⟨_, _, _, _, _, _, _, _, _, hM, hB⟩⟩⟩) d_Mod_store_40
      · skip
        rw [lg_cmp_eq] at h18
        refine lv_iconst (v := (nI 1)) hx hb d_Mod_store_21 rfl ?_
        exact q_zret hx hb hr rfl hlocks hK hAm hZ hN (⟨hfr, Or.inl ⟨up_C0 (mRep_C hR hz) (Or.inl h18), rfl, by rw [h18, fUp_0 hy, va_up_id]; exact ⟨_, _, _, _, _, _, _, _, _, hM, hB⟩⟩⟩) d_Mod_store_22
