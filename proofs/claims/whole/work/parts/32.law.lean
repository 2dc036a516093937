/-! the law's cases -/
set_option maxHeartbeats 4000000 in
set_option maxRecDepth 100000 in
/-- set -/
theorem law_0 {p : Program} {e : Env} {s : State} {m : MethodId} {below : List Frame} {meth : Method} {c : Code} (l : Launch) (hfl : l.stackTraces = false) {b L : Nat} {xs : Nat → Int32} (C0 : lw_At p s m meth c b L xs) (dC : Nat → ClassId) (dI : Nat → Nat → Nat) (cI cL cB : ClassId) (ad : Nat → Nat) (hK : va_K (dC, dI) vCl [(cI, .int), (cL, .long), (cB, .object "CoinBag$Bag")] s) (hAm : sAm s.heap.size s) (i : Nat) (hi : i + 7 ≤ L) (hL : L ≤ 3584) (cells slots : Nat) (hc1 : cells + 1 ≤ room_1.cells ∧ slots + 6 ≤ room_1.slots) (K : lawK p l e s m below meth c b dC dI cI cL cB ad i (cells + 1) (slots + 6)) (w : Nat → va_E) (F : Nat → Int → Int64) (o : Nat → Int64) (t0 : Int32) (H : Heap) (locs : List Loc) (ls : Array Slot) (hC : sC ad cI cL cB w F) (hMM : sM ad cI cL w t0 F) (h51 : w 51 = .inl (cL, 1, .inr (.inl o))) (hZ : sZ (dC, dI) vCl 52 ad (fun q => s.heap.size ≤ q) s.heap w H locs) (hl : lv_has ls 8 [(4, .int (nI i)), (0, .ref b), (1, .ref (ad 0)), (2, .ref (ad 43)), (3, .ref (ad 51))]) : W p l e room_1 s m #[Value.ref b] below meth c H locs cells slots (lw_Z below #[Value.ref b] s) (F0 m 116 ls []) := by
  obtain ⟨hx, hb, hr, hml, hown, hts0, hX, hbl, hlocks, hgv⟩ := id C0
  have hts := law_hts hts0
  have hN : s.heap.size ≤ s.heap.size := Nat.le_refl _
  have hbA : ¬ (fun q => s.heap.size ≤ q) b := Nat.not_le.mpr hbl
  have hc0 : cells + 0 ≤ room_1.cells ∧ slots + 0 ≤ room_1.slots := ⟨Nat.le_trans (Nat.le_succ _) hc1.1, Nat.le_trans (by omega) hc1.2⟩
  by_cases hB : okB (xs (i + 1))
  · skip
    obtain ⟨j1, hj1, ej1⟩ := okB_nat hB
    by_cases hQ : okP (xs (i + 2))
    · skip
      refine lv_aload_n hx hb d_Law_law_116 rfl (lv_at hl 2 rfl) ?_
      refine lv_aload_n hx hb d_Law_law_117 rfl (lv_at hl 1 rfl) ?_
      refine lv_iload hx hb d_Law_law_118 (lv_at hl 0 rfl) ?_
      refine lv_iconst (v := (nI 1)) hx hb d_Law_law_120 rfl ?_
      refine lv_iadd hx hb d_Law_law_121 ?_
      refine q_topi (y := nI (i + 1)) (nI_add _ _) ?_
      refine q_sld hx hb hX hbl hbA hZ.2.2 ((i + 1)) rfl (by omega) (by omega) d_Law_law_122 ?_
      refine q_topi (y := nI j1) ej1 ?_
      refine lv_aload_n hx hb d_Law_law_123 rfl (lv_at hl 1 rfl) ?_
      refine lv_iload hx hb d_Law_law_124 (lv_at hl 0 rfl) ?_
      refine lv_iconst (v := (nI 2)) hx hb d_Law_law_126 rfl ?_
      refine lv_iadd hx hb d_Law_law_127 ?_
      refine q_topi (y := nI (i + 2)) (nI_add _ _) ?_
      refine q_sld hx hb hX hbl hbA hZ.2.2 ((i + 2)) rfl (by omega) (by omega) d_Law_law_128 ?_
      refine lv_aload_n hx hb d_Law_law_129 rfl (lv_at hl 1 rfl) ?_
      refine lv_iload hx hb d_Law_law_130 (lv_at hl 0 rfl) ?_
      refine lv_iconst (v := (nI 3)) hx hb d_Law_law_132 rfl ?_
      refine lv_iadd hx hb d_Law_law_133 ?_
      refine q_topi (y := nI (i + 3)) (nI_add _ _) ?_
      refine q_sld hx hb hX hbl hbA hZ.2.2 ((i + 3)) rfl (by omega) (by omega) d_Law_law_134 ?_
      refine lv_i2l (v := (xs (i + 3)).toInt64) hx hb d_Law_law_135 rfl ?_
      refine lv_bipush (v := (nI 32)) hx hb d_Law_law_136 rfl ?_
      refine lv_lshl (v := ((xs (i + 3)).toInt64) <<< ((nI 32).toInt64 &&& 63)) hx hb d_Law_law_138 rfl ?_
      refine lv_aload_n hx hb d_Law_law_139 rfl (lv_at hl 1 rfl) ?_
      refine lv_iload hx hb d_Law_law_140 (lv_at hl 0 rfl) ?_
      refine lv_iconst (v := (nI 4)) hx hb d_Law_law_142 rfl ?_
      refine lv_iadd hx hb d_Law_law_143 ?_
      refine q_topi (y := nI (i + 4)) (nI_add _ _) ?_
      refine q_sld hx hb hX hbl hbA hZ.2.2 ((i + 4)) rfl (by omega) (by omega) d_Law_law_144 ?_
      refine lv_i2l (v := (xs (i + 4)).toInt64) hx hb d_Law_law_145 rfl ?_
      refine lv_ldc2 (v := 4294967295) hx hb hown (hts _ (gm k_577)) d_Law_law_146 ?_
      refine lv_land hx hb d_Law_law_149 ?_
      refine lv_lor hx hb d_Law_law_150 ?_
      refine q_topl (y := lj (xs (i + 3)) (xs (i + 4))) rfl ?_
      refine lv_aload_n hx hb d_Law_law_151 rfl (lv_at hl 1 rfl) ?_
      refine lv_iload hx hb d_Law_law_152 (lv_at hl 0 rfl) ?_
      refine lv_iconst (v := (nI 5)) hx hb d_Law_law_154 rfl ?_
      refine lv_iadd hx hb d_Law_law_155 ?_
      refine q_topi (y := nI (i + 5)) (nI_add _ _) ?_
      refine q_sld hx hb hX hbl hbA hZ.2.2 ((i + 5)) rfl (by omega) (by omega) d_Law_law_156 ?_
      refine lv_i2l (v := (xs (i + 5)).toInt64) hx hb d_Law_law_157 rfl ?_
      refine lv_bipush (v := (nI 32)) hx hb d_Law_law_158 rfl ?_
      refine lv_lshl (v := ((xs (i + 5)).toInt64) <<< ((nI 32).toInt64 &&& 63)) hx hb d_Law_law_160 rfl ?_
      refine lv_aload_n hx hb d_Law_law_161 rfl (lv_at hl 1 rfl) ?_
      refine lv_iload hx hb d_Law_law_162 (lv_at hl 0 rfl) ?_
      refine lv_bipush (v := (nI 6)) hx hb d_Law_law_164 rfl ?_
      refine lv_iadd hx hb d_Law_law_166 ?_
      refine q_topi (y := nI (i + 6)) (nI_add _ _) ?_
      refine q_sld hx hb hX hbl hbA hZ.2.2 ((i + 6)) rfl (by omega) (by omega) d_Law_law_167 ?_
      refine lv_i2l (v := (xs (i + 6)).toInt64) hx hb d_Law_law_168 rfl ?_
      refine lv_ldc2 (v := 4294967295) hx hb hown (hts _ (gm k_577)) d_Law_law_169 ?_
      refine lv_land hx hb d_Law_law_172 ?_
      refine lv_lor hx hb d_Law_law_173 ?_
      refine q_topl (y := lj (xs (i + 5)) (xs (i + 6))) rfl ?_
      refine lv_aload_n hx hb d_Law_law_174 rfl (lv_at hl 4 rfl) ?_
      refine q_calli (vx_runSW (As := [.ref (ad 0), .int (nI j1), .int (xs (i + 2)), .long (lj (xs (i + 3)) (xs (i + 4))), .long (lj (xs (i + 5)) (xs (i + 6))), .ref (ad 51)]) (rest := []) ⟨hx, hb, hml, hown, hts⟩ (c_Law_set l dC dI cI cL cB ad s.heap.size w F j1 (xs (i + 2)) (lj (xs (i + 3)) (xs (i + 4))) (lj (xs (i + 5)) (xs (i + 6))) o hC hj1 hQ h51) (vx_cwSW 6 hts (gI_S k_111 k_109 k_110 k_20) rfl rfl rfl (by decide +kernel) ⟨Nat.le_of_ble_eq_true rfl, Nat.le_of_ble_eq_true rfl⟩) (q_pre hK hAm hZ hN [.ref (ad 0), .int (nI j1), .int (xs (i + 2)), .long (lj (xs (i + 3)) (xs (i + 4))), .long (lj (xs (i + 5)) (xs (i + 6))), .ref (ad 51)]) rfl rfl hl.1 rfl (lv_room (Nat.le_of_ble_eq_true rfl)) d_Law_law_175 hc0) hZ (fun r u_r H locs h_r hZ => ?_)
      obtain ⟨e_r, hkp, o2, h51, hres⟩ := h_r
      have hMM := sM_fr hMM (fun x h1 h2 => hkp x (by omega) (by omega))
      refine q_topi (y := nI 0) e_r ?_
      refine lv_istore (lv' := [(5, .int (nI 0)), (4, .int (nI i)), (0, .ref b), (1, .ref (ad 0)), (2, .ref (ad 43)), (3, .ref (ad 51))]) hx hb d_Law_law_178 hl (by decide) rfl (fun ls hl => ?_)
      refine lv_aload_n hx hb d_Law_law_180 rfl (lv_at hl 4 rfl) ?_
      refine lv_aload_n hx hb d_Law_law_181 rfl (lv_at hl 2 rfl) ?_
      refine lv_iload hx hb d_Law_law_182 (lv_at hl 1 rfl) ?_
      refine lv_iconst (v := (nI 1)) hx hb d_Law_law_184 rfl ?_
      refine lv_iadd hx hb d_Law_law_185 ?_
      refine q_topi (y := nI (i + 1)) (nI_add _ _) ?_
      refine q_sld hx hb hX hbl hbA hZ.2.2 ((i + 1)) rfl (by omega) (by omega) d_Law_law_186 ?_
      refine q_topi (y := nI j1) ej1 ?_
      refine lv_aload_n hx hb d_Law_law_187 rfl (lv_at hl 2 rfl) ?_
      refine lv_iload hx hb d_Law_law_188 (lv_at hl 1 rfl) ?_
      refine lv_iconst (v := (nI 2)) hx hb d_Law_law_190 rfl ?_
      refine lv_iadd hx hb d_Law_law_191 ?_
      refine q_topi (y := nI (i + 2)) (nI_add _ _) ?_
      refine q_sld hx hb hX hbl hbA hZ.2.2 ((i + 2)) rfl (by omega) (by omega) d_Law_law_192 ?_
      refine lv_aload_n hx hb d_Law_law_193 rfl (lv_at hl 2 rfl) ?_
      refine lv_iload hx hb d_Law_law_194 (lv_at hl 1 rfl) ?_
      refine lv_iconst (v := (nI 3)) hx hb d_Law_law_196 rfl ?_
      refine lv_iadd hx hb d_Law_law_197 ?_
      refine q_topi (y := nI (i + 3)) (nI_add _ _) ?_
      refine q_sld hx hb hX hbl hbA hZ.2.2 ((i + 3)) rfl (by omega) (by omega) d_Law_law_198 ?_
      refine lv_i2l (v := (xs (i + 3)).toInt64) hx hb d_Law_law_199 rfl ?_
      refine lv_bipush (v := (nI 32)) hx hb d_Law_law_200 rfl ?_
      refine lv_lshl (v := ((xs (i + 3)).toInt64) <<< ((nI 32).toInt64 &&& 63)) hx hb d_Law_law_202 rfl ?_
      refine lv_aload_n hx hb d_Law_law_203 rfl (lv_at hl 2 rfl) ?_
      refine lv_iload hx hb d_Law_law_204 (lv_at hl 1 rfl) ?_
      refine lv_iconst (v := (nI 4)) hx hb d_Law_law_206 rfl ?_
      refine lv_iadd hx hb d_Law_law_207 ?_
      refine q_topi (y := nI (i + 4)) (nI_add _ _) ?_
      refine q_sld hx hb hX hbl hbA hZ.2.2 ((i + 4)) rfl (by omega) (by omega) d_Law_law_208 ?_
      refine lv_i2l (v := (xs (i + 4)).toInt64) hx hb d_Law_law_209 rfl ?_
      refine lv_ldc2 (v := 4294967295) hx hb hown (hts _ (gm k_577)) d_Law_law_210 ?_
      refine lv_land hx hb d_Law_law_213 ?_
      refine lv_lor hx hb d_Law_law_214 ?_
      refine q_topl (y := lj (xs (i + 3)) (xs (i + 4))) rfl ?_
      refine lv_aload_n hx hb d_Law_law_215 rfl (lv_at hl 2 rfl) ?_
      refine lv_iload hx hb d_Law_law_216 (lv_at hl 1 rfl) ?_
      refine lv_iconst (v := (nI 5)) hx hb d_Law_law_218 rfl ?_
      refine lv_iadd hx hb d_Law_law_219 ?_
      refine q_topi (y := nI (i + 5)) (nI_add _ _) ?_
      refine q_sld hx hb hX hbl hbA hZ.2.2 ((i + 5)) rfl (by omega) (by omega) d_Law_law_220 ?_
      refine lv_i2l (v := (xs (i + 5)).toInt64) hx hb d_Law_law_221 rfl ?_
      refine lv_bipush (v := (nI 32)) hx hb d_Law_law_222 rfl ?_
      refine lv_lshl (v := ((xs (i + 5)).toInt64) <<< ((nI 32).toInt64 &&& 63)) hx hb d_Law_law_224 rfl ?_
      refine lv_aload_n hx hb d_Law_law_225 rfl (lv_at hl 2 rfl) ?_
      refine lv_iload hx hb d_Law_law_226 (lv_at hl 1 rfl) ?_
      refine lv_bipush (v := (nI 6)) hx hb d_Law_law_228 rfl ?_
      refine lv_iadd hx hb d_Law_law_230 ?_
      refine q_topi (y := nI (i + 6)) (nI_add _ _) ?_
      refine q_sld hx hb hX hbl hbA hZ.2.2 ((i + 6)) rfl (by omega) (by omega) d_Law_law_231 ?_
      refine lv_i2l (v := (xs (i + 6)).toInt64) hx hb d_Law_law_232 rfl ?_
      refine lv_ldc2 (v := 4294967295) hx hb hown (hts _ (gm k_577)) d_Law_law_233 ?_
      refine lv_land hx hb d_Law_law_236 ?_
      refine lv_lor hx hb d_Law_law_237 ?_
      refine q_topl (y := lj (xs (i + 5)) (xs (i + 6))) rfl ?_
      obtain ⟨fs43, h43⟩ := sM_43 hMM
      refine q_calli (va_runV (As := [.int (nI j1), .int (xs (i + 2)), .long (lj (xs (i + 3)) (xs (i + 4))), .long (lj (xs (i + 5)) (xs (i + 6)))]) (rest := []) ⟨hx, hb, hml, hown, hts⟩ (c_Mod_set l dC dI cI cL cB ad s.heap.size u_r t0 F j1 (xs (i + 2)) (lj (xs (i + 3)) (xs (i + 4))) (lj (xs (i + 5)) (xs (i + 6))) hMM hj1 hQ) (cwV 4 hts (gI_V k_458 k_455 k_456 k_457 k_24) rfl rfl rfl (by decide +kernel) ⟨Nat.le_of_ble_eq_true rfl, Nat.le_of_ble_eq_true rfl⟩) (q_preV hK hAm hZ hN [.int (nI j1), .int (xs (i + 2)), .long (lj (xs (i + 3)) (xs (i + 4))), .long (lj (xs (i + 5)) (xs (i + 6)))] (43) 3 (by decide) h43 rfl) rfl rfl hl.1 rfl (lv_room (Nat.le_of_ble_eq_true rfl)) d_Law_law_238 hc0) hZ (fun v u_v H locs h_v hZ => ?_)
      obtain ⟨hfr, hres2⟩ := h_v
      have h51 := (hfr 51 (by omega)).trans h51
      rcases hres with ⟨hq1, ho, hC⟩ | ⟨hq1, ho, hC⟩
      · skip
        rcases hres2 with ⟨hq2, ev, hMM⟩ | ⟨hq2, ev, hMM⟩
        · skip
          have hC := sC_fr hC (fun x hx => hfr x (by omega))
          refine q_topi (y := nI 1) ev ?_
          refine lv_istore (lv' := [(6, .int (nI 1)), (5, .int (nI 0)), (4, .int (nI i)), (0, .ref b), (1, .ref (ad 0)), (2, .ref (ad 43)), (3, .ref (ad 51))]) hx hb d_Law_law_241 hl (by decide) rfl (fun ls hl => ?_)
          refine lv_aload_n hx hb d_Law_law_243 rfl (lv_at hl 5 rfl) ?_
          obtain ⟨fs43, h43⟩ := sM_43 hMM
          refine q_calli (va_runV (As := []) (rest := []) ⟨hx, hb, hml, hown, hts⟩ (c_Mod_thrown l dC dI cI cL cB ad s.heap.size u_v _ _ hMM) (cwV 0 hts (gI_V k_454 k_451 k_452 k_453 k_24) rfl rfl rfl (by decide +kernel) ⟨Nat.le_of_ble_eq_true rfl, Nat.le_of_ble_eq_true rfl⟩) (q_preV hK hAm hZ hN [] (43) 3 (by decide) h43 rfl) rfl rfl hl.1 rfl (lv_room (Nat.le_of_ble_eq_true rfl)) d_Law_law_244 hc0) hZ (fun th u_th H locs h_th hZ => ?_)
          obtain ⟨e_th, e_t⟩ := h_th
          rw [e_th] at hZ
          refine q_topi (y := nI 0) e_t ?_
          refine lv_iload hx hb d_Law_law_247 (lv_at hl 1 rfl) ?_
          refine lv_icmp_eq (tgt := 254) hx hb d_Law_law_249 (by decide) (fun h249 => ?_) (fun h249 => ?_)
          · skip
            have h249 : 0 = 0 := (nI_eq (a := 0) (b := 0) (by omega) (by omega)).mp h249
            refine lv_iload hx hb d_Law_law_254 (lv_at hl 1 rfl) ?_
            refine lv_if_ne (tgt := 278) hx hb d_Law_law_256 (by decide) (fun h256 => ?_) (fun h256 => ?_)
            · skip
              have h256 : ¬ 0 = 0 := fun z9 => h256 ((nI_eq (a := 0) (b := 0) (by omega) (by omega)).mpr z9)
              exact absurd h256 (by decide)
            · skip
              have h256 : 0 = 0 := (nI_eq (a := 0) (b := 0) (by omega) (by omega)).mp h256
              refine lv_aload_n hx hb d_Law_law_259 rfl (lv_at hl 6 rfl) ?_
              refine lv_iconst (v := (nI 0)) hx hb d_Law_law_260 rfl ?_
              refine q_lald hx hb hK hZ (51) 1 (0) (by decide) h51 rfl rfl (by omega) (by decide) d_Law_law_261 ?_
              refine lv_iload hx hb d_Law_law_262 (lv_at hl 0 rfl) ?_
              refine lv_if_eq (tgt := 271) hx hb d_Law_law_264 (by decide) (fun h264 => ?_) (fun h264 => ?_)
              · skip
                have h264 : 1 = 0 := (nI_eq (a := 1) (b := 0) (by omega) (by omega)).mp h264
                exact absurd h264 (by decide)
              · skip
                have h264 : ¬ 1 = 0 := fun z9 => h264 ((nI_eq (a := 1) (b := 0) (by omega) (by omega)).mpr z9)
                refine lv_lconst (v := 1) hx hb d_Law_law_267 rfl ?_
                refine lv_goto (tgt := 272) hx hb d_Law_law_268 (by decide) ?_
                refine W.lcmp hx hb d_Law_law_272 ?_
                refine lv_if_eq (tgt := 278) hx hb d_Law_law_273 (by decide) (fun h273 => ?_) (fun h273 => ?_)
                · skip
                  rw [lg_cmp_eq] at h273
                  refine lv_goto (tgt := 1486) hx hb d_Law_law_278 (by decide) ?_
                  refine W.widen (k := cells + 1) (n := slots + 6) (by omega) (by omega) ?_
                  exact K _ _ _ _ _ _ _ hC hMM h51 hZ (lv_sub hl [2, 3, 4, 5, 6] rfl)
                · skip
                  rw [lg_cmp_eq] at h273
                  exact absurd ho h273
          · skip
            have h249 : ¬ 0 = 0 := fun z9 => h249 ((nI_eq (a := 0) (b := 0) (by omega) (by omega)).mpr z9)
            exact absurd h249 (by decide)
        · skip
          exact absurd hq1 hq2
      · skip
        rcases hres2 with ⟨hq2, ev, hMM⟩ | ⟨hq2, ev, hMM⟩
        · skip
          exact absurd hq2 hq1
        · skip
          have hC := sC_fr hC (fun x hx => hfr x (by omega))
          refine q_topi (y := nI 0) ev ?_
          refine lv_istore (lv' := [(6, .int (nI 0)), (5, .int (nI 0)), (4, .int (nI i)), (0, .ref b), (1, .ref (ad 0)), (2, .ref (ad 43)), (3, .ref (ad 51))]) hx hb d_Law_law_241 hl (by decide) rfl (fun ls hl => ?_)
          refine lv_aload_n hx hb d_Law_law_243 rfl (lv_at hl 5 rfl) ?_
          obtain ⟨fs43, h43⟩ := sM_43 hMM
          refine q_calli (va_runV (As := []) (rest := []) ⟨hx, hb, hml, hown, hts⟩ (c_Mod_thrown l dC dI cI cL cB ad s.heap.size u_v _ _ hMM) (cwV 0 hts (gI_V k_454 k_451 k_452 k_453 k_24) rfl rfl rfl (by decide +kernel) ⟨Nat.le_of_ble_eq_true rfl, Nat.le_of_ble_eq_true rfl⟩) (q_preV hK hAm hZ hN [] (43) 3 (by decide) h43 rfl) rfl rfl hl.1 rfl (lv_room (Nat.le_of_ble_eq_true rfl)) d_Law_law_244 hc0) hZ (fun th u_th H locs h_th hZ => ?_)
          obtain ⟨e_th, e_t⟩ := h_th
          rw [e_th] at hZ
          refine q_topi (y := nI 0) e_t ?_
          refine lv_iload hx hb d_Law_law_247 (lv_at hl 1 rfl) ?_
          refine lv_icmp_eq (tgt := 254) hx hb d_Law_law_249 (by decide) (fun h249 => ?_) (fun h249 => ?_)
          · skip
            have h249 : 0 = 0 := (nI_eq (a := 0) (b := 0) (by omega) (by omega)).mp h249
            refine lv_iload hx hb d_Law_law_254 (lv_at hl 1 rfl) ?_
            refine lv_if_ne (tgt := 278) hx hb d_Law_law_256 (by decide) (fun h256 => ?_) (fun h256 => ?_)
            · skip
              have h256 : ¬ 0 = 0 := fun z9 => h256 ((nI_eq (a := 0) (b := 0) (by omega) (by omega)).mpr z9)
              exact absurd h256 (by decide)
            · skip
              have h256 : 0 = 0 := (nI_eq (a := 0) (b := 0) (by omega) (by omega)).mp h256
              refine lv_aload_n hx hb d_Law_law_259 rfl (lv_at hl 6 rfl) ?_
              refine lv_iconst (v := (nI 0)) hx hb d_Law_law_260 rfl ?_
              refine q_lald hx hb hK hZ (51) 1 (0) (by decide) h51 rfl rfl (by omega) (by decide) d_Law_law_261 ?_
              refine lv_iload hx hb d_Law_law_262 (lv_at hl 0 rfl) ?_
              refine lv_if_eq (tgt := 271) hx hb d_Law_law_264 (by decide) (fun h264 => ?_) (fun h264 => ?_)
              · skip
                have h264 : 0 = 0 := (nI_eq (a := 0) (b := 0) (by omega) (by omega)).mp h264
                refine lv_lconst (v := 0) hx hb d_Law_law_271 rfl ?_
                refine W.lcmp hx hb d_Law_law_272 ?_
                refine lv_if_eq (tgt := 278) hx hb d_Law_law_273 (by decide) (fun h273 => ?_) (fun h273 => ?_)
                · skip
                  rw [lg_cmp_eq] at h273
                  refine lv_goto (tgt := 1486) hx hb d_Law_law_278 (by decide) ?_
                  refine W.widen (k := cells + 1) (n := slots + 6) (by omega) (by omega) ?_
                  exact K _ _ _ _ _ _ _ hC hMM h51 hZ (lv_sub hl [2, 3, 4, 5, 6] rfl)
                · skip
                  rw [lg_cmp_eq] at h273
                  exact absurd ho h273
              · skip
                have h264 : ¬ 0 = 0 := fun z9 => h264 ((nI_eq (a := 0) (b := 0) (by omega) (by omega)).mpr z9)
                exact absurd h264 (by decide)
          · skip
            have h249 : ¬ 0 = 0 := fun z9 => h249 ((nI_eq (a := 0) (b := 0) (by omega) (by omega)).mpr z9)
            exact absurd h249 (by decide)
    · skip
      refine lv_aload_n hx hb d_Law_law_116 rfl (lv_at hl 2 rfl) ?_
      refine lv_aload_n hx hb d_Law_law_117 rfl (lv_at hl 1 rfl) ?_
      refine lv_iload hx hb d_Law_law_118 (lv_at hl 0 rfl) ?_
      refine lv_iconst (v := (nI 1)) hx hb d_Law_law_120 rfl ?_
      refine lv_iadd hx hb d_Law_law_121 ?_
      refine q_topi (y := nI (i + 1)) (nI_add _ _) ?_
      refine q_sld hx hb hX hbl hbA hZ.2.2 ((i + 1)) rfl (by omega) (by omega) d_Law_law_122 ?_
      refine lv_aload_n hx hb d_Law_law_123 rfl (lv_at hl 1 rfl) ?_
      refine lv_iload hx hb d_Law_law_124 (lv_at hl 0 rfl) ?_
      refine lv_iconst (v := (nI 2)) hx hb d_Law_law_126 rfl ?_
      refine lv_iadd hx hb d_Law_law_127 ?_
      refine q_topi (y := nI (i + 2)) (nI_add _ _) ?_
      refine q_sld hx hb hX hbl hbA hZ.2.2 ((i + 2)) rfl (by omega) (by omega) d_Law_law_128 ?_
      refine lv_aload_n hx hb d_Law_law_129 rfl (lv_at hl 1 rfl) ?_
      refine lv_iload hx hb d_Law_law_130 (lv_at hl 0 rfl) ?_
      refine lv_iconst (v := (nI 3)) hx hb d_Law_law_132 rfl ?_
      refine lv_iadd hx hb d_Law_law_133 ?_
      refine q_topi (y := nI (i + 3)) (nI_add _ _) ?_
      refine q_sld hx hb hX hbl hbA hZ.2.2 ((i + 3)) rfl (by omega) (by omega) d_Law_law_134 ?_
      refine lv_i2l (v := (xs (i + 3)).toInt64) hx hb d_Law_law_135 rfl ?_
      refine lv_bipush (v := (nI 32)) hx hb d_Law_law_136 rfl ?_
      refine lv_lshl (v := ((xs (i + 3)).toInt64) <<< ((nI 32).toInt64 &&& 63)) hx hb d_Law_law_138 rfl ?_
      refine lv_aload_n hx hb d_Law_law_139 rfl (lv_at hl 1 rfl) ?_
      refine lv_iload hx hb d_Law_law_140 (lv_at hl 0 rfl) ?_
      refine lv_iconst (v := (nI 4)) hx hb d_Law_law_142 rfl ?_
      refine lv_iadd hx hb d_Law_law_143 ?_
      refine q_topi (y := nI (i + 4)) (nI_add _ _) ?_
      refine q_sld hx hb hX hbl hbA hZ.2.2 ((i + 4)) rfl (by omega) (by omega) d_Law_law_144 ?_
      refine lv_i2l (v := (xs (i + 4)).toInt64) hx hb d_Law_law_145 rfl ?_
      refine lv_ldc2 (v := 4294967295) hx hb hown (hts _ (gm k_577)) d_Law_law_146 ?_
      refine lv_land hx hb d_Law_law_149 ?_
      refine lv_lor hx hb d_Law_law_150 ?_
      refine q_topl (y := lj (xs (i + 3)) (xs (i + 4))) rfl ?_
      refine lv_aload_n hx hb d_Law_law_151 rfl (lv_at hl 1 rfl) ?_
      refine lv_iload hx hb d_Law_law_152 (lv_at hl 0 rfl) ?_
      refine lv_iconst (v := (nI 5)) hx hb d_Law_law_154 rfl ?_
      refine lv_iadd hx hb d_Law_law_155 ?_
      refine q_topi (y := nI (i + 5)) (nI_add _ _) ?_
      refine q_sld hx hb hX hbl hbA hZ.2.2 ((i + 5)) rfl (by omega) (by omega) d_Law_law_156 ?_
      refine lv_i2l (v := (xs (i + 5)).toInt64) hx hb d_Law_law_157 rfl ?_
      refine lv_bipush (v := (nI 32)) hx hb d_Law_law_158 rfl ?_
      refine lv_lshl (v := ((xs (i + 5)).toInt64) <<< ((nI 32).toInt64 &&& 63)) hx hb d_Law_law_160 rfl ?_
      refine lv_aload_n hx hb d_Law_law_161 rfl (lv_at hl 1 rfl) ?_
      refine lv_iload hx hb d_Law_law_162 (lv_at hl 0 rfl) ?_
      refine lv_bipush (v := (nI 6)) hx hb d_Law_law_164 rfl ?_
      refine lv_iadd hx hb d_Law_law_166 ?_
      refine q_topi (y := nI (i + 6)) (nI_add _ _) ?_
      refine q_sld hx hb hX hbl hbA hZ.2.2 ((i + 6)) rfl (by omega) (by omega) d_Law_law_167 ?_
      refine lv_i2l (v := (xs (i + 6)).toInt64) hx hb d_Law_law_168 rfl ?_
      refine lv_ldc2 (v := 4294967295) hx hb hown (hts _ (gm k_577)) d_Law_law_169 ?_
      refine lv_land hx hb d_Law_law_172 ?_
      refine lv_lor hx hb d_Law_law_173 ?_
      refine q_topl (y := lj (xs (i + 5)) (xs (i + 6))) rfl ?_
      refine lv_aload_n hx hb d_Law_law_174 rfl (lv_at hl 4 rfl) ?_
      refine q_calliX (vx_runSW (As := [.ref (ad 0), .int (xs (i + 1)), .int (xs (i + 2)), .long (lj (xs (i + 3)) (xs (i + 4))), .long (lj (xs (i + 5)) (xs (i + 6))), .ref (ad 51)]) (rest := []) ⟨hx, hb, hml, hown, hts⟩ (xp_Law_set l hfl dC dI cI cL cB ad s.heap.size w (xs (i + 1)) (xs (i + 2)) (lj (xs (i + 3)) (xs (i + 4))) (lj (xs (i + 5)) (xs (i + 6))) (sC_0 hC) hB hQ) (vx_cwSW 6 hts (gI_S k_111 k_109 k_110 k_20) rfl rfl rfl (by decide +kernel) ⟨Nat.le_of_ble_eq_true rfl, Nat.le_of_ble_eq_true rfl⟩) (q_pre hK hAm hZ hN [.ref (ad 0), .int (xs (i + 1)), .int (xs (i + 2)), .long (lj (xs (i + 3)) (xs (i + 4))), .long (lj (xs (i + 5)) (xs (i + 6))), .ref (ad 51)]) rfl rfl hl.1 rfl (lv_room (Nat.le_of_ble_eq_true rfl)) d_Law_law_175 hc1) hZ (fun r u_r H locs h_r hZ => ?_)
      obtain ⟨e_r, e_u⟩ := h_r
      rw [e_u] at hZ
      refine q_topi (y := nI 2) e_r ?_
      refine lv_istore (lv' := [(5, .int (nI 2)), (4, .int (nI i)), (0, .ref b), (1, .ref (ad 0)), (2, .ref (ad 43)), (3, .ref (ad 51))]) hx hb d_Law_law_178 hl (by decide) rfl (fun ls hl => ?_)
      refine lv_aload_n hx hb d_Law_law_180 rfl (lv_at hl 4 rfl) ?_
      refine lv_aload_n hx hb d_Law_law_181 rfl (lv_at hl 2 rfl) ?_
      refine lv_iload hx hb d_Law_law_182 (lv_at hl 1 rfl) ?_
      refine lv_iconst (v := (nI 1)) hx hb d_Law_law_184 rfl ?_
      refine lv_iadd hx hb d_Law_law_185 ?_
      refine q_topi (y := nI (i + 1)) (nI_add _ _) ?_
      refine q_sld hx hb hX hbl hbA hZ.2.2 ((i + 1)) rfl (by omega) (by omega) d_Law_law_186 ?_
      refine lv_aload_n hx hb d_Law_law_187 rfl (lv_at hl 2 rfl) ?_
      refine lv_iload hx hb d_Law_law_188 (lv_at hl 1 rfl) ?_
      refine lv_iconst (v := (nI 2)) hx hb d_Law_law_190 rfl ?_
      refine lv_iadd hx hb d_Law_law_191 ?_
      refine q_topi (y := nI (i + 2)) (nI_add _ _) ?_
      refine q_sld hx hb hX hbl hbA hZ.2.2 ((i + 2)) rfl (by omega) (by omega) d_Law_law_192 ?_
      refine lv_aload_n hx hb d_Law_law_193 rfl (lv_at hl 2 rfl) ?_
      refine lv_iload hx hb d_Law_law_194 (lv_at hl 1 rfl) ?_
      refine lv_iconst (v := (nI 3)) hx hb d_Law_law_196 rfl ?_
      refine lv_iadd hx hb d_Law_law_197 ?_
      refine q_topi (y := nI (i + 3)) (nI_add _ _) ?_
      refine q_sld hx hb hX hbl hbA hZ.2.2 ((i + 3)) rfl (by omega) (by omega) d_Law_law_198 ?_
      refine lv_i2l (v := (xs (i + 3)).toInt64) hx hb d_Law_law_199 rfl ?_
      refine lv_bipush (v := (nI 32)) hx hb d_Law_law_200 rfl ?_
      refine lv_lshl (v := ((xs (i + 3)).toInt64) <<< ((nI 32).toInt64 &&& 63)) hx hb d_Law_law_202 rfl ?_
      refine lv_aload_n hx hb d_Law_law_203 rfl (lv_at hl 2 rfl) ?_
      refine lv_iload hx hb d_Law_law_204 (lv_at hl 1 rfl) ?_
      refine lv_iconst (v := (nI 4)) hx hb d_Law_law_206 rfl ?_
      refine lv_iadd hx hb d_Law_law_207 ?_
      refine q_topi (y := nI (i + 4)) (nI_add _ _) ?_
      refine q_sld hx hb hX hbl hbA hZ.2.2 ((i + 4)) rfl (by omega) (by omega) d_Law_law_208 ?_
      refine lv_i2l (v := (xs (i + 4)).toInt64) hx hb d_Law_law_209 rfl ?_
      refine lv_ldc2 (v := 4294967295) hx hb hown (hts _ (gm k_577)) d_Law_law_210 ?_
      refine lv_land hx hb d_Law_law_213 ?_
      refine lv_lor hx hb d_Law_law_214 ?_
      refine q_topl (y := lj (xs (i + 3)) (xs (i + 4))) rfl ?_
      refine lv_aload_n hx hb d_Law_law_215 rfl (lv_at hl 2 rfl) ?_
      refine lv_iload hx hb d_Law_law_216 (lv_at hl 1 rfl) ?_
      refine lv_iconst (v := (nI 5)) hx hb d_Law_law_218 rfl ?_
      refine lv_iadd hx hb d_Law_law_219 ?_
      refine q_topi (y := nI (i + 5)) (nI_add _ _) ?_
      refine q_sld hx hb hX hbl hbA hZ.2.2 ((i + 5)) rfl (by omega) (by omega) d_Law_law_220 ?_
      refine lv_i2l (v := (xs (i + 5)).toInt64) hx hb d_Law_law_221 rfl ?_
      refine lv_bipush (v := (nI 32)) hx hb d_Law_law_222 rfl ?_
      refine lv_lshl (v := ((xs (i + 5)).toInt64) <<< ((nI 32).toInt64 &&& 63)) hx hb d_Law_law_224 rfl ?_
      refine lv_aload_n hx hb d_Law_law_225 rfl (lv_at hl 2 rfl) ?_
      refine lv_iload hx hb d_Law_law_226 (lv_at hl 1 rfl) ?_
      refine lv_bipush (v := (nI 6)) hx hb d_Law_law_228 rfl ?_
      refine lv_iadd hx hb d_Law_law_230 ?_
      refine q_topi (y := nI (i + 6)) (nI_add _ _) ?_
      refine q_sld hx hb hX hbl hbA hZ.2.2 ((i + 6)) rfl (by omega) (by omega) d_Law_law_231 ?_
      refine lv_i2l (v := (xs (i + 6)).toInt64) hx hb d_Law_law_232 rfl ?_
      refine lv_ldc2 (v := 4294967295) hx hb hown (hts _ (gm k_577)) d_Law_law_233 ?_
      refine lv_land hx hb d_Law_law_236 ?_
      refine lv_lor hx hb d_Law_law_237 ?_
      refine q_topl (y := lj (xs (i + 5)) (xs (i + 6))) rfl ?_
      obtain ⟨fs43, h43⟩ := sM_43 hMM
      refine q_calli (va_runV (As := [.int (xs (i + 1)), .int (xs (i + 2)), .long (lj (xs (i + 3)) (xs (i + 4))), .long (lj (xs (i + 5)) (xs (i + 6)))]) (rest := []) ⟨hx, hb, hml, hown, hts⟩ (x_Mod_set l dC dI cI cL cB ad s.heap.size w t0 F (xs (i + 1)) (xs (i + 2)) (lj (xs (i + 3)) (xs (i + 4))) (lj (xs (i + 5)) (xs (i + 6))) (nI 2) hMM (Or.inr ⟨⟨hB, okB_0, okB_0⟩, hQ, rfl⟩)) (cwV 4 hts (gI_V k_458 k_455 k_456 k_457 k_24) rfl rfl rfl (by decide +kernel) ⟨Nat.le_of_ble_eq_true rfl, Nat.le_of_ble_eq_true rfl⟩) (q_preV hK hAm hZ hN [.int (xs (i + 1)), .int (xs (i + 2)), .long (lj (xs (i + 3)) (xs (i + 4))), .long (lj (xs (i + 5)) (xs (i + 6)))] (43) 3 (by decide) h43 rfl) rfl rfl hl.1 rfl (lv_room (Nat.le_of_ble_eq_true rfl)) d_Law_law_238 hc1) hZ (fun v u_v H locs h_v hZ => ?_)
      obtain ⟨hfr, hres2⟩ := h_v
      have h51 := (hfr 51 (by omega)).trans h51
      have hMM := hres2
      have hC := sC_fr hC (fun x hx => hfr x (by omega))
      refine lv_istore (lv' := [(6, .int v), (5, .int (nI 2)), (4, .int (nI i)), (0, .ref b), (1, .ref (ad 0)), (2, .ref (ad 43)), (3, .ref (ad 51))]) hx hb d_Law_law_241 hl (by decide) rfl (fun ls hl => ?_)
      refine lv_aload_n hx hb d_Law_law_243 rfl (lv_at hl 5 rfl) ?_
      obtain ⟨fs43, h43⟩ := sM_43 hMM
      refine q_calli (va_runV (As := []) (rest := []) ⟨hx, hb, hml, hown, hts⟩ (c_Mod_thrown l dC dI cI cL cB ad s.heap.size u_v _ _ hMM) (cwV 0 hts (gI_V k_454 k_451 k_452 k_453 k_24) rfl rfl rfl (by decide +kernel) ⟨Nat.le_of_ble_eq_true rfl, Nat.le_of_ble_eq_true rfl⟩) (q_preV hK hAm hZ hN [] (43) 3 (by decide) h43 rfl) rfl rfl hl.1 rfl (lv_room (Nat.le_of_ble_eq_true rfl)) d_Law_law_244 hc1) hZ (fun th u_th H locs h_th hZ => ?_)
      obtain ⟨e_th, e_t⟩ := h_th
      rw [e_th] at hZ
      refine q_topi (y := nI 2) e_t ?_
      refine lv_iload hx hb d_Law_law_247 (lv_at hl 1 rfl) ?_
      refine lv_icmp_eq (tgt := 254) hx hb d_Law_law_249 (by decide) (fun h249 => ?_) (fun h249 => ?_)
      · skip
        have h249 : 2 = 2 := (nI_eq (a := 2) (b := 2) (by omega) (by omega)).mp h249
        refine lv_iload hx hb d_Law_law_254 (lv_at hl 1 rfl) ?_
        refine lv_if_ne (tgt := 278) hx hb d_Law_law_256 (by decide) (fun h256 => ?_) (fun h256 => ?_)
        · skip
          have h256 : ¬ 2 = 0 := fun z9 => h256 ((nI_eq (a := 2) (b := 0) (by omega) (by omega)).mpr z9)
          refine lv_goto (tgt := 1486) hx hb d_Law_law_278 (by decide) ?_
          exact K _ _ _ _ _ _ _ hC hMM h51 hZ (lv_sub hl [2, 3, 4, 5, 6] rfl)
        · skip
          have h256 : 2 = 0 := (nI_eq (a := 2) (b := 0) (by omega) (by omega)).mp h256
          exact absurd h256 (by decide)
      · skip
        have h249 : ¬ 2 = 2 := fun z9 => h249 ((nI_eq (a := 2) (b := 2) (by omega) (by omega)).mpr z9)
        exact absurd h249 (by decide)
  · skip
    refine lv_aload_n hx hb d_Law_law_116 rfl (lv_at hl 2 rfl) ?_
    refine lv_aload_n hx hb d_Law_law_117 rfl (lv_at hl 1 rfl) ?_
    refine lv_iload hx hb d_Law_law_118 (lv_at hl 0 rfl) ?_
    refine lv_iconst (v := (nI 1)) hx hb d_Law_law_120 rfl ?_
    refine lv_iadd hx hb d_Law_law_121 ?_
    refine q_topi (y := nI (i + 1)) (nI_add _ _) ?_
    refine q_sld hx hb hX hbl hbA hZ.2.2 ((i + 1)) rfl (by omega) (by omega) d_Law_law_122 ?_
    refine lv_aload_n hx hb d_Law_law_123 rfl (lv_at hl 1 rfl) ?_
    refine lv_iload hx hb d_Law_law_124 (lv_at hl 0 rfl) ?_
    refine lv_iconst (v := (nI 2)) hx hb d_Law_law_126 rfl ?_
    refine lv_iadd hx hb d_Law_law_127 ?_
    refine q_topi (y := nI (i + 2)) (nI_add _ _) ?_
    refine q_sld hx hb hX hbl hbA hZ.2.2 ((i + 2)) rfl (by omega) (by omega) d_Law_law_128 ?_
    refine lv_aload_n hx hb d_Law_law_129 rfl (lv_at hl 1 rfl) ?_
    refine lv_iload hx hb d_Law_law_130 (lv_at hl 0 rfl) ?_
    refine lv_iconst (v := (nI 3)) hx hb d_Law_law_132 rfl ?_
    refine lv_iadd hx hb d_Law_law_133 ?_
    refine q_topi (y := nI (i + 3)) (nI_add _ _) ?_
    refine q_sld hx hb hX hbl hbA hZ.2.2 ((i + 3)) rfl (by omega) (by omega) d_Law_law_134 ?_
    refine lv_i2l (v := (xs (i + 3)).toInt64) hx hb d_Law_law_135 rfl ?_
    refine lv_bipush (v := (nI 32)) hx hb d_Law_law_136 rfl ?_
    refine lv_lshl (v := ((xs (i + 3)).toInt64) <<< ((nI 32).toInt64 &&& 63)) hx hb d_Law_law_138 rfl ?_
    refine lv_aload_n hx hb d_Law_law_139 rfl (lv_at hl 1 rfl) ?_
    refine lv_iload hx hb d_Law_law_140 (lv_at hl 0 rfl) ?_
    refine lv_iconst (v := (nI 4)) hx hb d_Law_law_142 rfl ?_
    refine lv_iadd hx hb d_Law_law_143 ?_
    refine q_topi (y := nI (i + 4)) (nI_add _ _) ?_
    refine q_sld hx hb hX hbl hbA hZ.2.2 ((i + 4)) rfl (by omega) (by omega) d_Law_law_144 ?_
    refine lv_i2l (v := (xs (i + 4)).toInt64) hx hb d_Law_law_145 rfl ?_
    refine lv_ldc2 (v := 4294967295) hx hb hown (hts _ (gm k_577)) d_Law_law_146 ?_
    refine lv_land hx hb d_Law_law_149 ?_
    refine lv_lor hx hb d_Law_law_150 ?_
    refine q_topl (y := lj (xs (i + 3)) (xs (i + 4))) rfl ?_
    refine lv_aload_n hx hb d_Law_law_151 rfl (lv_at hl 1 rfl) ?_
    refine lv_iload hx hb d_Law_law_152 (lv_at hl 0 rfl) ?_
    refine lv_iconst (v := (nI 5)) hx hb d_Law_law_154 rfl ?_
    refine lv_iadd hx hb d_Law_law_155 ?_
    refine q_topi (y := nI (i + 5)) (nI_add _ _) ?_
    refine q_sld hx hb hX hbl hbA hZ.2.2 ((i + 5)) rfl (by omega) (by omega) d_Law_law_156 ?_
    refine lv_i2l (v := (xs (i + 5)).toInt64) hx hb d_Law_law_157 rfl ?_
    refine lv_bipush (v := (nI 32)) hx hb d_Law_law_158 rfl ?_
    refine lv_lshl (v := ((xs (i + 5)).toInt64) <<< ((nI 32).toInt64 &&& 63)) hx hb d_Law_law_160 rfl ?_
    refine lv_aload_n hx hb d_Law_law_161 rfl (lv_at hl 1 rfl) ?_
    refine lv_iload hx hb d_Law_law_162 (lv_at hl 0 rfl) ?_
    refine lv_bipush (v := (nI 6)) hx hb d_Law_law_164 rfl ?_
    refine lv_iadd hx hb d_Law_law_166 ?_
    refine q_topi (y := nI (i + 6)) (nI_add _ _) ?_
    refine q_sld hx hb hX hbl hbA hZ.2.2 ((i + 6)) rfl (by omega) (by omega) d_Law_law_167 ?_
    refine lv_i2l (v := (xs (i + 6)).toInt64) hx hb d_Law_law_168 rfl ?_
    refine lv_ldc2 (v := 4294967295) hx hb hown (hts _ (gm k_577)) d_Law_law_169 ?_
    refine lv_land hx hb d_Law_law_172 ?_
    refine lv_lor hx hb d_Law_law_173 ?_
    refine q_topl (y := lj (xs (i + 5)) (xs (i + 6))) rfl ?_
    refine lv_aload_n hx hb d_Law_law_174 rfl (lv_at hl 4 rfl) ?_
    refine q_calliX (vx_runSW (As := [.ref (ad 0), .int (xs (i + 1)), .int (xs (i + 2)), .long (lj (xs (i + 3)) (xs (i + 4))), .long (lj (xs (i + 5)) (xs (i + 6))), .ref (ad 51)]) (rest := []) ⟨hx, hb, hml, hown, hts⟩ (xb_Law_set l hfl dC dI cI cL cB ad s.heap.size w (xs (i + 1)) (xs (i + 2)) (lj (xs (i + 3)) (xs (i + 4))) (lj (xs (i + 5)) (xs (i + 6))) (sC_0 hC) hB) (vx_cwSW 6 hts (gI_S k_111 k_109 k_110 k_20) rfl rfl rfl (by decide +kernel) ⟨Nat.le_of_ble_eq_true rfl, Nat.le_of_ble_eq_true rfl⟩) (q_pre hK hAm hZ hN [.ref (ad 0), .int (xs (i + 1)), .int (xs (i + 2)), .long (lj (xs (i + 3)) (xs (i + 4))), .long (lj (xs (i + 5)) (xs (i + 6))), .ref (ad 51)]) rfl rfl hl.1 rfl (lv_room (Nat.le_of_ble_eq_true rfl)) d_Law_law_175 hc1) hZ (fun r u_r H locs h_r hZ => ?_)
    obtain ⟨e_r, e_u⟩ := h_r
    rw [e_u] at hZ
    refine q_topi (y := nI 1) e_r ?_
    refine lv_istore (lv' := [(5, .int (nI 1)), (4, .int (nI i)), (0, .ref b), (1, .ref (ad 0)), (2, .ref (ad 43)), (3, .ref (ad 51))]) hx hb d_Law_law_178 hl (by decide) rfl (fun ls hl => ?_)
    refine lv_aload_n hx hb d_Law_law_180 rfl (lv_at hl 4 rfl) ?_
    refine lv_aload_n hx hb d_Law_law_181 rfl (lv_at hl 2 rfl) ?_
    refine lv_iload hx hb d_Law_law_182 (lv_at hl 1 rfl) ?_
    refine lv_iconst (v := (nI 1)) hx hb d_Law_law_184 rfl ?_
    refine lv_iadd hx hb d_Law_law_185 ?_
    refine q_topi (y := nI (i + 1)) (nI_add _ _) ?_
    refine q_sld hx hb hX hbl hbA hZ.2.2 ((i + 1)) rfl (by omega) (by omega) d_Law_law_186 ?_
    refine lv_aload_n hx hb d_Law_law_187 rfl (lv_at hl 2 rfl) ?_
    refine lv_iload hx hb d_Law_law_188 (lv_at hl 1 rfl) ?_
    refine lv_iconst (v := (nI 2)) hx hb d_Law_law_190 rfl ?_
    refine lv_iadd hx hb d_Law_law_191 ?_
    refine q_topi (y := nI (i + 2)) (nI_add _ _) ?_
    refine q_sld hx hb hX hbl hbA hZ.2.2 ((i + 2)) rfl (by omega) (by omega) d_Law_law_192 ?_
    refine lv_aload_n hx hb d_Law_law_193 rfl (lv_at hl 2 rfl) ?_
    refine lv_iload hx hb d_Law_law_194 (lv_at hl 1 rfl) ?_
    refine lv_iconst (v := (nI 3)) hx hb d_Law_law_196 rfl ?_
    refine lv_iadd hx hb d_Law_law_197 ?_
    refine q_topi (y := nI (i + 3)) (nI_add _ _) ?_
    refine q_sld hx hb hX hbl hbA hZ.2.2 ((i + 3)) rfl (by omega) (by omega) d_Law_law_198 ?_
    refine lv_i2l (v := (xs (i + 3)).toInt64) hx hb d_Law_law_199 rfl ?_
    refine lv_bipush (v := (nI 32)) hx hb d_Law_law_200 rfl ?_
    refine lv_lshl (v := ((xs (i + 3)).toInt64) <<< ((nI 32).toInt64 &&& 63)) hx hb d_Law_law_202 rfl ?_
    refine lv_aload_n hx hb d_Law_law_203 rfl (lv_at hl 2 rfl) ?_
    refine lv_iload hx hb d_Law_law_204 (lv_at hl 1 rfl) ?_
    refine lv_iconst (v := (nI 4)) hx hb d_Law_law_206 rfl ?_
    refine lv_iadd hx hb d_Law_law_207 ?_
    refine q_topi (y := nI (i + 4)) (nI_add _ _) ?_
    refine q_sld hx hb hX hbl hbA hZ.2.2 ((i + 4)) rfl (by omega) (by omega) d_Law_law_208 ?_
    refine lv_i2l (v := (xs (i + 4)).toInt64) hx hb d_Law_law_209 rfl ?_
    refine lv_ldc2 (v := 4294967295) hx hb hown (hts _ (gm k_577)) d_Law_law_210 ?_
    refine lv_land hx hb d_Law_law_213 ?_
    refine lv_lor hx hb d_Law_law_214 ?_
    refine q_topl (y := lj (xs (i + 3)) (xs (i + 4))) rfl ?_
    refine lv_aload_n hx hb d_Law_law_215 rfl (lv_at hl 2 rfl) ?_
    refine lv_iload hx hb d_Law_law_216 (lv_at hl 1 rfl) ?_
    refine lv_iconst (v := (nI 5)) hx hb d_Law_law_218 rfl ?_
    refine lv_iadd hx hb d_Law_law_219 ?_
    refine q_topi (y := nI (i + 5)) (nI_add _ _) ?_
    refine q_sld hx hb hX hbl hbA hZ.2.2 ((i + 5)) rfl (by omega) (by omega) d_Law_law_220 ?_
    refine lv_i2l (v := (xs (i + 5)).toInt64) hx hb d_Law_law_221 rfl ?_
    refine lv_bipush (v := (nI 32)) hx hb d_Law_law_222 rfl ?_
    refine lv_lshl (v := ((xs (i + 5)).toInt64) <<< ((nI 32).toInt64 &&& 63)) hx hb d_Law_law_224 rfl ?_
    refine lv_aload_n hx hb d_Law_law_225 rfl (lv_at hl 2 rfl) ?_
    refine lv_iload hx hb d_Law_law_226 (lv_at hl 1 rfl) ?_
    refine lv_bipush (v := (nI 6)) hx hb d_Law_law_228 rfl ?_
    refine lv_iadd hx hb d_Law_law_230 ?_
    refine q_topi (y := nI (i + 6)) (nI_add _ _) ?_
    refine q_sld hx hb hX hbl hbA hZ.2.2 ((i + 6)) rfl (by omega) (by omega) d_Law_law_231 ?_
    refine lv_i2l (v := (xs (i + 6)).toInt64) hx hb d_Law_law_232 rfl ?_
    refine lv_ldc2 (v := 4294967295) hx hb hown (hts _ (gm k_577)) d_Law_law_233 ?_
    refine lv_land hx hb d_Law_law_236 ?_
    refine lv_lor hx hb d_Law_law_237 ?_
    refine q_topl (y := lj (xs (i + 5)) (xs (i + 6))) rfl ?_
    obtain ⟨fs43, h43⟩ := sM_43 hMM
    refine q_calli (va_runV (As := [.int (xs (i + 1)), .int (xs (i + 2)), .long (lj (xs (i + 3)) (xs (i + 4))), .long (lj (xs (i + 5)) (xs (i + 6)))]) (rest := []) ⟨hx, hb, hml, hown, hts⟩ (x_Mod_set l dC dI cI cL cB ad s.heap.size w t0 F (xs (i + 1)) (xs (i + 2)) (lj (xs (i + 3)) (xs (i + 4))) (lj (xs (i + 5)) (xs (i + 6))) (nI 1) hMM (Or.inl ⟨fun z => hB z.1, rfl⟩)) (cwV 4 hts (gI_V k_458 k_455 k_456 k_457 k_24) rfl rfl rfl (by decide +kernel) ⟨Nat.le_of_ble_eq_true rfl, Nat.le_of_ble_eq_true rfl⟩) (q_preV hK hAm hZ hN [.int (xs (i + 1)), .int (xs (i + 2)), .long (lj (xs (i + 3)) (xs (i + 4))), .long (lj (xs (i + 5)) (xs (i + 6)))] (43) 3 (by decide) h43 rfl) rfl rfl hl.1 rfl (lv_room (Nat.le_of_ble_eq_true rfl)) d_Law_law_238 hc1) hZ (fun v u_v H locs h_v hZ => ?_)
    obtain ⟨hfr, hres2⟩ := h_v
    have h51 := (hfr 51 (by omega)).trans h51
    have hMM := hres2
    have hC := sC_fr hC (fun x hx => hfr x (by omega))
    refine lv_istore (lv' := [(6, .int v), (5, .int (nI 1)), (4, .int (nI i)), (0, .ref b), (1, .ref (ad 0)), (2, .ref (ad 43)), (3, .ref (ad 51))]) hx hb d_Law_law_241 hl (by decide) rfl (fun ls hl => ?_)
    refine lv_aload_n hx hb d_Law_law_243 rfl (lv_at hl 5 rfl) ?_
    obtain ⟨fs43, h43⟩ := sM_43 hMM
    refine q_calli (va_runV (As := []) (rest := []) ⟨hx, hb, hml, hown, hts⟩ (c_Mod_thrown l dC dI cI cL cB ad s.heap.size u_v _ _ hMM) (cwV 0 hts (gI_V k_454 k_451 k_452 k_453 k_24) rfl rfl rfl (by decide +kernel) ⟨Nat.le_of_ble_eq_true rfl, Nat.le_of_ble_eq_true rfl⟩) (q_preV hK hAm hZ hN [] (43) 3 (by decide) h43 rfl) rfl rfl hl.1 rfl (lv_room (Nat.le_of_ble_eq_true rfl)) d_Law_law_244 hc1) hZ (fun th u_th H locs h_th hZ => ?_)
    obtain ⟨e_th, e_t⟩ := h_th
    rw [e_th] at hZ
    refine q_topi (y := nI 1) e_t ?_
    refine lv_iload hx hb d_Law_law_247 (lv_at hl 1 rfl) ?_
    refine lv_icmp_eq (tgt := 254) hx hb d_Law_law_249 (by decide) (fun h249 => ?_) (fun h249 => ?_)
    · skip
      have h249 : 1 = 1 := (nI_eq (a := 1) (b := 1) (by omega) (by omega)).mp h249
      refine lv_iload hx hb d_Law_law_254 (lv_at hl 1 rfl) ?_
      refine lv_if_ne (tgt := 278) hx hb d_Law_law_256 (by decide) (fun h256 => ?_) (fun h256 => ?_)
      · skip
        have h256 : ¬ 1 = 0 := fun z9 => h256 ((nI_eq (a := 1) (b := 0) (by omega) (by omega)).mpr z9)
        refine lv_goto (tgt := 1486) hx hb d_Law_law_278 (by decide) ?_
        exact K _ _ _ _ _ _ _ hC hMM h51 hZ (lv_sub hl [2, 3, 4, 5, 6] rfl)
      · skip
        have h256 : 1 = 0 := (nI_eq (a := 1) (b := 0) (by omega) (by omega)).mp h256
        exact absurd h256 (by decide)
    · skip
      have h249 : ¬ 1 = 1 := fun z9 => h249 ((nI_eq (a := 1) (b := 1) (by omega) (by omega)).mpr z9)
      exact absurd h249 (by decide)
set_option maxHeartbeats 4000000 in
set_option maxRecDepth 100000 in
/-- put -/
theorem law_1 {p : Program} {e : Env} {s : State} {m : MethodId} {below : List Frame} {meth : Method} {c : Code} (l : Launch) (hfl : l.stackTraces = false) {b L : Nat} {xs : Nat → Int32} (C0 : lw_At p s m meth c b L xs) (dC : Nat → ClassId) (dI : Nat → Nat → Nat) (cI cL cB : ClassId) (ad : Nat → Nat) (hK : va_K (dC, dI) vCl [(cI, .int), (cL, .long), (cB, .object "CoinBag$Bag")] s) (hAm : sAm s.heap.size s) (i : Nat) (hi : i + 7 ≤ L) (hL : L ≤ 3584) (cells slots : Nat) (hc1 : cells + 1 ≤ room_1.cells ∧ slots + 6 ≤ room_1.slots) (K : lawK p l e s m below meth c b dC dI cI cL cB ad i (cells + 1) (slots + 6)) (w : Nat → va_E) (F : Nat → Int → Int64) (o : Nat → Int64) (t0 : Int32) (H : Heap) (locs : List Loc) (ls : Array Slot) (hC : sC ad cI cL cB w F) (hMM : sM ad cI cL w t0 F) (h51 : w 51 = .inl (cL, 1, .inr (.inl o))) (hZ : sZ (dC, dI) vCl 52 ad (fun q => s.heap.size ≤ q) s.heap w H locs) (hl : lv_has ls 8 [(4, .int (nI i)), (0, .ref b), (1, .ref (ad 0)), (2, .ref (ad 43)), (3, .ref (ad 51))]) : W p l e room_1 s m #[Value.ref b] below meth c H locs cells slots (lw_Z below #[Value.ref b] s) (F0 m 281 ls []) := by
  obtain ⟨hx, hb, hr, hml, hown, hts0, hX, hbl, hlocks, hgv⟩ := id C0
  have hts := law_hts hts0
  have hN : s.heap.size ≤ s.heap.size := Nat.le_refl _
  have hbA : ¬ (fun q => s.heap.size ≤ q) b := Nat.not_le.mpr hbl
  have hc0 : cells + 0 ≤ room_1.cells ∧ slots + 0 ≤ room_1.slots := ⟨Nat.le_trans (Nat.le_succ _) hc1.1, Nat.le_trans (by omega) hc1.2⟩
  by_cases hB : okB (xs (i + 1))
  · skip
    obtain ⟨j1, hj1, ej1⟩ := okB_nat hB
    by_cases hQ : okP (xs (i + 2))
    · skip
      refine lv_aload_n hx hb d_Law_law_281 rfl (lv_at hl 2 rfl) ?_
      refine lv_aload_n hx hb d_Law_law_282 rfl (lv_at hl 1 rfl) ?_
      refine lv_iload hx hb d_Law_law_283 (lv_at hl 0 rfl) ?_
      refine lv_iconst (v := (nI 1)) hx hb d_Law_law_285 rfl ?_
      refine lv_iadd hx hb d_Law_law_286 ?_
      refine q_topi (y := nI (i + 1)) (nI_add _ _) ?_
      refine q_sld hx hb hX hbl hbA hZ.2.2 ((i + 1)) rfl (by omega) (by omega) d_Law_law_287 ?_
      refine q_topi (y := nI j1) ej1 ?_
      refine lv_aload_n hx hb d_Law_law_288 rfl (lv_at hl 1 rfl) ?_
      refine lv_iload hx hb d_Law_law_289 (lv_at hl 0 rfl) ?_
      refine lv_iconst (v := (nI 2)) hx hb d_Law_law_291 rfl ?_
      refine lv_iadd hx hb d_Law_law_292 ?_
      refine q_topi (y := nI (i + 2)) (nI_add _ _) ?_
      refine q_sld hx hb hX hbl hbA hZ.2.2 ((i + 2)) rfl (by omega) (by omega) d_Law_law_293 ?_
      refine lv_aload_n hx hb d_Law_law_294 rfl (lv_at hl 1 rfl) ?_
      refine lv_iload hx hb d_Law_law_295 (lv_at hl 0 rfl) ?_
      refine lv_iconst (v := (nI 3)) hx hb d_Law_law_297 rfl ?_
      refine lv_iadd hx hb d_Law_law_298 ?_
      refine q_topi (y := nI (i + 3)) (nI_add _ _) ?_
      refine q_sld hx hb hX hbl hbA hZ.2.2 ((i + 3)) rfl (by omega) (by omega) d_Law_law_299 ?_
      refine lv_i2l (v := (xs (i + 3)).toInt64) hx hb d_Law_law_300 rfl ?_
      refine lv_bipush (v := (nI 32)) hx hb d_Law_law_301 rfl ?_
      refine lv_lshl (v := ((xs (i + 3)).toInt64) <<< ((nI 32).toInt64 &&& 63)) hx hb d_Law_law_303 rfl ?_
      refine lv_aload_n hx hb d_Law_law_304 rfl (lv_at hl 1 rfl) ?_
      refine lv_iload hx hb d_Law_law_305 (lv_at hl 0 rfl) ?_
      refine lv_iconst (v := (nI 4)) hx hb d_Law_law_307 rfl ?_
      refine lv_iadd hx hb d_Law_law_308 ?_
      refine q_topi (y := nI (i + 4)) (nI_add _ _) ?_
      refine q_sld hx hb hX hbl hbA hZ.2.2 ((i + 4)) rfl (by omega) (by omega) d_Law_law_309 ?_
      refine lv_i2l (v := (xs (i + 4)).toInt64) hx hb d_Law_law_310 rfl ?_
      refine lv_ldc2 (v := 4294967295) hx hb hown (hts _ (gm k_577)) d_Law_law_311 ?_
      refine lv_land hx hb d_Law_law_314 ?_
      refine lv_lor hx hb d_Law_law_315 ?_
      refine q_topl (y := lj (xs (i + 3)) (xs (i + 4))) rfl ?_
      refine lv_aload_n hx hb d_Law_law_316 rfl (lv_at hl 1 rfl) ?_
      refine lv_iload hx hb d_Law_law_317 (lv_at hl 0 rfl) ?_
      refine lv_iconst (v := (nI 5)) hx hb d_Law_law_319 rfl ?_
      refine lv_iadd hx hb d_Law_law_320 ?_
      refine q_topi (y := nI (i + 5)) (nI_add _ _) ?_
      refine q_sld hx hb hX hbl hbA hZ.2.2 ((i + 5)) rfl (by omega) (by omega) d_Law_law_321 ?_
      refine lv_i2l (v := (xs (i + 5)).toInt64) hx hb d_Law_law_322 rfl ?_
      refine lv_bipush (v := (nI 32)) hx hb d_Law_law_323 rfl ?_
      refine lv_lshl (v := ((xs (i + 5)).toInt64) <<< ((nI 32).toInt64 &&& 63)) hx hb d_Law_law_325 rfl ?_
      refine lv_aload_n hx hb d_Law_law_326 rfl (lv_at hl 1 rfl) ?_
      refine lv_iload hx hb d_Law_law_327 (lv_at hl 0 rfl) ?_
      refine lv_bipush (v := (nI 6)) hx hb d_Law_law_329 rfl ?_
      refine lv_iadd hx hb d_Law_law_331 ?_
      refine q_topi (y := nI (i + 6)) (nI_add _ _) ?_
      refine q_sld hx hb hX hbl hbA hZ.2.2 ((i + 6)) rfl (by omega) (by omega) d_Law_law_332 ?_
      refine lv_i2l (v := (xs (i + 6)).toInt64) hx hb d_Law_law_333 rfl ?_
      refine lv_ldc2 (v := 4294967295) hx hb hown (hts _ (gm k_577)) d_Law_law_334 ?_
      refine lv_land hx hb d_Law_law_337 ?_
      refine lv_lor hx hb d_Law_law_338 ?_
      refine q_topl (y := lj (xs (i + 5)) (xs (i + 6))) rfl ?_
      refine lv_aload_n hx hb d_Law_law_339 rfl (lv_at hl 4 rfl) ?_
      refine q_calli (vx_runSW (As := [.ref (ad 0), .int (nI j1), .int (xs (i + 2)), .long (lj (xs (i + 3)) (xs (i + 4))), .long (lj (xs (i + 5)) (xs (i + 6))), .ref (ad 51)]) (rest := []) ⟨hx, hb, hml, hown, hts⟩ (c_Law_put l dC dI cI cL cB ad s.heap.size w F j1 (xs (i + 2)) (lj (xs (i + 3)) (xs (i + 4))) (lj (xs (i + 5)) (xs (i + 6))) o hC hj1 hQ h51) (vx_cwSW 6 hts (gI_S k_246 k_244 k_245 k_20) rfl rfl rfl (by decide +kernel) ⟨Nat.le_of_ble_eq_true rfl, Nat.le_of_ble_eq_true rfl⟩) (q_pre hK hAm hZ hN [.ref (ad 0), .int (nI j1), .int (xs (i + 2)), .long (lj (xs (i + 3)) (xs (i + 4))), .long (lj (xs (i + 5)) (xs (i + 6))), .ref (ad 51)]) rfl rfl hl.1 rfl (lv_room (Nat.le_of_ble_eq_true rfl)) d_Law_law_340 hc0) hZ (fun r u_r H locs h_r hZ => ?_)
      obtain ⟨e_r, hkp, o2, h51, hres⟩ := h_r
      have hMM := sM_fr hMM (fun x h1 h2 => hkp x (by omega) (by omega))
      refine q_topi (y := nI 0) e_r ?_
      refine lv_istore (lv' := [(5, .int (nI 0)), (4, .int (nI i)), (0, .ref b), (1, .ref (ad 0)), (2, .ref (ad 43)), (3, .ref (ad 51))]) hx hb d_Law_law_343 hl (by decide) rfl (fun ls hl => ?_)
      refine lv_aload_n hx hb d_Law_law_345 rfl (lv_at hl 4 rfl) ?_
      refine lv_aload_n hx hb d_Law_law_346 rfl (lv_at hl 2 rfl) ?_
      refine lv_iload hx hb d_Law_law_347 (lv_at hl 1 rfl) ?_
      refine lv_iconst (v := (nI 1)) hx hb d_Law_law_349 rfl ?_
      refine lv_iadd hx hb d_Law_law_350 ?_
      refine q_topi (y := nI (i + 1)) (nI_add _ _) ?_
      refine q_sld hx hb hX hbl hbA hZ.2.2 ((i + 1)) rfl (by omega) (by omega) d_Law_law_351 ?_
      refine q_topi (y := nI j1) ej1 ?_
      refine lv_aload_n hx hb d_Law_law_352 rfl (lv_at hl 2 rfl) ?_
      refine lv_iload hx hb d_Law_law_353 (lv_at hl 1 rfl) ?_
      refine lv_iconst (v := (nI 2)) hx hb d_Law_law_355 rfl ?_
      refine lv_iadd hx hb d_Law_law_356 ?_
      refine q_topi (y := nI (i + 2)) (nI_add _ _) ?_
      refine q_sld hx hb hX hbl hbA hZ.2.2 ((i + 2)) rfl (by omega) (by omega) d_Law_law_357 ?_
      refine lv_aload_n hx hb d_Law_law_358 rfl (lv_at hl 2 rfl) ?_
      refine lv_iload hx hb d_Law_law_359 (lv_at hl 1 rfl) ?_
      refine lv_iconst (v := (nI 3)) hx hb d_Law_law_361 rfl ?_
      refine lv_iadd hx hb d_Law_law_362 ?_
      refine q_topi (y := nI (i + 3)) (nI_add _ _) ?_
      refine q_sld hx hb hX hbl hbA hZ.2.2 ((i + 3)) rfl (by omega) (by omega) d_Law_law_363 ?_
      refine lv_i2l (v := (xs (i + 3)).toInt64) hx hb d_Law_law_364 rfl ?_
      refine lv_bipush (v := (nI 32)) hx hb d_Law_law_365 rfl ?_
      refine lv_lshl (v := ((xs (i + 3)).toInt64) <<< ((nI 32).toInt64 &&& 63)) hx hb d_Law_law_367 rfl ?_
      refine lv_aload_n hx hb d_Law_law_368 rfl (lv_at hl 2 rfl) ?_
      refine lv_iload hx hb d_Law_law_369 (lv_at hl 1 rfl) ?_
      refine lv_iconst (v := (nI 4)) hx hb d_Law_law_371 rfl ?_
      refine lv_iadd hx hb d_Law_law_372 ?_
      refine q_topi (y := nI (i + 4)) (nI_add _ _) ?_
      refine q_sld hx hb hX hbl hbA hZ.2.2 ((i + 4)) rfl (by omega) (by omega) d_Law_law_373 ?_
      refine lv_i2l (v := (xs (i + 4)).toInt64) hx hb d_Law_law_374 rfl ?_
      refine lv_ldc2 (v := 4294967295) hx hb hown (hts _ (gm k_577)) d_Law_law_375 ?_
      refine lv_land hx hb d_Law_law_378 ?_
      refine lv_lor hx hb d_Law_law_379 ?_
      refine q_topl (y := lj (xs (i + 3)) (xs (i + 4))) rfl ?_
      refine lv_aload_n hx hb d_Law_law_380 rfl (lv_at hl 2 rfl) ?_
      refine lv_iload hx hb d_Law_law_381 (lv_at hl 1 rfl) ?_
      refine lv_iconst (v := (nI 5)) hx hb d_Law_law_383 rfl ?_
      refine lv_iadd hx hb d_Law_law_384 ?_
      refine q_topi (y := nI (i + 5)) (nI_add _ _) ?_
      refine q_sld hx hb hX hbl hbA hZ.2.2 ((i + 5)) rfl (by omega) (by omega) d_Law_law_385 ?_
      refine lv_i2l (v := (xs (i + 5)).toInt64) hx hb d_Law_law_386 rfl ?_
      refine lv_bipush (v := (nI 32)) hx hb d_Law_law_387 rfl ?_
      refine lv_lshl (v := ((xs (i + 5)).toInt64) <<< ((nI 32).toInt64 &&& 63)) hx hb d_Law_law_389 rfl ?_
      refine lv_aload_n hx hb d_Law_law_390 rfl (lv_at hl 2 rfl) ?_
      refine lv_iload hx hb d_Law_law_391 (lv_at hl 1 rfl) ?_
      refine lv_bipush (v := (nI 6)) hx hb d_Law_law_393 rfl ?_
      refine lv_iadd hx hb d_Law_law_395 ?_
      refine q_topi (y := nI (i + 6)) (nI_add _ _) ?_
      refine q_sld hx hb hX hbl hbA hZ.2.2 ((i + 6)) rfl (by omega) (by omega) d_Law_law_396 ?_
      refine lv_i2l (v := (xs (i + 6)).toInt64) hx hb d_Law_law_397 rfl ?_
      refine lv_ldc2 (v := 4294967295) hx hb hown (hts _ (gm k_577)) d_Law_law_398 ?_
      refine lv_land hx hb d_Law_law_401 ?_
      refine lv_lor hx hb d_Law_law_402 ?_
      refine q_topl (y := lj (xs (i + 5)) (xs (i + 6))) rfl ?_
      obtain ⟨fs43, h43⟩ := sM_43 hMM
      refine q_calli (va_runV (As := [.int (nI j1), .int (xs (i + 2)), .long (lj (xs (i + 3)) (xs (i + 4))), .long (lj (xs (i + 5)) (xs (i + 6)))]) (rest := []) ⟨hx, hb, hml, hown, hts⟩ (c_Mod_put l dC dI cI cL cB ad s.heap.size u_r t0 F j1 (xs (i + 2)) (lj (xs (i + 3)) (xs (i + 4))) (lj (xs (i + 5)) (xs (i + 6))) hMM hj1 hQ) (cwV 4 hts (gI_V k_481 k_478 k_479 k_480 k_24) rfl rfl rfl (by decide +kernel) ⟨Nat.le_of_ble_eq_true rfl, Nat.le_of_ble_eq_true rfl⟩) (q_preV hK hAm hZ hN [.int (nI j1), .int (xs (i + 2)), .long (lj (xs (i + 3)) (xs (i + 4))), .long (lj (xs (i + 5)) (xs (i + 6)))] (43) 3 (by decide) h43 rfl) rfl rfl hl.1 rfl (lv_room (Nat.le_of_ble_eq_true rfl)) d_Law_law_403 hc0) hZ (fun v u_v H locs h_v hZ => ?_)
      obtain ⟨hfr, hres2⟩ := h_v
      have h51 := (hfr 51 (by omega)).trans h51
      rcases hres with ⟨hq1, ho, hC⟩ | ⟨hq1, ho, hC⟩
      · skip
        rcases hres2 with ⟨hq2, ev, hMM⟩ | ⟨hq2, ev, hMM⟩
        · skip
          have hC := sC_fr hC (fun x hx => hfr x (by omega))
          refine q_topi (y := nI 1) ev ?_
          refine lv_istore (lv' := [(6, .int (nI 1)), (5, .int (nI 0)), (4, .int (nI i)), (0, .ref b), (1, .ref (ad 0)), (2, .ref (ad 43)), (3, .ref (ad 51))]) hx hb d_Law_law_406 hl (by decide) rfl (fun ls hl => ?_)
          refine lv_aload_n hx hb d_Law_law_408 rfl (lv_at hl 5 rfl) ?_
          obtain ⟨fs43, h43⟩ := sM_43 hMM
          refine q_calli (va_runV (As := []) (rest := []) ⟨hx, hb, hml, hown, hts⟩ (c_Mod_thrown l dC dI cI cL cB ad s.heap.size u_v _ _ hMM) (cwV 0 hts (gI_V k_454 k_451 k_452 k_453 k_24) rfl rfl rfl (by decide +kernel) ⟨Nat.le_of_ble_eq_true rfl, Nat.le_of_ble_eq_true rfl⟩) (q_preV hK hAm hZ hN [] (43) 3 (by decide) h43 rfl) rfl rfl hl.1 rfl (lv_room (Nat.le_of_ble_eq_true rfl)) d_Law_law_409 hc0) hZ (fun th u_th H locs h_th hZ => ?_)
          obtain ⟨e_th, e_t⟩ := h_th
          rw [e_th] at hZ
          refine q_topi (y := nI 0) e_t ?_
          refine lv_iload hx hb d_Law_law_412 (lv_at hl 1 rfl) ?_
          refine lv_icmp_eq (tgt := 419) hx hb d_Law_law_414 (by decide) (fun h414 => ?_) (fun h414 => ?_)
          · skip
            have h414 : 0 = 0 := (nI_eq (a := 0) (b := 0) (by omega) (by omega)).mp h414
            refine lv_iload hx hb d_Law_law_419 (lv_at hl 1 rfl) ?_
            refine lv_if_ne (tgt := 443) hx hb d_Law_law_421 (by decide) (fun h421 => ?_) (fun h421 => ?_)
            · skip
              have h421 : ¬ 0 = 0 := fun z9 => h421 ((nI_eq (a := 0) (b := 0) (by omega) (by omega)).mpr z9)
              exact absurd h421 (by decide)
            · skip
              have h421 : 0 = 0 := (nI_eq (a := 0) (b := 0) (by omega) (by omega)).mp h421
              refine lv_aload_n hx hb d_Law_law_424 rfl (lv_at hl 6 rfl) ?_
              refine lv_iconst (v := (nI 0)) hx hb d_Law_law_425 rfl ?_
              refine q_lald hx hb hK hZ (51) 1 (0) (by decide) h51 rfl rfl (by omega) (by decide) d_Law_law_426 ?_
              refine lv_iload hx hb d_Law_law_427 (lv_at hl 0 rfl) ?_
              refine lv_if_eq (tgt := 436) hx hb d_Law_law_429 (by decide) (fun h429 => ?_) (fun h429 => ?_)
              · skip
                have h429 : 1 = 0 := (nI_eq (a := 1) (b := 0) (by omega) (by omega)).mp h429
                exact absurd h429 (by decide)
              · skip
                have h429 : ¬ 1 = 0 := fun z9 => h429 ((nI_eq (a := 1) (b := 0) (by omega) (by omega)).mpr z9)
                refine lv_lconst (v := 1) hx hb d_Law_law_432 rfl ?_
                refine lv_goto (tgt := 437) hx hb d_Law_law_433 (by decide) ?_
                refine W.lcmp hx hb d_Law_law_437 ?_
                refine lv_if_eq (tgt := 443) hx hb d_Law_law_438 (by decide) (fun h438 => ?_) (fun h438 => ?_)
                · skip
                  rw [lg_cmp_eq] at h438
                  refine lv_goto (tgt := 1486) hx hb d_Law_law_443 (by decide) ?_
                  refine W.widen (k := cells + 1) (n := slots + 6) (by omega) (by omega) ?_
                  exact K _ _ _ _ _ _ _ hC hMM h51 hZ (lv_sub hl [2, 3, 4, 5, 6] rfl)
                · skip
                  rw [lg_cmp_eq] at h438
                  exact absurd ho h438
          · skip
            have h414 : ¬ 0 = 0 := fun z9 => h414 ((nI_eq (a := 0) (b := 0) (by omega) (by omega)).mpr z9)
            exact absurd h414 (by decide)
        · skip
          exact absurd hq1 hq2
      · skip
        rcases hres2 with ⟨hq2, ev, hMM⟩ | ⟨hq2, ev, hMM⟩
        · skip
          exact absurd hq2 hq1
        · skip
          have hC := sC_fr hC (fun x hx => hfr x (by omega))
          refine q_topi (y := nI 0) ev ?_
          refine lv_istore (lv' := [(6, .int (nI 0)), (5, .int (nI 0)), (4, .int (nI i)), (0, .ref b), (1, .ref (ad 0)), (2, .ref (ad 43)), (3, .ref (ad 51))]) hx hb d_Law_law_406 hl (by decide) rfl (fun ls hl => ?_)
          refine lv_aload_n hx hb d_Law_law_408 rfl (lv_at hl 5 rfl) ?_
          obtain ⟨fs43, h43⟩ := sM_43 hMM
          refine q_calli (va_runV (As := []) (rest := []) ⟨hx, hb, hml, hown, hts⟩ (c_Mod_thrown l dC dI cI cL cB ad s.heap.size u_v _ _ hMM) (cwV 0 hts (gI_V k_454 k_451 k_452 k_453 k_24) rfl rfl rfl (by decide +kernel) ⟨Nat.le_of_ble_eq_true rfl, Nat.le_of_ble_eq_true rfl⟩) (q_preV hK hAm hZ hN [] (43) 3 (by decide) h43 rfl) rfl rfl hl.1 rfl (lv_room (Nat.le_of_ble_eq_true rfl)) d_Law_law_409 hc0) hZ (fun th u_th H locs h_th hZ => ?_)
          obtain ⟨e_th, e_t⟩ := h_th
          rw [e_th] at hZ
          refine q_topi (y := nI 0) e_t ?_
          refine lv_iload hx hb d_Law_law_412 (lv_at hl 1 rfl) ?_
          refine lv_icmp_eq (tgt := 419) hx hb d_Law_law_414 (by decide) (fun h414 => ?_) (fun h414 => ?_)
          · skip
            have h414 : 0 = 0 := (nI_eq (a := 0) (b := 0) (by omega) (by omega)).mp h414
            refine lv_iload hx hb d_Law_law_419 (lv_at hl 1 rfl) ?_
            refine lv_if_ne (tgt := 443) hx hb d_Law_law_421 (by decide) (fun h421 => ?_) (fun h421 => ?_)
            · skip
              have h421 : ¬ 0 = 0 := fun z9 => h421 ((nI_eq (a := 0) (b := 0) (by omega) (by omega)).mpr z9)
              exact absurd h421 (by decide)
            · skip
              have h421 : 0 = 0 := (nI_eq (a := 0) (b := 0) (by omega) (by omega)).mp h421
              refine lv_aload_n hx hb d_Law_law_424 rfl (lv_at hl 6 rfl) ?_
              refine lv_iconst (v := (nI 0)) hx hb d_Law_law_425 rfl ?_
              refine q_lald hx hb hK hZ (51) 1 (0) (by decide) h51 rfl rfl (by omega) (by decide) d_Law_law_426 ?_
              refine lv_iload hx hb d_Law_law_427 (lv_at hl 0 rfl) ?_
              refine lv_if_eq (tgt := 436) hx hb d_Law_law_429 (by decide) (fun h429 => ?_) (fun h429 => ?_)
              · skip
                have h429 : 0 = 0 := (nI_eq (a := 0) (b := 0) (by omega) (by omega)).mp h429
                refine lv_lconst (v := 0) hx hb d_Law_law_436 rfl ?_
                refine W.lcmp hx hb d_Law_law_437 ?_
                refine lv_if_eq (tgt := 443) hx hb d_Law_law_438 (by decide) (fun h438 => ?_) (fun h438 => ?_)
                · skip
                  rw [lg_cmp_eq] at h438
                  refine lv_goto (tgt := 1486) hx hb d_Law_law_443 (by decide) ?_
                  refine W.widen (k := cells + 1) (n := slots + 6) (by omega) (by omega) ?_
                  exact K _ _ _ _ _ _ _ hC hMM h51 hZ (lv_sub hl [2, 3, 4, 5, 6] rfl)
                · skip
                  rw [lg_cmp_eq] at h438
                  exact absurd ho h438
              · skip
                have h429 : ¬ 0 = 0 := fun z9 => h429 ((nI_eq (a := 0) (b := 0) (by omega) (by omega)).mpr z9)
                exact absurd h429 (by decide)
          · skip
            have h414 : ¬ 0 = 0 := fun z9 => h414 ((nI_eq (a := 0) (b := 0) (by omega) (by omega)).mpr z9)
            exact absurd h414 (by decide)
    · skip
      refine lv_aload_n hx hb d_Law_law_281 rfl (lv_at hl 2 rfl) ?_
      refine lv_aload_n hx hb d_Law_law_282 rfl (lv_at hl 1 rfl) ?_
      refine lv_iload hx hb d_Law_law_283 (lv_at hl 0 rfl) ?_
      refine lv_iconst (v := (nI 1)) hx hb d_Law_law_285 rfl ?_
      refine lv_iadd hx hb d_Law_law_286 ?_
      refine q_topi (y := nI (i + 1)) (nI_add _ _) ?_
      refine q_sld hx hb hX hbl hbA hZ.2.2 ((i + 1)) rfl (by omega) (by omega) d_Law_law_287 ?_
      refine lv_aload_n hx hb d_Law_law_288 rfl (lv_at hl 1 rfl) ?_
      refine lv_iload hx hb d_Law_law_289 (lv_at hl 0 rfl) ?_
      refine lv_iconst (v := (nI 2)) hx hb d_Law_law_291 rfl ?_
      refine lv_iadd hx hb d_Law_law_292 ?_
      refine q_topi (y := nI (i + 2)) (nI_add _ _) ?_
      refine q_sld hx hb hX hbl hbA hZ.2.2 ((i + 2)) rfl (by omega) (by omega) d_Law_law_293 ?_
      refine lv_aload_n hx hb d_Law_law_294 rfl (lv_at hl 1 rfl) ?_
      refine lv_iload hx hb d_Law_law_295 (lv_at hl 0 rfl) ?_
      refine lv_iconst (v := (nI 3)) hx hb d_Law_law_297 rfl ?_
      refine lv_iadd hx hb d_Law_law_298 ?_
      refine q_topi (y := nI (i + 3)) (nI_add _ _) ?_
      refine q_sld hx hb hX hbl hbA hZ.2.2 ((i + 3)) rfl (by omega) (by omega) d_Law_law_299 ?_
      refine lv_i2l (v := (xs (i + 3)).toInt64) hx hb d_Law_law_300 rfl ?_
      refine lv_bipush (v := (nI 32)) hx hb d_Law_law_301 rfl ?_
      refine lv_lshl (v := ((xs (i + 3)).toInt64) <<< ((nI 32).toInt64 &&& 63)) hx hb d_Law_law_303 rfl ?_
      refine lv_aload_n hx hb d_Law_law_304 rfl (lv_at hl 1 rfl) ?_
      refine lv_iload hx hb d_Law_law_305 (lv_at hl 0 rfl) ?_
      refine lv_iconst (v := (nI 4)) hx hb d_Law_law_307 rfl ?_
      refine lv_iadd hx hb d_Law_law_308 ?_
      refine q_topi (y := nI (i + 4)) (nI_add _ _) ?_
      refine q_sld hx hb hX hbl hbA hZ.2.2 ((i + 4)) rfl (by omega) (by omega) d_Law_law_309 ?_
      refine lv_i2l (v := (xs (i + 4)).toInt64) hx hb d_Law_law_310 rfl ?_
      refine lv_ldc2 (v := 4294967295) hx hb hown (hts _ (gm k_577)) d_Law_law_311 ?_
      refine lv_land hx hb d_Law_law_314 ?_
      refine lv_lor hx hb d_Law_law_315 ?_
      refine q_topl (y := lj (xs (i + 3)) (xs (i + 4))) rfl ?_
      refine lv_aload_n hx hb d_Law_law_316 rfl (lv_at hl 1 rfl) ?_
      refine lv_iload hx hb d_Law_law_317 (lv_at hl 0 rfl) ?_
      refine lv_iconst (v := (nI 5)) hx hb d_Law_law_319 rfl ?_
      refine lv_iadd hx hb d_Law_law_320 ?_
      refine q_topi (y := nI (i + 5)) (nI_add _ _) ?_
      refine q_sld hx hb hX hbl hbA hZ.2.2 ((i + 5)) rfl (by omega) (by omega) d_Law_law_321 ?_
      refine lv_i2l (v := (xs (i + 5)).toInt64) hx hb d_Law_law_322 rfl ?_
      refine lv_bipush (v := (nI 32)) hx hb d_Law_law_323 rfl ?_
      refine lv_lshl (v := ((xs (i + 5)).toInt64) <<< ((nI 32).toInt64 &&& 63)) hx hb d_Law_law_325 rfl ?_
      refine lv_aload_n hx hb d_Law_law_326 rfl (lv_at hl 1 rfl) ?_
      refine lv_iload hx hb d_Law_law_327 (lv_at hl 0 rfl) ?_
      refine lv_bipush (v := (nI 6)) hx hb d_Law_law_329 rfl ?_
      refine lv_iadd hx hb d_Law_law_331 ?_
      refine q_topi (y := nI (i + 6)) (nI_add _ _) ?_
      refine q_sld hx hb hX hbl hbA hZ.2.2 ((i + 6)) rfl (by omega) (by omega) d_Law_law_332 ?_
      refine lv_i2l (v := (xs (i + 6)).toInt64) hx hb d_Law_law_333 rfl ?_
      refine lv_ldc2 (v := 4294967295) hx hb hown (hts _ (gm k_577)) d_Law_law_334 ?_
      refine lv_land hx hb d_Law_law_337 ?_
      refine lv_lor hx hb d_Law_law_338 ?_
      refine q_topl (y := lj (xs (i + 5)) (xs (i + 6))) rfl ?_
      refine lv_aload_n hx hb d_Law_law_339 rfl (lv_at hl 4 rfl) ?_
      refine q_calliX (vx_runSW (As := [.ref (ad 0), .int (xs (i + 1)), .int (xs (i + 2)), .long (lj (xs (i + 3)) (xs (i + 4))), .long (lj (xs (i + 5)) (xs (i + 6))), .ref (ad 51)]) (rest := []) ⟨hx, hb, hml, hown, hts⟩ (xp_Law_put l hfl dC dI cI cL cB ad s.heap.size w (xs (i + 1)) (xs (i + 2)) (lj (xs (i + 3)) (xs (i + 4))) (lj (xs (i + 5)) (xs (i + 6))) (sC_0 hC) hB hQ) (vx_cwSW 6 hts (gI_S k_246 k_244 k_245 k_20) rfl rfl rfl (by decide +kernel) ⟨Nat.le_of_ble_eq_true rfl, Nat.le_of_ble_eq_true rfl⟩) (q_pre hK hAm hZ hN [.ref (ad 0), .int (xs (i + 1)), .int (xs (i + 2)), .long (lj (xs (i + 3)) (xs (i + 4))), .long (lj (xs (i + 5)) (xs (i + 6))), .ref (ad 51)]) rfl rfl hl.1 rfl (lv_room (Nat.le_of_ble_eq_true rfl)) d_Law_law_340 hc1) hZ (fun r u_r H locs h_r hZ => ?_)
      obtain ⟨e_r, e_u⟩ := h_r
      rw [e_u] at hZ
      refine q_topi (y := nI 2) e_r ?_
      refine lv_istore (lv' := [(5, .int (nI 2)), (4, .int (nI i)), (0, .ref b), (1, .ref (ad 0)), (2, .ref (ad 43)), (3, .ref (ad 51))]) hx hb d_Law_law_343 hl (by decide) rfl (fun ls hl => ?_)
      refine lv_aload_n hx hb d_Law_law_345 rfl (lv_at hl 4 rfl) ?_
      refine lv_aload_n hx hb d_Law_law_346 rfl (lv_at hl 2 rfl) ?_
      refine lv_iload hx hb d_Law_law_347 (lv_at hl 1 rfl) ?_
      refine lv_iconst (v := (nI 1)) hx hb d_Law_law_349 rfl ?_
      refine lv_iadd hx hb d_Law_law_350 ?_
      refine q_topi (y := nI (i + 1)) (nI_add _ _) ?_
      refine q_sld hx hb hX hbl hbA hZ.2.2 ((i + 1)) rfl (by omega) (by omega) d_Law_law_351 ?_
      refine lv_aload_n hx hb d_Law_law_352 rfl (lv_at hl 2 rfl) ?_
      refine lv_iload hx hb d_Law_law_353 (lv_at hl 1 rfl) ?_
      refine lv_iconst (v := (nI 2)) hx hb d_Law_law_355 rfl ?_
      refine lv_iadd hx hb d_Law_law_356 ?_
      refine q_topi (y := nI (i + 2)) (nI_add _ _) ?_
      refine q_sld hx hb hX hbl hbA hZ.2.2 ((i + 2)) rfl (by omega) (by omega) d_Law_law_357 ?_
      refine lv_aload_n hx hb d_Law_law_358 rfl (lv_at hl 2 rfl) ?_
      refine lv_iload hx hb d_Law_law_359 (lv_at hl 1 rfl) ?_
      refine lv_iconst (v := (nI 3)) hx hb d_Law_law_361 rfl ?_
      refine lv_iadd hx hb d_Law_law_362 ?_
      refine q_topi (y := nI (i + 3)) (nI_add _ _) ?_
      refine q_sld hx hb hX hbl hbA hZ.2.2 ((i + 3)) rfl (by omega) (by omega) d_Law_law_363 ?_
      refine lv_i2l (v := (xs (i + 3)).toInt64) hx hb d_Law_law_364 rfl ?_
      refine lv_bipush (v := (nI 32)) hx hb d_Law_law_365 rfl ?_
      refine lv_lshl (v := ((xs (i + 3)).toInt64) <<< ((nI 32).toInt64 &&& 63)) hx hb d_Law_law_367 rfl ?_
      refine lv_aload_n hx hb d_Law_law_368 rfl (lv_at hl 2 rfl) ?_
      refine lv_iload hx hb d_Law_law_369 (lv_at hl 1 rfl) ?_
      refine lv_iconst (v := (nI 4)) hx hb d_Law_law_371 rfl ?_
      refine lv_iadd hx hb d_Law_law_372 ?_
      refine q_topi (y := nI (i + 4)) (nI_add _ _) ?_
      refine q_sld hx hb hX hbl hbA hZ.2.2 ((i + 4)) rfl (by omega) (by omega) d_Law_law_373 ?_
      refine lv_i2l (v := (xs (i + 4)).toInt64) hx hb d_Law_law_374 rfl ?_
      refine lv_ldc2 (v := 4294967295) hx hb hown (hts _ (gm k_577)) d_Law_law_375 ?_
      refine lv_land hx hb d_Law_law_378 ?_
      refine lv_lor hx hb d_Law_law_379 ?_
      refine q_topl (y := lj (xs (i + 3)) (xs (i + 4))) rfl ?_
      refine lv_aload_n hx hb d_Law_law_380 rfl (lv_at hl 2 rfl) ?_
      refine lv_iload hx hb d_Law_law_381 (lv_at hl 1 rfl) ?_
      refine lv_iconst (v := (nI 5)) hx hb d_Law_law_383 rfl ?_
      refine lv_iadd hx hb d_Law_law_384 ?_
      refine q_topi (y := nI (i + 5)) (nI_add _ _) ?_
      refine q_sld hx hb hX hbl hbA hZ.2.2 ((i + 5)) rfl (by omega) (by omega) d_Law_law_385 ?_
      refine lv_i2l (v := (xs (i + 5)).toInt64) hx hb d_Law_law_386 rfl ?_
      refine lv_bipush (v := (nI 32)) hx hb d_Law_law_387 rfl ?_
      refine lv_lshl (v := ((xs (i + 5)).toInt64) <<< ((nI 32).toInt64 &&& 63)) hx hb d_Law_law_389 rfl ?_
      refine lv_aload_n hx hb d_Law_law_390 rfl (lv_at hl 2 rfl) ?_
      refine lv_iload hx hb d_Law_law_391 (lv_at hl 1 rfl) ?_
      refine lv_bipush (v := (nI 6)) hx hb d_Law_law_393 rfl ?_
      refine lv_iadd hx hb d_Law_law_395 ?_
      refine q_topi (y := nI (i + 6)) (nI_add _ _) ?_
      refine q_sld hx hb hX hbl hbA hZ.2.2 ((i + 6)) rfl (by omega) (by omega) d_Law_law_396 ?_
      refine lv_i2l (v := (xs (i + 6)).toInt64) hx hb d_Law_law_397 rfl ?_
      refine lv_ldc2 (v := 4294967295) hx hb hown (hts _ (gm k_577)) d_Law_law_398 ?_
      refine lv_land hx hb d_Law_law_401 ?_
      refine lv_lor hx hb d_Law_law_402 ?_
      refine q_topl (y := lj (xs (i + 5)) (xs (i + 6))) rfl ?_
      obtain ⟨fs43, h43⟩ := sM_43 hMM
      refine q_calli (va_runV (As := [.int (xs (i + 1)), .int (xs (i + 2)), .long (lj (xs (i + 3)) (xs (i + 4))), .long (lj (xs (i + 5)) (xs (i + 6)))]) (rest := []) ⟨hx, hb, hml, hown, hts⟩ (x_Mod_put l dC dI cI cL cB ad s.heap.size w t0 F (xs (i + 1)) (xs (i + 2)) (lj (xs (i + 3)) (xs (i + 4))) (lj (xs (i + 5)) (xs (i + 6))) (nI 2) hMM (Or.inr ⟨⟨hB, okB_0, okB_0⟩, hQ, rfl⟩)) (cwV 4 hts (gI_V k_481 k_478 k_479 k_480 k_24) rfl rfl rfl (by decide +kernel) ⟨Nat.le_of_ble_eq_true rfl, Nat.le_of_ble_eq_true rfl⟩) (q_preV hK hAm hZ hN [.int (xs (i + 1)), .int (xs (i + 2)), .long (lj (xs (i + 3)) (xs (i + 4))), .long (lj (xs (i + 5)) (xs (i + 6)))] (43) 3 (by decide) h43 rfl) rfl rfl hl.1 rfl (lv_room (Nat.le_of_ble_eq_true rfl)) d_Law_law_403 hc1) hZ (fun v u_v H locs h_v hZ => ?_)
      obtain ⟨hfr, hres2⟩ := h_v
      have h51 := (hfr 51 (by omega)).trans h51
      have hMM := hres2
      have hC := sC_fr hC (fun x hx => hfr x (by omega))
      refine lv_istore (lv' := [(6, .int v), (5, .int (nI 2)), (4, .int (nI i)), (0, .ref b), (1, .ref (ad 0)), (2, .ref (ad 43)), (3, .ref (ad 51))]) hx hb d_Law_law_406 hl (by decide) rfl (fun ls hl => ?_)
      refine lv_aload_n hx hb d_Law_law_408 rfl (lv_at hl 5 rfl) ?_
      obtain ⟨fs43, h43⟩ := sM_43 hMM
      refine q_calli (va_runV (As := []) (rest := []) ⟨hx, hb, hml, hown, hts⟩ (c_Mod_thrown l dC dI cI cL cB ad s.heap.size u_v _ _ hMM) (cwV 0 hts (gI_V k_454 k_451 k_452 k_453 k_24) rfl rfl rfl (by decide +kernel) ⟨Nat.le_of_ble_eq_true rfl, Nat.le_of_ble_eq_true rfl⟩) (q_preV hK hAm hZ hN [] (43) 3 (by decide) h43 rfl) rfl rfl hl.1 rfl (lv_room (Nat.le_of_ble_eq_true rfl)) d_Law_law_409 hc1) hZ (fun th u_th H locs h_th hZ => ?_)
      obtain ⟨e_th, e_t⟩ := h_th
      rw [e_th] at hZ
      refine q_topi (y := nI 2) e_t ?_
      refine lv_iload hx hb d_Law_law_412 (lv_at hl 1 rfl) ?_
      refine lv_icmp_eq (tgt := 419) hx hb d_Law_law_414 (by decide) (fun h414 => ?_) (fun h414 => ?_)
      · skip
        have h414 : 2 = 2 := (nI_eq (a := 2) (b := 2) (by omega) (by omega)).mp h414
        refine lv_iload hx hb d_Law_law_419 (lv_at hl 1 rfl) ?_
        refine lv_if_ne (tgt := 443) hx hb d_Law_law_421 (by decide) (fun h421 => ?_) (fun h421 => ?_)
        · skip
          have h421 : ¬ 2 = 0 := fun z9 => h421 ((nI_eq (a := 2) (b := 0) (by omega) (by omega)).mpr z9)
          refine lv_goto (tgt := 1486) hx hb d_Law_law_443 (by decide) ?_
          exact K _ _ _ _ _ _ _ hC hMM h51 hZ (lv_sub hl [2, 3, 4, 5, 6] rfl)
        · skip
          have h421 : 2 = 0 := (nI_eq (a := 2) (b := 0) (by omega) (by omega)).mp h421
          exact absurd h421 (by decide)
      · skip
        have h414 : ¬ 2 = 2 := fun z9 => h414 ((nI_eq (a := 2) (b := 2) (by omega) (by omega)).mpr z9)
        exact absurd h414 (by decide)
  · skip
    refine lv_aload_n hx hb d_Law_law_281 rfl (lv_at hl 2 rfl) ?_
    refine lv_aload_n hx hb d_Law_law_282 rfl (lv_at hl 1 rfl) ?_
    refine lv_iload hx hb d_Law_law_283 (lv_at hl 0 rfl) ?_
    refine lv_iconst (v := (nI 1)) hx hb d_Law_law_285 rfl ?_
    refine lv_iadd hx hb d_Law_law_286 ?_
    refine q_topi (y := nI (i + 1)) (nI_add _ _) ?_
    refine q_sld hx hb hX hbl hbA hZ.2.2 ((i + 1)) rfl (by omega) (by omega) d_Law_law_287 ?_
    refine lv_aload_n hx hb d_Law_law_288 rfl (lv_at hl 1 rfl) ?_
    refine lv_iload hx hb d_Law_law_289 (lv_at hl 0 rfl) ?_
    refine lv_iconst (v := (nI 2)) hx hb d_Law_law_291 rfl ?_
    refine lv_iadd hx hb d_Law_law_292 ?_
    refine q_topi (y := nI (i + 2)) (nI_add _ _) ?_
    refine q_sld hx hb hX hbl hbA hZ.2.2 ((i + 2)) rfl (by omega) (by omega) d_Law_law_293 ?_
    refine lv_aload_n hx hb d_Law_law_294 rfl (lv_at hl 1 rfl) ?_
    refine lv_iload hx hb d_Law_law_295 (lv_at hl 0 rfl) ?_
    refine lv_iconst (v := (nI 3)) hx hb d_Law_law_297 rfl ?_
    refine lv_iadd hx hb d_Law_law_298 ?_
    refine q_topi (y := nI (i + 3)) (nI_add _ _) ?_
    refine q_sld hx hb hX hbl hbA hZ.2.2 ((i + 3)) rfl (by omega) (by omega) d_Law_law_299 ?_
    refine lv_i2l (v := (xs (i + 3)).toInt64) hx hb d_Law_law_300 rfl ?_
    refine lv_bipush (v := (nI 32)) hx hb d_Law_law_301 rfl ?_
    refine lv_lshl (v := ((xs (i + 3)).toInt64) <<< ((nI 32).toInt64 &&& 63)) hx hb d_Law_law_303 rfl ?_
    refine lv_aload_n hx hb d_Law_law_304 rfl (lv_at hl 1 rfl) ?_
    refine lv_iload hx hb d_Law_law_305 (lv_at hl 0 rfl) ?_
    refine lv_iconst (v := (nI 4)) hx hb d_Law_law_307 rfl ?_
    refine lv_iadd hx hb d_Law_law_308 ?_
    refine q_topi (y := nI (i + 4)) (nI_add _ _) ?_
    refine q_sld hx hb hX hbl hbA hZ.2.2 ((i + 4)) rfl (by omega) (by omega) d_Law_law_309 ?_
    refine lv_i2l (v := (xs (i + 4)).toInt64) hx hb d_Law_law_310 rfl ?_
    refine lv_ldc2 (v := 4294967295) hx hb hown (hts _ (gm k_577)) d_Law_law_311 ?_
    refine lv_land hx hb d_Law_law_314 ?_
    refine lv_lor hx hb d_Law_law_315 ?_
    refine q_topl (y := lj (xs (i + 3)) (xs (i + 4))) rfl ?_
    refine lv_aload_n hx hb d_Law_law_316 rfl (lv_at hl 1 rfl) ?_
    refine lv_iload hx hb d_Law_law_317 (lv_at hl 0 rfl) ?_
    refine lv_iconst (v := (nI 5)) hx hb d_Law_law_319 rfl ?_
    refine lv_iadd hx hb d_Law_law_320 ?_
    refine q_topi (y := nI (i + 5)) (nI_add _ _) ?_
    refine q_sld hx hb hX hbl hbA hZ.2.2 ((i + 5)) rfl (by omega) (by omega) d_Law_law_321 ?_
    refine lv_i2l (v := (xs (i + 5)).toInt64) hx hb d_Law_law_322 rfl ?_
    refine lv_bipush (v := (nI 32)) hx hb d_Law_law_323 rfl ?_
    refine lv_lshl (v := ((xs (i + 5)).toInt64) <<< ((nI 32).toInt64 &&& 63)) hx hb d_Law_law_325 rfl ?_
    refine lv_aload_n hx hb d_Law_law_326 rfl (lv_at hl 1 rfl) ?_
    refine lv_iload hx hb d_Law_law_327 (lv_at hl 0 rfl) ?_
    refine lv_bipush (v := (nI 6)) hx hb d_Law_law_329 rfl ?_
    refine lv_iadd hx hb d_Law_law_331 ?_
    refine q_topi (y := nI (i + 6)) (nI_add _ _) ?_
    refine q_sld hx hb hX hbl hbA hZ.2.2 ((i + 6)) rfl (by omega) (by omega) d_Law_law_332 ?_
    refine lv_i2l (v := (xs (i + 6)).toInt64) hx hb d_Law_law_333 rfl ?_
    refine lv_ldc2 (v := 4294967295) hx hb hown (hts _ (gm k_577)) d_Law_law_334 ?_
    refine lv_land hx hb d_Law_law_337 ?_
    refine lv_lor hx hb d_Law_law_338 ?_
    refine q_topl (y := lj (xs (i + 5)) (xs (i + 6))) rfl ?_
    refine lv_aload_n hx hb d_Law_law_339 rfl (lv_at hl 4 rfl) ?_
    refine q_calliX (vx_runSW (As := [.ref (ad 0), .int (xs (i + 1)), .int (xs (i + 2)), .long (lj (xs (i + 3)) (xs (i + 4))), .long (lj (xs (i + 5)) (xs (i + 6))), .ref (ad 51)]) (rest := []) ⟨hx, hb, hml, hown, hts⟩ (xb_Law_put l hfl dC dI cI cL cB ad s.heap.size w (xs (i + 1)) (xs (i + 2)) (lj (xs (i + 3)) (xs (i + 4))) (lj (xs (i + 5)) (xs (i + 6))) (sC_0 hC) hB) (vx_cwSW 6 hts (gI_S k_246 k_244 k_245 k_20) rfl rfl rfl (by decide +kernel) ⟨Nat.le_of_ble_eq_true rfl, Nat.le_of_ble_eq_true rfl⟩) (q_pre hK hAm hZ hN [.ref (ad 0), .int (xs (i + 1)), .int (xs (i + 2)), .long (lj (xs (i + 3)) (xs (i + 4))), .long (lj (xs (i + 5)) (xs (i + 6))), .ref (ad 51)]) rfl rfl hl.1 rfl (lv_room (Nat.le_of_ble_eq_true rfl)) d_Law_law_340 hc1) hZ (fun r u_r H locs h_r hZ => ?_)
    obtain ⟨e_r, e_u⟩ := h_r
    rw [e_u] at hZ
    refine q_topi (y := nI 1) e_r ?_
    refine lv_istore (lv' := [(5, .int (nI 1)), (4, .int (nI i)), (0, .ref b), (1, .ref (ad 0)), (2, .ref (ad 43)), (3, .ref (ad 51))]) hx hb d_Law_law_343 hl (by decide) rfl (fun ls hl => ?_)
    refine lv_aload_n hx hb d_Law_law_345 rfl (lv_at hl 4 rfl) ?_
    refine lv_aload_n hx hb d_Law_law_346 rfl (lv_at hl 2 rfl) ?_
    refine lv_iload hx hb d_Law_law_347 (lv_at hl 1 rfl) ?_
    refine lv_iconst (v := (nI 1)) hx hb d_Law_law_349 rfl ?_
    refine lv_iadd hx hb d_Law_law_350 ?_
    refine q_topi (y := nI (i + 1)) (nI_add _ _) ?_
    refine q_sld hx hb hX hbl hbA hZ.2.2 ((i + 1)) rfl (by omega) (by omega) d_Law_law_351 ?_
    refine lv_aload_n hx hb d_Law_law_352 rfl (lv_at hl 2 rfl) ?_
    refine lv_iload hx hb d_Law_law_353 (lv_at hl 1 rfl) ?_
    refine lv_iconst (v := (nI 2)) hx hb d_Law_law_355 rfl ?_
    refine lv_iadd hx hb d_Law_law_356 ?_
    refine q_topi (y := nI (i + 2)) (nI_add _ _) ?_
    refine q_sld hx hb hX hbl hbA hZ.2.2 ((i + 2)) rfl (by omega) (by omega) d_Law_law_357 ?_
    refine lv_aload_n hx hb d_Law_law_358 rfl (lv_at hl 2 rfl) ?_
    refine lv_iload hx hb d_Law_law_359 (lv_at hl 1 rfl) ?_
    refine lv_iconst (v := (nI 3)) hx hb d_Law_law_361 rfl ?_
    refine lv_iadd hx hb d_Law_law_362 ?_
    refine q_topi (y := nI (i + 3)) (nI_add _ _) ?_
    refine q_sld hx hb hX hbl hbA hZ.2.2 ((i + 3)) rfl (by omega) (by omega) d_Law_law_363 ?_
    refine lv_i2l (v := (xs (i + 3)).toInt64) hx hb d_Law_law_364 rfl ?_
    refine lv_bipush (v := (nI 32)) hx hb d_Law_law_365 rfl ?_
    refine lv_lshl (v := ((xs (i + 3)).toInt64) <<< ((nI 32).toInt64 &&& 63)) hx hb d_Law_law_367 rfl ?_
    refine lv_aload_n hx hb d_Law_law_368 rfl (lv_at hl 2 rfl) ?_
    refine lv_iload hx hb d_Law_law_369 (lv_at hl 1 rfl) ?_
    refine lv_iconst (v := (nI 4)) hx hb d_Law_law_371 rfl ?_
    refine lv_iadd hx hb d_Law_law_372 ?_
    refine q_topi (y := nI (i + 4)) (nI_add _ _) ?_
    refine q_sld hx hb hX hbl hbA hZ.2.2 ((i + 4)) rfl (by omega) (by omega) d_Law_law_373 ?_
    refine lv_i2l (v := (xs (i + 4)).toInt64) hx hb d_Law_law_374 rfl ?_
    refine lv_ldc2 (v := 4294967295) hx hb hown (hts _ (gm k_577)) d_Law_law_375 ?_
    refine lv_land hx hb d_Law_law_378 ?_
    refine lv_lor hx hb d_Law_law_379 ?_
    refine q_topl (y := lj (xs (i + 3)) (xs (i + 4))) rfl ?_
    refine lv_aload_n hx hb d_Law_law_380 rfl (lv_at hl 2 rfl) ?_
    refine lv_iload hx hb d_Law_law_381 (lv_at hl 1 rfl) ?_
    refine lv_iconst (v := (nI 5)) hx hb d_Law_law_383 rfl ?_
    refine lv_iadd hx hb d_Law_law_384 ?_
    refine q_topi (y := nI (i + 5)) (nI_add _ _) ?_
    refine q_sld hx hb hX hbl hbA hZ.2.2 ((i + 5)) rfl (by omega) (by omega) d_Law_law_385 ?_
    refine lv_i2l (v := (xs (i + 5)).toInt64) hx hb d_Law_law_386 rfl ?_
    refine lv_bipush (v := (nI 32)) hx hb d_Law_law_387 rfl ?_
    refine lv_lshl (v := ((xs (i + 5)).toInt64) <<< ((nI 32).toInt64 &&& 63)) hx hb d_Law_law_389 rfl ?_
    refine lv_aload_n hx hb d_Law_law_390 rfl (lv_at hl 2 rfl) ?_
    refine lv_iload hx hb d_Law_law_391 (lv_at hl 1 rfl) ?_
    refine lv_bipush (v := (nI 6)) hx hb d_Law_law_393 rfl ?_
    refine lv_iadd hx hb d_Law_law_395 ?_
    refine q_topi (y := nI (i + 6)) (nI_add _ _) ?_
    refine q_sld hx hb hX hbl hbA hZ.2.2 ((i + 6)) rfl (by omega) (by omega) d_Law_law_396 ?_
    refine lv_i2l (v := (xs (i + 6)).toInt64) hx hb d_Law_law_397 rfl ?_
    refine lv_ldc2 (v := 4294967295) hx hb hown (hts _ (gm k_577)) d_Law_law_398 ?_
    refine lv_land hx hb d_Law_law_401 ?_
    refine lv_lor hx hb d_Law_law_402 ?_
    refine q_topl (y := lj (xs (i + 5)) (xs (i + 6))) rfl ?_
    obtain ⟨fs43, h43⟩ := sM_43 hMM
    refine q_calli (va_runV (As := [.int (xs (i + 1)), .int (xs (i + 2)), .long (lj (xs (i + 3)) (xs (i + 4))), .long (lj (xs (i + 5)) (xs (i + 6)))]) (rest := []) ⟨hx, hb, hml, hown, hts⟩ (x_Mod_put l dC dI cI cL cB ad s.heap.size w t0 F (xs (i + 1)) (xs (i + 2)) (lj (xs (i + 3)) (xs (i + 4))) (lj (xs (i + 5)) (xs (i + 6))) (nI 1) hMM (Or.inl ⟨fun z => hB z.1, rfl⟩)) (cwV 4 hts (gI_V k_481 k_478 k_479 k_480 k_24) rfl rfl rfl (by decide +kernel) ⟨Nat.le_of_ble_eq_true rfl, Nat.le_of_ble_eq_true rfl⟩) (q_preV hK hAm hZ hN [.int (xs (i + 1)), .int (xs (i + 2)), .long (lj (xs (i + 3)) (xs (i + 4))), .long (lj (xs (i + 5)) (xs (i + 6)))] (43) 3 (by decide) h43 rfl) rfl rfl hl.1 rfl (lv_room (Nat.le_of_ble_eq_true rfl)) d_Law_law_403 hc1) hZ (fun v u_v H locs h_v hZ => ?_)
    obtain ⟨hfr, hres2⟩ := h_v
    have h51 := (hfr 51 (by omega)).trans h51
    have hMM := hres2
    have hC := sC_fr hC (fun x hx => hfr x (by omega))
    refine lv_istore (lv' := [(6, .int v), (5, .int (nI 1)), (4, .int (nI i)), (0, .ref b), (1, .ref (ad 0)), (2, .ref (ad 43)), (3, .ref (ad 51))]) hx hb d_Law_law_406 hl (by decide) rfl (fun ls hl => ?_)
    refine lv_aload_n hx hb d_Law_law_408 rfl (lv_at hl 5 rfl) ?_
    obtain ⟨fs43, h43⟩ := sM_43 hMM
    refine q_calli (va_runV (As := []) (rest := []) ⟨hx, hb, hml, hown, hts⟩ (c_Mod_thrown l dC dI cI cL cB ad s.heap.size u_v _ _ hMM) (cwV 0 hts (gI_V k_454 k_451 k_452 k_453 k_24) rfl rfl rfl (by decide +kernel) ⟨Nat.le_of_ble_eq_true rfl, Nat.le_of_ble_eq_true rfl⟩) (q_preV hK hAm hZ hN [] (43) 3 (by decide) h43 rfl) rfl rfl hl.1 rfl (lv_room (Nat.le_of_ble_eq_true rfl)) d_Law_law_409 hc1) hZ (fun th u_th H locs h_th hZ => ?_)
    obtain ⟨e_th, e_t⟩ := h_th
    rw [e_th] at hZ
    refine q_topi (y := nI 1) e_t ?_
    refine lv_iload hx hb d_Law_law_412 (lv_at hl 1 rfl) ?_
    refine lv_icmp_eq (tgt := 419) hx hb d_Law_law_414 (by decide) (fun h414 => ?_) (fun h414 => ?_)
    · skip
      have h414 : 1 = 1 := (nI_eq (a := 1) (b := 1) (by omega) (by omega)).mp h414
      refine lv_iload hx hb d_Law_law_419 (lv_at hl 1 rfl) ?_
      refine lv_if_ne (tgt := 443) hx hb d_Law_law_421 (by decide) (fun h421 => ?_) (fun h421 => ?_)
      · skip
        have h421 : ¬ 1 = 0 := fun z9 => h421 ((nI_eq (a := 1) (b := 0) (by omega) (by omega)).mpr z9)
        refine lv_goto (tgt := 1486) hx hb d_Law_law_443 (by decide) ?_
        exact K _ _ _ _ _ _ _ hC hMM h51 hZ (lv_sub hl [2, 3, 4, 5, 6] rfl)
      · skip
        have h421 : 1 = 0 := (nI_eq (a := 1) (b := 0) (by omega) (by omega)).mp h421
        exact absurd h421 (by decide)
    · skip
      have h414 : ¬ 1 = 1 := fun z9 => h414 ((nI_eq (a := 1) (b := 1) (by omega) (by omega)).mpr z9)
      exact absurd h414 (by decide)
set_option maxHeartbeats 4000000 in
set_option maxRecDepth 100000 in
/-- amount -/
theorem law_8 {p : Program} {e : Env} {s : State} {m : MethodId} {below : List Frame} {meth : Method} {c : Code} (l : Launch) (hfl : l.stackTraces = false) {b L : Nat} {xs : Nat → Int32} (C0 : lw_At p s m meth c b L xs) (dC : Nat → ClassId) (dI : Nat → Nat → Nat) (cI cL cB : ClassId) (ad : Nat → Nat) (hK : va_K (dC, dI) vCl [(cI, .int), (cL, .long), (cB, .object "CoinBag$Bag")] s) (hAm : sAm s.heap.size s) (i : Nat) (hi : i + 7 ≤ L) (hL : L ≤ 3584) (cells slots : Nat) (hc1 : cells + 1 ≤ room_1.cells ∧ slots + 6 ≤ room_1.slots) (K : lawK p l e s m below meth c b dC dI cI cL cB ad i (cells + 1) (slots + 6)) (w : Nat → va_E) (F : Nat → Int → Int64) (o : Nat → Int64) (t0 : Int32) (H : Heap) (locs : List Loc) (ls : Array Slot) (hC : sC ad cI cL cB w F) (hMM : sM ad cI cL w t0 F) (h51 : w 51 = .inl (cL, 1, .inr (.inl o))) (hZ : sZ (dC, dI) vCl 52 ad (fun q => s.heap.size ≤ q) s.heap w H locs) (hl : lv_has ls 8 [(4, .int (nI i)), (0, .ref b), (1, .ref (ad 0)), (2, .ref (ad 43)), (3, .ref (ad 51))]) : W p l e room_1 s m #[Value.ref b] below meth c H locs cells slots (lw_Z below #[Value.ref b] s) (F0 m 950 ls []) := by
  obtain ⟨hx, hb, hr, hml, hown, hts0, hX, hbl, hlocks, hgv⟩ := id C0
  have hts := law_hts hts0
  have hN : s.heap.size ≤ s.heap.size := Nat.le_refl _
  have hbA : ¬ (fun q => s.heap.size ≤ q) b := Nat.not_le.mpr hbl
  have hc0 : cells + 0 ≤ room_1.cells ∧ slots + 0 ≤ room_1.slots := ⟨Nat.le_trans (Nat.le_succ _) hc1.1, Nat.le_trans (by omega) hc1.2⟩
  by_cases hB : okB (xs (i + 1))
  · skip
    obtain ⟨j1, hj1, ej1⟩ := okB_nat hB
    by_cases hQ : okP (xs (i + 2))
    · skip
      refine lv_aload_n hx hb d_Law_law_950 rfl (lv_at hl 2 rfl) ?_
      refine lv_aload_n hx hb d_Law_law_951 rfl (lv_at hl 1 rfl) ?_
      refine lv_iload hx hb d_Law_law_952 (lv_at hl 0 rfl) ?_
      refine lv_iconst (v := (nI 1)) hx hb d_Law_law_954 rfl ?_
      refine lv_iadd hx hb d_Law_law_955 ?_
      refine q_topi (y := nI (i + 1)) (nI_add _ _) ?_
      refine q_sld hx hb hX hbl hbA hZ.2.2 ((i + 1)) rfl (by omega) (by omega) d_Law_law_956 ?_
      refine q_topi (y := nI j1) ej1 ?_
      refine lv_aload_n hx hb d_Law_law_957 rfl (lv_at hl 1 rfl) ?_
      refine lv_iload hx hb d_Law_law_958 (lv_at hl 0 rfl) ?_
      refine lv_iconst (v := (nI 2)) hx hb d_Law_law_960 rfl ?_
      refine lv_iadd hx hb d_Law_law_961 ?_
      refine q_topi (y := nI (i + 2)) (nI_add _ _) ?_
      refine q_sld hx hb hX hbl hbA hZ.2.2 ((i + 2)) rfl (by omega) (by omega) d_Law_law_962 ?_
      refine lv_aload_n hx hb d_Law_law_963 rfl (lv_at hl 1 rfl) ?_
      refine lv_iload hx hb d_Law_law_964 (lv_at hl 0 rfl) ?_
      refine lv_iconst (v := (nI 3)) hx hb d_Law_law_966 rfl ?_
      refine lv_iadd hx hb d_Law_law_967 ?_
      refine q_topi (y := nI (i + 3)) (nI_add _ _) ?_
      refine q_sld hx hb hX hbl hbA hZ.2.2 ((i + 3)) rfl (by omega) (by omega) d_Law_law_968 ?_
      refine lv_i2l (v := (xs (i + 3)).toInt64) hx hb d_Law_law_969 rfl ?_
      refine lv_bipush (v := (nI 32)) hx hb d_Law_law_970 rfl ?_
      refine lv_lshl (v := ((xs (i + 3)).toInt64) <<< ((nI 32).toInt64 &&& 63)) hx hb d_Law_law_972 rfl ?_
      refine lv_aload_n hx hb d_Law_law_973 rfl (lv_at hl 1 rfl) ?_
      refine lv_iload hx hb d_Law_law_974 (lv_at hl 0 rfl) ?_
      refine lv_iconst (v := (nI 4)) hx hb d_Law_law_976 rfl ?_
      refine lv_iadd hx hb d_Law_law_977 ?_
      refine q_topi (y := nI (i + 4)) (nI_add _ _) ?_
      refine q_sld hx hb hX hbl hbA hZ.2.2 ((i + 4)) rfl (by omega) (by omega) d_Law_law_978 ?_
      refine lv_i2l (v := (xs (i + 4)).toInt64) hx hb d_Law_law_979 rfl ?_
      refine lv_ldc2 (v := 4294967295) hx hb hown (hts _ (gm k_577)) d_Law_law_980 ?_
      refine lv_land hx hb d_Law_law_983 ?_
      refine lv_lor hx hb d_Law_law_984 ?_
      refine q_topl (y := lj (xs (i + 3)) (xs (i + 4))) rfl ?_
      refine lv_aload_n hx hb d_Law_law_985 rfl (lv_at hl 4 rfl) ?_
      refine q_calli (vx_runSW (As := [.ref (ad 0), .int (nI j1), .int (xs (i + 2)), .long (lj (xs (i + 3)) (xs (i + 4))), .ref (ad 51)]) (rest := []) ⟨hx, hb, hml, hown, hts⟩ (c_Law_amount l dC dI cI cL cB ad s.heap.size w F j1 (xs (i + 2)) (lj (xs (i + 3)) (xs (i + 4))) o hC hj1 hQ h51) (vx_cwSW 5 hts (gI_S k_344 k_342 k_343 k_20) rfl rfl rfl (by decide +kernel) ⟨Nat.le_of_ble_eq_true rfl, Nat.le_of_ble_eq_true rfl⟩) (q_pre hK hAm hZ hN [.ref (ad 0), .int (nI j1), .int (xs (i + 2)), .long (lj (xs (i + 3)) (xs (i + 4))), .ref (ad 51)]) rfl rfl hl.1 rfl (lv_room (Nat.le_of_ble_eq_true rfl)) d_Law_law_986 hc0) hZ (fun r u_r H locs h_r hZ => ?_)
      obtain ⟨e_r, hkp, o2, h51, hres⟩ := h_r
      have hMM := sM_fr hMM (fun x h1 h2 => hkp x (by omega) (by omega))
      refine q_topi (y := nI 0) e_r ?_
      obtain ⟨hC, hres⟩ := hres
      refine lv_istore (lv' := [(5, .int (nI 0)), (4, .int (nI i)), (0, .ref b), (1, .ref (ad 0)), (2, .ref (ad 43)), (3, .ref (ad 51))]) hx hb d_Law_law_989 hl (by decide) rfl (fun ls hl => ?_)
      refine lv_aload_n hx hb d_Law_law_991 rfl (lv_at hl 4 rfl) ?_
      refine lv_aload_n hx hb d_Law_law_992 rfl (lv_at hl 2 rfl) ?_
      refine lv_iload hx hb d_Law_law_993 (lv_at hl 1 rfl) ?_
      refine lv_iconst (v := (nI 1)) hx hb d_Law_law_995 rfl ?_
      refine lv_iadd hx hb d_Law_law_996 ?_
      refine q_topi (y := nI (i + 1)) (nI_add _ _) ?_
      refine q_sld hx hb hX hbl hbA hZ.2.2 ((i + 1)) rfl (by omega) (by omega) d_Law_law_997 ?_
      refine q_topi (y := nI j1) ej1 ?_
      refine lv_aload_n hx hb d_Law_law_998 rfl (lv_at hl 2 rfl) ?_
      refine lv_iload hx hb d_Law_law_999 (lv_at hl 1 rfl) ?_
      refine lv_iconst (v := (nI 2)) hx hb d_Law_law_1001 rfl ?_
      refine lv_iadd hx hb d_Law_law_1002 ?_
      refine q_topi (y := nI (i + 2)) (nI_add _ _) ?_
      refine q_sld hx hb hX hbl hbA hZ.2.2 ((i + 2)) rfl (by omega) (by omega) d_Law_law_1003 ?_
      refine lv_aload_n hx hb d_Law_law_1004 rfl (lv_at hl 2 rfl) ?_
      refine lv_iload hx hb d_Law_law_1005 (lv_at hl 1 rfl) ?_
      refine lv_iconst (v := (nI 3)) hx hb d_Law_law_1007 rfl ?_
      refine lv_iadd hx hb d_Law_law_1008 ?_
      refine q_topi (y := nI (i + 3)) (nI_add _ _) ?_
      refine q_sld hx hb hX hbl hbA hZ.2.2 ((i + 3)) rfl (by omega) (by omega) d_Law_law_1009 ?_
      refine lv_i2l (v := (xs (i + 3)).toInt64) hx hb d_Law_law_1010 rfl ?_
      refine lv_bipush (v := (nI 32)) hx hb d_Law_law_1011 rfl ?_
      refine lv_lshl (v := ((xs (i + 3)).toInt64) <<< ((nI 32).toInt64 &&& 63)) hx hb d_Law_law_1013 rfl ?_
      refine lv_aload_n hx hb d_Law_law_1014 rfl (lv_at hl 2 rfl) ?_
      refine lv_iload hx hb d_Law_law_1015 (lv_at hl 1 rfl) ?_
      refine lv_iconst (v := (nI 4)) hx hb d_Law_law_1017 rfl ?_
      refine lv_iadd hx hb d_Law_law_1018 ?_
      refine q_topi (y := nI (i + 4)) (nI_add _ _) ?_
      refine q_sld hx hb hX hbl hbA hZ.2.2 ((i + 4)) rfl (by omega) (by omega) d_Law_law_1019 ?_
      refine lv_i2l (v := (xs (i + 4)).toInt64) hx hb d_Law_law_1020 rfl ?_
      refine lv_ldc2 (v := 4294967295) hx hb hown (hts _ (gm k_577)) d_Law_law_1021 ?_
      refine lv_land hx hb d_Law_law_1024 ?_
      refine lv_lor hx hb d_Law_law_1025 ?_
      refine q_topl (y := lj (xs (i + 3)) (xs (i + 4))) rfl ?_
      obtain ⟨fs43, h43⟩ := sM_43 hMM
      refine q_calll (va_runV (As := [.int (nI j1), .int (xs (i + 2)), .long (lj (xs (i + 3)) (xs (i + 4)))]) (rest := []) ⟨hx, hb, hml, hown, hts⟩ (c_Mod_amount l dC dI cI cL cB ad s.heap.size u_r t0 F j1 (xs (i + 2)) (lj (xs (i + 3)) (xs (i + 4))) hMM hj1 hQ) (cwV 3 hts (gI_V k_548 k_545 k_546 k_547 k_24) rfl rfl rfl (by decide +kernel) ⟨Nat.le_of_ble_eq_true rfl, Nat.le_of_ble_eq_true rfl⟩) (q_preV hK hAm hZ hN [.int (nI j1), .int (xs (i + 2)), .long (lj (xs (i + 3)) (xs (i + 4)))] (43) 3 (by decide) h43 rfl) rfl rfl hl.1 rfl (lv_room (Nat.le_of_ble_eq_true rfl)) d_Law_law_1026 hc0) hZ (fun v u_v H locs h_v hZ => ?_)
      obtain ⟨hfr, hres2⟩ := h_v
      have h51 := (hfr 51 (by omega)).trans h51
      obtain ⟨hMM, hres2⟩ := hres2
      have hC := sC_fr hC (fun x hx => hfr x (by omega))
      refine lv_lstore (lv' := [(6, .long v), (5, .int (nI 0)), (4, .int (nI i)), (0, .ref b), (1, .ref (ad 0)), (2, .ref (ad 43)), (3, .ref (ad 51))]) hx hb d_Law_law_1029 hl (by decide) rfl (fun ls hl => ?_)
      refine lv_aload_n hx hb d_Law_law_1031 rfl (lv_at hl 5 rfl) ?_
      obtain ⟨fs43, h43⟩ := sM_43 hMM
      refine q_calli (va_runV (As := []) (rest := []) ⟨hx, hb, hml, hown, hts⟩ (c_Mod_thrown l dC dI cI cL cB ad s.heap.size u_v _ _ hMM) (cwV 0 hts (gI_V k_454 k_451 k_452 k_453 k_24) rfl rfl rfl (by decide +kernel) ⟨Nat.le_of_ble_eq_true rfl, Nat.le_of_ble_eq_true rfl⟩) (q_preV hK hAm hZ hN [] (43) 3 (by decide) h43 rfl) rfl rfl hl.1 rfl (lv_room (Nat.le_of_ble_eq_true rfl)) d_Law_law_1032 hc0) hZ (fun th u_th H locs h_th hZ => ?_)
      obtain ⟨e_th, e_t⟩ := h_th
      rw [e_th] at hZ
      refine q_topi (y := nI 0) e_t ?_
      refine lv_iload hx hb d_Law_law_1035 (lv_at hl 1 rfl) ?_
      refine lv_icmp_eq (tgt := 1042) hx hb d_Law_law_1037 (by decide) (fun h1037 => ?_) (fun h1037 => ?_)
      · skip
        have h1037 : 0 = 0 := (nI_eq (a := 0) (b := 0) (by omega) (by omega)).mp h1037
        refine lv_iload hx hb d_Law_law_1042 (lv_at hl 1 rfl) ?_
        refine lv_if_ne (tgt := 1058) hx hb d_Law_law_1044 (by decide) (fun h1044 => ?_) (fun h1044 => ?_)
        · skip
          have h1044 : ¬ 0 = 0 := fun z9 => h1044 ((nI_eq (a := 0) (b := 0) (by omega) (by omega)).mpr z9)
          exact absurd h1044 (by decide)
        · skip
          have h1044 : 0 = 0 := (nI_eq (a := 0) (b := 0) (by omega) (by omega)).mp h1044
          refine lv_aload_n hx hb d_Law_law_1047 rfl (lv_at hl 6 rfl) ?_
          refine lv_iconst (v := (nI 0)) hx hb d_Law_law_1048 rfl ?_
          refine q_lald hx hb hK hZ (51) 1 (0) (by decide) h51 rfl rfl (by omega) (by decide) d_Law_law_1049 ?_
          refine lv_lload hx hb d_Law_law_1050 (lv_at hl 0 rfl) ?_
          refine W.lcmp hx hb d_Law_law_1052 ?_
          refine lv_if_eq (tgt := 1058) hx hb d_Law_law_1053 (by decide) (fun h1053 => ?_) (fun h1053 => ?_)
          · skip
            rw [lg_cmp_eq] at h1053
            refine lv_goto (tgt := 1486) hx hb d_Law_law_1058 (by decide) ?_
            refine W.widen (k := cells + 1) (n := slots + 6) (by omega) (by omega) ?_
            exact K _ _ _ _ _ _ _ hC hMM h51 hZ (lv_sub hl [2, 3, 4, 5, 6] rfl)
          · skip
            rw [lg_cmp_eq] at h1053
            exact absurd (hres.trans hres2.symm) h1053
      · skip
        have h1037 : ¬ 0 = 0 := fun z9 => h1037 ((nI_eq (a := 0) (b := 0) (by omega) (by omega)).mpr z9)
        exact absurd h1037 (by decide)
    · skip
      refine lv_aload_n hx hb d_Law_law_950 rfl (lv_at hl 2 rfl) ?_
      refine lv_aload_n hx hb d_Law_law_951 rfl (lv_at hl 1 rfl) ?_
      refine lv_iload hx hb d_Law_law_952 (lv_at hl 0 rfl) ?_
      refine lv_iconst (v := (nI 1)) hx hb d_Law_law_954 rfl ?_
      refine lv_iadd hx hb d_Law_law_955 ?_
      refine q_topi (y := nI (i + 1)) (nI_add _ _) ?_
      refine q_sld hx hb hX hbl hbA hZ.2.2 ((i + 1)) rfl (by omega) (by omega) d_Law_law_956 ?_
      refine lv_aload_n hx hb d_Law_law_957 rfl (lv_at hl 1 rfl) ?_
      refine lv_iload hx hb d_Law_law_958 (lv_at hl 0 rfl) ?_
      refine lv_iconst (v := (nI 2)) hx hb d_Law_law_960 rfl ?_
      refine lv_iadd hx hb d_Law_law_961 ?_
      refine q_topi (y := nI (i + 2)) (nI_add _ _) ?_
      refine q_sld hx hb hX hbl hbA hZ.2.2 ((i + 2)) rfl (by omega) (by omega) d_Law_law_962 ?_
      refine lv_aload_n hx hb d_Law_law_963 rfl (lv_at hl 1 rfl) ?_
      refine lv_iload hx hb d_Law_law_964 (lv_at hl 0 rfl) ?_
      refine lv_iconst (v := (nI 3)) hx hb d_Law_law_966 rfl ?_
      refine lv_iadd hx hb d_Law_law_967 ?_
      refine q_topi (y := nI (i + 3)) (nI_add _ _) ?_
      refine q_sld hx hb hX hbl hbA hZ.2.2 ((i + 3)) rfl (by omega) (by omega) d_Law_law_968 ?_
      refine lv_i2l (v := (xs (i + 3)).toInt64) hx hb d_Law_law_969 rfl ?_
      refine lv_bipush (v := (nI 32)) hx hb d_Law_law_970 rfl ?_
      refine lv_lshl (v := ((xs (i + 3)).toInt64) <<< ((nI 32).toInt64 &&& 63)) hx hb d_Law_law_972 rfl ?_
      refine lv_aload_n hx hb d_Law_law_973 rfl (lv_at hl 1 rfl) ?_
      refine lv_iload hx hb d_Law_law_974 (lv_at hl 0 rfl) ?_
      refine lv_iconst (v := (nI 4)) hx hb d_Law_law_976 rfl ?_
      refine lv_iadd hx hb d_Law_law_977 ?_
      refine q_topi (y := nI (i + 4)) (nI_add _ _) ?_
      refine q_sld hx hb hX hbl hbA hZ.2.2 ((i + 4)) rfl (by omega) (by omega) d_Law_law_978 ?_
      refine lv_i2l (v := (xs (i + 4)).toInt64) hx hb d_Law_law_979 rfl ?_
      refine lv_ldc2 (v := 4294967295) hx hb hown (hts _ (gm k_577)) d_Law_law_980 ?_
      refine lv_land hx hb d_Law_law_983 ?_
      refine lv_lor hx hb d_Law_law_984 ?_
      refine q_topl (y := lj (xs (i + 3)) (xs (i + 4))) rfl ?_
      refine lv_aload_n hx hb d_Law_law_985 rfl (lv_at hl 4 rfl) ?_
      refine q_calliX (vx_runSW (As := [.ref (ad 0), .int (xs (i + 1)), .int (xs (i + 2)), .long (lj (xs (i + 3)) (xs (i + 4))), .ref (ad 51)]) (rest := []) ⟨hx, hb, hml, hown, hts⟩ (xp_Law_amount l hfl dC dI cI cL cB ad s.heap.size w (xs (i + 1)) (xs (i + 2)) (lj (xs (i + 3)) (xs (i + 4))) (sC_0 hC) hB hQ) (vx_cwSW 5 hts (gI_S k_344 k_342 k_343 k_20) rfl rfl rfl (by decide +kernel) ⟨Nat.le_of_ble_eq_true rfl, Nat.le_of_ble_eq_true rfl⟩) (q_pre hK hAm hZ hN [.ref (ad 0), .int (xs (i + 1)), .int (xs (i + 2)), .long (lj (xs (i + 3)) (xs (i + 4))), .ref (ad 51)]) rfl rfl hl.1 rfl (lv_room (Nat.le_of_ble_eq_true rfl)) d_Law_law_986 hc1) hZ (fun r u_r H locs h_r hZ => ?_)
      obtain ⟨e_r, e_u⟩ := h_r
      rw [e_u] at hZ
      refine q_topi (y := nI 2) e_r ?_
      refine lv_istore (lv' := [(5, .int (nI 2)), (4, .int (nI i)), (0, .ref b), (1, .ref (ad 0)), (2, .ref (ad 43)), (3, .ref (ad 51))]) hx hb d_Law_law_989 hl (by decide) rfl (fun ls hl => ?_)
      refine lv_aload_n hx hb d_Law_law_991 rfl (lv_at hl 4 rfl) ?_
      refine lv_aload_n hx hb d_Law_law_992 rfl (lv_at hl 2 rfl) ?_
      refine lv_iload hx hb d_Law_law_993 (lv_at hl 1 rfl) ?_
      refine lv_iconst (v := (nI 1)) hx hb d_Law_law_995 rfl ?_
      refine lv_iadd hx hb d_Law_law_996 ?_
      refine q_topi (y := nI (i + 1)) (nI_add _ _) ?_
      refine q_sld hx hb hX hbl hbA hZ.2.2 ((i + 1)) rfl (by omega) (by omega) d_Law_law_997 ?_
      refine lv_aload_n hx hb d_Law_law_998 rfl (lv_at hl 2 rfl) ?_
      refine lv_iload hx hb d_Law_law_999 (lv_at hl 1 rfl) ?_
      refine lv_iconst (v := (nI 2)) hx hb d_Law_law_1001 rfl ?_
      refine lv_iadd hx hb d_Law_law_1002 ?_
      refine q_topi (y := nI (i + 2)) (nI_add _ _) ?_
      refine q_sld hx hb hX hbl hbA hZ.2.2 ((i + 2)) rfl (by omega) (by omega) d_Law_law_1003 ?_
      refine lv_aload_n hx hb d_Law_law_1004 rfl (lv_at hl 2 rfl) ?_
      refine lv_iload hx hb d_Law_law_1005 (lv_at hl 1 rfl) ?_
      refine lv_iconst (v := (nI 3)) hx hb d_Law_law_1007 rfl ?_
      refine lv_iadd hx hb d_Law_law_1008 ?_
      refine q_topi (y := nI (i + 3)) (nI_add _ _) ?_
      refine q_sld hx hb hX hbl hbA hZ.2.2 ((i + 3)) rfl (by omega) (by omega) d_Law_law_1009 ?_
      refine lv_i2l (v := (xs (i + 3)).toInt64) hx hb d_Law_law_1010 rfl ?_
      refine lv_bipush (v := (nI 32)) hx hb d_Law_law_1011 rfl ?_
      refine lv_lshl (v := ((xs (i + 3)).toInt64) <<< ((nI 32).toInt64 &&& 63)) hx hb d_Law_law_1013 rfl ?_
      refine lv_aload_n hx hb d_Law_law_1014 rfl (lv_at hl 2 rfl) ?_
      refine lv_iload hx hb d_Law_law_1015 (lv_at hl 1 rfl) ?_
      refine lv_iconst (v := (nI 4)) hx hb d_Law_law_1017 rfl ?_
      refine lv_iadd hx hb d_Law_law_1018 ?_
      refine q_topi (y := nI (i + 4)) (nI_add _ _) ?_
      refine q_sld hx hb hX hbl hbA hZ.2.2 ((i + 4)) rfl (by omega) (by omega) d_Law_law_1019 ?_
      refine lv_i2l (v := (xs (i + 4)).toInt64) hx hb d_Law_law_1020 rfl ?_
      refine lv_ldc2 (v := 4294967295) hx hb hown (hts _ (gm k_577)) d_Law_law_1021 ?_
      refine lv_land hx hb d_Law_law_1024 ?_
      refine lv_lor hx hb d_Law_law_1025 ?_
      refine q_topl (y := lj (xs (i + 3)) (xs (i + 4))) rfl ?_
      obtain ⟨fs43, h43⟩ := sM_43 hMM
      refine q_calll (va_runV (As := [.int (xs (i + 1)), .int (xs (i + 2)), .long (lj (xs (i + 3)) (xs (i + 4)))]) (rest := []) ⟨hx, hb, hml, hown, hts⟩ (x_Mod_amount l dC dI cI cL cB ad s.heap.size w t0 F (xs (i + 1)) (xs (i + 2)) (lj (xs (i + 3)) (xs (i + 4))) (nI 2) hMM (Or.inr ⟨⟨hB, okB_0, okB_0⟩, hQ, rfl⟩)) (cwV 3 hts (gI_V k_548 k_545 k_546 k_547 k_24) rfl rfl rfl (by decide +kernel) ⟨Nat.le_of_ble_eq_true rfl, Nat.le_of_ble_eq_true rfl⟩) (q_preV hK hAm hZ hN [.int (xs (i + 1)), .int (xs (i + 2)), .long (lj (xs (i + 3)) (xs (i + 4)))] (43) 3 (by decide) h43 rfl) rfl rfl hl.1 rfl (lv_room (Nat.le_of_ble_eq_true rfl)) d_Law_law_1026 hc1) hZ (fun v u_v H locs h_v hZ => ?_)
      obtain ⟨hfr, hres2⟩ := h_v
      have h51 := (hfr 51 (by omega)).trans h51
      have hMM := hres2
      have hC := sC_fr hC (fun x hx => hfr x (by omega))
      refine lv_lstore (lv' := [(6, .long v), (5, .int (nI 2)), (4, .int (nI i)), (0, .ref b), (1, .ref (ad 0)), (2, .ref (ad 43)), (3, .ref (ad 51))]) hx hb d_Law_law_1029 hl (by decide) rfl (fun ls hl => ?_)
      refine lv_aload_n hx hb d_Law_law_1031 rfl (lv_at hl 5 rfl) ?_
      obtain ⟨fs43, h43⟩ := sM_43 hMM
      refine q_calli (va_runV (As := []) (rest := []) ⟨hx, hb, hml, hown, hts⟩ (c_Mod_thrown l dC dI cI cL cB ad s.heap.size u_v _ _ hMM) (cwV 0 hts (gI_V k_454 k_451 k_452 k_453 k_24) rfl rfl rfl (by decide +kernel) ⟨Nat.le_of_ble_eq_true rfl, Nat.le_of_ble_eq_true rfl⟩) (q_preV hK hAm hZ hN [] (43) 3 (by decide) h43 rfl) rfl rfl hl.1 rfl (lv_room (Nat.le_of_ble_eq_true rfl)) d_Law_law_1032 hc1) hZ (fun th u_th H locs h_th hZ => ?_)
      obtain ⟨e_th, e_t⟩ := h_th
      rw [e_th] at hZ
      refine q_topi (y := nI 2) e_t ?_
      refine lv_iload hx hb d_Law_law_1035 (lv_at hl 1 rfl) ?_
      refine lv_icmp_eq (tgt := 1042) hx hb d_Law_law_1037 (by decide) (fun h1037 => ?_) (fun h1037 => ?_)
      · skip
        have h1037 : 2 = 2 := (nI_eq (a := 2) (b := 2) (by omega) (by omega)).mp h1037
        refine lv_iload hx hb d_Law_law_1042 (lv_at hl 1 rfl) ?_
        refine lv_if_ne (tgt := 1058) hx hb d_Law_law_1044 (by decide) (fun h1044 => ?_) (fun h1044 => ?_)
        · skip
          have h1044 : ¬ 2 = 0 := fun z9 => h1044 ((nI_eq (a := 2) (b := 0) (by omega) (by omega)).mpr z9)
          refine lv_goto (tgt := 1486) hx hb d_Law_law_1058 (by decide) ?_
          exact K _ _ _ _ _ _ _ hC hMM h51 hZ (lv_sub hl [2, 3, 4, 5, 6] rfl)
        · skip
          have h1044 : 2 = 0 := (nI_eq (a := 2) (b := 0) (by omega) (by omega)).mp h1044
          exact absurd h1044 (by decide)
      · skip
        have h1037 : ¬ 2 = 2 := fun z9 => h1037 ((nI_eq (a := 2) (b := 2) (by omega) (by omega)).mpr z9)
        exact absurd h1037 (by decide)
  · skip
    refine lv_aload_n hx hb d_Law_law_950 rfl (lv_at hl 2 rfl) ?_
    refine lv_aload_n hx hb d_Law_law_951 rfl (lv_at hl 1 rfl) ?_
    refine lv_iload hx hb d_Law_law_952 (lv_at hl 0 rfl) ?_
    refine lv_iconst (v := (nI 1)) hx hb d_Law_law_954 rfl ?_
    refine lv_iadd hx hb d_Law_law_955 ?_
    refine q_topi (y := nI (i + 1)) (nI_add _ _) ?_
    refine q_sld hx hb hX hbl hbA hZ.2.2 ((i + 1)) rfl (by omega) (by omega) d_Law_law_956 ?_
    refine lv_aload_n hx hb d_Law_law_957 rfl (lv_at hl 1 rfl) ?_
    refine lv_iload hx hb d_Law_law_958 (lv_at hl 0 rfl) ?_
    refine lv_iconst (v := (nI 2)) hx hb d_Law_law_960 rfl ?_
    refine lv_iadd hx hb d_Law_law_961 ?_
    refine q_topi (y := nI (i + 2)) (nI_add _ _) ?_
    refine q_sld hx hb hX hbl hbA hZ.2.2 ((i + 2)) rfl (by omega) (by omega) d_Law_law_962 ?_
    refine lv_aload_n hx hb d_Law_law_963 rfl (lv_at hl 1 rfl) ?_
    refine lv_iload hx hb d_Law_law_964 (lv_at hl 0 rfl) ?_
    refine lv_iconst (v := (nI 3)) hx hb d_Law_law_966 rfl ?_
    refine lv_iadd hx hb d_Law_law_967 ?_
    refine q_topi (y := nI (i + 3)) (nI_add _ _) ?_
    refine q_sld hx hb hX hbl hbA hZ.2.2 ((i + 3)) rfl (by omega) (by omega) d_Law_law_968 ?_
    refine lv_i2l (v := (xs (i + 3)).toInt64) hx hb d_Law_law_969 rfl ?_
    refine lv_bipush (v := (nI 32)) hx hb d_Law_law_970 rfl ?_
    refine lv_lshl (v := ((xs (i + 3)).toInt64) <<< ((nI 32).toInt64 &&& 63)) hx hb d_Law_law_972 rfl ?_
    refine lv_aload_n hx hb d_Law_law_973 rfl (lv_at hl 1 rfl) ?_
    refine lv_iload hx hb d_Law_law_974 (lv_at hl 0 rfl) ?_
    refine lv_iconst (v := (nI 4)) hx hb d_Law_law_976 rfl ?_
    refine lv_iadd hx hb d_Law_law_977 ?_
    refine q_topi (y := nI (i + 4)) (nI_add _ _) ?_
    refine q_sld hx hb hX hbl hbA hZ.2.2 ((i + 4)) rfl (by omega) (by omega) d_Law_law_978 ?_
    refine lv_i2l (v := (xs (i + 4)).toInt64) hx hb d_Law_law_979 rfl ?_
    refine lv_ldc2 (v := 4294967295) hx hb hown (hts _ (gm k_577)) d_Law_law_980 ?_
    refine lv_land hx hb d_Law_law_983 ?_
    refine lv_lor hx hb d_Law_law_984 ?_
    refine q_topl (y := lj (xs (i + 3)) (xs (i + 4))) rfl ?_
    refine lv_aload_n hx hb d_Law_law_985 rfl (lv_at hl 4 rfl) ?_
    refine q_calliX (vx_runSW (As := [.ref (ad 0), .int (xs (i + 1)), .int (xs (i + 2)), .long (lj (xs (i + 3)) (xs (i + 4))), .ref (ad 51)]) (rest := []) ⟨hx, hb, hml, hown, hts⟩ (xb_Law_amount l hfl dC dI cI cL cB ad s.heap.size w (xs (i + 1)) (xs (i + 2)) (lj (xs (i + 3)) (xs (i + 4))) (sC_0 hC) hB) (vx_cwSW 5 hts (gI_S k_344 k_342 k_343 k_20) rfl rfl rfl (by decide +kernel) ⟨Nat.le_of_ble_eq_true rfl, Nat.le_of_ble_eq_true rfl⟩) (q_pre hK hAm hZ hN [.ref (ad 0), .int (xs (i + 1)), .int (xs (i + 2)), .long (lj (xs (i + 3)) (xs (i + 4))), .ref (ad 51)]) rfl rfl hl.1 rfl (lv_room (Nat.le_of_ble_eq_true rfl)) d_Law_law_986 hc1) hZ (fun r u_r H locs h_r hZ => ?_)
    obtain ⟨e_r, e_u⟩ := h_r
    rw [e_u] at hZ
    refine q_topi (y := nI 1) e_r ?_
    refine lv_istore (lv' := [(5, .int (nI 1)), (4, .int (nI i)), (0, .ref b), (1, .ref (ad 0)), (2, .ref (ad 43)), (3, .ref (ad 51))]) hx hb d_Law_law_989 hl (by decide) rfl (fun ls hl => ?_)
    refine lv_aload_n hx hb d_Law_law_991 rfl (lv_at hl 4 rfl) ?_
    refine lv_aload_n hx hb d_Law_law_992 rfl (lv_at hl 2 rfl) ?_
    refine lv_iload hx hb d_Law_law_993 (lv_at hl 1 rfl) ?_
    refine lv_iconst (v := (nI 1)) hx hb d_Law_law_995 rfl ?_
    refine lv_iadd hx hb d_Law_law_996 ?_
    refine q_topi (y := nI (i + 1)) (nI_add _ _) ?_
    refine q_sld hx hb hX hbl hbA hZ.2.2 ((i + 1)) rfl (by omega) (by omega) d_Law_law_997 ?_
    refine lv_aload_n hx hb d_Law_law_998 rfl (lv_at hl 2 rfl) ?_
    refine lv_iload hx hb d_Law_law_999 (lv_at hl 1 rfl) ?_
    refine lv_iconst (v := (nI 2)) hx hb d_Law_law_1001 rfl ?_
    refine lv_iadd hx hb d_Law_law_1002 ?_
    refine q_topi (y := nI (i + 2)) (nI_add _ _) ?_
    refine q_sld hx hb hX hbl hbA hZ.2.2 ((i + 2)) rfl (by omega) (by omega) d_Law_law_1003 ?_
    refine lv_aload_n hx hb d_Law_law_1004 rfl (lv_at hl 2 rfl) ?_
    refine lv_iload hx hb d_Law_law_1005 (lv_at hl 1 rfl) ?_
    refine lv_iconst (v := (nI 3)) hx hb d_Law_law_1007 rfl ?_
    refine lv_iadd hx hb d_Law_law_1008 ?_
    refine q_topi (y := nI (i + 3)) (nI_add _ _) ?_
    refine q_sld hx hb hX hbl hbA hZ.2.2 ((i + 3)) rfl (by omega) (by omega) d_Law_law_1009 ?_
    refine lv_i2l (v := (xs (i + 3)).toInt64) hx hb d_Law_law_1010 rfl ?_
    refine lv_bipush (v := (nI 32)) hx hb d_Law_law_1011 rfl ?_
    refine lv_lshl (v := ((xs (i + 3)).toInt64) <<< ((nI 32).toInt64 &&& 63)) hx hb d_Law_law_1013 rfl ?_
    refine lv_aload_n hx hb d_Law_law_1014 rfl (lv_at hl 2 rfl) ?_
    refine lv_iload hx hb d_Law_law_1015 (lv_at hl 1 rfl) ?_
    refine lv_iconst (v := (nI 4)) hx hb d_Law_law_1017 rfl ?_
    refine lv_iadd hx hb d_Law_law_1018 ?_
    refine q_topi (y := nI (i + 4)) (nI_add _ _) ?_
    refine q_sld hx hb hX hbl hbA hZ.2.2 ((i + 4)) rfl (by omega) (by omega) d_Law_law_1019 ?_
    refine lv_i2l (v := (xs (i + 4)).toInt64) hx hb d_Law_law_1020 rfl ?_
    refine lv_ldc2 (v := 4294967295) hx hb hown (hts _ (gm k_577)) d_Law_law_1021 ?_
    refine lv_land hx hb d_Law_law_1024 ?_
    refine lv_lor hx hb d_Law_law_1025 ?_
    refine q_topl (y := lj (xs (i + 3)) (xs (i + 4))) rfl ?_
    obtain ⟨fs43, h43⟩ := sM_43 hMM
    refine q_calll (va_runV (As := [.int (xs (i + 1)), .int (xs (i + 2)), .long (lj (xs (i + 3)) (xs (i + 4)))]) (rest := []) ⟨hx, hb, hml, hown, hts⟩ (x_Mod_amount l dC dI cI cL cB ad s.heap.size w t0 F (xs (i + 1)) (xs (i + 2)) (lj (xs (i + 3)) (xs (i + 4))) (nI 1) hMM (Or.inl ⟨fun z => hB z.1, rfl⟩)) (cwV 3 hts (gI_V k_548 k_545 k_546 k_547 k_24) rfl rfl rfl (by decide +kernel) ⟨Nat.le_of_ble_eq_true rfl, Nat.le_of_ble_eq_true rfl⟩) (q_preV hK hAm hZ hN [.int (xs (i + 1)), .int (xs (i + 2)), .long (lj (xs (i + 3)) (xs (i + 4)))] (43) 3 (by decide) h43 rfl) rfl rfl hl.1 rfl (lv_room (Nat.le_of_ble_eq_true rfl)) d_Law_law_1026 hc1) hZ (fun v u_v H locs h_v hZ => ?_)
    obtain ⟨hfr, hres2⟩ := h_v
    have h51 := (hfr 51 (by omega)).trans h51
    have hMM := hres2
    have hC := sC_fr hC (fun x hx => hfr x (by omega))
    refine lv_lstore (lv' := [(6, .long v), (5, .int (nI 1)), (4, .int (nI i)), (0, .ref b), (1, .ref (ad 0)), (2, .ref (ad 43)), (3, .ref (ad 51))]) hx hb d_Law_law_1029 hl (by decide) rfl (fun ls hl => ?_)
    refine lv_aload_n hx hb d_Law_law_1031 rfl (lv_at hl 5 rfl) ?_
    obtain ⟨fs43, h43⟩ := sM_43 hMM
    refine q_calli (va_runV (As := []) (rest := []) ⟨hx, hb, hml, hown, hts⟩ (c_Mod_thrown l dC dI cI cL cB ad s.heap.size u_v _ _ hMM) (cwV 0 hts (gI_V k_454 k_451 k_452 k_453 k_24) rfl rfl rfl (by decide +kernel) ⟨Nat.le_of_ble_eq_true rfl, Nat.le_of_ble_eq_true rfl⟩) (q_preV hK hAm hZ hN [] (43) 3 (by decide) h43 rfl) rfl rfl hl.1 rfl (lv_room (Nat.le_of_ble_eq_true rfl)) d_Law_law_1032 hc1) hZ (fun th u_th H locs h_th hZ => ?_)
    obtain ⟨e_th, e_t⟩ := h_th
    rw [e_th] at hZ
    refine q_topi (y := nI 1) e_t ?_
    refine lv_iload hx hb d_Law_law_1035 (lv_at hl 1 rfl) ?_
    refine lv_icmp_eq (tgt := 1042) hx hb d_Law_law_1037 (by decide) (fun h1037 => ?_) (fun h1037 => ?_)
    · skip
      have h1037 : 1 = 1 := (nI_eq (a := 1) (b := 1) (by omega) (by omega)).mp h1037
      refine lv_iload hx hb d_Law_law_1042 (lv_at hl 1 rfl) ?_
      refine lv_if_ne (tgt := 1058) hx hb d_Law_law_1044 (by decide) (fun h1044 => ?_) (fun h1044 => ?_)
      · skip
        have h1044 : ¬ 1 = 0 := fun z9 => h1044 ((nI_eq (a := 1) (b := 0) (by omega) (by omega)).mpr z9)
        refine lv_goto (tgt := 1486) hx hb d_Law_law_1058 (by decide) ?_
        exact K _ _ _ _ _ _ _ hC hMM h51 hZ (lv_sub hl [2, 3, 4, 5, 6] rfl)
      · skip
        have h1044 : 1 = 0 := (nI_eq (a := 1) (b := 0) (by omega) (by omega)).mp h1044
        exact absurd h1044 (by decide)
    · skip
      have h1037 : ¬ 1 = 1 := fun z9 => h1037 ((nI_eq (a := 1) (b := 1) (by omega) (by omega)).mpr z9)
      exact absurd h1037 (by decide)
set_option maxHeartbeats 4000000 in
set_option maxRecDepth 100000 in
/-- sum -/
theorem law_2 {p : Program} {e : Env} {s : State} {m : MethodId} {below : List Frame} {meth : Method} {c : Code} (l : Launch) (hfl : l.stackTraces = false) {b L : Nat} {xs : Nat → Int32} (C0 : lw_At p s m meth c b L xs) (dC : Nat → ClassId) (dI : Nat → Nat → Nat) (cI cL cB : ClassId) (ad : Nat → Nat) (hK : va_K (dC, dI) vCl [(cI, .int), (cL, .long), (cB, .object "CoinBag$Bag")] s) (hAm : sAm s.heap.size s) (i : Nat) (hi : i + 7 ≤ L) (hL : L ≤ 3584) (cells slots : Nat) (hc1 : cells + 1 ≤ room_1.cells ∧ slots + 6 ≤ room_1.slots) (K : lawK p l e s m below meth c b dC dI cI cL cB ad i (cells + 1) (slots + 6)) (w : Nat → va_E) (F : Nat → Int → Int64) (o : Nat → Int64) (t0 : Int32) (H : Heap) (locs : List Loc) (ls : Array Slot) (hC : sC ad cI cL cB w F) (hMM : sM ad cI cL w t0 F) (h51 : w 51 = .inl (cL, 1, .inr (.inl o))) (hZ : sZ (dC, dI) vCl 52 ad (fun q => s.heap.size ≤ q) s.heap w H locs) (hl : lv_has ls 8 [(4, .int (nI i)), (0, .ref b), (1, .ref (ad 0)), (2, .ref (ad 43)), (3, .ref (ad 51))]) : W p l e room_1 s m #[Value.ref b] below meth c H locs cells slots (lw_Z below #[Value.ref b] s) (F0 m 446 ls []) := by
  obtain ⟨hx, hb, hr, hml, hown, hts0, hX, hbl, hlocks, hgv⟩ := id C0
  have hts := law_hts hts0
  have hN : s.heap.size ≤ s.heap.size := Nat.le_refl _
  have hbA : ¬ (fun q => s.heap.size ≤ q) b := Nat.not_le.mpr hbl
  have hc0 : cells + 0 ≤ room_1.cells ∧ slots + 0 ≤ room_1.slots := ⟨Nat.le_trans (Nat.le_succ _) hc1.1, Nat.le_trans (by omega) hc1.2⟩
  by_cases hB : okB (xs (i + 1)) ∧ okB (xs (i + 2)) ∧ okB (xs (i + 3))
  · skip
    obtain ⟨j1, hj1, ej1⟩ := okB_nat hB.1
    obtain ⟨j2, hj2, ej2⟩ := okB_nat hB.2.1
    obtain ⟨j3, hj3, ej3⟩ := okB_nat hB.2.2
    refine lv_aload_n hx hb d_Law_law_446 rfl (lv_at hl 2 rfl) ?_
    refine lv_aload_n hx hb d_Law_law_447 rfl (lv_at hl 1 rfl) ?_
    refine lv_iload hx hb d_Law_law_448 (lv_at hl 0 rfl) ?_
    refine lv_iconst (v := (nI 1)) hx hb d_Law_law_450 rfl ?_
    refine lv_iadd hx hb d_Law_law_451 ?_
    refine q_topi (y := nI (i + 1)) (nI_add _ _) ?_
    refine q_sld hx hb hX hbl hbA hZ.2.2 ((i + 1)) rfl (by omega) (by omega) d_Law_law_452 ?_
    refine q_topi (y := nI j1) ej1 ?_
    refine lv_aload_n hx hb d_Law_law_453 rfl (lv_at hl 1 rfl) ?_
    refine lv_iload hx hb d_Law_law_454 (lv_at hl 0 rfl) ?_
    refine lv_iconst (v := (nI 2)) hx hb d_Law_law_456 rfl ?_
    refine lv_iadd hx hb d_Law_law_457 ?_
    refine q_topi (y := nI (i + 2)) (nI_add _ _) ?_
    refine q_sld hx hb hX hbl hbA hZ.2.2 ((i + 2)) rfl (by omega) (by omega) d_Law_law_458 ?_
    refine q_topi (y := nI j2) ej2 ?_
    refine lv_aload_n hx hb d_Law_law_459 rfl (lv_at hl 1 rfl) ?_
    refine lv_iload hx hb d_Law_law_460 (lv_at hl 0 rfl) ?_
    refine lv_iconst (v := (nI 3)) hx hb d_Law_law_462 rfl ?_
    refine lv_iadd hx hb d_Law_law_463 ?_
    refine q_topi (y := nI (i + 3)) (nI_add _ _) ?_
    refine q_sld hx hb hX hbl hbA hZ.2.2 ((i + 3)) rfl (by omega) (by omega) d_Law_law_464 ?_
    refine q_topi (y := nI j3) ej3 ?_
    refine lv_aload_n hx hb d_Law_law_465 rfl (lv_at hl 4 rfl) ?_
    refine q_calli (vx_runSW (As := [.ref (ad 0), .int (nI j1), .int (nI j2), .int (nI j3), .ref (ad 51)]) (rest := []) ⟨hx, hb, hml, hown, hts⟩ (c_Law_sum l dC dI cI cL cB ad s.heap.size w F j1 j2 j3 o hC hj1 hj2 hj3 h51) (vx_cwSW 5 hts (gI_S k_262 k_260 k_261 k_20) rfl rfl rfl (by decide +kernel) ⟨Nat.le_of_ble_eq_true rfl, Nat.le_of_ble_eq_true rfl⟩) (q_pre hK hAm hZ hN [.ref (ad 0), .int (nI j1), .int (nI j2), .int (nI j3), .ref (ad 51)]) rfl rfl hl.1 rfl (lv_room (Nat.le_of_ble_eq_true rfl)) d_Law_law_466 hc0) hZ (fun r u_r H locs h_r hZ => ?_)
    obtain ⟨e_r, hkp, o2, h51, hres⟩ := h_r
    have hMM := sM_fr hMM (fun x h1 h2 => hkp x (by omega) (by omega))
    refine q_topi (y := nI 0) e_r ?_
    refine lv_istore (lv' := [(5, .int (nI 0)), (4, .int (nI i)), (0, .ref b), (1, .ref (ad 0)), (2, .ref (ad 43)), (3, .ref (ad 51))]) hx hb d_Law_law_469 hl (by decide) rfl (fun ls hl => ?_)
    refine lv_aload_n hx hb d_Law_law_471 rfl (lv_at hl 4 rfl) ?_
    refine lv_aload_n hx hb d_Law_law_472 rfl (lv_at hl 2 rfl) ?_
    refine lv_iload hx hb d_Law_law_473 (lv_at hl 1 rfl) ?_
    refine lv_iconst (v := (nI 1)) hx hb d_Law_law_475 rfl ?_
    refine lv_iadd hx hb d_Law_law_476 ?_
    refine q_topi (y := nI (i + 1)) (nI_add _ _) ?_
    refine q_sld hx hb hX hbl hbA hZ.2.2 ((i + 1)) rfl (by omega) (by omega) d_Law_law_477 ?_
    refine q_topi (y := nI j1) ej1 ?_
    refine lv_aload_n hx hb d_Law_law_478 rfl (lv_at hl 2 rfl) ?_
    refine lv_iload hx hb d_Law_law_479 (lv_at hl 1 rfl) ?_
    refine lv_iconst (v := (nI 2)) hx hb d_Law_law_481 rfl ?_
    refine lv_iadd hx hb d_Law_law_482 ?_
    refine q_topi (y := nI (i + 2)) (nI_add _ _) ?_
    refine q_sld hx hb hX hbl hbA hZ.2.2 ((i + 2)) rfl (by omega) (by omega) d_Law_law_483 ?_
    refine q_topi (y := nI j2) ej2 ?_
    refine lv_aload_n hx hb d_Law_law_484 rfl (lv_at hl 2 rfl) ?_
    refine lv_iload hx hb d_Law_law_485 (lv_at hl 1 rfl) ?_
    refine lv_iconst (v := (nI 3)) hx hb d_Law_law_487 rfl ?_
    refine lv_iadd hx hb d_Law_law_488 ?_
    refine q_topi (y := nI (i + 3)) (nI_add _ _) ?_
    refine q_sld hx hb hX hbl hbA hZ.2.2 ((i + 3)) rfl (by omega) (by omega) d_Law_law_489 ?_
    refine q_topi (y := nI j3) ej3 ?_
    obtain ⟨fs43, h43⟩ := sM_43 hMM
    refine q_calli (va_runV (As := [.int (nI j1), .int (nI j2), .int (nI j3)]) (rest := []) ⟨hx, hb, hml, hown, hts⟩ (c_Mod_sum l dC dI cI cL cB ad s.heap.size u_r t0 F j1 j2 j3 hMM hj1 hj2 hj3) (cwV 3 hts (gI_V k_495 k_492 k_493 k_494 k_24) rfl rfl rfl (by decide +kernel) ⟨Nat.le_of_ble_eq_true rfl, Nat.le_of_ble_eq_true rfl⟩) (q_preV hK hAm hZ hN [.int (nI j1), .int (nI j2), .int (nI j3)] (43) 3 (by decide) h43 rfl) rfl rfl hl.1 rfl (lv_room (Nat.le_of_ble_eq_true rfl)) d_Law_law_490 hc0) hZ (fun v u_v H locs h_v hZ => ?_)
    obtain ⟨hfr, hres2⟩ := h_v
    have h51 := (hfr 51 (by omega)).trans h51
    rcases hres with ⟨hq1, ho, hC⟩ | ⟨hq1, ho, hC⟩
    · skip
      rcases hres2 with ⟨hq2, ev, hMM⟩ | ⟨hq2, ev, hMM⟩
      · skip
        have hC := sC_fr hC (fun x hx => hfr x (by omega))
        refine q_topi (y := nI 1) ev ?_
        refine lv_istore (lv' := [(6, .int (nI 1)), (5, .int (nI 0)), (4, .int (nI i)), (0, .ref b), (1, .ref (ad 0)), (2, .ref (ad 43)), (3, .ref (ad 51))]) hx hb d_Law_law_493 hl (by decide) rfl (fun ls hl => ?_)
        refine lv_aload_n hx hb d_Law_law_495 rfl (lv_at hl 5 rfl) ?_
        obtain ⟨fs43, h43⟩ := sM_43 hMM
        refine q_calli (va_runV (As := []) (rest := []) ⟨hx, hb, hml, hown, hts⟩ (c_Mod_thrown l dC dI cI cL cB ad s.heap.size u_v _ _ hMM) (cwV 0 hts (gI_V k_454 k_451 k_452 k_453 k_24) rfl rfl rfl (by decide +kernel) ⟨Nat.le_of_ble_eq_true rfl, Nat.le_of_ble_eq_true rfl⟩) (q_preV hK hAm hZ hN [] (43) 3 (by decide) h43 rfl) rfl rfl hl.1 rfl (lv_room (Nat.le_of_ble_eq_true rfl)) d_Law_law_496 hc0) hZ (fun th u_th H locs h_th hZ => ?_)
        obtain ⟨e_th, e_t⟩ := h_th
        rw [e_th] at hZ
        refine q_topi (y := nI 0) e_t ?_
        refine lv_iload hx hb d_Law_law_499 (lv_at hl 1 rfl) ?_
        refine lv_icmp_eq (tgt := 506) hx hb d_Law_law_501 (by decide) (fun h501 => ?_) (fun h501 => ?_)
        · skip
          have h501 : 0 = 0 := (nI_eq (a := 0) (b := 0) (by omega) (by omega)).mp h501
          refine lv_iload hx hb d_Law_law_506 (lv_at hl 1 rfl) ?_
          refine lv_if_ne (tgt := 530) hx hb d_Law_law_508 (by decide) (fun h508 => ?_) (fun h508 => ?_)
          · skip
            have h508 : ¬ 0 = 0 := fun z9 => h508 ((nI_eq (a := 0) (b := 0) (by omega) (by omega)).mpr z9)
            exact absurd h508 (by decide)
          · skip
            have h508 : 0 = 0 := (nI_eq (a := 0) (b := 0) (by omega) (by omega)).mp h508
            refine lv_aload_n hx hb d_Law_law_511 rfl (lv_at hl 6 rfl) ?_
            refine lv_iconst (v := (nI 0)) hx hb d_Law_law_512 rfl ?_
            refine q_lald hx hb hK hZ (51) 1 (0) (by decide) h51 rfl rfl (by omega) (by decide) d_Law_law_513 ?_
            refine lv_iload hx hb d_Law_law_514 (lv_at hl 0 rfl) ?_
            refine lv_if_eq (tgt := 523) hx hb d_Law_law_516 (by decide) (fun h516 => ?_) (fun h516 => ?_)
            · skip
              have h516 : 1 = 0 := (nI_eq (a := 1) (b := 0) (by omega) (by omega)).mp h516
              exact absurd h516 (by decide)
            · skip
              have h516 : ¬ 1 = 0 := fun z9 => h516 ((nI_eq (a := 1) (b := 0) (by omega) (by omega)).mpr z9)
              refine lv_lconst (v := 1) hx hb d_Law_law_519 rfl ?_
              refine lv_goto (tgt := 524) hx hb d_Law_law_520 (by decide) ?_
              refine W.lcmp hx hb d_Law_law_524 ?_
              refine lv_if_eq (tgt := 530) hx hb d_Law_law_525 (by decide) (fun h525 => ?_) (fun h525 => ?_)
              · skip
                rw [lg_cmp_eq] at h525
                refine lv_goto (tgt := 1486) hx hb d_Law_law_530 (by decide) ?_
                refine W.widen (k := cells + 1) (n := slots + 6) (by omega) (by omega) ?_
                exact K _ _ _ _ _ _ _ hC hMM h51 hZ (lv_sub hl [2, 3, 4, 5, 6] rfl)
              · skip
                rw [lg_cmp_eq] at h525
                exact absurd ho h525
        · skip
          have h501 : ¬ 0 = 0 := fun z9 => h501 ((nI_eq (a := 0) (b := 0) (by omega) (by omega)).mpr z9)
          exact absurd h501 (by decide)
      · skip
        exact absurd hq1 hq2
    · skip
      rcases hres2 with ⟨hq2, ev, hMM⟩ | ⟨hq2, ev, hMM⟩
      · skip
        exact absurd hq2 hq1
      · skip
        have hC := sC_fr hC (fun x hx => hfr x (by omega))
        refine q_topi (y := nI 0) ev ?_
        refine lv_istore (lv' := [(6, .int (nI 0)), (5, .int (nI 0)), (4, .int (nI i)), (0, .ref b), (1, .ref (ad 0)), (2, .ref (ad 43)), (3, .ref (ad 51))]) hx hb d_Law_law_493 hl (by decide) rfl (fun ls hl => ?_)
        refine lv_aload_n hx hb d_Law_law_495 rfl (lv_at hl 5 rfl) ?_
        obtain ⟨fs43, h43⟩ := sM_43 hMM
        refine q_calli (va_runV (As := []) (rest := []) ⟨hx, hb, hml, hown, hts⟩ (c_Mod_thrown l dC dI cI cL cB ad s.heap.size u_v _ _ hMM) (cwV 0 hts (gI_V k_454 k_451 k_452 k_453 k_24) rfl rfl rfl (by decide +kernel) ⟨Nat.le_of_ble_eq_true rfl, Nat.le_of_ble_eq_true rfl⟩) (q_preV hK hAm hZ hN [] (43) 3 (by decide) h43 rfl) rfl rfl hl.1 rfl (lv_room (Nat.le_of_ble_eq_true rfl)) d_Law_law_496 hc0) hZ (fun th u_th H locs h_th hZ => ?_)
        obtain ⟨e_th, e_t⟩ := h_th
        rw [e_th] at hZ
        refine q_topi (y := nI 0) e_t ?_
        refine lv_iload hx hb d_Law_law_499 (lv_at hl 1 rfl) ?_
        refine lv_icmp_eq (tgt := 506) hx hb d_Law_law_501 (by decide) (fun h501 => ?_) (fun h501 => ?_)
        · skip
          have h501 : 0 = 0 := (nI_eq (a := 0) (b := 0) (by omega) (by omega)).mp h501
          refine lv_iload hx hb d_Law_law_506 (lv_at hl 1 rfl) ?_
          refine lv_if_ne (tgt := 530) hx hb d_Law_law_508 (by decide) (fun h508 => ?_) (fun h508 => ?_)
          · skip
            have h508 : ¬ 0 = 0 := fun z9 => h508 ((nI_eq (a := 0) (b := 0) (by omega) (by omega)).mpr z9)
            exact absurd h508 (by decide)
          · skip
            have h508 : 0 = 0 := (nI_eq (a := 0) (b := 0) (by omega) (by omega)).mp h508
            refine lv_aload_n hx hb d_Law_law_511 rfl (lv_at hl 6 rfl) ?_
            refine lv_iconst (v := (nI 0)) hx hb d_Law_law_512 rfl ?_
            refine q_lald hx hb hK hZ (51) 1 (0) (by decide) h51 rfl rfl (by omega) (by decide) d_Law_law_513 ?_
            refine lv_iload hx hb d_Law_law_514 (lv_at hl 0 rfl) ?_
            refine lv_if_eq (tgt := 523) hx hb d_Law_law_516 (by decide) (fun h516 => ?_) (fun h516 => ?_)
            · skip
              have h516 : 0 = 0 := (nI_eq (a := 0) (b := 0) (by omega) (by omega)).mp h516
              refine lv_lconst (v := 0) hx hb d_Law_law_523 rfl ?_
              refine W.lcmp hx hb d_Law_law_524 ?_
              refine lv_if_eq (tgt := 530) hx hb d_Law_law_525 (by decide) (fun h525 => ?_) (fun h525 => ?_)
              · skip
                rw [lg_cmp_eq] at h525
                refine lv_goto (tgt := 1486) hx hb d_Law_law_530 (by decide) ?_
                refine W.widen (k := cells + 1) (n := slots + 6) (by omega) (by omega) ?_
                exact K _ _ _ _ _ _ _ hC hMM h51 hZ (lv_sub hl [2, 3, 4, 5, 6] rfl)
              · skip
                rw [lg_cmp_eq] at h525
                exact absurd ho h525
            · skip
              have h516 : ¬ 0 = 0 := fun z9 => h516 ((nI_eq (a := 0) (b := 0) (by omega) (by omega)).mpr z9)
              exact absurd h516 (by decide)
        · skip
          have h501 : ¬ 0 = 0 := fun z9 => h501 ((nI_eq (a := 0) (b := 0) (by omega) (by omega)).mpr z9)
          exact absurd h501 (by decide)
  · skip
    refine lv_aload_n hx hb d_Law_law_446 rfl (lv_at hl 2 rfl) ?_
    refine lv_aload_n hx hb d_Law_law_447 rfl (lv_at hl 1 rfl) ?_
    refine lv_iload hx hb d_Law_law_448 (lv_at hl 0 rfl) ?_
    refine lv_iconst (v := (nI 1)) hx hb d_Law_law_450 rfl ?_
    refine lv_iadd hx hb d_Law_law_451 ?_
    refine q_topi (y := nI (i + 1)) (nI_add _ _) ?_
    refine q_sld hx hb hX hbl hbA hZ.2.2 ((i + 1)) rfl (by omega) (by omega) d_Law_law_452 ?_
    refine lv_aload_n hx hb d_Law_law_453 rfl (lv_at hl 1 rfl) ?_
    refine lv_iload hx hb d_Law_law_454 (lv_at hl 0 rfl) ?_
    refine lv_iconst (v := (nI 2)) hx hb d_Law_law_456 rfl ?_
    refine lv_iadd hx hb d_Law_law_457 ?_
    refine q_topi (y := nI (i + 2)) (nI_add _ _) ?_
    refine q_sld hx hb hX hbl hbA hZ.2.2 ((i + 2)) rfl (by omega) (by omega) d_Law_law_458 ?_
    refine lv_aload_n hx hb d_Law_law_459 rfl (lv_at hl 1 rfl) ?_
    refine lv_iload hx hb d_Law_law_460 (lv_at hl 0 rfl) ?_
    refine lv_iconst (v := (nI 3)) hx hb d_Law_law_462 rfl ?_
    refine lv_iadd hx hb d_Law_law_463 ?_
    refine q_topi (y := nI (i + 3)) (nI_add _ _) ?_
    refine q_sld hx hb hX hbl hbA hZ.2.2 ((i + 3)) rfl (by omega) (by omega) d_Law_law_464 ?_
    refine lv_aload_n hx hb d_Law_law_465 rfl (lv_at hl 4 rfl) ?_
    refine q_calliX (vx_runSW (As := [.ref (ad 0), .int (xs (i + 1)), .int (xs (i + 2)), .int (xs (i + 3)), .ref (ad 51)]) (rest := []) ⟨hx, hb, hml, hown, hts⟩ (xb_Law_sum l hfl dC dI cI cL cB ad s.heap.size w (xs (i + 1)) (xs (i + 2)) (xs (i + 3)) (sC_0 hC) hB) (vx_cwSW 5 hts (gI_S k_262 k_260 k_261 k_20) rfl rfl rfl (by decide +kernel) ⟨Nat.le_of_ble_eq_true rfl, Nat.le_of_ble_eq_true rfl⟩) (q_pre hK hAm hZ hN [.ref (ad 0), .int (xs (i + 1)), .int (xs (i + 2)), .int (xs (i + 3)), .ref (ad 51)]) rfl rfl hl.1 rfl (lv_room (Nat.le_of_ble_eq_true rfl)) d_Law_law_466 hc1) hZ (fun r u_r H locs h_r hZ => ?_)
    obtain ⟨e_r, e_u⟩ := h_r
    rw [e_u] at hZ
    refine q_topi (y := nI 1) e_r ?_
    refine lv_istore (lv' := [(5, .int (nI 1)), (4, .int (nI i)), (0, .ref b), (1, .ref (ad 0)), (2, .ref (ad 43)), (3, .ref (ad 51))]) hx hb d_Law_law_469 hl (by decide) rfl (fun ls hl => ?_)
    refine lv_aload_n hx hb d_Law_law_471 rfl (lv_at hl 4 rfl) ?_
    refine lv_aload_n hx hb d_Law_law_472 rfl (lv_at hl 2 rfl) ?_
    refine lv_iload hx hb d_Law_law_473 (lv_at hl 1 rfl) ?_
    refine lv_iconst (v := (nI 1)) hx hb d_Law_law_475 rfl ?_
    refine lv_iadd hx hb d_Law_law_476 ?_
    refine q_topi (y := nI (i + 1)) (nI_add _ _) ?_
    refine q_sld hx hb hX hbl hbA hZ.2.2 ((i + 1)) rfl (by omega) (by omega) d_Law_law_477 ?_
    refine lv_aload_n hx hb d_Law_law_478 rfl (lv_at hl 2 rfl) ?_
    refine lv_iload hx hb d_Law_law_479 (lv_at hl 1 rfl) ?_
    refine lv_iconst (v := (nI 2)) hx hb d_Law_law_481 rfl ?_
    refine lv_iadd hx hb d_Law_law_482 ?_
    refine q_topi (y := nI (i + 2)) (nI_add _ _) ?_
    refine q_sld hx hb hX hbl hbA hZ.2.2 ((i + 2)) rfl (by omega) (by omega) d_Law_law_483 ?_
    refine lv_aload_n hx hb d_Law_law_484 rfl (lv_at hl 2 rfl) ?_
    refine lv_iload hx hb d_Law_law_485 (lv_at hl 1 rfl) ?_
    refine lv_iconst (v := (nI 3)) hx hb d_Law_law_487 rfl ?_
    refine lv_iadd hx hb d_Law_law_488 ?_
    refine q_topi (y := nI (i + 3)) (nI_add _ _) ?_
    refine q_sld hx hb hX hbl hbA hZ.2.2 ((i + 3)) rfl (by omega) (by omega) d_Law_law_489 ?_
    obtain ⟨fs43, h43⟩ := sM_43 hMM
    refine q_calli (va_runV (As := [.int (xs (i + 1)), .int (xs (i + 2)), .int (xs (i + 3))]) (rest := []) ⟨hx, hb, hml, hown, hts⟩ (x_Mod_sum l dC dI cI cL cB ad s.heap.size w t0 F (xs (i + 1)) (xs (i + 2)) (xs (i + 3)) (nI 1) hMM (Or.inl ⟨fun z => hB z, rfl⟩)) (cwV 3 hts (gI_V k_495 k_492 k_493 k_494 k_24) rfl rfl rfl (by decide +kernel) ⟨Nat.le_of_ble_eq_true rfl, Nat.le_of_ble_eq_true rfl⟩) (q_preV hK hAm hZ hN [.int (xs (i + 1)), .int (xs (i + 2)), .int (xs (i + 3))] (43) 3 (by decide) h43 rfl) rfl rfl hl.1 rfl (lv_room (Nat.le_of_ble_eq_true rfl)) d_Law_law_490 hc1) hZ (fun v u_v H locs h_v hZ => ?_)
    obtain ⟨hfr, hres2⟩ := h_v
    have h51 := (hfr 51 (by omega)).trans h51
    have hMM := hres2
    have hC := sC_fr hC (fun x hx => hfr x (by omega))
    refine lv_istore (lv' := [(6, .int v), (5, .int (nI 1)), (4, .int (nI i)), (0, .ref b), (1, .ref (ad 0)), (2, .ref (ad 43)), (3, .ref (ad 51))]) hx hb d_Law_law_493 hl (by decide) rfl (fun ls hl => ?_)
    refine lv_aload_n hx hb d_Law_law_495 rfl (lv_at hl 5 rfl) ?_
    obtain ⟨fs43, h43⟩ := sM_43 hMM
    refine q_calli (va_runV (As := []) (rest := []) ⟨hx, hb, hml, hown, hts⟩ (c_Mod_thrown l dC dI cI cL cB ad s.heap.size u_v _ _ hMM) (cwV 0 hts (gI_V k_454 k_451 k_452 k_453 k_24) rfl rfl rfl (by decide +kernel) ⟨Nat.le_of_ble_eq_true rfl, Nat.le_of_ble_eq_true rfl⟩) (q_preV hK hAm hZ hN [] (43) 3 (by decide) h43 rfl) rfl rfl hl.1 rfl (lv_room (Nat.le_of_ble_eq_true rfl)) d_Law_law_496 hc1) hZ (fun th u_th H locs h_th hZ => ?_)
    obtain ⟨e_th, e_t⟩ := h_th
    rw [e_th] at hZ
    refine q_topi (y := nI 1) e_t ?_
    refine lv_iload hx hb d_Law_law_499 (lv_at hl 1 rfl) ?_
    refine lv_icmp_eq (tgt := 506) hx hb d_Law_law_501 (by decide) (fun h501 => ?_) (fun h501 => ?_)
    · skip
      have h501 : 1 = 1 := (nI_eq (a := 1) (b := 1) (by omega) (by omega)).mp h501
      refine lv_iload hx hb d_Law_law_506 (lv_at hl 1 rfl) ?_
      refine lv_if_ne (tgt := 530) hx hb d_Law_law_508 (by decide) (fun h508 => ?_) (fun h508 => ?_)
      · skip
        have h508 : ¬ 1 = 0 := fun z9 => h508 ((nI_eq (a := 1) (b := 0) (by omega) (by omega)).mpr z9)
        refine lv_goto (tgt := 1486) hx hb d_Law_law_530 (by decide) ?_
        exact K _ _ _ _ _ _ _ hC hMM h51 hZ (lv_sub hl [2, 3, 4, 5, 6] rfl)
      · skip
        have h508 : 1 = 0 := (nI_eq (a := 1) (b := 0) (by omega) (by omega)).mp h508
        exact absurd h508 (by decide)
    · skip
      have h501 : ¬ 1 = 1 := fun z9 => h501 ((nI_eq (a := 1) (b := 1) (by omega) (by omega)).mpr z9)
      exact absurd h501 (by decide)
set_option maxHeartbeats 4000000 in
set_option maxRecDepth 100000 in
/-- less -/
theorem law_3 {p : Program} {e : Env} {s : State} {m : MethodId} {below : List Frame} {meth : Method} {c : Code} (l : Launch) (hfl : l.stackTraces = false) {b L : Nat} {xs : Nat → Int32} (C0 : lw_At p s m meth c b L xs) (dC : Nat → ClassId) (dI : Nat → Nat → Nat) (cI cL cB : ClassId) (ad : Nat → Nat) (hK : va_K (dC, dI) vCl [(cI, .int), (cL, .long), (cB, .object "CoinBag$Bag")] s) (hAm : sAm s.heap.size s) (i : Nat) (hi : i + 7 ≤ L) (hL : L ≤ 3584) (cells slots : Nat) (hc1 : cells + 1 ≤ room_1.cells ∧ slots + 6 ≤ room_1.slots) (K : lawK p l e s m below meth c b dC dI cI cL cB ad i (cells + 1) (slots + 6)) (w : Nat → va_E) (F : Nat → Int → Int64) (o : Nat → Int64) (t0 : Int32) (H : Heap) (locs : List Loc) (ls : Array Slot) (hC : sC ad cI cL cB w F) (hMM : sM ad cI cL w t0 F) (h51 : w 51 = .inl (cL, 1, .inr (.inl o))) (hZ : sZ (dC, dI) vCl 52 ad (fun q => s.heap.size ≤ q) s.heap w H locs) (hl : lv_has ls 8 [(4, .int (nI i)), (0, .ref b), (1, .ref (ad 0)), (2, .ref (ad 43)), (3, .ref (ad 51))]) : W p l e room_1 s m #[Value.ref b] below meth c H locs cells slots (lw_Z below #[Value.ref b] s) (F0 m 533 ls []) := by
  obtain ⟨hx, hb, hr, hml, hown, hts0, hX, hbl, hlocks, hgv⟩ := id C0
  have hts := law_hts hts0
  have hN : s.heap.size ≤ s.heap.size := Nat.le_refl _
  have hbA : ¬ (fun q => s.heap.size ≤ q) b := Nat.not_le.mpr hbl
  have hc0 : cells + 0 ≤ room_1.cells ∧ slots + 0 ≤ room_1.slots := ⟨Nat.le_trans (Nat.le_succ _) hc1.1, Nat.le_trans (by omega) hc1.2⟩
  by_cases hB : okB (xs (i + 1)) ∧ okB (xs (i + 2)) ∧ okB (xs (i + 3))
  · skip
    obtain ⟨j1, hj1, ej1⟩ := okB_nat hB.1
    obtain ⟨j2, hj2, ej2⟩ := okB_nat hB.2.1
    obtain ⟨j3, hj3, ej3⟩ := okB_nat hB.2.2
    refine lv_aload_n hx hb d_Law_law_533 rfl (lv_at hl 2 rfl) ?_
    refine lv_aload_n hx hb d_Law_law_534 rfl (lv_at hl 1 rfl) ?_
    refine lv_iload hx hb d_Law_law_535 (lv_at hl 0 rfl) ?_
    refine lv_iconst (v := (nI 1)) hx hb d_Law_law_537 rfl ?_
    refine lv_iadd hx hb d_Law_law_538 ?_
    refine q_topi (y := nI (i + 1)) (nI_add _ _) ?_
    refine q_sld hx hb hX hbl hbA hZ.2.2 ((i + 1)) rfl (by omega) (by omega) d_Law_law_539 ?_
    refine q_topi (y := nI j1) ej1 ?_
    refine lv_aload_n hx hb d_Law_law_540 rfl (lv_at hl 1 rfl) ?_
    refine lv_iload hx hb d_Law_law_541 (lv_at hl 0 rfl) ?_
    refine lv_iconst (v := (nI 2)) hx hb d_Law_law_543 rfl ?_
    refine lv_iadd hx hb d_Law_law_544 ?_
    refine q_topi (y := nI (i + 2)) (nI_add _ _) ?_
    refine q_sld hx hb hX hbl hbA hZ.2.2 ((i + 2)) rfl (by omega) (by omega) d_Law_law_545 ?_
    refine q_topi (y := nI j2) ej2 ?_
    refine lv_aload_n hx hb d_Law_law_546 rfl (lv_at hl 1 rfl) ?_
    refine lv_iload hx hb d_Law_law_547 (lv_at hl 0 rfl) ?_
    refine lv_iconst (v := (nI 3)) hx hb d_Law_law_549 rfl ?_
    refine lv_iadd hx hb d_Law_law_550 ?_
    refine q_topi (y := nI (i + 3)) (nI_add _ _) ?_
    refine q_sld hx hb hX hbl hbA hZ.2.2 ((i + 3)) rfl (by omega) (by omega) d_Law_law_551 ?_
    refine q_topi (y := nI j3) ej3 ?_
    refine lv_aload_n hx hb d_Law_law_552 rfl (lv_at hl 4 rfl) ?_
    refine q_calli (vx_runSW (As := [.ref (ad 0), .int (nI j1), .int (nI j2), .int (nI j3), .ref (ad 51)]) (rest := []) ⟨hx, hb, hml, hown, hts⟩ (c_Law_less l dC dI cI cL cB ad s.heap.size w F j1 j2 j3 o hC hj1 hj2 hj3 h51) (vx_cwSW 5 hts (gI_S k_305 k_303 k_304 k_20) rfl rfl rfl (by decide +kernel) ⟨Nat.le_of_ble_eq_true rfl, Nat.le_of_ble_eq_true rfl⟩) (q_pre hK hAm hZ hN [.ref (ad 0), .int (nI j1), .int (nI j2), .int (nI j3), .ref (ad 51)]) rfl rfl hl.1 rfl (lv_room (Nat.le_of_ble_eq_true rfl)) d_Law_law_553 hc0) hZ (fun r u_r H locs h_r hZ => ?_)
    obtain ⟨e_r, hkp, o2, h51, hres⟩ := h_r
    have hMM := sM_fr hMM (fun x h1 h2 => hkp x (by omega) (by omega))
    refine q_topi (y := nI 0) e_r ?_
    refine lv_istore (lv' := [(5, .int (nI 0)), (4, .int (nI i)), (0, .ref b), (1, .ref (ad 0)), (2, .ref (ad 43)), (3, .ref (ad 51))]) hx hb d_Law_law_556 hl (by decide) rfl (fun ls hl => ?_)
    refine lv_aload_n hx hb d_Law_law_558 rfl (lv_at hl 4 rfl) ?_
    refine lv_aload_n hx hb d_Law_law_559 rfl (lv_at hl 2 rfl) ?_
    refine lv_iload hx hb d_Law_law_560 (lv_at hl 1 rfl) ?_
    refine lv_iconst (v := (nI 1)) hx hb d_Law_law_562 rfl ?_
    refine lv_iadd hx hb d_Law_law_563 ?_
    refine q_topi (y := nI (i + 1)) (nI_add _ _) ?_
    refine q_sld hx hb hX hbl hbA hZ.2.2 ((i + 1)) rfl (by omega) (by omega) d_Law_law_564 ?_
    refine q_topi (y := nI j1) ej1 ?_
    refine lv_aload_n hx hb d_Law_law_565 rfl (lv_at hl 2 rfl) ?_
    refine lv_iload hx hb d_Law_law_566 (lv_at hl 1 rfl) ?_
    refine lv_iconst (v := (nI 2)) hx hb d_Law_law_568 rfl ?_
    refine lv_iadd hx hb d_Law_law_569 ?_
    refine q_topi (y := nI (i + 2)) (nI_add _ _) ?_
    refine q_sld hx hb hX hbl hbA hZ.2.2 ((i + 2)) rfl (by omega) (by omega) d_Law_law_570 ?_
    refine q_topi (y := nI j2) ej2 ?_
    refine lv_aload_n hx hb d_Law_law_571 rfl (lv_at hl 2 rfl) ?_
    refine lv_iload hx hb d_Law_law_572 (lv_at hl 1 rfl) ?_
    refine lv_iconst (v := (nI 3)) hx hb d_Law_law_574 rfl ?_
    refine lv_iadd hx hb d_Law_law_575 ?_
    refine q_topi (y := nI (i + 3)) (nI_add _ _) ?_
    refine q_sld hx hb hX hbl hbA hZ.2.2 ((i + 3)) rfl (by omega) (by omega) d_Law_law_576 ?_
    refine q_topi (y := nI j3) ej3 ?_
    obtain ⟨fs43, h43⟩ := sM_43 hMM
    refine q_calli (va_runV (As := [.int (nI j1), .int (nI j2), .int (nI j3)]) (rest := []) ⟨hx, hb, hml, hown, hts⟩ (c_Mod_less l dC dI cI cL cB ad s.heap.size u_r t0 F j1 j2 j3 hMM hj1 hj2 hj3) (cwV 3 hts (gI_V k_519 k_516 k_517 k_518 k_24) rfl rfl rfl (by decide +kernel) ⟨Nat.le_of_ble_eq_true rfl, Nat.le_of_ble_eq_true rfl⟩) (q_preV hK hAm hZ hN [.int (nI j1), .int (nI j2), .int (nI j3)] (43) 3 (by decide) h43 rfl) rfl rfl hl.1 rfl (lv_room (Nat.le_of_ble_eq_true rfl)) d_Law_law_577 hc0) hZ (fun v u_v H locs h_v hZ => ?_)
    obtain ⟨hfr, hres2⟩ := h_v
    have h51 := (hfr 51 (by omega)).trans h51
    rcases hres with ⟨hq1, ho, hC⟩ | ⟨hq1, ho, hC⟩
    · skip
      rcases hres2 with ⟨hq2, ev, hMM⟩ | ⟨hq2, ev, hMM⟩
      · skip
        have hC := sC_fr hC (fun x hx => hfr x (by omega))
        refine q_topi (y := nI 1) ev ?_
        refine lv_istore (lv' := [(6, .int (nI 1)), (5, .int (nI 0)), (4, .int (nI i)), (0, .ref b), (1, .ref (ad 0)), (2, .ref (ad 43)), (3, .ref (ad 51))]) hx hb d_Law_law_580 hl (by decide) rfl (fun ls hl => ?_)
        refine lv_aload_n hx hb d_Law_law_582 rfl (lv_at hl 5 rfl) ?_
        obtain ⟨fs43, h43⟩ := sM_43 hMM
        refine q_calli (va_runV (As := []) (rest := []) ⟨hx, hb, hml, hown, hts⟩ (c_Mod_thrown l dC dI cI cL cB ad s.heap.size u_v _ _ hMM) (cwV 0 hts (gI_V k_454 k_451 k_452 k_453 k_24) rfl rfl rfl (by decide +kernel) ⟨Nat.le_of_ble_eq_true rfl, Nat.le_of_ble_eq_true rfl⟩) (q_preV hK hAm hZ hN [] (43) 3 (by decide) h43 rfl) rfl rfl hl.1 rfl (lv_room (Nat.le_of_ble_eq_true rfl)) d_Law_law_583 hc0) hZ (fun th u_th H locs h_th hZ => ?_)
        obtain ⟨e_th, e_t⟩ := h_th
        rw [e_th] at hZ
        refine q_topi (y := nI 0) e_t ?_
        refine lv_iload hx hb d_Law_law_586 (lv_at hl 1 rfl) ?_
        refine lv_icmp_eq (tgt := 593) hx hb d_Law_law_588 (by decide) (fun h588 => ?_) (fun h588 => ?_)
        · skip
          have h588 : 0 = 0 := (nI_eq (a := 0) (b := 0) (by omega) (by omega)).mp h588
          refine lv_iload hx hb d_Law_law_593 (lv_at hl 1 rfl) ?_
          refine lv_if_ne (tgt := 617) hx hb d_Law_law_595 (by decide) (fun h595 => ?_) (fun h595 => ?_)
          · skip
            have h595 : ¬ 0 = 0 := fun z9 => h595 ((nI_eq (a := 0) (b := 0) (by omega) (by omega)).mpr z9)
            exact absurd h595 (by decide)
          · skip
            have h595 : 0 = 0 := (nI_eq (a := 0) (b := 0) (by omega) (by omega)).mp h595
            refine lv_aload_n hx hb d_Law_law_598 rfl (lv_at hl 6 rfl) ?_
            refine lv_iconst (v := (nI 0)) hx hb d_Law_law_599 rfl ?_
            refine q_lald hx hb hK hZ (51) 1 (0) (by decide) h51 rfl rfl (by omega) (by decide) d_Law_law_600 ?_
            refine lv_iload hx hb d_Law_law_601 (lv_at hl 0 rfl) ?_
            refine lv_if_eq (tgt := 610) hx hb d_Law_law_603 (by decide) (fun h603 => ?_) (fun h603 => ?_)
            · skip
              have h603 : 1 = 0 := (nI_eq (a := 1) (b := 0) (by omega) (by omega)).mp h603
              exact absurd h603 (by decide)
            · skip
              have h603 : ¬ 1 = 0 := fun z9 => h603 ((nI_eq (a := 1) (b := 0) (by omega) (by omega)).mpr z9)
              refine lv_lconst (v := 1) hx hb d_Law_law_606 rfl ?_
              refine lv_goto (tgt := 611) hx hb d_Law_law_607 (by decide) ?_
              refine W.lcmp hx hb d_Law_law_611 ?_
              refine lv_if_eq (tgt := 617) hx hb d_Law_law_612 (by decide) (fun h612 => ?_) (fun h612 => ?_)
              · skip
                rw [lg_cmp_eq] at h612
                refine lv_goto (tgt := 1486) hx hb d_Law_law_617 (by decide) ?_
                refine W.widen (k := cells + 1) (n := slots + 6) (by omega) (by omega) ?_
                exact K _ _ _ _ _ _ _ hC hMM h51 hZ (lv_sub hl [2, 3, 4, 5, 6] rfl)
              · skip
                rw [lg_cmp_eq] at h612
                exact absurd ho h612
        · skip
          have h588 : ¬ 0 = 0 := fun z9 => h588 ((nI_eq (a := 0) (b := 0) (by omega) (by omega)).mpr z9)
          exact absurd h588 (by decide)
      · skip
        exact absurd hq1 hq2
    · skip
      rcases hres2 with ⟨hq2, ev, hMM⟩ | ⟨hq2, ev, hMM⟩
      · skip
        exact absurd hq2 hq1
      · skip
        have hC := sC_fr hC (fun x hx => hfr x (by omega))
        refine q_topi (y := nI 0) ev ?_
        refine lv_istore (lv' := [(6, .int (nI 0)), (5, .int (nI 0)), (4, .int (nI i)), (0, .ref b), (1, .ref (ad 0)), (2, .ref (ad 43)), (3, .ref (ad 51))]) hx hb d_Law_law_580 hl (by decide) rfl (fun ls hl => ?_)
        refine lv_aload_n hx hb d_Law_law_582 rfl (lv_at hl 5 rfl) ?_
        obtain ⟨fs43, h43⟩ := sM_43 hMM
        refine q_calli (va_runV (As := []) (rest := []) ⟨hx, hb, hml, hown, hts⟩ (c_Mod_thrown l dC dI cI cL cB ad s.heap.size u_v _ _ hMM) (cwV 0 hts (gI_V k_454 k_451 k_452 k_453 k_24) rfl rfl rfl (by decide +kernel) ⟨Nat.le_of_ble_eq_true rfl, Nat.le_of_ble_eq_true rfl⟩) (q_preV hK hAm hZ hN [] (43) 3 (by decide) h43 rfl) rfl rfl hl.1 rfl (lv_room (Nat.le_of_ble_eq_true rfl)) d_Law_law_583 hc0) hZ (fun th u_th H locs h_th hZ => ?_)
        obtain ⟨e_th, e_t⟩ := h_th
        rw [e_th] at hZ
        refine q_topi (y := nI 0) e_t ?_
        refine lv_iload hx hb d_Law_law_586 (lv_at hl 1 rfl) ?_
        refine lv_icmp_eq (tgt := 593) hx hb d_Law_law_588 (by decide) (fun h588 => ?_) (fun h588 => ?_)
        · skip
          have h588 : 0 = 0 := (nI_eq (a := 0) (b := 0) (by omega) (by omega)).mp h588
          refine lv_iload hx hb d_Law_law_593 (lv_at hl 1 rfl) ?_
          refine lv_if_ne (tgt := 617) hx hb d_Law_law_595 (by decide) (fun h595 => ?_) (fun h595 => ?_)
          · skip
            have h595 : ¬ 0 = 0 := fun z9 => h595 ((nI_eq (a := 0) (b := 0) (by omega) (by omega)).mpr z9)
            exact absurd h595 (by decide)
          · skip
            have h595 : 0 = 0 := (nI_eq (a := 0) (b := 0) (by omega) (by omega)).mp h595
            refine lv_aload_n hx hb d_Law_law_598 rfl (lv_at hl 6 rfl) ?_
            refine lv_iconst (v := (nI 0)) hx hb d_Law_law_599 rfl ?_
            refine q_lald hx hb hK hZ (51) 1 (0) (by decide) h51 rfl rfl (by omega) (by decide) d_Law_law_600 ?_
            refine lv_iload hx hb d_Law_law_601 (lv_at hl 0 rfl) ?_
            refine lv_if_eq (tgt := 610) hx hb d_Law_law_603 (by decide) (fun h603 => ?_) (fun h603 => ?_)
            · skip
              have h603 : 0 = 0 := (nI_eq (a := 0) (b := 0) (by omega) (by omega)).mp h603
              refine lv_lconst (v := 0) hx hb d_Law_law_610 rfl ?_
              refine W.lcmp hx hb d_Law_law_611 ?_
              refine lv_if_eq (tgt := 617) hx hb d_Law_law_612 (by decide) (fun h612 => ?_) (fun h612 => ?_)
              · skip
                rw [lg_cmp_eq] at h612
                refine lv_goto (tgt := 1486) hx hb d_Law_law_617 (by decide) ?_
                refine W.widen (k := cells + 1) (n := slots + 6) (by omega) (by omega) ?_
                exact K _ _ _ _ _ _ _ hC hMM h51 hZ (lv_sub hl [2, 3, 4, 5, 6] rfl)
              · skip
                rw [lg_cmp_eq] at h612
                exact absurd ho h612
            · skip
              have h603 : ¬ 0 = 0 := fun z9 => h603 ((nI_eq (a := 0) (b := 0) (by omega) (by omega)).mpr z9)
              exact absurd h603 (by decide)
        · skip
          have h588 : ¬ 0 = 0 := fun z9 => h588 ((nI_eq (a := 0) (b := 0) (by omega) (by omega)).mpr z9)
          exact absurd h588 (by decide)
  · skip
    refine lv_aload_n hx hb d_Law_law_533 rfl (lv_at hl 2 rfl) ?_
    refine lv_aload_n hx hb d_Law_law_534 rfl (lv_at hl 1 rfl) ?_
    refine lv_iload hx hb d_Law_law_535 (lv_at hl 0 rfl) ?_
    refine lv_iconst (v := (nI 1)) hx hb d_Law_law_537 rfl ?_
    refine lv_iadd hx hb d_Law_law_538 ?_
    refine q_topi (y := nI (i + 1)) (nI_add _ _) ?_
    refine q_sld hx hb hX hbl hbA hZ.2.2 ((i + 1)) rfl (by omega) (by omega) d_Law_law_539 ?_
    refine lv_aload_n hx hb d_Law_law_540 rfl (lv_at hl 1 rfl) ?_
    refine lv_iload hx hb d_Law_law_541 (lv_at hl 0 rfl) ?_
    refine lv_iconst (v := (nI 2)) hx hb d_Law_law_543 rfl ?_
    refine lv_iadd hx hb d_Law_law_544 ?_
    refine q_topi (y := nI (i + 2)) (nI_add _ _) ?_
    refine q_sld hx hb hX hbl hbA hZ.2.2 ((i + 2)) rfl (by omega) (by omega) d_Law_law_545 ?_
    refine lv_aload_n hx hb d_Law_law_546 rfl (lv_at hl 1 rfl) ?_
    refine lv_iload hx hb d_Law_law_547 (lv_at hl 0 rfl) ?_
    refine lv_iconst (v := (nI 3)) hx hb d_Law_law_549 rfl ?_
    refine lv_iadd hx hb d_Law_law_550 ?_
    refine q_topi (y := nI (i + 3)) (nI_add _ _) ?_
    refine q_sld hx hb hX hbl hbA hZ.2.2 ((i + 3)) rfl (by omega) (by omega) d_Law_law_551 ?_
    refine lv_aload_n hx hb d_Law_law_552 rfl (lv_at hl 4 rfl) ?_
    refine q_calliX (vx_runSW (As := [.ref (ad 0), .int (xs (i + 1)), .int (xs (i + 2)), .int (xs (i + 3)), .ref (ad 51)]) (rest := []) ⟨hx, hb, hml, hown, hts⟩ (xb_Law_less l hfl dC dI cI cL cB ad s.heap.size w (xs (i + 1)) (xs (i + 2)) (xs (i + 3)) (sC_0 hC) hB) (vx_cwSW 5 hts (gI_S k_305 k_303 k_304 k_20) rfl rfl rfl (by decide +kernel) ⟨Nat.le_of_ble_eq_true rfl, Nat.le_of_ble_eq_true rfl⟩) (q_pre hK hAm hZ hN [.ref (ad 0), .int (xs (i + 1)), .int (xs (i + 2)), .int (xs (i + 3)), .ref (ad 51)]) rfl rfl hl.1 rfl (lv_room (Nat.le_of_ble_eq_true rfl)) d_Law_law_553 hc1) hZ (fun r u_r H locs h_r hZ => ?_)
    obtain ⟨e_r, e_u⟩ := h_r
    rw [e_u] at hZ
    refine q_topi (y := nI 1) e_r ?_
    refine lv_istore (lv' := [(5, .int (nI 1)), (4, .int (nI i)), (0, .ref b), (1, .ref (ad 0)), (2, .ref (ad 43)), (3, .ref (ad 51))]) hx hb d_Law_law_556 hl (by decide) rfl (fun ls hl => ?_)
    refine lv_aload_n hx hb d_Law_law_558 rfl (lv_at hl 4 rfl) ?_
    refine lv_aload_n hx hb d_Law_law_559 rfl (lv_at hl 2 rfl) ?_
    refine lv_iload hx hb d_Law_law_560 (lv_at hl 1 rfl) ?_
    refine lv_iconst (v := (nI 1)) hx hb d_Law_law_562 rfl ?_
    refine lv_iadd hx hb d_Law_law_563 ?_
    refine q_topi (y := nI (i + 1)) (nI_add _ _) ?_
    refine q_sld hx hb hX hbl hbA hZ.2.2 ((i + 1)) rfl (by omega) (by omega) d_Law_law_564 ?_
    refine lv_aload_n hx hb d_Law_law_565 rfl (lv_at hl 2 rfl) ?_
    refine lv_iload hx hb d_Law_law_566 (lv_at hl 1 rfl) ?_
    refine lv_iconst (v := (nI 2)) hx hb d_Law_law_568 rfl ?_
    refine lv_iadd hx hb d_Law_law_569 ?_
    refine q_topi (y := nI (i + 2)) (nI_add _ _) ?_
    refine q_sld hx hb hX hbl hbA hZ.2.2 ((i + 2)) rfl (by omega) (by omega) d_Law_law_570 ?_
    refine lv_aload_n hx hb d_Law_law_571 rfl (lv_at hl 2 rfl) ?_
    refine lv_iload hx hb d_Law_law_572 (lv_at hl 1 rfl) ?_
    refine lv_iconst (v := (nI 3)) hx hb d_Law_law_574 rfl ?_
    refine lv_iadd hx hb d_Law_law_575 ?_
    refine q_topi (y := nI (i + 3)) (nI_add _ _) ?_
    refine q_sld hx hb hX hbl hbA hZ.2.2 ((i + 3)) rfl (by omega) (by omega) d_Law_law_576 ?_
    obtain ⟨fs43, h43⟩ := sM_43 hMM
    refine q_calli (va_runV (As := [.int (xs (i + 1)), .int (xs (i + 2)), .int (xs (i + 3))]) (rest := []) ⟨hx, hb, hml, hown, hts⟩ (x_Mod_less l dC dI cI cL cB ad s.heap.size w t0 F (xs (i + 1)) (xs (i + 2)) (xs (i + 3)) (nI 1) hMM (Or.inl ⟨fun z => hB z, rfl⟩)) (cwV 3 hts (gI_V k_519 k_516 k_517 k_518 k_24) rfl rfl rfl (by decide +kernel) ⟨Nat.le_of_ble_eq_true rfl, Nat.le_of_ble_eq_true rfl⟩) (q_preV hK hAm hZ hN [.int (xs (i + 1)), .int (xs (i + 2)), .int (xs (i + 3))] (43) 3 (by decide) h43 rfl) rfl rfl hl.1 rfl (lv_room (Nat.le_of_ble_eq_true rfl)) d_Law_law_577 hc1) hZ (fun v u_v H locs h_v hZ => ?_)
    obtain ⟨hfr, hres2⟩ := h_v
    have h51 := (hfr 51 (by omega)).trans h51
    have hMM := hres2
    have hC := sC_fr hC (fun x hx => hfr x (by omega))
    refine lv_istore (lv' := [(6, .int v), (5, .int (nI 1)), (4, .int (nI i)), (0, .ref b), (1, .ref (ad 0)), (2, .ref (ad 43)), (3, .ref (ad 51))]) hx hb d_Law_law_580 hl (by decide) rfl (fun ls hl => ?_)
    refine lv_aload_n hx hb d_Law_law_582 rfl (lv_at hl 5 rfl) ?_
    obtain ⟨fs43, h43⟩ := sM_43 hMM
    refine q_calli (va_runV (As := []) (rest := []) ⟨hx, hb, hml, hown, hts⟩ (c_Mod_thrown l dC dI cI cL cB ad s.heap.size u_v _ _ hMM) (cwV 0 hts (gI_V k_454 k_451 k_452 k_453 k_24) rfl rfl rfl (by decide +kernel) ⟨Nat.le_of_ble_eq_true rfl, Nat.le_of_ble_eq_true rfl⟩) (q_preV hK hAm hZ hN [] (43) 3 (by decide) h43 rfl) rfl rfl hl.1 rfl (lv_room (Nat.le_of_ble_eq_true rfl)) d_Law_law_583 hc1) hZ (fun th u_th H locs h_th hZ => ?_)
    obtain ⟨e_th, e_t⟩ := h_th
    rw [e_th] at hZ
    refine q_topi (y := nI 1) e_t ?_
    refine lv_iload hx hb d_Law_law_586 (lv_at hl 1 rfl) ?_
    refine lv_icmp_eq (tgt := 593) hx hb d_Law_law_588 (by decide) (fun h588 => ?_) (fun h588 => ?_)
    · skip
      have h588 : 1 = 1 := (nI_eq (a := 1) (b := 1) (by omega) (by omega)).mp h588
      refine lv_iload hx hb d_Law_law_593 (lv_at hl 1 rfl) ?_
      refine lv_if_ne (tgt := 617) hx hb d_Law_law_595 (by decide) (fun h595 => ?_) (fun h595 => ?_)
      · skip
        have h595 : ¬ 1 = 0 := fun z9 => h595 ((nI_eq (a := 1) (b := 0) (by omega) (by omega)).mpr z9)
        refine lv_goto (tgt := 1486) hx hb d_Law_law_617 (by decide) ?_
        exact K _ _ _ _ _ _ _ hC hMM h51 hZ (lv_sub hl [2, 3, 4, 5, 6] rfl)
      · skip
        have h595 : 1 = 0 := (nI_eq (a := 1) (b := 0) (by omega) (by omega)).mp h595
        exact absurd h595 (by decide)
    · skip
      have h588 : ¬ 1 = 1 := fun z9 => h588 ((nI_eq (a := 1) (b := 1) (by omega) (by omega)).mpr z9)
      exact absurd h588 (by decide)
set_option maxHeartbeats 4000000 in
set_option maxRecDepth 100000 in
/-- least -/
theorem law_12 {p : Program} {e : Env} {s : State} {m : MethodId} {below : List Frame} {meth : Method} {c : Code} (l : Launch) (hfl : l.stackTraces = false) {b L : Nat} {xs : Nat → Int32} (C0 : lw_At p s m meth c b L xs) (dC : Nat → ClassId) (dI : Nat → Nat → Nat) (cI cL cB : ClassId) (ad : Nat → Nat) (hK : va_K (dC, dI) vCl [(cI, .int), (cL, .long), (cB, .object "CoinBag$Bag")] s) (hAm : sAm s.heap.size s) (i : Nat) (hi : i + 7 ≤ L) (hL : L ≤ 3584) (cells slots : Nat) (hc1 : cells + 1 ≤ room_1.cells ∧ slots + 6 ≤ room_1.slots) (K : lawK p l e s m below meth c b dC dI cI cL cB ad i (cells + 1) (slots + 6)) (w : Nat → va_E) (F : Nat → Int → Int64) (o : Nat → Int64) (t0 : Int32) (H : Heap) (locs : List Loc) (ls : Array Slot) (hC : sC ad cI cL cB w F) (hMM : sM ad cI cL w t0 F) (h51 : w 51 = .inl (cL, 1, .inr (.inl o))) (hZ : sZ (dC, dI) vCl 52 ad (fun q => s.heap.size ≤ q) s.heap w H locs) (hl : lv_has ls 8 [(4, .int (nI i)), (0, .ref b), (1, .ref (ad 0)), (2, .ref (ad 43)), (3, .ref (ad 51))]) : W p l e room_1 s m #[Value.ref b] below meth c H locs cells slots (lw_Z below #[Value.ref b] s) (F0 m 1264 ls []) := by
  obtain ⟨hx, hb, hr, hml, hown, hts0, hX, hbl, hlocks, hgv⟩ := id C0
  have hts := law_hts hts0
  have hN : s.heap.size ≤ s.heap.size := Nat.le_refl _
  have hbA : ¬ (fun q => s.heap.size ≤ q) b := Nat.not_le.mpr hbl
  have hc0 : cells + 0 ≤ room_1.cells ∧ slots + 0 ≤ room_1.slots := ⟨Nat.le_trans (Nat.le_succ _) hc1.1, Nat.le_trans (by omega) hc1.2⟩
  by_cases hB : okB (xs (i + 1)) ∧ okB (xs (i + 2)) ∧ okB (xs (i + 3))
  · skip
    obtain ⟨j1, hj1, ej1⟩ := okB_nat hB.1
    obtain ⟨j2, hj2, ej2⟩ := okB_nat hB.2.1
    obtain ⟨j3, hj3, ej3⟩ := okB_nat hB.2.2
    refine lv_aload_n hx hb d_Law_law_1264 rfl (lv_at hl 2 rfl) ?_
    refine lv_aload_n hx hb d_Law_law_1265 rfl (lv_at hl 1 rfl) ?_
    refine lv_iload hx hb d_Law_law_1266 (lv_at hl 0 rfl) ?_
    refine lv_iconst (v := (nI 1)) hx hb d_Law_law_1268 rfl ?_
    refine lv_iadd hx hb d_Law_law_1269 ?_
    refine q_topi (y := nI (i + 1)) (nI_add _ _) ?_
    refine q_sld hx hb hX hbl hbA hZ.2.2 ((i + 1)) rfl (by omega) (by omega) d_Law_law_1270 ?_
    refine q_topi (y := nI j1) ej1 ?_
    refine lv_aload_n hx hb d_Law_law_1271 rfl (lv_at hl 1 rfl) ?_
    refine lv_iload hx hb d_Law_law_1272 (lv_at hl 0 rfl) ?_
    refine lv_iconst (v := (nI 2)) hx hb d_Law_law_1274 rfl ?_
    refine lv_iadd hx hb d_Law_law_1275 ?_
    refine q_topi (y := nI (i + 2)) (nI_add _ _) ?_
    refine q_sld hx hb hX hbl hbA hZ.2.2 ((i + 2)) rfl (by omega) (by omega) d_Law_law_1276 ?_
    refine q_topi (y := nI j2) ej2 ?_
    refine lv_aload_n hx hb d_Law_law_1277 rfl (lv_at hl 1 rfl) ?_
    refine lv_iload hx hb d_Law_law_1278 (lv_at hl 0 rfl) ?_
    refine lv_iconst (v := (nI 3)) hx hb d_Law_law_1280 rfl ?_
    refine lv_iadd hx hb d_Law_law_1281 ?_
    refine q_topi (y := nI (i + 3)) (nI_add _ _) ?_
    refine q_sld hx hb hX hbl hbA hZ.2.2 ((i + 3)) rfl (by omega) (by omega) d_Law_law_1282 ?_
    refine q_topi (y := nI j3) ej3 ?_
    refine lv_aload_n hx hb d_Law_law_1283 rfl (lv_at hl 4 rfl) ?_
    refine q_calli (vx_runSW (As := [.ref (ad 0), .int (nI j1), .int (nI j2), .int (nI j3), .ref (ad 51)]) (rest := []) ⟨hx, hb, hml, hown, hts⟩ (c_Law_least l dC dI cI cL cB ad s.heap.size w F j1 j2 j3 o hC hj1 hj2 hj3 h51) (vx_cwSW 5 hts (gI_S k_374 k_372 k_373 k_20) rfl rfl rfl (by decide +kernel) ⟨Nat.le_of_ble_eq_true rfl, Nat.le_of_ble_eq_true rfl⟩) (q_pre hK hAm hZ hN [.ref (ad 0), .int (nI j1), .int (nI j2), .int (nI j3), .ref (ad 51)]) rfl rfl hl.1 rfl (lv_room (Nat.le_of_ble_eq_true rfl)) d_Law_law_1284 hc0) hZ (fun r u_r H locs h_r hZ => ?_)
    obtain ⟨e_r, hkp, o2, h51, hres⟩ := h_r
    have hMM := sM_fr hMM (fun x h1 h2 => hkp x (by omega) (by omega))
    refine q_topi (y := nI 0) e_r ?_
    refine lv_istore (lv' := [(5, .int (nI 0)), (4, .int (nI i)), (0, .ref b), (1, .ref (ad 0)), (2, .ref (ad 43)), (3, .ref (ad 51))]) hx hb d_Law_law_1287 hl (by decide) rfl (fun ls hl => ?_)
    refine lv_aload_n hx hb d_Law_law_1289 rfl (lv_at hl 4 rfl) ?_
    refine lv_aload_n hx hb d_Law_law_1290 rfl (lv_at hl 2 rfl) ?_
    refine lv_iload hx hb d_Law_law_1291 (lv_at hl 1 rfl) ?_
    refine lv_iconst (v := (nI 1)) hx hb d_Law_law_1293 rfl ?_
    refine lv_iadd hx hb d_Law_law_1294 ?_
    refine q_topi (y := nI (i + 1)) (nI_add _ _) ?_
    refine q_sld hx hb hX hbl hbA hZ.2.2 ((i + 1)) rfl (by omega) (by omega) d_Law_law_1295 ?_
    refine q_topi (y := nI j1) ej1 ?_
    refine lv_aload_n hx hb d_Law_law_1296 rfl (lv_at hl 2 rfl) ?_
    refine lv_iload hx hb d_Law_law_1297 (lv_at hl 1 rfl) ?_
    refine lv_iconst (v := (nI 2)) hx hb d_Law_law_1299 rfl ?_
    refine lv_iadd hx hb d_Law_law_1300 ?_
    refine q_topi (y := nI (i + 2)) (nI_add _ _) ?_
    refine q_sld hx hb hX hbl hbA hZ.2.2 ((i + 2)) rfl (by omega) (by omega) d_Law_law_1301 ?_
    refine q_topi (y := nI j2) ej2 ?_
    refine lv_aload_n hx hb d_Law_law_1302 rfl (lv_at hl 2 rfl) ?_
    refine lv_iload hx hb d_Law_law_1303 (lv_at hl 1 rfl) ?_
    refine lv_iconst (v := (nI 3)) hx hb d_Law_law_1305 rfl ?_
    refine lv_iadd hx hb d_Law_law_1306 ?_
    refine q_topi (y := nI (i + 3)) (nI_add _ _) ?_
    refine q_sld hx hb hX hbl hbA hZ.2.2 ((i + 3)) rfl (by omega) (by omega) d_Law_law_1307 ?_
    refine q_topi (y := nI j3) ej3 ?_
    obtain ⟨fs43, h43⟩ := sM_43 hMM
    refine q_calli (va_runV (As := [.int (nI j1), .int (nI j2), .int (nI j3)]) (rest := []) ⟨hx, hb, hml, hown, hts⟩ (c_Mod_least l dC dI cI cL cB ad s.heap.size u_r t0 F j1 j2 j3 hMM hj1 hj2 hj3) (cwV 3 hts (gI_V k_544 k_541 k_542 k_543 k_24) rfl rfl rfl (by decide +kernel) ⟨Nat.le_of_ble_eq_true rfl, Nat.le_of_ble_eq_true rfl⟩) (q_preV hK hAm hZ hN [.int (nI j1), .int (nI j2), .int (nI j3)] (43) 3 (by decide) h43 rfl) rfl rfl hl.1 rfl (lv_room (Nat.le_of_ble_eq_true rfl)) d_Law_law_1308 hc0) hZ (fun v u_v H locs h_v hZ => ?_)
    obtain ⟨hfr, hres2⟩ := h_v
    have h51 := (hfr 51 (by omega)).trans h51
    rcases hres with ⟨hq1, ho, hC⟩ | ⟨hq1, ho, hC⟩
    · skip
      rcases hres2 with ⟨hq2, ev, hMM⟩ | ⟨hq2, ev, hMM⟩
      · skip
        have hC := sC_fr hC (fun x hx => hfr x (by omega))
        refine q_topi (y := nI 1) ev ?_
        refine lv_istore (lv' := [(6, .int (nI 1)), (5, .int (nI 0)), (4, .int (nI i)), (0, .ref b), (1, .ref (ad 0)), (2, .ref (ad 43)), (3, .ref (ad 51))]) hx hb d_Law_law_1311 hl (by decide) rfl (fun ls hl => ?_)
        refine lv_aload_n hx hb d_Law_law_1313 rfl (lv_at hl 5 rfl) ?_
        obtain ⟨fs43, h43⟩ := sM_43 hMM
        refine q_calli (va_runV (As := []) (rest := []) ⟨hx, hb, hml, hown, hts⟩ (c_Mod_thrown l dC dI cI cL cB ad s.heap.size u_v _ _ hMM) (cwV 0 hts (gI_V k_454 k_451 k_452 k_453 k_24) rfl rfl rfl (by decide +kernel) ⟨Nat.le_of_ble_eq_true rfl, Nat.le_of_ble_eq_true rfl⟩) (q_preV hK hAm hZ hN [] (43) 3 (by decide) h43 rfl) rfl rfl hl.1 rfl (lv_room (Nat.le_of_ble_eq_true rfl)) d_Law_law_1314 hc0) hZ (fun th u_th H locs h_th hZ => ?_)
        obtain ⟨e_th, e_t⟩ := h_th
        rw [e_th] at hZ
        refine q_topi (y := nI 0) e_t ?_
        refine lv_iload hx hb d_Law_law_1317 (lv_at hl 1 rfl) ?_
        refine lv_icmp_eq (tgt := 1324) hx hb d_Law_law_1319 (by decide) (fun h1319 => ?_) (fun h1319 => ?_)
        · skip
          have h1319 : 0 = 0 := (nI_eq (a := 0) (b := 0) (by omega) (by omega)).mp h1319
          refine lv_iload hx hb d_Law_law_1324 (lv_at hl 1 rfl) ?_
          refine lv_if_ne (tgt := 1348) hx hb d_Law_law_1326 (by decide) (fun h1326 => ?_) (fun h1326 => ?_)
          · skip
            have h1326 : ¬ 0 = 0 := fun z9 => h1326 ((nI_eq (a := 0) (b := 0) (by omega) (by omega)).mpr z9)
            exact absurd h1326 (by decide)
          · skip
            have h1326 : 0 = 0 := (nI_eq (a := 0) (b := 0) (by omega) (by omega)).mp h1326
            refine lv_aload_n hx hb d_Law_law_1329 rfl (lv_at hl 6 rfl) ?_
            refine lv_iconst (v := (nI 0)) hx hb d_Law_law_1330 rfl ?_
            refine q_lald hx hb hK hZ (51) 1 (0) (by decide) h51 rfl rfl (by omega) (by decide) d_Law_law_1331 ?_
            refine lv_iload hx hb d_Law_law_1332 (lv_at hl 0 rfl) ?_
            refine lv_if_eq (tgt := 1341) hx hb d_Law_law_1334 (by decide) (fun h1334 => ?_) (fun h1334 => ?_)
            · skip
              have h1334 : 1 = 0 := (nI_eq (a := 1) (b := 0) (by omega) (by omega)).mp h1334
              exact absurd h1334 (by decide)
            · skip
              have h1334 : ¬ 1 = 0 := fun z9 => h1334 ((nI_eq (a := 1) (b := 0) (by omega) (by omega)).mpr z9)
              refine lv_lconst (v := 1) hx hb d_Law_law_1337 rfl ?_
              refine lv_goto (tgt := 1342) hx hb d_Law_law_1338 (by decide) ?_
              refine W.lcmp hx hb d_Law_law_1342 ?_
              refine lv_if_eq (tgt := 1348) hx hb d_Law_law_1343 (by decide) (fun h1343 => ?_) (fun h1343 => ?_)
              · skip
                rw [lg_cmp_eq] at h1343
                refine lv_goto (tgt := 1486) hx hb d_Law_law_1348 (by decide) ?_
                refine W.widen (k := cells + 1) (n := slots + 6) (by omega) (by omega) ?_
                exact K _ _ _ _ _ _ _ hC hMM h51 hZ (lv_sub hl [2, 3, 4, 5, 6] rfl)
              · skip
                rw [lg_cmp_eq] at h1343
                exact absurd ho h1343
        · skip
          have h1319 : ¬ 0 = 0 := fun z9 => h1319 ((nI_eq (a := 0) (b := 0) (by omega) (by omega)).mpr z9)
          exact absurd h1319 (by decide)
      · skip
        exact absurd hq1 hq2
    · skip
      rcases hres2 with ⟨hq2, ev, hMM⟩ | ⟨hq2, ev, hMM⟩
      · skip
        exact absurd hq2 hq1
      · skip
        have hC := sC_fr hC (fun x hx => hfr x (by omega))
        refine q_topi (y := nI 0) ev ?_
        refine lv_istore (lv' := [(6, .int (nI 0)), (5, .int (nI 0)), (4, .int (nI i)), (0, .ref b), (1, .ref (ad 0)), (2, .ref (ad 43)), (3, .ref (ad 51))]) hx hb d_Law_law_1311 hl (by decide) rfl (fun ls hl => ?_)
        refine lv_aload_n hx hb d_Law_law_1313 rfl (lv_at hl 5 rfl) ?_
        obtain ⟨fs43, h43⟩ := sM_43 hMM
        refine q_calli (va_runV (As := []) (rest := []) ⟨hx, hb, hml, hown, hts⟩ (c_Mod_thrown l dC dI cI cL cB ad s.heap.size u_v _ _ hMM) (cwV 0 hts (gI_V k_454 k_451 k_452 k_453 k_24) rfl rfl rfl (by decide +kernel) ⟨Nat.le_of_ble_eq_true rfl, Nat.le_of_ble_eq_true rfl⟩) (q_preV hK hAm hZ hN [] (43) 3 (by decide) h43 rfl) rfl rfl hl.1 rfl (lv_room (Nat.le_of_ble_eq_true rfl)) d_Law_law_1314 hc0) hZ (fun th u_th H locs h_th hZ => ?_)
        obtain ⟨e_th, e_t⟩ := h_th
        rw [e_th] at hZ
        refine q_topi (y := nI 0) e_t ?_
        refine lv_iload hx hb d_Law_law_1317 (lv_at hl 1 rfl) ?_
        refine lv_icmp_eq (tgt := 1324) hx hb d_Law_law_1319 (by decide) (fun h1319 => ?_) (fun h1319 => ?_)
        · skip
          have h1319 : 0 = 0 := (nI_eq (a := 0) (b := 0) (by omega) (by omega)).mp h1319
          refine lv_iload hx hb d_Law_law_1324 (lv_at hl 1 rfl) ?_
          refine lv_if_ne (tgt := 1348) hx hb d_Law_law_1326 (by decide) (fun h1326 => ?_) (fun h1326 => ?_)
          · skip
            have h1326 : ¬ 0 = 0 := fun z9 => h1326 ((nI_eq (a := 0) (b := 0) (by omega) (by omega)).mpr z9)
            exact absurd h1326 (by decide)
          · skip
            have h1326 : 0 = 0 := (nI_eq (a := 0) (b := 0) (by omega) (by omega)).mp h1326
            refine lv_aload_n hx hb d_Law_law_1329 rfl (lv_at hl 6 rfl) ?_
            refine lv_iconst (v := (nI 0)) hx hb d_Law_law_1330 rfl ?_
            refine q_lald hx hb hK hZ (51) 1 (0) (by decide) h51 rfl rfl (by omega) (by decide) d_Law_law_1331 ?_
            refine lv_iload hx hb d_Law_law_1332 (lv_at hl 0 rfl) ?_
            refine lv_if_eq (tgt := 1341) hx hb d_Law_law_1334 (by decide) (fun h1334 => ?_) (fun h1334 => ?_)
            · skip
              have h1334 : 0 = 0 := (nI_eq (a := 0) (b := 0) (by omega) (by omega)).mp h1334
              refine lv_lconst (v := 0) hx hb d_Law_law_1341 rfl ?_
              refine W.lcmp hx hb d_Law_law_1342 ?_
              refine lv_if_eq (tgt := 1348) hx hb d_Law_law_1343 (by decide) (fun h1343 => ?_) (fun h1343 => ?_)
              · skip
                rw [lg_cmp_eq] at h1343
                refine lv_goto (tgt := 1486) hx hb d_Law_law_1348 (by decide) ?_
                refine W.widen (k := cells + 1) (n := slots + 6) (by omega) (by omega) ?_
                exact K _ _ _ _ _ _ _ hC hMM h51 hZ (lv_sub hl [2, 3, 4, 5, 6] rfl)
              · skip
                rw [lg_cmp_eq] at h1343
                exact absurd ho h1343
            · skip
              have h1334 : ¬ 0 = 0 := fun z9 => h1334 ((nI_eq (a := 0) (b := 0) (by omega) (by omega)).mpr z9)
              exact absurd h1334 (by decide)
        · skip
          have h1319 : ¬ 0 = 0 := fun z9 => h1319 ((nI_eq (a := 0) (b := 0) (by omega) (by omega)).mpr z9)
          exact absurd h1319 (by decide)
  · skip
    refine lv_aload_n hx hb d_Law_law_1264 rfl (lv_at hl 2 rfl) ?_
    refine lv_aload_n hx hb d_Law_law_1265 rfl (lv_at hl 1 rfl) ?_
    refine lv_iload hx hb d_Law_law_1266 (lv_at hl 0 rfl) ?_
    refine lv_iconst (v := (nI 1)) hx hb d_Law_law_1268 rfl ?_
    refine lv_iadd hx hb d_Law_law_1269 ?_
    refine q_topi (y := nI (i + 1)) (nI_add _ _) ?_
    refine q_sld hx hb hX hbl hbA hZ.2.2 ((i + 1)) rfl (by omega) (by omega) d_Law_law_1270 ?_
    refine lv_aload_n hx hb d_Law_law_1271 rfl (lv_at hl 1 rfl) ?_
    refine lv_iload hx hb d_Law_law_1272 (lv_at hl 0 rfl) ?_
    refine lv_iconst (v := (nI 2)) hx hb d_Law_law_1274 rfl ?_
    refine lv_iadd hx hb d_Law_law_1275 ?_
    refine q_topi (y := nI (i + 2)) (nI_add _ _) ?_
    refine q_sld hx hb hX hbl hbA hZ.2.2 ((i + 2)) rfl (by omega) (by omega) d_Law_law_1276 ?_
    refine lv_aload_n hx hb d_Law_law_1277 rfl (lv_at hl 1 rfl) ?_
    refine lv_iload hx hb d_Law_law_1278 (lv_at hl 0 rfl) ?_
    refine lv_iconst (v := (nI 3)) hx hb d_Law_law_1280 rfl ?_
    refine lv_iadd hx hb d_Law_law_1281 ?_
    refine q_topi (y := nI (i + 3)) (nI_add _ _) ?_
    refine q_sld hx hb hX hbl hbA hZ.2.2 ((i + 3)) rfl (by omega) (by omega) d_Law_law_1282 ?_
    refine lv_aload_n hx hb d_Law_law_1283 rfl (lv_at hl 4 rfl) ?_
    refine q_calliX (vx_runSW (As := [.ref (ad 0), .int (xs (i + 1)), .int (xs (i + 2)), .int (xs (i + 3)), .ref (ad 51)]) (rest := []) ⟨hx, hb, hml, hown, hts⟩ (xb_Law_least l hfl dC dI cI cL cB ad s.heap.size w (xs (i + 1)) (xs (i + 2)) (xs (i + 3)) (sC_0 hC) hB) (vx_cwSW 5 hts (gI_S k_374 k_372 k_373 k_20) rfl rfl rfl (by decide +kernel) ⟨Nat.le_of_ble_eq_true rfl, Nat.le_of_ble_eq_true rfl⟩) (q_pre hK hAm hZ hN [.ref (ad 0), .int (xs (i + 1)), .int (xs (i + 2)), .int (xs (i + 3)), .ref (ad 51)]) rfl rfl hl.1 rfl (lv_room (Nat.le_of_ble_eq_true rfl)) d_Law_law_1284 hc1) hZ (fun r u_r H locs h_r hZ => ?_)
    obtain ⟨e_r, e_u⟩ := h_r
    rw [e_u] at hZ
    refine q_topi (y := nI 1) e_r ?_
    refine lv_istore (lv' := [(5, .int (nI 1)), (4, .int (nI i)), (0, .ref b), (1, .ref (ad 0)), (2, .ref (ad 43)), (3, .ref (ad 51))]) hx hb d_Law_law_1287 hl (by decide) rfl (fun ls hl => ?_)
    refine lv_aload_n hx hb d_Law_law_1289 rfl (lv_at hl 4 rfl) ?_
    refine lv_aload_n hx hb d_Law_law_1290 rfl (lv_at hl 2 rfl) ?_
    refine lv_iload hx hb d_Law_law_1291 (lv_at hl 1 rfl) ?_
    refine lv_iconst (v := (nI 1)) hx hb d_Law_law_1293 rfl ?_
    refine lv_iadd hx hb d_Law_law_1294 ?_
    refine q_topi (y := nI (i + 1)) (nI_add _ _) ?_
    refine q_sld hx hb hX hbl hbA hZ.2.2 ((i + 1)) rfl (by omega) (by omega) d_Law_law_1295 ?_
    refine lv_aload_n hx hb d_Law_law_1296 rfl (lv_at hl 2 rfl) ?_
    refine lv_iload hx hb d_Law_law_1297 (lv_at hl 1 rfl) ?_
    refine lv_iconst (v := (nI 2)) hx hb d_Law_law_1299 rfl ?_
    refine lv_iadd hx hb d_Law_law_1300 ?_
    refine q_topi (y := nI (i + 2)) (nI_add _ _) ?_
    refine q_sld hx hb hX hbl hbA hZ.2.2 ((i + 2)) rfl (by omega) (by omega) d_Law_law_1301 ?_
    refine lv_aload_n hx hb d_Law_law_1302 rfl (lv_at hl 2 rfl) ?_
    refine lv_iload hx hb d_Law_law_1303 (lv_at hl 1 rfl) ?_
    refine lv_iconst (v := (nI 3)) hx hb d_Law_law_1305 rfl ?_
    refine lv_iadd hx hb d_Law_law_1306 ?_
    refine q_topi (y := nI (i + 3)) (nI_add _ _) ?_
    refine q_sld hx hb hX hbl hbA hZ.2.2 ((i + 3)) rfl (by omega) (by omega) d_Law_law_1307 ?_
    obtain ⟨fs43, h43⟩ := sM_43 hMM
    refine q_calli (va_runV (As := [.int (xs (i + 1)), .int (xs (i + 2)), .int (xs (i + 3))]) (rest := []) ⟨hx, hb, hml, hown, hts⟩ (x_Mod_least l dC dI cI cL cB ad s.heap.size w t0 F (xs (i + 1)) (xs (i + 2)) (xs (i + 3)) (nI 1) hMM (Or.inl ⟨fun z => hB z, rfl⟩)) (cwV 3 hts (gI_V k_544 k_541 k_542 k_543 k_24) rfl rfl rfl (by decide +kernel) ⟨Nat.le_of_ble_eq_true rfl, Nat.le_of_ble_eq_true rfl⟩) (q_preV hK hAm hZ hN [.int (xs (i + 1)), .int (xs (i + 2)), .int (xs (i + 3))] (43) 3 (by decide) h43 rfl) rfl rfl hl.1 rfl (lv_room (Nat.le_of_ble_eq_true rfl)) d_Law_law_1308 hc1) hZ (fun v u_v H locs h_v hZ => ?_)
    obtain ⟨hfr, hres2⟩ := h_v
    have h51 := (hfr 51 (by omega)).trans h51
    have hMM := hres2
    have hC := sC_fr hC (fun x hx => hfr x (by omega))
    refine lv_istore (lv' := [(6, .int v), (5, .int (nI 1)), (4, .int (nI i)), (0, .ref b), (1, .ref (ad 0)), (2, .ref (ad 43)), (3, .ref (ad 51))]) hx hb d_Law_law_1311 hl (by decide) rfl (fun ls hl => ?_)
    refine lv_aload_n hx hb d_Law_law_1313 rfl (lv_at hl 5 rfl) ?_
    obtain ⟨fs43, h43⟩ := sM_43 hMM
    refine q_calli (va_runV (As := []) (rest := []) ⟨hx, hb, hml, hown, hts⟩ (c_Mod_thrown l dC dI cI cL cB ad s.heap.size u_v _ _ hMM) (cwV 0 hts (gI_V k_454 k_451 k_452 k_453 k_24) rfl rfl rfl (by decide +kernel) ⟨Nat.le_of_ble_eq_true rfl, Nat.le_of_ble_eq_true rfl⟩) (q_preV hK hAm hZ hN [] (43) 3 (by decide) h43 rfl) rfl rfl hl.1 rfl (lv_room (Nat.le_of_ble_eq_true rfl)) d_Law_law_1314 hc1) hZ (fun th u_th H locs h_th hZ => ?_)
    obtain ⟨e_th, e_t⟩ := h_th
    rw [e_th] at hZ
    refine q_topi (y := nI 1) e_t ?_
    refine lv_iload hx hb d_Law_law_1317 (lv_at hl 1 rfl) ?_
    refine lv_icmp_eq (tgt := 1324) hx hb d_Law_law_1319 (by decide) (fun h1319 => ?_) (fun h1319 => ?_)
    · skip
      have h1319 : 1 = 1 := (nI_eq (a := 1) (b := 1) (by omega) (by omega)).mp h1319
      refine lv_iload hx hb d_Law_law_1324 (lv_at hl 1 rfl) ?_
      refine lv_if_ne (tgt := 1348) hx hb d_Law_law_1326 (by decide) (fun h1326 => ?_) (fun h1326 => ?_)
      · skip
        have h1326 : ¬ 1 = 0 := fun z9 => h1326 ((nI_eq (a := 1) (b := 0) (by omega) (by omega)).mpr z9)
        refine lv_goto (tgt := 1486) hx hb d_Law_law_1348 (by decide) ?_
        exact K _ _ _ _ _ _ _ hC hMM h51 hZ (lv_sub hl [2, 3, 4, 5, 6] rfl)
      · skip
        have h1326 : 1 = 0 := (nI_eq (a := 1) (b := 0) (by omega) (by omega)).mp h1326
        exact absurd h1326 (by decide)
    · skip
      have h1319 : ¬ 1 = 1 := fun z9 => h1319 ((nI_eq (a := 1) (b := 1) (by omega) (by omega)).mpr z9)
      exact absurd h1319 (by decide)
set_option maxHeartbeats 4000000 in
set_option maxRecDepth 100000 in
/-- times -/
theorem law_4 {p : Program} {e : Env} {s : State} {m : MethodId} {below : List Frame} {meth : Method} {c : Code} (l : Launch) (hfl : l.stackTraces = false) {b L : Nat} {xs : Nat → Int32} (C0 : lw_At p s m meth c b L xs) (dC : Nat → ClassId) (dI : Nat → Nat → Nat) (cI cL cB : ClassId) (ad : Nat → Nat) (hK : va_K (dC, dI) vCl [(cI, .int), (cL, .long), (cB, .object "CoinBag$Bag")] s) (hAm : sAm s.heap.size s) (i : Nat) (hi : i + 7 ≤ L) (hL : L ≤ 3584) (cells slots : Nat) (hc1 : cells + 1 ≤ room_1.cells ∧ slots + 6 ≤ room_1.slots) (K : lawK p l e s m below meth c b dC dI cI cL cB ad i (cells + 1) (slots + 6)) (w : Nat → va_E) (F : Nat → Int → Int64) (o : Nat → Int64) (t0 : Int32) (H : Heap) (locs : List Loc) (ls : Array Slot) (hC : sC ad cI cL cB w F) (hMM : sM ad cI cL w t0 F) (h51 : w 51 = .inl (cL, 1, .inr (.inl o))) (hZ : sZ (dC, dI) vCl 52 ad (fun q => s.heap.size ≤ q) s.heap w H locs) (hl : lv_has ls 8 [(4, .int (nI i)), (0, .ref b), (1, .ref (ad 0)), (2, .ref (ad 43)), (3, .ref (ad 51))]) : W p l e room_1 s m #[Value.ref b] below meth c H locs cells slots (lw_Z below #[Value.ref b] s) (F0 m 620 ls []) := by
  obtain ⟨hx, hb, hr, hml, hown, hts0, hX, hbl, hlocks, hgv⟩ := id C0
  have hts := law_hts hts0
  have hN : s.heap.size ≤ s.heap.size := Nat.le_refl _
  have hbA : ¬ (fun q => s.heap.size ≤ q) b := Nat.not_le.mpr hbl
  have hc0 : cells + 0 ≤ room_1.cells ∧ slots + 0 ≤ room_1.slots := ⟨Nat.le_trans (Nat.le_succ _) hc1.1, Nat.le_trans (by omega) hc1.2⟩
  by_cases hB : okB (xs (i + 1)) ∧ okB (xs (i + 4))
  · skip
    obtain ⟨j1, hj1, ej1⟩ := okB_nat hB.1
    obtain ⟨j4, hj4, ej4⟩ := okB_nat hB.2
    refine lv_aload_n hx hb d_Law_law_620 rfl (lv_at hl 2 rfl) ?_
    refine lv_aload_n hx hb d_Law_law_621 rfl (lv_at hl 1 rfl) ?_
    refine lv_iload hx hb d_Law_law_622 (lv_at hl 0 rfl) ?_
    refine lv_iconst (v := (nI 1)) hx hb d_Law_law_624 rfl ?_
    refine lv_iadd hx hb d_Law_law_625 ?_
    refine q_topi (y := nI (i + 1)) (nI_add _ _) ?_
    refine q_sld hx hb hX hbl hbA hZ.2.2 ((i + 1)) rfl (by omega) (by omega) d_Law_law_626 ?_
    refine q_topi (y := nI j1) ej1 ?_
    refine lv_aload_n hx hb d_Law_law_627 rfl (lv_at hl 1 rfl) ?_
    refine lv_iload hx hb d_Law_law_628 (lv_at hl 0 rfl) ?_
    refine lv_iconst (v := (nI 2)) hx hb d_Law_law_630 rfl ?_
    refine lv_iadd hx hb d_Law_law_631 ?_
    refine q_topi (y := nI (i + 2)) (nI_add _ _) ?_
    refine q_sld hx hb hX hbl hbA hZ.2.2 ((i + 2)) rfl (by omega) (by omega) d_Law_law_632 ?_
    refine lv_i2l (v := (xs (i + 2)).toInt64) hx hb d_Law_law_633 rfl ?_
    refine lv_bipush (v := (nI 32)) hx hb d_Law_law_634 rfl ?_
    refine lv_lshl (v := ((xs (i + 2)).toInt64) <<< ((nI 32).toInt64 &&& 63)) hx hb d_Law_law_636 rfl ?_
    refine lv_aload_n hx hb d_Law_law_637 rfl (lv_at hl 1 rfl) ?_
    refine lv_iload hx hb d_Law_law_638 (lv_at hl 0 rfl) ?_
    refine lv_iconst (v := (nI 3)) hx hb d_Law_law_640 rfl ?_
    refine lv_iadd hx hb d_Law_law_641 ?_
    refine q_topi (y := nI (i + 3)) (nI_add _ _) ?_
    refine q_sld hx hb hX hbl hbA hZ.2.2 ((i + 3)) rfl (by omega) (by omega) d_Law_law_642 ?_
    refine lv_i2l (v := (xs (i + 3)).toInt64) hx hb d_Law_law_643 rfl ?_
    refine lv_ldc2 (v := 4294967295) hx hb hown (hts _ (gm k_577)) d_Law_law_644 ?_
    refine lv_land hx hb d_Law_law_647 ?_
    refine lv_lor hx hb d_Law_law_648 ?_
    refine q_topl (y := lj (xs (i + 2)) (xs (i + 3))) rfl ?_
    refine lv_aload_n hx hb d_Law_law_649 rfl (lv_at hl 1 rfl) ?_
    refine lv_iload hx hb d_Law_law_650 (lv_at hl 0 rfl) ?_
    refine lv_iconst (v := (nI 4)) hx hb d_Law_law_652 rfl ?_
    refine lv_iadd hx hb d_Law_law_653 ?_
    refine q_topi (y := nI (i + 4)) (nI_add _ _) ?_
    refine q_sld hx hb hX hbl hbA hZ.2.2 ((i + 4)) rfl (by omega) (by omega) d_Law_law_654 ?_
    refine q_topi (y := nI j4) ej4 ?_
    refine lv_aload_n hx hb d_Law_law_655 rfl (lv_at hl 4 rfl) ?_
    refine q_calli (vx_runSW (As := [.ref (ad 0), .int (nI j1), .long (lj (xs (i + 2)) (xs (i + 3))), .int (nI j4), .ref (ad 51)]) (rest := []) ⟨hx, hb, hml, hown, hts⟩ (c_Law_times l dC dI cI cL cB ad s.heap.size w F j1 (lj (xs (i + 2)) (xs (i + 3))) j4 o hC hj1 hj4 h51) (vx_cwSW 5 hts (gI_S k_312 k_310 k_311 k_20) rfl rfl rfl (by decide +kernel) ⟨Nat.le_of_ble_eq_true rfl, Nat.le_of_ble_eq_true rfl⟩) (q_pre hK hAm hZ hN [.ref (ad 0), .int (nI j1), .long (lj (xs (i + 2)) (xs (i + 3))), .int (nI j4), .ref (ad 51)]) rfl rfl hl.1 rfl (lv_room (Nat.le_of_ble_eq_true rfl)) d_Law_law_656 hc0) hZ (fun r u_r H locs h_r hZ => ?_)
    obtain ⟨e_r, hkp, o2, h51, hres⟩ := h_r
    have hMM := sM_fr hMM (fun x h1 h2 => hkp x (by omega) (by omega))
    refine q_topi (y := nI 0) e_r ?_
    refine lv_istore (lv' := [(5, .int (nI 0)), (4, .int (nI i)), (0, .ref b), (1, .ref (ad 0)), (2, .ref (ad 43)), (3, .ref (ad 51))]) hx hb d_Law_law_659 hl (by decide) rfl (fun ls hl => ?_)
    refine lv_aload_n hx hb d_Law_law_661 rfl (lv_at hl 4 rfl) ?_
    refine lv_aload_n hx hb d_Law_law_662 rfl (lv_at hl 2 rfl) ?_
    refine lv_iload hx hb d_Law_law_663 (lv_at hl 1 rfl) ?_
    refine lv_iconst (v := (nI 1)) hx hb d_Law_law_665 rfl ?_
    refine lv_iadd hx hb d_Law_law_666 ?_
    refine q_topi (y := nI (i + 1)) (nI_add _ _) ?_
    refine q_sld hx hb hX hbl hbA hZ.2.2 ((i + 1)) rfl (by omega) (by omega) d_Law_law_667 ?_
    refine q_topi (y := nI j1) ej1 ?_
    refine lv_aload_n hx hb d_Law_law_668 rfl (lv_at hl 2 rfl) ?_
    refine lv_iload hx hb d_Law_law_669 (lv_at hl 1 rfl) ?_
    refine lv_iconst (v := (nI 2)) hx hb d_Law_law_671 rfl ?_
    refine lv_iadd hx hb d_Law_law_672 ?_
    refine q_topi (y := nI (i + 2)) (nI_add _ _) ?_
    refine q_sld hx hb hX hbl hbA hZ.2.2 ((i + 2)) rfl (by omega) (by omega) d_Law_law_673 ?_
    refine lv_i2l (v := (xs (i + 2)).toInt64) hx hb d_Law_law_674 rfl ?_
    refine lv_bipush (v := (nI 32)) hx hb d_Law_law_675 rfl ?_
    refine lv_lshl (v := ((xs (i + 2)).toInt64) <<< ((nI 32).toInt64 &&& 63)) hx hb d_Law_law_677 rfl ?_
    refine lv_aload_n hx hb d_Law_law_678 rfl (lv_at hl 2 rfl) ?_
    refine lv_iload hx hb d_Law_law_679 (lv_at hl 1 rfl) ?_
    refine lv_iconst (v := (nI 3)) hx hb d_Law_law_681 rfl ?_
    refine lv_iadd hx hb d_Law_law_682 ?_
    refine q_topi (y := nI (i + 3)) (nI_add _ _) ?_
    refine q_sld hx hb hX hbl hbA hZ.2.2 ((i + 3)) rfl (by omega) (by omega) d_Law_law_683 ?_
    refine lv_i2l (v := (xs (i + 3)).toInt64) hx hb d_Law_law_684 rfl ?_
    refine lv_ldc2 (v := 4294967295) hx hb hown (hts _ (gm k_577)) d_Law_law_685 ?_
    refine lv_land hx hb d_Law_law_688 ?_
    refine lv_lor hx hb d_Law_law_689 ?_
    refine q_topl (y := lj (xs (i + 2)) (xs (i + 3))) rfl ?_
    refine lv_aload_n hx hb d_Law_law_690 rfl (lv_at hl 2 rfl) ?_
    refine lv_iload hx hb d_Law_law_691 (lv_at hl 1 rfl) ?_
    refine lv_iconst (v := (nI 4)) hx hb d_Law_law_693 rfl ?_
    refine lv_iadd hx hb d_Law_law_694 ?_
    refine q_topi (y := nI (i + 4)) (nI_add _ _) ?_
    refine q_sld hx hb hX hbl hbA hZ.2.2 ((i + 4)) rfl (by omega) (by omega) d_Law_law_695 ?_
    refine q_topi (y := nI j4) ej4 ?_
    obtain ⟨fs43, h43⟩ := sM_43 hMM
    refine q_calli (va_runV (As := [.int (nI j1), .long (lj (xs (i + 2)) (xs (i + 3))), .int (nI j4)]) (rest := []) ⟨hx, hb, hml, hown, hts⟩ (c_Mod_times l dC dI cI cL cB ad s.heap.size u_r t0 F j1 (lj (xs (i + 2)) (xs (i + 3))) j4 hMM hj1 hj4) (cwV 3 hts (gI_V k_523 k_520 k_521 k_522 k_24) rfl rfl rfl (by decide +kernel) ⟨Nat.le_of_ble_eq_true rfl, Nat.le_of_ble_eq_true rfl⟩) (q_preV hK hAm hZ hN [.int (nI j1), .long (lj (xs (i + 2)) (xs (i + 3))), .int (nI j4)] (43) 3 (by decide) h43 rfl) rfl rfl hl.1 rfl (lv_room (Nat.le_of_ble_eq_true rfl)) d_Law_law_696 hc0) hZ (fun v u_v H locs h_v hZ => ?_)
    obtain ⟨hfr, hres2⟩ := h_v
    have h51 := (hfr 51 (by omega)).trans h51
    rcases hres with ⟨hq1, ho, hC⟩ | ⟨hq1, ho, hC⟩
    · skip
      rcases hres2 with ⟨hq2, ev, hMM⟩ | ⟨hq2, ev, hMM⟩
      · skip
        have hC := sC_fr hC (fun x hx => hfr x (by omega))
        refine q_topi (y := nI 1) ev ?_
        refine lv_istore (lv' := [(6, .int (nI 1)), (5, .int (nI 0)), (4, .int (nI i)), (0, .ref b), (1, .ref (ad 0)), (2, .ref (ad 43)), (3, .ref (ad 51))]) hx hb d_Law_law_699 hl (by decide) rfl (fun ls hl => ?_)
        refine lv_aload_n hx hb d_Law_law_701 rfl (lv_at hl 5 rfl) ?_
        obtain ⟨fs43, h43⟩ := sM_43 hMM
        refine q_calli (va_runV (As := []) (rest := []) ⟨hx, hb, hml, hown, hts⟩ (c_Mod_thrown l dC dI cI cL cB ad s.heap.size u_v _ _ hMM) (cwV 0 hts (gI_V k_454 k_451 k_452 k_453 k_24) rfl rfl rfl (by decide +kernel) ⟨Nat.le_of_ble_eq_true rfl, Nat.le_of_ble_eq_true rfl⟩) (q_preV hK hAm hZ hN [] (43) 3 (by decide) h43 rfl) rfl rfl hl.1 rfl (lv_room (Nat.le_of_ble_eq_true rfl)) d_Law_law_702 hc0) hZ (fun th u_th H locs h_th hZ => ?_)
        obtain ⟨e_th, e_t⟩ := h_th
        rw [e_th] at hZ
        refine q_topi (y := nI 0) e_t ?_
        refine lv_iload hx hb d_Law_law_705 (lv_at hl 1 rfl) ?_
        refine lv_icmp_eq (tgt := 712) hx hb d_Law_law_707 (by decide) (fun h707 => ?_) (fun h707 => ?_)
        · skip
          have h707 : 0 = 0 := (nI_eq (a := 0) (b := 0) (by omega) (by omega)).mp h707
          refine lv_iload hx hb d_Law_law_712 (lv_at hl 1 rfl) ?_
          refine lv_if_ne (tgt := 736) hx hb d_Law_law_714 (by decide) (fun h714 => ?_) (fun h714 => ?_)
          · skip
            have h714 : ¬ 0 = 0 := fun z9 => h714 ((nI_eq (a := 0) (b := 0) (by omega) (by omega)).mpr z9)
            exact absurd h714 (by decide)
          · skip
            have h714 : 0 = 0 := (nI_eq (a := 0) (b := 0) (by omega) (by omega)).mp h714
            refine lv_aload_n hx hb d_Law_law_717 rfl (lv_at hl 6 rfl) ?_
            refine lv_iconst (v := (nI 0)) hx hb d_Law_law_718 rfl ?_
            refine q_lald hx hb hK hZ (51) 1 (0) (by decide) h51 rfl rfl (by omega) (by decide) d_Law_law_719 ?_
            refine lv_iload hx hb d_Law_law_720 (lv_at hl 0 rfl) ?_
            refine lv_if_eq (tgt := 729) hx hb d_Law_law_722 (by decide) (fun h722 => ?_) (fun h722 => ?_)
            · skip
              have h722 : 1 = 0 := (nI_eq (a := 1) (b := 0) (by omega) (by omega)).mp h722
              exact absurd h722 (by decide)
            · skip
              have h722 : ¬ 1 = 0 := fun z9 => h722 ((nI_eq (a := 1) (b := 0) (by omega) (by omega)).mpr z9)
              refine lv_lconst (v := 1) hx hb d_Law_law_725 rfl ?_
              refine lv_goto (tgt := 730) hx hb d_Law_law_726 (by decide) ?_
              refine W.lcmp hx hb d_Law_law_730 ?_
              refine lv_if_eq (tgt := 736) hx hb d_Law_law_731 (by decide) (fun h731 => ?_) (fun h731 => ?_)
              · skip
                rw [lg_cmp_eq] at h731
                refine lv_goto (tgt := 1486) hx hb d_Law_law_736 (by decide) ?_
                refine W.widen (k := cells + 1) (n := slots + 6) (by omega) (by omega) ?_
                exact K _ _ _ _ _ _ _ hC hMM h51 hZ (lv_sub hl [2, 3, 4, 5, 6] rfl)
              · skip
                rw [lg_cmp_eq] at h731
                exact absurd ho h731
        · skip
          have h707 : ¬ 0 = 0 := fun z9 => h707 ((nI_eq (a := 0) (b := 0) (by omega) (by omega)).mpr z9)
          exact absurd h707 (by decide)
      · skip
        exact absurd hq1 hq2
    · skip
      rcases hres2 with ⟨hq2, ev, hMM⟩ | ⟨hq2, ev, hMM⟩
      · skip
        exact absurd hq2 hq1
      · skip
        have hC := sC_fr hC (fun x hx => hfr x (by omega))
        refine q_topi (y := nI 0) ev ?_
        refine lv_istore (lv' := [(6, .int (nI 0)), (5, .int (nI 0)), (4, .int (nI i)), (0, .ref b), (1, .ref (ad 0)), (2, .ref (ad 43)), (3, .ref (ad 51))]) hx hb d_Law_law_699 hl (by decide) rfl (fun ls hl => ?_)
        refine lv_aload_n hx hb d_Law_law_701 rfl (lv_at hl 5 rfl) ?_
        obtain ⟨fs43, h43⟩ := sM_43 hMM
        refine q_calli (va_runV (As := []) (rest := []) ⟨hx, hb, hml, hown, hts⟩ (c_Mod_thrown l dC dI cI cL cB ad s.heap.size u_v _ _ hMM) (cwV 0 hts (gI_V k_454 k_451 k_452 k_453 k_24) rfl rfl rfl (by decide +kernel) ⟨Nat.le_of_ble_eq_true rfl, Nat.le_of_ble_eq_true rfl⟩) (q_preV hK hAm hZ hN [] (43) 3 (by decide) h43 rfl) rfl rfl hl.1 rfl (lv_room (Nat.le_of_ble_eq_true rfl)) d_Law_law_702 hc0) hZ (fun th u_th H locs h_th hZ => ?_)
        obtain ⟨e_th, e_t⟩ := h_th
        rw [e_th] at hZ
        refine q_topi (y := nI 0) e_t ?_
        refine lv_iload hx hb d_Law_law_705 (lv_at hl 1 rfl) ?_
        refine lv_icmp_eq (tgt := 712) hx hb d_Law_law_707 (by decide) (fun h707 => ?_) (fun h707 => ?_)
        · skip
          have h707 : 0 = 0 := (nI_eq (a := 0) (b := 0) (by omega) (by omega)).mp h707
          refine lv_iload hx hb d_Law_law_712 (lv_at hl 1 rfl) ?_
          refine lv_if_ne (tgt := 736) hx hb d_Law_law_714 (by decide) (fun h714 => ?_) (fun h714 => ?_)
          · skip
            have h714 : ¬ 0 = 0 := fun z9 => h714 ((nI_eq (a := 0) (b := 0) (by omega) (by omega)).mpr z9)
            exact absurd h714 (by decide)
          · skip
            have h714 : 0 = 0 := (nI_eq (a := 0) (b := 0) (by omega) (by omega)).mp h714
            refine lv_aload_n hx hb d_Law_law_717 rfl (lv_at hl 6 rfl) ?_
            refine lv_iconst (v := (nI 0)) hx hb d_Law_law_718 rfl ?_
            refine q_lald hx hb hK hZ (51) 1 (0) (by decide) h51 rfl rfl (by omega) (by decide) d_Law_law_719 ?_
            refine lv_iload hx hb d_Law_law_720 (lv_at hl 0 rfl) ?_
            refine lv_if_eq (tgt := 729) hx hb d_Law_law_722 (by decide) (fun h722 => ?_) (fun h722 => ?_)
            · skip
              have h722 : 0 = 0 := (nI_eq (a := 0) (b := 0) (by omega) (by omega)).mp h722
              refine lv_lconst (v := 0) hx hb d_Law_law_729 rfl ?_
              refine W.lcmp hx hb d_Law_law_730 ?_
              refine lv_if_eq (tgt := 736) hx hb d_Law_law_731 (by decide) (fun h731 => ?_) (fun h731 => ?_)
              · skip
                rw [lg_cmp_eq] at h731
                refine lv_goto (tgt := 1486) hx hb d_Law_law_736 (by decide) ?_
                refine W.widen (k := cells + 1) (n := slots + 6) (by omega) (by omega) ?_
                exact K _ _ _ _ _ _ _ hC hMM h51 hZ (lv_sub hl [2, 3, 4, 5, 6] rfl)
              · skip
                rw [lg_cmp_eq] at h731
                exact absurd ho h731
            · skip
              have h722 : ¬ 0 = 0 := fun z9 => h722 ((nI_eq (a := 0) (b := 0) (by omega) (by omega)).mpr z9)
              exact absurd h722 (by decide)
        · skip
          have h707 : ¬ 0 = 0 := fun z9 => h707 ((nI_eq (a := 0) (b := 0) (by omega) (by omega)).mpr z9)
          exact absurd h707 (by decide)
  · skip
    refine lv_aload_n hx hb d_Law_law_620 rfl (lv_at hl 2 rfl) ?_
    refine lv_aload_n hx hb d_Law_law_621 rfl (lv_at hl 1 rfl) ?_
    refine lv_iload hx hb d_Law_law_622 (lv_at hl 0 rfl) ?_
    refine lv_iconst (v := (nI 1)) hx hb d_Law_law_624 rfl ?_
    refine lv_iadd hx hb d_Law_law_625 ?_
    refine q_topi (y := nI (i + 1)) (nI_add _ _) ?_
    refine q_sld hx hb hX hbl hbA hZ.2.2 ((i + 1)) rfl (by omega) (by omega) d_Law_law_626 ?_
    refine lv_aload_n hx hb d_Law_law_627 rfl (lv_at hl 1 rfl) ?_
    refine lv_iload hx hb d_Law_law_628 (lv_at hl 0 rfl) ?_
    refine lv_iconst (v := (nI 2)) hx hb d_Law_law_630 rfl ?_
    refine lv_iadd hx hb d_Law_law_631 ?_
    refine q_topi (y := nI (i + 2)) (nI_add _ _) ?_
    refine q_sld hx hb hX hbl hbA hZ.2.2 ((i + 2)) rfl (by omega) (by omega) d_Law_law_632 ?_
    refine lv_i2l (v := (xs (i + 2)).toInt64) hx hb d_Law_law_633 rfl ?_
    refine lv_bipush (v := (nI 32)) hx hb d_Law_law_634 rfl ?_
    refine lv_lshl (v := ((xs (i + 2)).toInt64) <<< ((nI 32).toInt64 &&& 63)) hx hb d_Law_law_636 rfl ?_
    refine lv_aload_n hx hb d_Law_law_637 rfl (lv_at hl 1 rfl) ?_
    refine lv_iload hx hb d_Law_law_638 (lv_at hl 0 rfl) ?_
    refine lv_iconst (v := (nI 3)) hx hb d_Law_law_640 rfl ?_
    refine lv_iadd hx hb d_Law_law_641 ?_
    refine q_topi (y := nI (i + 3)) (nI_add _ _) ?_
    refine q_sld hx hb hX hbl hbA hZ.2.2 ((i + 3)) rfl (by omega) (by omega) d_Law_law_642 ?_
    refine lv_i2l (v := (xs (i + 3)).toInt64) hx hb d_Law_law_643 rfl ?_
    refine lv_ldc2 (v := 4294967295) hx hb hown (hts _ (gm k_577)) d_Law_law_644 ?_
    refine lv_land hx hb d_Law_law_647 ?_
    refine lv_lor hx hb d_Law_law_648 ?_
    refine q_topl (y := lj (xs (i + 2)) (xs (i + 3))) rfl ?_
    refine lv_aload_n hx hb d_Law_law_649 rfl (lv_at hl 1 rfl) ?_
    refine lv_iload hx hb d_Law_law_650 (lv_at hl 0 rfl) ?_
    refine lv_iconst (v := (nI 4)) hx hb d_Law_law_652 rfl ?_
    refine lv_iadd hx hb d_Law_law_653 ?_
    refine q_topi (y := nI (i + 4)) (nI_add _ _) ?_
    refine q_sld hx hb hX hbl hbA hZ.2.2 ((i + 4)) rfl (by omega) (by omega) d_Law_law_654 ?_
    refine lv_aload_n hx hb d_Law_law_655 rfl (lv_at hl 4 rfl) ?_
    refine q_calliX (vx_runSW (As := [.ref (ad 0), .int (xs (i + 1)), .long (lj (xs (i + 2)) (xs (i + 3))), .int (xs (i + 4)), .ref (ad 51)]) (rest := []) ⟨hx, hb, hml, hown, hts⟩ (xb_Law_times l hfl dC dI cI cL cB ad s.heap.size w (xs (i + 1)) (lj (xs (i + 2)) (xs (i + 3))) (xs (i + 4)) (sC_0 hC) hB) (vx_cwSW 5 hts (gI_S k_312 k_310 k_311 k_20) rfl rfl rfl (by decide +kernel) ⟨Nat.le_of_ble_eq_true rfl, Nat.le_of_ble_eq_true rfl⟩) (q_pre hK hAm hZ hN [.ref (ad 0), .int (xs (i + 1)), .long (lj (xs (i + 2)) (xs (i + 3))), .int (xs (i + 4)), .ref (ad 51)]) rfl rfl hl.1 rfl (lv_room (Nat.le_of_ble_eq_true rfl)) d_Law_law_656 hc1) hZ (fun r u_r H locs h_r hZ => ?_)
    obtain ⟨e_r, e_u⟩ := h_r
    rw [e_u] at hZ
    refine q_topi (y := nI 1) e_r ?_
    refine lv_istore (lv' := [(5, .int (nI 1)), (4, .int (nI i)), (0, .ref b), (1, .ref (ad 0)), (2, .ref (ad 43)), (3, .ref (ad 51))]) hx hb d_Law_law_659 hl (by decide) rfl (fun ls hl => ?_)
    refine lv_aload_n hx hb d_Law_law_661 rfl (lv_at hl 4 rfl) ?_
    refine lv_aload_n hx hb d_Law_law_662 rfl (lv_at hl 2 rfl) ?_
    refine lv_iload hx hb d_Law_law_663 (lv_at hl 1 rfl) ?_
    refine lv_iconst (v := (nI 1)) hx hb d_Law_law_665 rfl ?_
    refine lv_iadd hx hb d_Law_law_666 ?_
    refine q_topi (y := nI (i + 1)) (nI_add _ _) ?_
    refine q_sld hx hb hX hbl hbA hZ.2.2 ((i + 1)) rfl (by omega) (by omega) d_Law_law_667 ?_
    refine lv_aload_n hx hb d_Law_law_668 rfl (lv_at hl 2 rfl) ?_
    refine lv_iload hx hb d_Law_law_669 (lv_at hl 1 rfl) ?_
    refine lv_iconst (v := (nI 2)) hx hb d_Law_law_671 rfl ?_
    refine lv_iadd hx hb d_Law_law_672 ?_
    refine q_topi (y := nI (i + 2)) (nI_add _ _) ?_
    refine q_sld hx hb hX hbl hbA hZ.2.2 ((i + 2)) rfl (by omega) (by omega) d_Law_law_673 ?_
    refine lv_i2l (v := (xs (i + 2)).toInt64) hx hb d_Law_law_674 rfl ?_
    refine lv_bipush (v := (nI 32)) hx hb d_Law_law_675 rfl ?_
    refine lv_lshl (v := ((xs (i + 2)).toInt64) <<< ((nI 32).toInt64 &&& 63)) hx hb d_Law_law_677 rfl ?_
    refine lv_aload_n hx hb d_Law_law_678 rfl (lv_at hl 2 rfl) ?_
    refine lv_iload hx hb d_Law_law_679 (lv_at hl 1 rfl) ?_
    refine lv_iconst (v := (nI 3)) hx hb d_Law_law_681 rfl ?_
    refine lv_iadd hx hb d_Law_law_682 ?_
    refine q_topi (y := nI (i + 3)) (nI_add _ _) ?_
    refine q_sld hx hb hX hbl hbA hZ.2.2 ((i + 3)) rfl (by omega) (by omega) d_Law_law_683 ?_
    refine lv_i2l (v := (xs (i + 3)).toInt64) hx hb d_Law_law_684 rfl ?_
    refine lv_ldc2 (v := 4294967295) hx hb hown (hts _ (gm k_577)) d_Law_law_685 ?_
    refine lv_land hx hb d_Law_law_688 ?_
    refine lv_lor hx hb d_Law_law_689 ?_
    refine q_topl (y := lj (xs (i + 2)) (xs (i + 3))) rfl ?_
    refine lv_aload_n hx hb d_Law_law_690 rfl (lv_at hl 2 rfl) ?_
    refine lv_iload hx hb d_Law_law_691 (lv_at hl 1 rfl) ?_
    refine lv_iconst (v := (nI 4)) hx hb d_Law_law_693 rfl ?_
    refine lv_iadd hx hb d_Law_law_694 ?_
    refine q_topi (y := nI (i + 4)) (nI_add _ _) ?_
    refine q_sld hx hb hX hbl hbA hZ.2.2 ((i + 4)) rfl (by omega) (by omega) d_Law_law_695 ?_
    obtain ⟨fs43, h43⟩ := sM_43 hMM
    refine q_calli (va_runV (As := [.int (xs (i + 1)), .long (lj (xs (i + 2)) (xs (i + 3))), .int (xs (i + 4))]) (rest := []) ⟨hx, hb, hml, hown, hts⟩ (x_Mod_times l dC dI cI cL cB ad s.heap.size w t0 F (xs (i + 1)) (lj (xs (i + 2)) (xs (i + 3))) (xs (i + 4)) (nI 1) hMM (Or.inl ⟨fun z => hB ⟨z.1, z.2.1⟩, rfl⟩)) (cwV 3 hts (gI_V k_523 k_520 k_521 k_522 k_24) rfl rfl rfl (by decide +kernel) ⟨Nat.le_of_ble_eq_true rfl, Nat.le_of_ble_eq_true rfl⟩) (q_preV hK hAm hZ hN [.int (xs (i + 1)), .long (lj (xs (i + 2)) (xs (i + 3))), .int (xs (i + 4))] (43) 3 (by decide) h43 rfl) rfl rfl hl.1 rfl (lv_room (Nat.le_of_ble_eq_true rfl)) d_Law_law_696 hc1) hZ (fun v u_v H locs h_v hZ => ?_)
    obtain ⟨hfr, hres2⟩ := h_v
    have h51 := (hfr 51 (by omega)).trans h51
    have hMM := hres2
    have hC := sC_fr hC (fun x hx => hfr x (by omega))
    refine lv_istore (lv' := [(6, .int v), (5, .int (nI 1)), (4, .int (nI i)), (0, .ref b), (1, .ref (ad 0)), (2, .ref (ad 43)), (3, .ref (ad 51))]) hx hb d_Law_law_699 hl (by decide) rfl (fun ls hl => ?_)
    refine lv_aload_n hx hb d_Law_law_701 rfl (lv_at hl 5 rfl) ?_
    obtain ⟨fs43, h43⟩ := sM_43 hMM
    refine q_calli (va_runV (As := []) (rest := []) ⟨hx, hb, hml, hown, hts⟩ (c_Mod_thrown l dC dI cI cL cB ad s.heap.size u_v _ _ hMM) (cwV 0 hts (gI_V k_454 k_451 k_452 k_453 k_24) rfl rfl rfl (by decide +kernel) ⟨Nat.le_of_ble_eq_true rfl, Nat.le_of_ble_eq_true rfl⟩) (q_preV hK hAm hZ hN [] (43) 3 (by decide) h43 rfl) rfl rfl hl.1 rfl (lv_room (Nat.le_of_ble_eq_true rfl)) d_Law_law_702 hc1) hZ (fun th u_th H locs h_th hZ => ?_)
    obtain ⟨e_th, e_t⟩ := h_th
    rw [e_th] at hZ
    refine q_topi (y := nI 1) e_t ?_
    refine lv_iload hx hb d_Law_law_705 (lv_at hl 1 rfl) ?_
    refine lv_icmp_eq (tgt := 712) hx hb d_Law_law_707 (by decide) (fun h707 => ?_) (fun h707 => ?_)
    · skip
      have h707 : 1 = 1 := (nI_eq (a := 1) (b := 1) (by omega) (by omega)).mp h707
      refine lv_iload hx hb d_Law_law_712 (lv_at hl 1 rfl) ?_
      refine lv_if_ne (tgt := 736) hx hb d_Law_law_714 (by decide) (fun h714 => ?_) (fun h714 => ?_)
      · skip
        have h714 : ¬ 1 = 0 := fun z9 => h714 ((nI_eq (a := 1) (b := 0) (by omega) (by omega)).mpr z9)
        refine lv_goto (tgt := 1486) hx hb d_Law_law_736 (by decide) ?_
        exact K _ _ _ _ _ _ _ hC hMM h51 hZ (lv_sub hl [2, 3, 4, 5, 6] rfl)
      · skip
        have h714 : 1 = 0 := (nI_eq (a := 1) (b := 0) (by omega) (by omega)).mp h714
        exact absurd h714 (by decide)
    · skip
      have h707 : ¬ 1 = 1 := fun z9 => h707 ((nI_eq (a := 1) (b := 1) (by omega) (by omega)).mpr z9)
      exact absurd h707 (by decide)
set_option maxHeartbeats 4000000 in
set_option maxRecDepth 100000 in
/-- part -/
theorem law_6 {p : Program} {e : Env} {s : State} {m : MethodId} {below : List Frame} {meth : Method} {c : Code} (l : Launch) (hfl : l.stackTraces = false) {b L : Nat} {xs : Nat → Int32} (C0 : lw_At p s m meth c b L xs) (dC : Nat → ClassId) (dI : Nat → Nat → Nat) (cI cL cB : ClassId) (ad : Nat → Nat) (hK : va_K (dC, dI) vCl [(cI, .int), (cL, .long), (cB, .object "CoinBag$Bag")] s) (hAm : sAm s.heap.size s) (i : Nat) (hi : i + 7 ≤ L) (hL : L ≤ 3584) (cells slots : Nat) (hc1 : cells + 1 ≤ room_1.cells ∧ slots + 6 ≤ room_1.slots) (K : lawK p l e s m below meth c b dC dI cI cL cB ad i (cells + 1) (slots + 6)) (w : Nat → va_E) (F : Nat → Int → Int64) (o : Nat → Int64) (t0 : Int32) (H : Heap) (locs : List Loc) (ls : Array Slot) (hC : sC ad cI cL cB w F) (hMM : sM ad cI cL w t0 F) (h51 : w 51 = .inl (cL, 1, .inr (.inl o))) (hZ : sZ (dC, dI) vCl 52 ad (fun q => s.heap.size ≤ q) s.heap w H locs) (hl : lv_has ls 8 [(4, .int (nI i)), (0, .ref b), (1, .ref (ad 0)), (2, .ref (ad 43)), (3, .ref (ad 51))]) : W p l e room_1 s m #[Value.ref b] below meth c H locs cells slots (lw_Z below #[Value.ref b] s) (F0 m 827 ls []) := by
  obtain ⟨hx, hb, hr, hml, hown, hts0, hX, hbl, hlocks, hgv⟩ := id C0
  have hts := law_hts hts0
  have hN : s.heap.size ≤ s.heap.size := Nat.le_refl _
  have hbA : ¬ (fun q => s.heap.size ≤ q) b := Nat.not_le.mpr hbl
  have hc0 : cells + 0 ≤ room_1.cells ∧ slots + 0 ≤ room_1.slots := ⟨Nat.le_trans (Nat.le_succ _) hc1.1, Nat.le_trans (by omega) hc1.2⟩
  by_cases hB : okB (xs (i + 1)) ∧ okB (xs (i + 3))
  · skip
    obtain ⟨j1, hj1, ej1⟩ := okB_nat hB.1
    obtain ⟨j3, hj3, ej3⟩ := okB_nat hB.2
    refine lv_aload_n hx hb d_Law_law_827 rfl (lv_at hl 2 rfl) ?_
    refine lv_aload_n hx hb d_Law_law_828 rfl (lv_at hl 1 rfl) ?_
    refine lv_iload hx hb d_Law_law_829 (lv_at hl 0 rfl) ?_
    refine lv_iconst (v := (nI 1)) hx hb d_Law_law_831 rfl ?_
    refine lv_iadd hx hb d_Law_law_832 ?_
    refine q_topi (y := nI (i + 1)) (nI_add _ _) ?_
    refine q_sld hx hb hX hbl hbA hZ.2.2 ((i + 1)) rfl (by omega) (by omega) d_Law_law_833 ?_
    refine q_topi (y := nI j1) ej1 ?_
    refine lv_aload_n hx hb d_Law_law_834 rfl (lv_at hl 1 rfl) ?_
    refine lv_iload hx hb d_Law_law_835 (lv_at hl 0 rfl) ?_
    refine lv_iconst (v := (nI 2)) hx hb d_Law_law_837 rfl ?_
    refine lv_iadd hx hb d_Law_law_838 ?_
    refine q_topi (y := nI (i + 2)) (nI_add _ _) ?_
    refine q_sld hx hb hX hbl hbA hZ.2.2 ((i + 2)) rfl (by omega) (by omega) d_Law_law_839 ?_
    refine lv_aload_n hx hb d_Law_law_840 rfl (lv_at hl 1 rfl) ?_
    refine lv_iload hx hb d_Law_law_841 (lv_at hl 0 rfl) ?_
    refine lv_iconst (v := (nI 3)) hx hb d_Law_law_843 rfl ?_
    refine lv_iadd hx hb d_Law_law_844 ?_
    refine q_topi (y := nI (i + 3)) (nI_add _ _) ?_
    refine q_sld hx hb hX hbl hbA hZ.2.2 ((i + 3)) rfl (by omega) (by omega) d_Law_law_845 ?_
    refine q_topi (y := nI j3) ej3 ?_
    refine lv_aload_n hx hb d_Law_law_846 rfl (lv_at hl 4 rfl) ?_
    refine q_calli (vx_runSW (As := [.ref (ad 0), .int (nI j1), .int (xs (i + 2)), .int (nI j3), .ref (ad 51)]) (rest := []) ⟨hx, hb, hml, hown, hts⟩ (c_Law_part l dC dI cI cL cB ad s.heap.size w F j1 (xs (i + 2)) j3 o hC hj1 hj3 h51) (vx_cwSW 5 hts (gI_S k_330 k_328 k_329 k_20) rfl rfl rfl (by decide +kernel) ⟨Nat.le_of_ble_eq_true rfl, Nat.le_of_ble_eq_true rfl⟩) (q_pre hK hAm hZ hN [.ref (ad 0), .int (nI j1), .int (xs (i + 2)), .int (nI j3), .ref (ad 51)]) rfl rfl hl.1 rfl (lv_room (Nat.le_of_ble_eq_true rfl)) d_Law_law_847 hc0) hZ (fun r u_r H locs h_r hZ => ?_)
    obtain ⟨e_r, hkp, o2, h51, hres⟩ := h_r
    have hMM := sM_fr hMM (fun x h1 h2 => hkp x (by omega) (by omega))
    refine q_topi (y := nI 0) e_r ?_
    refine lv_istore (lv' := [(5, .int (nI 0)), (4, .int (nI i)), (0, .ref b), (1, .ref (ad 0)), (2, .ref (ad 43)), (3, .ref (ad 51))]) hx hb d_Law_law_850 hl (by decide) rfl (fun ls hl => ?_)
    refine lv_aload_n hx hb d_Law_law_852 rfl (lv_at hl 4 rfl) ?_
    refine lv_aload_n hx hb d_Law_law_853 rfl (lv_at hl 2 rfl) ?_
    refine lv_iload hx hb d_Law_law_854 (lv_at hl 1 rfl) ?_
    refine lv_iconst (v := (nI 1)) hx hb d_Law_law_856 rfl ?_
    refine lv_iadd hx hb d_Law_law_857 ?_
    refine q_topi (y := nI (i + 1)) (nI_add _ _) ?_
    refine q_sld hx hb hX hbl hbA hZ.2.2 ((i + 1)) rfl (by omega) (by omega) d_Law_law_858 ?_
    refine q_topi (y := nI j1) ej1 ?_
    refine lv_aload_n hx hb d_Law_law_859 rfl (lv_at hl 2 rfl) ?_
    refine lv_iload hx hb d_Law_law_860 (lv_at hl 1 rfl) ?_
    refine lv_iconst (v := (nI 2)) hx hb d_Law_law_862 rfl ?_
    refine lv_iadd hx hb d_Law_law_863 ?_
    refine q_topi (y := nI (i + 2)) (nI_add _ _) ?_
    refine q_sld hx hb hX hbl hbA hZ.2.2 ((i + 2)) rfl (by omega) (by omega) d_Law_law_864 ?_
    refine lv_aload_n hx hb d_Law_law_865 rfl (lv_at hl 2 rfl) ?_
    refine lv_iload hx hb d_Law_law_866 (lv_at hl 1 rfl) ?_
    refine lv_iconst (v := (nI 3)) hx hb d_Law_law_868 rfl ?_
    refine lv_iadd hx hb d_Law_law_869 ?_
    refine q_topi (y := nI (i + 3)) (nI_add _ _) ?_
    refine q_sld hx hb hX hbl hbA hZ.2.2 ((i + 3)) rfl (by omega) (by omega) d_Law_law_870 ?_
    refine q_topi (y := nI j3) ej3 ?_
    obtain ⟨fs43, h43⟩ := sM_43 hMM
    refine q_calli (va_runV (As := [.int (nI j1), .int (xs (i + 2)), .int (nI j3)]) (rest := []) ⟨hx, hb, hml, hown, hts⟩ (c_Mod_part l dC dI cI cL cB ad s.heap.size u_r t0 F j1 (xs (i + 2)) j3 hMM hj1 hj3) (cwV 3 hts (gI_V k_536 k_533 k_534 k_535 k_24) rfl rfl rfl (by decide +kernel) ⟨Nat.le_of_ble_eq_true rfl, Nat.le_of_ble_eq_true rfl⟩) (q_preV hK hAm hZ hN [.int (nI j1), .int (xs (i + 2)), .int (nI j3)] (43) 3 (by decide) h43 rfl) rfl rfl hl.1 rfl (lv_room (Nat.le_of_ble_eq_true rfl)) d_Law_law_871 hc0) hZ (fun v u_v H locs h_v hZ => ?_)
    obtain ⟨hfr, hres2⟩ := h_v
    have h51 := (hfr 51 (by omega)).trans h51
    rcases hres with ⟨hq1, ho, hC⟩ | ⟨hq1, ho, hC⟩
    · skip
      rcases hres2 with ⟨hq2, ev, hMM⟩ | ⟨hq2, ev, hMM⟩
      · skip
        have hC := sC_fr hC (fun x hx => hfr x (by omega))
        refine q_topi (y := nI 1) ev ?_
        refine lv_istore (lv' := [(6, .int (nI 1)), (5, .int (nI 0)), (4, .int (nI i)), (0, .ref b), (1, .ref (ad 0)), (2, .ref (ad 43)), (3, .ref (ad 51))]) hx hb d_Law_law_874 hl (by decide) rfl (fun ls hl => ?_)
        refine lv_aload_n hx hb d_Law_law_876 rfl (lv_at hl 5 rfl) ?_
        obtain ⟨fs43, h43⟩ := sM_43 hMM
        refine q_calli (va_runV (As := []) (rest := []) ⟨hx, hb, hml, hown, hts⟩ (c_Mod_thrown l dC dI cI cL cB ad s.heap.size u_v _ _ hMM) (cwV 0 hts (gI_V k_454 k_451 k_452 k_453 k_24) rfl rfl rfl (by decide +kernel) ⟨Nat.le_of_ble_eq_true rfl, Nat.le_of_ble_eq_true rfl⟩) (q_preV hK hAm hZ hN [] (43) 3 (by decide) h43 rfl) rfl rfl hl.1 rfl (lv_room (Nat.le_of_ble_eq_true rfl)) d_Law_law_877 hc0) hZ (fun th u_th H locs h_th hZ => ?_)
        obtain ⟨e_th, e_t⟩ := h_th
        rw [e_th] at hZ
        refine q_topi (y := nI 0) e_t ?_
        refine lv_iload hx hb d_Law_law_880 (lv_at hl 1 rfl) ?_
        refine lv_icmp_eq (tgt := 887) hx hb d_Law_law_882 (by decide) (fun h882 => ?_) (fun h882 => ?_)
        · skip
          have h882 : 0 = 0 := (nI_eq (a := 0) (b := 0) (by omega) (by omega)).mp h882
          refine lv_iload hx hb d_Law_law_887 (lv_at hl 1 rfl) ?_
          refine lv_if_ne (tgt := 911) hx hb d_Law_law_889 (by decide) (fun h889 => ?_) (fun h889 => ?_)
          · skip
            have h889 : ¬ 0 = 0 := fun z9 => h889 ((nI_eq (a := 0) (b := 0) (by omega) (by omega)).mpr z9)
            exact absurd h889 (by decide)
          · skip
            have h889 : 0 = 0 := (nI_eq (a := 0) (b := 0) (by omega) (by omega)).mp h889
            refine lv_aload_n hx hb d_Law_law_892 rfl (lv_at hl 6 rfl) ?_
            refine lv_iconst (v := (nI 0)) hx hb d_Law_law_893 rfl ?_
            refine q_lald hx hb hK hZ (51) 1 (0) (by decide) h51 rfl rfl (by omega) (by decide) d_Law_law_894 ?_
            refine lv_iload hx hb d_Law_law_895 (lv_at hl 0 rfl) ?_
            refine lv_if_eq (tgt := 904) hx hb d_Law_law_897 (by decide) (fun h897 => ?_) (fun h897 => ?_)
            · skip
              have h897 : 1 = 0 := (nI_eq (a := 1) (b := 0) (by omega) (by omega)).mp h897
              exact absurd h897 (by decide)
            · skip
              have h897 : ¬ 1 = 0 := fun z9 => h897 ((nI_eq (a := 1) (b := 0) (by omega) (by omega)).mpr z9)
              refine lv_lconst (v := 1) hx hb d_Law_law_900 rfl ?_
              refine lv_goto (tgt := 905) hx hb d_Law_law_901 (by decide) ?_
              refine W.lcmp hx hb d_Law_law_905 ?_
              refine lv_if_eq (tgt := 911) hx hb d_Law_law_906 (by decide) (fun h906 => ?_) (fun h906 => ?_)
              · skip
                rw [lg_cmp_eq] at h906
                refine lv_goto (tgt := 1486) hx hb d_Law_law_911 (by decide) ?_
                refine W.widen (k := cells + 1) (n := slots + 6) (by omega) (by omega) ?_
                exact K _ _ _ _ _ _ _ hC hMM h51 hZ (lv_sub hl [2, 3, 4, 5, 6] rfl)
              · skip
                rw [lg_cmp_eq] at h906
                exact absurd ho h906
        · skip
          have h882 : ¬ 0 = 0 := fun z9 => h882 ((nI_eq (a := 0) (b := 0) (by omega) (by omega)).mpr z9)
          exact absurd h882 (by decide)
      · skip
        exact absurd hq1 hq2
    · skip
      rcases hres2 with ⟨hq2, ev, hMM⟩ | ⟨hq2, ev, hMM⟩
      · skip
        exact absurd hq2 hq1
      · skip
        have hC := sC_fr hC (fun x hx => hfr x (by omega))
        refine q_topi (y := nI 0) ev ?_
        refine lv_istore (lv' := [(6, .int (nI 0)), (5, .int (nI 0)), (4, .int (nI i)), (0, .ref b), (1, .ref (ad 0)), (2, .ref (ad 43)), (3, .ref (ad 51))]) hx hb d_Law_law_874 hl (by decide) rfl (fun ls hl => ?_)
        refine lv_aload_n hx hb d_Law_law_876 rfl (lv_at hl 5 rfl) ?_
        obtain ⟨fs43, h43⟩ := sM_43 hMM
        refine q_calli (va_runV (As := []) (rest := []) ⟨hx, hb, hml, hown, hts⟩ (c_Mod_thrown l dC dI cI cL cB ad s.heap.size u_v _ _ hMM) (cwV 0 hts (gI_V k_454 k_451 k_452 k_453 k_24) rfl rfl rfl (by decide +kernel) ⟨Nat.le_of_ble_eq_true rfl, Nat.le_of_ble_eq_true rfl⟩) (q_preV hK hAm hZ hN [] (43) 3 (by decide) h43 rfl) rfl rfl hl.1 rfl (lv_room (Nat.le_of_ble_eq_true rfl)) d_Law_law_877 hc0) hZ (fun th u_th H locs h_th hZ => ?_)
        obtain ⟨e_th, e_t⟩ := h_th
        rw [e_th] at hZ
        refine q_topi (y := nI 0) e_t ?_
        refine lv_iload hx hb d_Law_law_880 (lv_at hl 1 rfl) ?_
        refine lv_icmp_eq (tgt := 887) hx hb d_Law_law_882 (by decide) (fun h882 => ?_) (fun h882 => ?_)
        · skip
          have h882 : 0 = 0 := (nI_eq (a := 0) (b := 0) (by omega) (by omega)).mp h882
          refine lv_iload hx hb d_Law_law_887 (lv_at hl 1 rfl) ?_
          refine lv_if_ne (tgt := 911) hx hb d_Law_law_889 (by decide) (fun h889 => ?_) (fun h889 => ?_)
          · skip
            have h889 : ¬ 0 = 0 := fun z9 => h889 ((nI_eq (a := 0) (b := 0) (by omega) (by omega)).mpr z9)
            exact absurd h889 (by decide)
          · skip
            have h889 : 0 = 0 := (nI_eq (a := 0) (b := 0) (by omega) (by omega)).mp h889
            refine lv_aload_n hx hb d_Law_law_892 rfl (lv_at hl 6 rfl) ?_
            refine lv_iconst (v := (nI 0)) hx hb d_Law_law_893 rfl ?_
            refine q_lald hx hb hK hZ (51) 1 (0) (by decide) h51 rfl rfl (by omega) (by decide) d_Law_law_894 ?_
            refine lv_iload hx hb d_Law_law_895 (lv_at hl 0 rfl) ?_
            refine lv_if_eq (tgt := 904) hx hb d_Law_law_897 (by decide) (fun h897 => ?_) (fun h897 => ?_)
            · skip
              have h897 : 0 = 0 := (nI_eq (a := 0) (b := 0) (by omega) (by omega)).mp h897
              refine lv_lconst (v := 0) hx hb d_Law_law_904 rfl ?_
              refine W.lcmp hx hb d_Law_law_905 ?_
              refine lv_if_eq (tgt := 911) hx hb d_Law_law_906 (by decide) (fun h906 => ?_) (fun h906 => ?_)
              · skip
                rw [lg_cmp_eq] at h906
                refine lv_goto (tgt := 1486) hx hb d_Law_law_911 (by decide) ?_
                refine W.widen (k := cells + 1) (n := slots + 6) (by omega) (by omega) ?_
                exact K _ _ _ _ _ _ _ hC hMM h51 hZ (lv_sub hl [2, 3, 4, 5, 6] rfl)
              · skip
                rw [lg_cmp_eq] at h906
                exact absurd ho h906
            · skip
              have h897 : ¬ 0 = 0 := fun z9 => h897 ((nI_eq (a := 0) (b := 0) (by omega) (by omega)).mpr z9)
              exact absurd h897 (by decide)
        · skip
          have h882 : ¬ 0 = 0 := fun z9 => h882 ((nI_eq (a := 0) (b := 0) (by omega) (by omega)).mpr z9)
          exact absurd h882 (by decide)
  · skip
    refine lv_aload_n hx hb d_Law_law_827 rfl (lv_at hl 2 rfl) ?_
    refine lv_aload_n hx hb d_Law_law_828 rfl (lv_at hl 1 rfl) ?_
    refine lv_iload hx hb d_Law_law_829 (lv_at hl 0 rfl) ?_
    refine lv_iconst (v := (nI 1)) hx hb d_Law_law_831 rfl ?_
    refine lv_iadd hx hb d_Law_law_832 ?_
    refine q_topi (y := nI (i + 1)) (nI_add _ _) ?_
    refine q_sld hx hb hX hbl hbA hZ.2.2 ((i + 1)) rfl (by omega) (by omega) d_Law_law_833 ?_
    refine lv_aload_n hx hb d_Law_law_834 rfl (lv_at hl 1 rfl) ?_
    refine lv_iload hx hb d_Law_law_835 (lv_at hl 0 rfl) ?_
    refine lv_iconst (v := (nI 2)) hx hb d_Law_law_837 rfl ?_
    refine lv_iadd hx hb d_Law_law_838 ?_
    refine q_topi (y := nI (i + 2)) (nI_add _ _) ?_
    refine q_sld hx hb hX hbl hbA hZ.2.2 ((i + 2)) rfl (by omega) (by omega) d_Law_law_839 ?_
    refine lv_aload_n hx hb d_Law_law_840 rfl (lv_at hl 1 rfl) ?_
    refine lv_iload hx hb d_Law_law_841 (lv_at hl 0 rfl) ?_
    refine lv_iconst (v := (nI 3)) hx hb d_Law_law_843 rfl ?_
    refine lv_iadd hx hb d_Law_law_844 ?_
    refine q_topi (y := nI (i + 3)) (nI_add _ _) ?_
    refine q_sld hx hb hX hbl hbA hZ.2.2 ((i + 3)) rfl (by omega) (by omega) d_Law_law_845 ?_
    refine lv_aload_n hx hb d_Law_law_846 rfl (lv_at hl 4 rfl) ?_
    refine q_calliX (vx_runSW (As := [.ref (ad 0), .int (xs (i + 1)), .int (xs (i + 2)), .int (xs (i + 3)), .ref (ad 51)]) (rest := []) ⟨hx, hb, hml, hown, hts⟩ (xb_Law_part l hfl dC dI cI cL cB ad s.heap.size w (xs (i + 1)) (xs (i + 2)) (xs (i + 3)) (sC_0 hC) hB) (vx_cwSW 5 hts (gI_S k_330 k_328 k_329 k_20) rfl rfl rfl (by decide +kernel) ⟨Nat.le_of_ble_eq_true rfl, Nat.le_of_ble_eq_true rfl⟩) (q_pre hK hAm hZ hN [.ref (ad 0), .int (xs (i + 1)), .int (xs (i + 2)), .int (xs (i + 3)), .ref (ad 51)]) rfl rfl hl.1 rfl (lv_room (Nat.le_of_ble_eq_true rfl)) d_Law_law_847 hc1) hZ (fun r u_r H locs h_r hZ => ?_)
    obtain ⟨e_r, e_u⟩ := h_r
    rw [e_u] at hZ
    refine q_topi (y := nI 1) e_r ?_
    refine lv_istore (lv' := [(5, .int (nI 1)), (4, .int (nI i)), (0, .ref b), (1, .ref (ad 0)), (2, .ref (ad 43)), (3, .ref (ad 51))]) hx hb d_Law_law_850 hl (by decide) rfl (fun ls hl => ?_)
    refine lv_aload_n hx hb d_Law_law_852 rfl (lv_at hl 4 rfl) ?_
    refine lv_aload_n hx hb d_Law_law_853 rfl (lv_at hl 2 rfl) ?_
    refine lv_iload hx hb d_Law_law_854 (lv_at hl 1 rfl) ?_
    refine lv_iconst (v := (nI 1)) hx hb d_Law_law_856 rfl ?_
    refine lv_iadd hx hb d_Law_law_857 ?_
    refine q_topi (y := nI (i + 1)) (nI_add _ _) ?_
    refine q_sld hx hb hX hbl hbA hZ.2.2 ((i + 1)) rfl (by omega) (by omega) d_Law_law_858 ?_
    refine lv_aload_n hx hb d_Law_law_859 rfl (lv_at hl 2 rfl) ?_
    refine lv_iload hx hb d_Law_law_860 (lv_at hl 1 rfl) ?_
    refine lv_iconst (v := (nI 2)) hx hb d_Law_law_862 rfl ?_
    refine lv_iadd hx hb d_Law_law_863 ?_
    refine q_topi (y := nI (i + 2)) (nI_add _ _) ?_
    refine q_sld hx hb hX hbl hbA hZ.2.2 ((i + 2)) rfl (by omega) (by omega) d_Law_law_864 ?_
    refine lv_aload_n hx hb d_Law_law_865 rfl (lv_at hl 2 rfl) ?_
    refine lv_iload hx hb d_Law_law_866 (lv_at hl 1 rfl) ?_
    refine lv_iconst (v := (nI 3)) hx hb d_Law_law_868 rfl ?_
    refine lv_iadd hx hb d_Law_law_869 ?_
    refine q_topi (y := nI (i + 3)) (nI_add _ _) ?_
    refine q_sld hx hb hX hbl hbA hZ.2.2 ((i + 3)) rfl (by omega) (by omega) d_Law_law_870 ?_
    obtain ⟨fs43, h43⟩ := sM_43 hMM
    refine q_calli (va_runV (As := [.int (xs (i + 1)), .int (xs (i + 2)), .int (xs (i + 3))]) (rest := []) ⟨hx, hb, hml, hown, hts⟩ (x_Mod_part l dC dI cI cL cB ad s.heap.size w t0 F (xs (i + 1)) (xs (i + 2)) (xs (i + 3)) (nI 1) hMM (Or.inl ⟨fun z => hB ⟨z.1, z.2.1⟩, rfl⟩)) (cwV 3 hts (gI_V k_536 k_533 k_534 k_535 k_24) rfl rfl rfl (by decide +kernel) ⟨Nat.le_of_ble_eq_true rfl, Nat.le_of_ble_eq_true rfl⟩) (q_preV hK hAm hZ hN [.int (xs (i + 1)), .int (xs (i + 2)), .int (xs (i + 3))] (43) 3 (by decide) h43 rfl) rfl rfl hl.1 rfl (lv_room (Nat.le_of_ble_eq_true rfl)) d_Law_law_871 hc1) hZ (fun v u_v H locs h_v hZ => ?_)
    obtain ⟨hfr, hres2⟩ := h_v
    have h51 := (hfr 51 (by omega)).trans h51
    have hMM := hres2
    have hC := sC_fr hC (fun x hx => hfr x (by omega))
    refine lv_istore (lv' := [(6, .int v), (5, .int (nI 1)), (4, .int (nI i)), (0, .ref b), (1, .ref (ad 0)), (2, .ref (ad 43)), (3, .ref (ad 51))]) hx hb d_Law_law_874 hl (by decide) rfl (fun ls hl => ?_)
    refine lv_aload_n hx hb d_Law_law_876 rfl (lv_at hl 5 rfl) ?_
    obtain ⟨fs43, h43⟩ := sM_43 hMM
    refine q_calli (va_runV (As := []) (rest := []) ⟨hx, hb, hml, hown, hts⟩ (c_Mod_thrown l dC dI cI cL cB ad s.heap.size u_v _ _ hMM) (cwV 0 hts (gI_V k_454 k_451 k_452 k_453 k_24) rfl rfl rfl (by decide +kernel) ⟨Nat.le_of_ble_eq_true rfl, Nat.le_of_ble_eq_true rfl⟩) (q_preV hK hAm hZ hN [] (43) 3 (by decide) h43 rfl) rfl rfl hl.1 rfl (lv_room (Nat.le_of_ble_eq_true rfl)) d_Law_law_877 hc1) hZ (fun th u_th H locs h_th hZ => ?_)
    obtain ⟨e_th, e_t⟩ := h_th
    rw [e_th] at hZ
    refine q_topi (y := nI 1) e_t ?_
    refine lv_iload hx hb d_Law_law_880 (lv_at hl 1 rfl) ?_
    refine lv_icmp_eq (tgt := 887) hx hb d_Law_law_882 (by decide) (fun h882 => ?_) (fun h882 => ?_)
    · skip
      have h882 : 1 = 1 := (nI_eq (a := 1) (b := 1) (by omega) (by omega)).mp h882
      refine lv_iload hx hb d_Law_law_887 (lv_at hl 1 rfl) ?_
      refine lv_if_ne (tgt := 911) hx hb d_Law_law_889 (by decide) (fun h889 => ?_) (fun h889 => ?_)
      · skip
        have h889 : ¬ 1 = 0 := fun z9 => h889 ((nI_eq (a := 1) (b := 0) (by omega) (by omega)).mpr z9)
        refine lv_goto (tgt := 1486) hx hb d_Law_law_911 (by decide) ?_
        exact K _ _ _ _ _ _ _ hC hMM h51 hZ (lv_sub hl [2, 3, 4, 5, 6] rfl)
      · skip
        have h889 : 1 = 0 := (nI_eq (a := 1) (b := 0) (by omega) (by omega)).mp h889
        exact absurd h889 (by decide)
    · skip
      have h882 : ¬ 1 = 1 := fun z9 => h882 ((nI_eq (a := 1) (b := 1) (by omega) (by omega)).mpr z9)
      exact absurd h882 (by decide)
set_option maxHeartbeats 4000000 in
set_option maxRecDepth 100000 in
/-- compare -/
theorem law_11 {p : Program} {e : Env} {s : State} {m : MethodId} {below : List Frame} {meth : Method} {c : Code} (l : Launch) (hfl : l.stackTraces = false) {b L : Nat} {xs : Nat → Int32} (C0 : lw_At p s m meth c b L xs) (dC : Nat → ClassId) (dI : Nat → Nat → Nat) (cI cL cB : ClassId) (ad : Nat → Nat) (hK : va_K (dC, dI) vCl [(cI, .int), (cL, .long), (cB, .object "CoinBag$Bag")] s) (hAm : sAm s.heap.size s) (i : Nat) (hi : i + 7 ≤ L) (hL : L ≤ 3584) (cells slots : Nat) (hc1 : cells + 1 ≤ room_1.cells ∧ slots + 6 ≤ room_1.slots) (K : lawK p l e s m below meth c b dC dI cI cL cB ad i (cells + 1) (slots + 6)) (w : Nat → va_E) (F : Nat → Int → Int64) (o : Nat → Int64) (t0 : Int32) (H : Heap) (locs : List Loc) (ls : Array Slot) (hC : sC ad cI cL cB w F) (hMM : sM ad cI cL w t0 F) (h51 : w 51 = .inl (cL, 1, .inr (.inl o))) (hZ : sZ (dC, dI) vCl 52 ad (fun q => s.heap.size ≤ q) s.heap w H locs) (hl : lv_has ls 8 [(4, .int (nI i)), (0, .ref b), (1, .ref (ad 0)), (2, .ref (ad 43)), (3, .ref (ad 51))]) : W p l e room_1 s m #[Value.ref b] below meth c H locs cells slots (lw_Z below #[Value.ref b] s) (F0 m 1196 ls []) := by
  obtain ⟨hx, hb, hr, hml, hown, hts0, hX, hbl, hlocks, hgv⟩ := id C0
  have hts := law_hts hts0
  have hN : s.heap.size ≤ s.heap.size := Nat.le_refl _
  have hbA : ¬ (fun q => s.heap.size ≤ q) b := Nat.not_le.mpr hbl
  have hc0 : cells + 0 ≤ room_1.cells ∧ slots + 0 ≤ room_1.slots := ⟨Nat.le_trans (Nat.le_succ _) hc1.1, Nat.le_trans (by omega) hc1.2⟩
  by_cases hB : okB (xs (i + 1)) ∧ okB (xs (i + 2))
  · skip
    obtain ⟨j1, hj1, ej1⟩ := okB_nat hB.1
    obtain ⟨j2, hj2, ej2⟩ := okB_nat hB.2
    refine lv_aload_n hx hb d_Law_law_1196 rfl (lv_at hl 2 rfl) ?_
    refine lv_aload_n hx hb d_Law_law_1197 rfl (lv_at hl 1 rfl) ?_
    refine lv_iload hx hb d_Law_law_1198 (lv_at hl 0 rfl) ?_
    refine lv_iconst (v := (nI 1)) hx hb d_Law_law_1200 rfl ?_
    refine lv_iadd hx hb d_Law_law_1201 ?_
    refine q_topi (y := nI (i + 1)) (nI_add _ _) ?_
    refine q_sld hx hb hX hbl hbA hZ.2.2 ((i + 1)) rfl (by omega) (by omega) d_Law_law_1202 ?_
    refine q_topi (y := nI j1) ej1 ?_
    refine lv_aload_n hx hb d_Law_law_1203 rfl (lv_at hl 1 rfl) ?_
    refine lv_iload hx hb d_Law_law_1204 (lv_at hl 0 rfl) ?_
    refine lv_iconst (v := (nI 2)) hx hb d_Law_law_1206 rfl ?_
    refine lv_iadd hx hb d_Law_law_1207 ?_
    refine q_topi (y := nI (i + 2)) (nI_add _ _) ?_
    refine q_sld hx hb hX hbl hbA hZ.2.2 ((i + 2)) rfl (by omega) (by omega) d_Law_law_1208 ?_
    refine q_topi (y := nI j2) ej2 ?_
    refine lv_aload_n hx hb d_Law_law_1209 rfl (lv_at hl 4 rfl) ?_
    refine q_calli (vx_runSW (As := [.ref (ad 0), .int (nI j1), .int (nI j2), .ref (ad 51)]) (rest := []) ⟨hx, hb, hml, hown, hts⟩ (c_Law_compare l dC dI cI cL cB ad s.heap.size w F j1 j2 o hC hj1 hj2 h51) (vx_cwSW 4 hts (gI_S k_367 k_365 k_366 k_20) rfl rfl rfl (by decide +kernel) ⟨Nat.le_of_ble_eq_true rfl, Nat.le_of_ble_eq_true rfl⟩) (q_pre hK hAm hZ hN [.ref (ad 0), .int (nI j1), .int (nI j2), .ref (ad 51)]) rfl rfl hl.1 rfl (lv_room (Nat.le_of_ble_eq_true rfl)) d_Law_law_1210 hc0) hZ (fun r u_r H locs h_r hZ => ?_)
    obtain ⟨e_r, hkp, o2, h51, hres⟩ := h_r
    have hMM := sM_fr hMM (fun x h1 h2 => hkp x (by omega) (by omega))
    refine q_topi (y := nI 0) e_r ?_
    obtain ⟨hC, hres⟩ := hres
    refine lv_istore (lv' := [(5, .int (nI 0)), (4, .int (nI i)), (0, .ref b), (1, .ref (ad 0)), (2, .ref (ad 43)), (3, .ref (ad 51))]) hx hb d_Law_law_1213 hl (by decide) rfl (fun ls hl => ?_)
    refine lv_aload_n hx hb d_Law_law_1215 rfl (lv_at hl 4 rfl) ?_
    refine lv_aload_n hx hb d_Law_law_1216 rfl (lv_at hl 2 rfl) ?_
    refine lv_iload hx hb d_Law_law_1217 (lv_at hl 1 rfl) ?_
    refine lv_iconst (v := (nI 1)) hx hb d_Law_law_1219 rfl ?_
    refine lv_iadd hx hb d_Law_law_1220 ?_
    refine q_topi (y := nI (i + 1)) (nI_add _ _) ?_
    refine q_sld hx hb hX hbl hbA hZ.2.2 ((i + 1)) rfl (by omega) (by omega) d_Law_law_1221 ?_
    refine q_topi (y := nI j1) ej1 ?_
    refine lv_aload_n hx hb d_Law_law_1222 rfl (lv_at hl 2 rfl) ?_
    refine lv_iload hx hb d_Law_law_1223 (lv_at hl 1 rfl) ?_
    refine lv_iconst (v := (nI 2)) hx hb d_Law_law_1225 rfl ?_
    refine lv_iadd hx hb d_Law_law_1226 ?_
    refine q_topi (y := nI (i + 2)) (nI_add _ _) ?_
    refine q_sld hx hb hX hbl hbA hZ.2.2 ((i + 2)) rfl (by omega) (by omega) d_Law_law_1227 ?_
    refine q_topi (y := nI j2) ej2 ?_
    obtain ⟨fs43, h43⟩ := sM_43 hMM
    refine q_calli (va_runV (As := [.int (nI j1), .int (nI j2)]) (rest := []) ⟨hx, hb, hml, hown, hts⟩ (c_Mod_compare l dC dI cI cL cB ad s.heap.size u_r t0 F j1 j2 hMM hj1 hj2) (cwV 2 hts (gI_V k_568 k_565 k_566 k_567 k_24) rfl rfl rfl (by decide +kernel) ⟨Nat.le_of_ble_eq_true rfl, Nat.le_of_ble_eq_true rfl⟩) (q_preV hK hAm hZ hN [.int (nI j1), .int (nI j2)] (43) 3 (by decide) h43 rfl) rfl rfl hl.1 rfl (lv_room (Nat.le_of_ble_eq_true rfl)) d_Law_law_1228 hc0) hZ (fun v u_v H locs h_v hZ => ?_)
    obtain ⟨hfr, hres2⟩ := h_v
    have h51 := (hfr 51 (by omega)).trans h51
    obtain ⟨hMM, hres2⟩ := hres2
    have hC := sC_fr hC (fun x hx => hfr x (by omega))
    refine lv_istore (lv' := [(6, .int v), (5, .int (nI 0)), (4, .int (nI i)), (0, .ref b), (1, .ref (ad 0)), (2, .ref (ad 43)), (3, .ref (ad 51))]) hx hb d_Law_law_1231 hl (by decide) rfl (fun ls hl => ?_)
    refine lv_aload_n hx hb d_Law_law_1233 rfl (lv_at hl 5 rfl) ?_
    obtain ⟨fs43, h43⟩ := sM_43 hMM
    refine q_calli (va_runV (As := []) (rest := []) ⟨hx, hb, hml, hown, hts⟩ (c_Mod_thrown l dC dI cI cL cB ad s.heap.size u_v _ _ hMM) (cwV 0 hts (gI_V k_454 k_451 k_452 k_453 k_24) rfl rfl rfl (by decide +kernel) ⟨Nat.le_of_ble_eq_true rfl, Nat.le_of_ble_eq_true rfl⟩) (q_preV hK hAm hZ hN [] (43) 3 (by decide) h43 rfl) rfl rfl hl.1 rfl (lv_room (Nat.le_of_ble_eq_true rfl)) d_Law_law_1234 hc0) hZ (fun th u_th H locs h_th hZ => ?_)
    obtain ⟨e_th, e_t⟩ := h_th
    rw [e_th] at hZ
    refine q_topi (y := nI 0) e_t ?_
    refine lv_iload hx hb d_Law_law_1237 (lv_at hl 1 rfl) ?_
    refine lv_icmp_eq (tgt := 1244) hx hb d_Law_law_1239 (by decide) (fun h1239 => ?_) (fun h1239 => ?_)
    · skip
      have h1239 : 0 = 0 := (nI_eq (a := 0) (b := 0) (by omega) (by omega)).mp h1239
      refine lv_iload hx hb d_Law_law_1244 (lv_at hl 1 rfl) ?_
      refine lv_if_ne (tgt := 1261) hx hb d_Law_law_1246 (by decide) (fun h1246 => ?_) (fun h1246 => ?_)
      · skip
        have h1246 : ¬ 0 = 0 := fun z9 => h1246 ((nI_eq (a := 0) (b := 0) (by omega) (by omega)).mpr z9)
        exact absurd h1246 (by decide)
      · skip
        have h1246 : 0 = 0 := (nI_eq (a := 0) (b := 0) (by omega) (by omega)).mp h1246
        refine lv_aload_n hx hb d_Law_law_1249 rfl (lv_at hl 6 rfl) ?_
        refine lv_iconst (v := (nI 0)) hx hb d_Law_law_1250 rfl ?_
        refine q_lald hx hb hK hZ (51) 1 (0) (by decide) h51 rfl rfl (by omega) (by decide) d_Law_law_1251 ?_
        refine lv_iload hx hb d_Law_law_1252 (lv_at hl 0 rfl) ?_
        refine lv_i2l (v := v.toInt64) hx hb d_Law_law_1254 rfl ?_
        refine W.lcmp hx hb d_Law_law_1255 ?_
        refine lv_if_eq (tgt := 1261) hx hb d_Law_law_1256 (by decide) (fun h1256 => ?_) (fun h1256 => ?_)
        · skip
          rw [lg_cmp_eq] at h1256
          refine lv_goto (tgt := 1486) hx hb d_Law_law_1261 (by decide) ?_
          refine W.widen (k := cells + 1) (n := slots + 6) (by omega) (by omega) ?_
          exact K _ _ _ _ _ _ _ hC hMM h51 hZ (lv_sub hl [2, 3, 4, 5, 6] rfl)
        · skip
          rw [lg_cmp_eq] at h1256
          exact absurd (by obtain ⟨r0, hr1, hr2⟩ := hres; rw [hr2, cmR_eq hr1 hres2]) h1256
    · skip
      have h1239 : ¬ 0 = 0 := fun z9 => h1239 ((nI_eq (a := 0) (b := 0) (by omega) (by omega)).mpr z9)
      exact absurd h1239 (by decide)
  · skip
    refine lv_aload_n hx hb d_Law_law_1196 rfl (lv_at hl 2 rfl) ?_
    refine lv_aload_n hx hb d_Law_law_1197 rfl (lv_at hl 1 rfl) ?_
    refine lv_iload hx hb d_Law_law_1198 (lv_at hl 0 rfl) ?_
    refine lv_iconst (v := (nI 1)) hx hb d_Law_law_1200 rfl ?_
    refine lv_iadd hx hb d_Law_law_1201 ?_
    refine q_topi (y := nI (i + 1)) (nI_add _ _) ?_
    refine q_sld hx hb hX hbl hbA hZ.2.2 ((i + 1)) rfl (by omega) (by omega) d_Law_law_1202 ?_
    refine lv_aload_n hx hb d_Law_law_1203 rfl (lv_at hl 1 rfl) ?_
    refine lv_iload hx hb d_Law_law_1204 (lv_at hl 0 rfl) ?_
    refine lv_iconst (v := (nI 2)) hx hb d_Law_law_1206 rfl ?_
    refine lv_iadd hx hb d_Law_law_1207 ?_
    refine q_topi (y := nI (i + 2)) (nI_add _ _) ?_
    refine q_sld hx hb hX hbl hbA hZ.2.2 ((i + 2)) rfl (by omega) (by omega) d_Law_law_1208 ?_
    refine lv_aload_n hx hb d_Law_law_1209 rfl (lv_at hl 4 rfl) ?_
    refine q_calliX (vx_runSW (As := [.ref (ad 0), .int (xs (i + 1)), .int (xs (i + 2)), .ref (ad 51)]) (rest := []) ⟨hx, hb, hml, hown, hts⟩ (xb_Law_compare l hfl dC dI cI cL cB ad s.heap.size w (xs (i + 1)) (xs (i + 2)) (sC_0 hC) hB) (vx_cwSW 4 hts (gI_S k_367 k_365 k_366 k_20) rfl rfl rfl (by decide +kernel) ⟨Nat.le_of_ble_eq_true rfl, Nat.le_of_ble_eq_true rfl⟩) (q_pre hK hAm hZ hN [.ref (ad 0), .int (xs (i + 1)), .int (xs (i + 2)), .ref (ad 51)]) rfl rfl hl.1 rfl (lv_room (Nat.le_of_ble_eq_true rfl)) d_Law_law_1210 hc1) hZ (fun r u_r H locs h_r hZ => ?_)
    obtain ⟨e_r, e_u⟩ := h_r
    rw [e_u] at hZ
    refine q_topi (y := nI 1) e_r ?_
    refine lv_istore (lv' := [(5, .int (nI 1)), (4, .int (nI i)), (0, .ref b), (1, .ref (ad 0)), (2, .ref (ad 43)), (3, .ref (ad 51))]) hx hb d_Law_law_1213 hl (by decide) rfl (fun ls hl => ?_)
    refine lv_aload_n hx hb d_Law_law_1215 rfl (lv_at hl 4 rfl) ?_
    refine lv_aload_n hx hb d_Law_law_1216 rfl (lv_at hl 2 rfl) ?_
    refine lv_iload hx hb d_Law_law_1217 (lv_at hl 1 rfl) ?_
    refine lv_iconst (v := (nI 1)) hx hb d_Law_law_1219 rfl ?_
    refine lv_iadd hx hb d_Law_law_1220 ?_
    refine q_topi (y := nI (i + 1)) (nI_add _ _) ?_
    refine q_sld hx hb hX hbl hbA hZ.2.2 ((i + 1)) rfl (by omega) (by omega) d_Law_law_1221 ?_
    refine lv_aload_n hx hb d_Law_law_1222 rfl (lv_at hl 2 rfl) ?_
    refine lv_iload hx hb d_Law_law_1223 (lv_at hl 1 rfl) ?_
    refine lv_iconst (v := (nI 2)) hx hb d_Law_law_1225 rfl ?_
    refine lv_iadd hx hb d_Law_law_1226 ?_
    refine q_topi (y := nI (i + 2)) (nI_add _ _) ?_
    refine q_sld hx hb hX hbl hbA hZ.2.2 ((i + 2)) rfl (by omega) (by omega) d_Law_law_1227 ?_
    obtain ⟨fs43, h43⟩ := sM_43 hMM
    refine q_calli (va_runV (As := [.int (xs (i + 1)), .int (xs (i + 2))]) (rest := []) ⟨hx, hb, hml, hown, hts⟩ (x_Mod_compare l dC dI cI cL cB ad s.heap.size w t0 F (xs (i + 1)) (xs (i + 2)) (nI 1) hMM (Or.inl ⟨fun z => hB ⟨z.1, z.2.1⟩, rfl⟩)) (cwV 2 hts (gI_V k_568 k_565 k_566 k_567 k_24) rfl rfl rfl (by decide +kernel) ⟨Nat.le_of_ble_eq_true rfl, Nat.le_of_ble_eq_true rfl⟩) (q_preV hK hAm hZ hN [.int (xs (i + 1)), .int (xs (i + 2))] (43) 3 (by decide) h43 rfl) rfl rfl hl.1 rfl (lv_room (Nat.le_of_ble_eq_true rfl)) d_Law_law_1228 hc1) hZ (fun v u_v H locs h_v hZ => ?_)
    obtain ⟨hfr, hres2⟩ := h_v
    have h51 := (hfr 51 (by omega)).trans h51
    have hMM := hres2
    have hC := sC_fr hC (fun x hx => hfr x (by omega))
    refine lv_istore (lv' := [(6, .int v), (5, .int (nI 1)), (4, .int (nI i)), (0, .ref b), (1, .ref (ad 0)), (2, .ref (ad 43)), (3, .ref (ad 51))]) hx hb d_Law_law_1231 hl (by decide) rfl (fun ls hl => ?_)
    refine lv_aload_n hx hb d_Law_law_1233 rfl (lv_at hl 5 rfl) ?_
    obtain ⟨fs43, h43⟩ := sM_43 hMM
    refine q_calli (va_runV (As := []) (rest := []) ⟨hx, hb, hml, hown, hts⟩ (c_Mod_thrown l dC dI cI cL cB ad s.heap.size u_v _ _ hMM) (cwV 0 hts (gI_V k_454 k_451 k_452 k_453 k_24) rfl rfl rfl (by decide +kernel) ⟨Nat.le_of_ble_eq_true rfl, Nat.le_of_ble_eq_true rfl⟩) (q_preV hK hAm hZ hN [] (43) 3 (by decide) h43 rfl) rfl rfl hl.1 rfl (lv_room (Nat.le_of_ble_eq_true rfl)) d_Law_law_1234 hc1) hZ (fun th u_th H locs h_th hZ => ?_)
    obtain ⟨e_th, e_t⟩ := h_th
    rw [e_th] at hZ
    refine q_topi (y := nI 1) e_t ?_
    refine lv_iload hx hb d_Law_law_1237 (lv_at hl 1 rfl) ?_
    refine lv_icmp_eq (tgt := 1244) hx hb d_Law_law_1239 (by decide) (fun h1239 => ?_) (fun h1239 => ?_)
    · skip
      have h1239 : 1 = 1 := (nI_eq (a := 1) (b := 1) (by omega) (by omega)).mp h1239
      refine lv_iload hx hb d_Law_law_1244 (lv_at hl 1 rfl) ?_
      refine lv_if_ne (tgt := 1261) hx hb d_Law_law_1246 (by decide) (fun h1246 => ?_) (fun h1246 => ?_)
      · skip
        have h1246 : ¬ 1 = 0 := fun z9 => h1246 ((nI_eq (a := 1) (b := 0) (by omega) (by omega)).mpr z9)
        refine lv_goto (tgt := 1486) hx hb d_Law_law_1261 (by decide) ?_
        exact K _ _ _ _ _ _ _ hC hMM h51 hZ (lv_sub hl [2, 3, 4, 5, 6] rfl)
      · skip
        have h1246 : 1 = 0 := (nI_eq (a := 1) (b := 0) (by omega) (by omega)).mp h1246
        exact absurd h1246 (by decide)
    · skip
      have h1239 : ¬ 1 = 1 := fun z9 => h1239 ((nI_eq (a := 1) (b := 1) (by omega) (by omega)).mpr z9)
      exact absurd h1239 (by decide)
set_option maxHeartbeats 4000000 in
set_option maxRecDepth 100000 in
/-- into -/
theorem law_13 {p : Program} {e : Env} {s : State} {m : MethodId} {below : List Frame} {meth : Method} {c : Code} (l : Launch) (hfl : l.stackTraces = false) {b L : Nat} {xs : Nat → Int32} (C0 : lw_At p s m meth c b L xs) (dC : Nat → ClassId) (dI : Nat → Nat → Nat) (cI cL cB : ClassId) (ad : Nat → Nat) (hK : va_K (dC, dI) vCl [(cI, .int), (cL, .long), (cB, .object "CoinBag$Bag")] s) (hAm : sAm s.heap.size s) (i : Nat) (hi : i + 7 ≤ L) (hL : L ≤ 3584) (cells slots : Nat) (hc1 : cells + 1 ≤ room_1.cells ∧ slots + 6 ≤ room_1.slots) (K : lawK p l e s m below meth c b dC dI cI cL cB ad i (cells + 1) (slots + 6)) (w : Nat → va_E) (F : Nat → Int → Int64) (o : Nat → Int64) (t0 : Int32) (H : Heap) (locs : List Loc) (ls : Array Slot) (hC : sC ad cI cL cB w F) (hMM : sM ad cI cL w t0 F) (h51 : w 51 = .inl (cL, 1, .inr (.inl o))) (hZ : sZ (dC, dI) vCl 52 ad (fun q => s.heap.size ≤ q) s.heap w H locs) (hl : lv_has ls 8 [(4, .int (nI i)), (0, .ref b), (1, .ref (ad 0)), (2, .ref (ad 43)), (3, .ref (ad 51))]) : W p l e room_1 s m #[Value.ref b] below meth c H locs cells slots (lw_Z below #[Value.ref b] s) (F0 m 1351 ls []) := by
  obtain ⟨hx, hb, hr, hml, hown, hts0, hX, hbl, hlocks, hgv⟩ := id C0
  have hts := law_hts hts0
  have hN : s.heap.size ≤ s.heap.size := Nat.le_refl _
  have hbA : ¬ (fun q => s.heap.size ≤ q) b := Nat.not_le.mpr hbl
  have hc0 : cells + 0 ≤ room_1.cells ∧ slots + 0 ≤ room_1.slots := ⟨Nat.le_trans (Nat.le_succ _) hc1.1, Nat.le_trans (by omega) hc1.2⟩
  by_cases hB : okB (xs (i + 1)) ∧ okB (xs (i + 2))
  · skip
    obtain ⟨j1, hj1, ej1⟩ := okB_nat hB.1
    obtain ⟨j2, hj2, ej2⟩ := okB_nat hB.2
    refine lv_aload_n hx hb d_Law_law_1351 rfl (lv_at hl 2 rfl) ?_
    refine lv_aload_n hx hb d_Law_law_1352 rfl (lv_at hl 1 rfl) ?_
    refine lv_iload hx hb d_Law_law_1353 (lv_at hl 0 rfl) ?_
    refine lv_iconst (v := (nI 1)) hx hb d_Law_law_1355 rfl ?_
    refine lv_iadd hx hb d_Law_law_1356 ?_
    refine q_topi (y := nI (i + 1)) (nI_add _ _) ?_
    refine q_sld hx hb hX hbl hbA hZ.2.2 ((i + 1)) rfl (by omega) (by omega) d_Law_law_1357 ?_
    refine q_topi (y := nI j1) ej1 ?_
    refine lv_aload_n hx hb d_Law_law_1358 rfl (lv_at hl 1 rfl) ?_
    refine lv_iload hx hb d_Law_law_1359 (lv_at hl 0 rfl) ?_
    refine lv_iconst (v := (nI 2)) hx hb d_Law_law_1361 rfl ?_
    refine lv_iadd hx hb d_Law_law_1362 ?_
    refine q_topi (y := nI (i + 2)) (nI_add _ _) ?_
    refine q_sld hx hb hX hbl hbA hZ.2.2 ((i + 2)) rfl (by omega) (by omega) d_Law_law_1363 ?_
    refine q_topi (y := nI j2) ej2 ?_
    refine lv_aload_n hx hb d_Law_law_1364 rfl (lv_at hl 4 rfl) ?_
    refine q_calli (vx_runSW (As := [.ref (ad 0), .int (nI j1), .int (nI j2), .ref (ad 51)]) (rest := []) ⟨hx, hb, hml, hown, hts⟩ (c_Law_into l dC dI cI cL cB ad s.heap.size w F j1 j2 o hC hj1 hj2 h51) (vx_cwSW 4 hts (gI_S k_381 k_379 k_380 k_20) rfl rfl rfl (by decide +kernel) ⟨Nat.le_of_ble_eq_true rfl, Nat.le_of_ble_eq_true rfl⟩) (q_pre hK hAm hZ hN [.ref (ad 0), .int (nI j1), .int (nI j2), .ref (ad 51)]) rfl rfl hl.1 rfl (lv_room (Nat.le_of_ble_eq_true rfl)) d_Law_law_1365 hc0) hZ (fun r u_r H locs h_r hZ => ?_)
    obtain ⟨e_r, hkp, o2, h51, hres⟩ := h_r
    have hMM := sM_fr hMM (fun x h1 h2 => hkp x (by omega) (by omega))
    refine q_topi (y := nI 0) e_r ?_
    obtain ⟨hC, hres⟩ := hres
    refine lv_istore (lv' := [(5, .int (nI 0)), (4, .int (nI i)), (0, .ref b), (1, .ref (ad 0)), (2, .ref (ad 43)), (3, .ref (ad 51))]) hx hb d_Law_law_1368 hl (by decide) rfl (fun ls hl => ?_)
    refine lv_aload_n hx hb d_Law_law_1370 rfl (lv_at hl 4 rfl) ?_
    refine lv_aload_n hx hb d_Law_law_1371 rfl (lv_at hl 2 rfl) ?_
    refine lv_iload hx hb d_Law_law_1372 (lv_at hl 1 rfl) ?_
    refine lv_iconst (v := (nI 1)) hx hb d_Law_law_1374 rfl ?_
    refine lv_iadd hx hb d_Law_law_1375 ?_
    refine q_topi (y := nI (i + 1)) (nI_add _ _) ?_
    refine q_sld hx hb hX hbl hbA hZ.2.2 ((i + 1)) rfl (by omega) (by omega) d_Law_law_1376 ?_
    refine q_topi (y := nI j1) ej1 ?_
    refine lv_aload_n hx hb d_Law_law_1377 rfl (lv_at hl 2 rfl) ?_
    refine lv_iload hx hb d_Law_law_1378 (lv_at hl 1 rfl) ?_
    refine lv_iconst (v := (nI 2)) hx hb d_Law_law_1380 rfl ?_
    refine lv_iadd hx hb d_Law_law_1381 ?_
    refine q_topi (y := nI (i + 2)) (nI_add _ _) ?_
    refine q_sld hx hb hX hbl hbA hZ.2.2 ((i + 2)) rfl (by omega) (by omega) d_Law_law_1382 ?_
    refine q_topi (y := nI j2) ej2 ?_
    obtain ⟨fs43, h43⟩ := sM_43 hMM
    refine q_calll (va_runV (As := [.int (nI j1), .int (nI j2)]) (rest := []) ⟨hx, hb, hml, hown, hts⟩ (c_Mod_into l dC dI cI cL cB ad s.heap.size u_r t0 F j1 j2 hMM hj1 hj2) (cwV 2 hts (gI_V k_572 k_569 k_570 k_571 k_24) rfl rfl rfl (by decide +kernel) ⟨Nat.le_of_ble_eq_true rfl, Nat.le_of_ble_eq_true rfl⟩) (q_preV hK hAm hZ hN [.int (nI j1), .int (nI j2)] (43) 3 (by decide) h43 rfl) rfl rfl hl.1 rfl (lv_room (Nat.le_of_ble_eq_true rfl)) d_Law_law_1383 hc0) hZ (fun v u_v H locs h_v hZ => ?_)
    obtain ⟨hfr, hres2⟩ := h_v
    have h51 := (hfr 51 (by omega)).trans h51
    obtain ⟨hMM, hres2⟩ := hres2
    have hC := sC_fr hC (fun x hx => hfr x (by omega))
    refine lv_lstore (lv' := [(6, .long v), (5, .int (nI 0)), (4, .int (nI i)), (0, .ref b), (1, .ref (ad 0)), (2, .ref (ad 43)), (3, .ref (ad 51))]) hx hb d_Law_law_1386 hl (by decide) rfl (fun ls hl => ?_)
    refine lv_aload_n hx hb d_Law_law_1388 rfl (lv_at hl 5 rfl) ?_
    obtain ⟨fs43, h43⟩ := sM_43 hMM
    refine q_calli (va_runV (As := []) (rest := []) ⟨hx, hb, hml, hown, hts⟩ (c_Mod_thrown l dC dI cI cL cB ad s.heap.size u_v _ _ hMM) (cwV 0 hts (gI_V k_454 k_451 k_452 k_453 k_24) rfl rfl rfl (by decide +kernel) ⟨Nat.le_of_ble_eq_true rfl, Nat.le_of_ble_eq_true rfl⟩) (q_preV hK hAm hZ hN [] (43) 3 (by decide) h43 rfl) rfl rfl hl.1 rfl (lv_room (Nat.le_of_ble_eq_true rfl)) d_Law_law_1389 hc0) hZ (fun th u_th H locs h_th hZ => ?_)
    obtain ⟨e_th, e_t⟩ := h_th
    rw [e_th] at hZ
    refine q_topi (y := nI 0) e_t ?_
    refine lv_iload hx hb d_Law_law_1392 (lv_at hl 1 rfl) ?_
    refine lv_icmp_eq (tgt := 1399) hx hb d_Law_law_1394 (by decide) (fun h1394 => ?_) (fun h1394 => ?_)
    · skip
      have h1394 : 0 = 0 := (nI_eq (a := 0) (b := 0) (by omega) (by omega)).mp h1394
      refine lv_iload hx hb d_Law_law_1399 (lv_at hl 1 rfl) ?_
      refine lv_if_ne (tgt := 1415) hx hb d_Law_law_1401 (by decide) (fun h1401 => ?_) (fun h1401 => ?_)
      · skip
        have h1401 : ¬ 0 = 0 := fun z9 => h1401 ((nI_eq (a := 0) (b := 0) (by omega) (by omega)).mpr z9)
        exact absurd h1401 (by decide)
      · skip
        have h1401 : 0 = 0 := (nI_eq (a := 0) (b := 0) (by omega) (by omega)).mp h1401
        refine lv_aload_n hx hb d_Law_law_1404 rfl (lv_at hl 6 rfl) ?_
        refine lv_iconst (v := (nI 0)) hx hb d_Law_law_1405 rfl ?_
        refine q_lald hx hb hK hZ (51) 1 (0) (by decide) h51 rfl rfl (by omega) (by decide) d_Law_law_1406 ?_
        refine lv_lload hx hb d_Law_law_1407 (lv_at hl 0 rfl) ?_
        refine W.lcmp hx hb d_Law_law_1409 ?_
        refine lv_if_eq (tgt := 1415) hx hb d_Law_law_1410 (by decide) (fun h1410 => ?_) (fun h1410 => ?_)
        · skip
          rw [lg_cmp_eq] at h1410
          refine lv_goto (tgt := 1486) hx hb d_Law_law_1415 (by decide) ?_
          refine W.widen (k := cells + 1) (n := slots + 6) (by omega) (by omega) ?_
          exact K _ _ _ _ _ _ _ hC hMM h51 hZ (lv_sub hl [2, 3, 4, 5, 6] rfl)
        · skip
          rw [lg_cmp_eq] at h1410
          exact absurd (iR_eq hres hres2) h1410
    · skip
      have h1394 : ¬ 0 = 0 := fun z9 => h1394 ((nI_eq (a := 0) (b := 0) (by omega) (by omega)).mpr z9)
      exact absurd h1394 (by decide)
  · skip
    refine lv_aload_n hx hb d_Law_law_1351 rfl (lv_at hl 2 rfl) ?_
    refine lv_aload_n hx hb d_Law_law_1352 rfl (lv_at hl 1 rfl) ?_
    refine lv_iload hx hb d_Law_law_1353 (lv_at hl 0 rfl) ?_
    refine lv_iconst (v := (nI 1)) hx hb d_Law_law_1355 rfl ?_
    refine lv_iadd hx hb d_Law_law_1356 ?_
    refine q_topi (y := nI (i + 1)) (nI_add _ _) ?_
    refine q_sld hx hb hX hbl hbA hZ.2.2 ((i + 1)) rfl (by omega) (by omega) d_Law_law_1357 ?_
    refine lv_aload_n hx hb d_Law_law_1358 rfl (lv_at hl 1 rfl) ?_
    refine lv_iload hx hb d_Law_law_1359 (lv_at hl 0 rfl) ?_
    refine lv_iconst (v := (nI 2)) hx hb d_Law_law_1361 rfl ?_
    refine lv_iadd hx hb d_Law_law_1362 ?_
    refine q_topi (y := nI (i + 2)) (nI_add _ _) ?_
    refine q_sld hx hb hX hbl hbA hZ.2.2 ((i + 2)) rfl (by omega) (by omega) d_Law_law_1363 ?_
    refine lv_aload_n hx hb d_Law_law_1364 rfl (lv_at hl 4 rfl) ?_
    refine q_calliX (vx_runSW (As := [.ref (ad 0), .int (xs (i + 1)), .int (xs (i + 2)), .ref (ad 51)]) (rest := []) ⟨hx, hb, hml, hown, hts⟩ (xb_Law_into l hfl dC dI cI cL cB ad s.heap.size w (xs (i + 1)) (xs (i + 2)) (sC_0 hC) hB) (vx_cwSW 4 hts (gI_S k_381 k_379 k_380 k_20) rfl rfl rfl (by decide +kernel) ⟨Nat.le_of_ble_eq_true rfl, Nat.le_of_ble_eq_true rfl⟩) (q_pre hK hAm hZ hN [.ref (ad 0), .int (xs (i + 1)), .int (xs (i + 2)), .ref (ad 51)]) rfl rfl hl.1 rfl (lv_room (Nat.le_of_ble_eq_true rfl)) d_Law_law_1365 hc1) hZ (fun r u_r H locs h_r hZ => ?_)
    obtain ⟨e_r, e_u⟩ := h_r
    rw [e_u] at hZ
    refine q_topi (y := nI 1) e_r ?_
    refine lv_istore (lv' := [(5, .int (nI 1)), (4, .int (nI i)), (0, .ref b), (1, .ref (ad 0)), (2, .ref (ad 43)), (3, .ref (ad 51))]) hx hb d_Law_law_1368 hl (by decide) rfl (fun ls hl => ?_)
    refine lv_aload_n hx hb d_Law_law_1370 rfl (lv_at hl 4 rfl) ?_
    refine lv_aload_n hx hb d_Law_law_1371 rfl (lv_at hl 2 rfl) ?_
    refine lv_iload hx hb d_Law_law_1372 (lv_at hl 1 rfl) ?_
    refine lv_iconst (v := (nI 1)) hx hb d_Law_law_1374 rfl ?_
    refine lv_iadd hx hb d_Law_law_1375 ?_
    refine q_topi (y := nI (i + 1)) (nI_add _ _) ?_
    refine q_sld hx hb hX hbl hbA hZ.2.2 ((i + 1)) rfl (by omega) (by omega) d_Law_law_1376 ?_
    refine lv_aload_n hx hb d_Law_law_1377 rfl (lv_at hl 2 rfl) ?_
    refine lv_iload hx hb d_Law_law_1378 (lv_at hl 1 rfl) ?_
    refine lv_iconst (v := (nI 2)) hx hb d_Law_law_1380 rfl ?_
    refine lv_iadd hx hb d_Law_law_1381 ?_
    refine q_topi (y := nI (i + 2)) (nI_add _ _) ?_
    refine q_sld hx hb hX hbl hbA hZ.2.2 ((i + 2)) rfl (by omega) (by omega) d_Law_law_1382 ?_
    obtain ⟨fs43, h43⟩ := sM_43 hMM
    refine q_calll (va_runV (As := [.int (xs (i + 1)), .int (xs (i + 2))]) (rest := []) ⟨hx, hb, hml, hown, hts⟩ (x_Mod_into l dC dI cI cL cB ad s.heap.size w t0 F (xs (i + 1)) (xs (i + 2)) (nI 1) hMM (Or.inl ⟨fun z => hB ⟨z.1, z.2.1⟩, rfl⟩)) (cwV 2 hts (gI_V k_572 k_569 k_570 k_571 k_24) rfl rfl rfl (by decide +kernel) ⟨Nat.le_of_ble_eq_true rfl, Nat.le_of_ble_eq_true rfl⟩) (q_preV hK hAm hZ hN [.int (xs (i + 1)), .int (xs (i + 2))] (43) 3 (by decide) h43 rfl) rfl rfl hl.1 rfl (lv_room (Nat.le_of_ble_eq_true rfl)) d_Law_law_1383 hc1) hZ (fun v u_v H locs h_v hZ => ?_)
    obtain ⟨hfr, hres2⟩ := h_v
    have h51 := (hfr 51 (by omega)).trans h51
    have hMM := hres2
    have hC := sC_fr hC (fun x hx => hfr x (by omega))
    refine lv_lstore (lv' := [(6, .long v), (5, .int (nI 1)), (4, .int (nI i)), (0, .ref b), (1, .ref (ad 0)), (2, .ref (ad 43)), (3, .ref (ad 51))]) hx hb d_Law_law_1386 hl (by decide) rfl (fun ls hl => ?_)
    refine lv_aload_n hx hb d_Law_law_1388 rfl (lv_at hl 5 rfl) ?_
    obtain ⟨fs43, h43⟩ := sM_43 hMM
    refine q_calli (va_runV (As := []) (rest := []) ⟨hx, hb, hml, hown, hts⟩ (c_Mod_thrown l dC dI cI cL cB ad s.heap.size u_v _ _ hMM) (cwV 0 hts (gI_V k_454 k_451 k_452 k_453 k_24) rfl rfl rfl (by decide +kernel) ⟨Nat.le_of_ble_eq_true rfl, Nat.le_of_ble_eq_true rfl⟩) (q_preV hK hAm hZ hN [] (43) 3 (by decide) h43 rfl) rfl rfl hl.1 rfl (lv_room (Nat.le_of_ble_eq_true rfl)) d_Law_law_1389 hc1) hZ (fun th u_th H locs h_th hZ => ?_)
    obtain ⟨e_th, e_t⟩ := h_th
    rw [e_th] at hZ
    refine q_topi (y := nI 1) e_t ?_
    refine lv_iload hx hb d_Law_law_1392 (lv_at hl 1 rfl) ?_
    refine lv_icmp_eq (tgt := 1399) hx hb d_Law_law_1394 (by decide) (fun h1394 => ?_) (fun h1394 => ?_)
    · skip
      have h1394 : 1 = 1 := (nI_eq (a := 1) (b := 1) (by omega) (by omega)).mp h1394
      refine lv_iload hx hb d_Law_law_1399 (lv_at hl 1 rfl) ?_
      refine lv_if_ne (tgt := 1415) hx hb d_Law_law_1401 (by decide) (fun h1401 => ?_) (fun h1401 => ?_)
      · skip
        have h1401 : ¬ 1 = 0 := fun z9 => h1401 ((nI_eq (a := 1) (b := 0) (by omega) (by omega)).mpr z9)
        refine lv_goto (tgt := 1486) hx hb d_Law_law_1415 (by decide) ?_
        exact K _ _ _ _ _ _ _ hC hMM h51 hZ (lv_sub hl [2, 3, 4, 5, 6] rfl)
      · skip
        have h1401 : 1 = 0 := (nI_eq (a := 1) (b := 0) (by omega) (by omega)).mp h1401
        exact absurd h1401 (by decide)
    · skip
      have h1394 : ¬ 1 = 1 := fun z9 => h1394 ((nI_eq (a := 1) (b := 1) (by omega) (by omega)).mpr z9)
      exact absurd h1394 (by decide)
set_option maxHeartbeats 4000000 in
set_option maxRecDepth 100000 in
/-- size -/
theorem law_9 {p : Program} {e : Env} {s : State} {m : MethodId} {below : List Frame} {meth : Method} {c : Code} (l : Launch) (hfl : l.stackTraces = false) {b L : Nat} {xs : Nat → Int32} (C0 : lw_At p s m meth c b L xs) (dC : Nat → ClassId) (dI : Nat → Nat → Nat) (cI cL cB : ClassId) (ad : Nat → Nat) (hK : va_K (dC, dI) vCl [(cI, .int), (cL, .long), (cB, .object "CoinBag$Bag")] s) (hAm : sAm s.heap.size s) (i : Nat) (hi : i + 7 ≤ L) (hL : L ≤ 3584) (cells slots : Nat) (hc1 : cells + 1 ≤ room_1.cells ∧ slots + 6 ≤ room_1.slots) (K : lawK p l e s m below meth c b dC dI cI cL cB ad i (cells + 1) (slots + 6)) (w : Nat → va_E) (F : Nat → Int → Int64) (o : Nat → Int64) (t0 : Int32) (H : Heap) (locs : List Loc) (ls : Array Slot) (hC : sC ad cI cL cB w F) (hMM : sM ad cI cL w t0 F) (h51 : w 51 = .inl (cL, 1, .inr (.inl o))) (hZ : sZ (dC, dI) vCl 52 ad (fun q => s.heap.size ≤ q) s.heap w H locs) (hl : lv_has ls 8 [(4, .int (nI i)), (0, .ref b), (1, .ref (ad 0)), (2, .ref (ad 43)), (3, .ref (ad 51))]) : W p l e room_1 s m #[Value.ref b] below meth c H locs cells slots (lw_Z below #[Value.ref b] s) (F0 m 1061 ls []) := by
  obtain ⟨hx, hb, hr, hml, hown, hts0, hX, hbl, hlocks, hgv⟩ := id C0
  have hts := law_hts hts0
  have hN : s.heap.size ≤ s.heap.size := Nat.le_refl _
  have hbA : ¬ (fun q => s.heap.size ≤ q) b := Nat.not_le.mpr hbl
  have hc0 : cells + 0 ≤ room_1.cells ∧ slots + 0 ≤ room_1.slots := ⟨Nat.le_trans (Nat.le_succ _) hc1.1, Nat.le_trans (by omega) hc1.2⟩
  by_cases hB : okB (xs (i + 1))
  · skip
    obtain ⟨j1, hj1, ej1⟩ := okB_nat hB
    refine lv_aload_n hx hb d_Law_law_1061 rfl (lv_at hl 2 rfl) ?_
    refine lv_aload_n hx hb d_Law_law_1062 rfl (lv_at hl 1 rfl) ?_
    refine lv_iload hx hb d_Law_law_1063 (lv_at hl 0 rfl) ?_
    refine lv_iconst (v := (nI 1)) hx hb d_Law_law_1065 rfl ?_
    refine lv_iadd hx hb d_Law_law_1066 ?_
    refine q_topi (y := nI (i + 1)) (nI_add _ _) ?_
    refine q_sld hx hb hX hbl hbA hZ.2.2 ((i + 1)) rfl (by omega) (by omega) d_Law_law_1067 ?_
    refine q_topi (y := nI j1) ej1 ?_
    refine lv_aload_n hx hb d_Law_law_1068 rfl (lv_at hl 4 rfl) ?_
    refine q_calli (vx_runSW (As := [.ref (ad 0), .int (nI j1), .ref (ad 51)]) (rest := []) ⟨hx, hb, hml, hown, hts⟩ (c_Law_size l dC dI cI cL cB ad s.heap.size w F j1 o hC hj1 h51) (vx_cwSW 3 hts (gI_S k_351 k_349 k_350 k_20) rfl rfl rfl (by decide +kernel) ⟨Nat.le_of_ble_eq_true rfl, Nat.le_of_ble_eq_true rfl⟩) (q_pre hK hAm hZ hN [.ref (ad 0), .int (nI j1), .ref (ad 51)]) rfl rfl hl.1 rfl (lv_room (Nat.le_of_ble_eq_true rfl)) d_Law_law_1069 hc0) hZ (fun r u_r H locs h_r hZ => ?_)
    obtain ⟨e_r, hkp, o2, h51, hres⟩ := h_r
    have hMM := sM_fr hMM (fun x h1 h2 => hkp x (by omega) (by omega))
    refine q_topi (y := nI 0) e_r ?_
    obtain ⟨hC, hres⟩ := hres
    refine lv_istore (lv' := [(5, .int (nI 0)), (4, .int (nI i)), (0, .ref b), (1, .ref (ad 0)), (2, .ref (ad 43)), (3, .ref (ad 51))]) hx hb d_Law_law_1072 hl (by decide) rfl (fun ls hl => ?_)
    refine lv_aload_n hx hb d_Law_law_1074 rfl (lv_at hl 4 rfl) ?_
    refine lv_aload_n hx hb d_Law_law_1075 rfl (lv_at hl 2 rfl) ?_
    refine lv_iload hx hb d_Law_law_1076 (lv_at hl 1 rfl) ?_
    refine lv_iconst (v := (nI 1)) hx hb d_Law_law_1078 rfl ?_
    refine lv_iadd hx hb d_Law_law_1079 ?_
    refine q_topi (y := nI (i + 1)) (nI_add _ _) ?_
    refine q_sld hx hb hX hbl hbA hZ.2.2 ((i + 1)) rfl (by omega) (by omega) d_Law_law_1080 ?_
    refine q_topi (y := nI j1) ej1 ?_
    obtain ⟨fs43, h43⟩ := sM_43 hMM
    refine q_calli (va_runV (As := [.int (nI j1)]) (rest := []) ⟨hx, hb, hml, hown, hts⟩ (c_Mod_size l dC dI cI cL cB ad s.heap.size u_r t0 F j1 hMM hj1) (cwV 1 hts (gI_V k_552 k_549 k_550 k_551 k_24) rfl rfl rfl (by decide +kernel) ⟨Nat.le_of_ble_eq_true rfl, Nat.le_of_ble_eq_true rfl⟩) (q_preV hK hAm hZ hN [.int (nI j1)] (43) 3 (by decide) h43 rfl) rfl rfl hl.1 rfl (lv_room (Nat.le_of_ble_eq_true rfl)) d_Law_law_1081 hc0) hZ (fun v u_v H locs h_v hZ => ?_)
    obtain ⟨hfr, hres2⟩ := h_v
    have h51 := (hfr 51 (by omega)).trans h51
    obtain ⟨hMM, hres2⟩ := hres2
    have hC := sC_fr hC (fun x hx => hfr x (by omega))
    refine lv_istore (lv' := [(6, .int v), (5, .int (nI 0)), (4, .int (nI i)), (0, .ref b), (1, .ref (ad 0)), (2, .ref (ad 43)), (3, .ref (ad 51))]) hx hb d_Law_law_1084 hl (by decide) rfl (fun ls hl => ?_)
    refine lv_aload_n hx hb d_Law_law_1086 rfl (lv_at hl 5 rfl) ?_
    obtain ⟨fs43, h43⟩ := sM_43 hMM
    refine q_calli (va_runV (As := []) (rest := []) ⟨hx, hb, hml, hown, hts⟩ (c_Mod_thrown l dC dI cI cL cB ad s.heap.size u_v _ _ hMM) (cwV 0 hts (gI_V k_454 k_451 k_452 k_453 k_24) rfl rfl rfl (by decide +kernel) ⟨Nat.le_of_ble_eq_true rfl, Nat.le_of_ble_eq_true rfl⟩) (q_preV hK hAm hZ hN [] (43) 3 (by decide) h43 rfl) rfl rfl hl.1 rfl (lv_room (Nat.le_of_ble_eq_true rfl)) d_Law_law_1087 hc0) hZ (fun th u_th H locs h_th hZ => ?_)
    obtain ⟨e_th, e_t⟩ := h_th
    rw [e_th] at hZ
    refine q_topi (y := nI 0) e_t ?_
    refine lv_iload hx hb d_Law_law_1090 (lv_at hl 1 rfl) ?_
    refine lv_icmp_eq (tgt := 1097) hx hb d_Law_law_1092 (by decide) (fun h1092 => ?_) (fun h1092 => ?_)
    · skip
      have h1092 : 0 = 0 := (nI_eq (a := 0) (b := 0) (by omega) (by omega)).mp h1092
      refine lv_iload hx hb d_Law_law_1097 (lv_at hl 1 rfl) ?_
      refine lv_if_ne (tgt := 1114) hx hb d_Law_law_1099 (by decide) (fun h1099 => ?_) (fun h1099 => ?_)
      · skip
        have h1099 : ¬ 0 = 0 := fun z9 => h1099 ((nI_eq (a := 0) (b := 0) (by omega) (by omega)).mpr z9)
        exact absurd h1099 (by decide)
      · skip
        have h1099 : 0 = 0 := (nI_eq (a := 0) (b := 0) (by omega) (by omega)).mp h1099
        refine lv_aload_n hx hb d_Law_law_1102 rfl (lv_at hl 6 rfl) ?_
        refine lv_iconst (v := (nI 0)) hx hb d_Law_law_1103 rfl ?_
        refine q_lald hx hb hK hZ (51) 1 (0) (by decide) h51 rfl rfl (by omega) (by decide) d_Law_law_1104 ?_
        refine lv_iload hx hb d_Law_law_1105 (lv_at hl 0 rfl) ?_
        refine lv_i2l (v := v.toInt64) hx hb d_Law_law_1107 rfl ?_
        refine W.lcmp hx hb d_Law_law_1108 ?_
        refine lv_if_eq (tgt := 1114) hx hb d_Law_law_1109 (by decide) (fun h1109 => ?_) (fun h1109 => ?_)
        · skip
          rw [lg_cmp_eq] at h1109
          refine lv_goto (tgt := 1486) hx hb d_Law_law_1114 (by decide) ?_
          refine W.widen (k := cells + 1) (n := slots + 6) (by omega) (by omega) ?_
          exact K _ _ _ _ _ _ _ hC hMM h51 hZ (lv_sub hl [2, 3, 4, 5, 6] rfl)
        · skip
          rw [lg_cmp_eq] at h1109
          exact absurd (by obtain ⟨za, ka, q1, q2, q3, q4⟩ := hres; obtain ⟨zb, kb, p1, p2, p3, p4⟩ := hres2; rw [q1, p1, card_eq (eS_I q3) q4 p3 p4]) h1109
    · skip
      have h1092 : ¬ 0 = 0 := fun z9 => h1092 ((nI_eq (a := 0) (b := 0) (by omega) (by omega)).mpr z9)
      exact absurd h1092 (by decide)
  · skip
    refine lv_aload_n hx hb d_Law_law_1061 rfl (lv_at hl 2 rfl) ?_
    refine lv_aload_n hx hb d_Law_law_1062 rfl (lv_at hl 1 rfl) ?_
    refine lv_iload hx hb d_Law_law_1063 (lv_at hl 0 rfl) ?_
    refine lv_iconst (v := (nI 1)) hx hb d_Law_law_1065 rfl ?_
    refine lv_iadd hx hb d_Law_law_1066 ?_
    refine q_topi (y := nI (i + 1)) (nI_add _ _) ?_
    refine q_sld hx hb hX hbl hbA hZ.2.2 ((i + 1)) rfl (by omega) (by omega) d_Law_law_1067 ?_
    refine lv_aload_n hx hb d_Law_law_1068 rfl (lv_at hl 4 rfl) ?_
    refine q_calliX (vx_runSW (As := [.ref (ad 0), .int (xs (i + 1)), .ref (ad 51)]) (rest := []) ⟨hx, hb, hml, hown, hts⟩ (xb_Law_size l hfl dC dI cI cL cB ad s.heap.size w (xs (i + 1)) (sC_0 hC) hB) (vx_cwSW 3 hts (gI_S k_351 k_349 k_350 k_20) rfl rfl rfl (by decide +kernel) ⟨Nat.le_of_ble_eq_true rfl, Nat.le_of_ble_eq_true rfl⟩) (q_pre hK hAm hZ hN [.ref (ad 0), .int (xs (i + 1)), .ref (ad 51)]) rfl rfl hl.1 rfl (lv_room (Nat.le_of_ble_eq_true rfl)) d_Law_law_1069 hc1) hZ (fun r u_r H locs h_r hZ => ?_)
    obtain ⟨e_r, e_u⟩ := h_r
    rw [e_u] at hZ
    refine q_topi (y := nI 1) e_r ?_
    refine lv_istore (lv' := [(5, .int (nI 1)), (4, .int (nI i)), (0, .ref b), (1, .ref (ad 0)), (2, .ref (ad 43)), (3, .ref (ad 51))]) hx hb d_Law_law_1072 hl (by decide) rfl (fun ls hl => ?_)
    refine lv_aload_n hx hb d_Law_law_1074 rfl (lv_at hl 4 rfl) ?_
    refine lv_aload_n hx hb d_Law_law_1075 rfl (lv_at hl 2 rfl) ?_
    refine lv_iload hx hb d_Law_law_1076 (lv_at hl 1 rfl) ?_
    refine lv_iconst (v := (nI 1)) hx hb d_Law_law_1078 rfl ?_
    refine lv_iadd hx hb d_Law_law_1079 ?_
    refine q_topi (y := nI (i + 1)) (nI_add _ _) ?_
    refine q_sld hx hb hX hbl hbA hZ.2.2 ((i + 1)) rfl (by omega) (by omega) d_Law_law_1080 ?_
    obtain ⟨fs43, h43⟩ := sM_43 hMM
    refine q_calli (va_runV (As := [.int (xs (i + 1))]) (rest := []) ⟨hx, hb, hml, hown, hts⟩ (x_Mod_size l dC dI cI cL cB ad s.heap.size w t0 F (xs (i + 1)) hMM hB) (cwV 1 hts (gI_V k_552 k_549 k_550 k_551 k_24) rfl rfl rfl (by decide +kernel) ⟨Nat.le_of_ble_eq_true rfl, Nat.le_of_ble_eq_true rfl⟩) (q_preV hK hAm hZ hN [.int (xs (i + 1))] (43) 3 (by decide) h43 rfl) rfl rfl hl.1 rfl (lv_room (Nat.le_of_ble_eq_true rfl)) d_Law_law_1081 hc1) hZ (fun v u_v H locs h_v hZ => ?_)
    obtain ⟨hfr, hres2⟩ := h_v
    have h51 := (hfr 51 (by omega)).trans h51
    have hMM := hres2
    have hC := sC_fr hC (fun x hx => hfr x (by omega))
    refine lv_istore (lv' := [(6, .int v), (5, .int (nI 1)), (4, .int (nI i)), (0, .ref b), (1, .ref (ad 0)), (2, .ref (ad 43)), (3, .ref (ad 51))]) hx hb d_Law_law_1084 hl (by decide) rfl (fun ls hl => ?_)
    refine lv_aload_n hx hb d_Law_law_1086 rfl (lv_at hl 5 rfl) ?_
    obtain ⟨fs43, h43⟩ := sM_43 hMM
    refine q_calli (va_runV (As := []) (rest := []) ⟨hx, hb, hml, hown, hts⟩ (c_Mod_thrown l dC dI cI cL cB ad s.heap.size u_v _ _ hMM) (cwV 0 hts (gI_V k_454 k_451 k_452 k_453 k_24) rfl rfl rfl (by decide +kernel) ⟨Nat.le_of_ble_eq_true rfl, Nat.le_of_ble_eq_true rfl⟩) (q_preV hK hAm hZ hN [] (43) 3 (by decide) h43 rfl) rfl rfl hl.1 rfl (lv_room (Nat.le_of_ble_eq_true rfl)) d_Law_law_1087 hc1) hZ (fun th u_th H locs h_th hZ => ?_)
    obtain ⟨e_th, e_t⟩ := h_th
    rw [e_th] at hZ
    refine q_topi (y := nI 1) e_t ?_
    refine lv_iload hx hb d_Law_law_1090 (lv_at hl 1 rfl) ?_
    refine lv_icmp_eq (tgt := 1097) hx hb d_Law_law_1092 (by decide) (fun h1092 => ?_) (fun h1092 => ?_)
    · skip
      have h1092 : 1 = 1 := (nI_eq (a := 1) (b := 1) (by omega) (by omega)).mp h1092
      refine lv_iload hx hb d_Law_law_1097 (lv_at hl 1 rfl) ?_
      refine lv_if_ne (tgt := 1114) hx hb d_Law_law_1099 (by decide) (fun h1099 => ?_) (fun h1099 => ?_)
      · skip
        have h1099 : ¬ 1 = 0 := fun z9 => h1099 ((nI_eq (a := 1) (b := 0) (by omega) (by omega)).mpr z9)
        refine lv_goto (tgt := 1486) hx hb d_Law_law_1114 (by decide) ?_
        exact K _ _ _ _ _ _ _ hC hMM h51 hZ (lv_sub hl [2, 3, 4, 5, 6] rfl)
      · skip
        have h1099 : 1 = 0 := (nI_eq (a := 1) (b := 0) (by omega) (by omega)).mp h1099
        exact absurd h1099 (by decide)
    · skip
      have h1092 : ¬ 1 = 1 := fun z9 => h1092 ((nI_eq (a := 1) (b := 1) (by omega) (by omega)).mpr z9)
      exact absurd h1092 (by decide)
set_option maxHeartbeats 4000000 in
set_option maxRecDepth 100000 in
/-- clear -/
theorem law_7 {p : Program} {e : Env} {s : State} {m : MethodId} {below : List Frame} {meth : Method} {c : Code} (l : Launch) (hfl : l.stackTraces = false) {b L : Nat} {xs : Nat → Int32} (C0 : lw_At p s m meth c b L xs) (dC : Nat → ClassId) (dI : Nat → Nat → Nat) (cI cL cB : ClassId) (ad : Nat → Nat) (hK : va_K (dC, dI) vCl [(cI, .int), (cL, .long), (cB, .object "CoinBag$Bag")] s) (hAm : sAm s.heap.size s) (i : Nat) (hi : i + 7 ≤ L) (hL : L ≤ 3584) (cells slots : Nat) (hc1 : cells + 1 ≤ room_1.cells ∧ slots + 6 ≤ room_1.slots) (K : lawK p l e s m below meth c b dC dI cI cL cB ad i (cells + 1) (slots + 6)) (w : Nat → va_E) (F : Nat → Int → Int64) (o : Nat → Int64) (t0 : Int32) (H : Heap) (locs : List Loc) (ls : Array Slot) (hC : sC ad cI cL cB w F) (hMM : sM ad cI cL w t0 F) (h51 : w 51 = .inl (cL, 1, .inr (.inl o))) (hZ : sZ (dC, dI) vCl 52 ad (fun q => s.heap.size ≤ q) s.heap w H locs) (hl : lv_has ls 8 [(4, .int (nI i)), (0, .ref b), (1, .ref (ad 0)), (2, .ref (ad 43)), (3, .ref (ad 51))]) : W p l e room_1 s m #[Value.ref b] below meth c H locs cells slots (lw_Z below #[Value.ref b] s) (F0 m 914 ls []) := by
  obtain ⟨hx, hb, hr, hml, hown, hts0, hX, hbl, hlocks, hgv⟩ := id C0
  have hts := law_hts hts0
  have hN : s.heap.size ≤ s.heap.size := Nat.le_refl _
  have hbA : ¬ (fun q => s.heap.size ≤ q) b := Nat.not_le.mpr hbl
  have hc0 : cells + 0 ≤ room_1.cells ∧ slots + 0 ≤ room_1.slots := ⟨Nat.le_trans (Nat.le_succ _) hc1.1, Nat.le_trans (by omega) hc1.2⟩
  by_cases hB : okB (xs (i + 1))
  · skip
    obtain ⟨j1, hj1, ej1⟩ := okB_nat hB
    refine lv_aload_n hx hb d_Law_law_914 rfl (lv_at hl 2 rfl) ?_
    refine lv_aload_n hx hb d_Law_law_915 rfl (lv_at hl 1 rfl) ?_
    refine lv_iload hx hb d_Law_law_916 (lv_at hl 0 rfl) ?_
    refine lv_iconst (v := (nI 1)) hx hb d_Law_law_918 rfl ?_
    refine lv_iadd hx hb d_Law_law_919 ?_
    refine q_topi (y := nI (i + 1)) (nI_add _ _) ?_
    refine q_sld hx hb hX hbl hbA hZ.2.2 ((i + 1)) rfl (by omega) (by omega) d_Law_law_920 ?_
    refine q_topi (y := nI j1) ej1 ?_
    refine q_calli (vx_runSW (As := [.ref (ad 0), .int (nI j1)]) (rest := []) ⟨hx, hb, hml, hown, hts⟩ (c_Law_clear l dC dI cI cL cB ad s.heap.size w F j1 hC hj1) (vx_cwSW 2 hts (gI_S k_337 k_335 k_336 k_20) rfl rfl rfl (by decide +kernel) ⟨Nat.le_of_ble_eq_true rfl, Nat.le_of_ble_eq_true rfl⟩) (q_pre hK hAm hZ hN [.ref (ad 0), .int (nI j1)]) rfl rfl hl.1 rfl (lv_room (Nat.le_of_ble_eq_true rfl)) d_Law_law_921 hc0) hZ (fun r u_r H locs h_r hZ => ?_)
    obtain ⟨e_r, hkp, hC⟩ := h_r
    have hMM := sM_fr hMM (fun x h1 h2 => hkp x (by omega))
    have h51 := (hkp 51 (by omega)).trans h51
    refine q_topi (y := nI 0) e_r ?_
    refine lv_istore (lv' := [(5, .int (nI 0)), (4, .int (nI i)), (0, .ref b), (1, .ref (ad 0)), (2, .ref (ad 43)), (3, .ref (ad 51))]) hx hb d_Law_law_924 hl (by decide) rfl (fun ls hl => ?_)
    refine lv_aload_n hx hb d_Law_law_926 rfl (lv_at hl 4 rfl) ?_
    refine lv_aload_n hx hb d_Law_law_927 rfl (lv_at hl 2 rfl) ?_
    refine lv_iload hx hb d_Law_law_928 (lv_at hl 1 rfl) ?_
    refine lv_iconst (v := (nI 1)) hx hb d_Law_law_930 rfl ?_
    refine lv_iadd hx hb d_Law_law_931 ?_
    refine q_topi (y := nI (i + 1)) (nI_add _ _) ?_
    refine q_sld hx hb hX hbl hbA hZ.2.2 ((i + 1)) rfl (by omega) (by omega) d_Law_law_932 ?_
    refine q_topi (y := nI j1) ej1 ?_
    obtain ⟨fs43, h43⟩ := sM_43 hMM
    refine q_callv (va_runV (As := [.int (nI j1)]) (rest := []) ⟨hx, hb, hml, hown, hts⟩ (c_Mod_clear l dC dI cI cL cB ad s.heap.size u_r t0 F j1 hMM hj1) (cwV 1 hts (gI_V k_540 k_537 k_538 k_539 k_24) rfl rfl rfl (by decide +kernel) ⟨Nat.le_of_ble_eq_true rfl, Nat.le_of_ble_eq_true rfl⟩) (q_preV hK hAm hZ hN [.int (nI j1)] (43) 3 (by decide) h43 rfl) rfl rfl hl.1 rfl (lv_room (Nat.le_of_ble_eq_true rfl)) d_Law_law_933 hc0) hZ (fun u_v H locs h_v hZ => ?_)
    obtain ⟨hfr, hres2⟩ := h_v
    have h51 := (hfr 51 (by omega)).trans h51
    have hMM := hres2
    have hC := sC_fr hC (fun x hx => hfr x (by omega))
    refine lv_aload_n hx hb d_Law_law_936 rfl (lv_at hl 4 rfl) ?_
    obtain ⟨fs43, h43⟩ := sM_43 hMM
    refine q_calli (va_runV (As := []) (rest := []) ⟨hx, hb, hml, hown, hts⟩ (c_Mod_thrown l dC dI cI cL cB ad s.heap.size u_v _ _ hMM) (cwV 0 hts (gI_V k_454 k_451 k_452 k_453 k_24) rfl rfl rfl (by decide +kernel) ⟨Nat.le_of_ble_eq_true rfl, Nat.le_of_ble_eq_true rfl⟩) (q_preV hK hAm hZ hN [] (43) 3 (by decide) h43 rfl) rfl rfl hl.1 rfl (lv_room (Nat.le_of_ble_eq_true rfl)) d_Law_law_937 hc0) hZ (fun th u_th H locs h_th hZ => ?_)
    obtain ⟨e_th, e_t⟩ := h_th
    rw [e_th] at hZ
    refine q_topi (y := nI 0) e_t ?_
    refine lv_iload hx hb d_Law_law_940 (lv_at hl 0 rfl) ?_
    refine lv_icmp_eq (tgt := 947) hx hb d_Law_law_942 (by decide) (fun h942 => ?_) (fun h942 => ?_)
    · skip
      have h942 : 0 = 0 := (nI_eq (a := 0) (b := 0) (by omega) (by omega)).mp h942
      refine lv_goto (tgt := 1486) hx hb d_Law_law_947 (by decide) ?_
      refine W.widen (k := cells + 1) (n := slots + 6) (by omega) (by omega) ?_
      exact K _ _ _ _ _ _ _ hC hMM h51 hZ (lv_sub hl [1, 2, 3, 4, 5] rfl)
    · skip
      have h942 : ¬ 0 = 0 := fun z9 => h942 ((nI_eq (a := 0) (b := 0) (by omega) (by omega)).mpr z9)
      exact absurd h942 (by decide)
  · skip
    refine lv_aload_n hx hb d_Law_law_914 rfl (lv_at hl 2 rfl) ?_
    refine lv_aload_n hx hb d_Law_law_915 rfl (lv_at hl 1 rfl) ?_
    refine lv_iload hx hb d_Law_law_916 (lv_at hl 0 rfl) ?_
    refine lv_iconst (v := (nI 1)) hx hb d_Law_law_918 rfl ?_
    refine lv_iadd hx hb d_Law_law_919 ?_
    refine q_topi (y := nI (i + 1)) (nI_add _ _) ?_
    refine q_sld hx hb hX hbl hbA hZ.2.2 ((i + 1)) rfl (by omega) (by omega) d_Law_law_920 ?_
    refine q_calliX (vx_runSW (As := [.ref (ad 0), .int (xs (i + 1))]) (rest := []) ⟨hx, hb, hml, hown, hts⟩ (xb_Law_clear l hfl dC dI cI cL cB ad s.heap.size w (xs (i + 1)) (sC_0 hC) hB) (vx_cwSW 2 hts (gI_S k_337 k_335 k_336 k_20) rfl rfl rfl (by decide +kernel) ⟨Nat.le_of_ble_eq_true rfl, Nat.le_of_ble_eq_true rfl⟩) (q_pre hK hAm hZ hN [.ref (ad 0), .int (xs (i + 1))]) rfl rfl hl.1 rfl (lv_room (Nat.le_of_ble_eq_true rfl)) d_Law_law_921 hc1) hZ (fun r u_r H locs h_r hZ => ?_)
    obtain ⟨e_r, e_u⟩ := h_r
    rw [e_u] at hZ
    refine q_topi (y := nI 1) e_r ?_
    refine lv_istore (lv' := [(5, .int (nI 1)), (4, .int (nI i)), (0, .ref b), (1, .ref (ad 0)), (2, .ref (ad 43)), (3, .ref (ad 51))]) hx hb d_Law_law_924 hl (by decide) rfl (fun ls hl => ?_)
    refine lv_aload_n hx hb d_Law_law_926 rfl (lv_at hl 4 rfl) ?_
    refine lv_aload_n hx hb d_Law_law_927 rfl (lv_at hl 2 rfl) ?_
    refine lv_iload hx hb d_Law_law_928 (lv_at hl 1 rfl) ?_
    refine lv_iconst (v := (nI 1)) hx hb d_Law_law_930 rfl ?_
    refine lv_iadd hx hb d_Law_law_931 ?_
    refine q_topi (y := nI (i + 1)) (nI_add _ _) ?_
    refine q_sld hx hb hX hbl hbA hZ.2.2 ((i + 1)) rfl (by omega) (by omega) d_Law_law_932 ?_
    obtain ⟨fs43, h43⟩ := sM_43 hMM
    refine q_callv (va_runV (As := [.int (xs (i + 1))]) (rest := []) ⟨hx, hb, hml, hown, hts⟩ (x_Mod_clear l dC dI cI cL cB ad s.heap.size w t0 F (xs (i + 1)) hMM hB) (cwV 1 hts (gI_V k_540 k_537 k_538 k_539 k_24) rfl rfl rfl (by decide +kernel) ⟨Nat.le_of_ble_eq_true rfl, Nat.le_of_ble_eq_true rfl⟩) (q_preV hK hAm hZ hN [.int (xs (i + 1))] (43) 3 (by decide) h43 rfl) rfl rfl hl.1 rfl (lv_room (Nat.le_of_ble_eq_true rfl)) d_Law_law_933 hc1) hZ (fun u_v H locs h_v hZ => ?_)
    obtain ⟨hfr, hres2⟩ := h_v
    have h51 := (hfr 51 (by omega)).trans h51
    have hMM := hres2
    have hC := sC_fr hC (fun x hx => hfr x (by omega))
    refine lv_aload_n hx hb d_Law_law_936 rfl (lv_at hl 4 rfl) ?_
    obtain ⟨fs43, h43⟩ := sM_43 hMM
    refine q_calli (va_runV (As := []) (rest := []) ⟨hx, hb, hml, hown, hts⟩ (c_Mod_thrown l dC dI cI cL cB ad s.heap.size u_v _ _ hMM) (cwV 0 hts (gI_V k_454 k_451 k_452 k_453 k_24) rfl rfl rfl (by decide +kernel) ⟨Nat.le_of_ble_eq_true rfl, Nat.le_of_ble_eq_true rfl⟩) (q_preV hK hAm hZ hN [] (43) 3 (by decide) h43 rfl) rfl rfl hl.1 rfl (lv_room (Nat.le_of_ble_eq_true rfl)) d_Law_law_937 hc1) hZ (fun th u_th H locs h_th hZ => ?_)
    obtain ⟨e_th, e_t⟩ := h_th
    rw [e_th] at hZ
    refine q_topi (y := nI 1) e_t ?_
    refine lv_iload hx hb d_Law_law_940 (lv_at hl 0 rfl) ?_
    refine lv_icmp_eq (tgt := 947) hx hb d_Law_law_942 (by decide) (fun h942 => ?_) (fun h942 => ?_)
    · skip
      have h942 : 1 = 1 := (nI_eq (a := 1) (b := 1) (by omega) (by omega)).mp h942
      refine lv_goto (tgt := 1486) hx hb d_Law_law_947 (by decide) ?_
      exact K _ _ _ _ _ _ _ hC hMM h51 hZ (lv_sub hl [1, 2, 3, 4, 5] rfl)
    · skip
      have h942 : ¬ 1 = 1 := fun z9 => h942 ((nI_eq (a := 1) (b := 1) (by omega) (by omega)).mpr z9)
      exact absurd h942 (by decide)
set_option maxHeartbeats 4000000 in
set_option maxRecDepth 100000 in
/-- look -/
theorem law_14 {p : Program} {e : Env} {s : State} {m : MethodId} {below : List Frame} {meth : Method} {c : Code} (l : Launch) (hfl : l.stackTraces = false) {b L : Nat} {xs : Nat → Int32} (C0 : lw_At p s m meth c b L xs) (dC : Nat → ClassId) (dI : Nat → Nat → Nat) (cI cL cB : ClassId) (ad : Nat → Nat) (hK : va_K (dC, dI) vCl [(cI, .int), (cL, .long), (cB, .object "CoinBag$Bag")] s) (hAm : sAm s.heap.size s) (i : Nat) (hi : i + 7 ≤ L) (hL : L ≤ 3584) (cells slots : Nat) (hc1 : cells + 1 ≤ room_1.cells ∧ slots + 6 ≤ room_1.slots) (K : lawK p l e s m below meth c b dC dI cI cL cB ad i (cells + 1) (slots + 6)) (w : Nat → va_E) (F : Nat → Int → Int64) (o : Nat → Int64) (t0 : Int32) (H : Heap) (locs : List Loc) (ls : Array Slot) (hC : sC ad cI cL cB w F) (hMM : sM ad cI cL w t0 F) (h51 : w 51 = .inl (cL, 1, .inr (.inl o))) (hZ : sZ (dC, dI) vCl 52 ad (fun q => s.heap.size ≤ q) s.heap w H locs) (hl : lv_has ls 8 [(4, .int (nI i)), (0, .ref b), (1, .ref (ad 0)), (2, .ref (ad 43)), (3, .ref (ad 51))]) : W p l e room_1 s m #[Value.ref b] below meth c H locs cells slots (lw_Z below #[Value.ref b] s) (F0 m 1418 ls []) := by
  obtain ⟨hx, hb, hr, hml, hown, hts0, hX, hbl, hlocks, hgv⟩ := id C0
  have hts := law_hts hts0
  have hN : s.heap.size ≤ s.heap.size := Nat.le_refl _
  have hbA : ¬ (fun q => s.heap.size ≤ q) b := Nat.not_le.mpr hbl
  have hc0 : cells + 0 ≤ room_1.cells ∧ slots + 0 ≤ room_1.slots := ⟨Nat.le_trans (Nat.le_succ _) hc1.1, Nat.le_trans (by omega) hc1.2⟩
  by_cases hB : okB (xs (i + 1))
  · skip
    obtain ⟨j1, hj1, ej1⟩ := okB_nat hB
    refine lv_aload_n hx hb d_Law_law_1418 rfl (lv_at hl 2 rfl) ?_
    refine lv_aload_n hx hb d_Law_law_1419 rfl (lv_at hl 1 rfl) ?_
    refine lv_iload hx hb d_Law_law_1420 (lv_at hl 0 rfl) ?_
    refine lv_iconst (v := (nI 1)) hx hb d_Law_law_1422 rfl ?_
    refine lv_iadd hx hb d_Law_law_1423 ?_
    refine q_topi (y := nI (i + 1)) (nI_add _ _) ?_
    refine q_sld hx hb hX hbl hbA hZ.2.2 ((i + 1)) rfl (by omega) (by omega) d_Law_law_1424 ?_
    refine q_topi (y := nI j1) ej1 ?_
    refine lv_aload_n hx hb d_Law_law_1425 rfl (lv_at hl 1 rfl) ?_
    refine lv_iload hx hb d_Law_law_1426 (lv_at hl 0 rfl) ?_
    refine lv_iconst (v := (nI 2)) hx hb d_Law_law_1428 rfl ?_
    refine lv_iadd hx hb d_Law_law_1429 ?_
    refine q_topi (y := nI (i + 2)) (nI_add _ _) ?_
    refine q_sld hx hb hX hbl hbA hZ.2.2 ((i + 2)) rfl (by omega) (by omega) d_Law_law_1430 ?_
    refine lv_aload_n hx hb d_Law_law_1431 rfl (lv_at hl 4 rfl) ?_
    refine q_calli (vx_runSW (As := [.ref (ad 0), .int (nI j1), .int (xs (i + 2)), .ref (ad 51)]) (rest := []) ⟨hx, hb, hml, hown, hts⟩ (c_Law_look l dC dI cI cL cB ad s.heap.size w F j1 (xs (i + 2)) o hC hj1 h51) (vx_cwSW 4 hts (gI_S k_397 k_395 k_396 k_20) rfl rfl rfl (by decide +kernel) ⟨Nat.le_of_ble_eq_true rfl, Nat.le_of_ble_eq_true rfl⟩) (q_pre hK hAm hZ hN [.ref (ad 0), .int (nI j1), .int (xs (i + 2)), .ref (ad 51)]) rfl rfl hl.1 rfl (lv_room (Nat.le_of_ble_eq_true rfl)) d_Law_law_1432 hc0) hZ (fun r u_r H locs h_r hZ => ?_)
    obtain ⟨e_r, hkp, o2, h51, hres⟩ := h_r
    have hMM := sM_fr hMM (fun x h1 h2 => hkp x (by omega) (by omega))
    refine q_topi (y := nI 0) e_r ?_
    obtain ⟨hC, hres⟩ := hres
    obtain ⟨z2, P2, N2, A2, r0, hRc, hr1, hr2⟩ := hres
    refine lv_istore (lv' := [(5, .int (nI 0)), (4, .int (nI i)), (0, .ref b), (1, .ref (ad 0)), (2, .ref (ad 43)), (3, .ref (ad 51))]) hx hb d_Law_law_1435 hl (by decide) rfl (fun ls hl => ?_)
    refine lv_aload_n hx hb d_Law_law_1437 rfl (lv_at hl 4 rfl) ?_
    refine lv_aload_n hx hb d_Law_law_1438 rfl (lv_at hl 2 rfl) ?_
    refine lv_iload hx hb d_Law_law_1439 (lv_at hl 1 rfl) ?_
    refine lv_iconst (v := (nI 1)) hx hb d_Law_law_1441 rfl ?_
    refine lv_iadd hx hb d_Law_law_1442 ?_
    refine q_topi (y := nI (i + 1)) (nI_add _ _) ?_
    refine q_sld hx hb hX hbl hbA hZ.2.2 ((i + 1)) rfl (by omega) (by omega) d_Law_law_1443 ?_
    refine q_topi (y := nI j1) ej1 ?_
    refine lv_aload_n hx hb d_Law_law_1444 rfl (lv_at hl 2 rfl) ?_
    refine lv_iload hx hb d_Law_law_1445 (lv_at hl 1 rfl) ?_
    refine lv_iconst (v := (nI 2)) hx hb d_Law_law_1447 rfl ?_
    refine lv_iadd hx hb d_Law_law_1448 ?_
    refine q_topi (y := nI (i + 2)) (nI_add _ _) ?_
    refine q_sld hx hb hX hbl hbA hZ.2.2 ((i + 2)) rfl (by omega) (by omega) d_Law_law_1449 ?_
    obtain ⟨fs43, h43⟩ := sM_43 hMM
    refine q_calli (va_runV (As := [.int (nI j1), .int (xs (i + 2))]) (rest := []) ⟨hx, hb, hml, hown, hts⟩ (c_Mod_look l dC dI cI cL cB ad s.heap.size u_r t0 F j1 (xs (i + 2)) z2 P2 N2 A2 hMM hj1 hRc) (cwV 2 hts (gI_V k_576 k_573 k_574 k_575 k_24) rfl rfl rfl (by decide +kernel) ⟨Nat.le_of_ble_eq_true rfl, Nat.le_of_ble_eq_true rfl⟩) (q_preV hK hAm hZ hN [.int (nI j1), .int (xs (i + 2))] (43) 3 (by decide) h43 rfl) rfl rfl hl.1 rfl (lv_room (Nat.le_of_ble_eq_true rfl)) d_Law_law_1450 hc0) hZ (fun v u_v H locs h_v hZ => ?_)
    obtain ⟨hfr, hres2⟩ := h_v
    have h51 := (hfr 51 (by omega)).trans h51
    obtain ⟨hMM, hres2⟩ := hres2
    have hC := sC_fr hC (fun x hx => hfr x (by omega))
    refine lv_istore (lv' := [(6, .int v), (5, .int (nI 0)), (4, .int (nI i)), (0, .ref b), (1, .ref (ad 0)), (2, .ref (ad 43)), (3, .ref (ad 51))]) hx hb d_Law_law_1453 hl (by decide) rfl (fun ls hl => ?_)
    refine lv_aload_n hx hb d_Law_law_1455 rfl (lv_at hl 5 rfl) ?_
    obtain ⟨fs43, h43⟩ := sM_43 hMM
    refine q_calli (va_runV (As := []) (rest := []) ⟨hx, hb, hml, hown, hts⟩ (c_Mod_thrown l dC dI cI cL cB ad s.heap.size u_v _ _ hMM) (cwV 0 hts (gI_V k_454 k_451 k_452 k_453 k_24) rfl rfl rfl (by decide +kernel) ⟨Nat.le_of_ble_eq_true rfl, Nat.le_of_ble_eq_true rfl⟩) (q_preV hK hAm hZ hN [] (43) 3 (by decide) h43 rfl) rfl rfl hl.1 rfl (lv_room (Nat.le_of_ble_eq_true rfl)) d_Law_law_1456 hc0) hZ (fun th u_th H locs h_th hZ => ?_)
    obtain ⟨e_th, e_t⟩ := h_th
    rw [e_th] at hZ
    refine q_topi (y := nI 0) e_t ?_
    refine lv_iload hx hb d_Law_law_1459 (lv_at hl 1 rfl) ?_
    refine lv_icmp_eq (tgt := 1466) hx hb d_Law_law_1461 (by decide) (fun h1461 => ?_) (fun h1461 => ?_)
    · skip
      have h1461 : 0 = 0 := (nI_eq (a := 0) (b := 0) (by omega) (by omega)).mp h1461
      refine lv_iload hx hb d_Law_law_1466 (lv_at hl 1 rfl) ?_
      refine lv_if_ne (tgt := 1483) hx hb d_Law_law_1468 (by decide) (fun h1468 => ?_) (fun h1468 => ?_)
      · skip
        have h1468 : ¬ 0 = 0 := fun z9 => h1468 ((nI_eq (a := 0) (b := 0) (by omega) (by omega)).mpr z9)
        exact absurd h1468 (by decide)
      · skip
        have h1468 : 0 = 0 := (nI_eq (a := 0) (b := 0) (by omega) (by omega)).mp h1468
        refine lv_aload_n hx hb d_Law_law_1471 rfl (lv_at hl 6 rfl) ?_
        refine lv_iconst (v := (nI 0)) hx hb d_Law_law_1472 rfl ?_
        refine q_lald hx hb hK hZ (51) 1 (0) (by decide) h51 rfl rfl (by omega) (by decide) d_Law_law_1473 ?_
        refine lv_iload hx hb d_Law_law_1474 (lv_at hl 0 rfl) ?_
        refine lv_i2l (v := v.toInt64) hx hb d_Law_law_1476 rfl ?_
        refine W.lcmp hx hb d_Law_law_1477 ?_
        refine lv_if_eq (tgt := 1483) hx hb d_Law_law_1478 (by decide) (fun h1478 => ?_) (fun h1478 => ?_)
        · skip
          rw [lg_cmp_eq] at h1478
          refine lv_goto (tgt := 1486) hx hb d_Law_law_1483 (by decide) ?_
          refine W.widen (k := cells + 1) (n := slots + 6) (by omega) (by omega) ?_
          exact K _ _ _ _ _ _ _ hC hMM h51 hZ (lv_sub hl [2, 3, 4, 5, 6] rfl)
        · skip
          rw [lg_cmp_eq] at h1478
          exact absurd (by rw [hr2, lkR_eq hr1 hres2]) h1478
    · skip
      have h1461 : ¬ 0 = 0 := fun z9 => h1461 ((nI_eq (a := 0) (b := 0) (by omega) (by omega)).mpr z9)
      exact absurd h1461 (by decide)
  · skip
    refine lv_aload_n hx hb d_Law_law_1418 rfl (lv_at hl 2 rfl) ?_
    refine lv_aload_n hx hb d_Law_law_1419 rfl (lv_at hl 1 rfl) ?_
    refine lv_iload hx hb d_Law_law_1420 (lv_at hl 0 rfl) ?_
    refine lv_iconst (v := (nI 1)) hx hb d_Law_law_1422 rfl ?_
    refine lv_iadd hx hb d_Law_law_1423 ?_
    refine q_topi (y := nI (i + 1)) (nI_add _ _) ?_
    refine q_sld hx hb hX hbl hbA hZ.2.2 ((i + 1)) rfl (by omega) (by omega) d_Law_law_1424 ?_
    refine lv_aload_n hx hb d_Law_law_1425 rfl (lv_at hl 1 rfl) ?_
    refine lv_iload hx hb d_Law_law_1426 (lv_at hl 0 rfl) ?_
    refine lv_iconst (v := (nI 2)) hx hb d_Law_law_1428 rfl ?_
    refine lv_iadd hx hb d_Law_law_1429 ?_
    refine q_topi (y := nI (i + 2)) (nI_add _ _) ?_
    refine q_sld hx hb hX hbl hbA hZ.2.2 ((i + 2)) rfl (by omega) (by omega) d_Law_law_1430 ?_
    refine lv_aload_n hx hb d_Law_law_1431 rfl (lv_at hl 4 rfl) ?_
    refine q_calliX (vx_runSW (As := [.ref (ad 0), .int (xs (i + 1)), .int (xs (i + 2)), .ref (ad 51)]) (rest := []) ⟨hx, hb, hml, hown, hts⟩ (xb_Law_look l hfl dC dI cI cL cB ad s.heap.size w (xs (i + 1)) (xs (i + 2)) (sC_0 hC) hB) (vx_cwSW 4 hts (gI_S k_397 k_395 k_396 k_20) rfl rfl rfl (by decide +kernel) ⟨Nat.le_of_ble_eq_true rfl, Nat.le_of_ble_eq_true rfl⟩) (q_pre hK hAm hZ hN [.ref (ad 0), .int (xs (i + 1)), .int (xs (i + 2)), .ref (ad 51)]) rfl rfl hl.1 rfl (lv_room (Nat.le_of_ble_eq_true rfl)) d_Law_law_1432 hc1) hZ (fun r u_r H locs h_r hZ => ?_)
    obtain ⟨e_r, e_u⟩ := h_r
    rw [e_u] at hZ
    refine q_topi (y := nI 1) e_r ?_
    refine lv_istore (lv' := [(5, .int (nI 1)), (4, .int (nI i)), (0, .ref b), (1, .ref (ad 0)), (2, .ref (ad 43)), (3, .ref (ad 51))]) hx hb d_Law_law_1435 hl (by decide) rfl (fun ls hl => ?_)
    refine lv_aload_n hx hb d_Law_law_1437 rfl (lv_at hl 4 rfl) ?_
    refine lv_aload_n hx hb d_Law_law_1438 rfl (lv_at hl 2 rfl) ?_
    refine lv_iload hx hb d_Law_law_1439 (lv_at hl 1 rfl) ?_
    refine lv_iconst (v := (nI 1)) hx hb d_Law_law_1441 rfl ?_
    refine lv_iadd hx hb d_Law_law_1442 ?_
    refine q_topi (y := nI (i + 1)) (nI_add _ _) ?_
    refine q_sld hx hb hX hbl hbA hZ.2.2 ((i + 1)) rfl (by omega) (by omega) d_Law_law_1443 ?_
    refine lv_aload_n hx hb d_Law_law_1444 rfl (lv_at hl 2 rfl) ?_
    refine lv_iload hx hb d_Law_law_1445 (lv_at hl 1 rfl) ?_
    refine lv_iconst (v := (nI 2)) hx hb d_Law_law_1447 rfl ?_
    refine lv_iadd hx hb d_Law_law_1448 ?_
    refine q_topi (y := nI (i + 2)) (nI_add _ _) ?_
    refine q_sld hx hb hX hbl hbA hZ.2.2 ((i + 2)) rfl (by omega) (by omega) d_Law_law_1449 ?_
    obtain ⟨fs43, h43⟩ := sM_43 hMM
    refine q_calli (va_runV (As := [.int (xs (i + 1)), .int (xs (i + 2))]) (rest := []) ⟨hx, hb, hml, hown, hts⟩ (x_Mod_look l dC dI cI cL cB ad s.heap.size w t0 F (xs (i + 1)) (xs (i + 2)) hMM hB) (cwV 2 hts (gI_V k_576 k_573 k_574 k_575 k_24) rfl rfl rfl (by decide +kernel) ⟨Nat.le_of_ble_eq_true rfl, Nat.le_of_ble_eq_true rfl⟩) (q_preV hK hAm hZ hN [.int (xs (i + 1)), .int (xs (i + 2))] (43) 3 (by decide) h43 rfl) rfl rfl hl.1 rfl (lv_room (Nat.le_of_ble_eq_true rfl)) d_Law_law_1450 hc1) hZ (fun v u_v H locs h_v hZ => ?_)
    obtain ⟨hfr, hres2⟩ := h_v
    have h51 := (hfr 51 (by omega)).trans h51
    have hMM := hres2
    have hC := sC_fr hC (fun x hx => hfr x (by omega))
    refine lv_istore (lv' := [(6, .int v), (5, .int (nI 1)), (4, .int (nI i)), (0, .ref b), (1, .ref (ad 0)), (2, .ref (ad 43)), (3, .ref (ad 51))]) hx hb d_Law_law_1453 hl (by decide) rfl (fun ls hl => ?_)
    refine lv_aload_n hx hb d_Law_law_1455 rfl (lv_at hl 5 rfl) ?_
    obtain ⟨fs43, h43⟩ := sM_43 hMM
    refine q_calli (va_runV (As := []) (rest := []) ⟨hx, hb, hml, hown, hts⟩ (c_Mod_thrown l dC dI cI cL cB ad s.heap.size u_v _ _ hMM) (cwV 0 hts (gI_V k_454 k_451 k_452 k_453 k_24) rfl rfl rfl (by decide +kernel) ⟨Nat.le_of_ble_eq_true rfl, Nat.le_of_ble_eq_true rfl⟩) (q_preV hK hAm hZ hN [] (43) 3 (by decide) h43 rfl) rfl rfl hl.1 rfl (lv_room (Nat.le_of_ble_eq_true rfl)) d_Law_law_1456 hc1) hZ (fun th u_th H locs h_th hZ => ?_)
    obtain ⟨e_th, e_t⟩ := h_th
    rw [e_th] at hZ
    refine q_topi (y := nI 1) e_t ?_
    refine lv_iload hx hb d_Law_law_1459 (lv_at hl 1 rfl) ?_
    refine lv_icmp_eq (tgt := 1466) hx hb d_Law_law_1461 (by decide) (fun h1461 => ?_) (fun h1461 => ?_)
    · skip
      have h1461 : 1 = 1 := (nI_eq (a := 1) (b := 1) (by omega) (by omega)).mp h1461
      refine lv_iload hx hb d_Law_law_1466 (lv_at hl 1 rfl) ?_
      refine lv_if_ne (tgt := 1483) hx hb d_Law_law_1468 (by decide) (fun h1468 => ?_) (fun h1468 => ?_)
      · skip
        have h1468 : ¬ 1 = 0 := fun z9 => h1468 ((nI_eq (a := 1) (b := 0) (by omega) (by omega)).mpr z9)
        refine lv_goto (tgt := 1486) hx hb d_Law_law_1483 (by decide) ?_
        exact K _ _ _ _ _ _ _ hC hMM h51 hZ (lv_sub hl [2, 3, 4, 5, 6] rfl)
      · skip
        have h1468 : 1 = 0 := (nI_eq (a := 1) (b := 0) (by omega) (by omega)).mp h1468
        exact absurd h1468 (by decide)
    · skip
      have h1461 : ¬ 1 = 1 := fun z9 => h1461 ((nI_eq (a := 1) (b := 1) (by omega) (by omega)).mpr z9)
      exact absurd h1461 (by decide)
set_option maxHeartbeats 4000000 in
set_option maxRecDepth 100000 in
/-- only -/
theorem law_5 {p : Program} {e : Env} {s : State} {m : MethodId} {below : List Frame} {meth : Method} {c : Code} (l : Launch) (hfl : l.stackTraces = false) {b L : Nat} {xs : Nat → Int32} (C0 : lw_At p s m meth c b L xs) (dC : Nat → ClassId) (dI : Nat → Nat → Nat) (cI cL cB : ClassId) (ad : Nat → Nat) (hK : va_K (dC, dI) vCl [(cI, .int), (cL, .long), (cB, .object "CoinBag$Bag")] s) (hAm : sAm s.heap.size s) (i : Nat) (hi : i + 7 ≤ L) (hL : L ≤ 3584) (cells slots : Nat) (hc1 : cells + 1 ≤ room_1.cells ∧ slots + 6 ≤ room_1.slots) (K : lawK p l e s m below meth c b dC dI cI cL cB ad i (cells + 1) (slots + 6)) (w : Nat → va_E) (F : Nat → Int → Int64) (o : Nat → Int64) (t0 : Int32) (H : Heap) (locs : List Loc) (ls : Array Slot) (hC : sC ad cI cL cB w F) (hMM : sM ad cI cL w t0 F) (h51 : w 51 = .inl (cL, 1, .inr (.inl o))) (hZ : sZ (dC, dI) vCl 52 ad (fun q => s.heap.size ≤ q) s.heap w H locs) (hl : lv_has ls 8 [(4, .int (nI i)), (0, .ref b), (1, .ref (ad 0)), (2, .ref (ad 43)), (3, .ref (ad 51))]) : W p l e room_1 s m #[Value.ref b] below meth c H locs cells slots (lw_Z below #[Value.ref b] s) (F0 m 739 ls []) := by
  obtain ⟨hx, hb, hr, hml, hown, hts0, hX, hbl, hlocks, hgv⟩ := id C0
  have hts := law_hts hts0
  have hN : s.heap.size ≤ s.heap.size := Nat.le_refl _
  have hbA : ¬ (fun q => s.heap.size ≤ q) b := Nat.not_le.mpr hbl
  have hc0 : cells + 0 ≤ room_1.cells ∧ slots + 0 ≤ room_1.slots := ⟨Nat.le_trans (Nat.le_succ _) hc1.1, Nat.le_trans (by omega) hc1.2⟩
  by_cases hB : okB (xs (i + 1)) ∧ okB (xs (i + 4))
  · skip
    obtain ⟨j1, hj1, ej1⟩ := okB_nat hB.1
    obtain ⟨j4, hj4, ej4⟩ := okB_nat hB.2
    by_cases hQ : okP (xs (i + 2))
    · skip
      refine lv_aload_n hx hb d_Law_law_739 rfl (lv_at hl 2 rfl) ?_
      refine lv_aload_n hx hb d_Law_law_740 rfl (lv_at hl 1 rfl) ?_
      refine lv_iload hx hb d_Law_law_741 (lv_at hl 0 rfl) ?_
      refine lv_iconst (v := (nI 1)) hx hb d_Law_law_743 rfl ?_
      refine lv_iadd hx hb d_Law_law_744 ?_
      refine q_topi (y := nI (i + 1)) (nI_add _ _) ?_
      refine q_sld hx hb hX hbl hbA hZ.2.2 ((i + 1)) rfl (by omega) (by omega) d_Law_law_745 ?_
      refine q_topi (y := nI j1) ej1 ?_
      refine lv_aload_n hx hb d_Law_law_746 rfl (lv_at hl 1 rfl) ?_
      refine lv_iload hx hb d_Law_law_747 (lv_at hl 0 rfl) ?_
      refine lv_iconst (v := (nI 2)) hx hb d_Law_law_749 rfl ?_
      refine lv_iadd hx hb d_Law_law_750 ?_
      refine q_topi (y := nI (i + 2)) (nI_add _ _) ?_
      refine q_sld hx hb hX hbl hbA hZ.2.2 ((i + 2)) rfl (by omega) (by omega) d_Law_law_751 ?_
      refine lv_aload_n hx hb d_Law_law_752 rfl (lv_at hl 1 rfl) ?_
      refine lv_iload hx hb d_Law_law_753 (lv_at hl 0 rfl) ?_
      refine lv_iconst (v := (nI 3)) hx hb d_Law_law_755 rfl ?_
      refine lv_iadd hx hb d_Law_law_756 ?_
      refine q_topi (y := nI (i + 3)) (nI_add _ _) ?_
      refine q_sld hx hb hX hbl hbA hZ.2.2 ((i + 3)) rfl (by omega) (by omega) d_Law_law_757 ?_
      refine lv_if_eq (tgt := 765) hx hb d_Law_law_758 (by decide) (fun h758 => ?_) (fun h758 => ?_)
      · skip
        refine lv_iconst (v := (nI 0)) hx hb d_Law_law_765 rfl ?_
        refine lv_aload_n hx hb d_Law_law_766 rfl (lv_at hl 1 rfl) ?_
        refine lv_iload hx hb d_Law_law_767 (lv_at hl 0 rfl) ?_
        refine lv_iconst (v := (nI 4)) hx hb d_Law_law_769 rfl ?_
        refine lv_iadd hx hb d_Law_law_770 ?_
        refine q_topi (y := nI (i + 4)) (nI_add _ _) ?_
        refine q_sld hx hb hX hbl hbA hZ.2.2 ((i + 4)) rfl (by omega) (by omega) d_Law_law_771 ?_
        refine q_topi (y := nI j4) ej4 ?_
        refine q_calli (vx_runSW (As := [.ref (ad 0), .int (nI j1), .int (xs (i + 2)), .int (nI 0), .int (nI j4)]) (rest := []) ⟨hx, hb, hml, hown, hts⟩ (c_Law_only l dC dI cI cL cB ad s.heap.size w F j1 (xs (i + 2)) (nI 0) j4 hC hj1 hj4 hQ (Or.inl rfl)) (vx_cwSW 5 hts (gI_S k_323 k_321 k_322 k_20) rfl rfl rfl (by decide +kernel) ⟨Nat.le_of_ble_eq_true rfl, Nat.le_of_ble_eq_true rfl⟩) (q_pre hK hAm hZ hN [.ref (ad 0), .int (nI j1), .int (xs (i + 2)), .int (nI 0), .int (nI j4)]) rfl rfl hl.1 rfl (lv_room (Nat.le_of_ble_eq_true rfl)) d_Law_law_772 hc0) hZ (fun r u_r H locs h_r hZ => ?_)
        obtain ⟨e_r, hkp, hC⟩ := h_r
        have hMM := sM_fr hMM (fun x h1 h2 => hkp x (by omega))
        have h51 := (hkp 51 (by omega)).trans h51
        refine q_topi (y := nI 0) e_r ?_
        refine lv_istore (lv' := [(5, .int (nI 0)), (4, .int (nI i)), (0, .ref b), (1, .ref (ad 0)), (2, .ref (ad 43)), (3, .ref (ad 51))]) hx hb d_Law_law_775 hl (by decide) rfl (fun ls hl => ?_)
        refine lv_aload_n hx hb d_Law_law_777 rfl (lv_at hl 4 rfl) ?_
        refine lv_aload_n hx hb d_Law_law_778 rfl (lv_at hl 2 rfl) ?_
        refine lv_iload hx hb d_Law_law_779 (lv_at hl 1 rfl) ?_
        refine lv_iconst (v := (nI 1)) hx hb d_Law_law_781 rfl ?_
        refine lv_iadd hx hb d_Law_law_782 ?_
        refine q_topi (y := nI (i + 1)) (nI_add _ _) ?_
        refine q_sld hx hb hX hbl hbA hZ.2.2 ((i + 1)) rfl (by omega) (by omega) d_Law_law_783 ?_
        refine q_topi (y := nI j1) ej1 ?_
        refine lv_aload_n hx hb d_Law_law_784 rfl (lv_at hl 2 rfl) ?_
        refine lv_iload hx hb d_Law_law_785 (lv_at hl 1 rfl) ?_
        refine lv_iconst (v := (nI 2)) hx hb d_Law_law_787 rfl ?_
        refine lv_iadd hx hb d_Law_law_788 ?_
        refine q_topi (y := nI (i + 2)) (nI_add _ _) ?_
        refine q_sld hx hb hX hbl hbA hZ.2.2 ((i + 2)) rfl (by omega) (by omega) d_Law_law_789 ?_
        refine lv_aload_n hx hb d_Law_law_790 rfl (lv_at hl 2 rfl) ?_
        refine lv_iload hx hb d_Law_law_791 (lv_at hl 1 rfl) ?_
        refine lv_iconst (v := (nI 3)) hx hb d_Law_law_793 rfl ?_
        refine lv_iadd hx hb d_Law_law_794 ?_
        refine q_topi (y := nI (i + 3)) (nI_add _ _) ?_
        refine q_sld hx hb hX hbl hbA hZ.2.2 ((i + 3)) rfl (by omega) (by omega) d_Law_law_795 ?_
        refine lv_if_eq (tgt := 803) hx hb d_Law_law_796 (by decide) (fun h796 => ?_) (fun h796 => ?_)
        · skip
          refine lv_iconst (v := (nI 0)) hx hb d_Law_law_803 rfl ?_
          refine lv_aload_n hx hb d_Law_law_804 rfl (lv_at hl 2 rfl) ?_
          refine lv_iload hx hb d_Law_law_805 (lv_at hl 1 rfl) ?_
          refine lv_iconst (v := (nI 4)) hx hb d_Law_law_807 rfl ?_
          refine lv_iadd hx hb d_Law_law_808 ?_
          refine q_topi (y := nI (i + 4)) (nI_add _ _) ?_
          refine q_sld hx hb hX hbl hbA hZ.2.2 ((i + 4)) rfl (by omega) (by omega) d_Law_law_809 ?_
          refine q_topi (y := nI j4) ej4 ?_
          obtain ⟨fs43, h43⟩ := sM_43 hMM
          refine q_callv (va_runV (As := [.int (nI j1), .int (xs (i + 2)), .int (nI 0), .int (nI j4)]) (rest := []) ⟨hx, hb, hml, hown, hts⟩ (c_Mod_only l dC dI cI cL cB ad s.heap.size u_r t0 F j1 (xs (i + 2)) (nI 0) j4 hMM hj1 hj4 hQ (Or.inl rfl)) (cwV 4 hts (gI_V k_532 k_529 k_530 k_531 k_24) rfl rfl rfl (by decide +kernel) ⟨Nat.le_of_ble_eq_true rfl, Nat.le_of_ble_eq_true rfl⟩) (q_preV hK hAm hZ hN [.int (nI j1), .int (xs (i + 2)), .int (nI 0), .int (nI j4)] (43) 3 (by decide) h43 rfl) rfl rfl hl.1 rfl (lv_room (Nat.le_of_ble_eq_true rfl)) d_Law_law_810 hc0) hZ (fun u_v H locs h_v hZ => ?_)
          obtain ⟨hfr, hres2⟩ := h_v
          have h51 := (hfr 51 (by omega)).trans h51
          have hMM := hres2
          have hC := sC_fr hC (fun x hx => hfr x (by omega))
          refine lv_aload_n hx hb d_Law_law_813 rfl (lv_at hl 4 rfl) ?_
          obtain ⟨fs43, h43⟩ := sM_43 hMM
          refine q_calli (va_runV (As := []) (rest := []) ⟨hx, hb, hml, hown, hts⟩ (c_Mod_thrown l dC dI cI cL cB ad s.heap.size u_v _ _ hMM) (cwV 0 hts (gI_V k_454 k_451 k_452 k_453 k_24) rfl rfl rfl (by decide +kernel) ⟨Nat.le_of_ble_eq_true rfl, Nat.le_of_ble_eq_true rfl⟩) (q_preV hK hAm hZ hN [] (43) 3 (by decide) h43 rfl) rfl rfl hl.1 rfl (lv_room (Nat.le_of_ble_eq_true rfl)) d_Law_law_814 hc0) hZ (fun th u_th H locs h_th hZ => ?_)
          obtain ⟨e_th, e_t⟩ := h_th
          rw [e_th] at hZ
          refine q_topi (y := nI 0) e_t ?_
          refine lv_iload hx hb d_Law_law_817 (lv_at hl 0 rfl) ?_
          refine lv_icmp_eq (tgt := 824) hx hb d_Law_law_819 (by decide) (fun h819 => ?_) (fun h819 => ?_)
          · skip
            have h819 : 0 = 0 := (nI_eq (a := 0) (b := 0) (by omega) (by omega)).mp h819
            refine lv_goto (tgt := 1486) hx hb d_Law_law_824 (by decide) ?_
            refine W.widen (k := cells + 1) (n := slots + 6) (by omega) (by omega) ?_
            exact K _ _ _ _ _ _ _ hC hMM h51 hZ (lv_sub hl [1, 2, 3, 4, 5] rfl)
          · skip
            have h819 : ¬ 0 = 0 := fun z9 => h819 ((nI_eq (a := 0) (b := 0) (by omega) (by omega)).mpr z9)
            exact absurd h819 (by decide)
        · skip
          exact absurd h758 h796
      · skip
        refine lv_iconst (v := (nI 1)) hx hb d_Law_law_761 rfl ?_
        refine lv_goto (tgt := 766) hx hb d_Law_law_762 (by decide) ?_
        refine lv_aload_n hx hb d_Law_law_766 rfl (lv_at hl 1 rfl) ?_
        refine lv_iload hx hb d_Law_law_767 (lv_at hl 0 rfl) ?_
        refine lv_iconst (v := (nI 4)) hx hb d_Law_law_769 rfl ?_
        refine lv_iadd hx hb d_Law_law_770 ?_
        refine q_topi (y := nI (i + 4)) (nI_add _ _) ?_
        refine q_sld hx hb hX hbl hbA hZ.2.2 ((i + 4)) rfl (by omega) (by omega) d_Law_law_771 ?_
        refine q_topi (y := nI j4) ej4 ?_
        refine q_calli (vx_runSW (As := [.ref (ad 0), .int (nI j1), .int (xs (i + 2)), .int (nI 1), .int (nI j4)]) (rest := []) ⟨hx, hb, hml, hown, hts⟩ (c_Law_only l dC dI cI cL cB ad s.heap.size w F j1 (xs (i + 2)) (nI 1) j4 hC hj1 hj4 hQ (Or.inr rfl)) (vx_cwSW 5 hts (gI_S k_323 k_321 k_322 k_20) rfl rfl rfl (by decide +kernel) ⟨Nat.le_of_ble_eq_true rfl, Nat.le_of_ble_eq_true rfl⟩) (q_pre hK hAm hZ hN [.ref (ad 0), .int (nI j1), .int (xs (i + 2)), .int (nI 1), .int (nI j4)]) rfl rfl hl.1 rfl (lv_room (Nat.le_of_ble_eq_true rfl)) d_Law_law_772 hc0) hZ (fun r u_r H locs h_r hZ => ?_)
        obtain ⟨e_r, hkp, hC⟩ := h_r
        have hMM := sM_fr hMM (fun x h1 h2 => hkp x (by omega))
        have h51 := (hkp 51 (by omega)).trans h51
        refine q_topi (y := nI 0) e_r ?_
        refine lv_istore (lv' := [(5, .int (nI 0)), (4, .int (nI i)), (0, .ref b), (1, .ref (ad 0)), (2, .ref (ad 43)), (3, .ref (ad 51))]) hx hb d_Law_law_775 hl (by decide) rfl (fun ls hl => ?_)
        refine lv_aload_n hx hb d_Law_law_777 rfl (lv_at hl 4 rfl) ?_
        refine lv_aload_n hx hb d_Law_law_778 rfl (lv_at hl 2 rfl) ?_
        refine lv_iload hx hb d_Law_law_779 (lv_at hl 1 rfl) ?_
        refine lv_iconst (v := (nI 1)) hx hb d_Law_law_781 rfl ?_
        refine lv_iadd hx hb d_Law_law_782 ?_
        refine q_topi (y := nI (i + 1)) (nI_add _ _) ?_
        refine q_sld hx hb hX hbl hbA hZ.2.2 ((i + 1)) rfl (by omega) (by omega) d_Law_law_783 ?_
        refine q_topi (y := nI j1) ej1 ?_
        refine lv_aload_n hx hb d_Law_law_784 rfl (lv_at hl 2 rfl) ?_
        refine lv_iload hx hb d_Law_law_785 (lv_at hl 1 rfl) ?_
        refine lv_iconst (v := (nI 2)) hx hb d_Law_law_787 rfl ?_
        refine lv_iadd hx hb d_Law_law_788 ?_
        refine q_topi (y := nI (i + 2)) (nI_add _ _) ?_
        refine q_sld hx hb hX hbl hbA hZ.2.2 ((i + 2)) rfl (by omega) (by omega) d_Law_law_789 ?_
        refine lv_aload_n hx hb d_Law_law_790 rfl (lv_at hl 2 rfl) ?_
        refine lv_iload hx hb d_Law_law_791 (lv_at hl 1 rfl) ?_
        refine lv_iconst (v := (nI 3)) hx hb d_Law_law_793 rfl ?_
        refine lv_iadd hx hb d_Law_law_794 ?_
        refine q_topi (y := nI (i + 3)) (nI_add _ _) ?_
        refine q_sld hx hb hX hbl hbA hZ.2.2 ((i + 3)) rfl (by omega) (by omega) d_Law_law_795 ?_
        refine lv_if_eq (tgt := 803) hx hb d_Law_law_796 (by decide) (fun h796 => ?_) (fun h796 => ?_)
        · skip
          exact absurd h796 h758
        · skip
          refine lv_iconst (v := (nI 1)) hx hb d_Law_law_799 rfl ?_
          refine lv_goto (tgt := 804) hx hb d_Law_law_800 (by decide) ?_
          refine lv_aload_n hx hb d_Law_law_804 rfl (lv_at hl 2 rfl) ?_
          refine lv_iload hx hb d_Law_law_805 (lv_at hl 1 rfl) ?_
          refine lv_iconst (v := (nI 4)) hx hb d_Law_law_807 rfl ?_
          refine lv_iadd hx hb d_Law_law_808 ?_
          refine q_topi (y := nI (i + 4)) (nI_add _ _) ?_
          refine q_sld hx hb hX hbl hbA hZ.2.2 ((i + 4)) rfl (by omega) (by omega) d_Law_law_809 ?_
          refine q_topi (y := nI j4) ej4 ?_
          obtain ⟨fs43, h43⟩ := sM_43 hMM
          refine q_callv (va_runV (As := [.int (nI j1), .int (xs (i + 2)), .int (nI 1), .int (nI j4)]) (rest := []) ⟨hx, hb, hml, hown, hts⟩ (c_Mod_only l dC dI cI cL cB ad s.heap.size u_r t0 F j1 (xs (i + 2)) (nI 1) j4 hMM hj1 hj4 hQ (Or.inr rfl)) (cwV 4 hts (gI_V k_532 k_529 k_530 k_531 k_24) rfl rfl rfl (by decide +kernel) ⟨Nat.le_of_ble_eq_true rfl, Nat.le_of_ble_eq_true rfl⟩) (q_preV hK hAm hZ hN [.int (nI j1), .int (xs (i + 2)), .int (nI 1), .int (nI j4)] (43) 3 (by decide) h43 rfl) rfl rfl hl.1 rfl (lv_room (Nat.le_of_ble_eq_true rfl)) d_Law_law_810 hc0) hZ (fun u_v H locs h_v hZ => ?_)
          obtain ⟨hfr, hres2⟩ := h_v
          have h51 := (hfr 51 (by omega)).trans h51
          have hMM := hres2
          have hC := sC_fr hC (fun x hx => hfr x (by omega))
          refine lv_aload_n hx hb d_Law_law_813 rfl (lv_at hl 4 rfl) ?_
          obtain ⟨fs43, h43⟩ := sM_43 hMM
          refine q_calli (va_runV (As := []) (rest := []) ⟨hx, hb, hml, hown, hts⟩ (c_Mod_thrown l dC dI cI cL cB ad s.heap.size u_v _ _ hMM) (cwV 0 hts (gI_V k_454 k_451 k_452 k_453 k_24) rfl rfl rfl (by decide +kernel) ⟨Nat.le_of_ble_eq_true rfl, Nat.le_of_ble_eq_true rfl⟩) (q_preV hK hAm hZ hN [] (43) 3 (by decide) h43 rfl) rfl rfl hl.1 rfl (lv_room (Nat.le_of_ble_eq_true rfl)) d_Law_law_814 hc0) hZ (fun th u_th H locs h_th hZ => ?_)
          obtain ⟨e_th, e_t⟩ := h_th
          rw [e_th] at hZ
          refine q_topi (y := nI 0) e_t ?_
          refine lv_iload hx hb d_Law_law_817 (lv_at hl 0 rfl) ?_
          refine lv_icmp_eq (tgt := 824) hx hb d_Law_law_819 (by decide) (fun h819 => ?_) (fun h819 => ?_)
          · skip
            have h819 : 0 = 0 := (nI_eq (a := 0) (b := 0) (by omega) (by omega)).mp h819
            refine lv_goto (tgt := 1486) hx hb d_Law_law_824 (by decide) ?_
            refine W.widen (k := cells + 1) (n := slots + 6) (by omega) (by omega) ?_
            exact K _ _ _ _ _ _ _ hC hMM h51 hZ (lv_sub hl [1, 2, 3, 4, 5] rfl)
          · skip
            have h819 : ¬ 0 = 0 := fun z9 => h819 ((nI_eq (a := 0) (b := 0) (by omega) (by omega)).mpr z9)
            exact absurd h819 (by decide)
    · skip
      refine lv_aload_n hx hb d_Law_law_739 rfl (lv_at hl 2 rfl) ?_
      refine lv_aload_n hx hb d_Law_law_740 rfl (lv_at hl 1 rfl) ?_
      refine lv_iload hx hb d_Law_law_741 (lv_at hl 0 rfl) ?_
      refine lv_iconst (v := (nI 1)) hx hb d_Law_law_743 rfl ?_
      refine lv_iadd hx hb d_Law_law_744 ?_
      refine q_topi (y := nI (i + 1)) (nI_add _ _) ?_
      refine q_sld hx hb hX hbl hbA hZ.2.2 ((i + 1)) rfl (by omega) (by omega) d_Law_law_745 ?_
      refine lv_aload_n hx hb d_Law_law_746 rfl (lv_at hl 1 rfl) ?_
      refine lv_iload hx hb d_Law_law_747 (lv_at hl 0 rfl) ?_
      refine lv_iconst (v := (nI 2)) hx hb d_Law_law_749 rfl ?_
      refine lv_iadd hx hb d_Law_law_750 ?_
      refine q_topi (y := nI (i + 2)) (nI_add _ _) ?_
      refine q_sld hx hb hX hbl hbA hZ.2.2 ((i + 2)) rfl (by omega) (by omega) d_Law_law_751 ?_
      refine lv_aload_n hx hb d_Law_law_752 rfl (lv_at hl 1 rfl) ?_
      refine lv_iload hx hb d_Law_law_753 (lv_at hl 0 rfl) ?_
      refine lv_iconst (v := (nI 3)) hx hb d_Law_law_755 rfl ?_
      refine lv_iadd hx hb d_Law_law_756 ?_
      refine q_topi (y := nI (i + 3)) (nI_add _ _) ?_
      refine q_sld hx hb hX hbl hbA hZ.2.2 ((i + 3)) rfl (by omega) (by omega) d_Law_law_757 ?_
      refine lv_if_eq (tgt := 765) hx hb d_Law_law_758 (by decide) (fun h758 => ?_) (fun h758 => ?_)
      · skip
        refine lv_iconst (v := (nI 0)) hx hb d_Law_law_765 rfl ?_
        refine lv_aload_n hx hb d_Law_law_766 rfl (lv_at hl 1 rfl) ?_
        refine lv_iload hx hb d_Law_law_767 (lv_at hl 0 rfl) ?_
        refine lv_iconst (v := (nI 4)) hx hb d_Law_law_769 rfl ?_
        refine lv_iadd hx hb d_Law_law_770 ?_
        refine q_topi (y := nI (i + 4)) (nI_add _ _) ?_
        refine q_sld hx hb hX hbl hbA hZ.2.2 ((i + 4)) rfl (by omega) (by omega) d_Law_law_771 ?_
        refine q_calliX (vx_runSW (As := [.ref (ad 0), .int (xs (i + 1)), .int (xs (i + 2)), .int (nI 0), .int (xs (i + 4))]) (rest := []) ⟨hx, hb, hml, hown, hts⟩ (xp_Law_only l hfl dC dI cI cL cB ad s.heap.size w (xs (i + 1)) (xs (i + 2)) (nI 0) (xs (i + 4)) (sC_0 hC) hB.1 hB.2 hQ) (vx_cwSW 5 hts (gI_S k_323 k_321 k_322 k_20) rfl rfl rfl (by decide +kernel) ⟨Nat.le_of_ble_eq_true rfl, Nat.le_of_ble_eq_true rfl⟩) (q_pre hK hAm hZ hN [.ref (ad 0), .int (xs (i + 1)), .int (xs (i + 2)), .int (nI 0), .int (xs (i + 4))]) rfl rfl hl.1 rfl (lv_room (Nat.le_of_ble_eq_true rfl)) d_Law_law_772 hc1) hZ (fun r u_r H locs h_r hZ => ?_)
        obtain ⟨e_r, e_u⟩ := h_r
        rw [e_u] at hZ
        refine q_topi (y := nI 2) e_r ?_
        refine lv_istore (lv' := [(5, .int (nI 2)), (4, .int (nI i)), (0, .ref b), (1, .ref (ad 0)), (2, .ref (ad 43)), (3, .ref (ad 51))]) hx hb d_Law_law_775 hl (by decide) rfl (fun ls hl => ?_)
        refine lv_aload_n hx hb d_Law_law_777 rfl (lv_at hl 4 rfl) ?_
        refine lv_aload_n hx hb d_Law_law_778 rfl (lv_at hl 2 rfl) ?_
        refine lv_iload hx hb d_Law_law_779 (lv_at hl 1 rfl) ?_
        refine lv_iconst (v := (nI 1)) hx hb d_Law_law_781 rfl ?_
        refine lv_iadd hx hb d_Law_law_782 ?_
        refine q_topi (y := nI (i + 1)) (nI_add _ _) ?_
        refine q_sld hx hb hX hbl hbA hZ.2.2 ((i + 1)) rfl (by omega) (by omega) d_Law_law_783 ?_
        refine lv_aload_n hx hb d_Law_law_784 rfl (lv_at hl 2 rfl) ?_
        refine lv_iload hx hb d_Law_law_785 (lv_at hl 1 rfl) ?_
        refine lv_iconst (v := (nI 2)) hx hb d_Law_law_787 rfl ?_
        refine lv_iadd hx hb d_Law_law_788 ?_
        refine q_topi (y := nI (i + 2)) (nI_add _ _) ?_
        refine q_sld hx hb hX hbl hbA hZ.2.2 ((i + 2)) rfl (by omega) (by omega) d_Law_law_789 ?_
        refine lv_aload_n hx hb d_Law_law_790 rfl (lv_at hl 2 rfl) ?_
        refine lv_iload hx hb d_Law_law_791 (lv_at hl 1 rfl) ?_
        refine lv_iconst (v := (nI 3)) hx hb d_Law_law_793 rfl ?_
        refine lv_iadd hx hb d_Law_law_794 ?_
        refine q_topi (y := nI (i + 3)) (nI_add _ _) ?_
        refine q_sld hx hb hX hbl hbA hZ.2.2 ((i + 3)) rfl (by omega) (by omega) d_Law_law_795 ?_
        refine lv_if_eq (tgt := 803) hx hb d_Law_law_796 (by decide) (fun h796 => ?_) (fun h796 => ?_)
        · skip
          refine lv_iconst (v := (nI 0)) hx hb d_Law_law_803 rfl ?_
          refine lv_aload_n hx hb d_Law_law_804 rfl (lv_at hl 2 rfl) ?_
          refine lv_iload hx hb d_Law_law_805 (lv_at hl 1 rfl) ?_
          refine lv_iconst (v := (nI 4)) hx hb d_Law_law_807 rfl ?_
          refine lv_iadd hx hb d_Law_law_808 ?_
          refine q_topi (y := nI (i + 4)) (nI_add _ _) ?_
          refine q_sld hx hb hX hbl hbA hZ.2.2 ((i + 4)) rfl (by omega) (by omega) d_Law_law_809 ?_
          obtain ⟨fs43, h43⟩ := sM_43 hMM
          refine q_callv (va_runV (As := [.int (xs (i + 1)), .int (xs (i + 2)), .int (nI 0), .int (xs (i + 4))]) (rest := []) ⟨hx, hb, hml, hown, hts⟩ (x_Mod_only l dC dI cI cL cB ad s.heap.size w t0 F (xs (i + 1)) (xs (i + 2)) (nI 0) (xs (i + 4)) (nI 2) hMM (Or.inr ⟨⟨hB.1, hB.2, okB_0⟩, hQ, rfl⟩)) (cwV 4 hts (gI_V k_532 k_529 k_530 k_531 k_24) rfl rfl rfl (by decide +kernel) ⟨Nat.le_of_ble_eq_true rfl, Nat.le_of_ble_eq_true rfl⟩) (q_preV hK hAm hZ hN [.int (xs (i + 1)), .int (xs (i + 2)), .int (nI 0), .int (xs (i + 4))] (43) 3 (by decide) h43 rfl) rfl rfl hl.1 rfl (lv_room (Nat.le_of_ble_eq_true rfl)) d_Law_law_810 hc1) hZ (fun u_v H locs h_v hZ => ?_)
          obtain ⟨hfr, hres2⟩ := h_v
          have h51 := (hfr 51 (by omega)).trans h51
          have hMM := hres2
          have hC := sC_fr hC (fun x hx => hfr x (by omega))
          refine lv_aload_n hx hb d_Law_law_813 rfl (lv_at hl 4 rfl) ?_
          obtain ⟨fs43, h43⟩ := sM_43 hMM
          refine q_calli (va_runV (As := []) (rest := []) ⟨hx, hb, hml, hown, hts⟩ (c_Mod_thrown l dC dI cI cL cB ad s.heap.size u_v _ _ hMM) (cwV 0 hts (gI_V k_454 k_451 k_452 k_453 k_24) rfl rfl rfl (by decide +kernel) ⟨Nat.le_of_ble_eq_true rfl, Nat.le_of_ble_eq_true rfl⟩) (q_preV hK hAm hZ hN [] (43) 3 (by decide) h43 rfl) rfl rfl hl.1 rfl (lv_room (Nat.le_of_ble_eq_true rfl)) d_Law_law_814 hc1) hZ (fun th u_th H locs h_th hZ => ?_)
          obtain ⟨e_th, e_t⟩ := h_th
          rw [e_th] at hZ
          refine q_topi (y := nI 2) e_t ?_
          refine lv_iload hx hb d_Law_law_817 (lv_at hl 0 rfl) ?_
          refine lv_icmp_eq (tgt := 824) hx hb d_Law_law_819 (by decide) (fun h819 => ?_) (fun h819 => ?_)
          · skip
            have h819 : 2 = 2 := (nI_eq (a := 2) (b := 2) (by omega) (by omega)).mp h819
            refine lv_goto (tgt := 1486) hx hb d_Law_law_824 (by decide) ?_
            exact K _ _ _ _ _ _ _ hC hMM h51 hZ (lv_sub hl [1, 2, 3, 4, 5] rfl)
          · skip
            have h819 : ¬ 2 = 2 := fun z9 => h819 ((nI_eq (a := 2) (b := 2) (by omega) (by omega)).mpr z9)
            exact absurd h819 (by decide)
        · skip
          exact absurd h758 h796
      · skip
        refine lv_iconst (v := (nI 1)) hx hb d_Law_law_761 rfl ?_
        refine lv_goto (tgt := 766) hx hb d_Law_law_762 (by decide) ?_
        refine lv_aload_n hx hb d_Law_law_766 rfl (lv_at hl 1 rfl) ?_
        refine lv_iload hx hb d_Law_law_767 (lv_at hl 0 rfl) ?_
        refine lv_iconst (v := (nI 4)) hx hb d_Law_law_769 rfl ?_
        refine lv_iadd hx hb d_Law_law_770 ?_
        refine q_topi (y := nI (i + 4)) (nI_add _ _) ?_
        refine q_sld hx hb hX hbl hbA hZ.2.2 ((i + 4)) rfl (by omega) (by omega) d_Law_law_771 ?_
        refine q_calliX (vx_runSW (As := [.ref (ad 0), .int (xs (i + 1)), .int (xs (i + 2)), .int (nI 1), .int (xs (i + 4))]) (rest := []) ⟨hx, hb, hml, hown, hts⟩ (xp_Law_only l hfl dC dI cI cL cB ad s.heap.size w (xs (i + 1)) (xs (i + 2)) (nI 1) (xs (i + 4)) (sC_0 hC) hB.1 hB.2 hQ) (vx_cwSW 5 hts (gI_S k_323 k_321 k_322 k_20) rfl rfl rfl (by decide +kernel) ⟨Nat.le_of_ble_eq_true rfl, Nat.le_of_ble_eq_true rfl⟩) (q_pre hK hAm hZ hN [.ref (ad 0), .int (xs (i + 1)), .int (xs (i + 2)), .int (nI 1), .int (xs (i + 4))]) rfl rfl hl.1 rfl (lv_room (Nat.le_of_ble_eq_true rfl)) d_Law_law_772 hc1) hZ (fun r u_r H locs h_r hZ => ?_)
        obtain ⟨e_r, e_u⟩ := h_r
        rw [e_u] at hZ
        refine q_topi (y := nI 2) e_r ?_
        refine lv_istore (lv' := [(5, .int (nI 2)), (4, .int (nI i)), (0, .ref b), (1, .ref (ad 0)), (2, .ref (ad 43)), (3, .ref (ad 51))]) hx hb d_Law_law_775 hl (by decide) rfl (fun ls hl => ?_)
        refine lv_aload_n hx hb d_Law_law_777 rfl (lv_at hl 4 rfl) ?_
        refine lv_aload_n hx hb d_Law_law_778 rfl (lv_at hl 2 rfl) ?_
        refine lv_iload hx hb d_Law_law_779 (lv_at hl 1 rfl) ?_
        refine lv_iconst (v := (nI 1)) hx hb d_Law_law_781 rfl ?_
        refine lv_iadd hx hb d_Law_law_782 ?_
        refine q_topi (y := nI (i + 1)) (nI_add _ _) ?_
        refine q_sld hx hb hX hbl hbA hZ.2.2 ((i + 1)) rfl (by omega) (by omega) d_Law_law_783 ?_
        refine lv_aload_n hx hb d_Law_law_784 rfl (lv_at hl 2 rfl) ?_
        refine lv_iload hx hb d_Law_law_785 (lv_at hl 1 rfl) ?_
        refine lv_iconst (v := (nI 2)) hx hb d_Law_law_787 rfl ?_
        refine lv_iadd hx hb d_Law_law_788 ?_
        refine q_topi (y := nI (i + 2)) (nI_add _ _) ?_
        refine q_sld hx hb hX hbl hbA hZ.2.2 ((i + 2)) rfl (by omega) (by omega) d_Law_law_789 ?_
        refine lv_aload_n hx hb d_Law_law_790 rfl (lv_at hl 2 rfl) ?_
        refine lv_iload hx hb d_Law_law_791 (lv_at hl 1 rfl) ?_
        refine lv_iconst (v := (nI 3)) hx hb d_Law_law_793 rfl ?_
        refine lv_iadd hx hb d_Law_law_794 ?_
        refine q_topi (y := nI (i + 3)) (nI_add _ _) ?_
        refine q_sld hx hb hX hbl hbA hZ.2.2 ((i + 3)) rfl (by omega) (by omega) d_Law_law_795 ?_
        refine lv_if_eq (tgt := 803) hx hb d_Law_law_796 (by decide) (fun h796 => ?_) (fun h796 => ?_)
        · skip
          exact absurd h796 h758
        · skip
          refine lv_iconst (v := (nI 1)) hx hb d_Law_law_799 rfl ?_
          refine lv_goto (tgt := 804) hx hb d_Law_law_800 (by decide) ?_
          refine lv_aload_n hx hb d_Law_law_804 rfl (lv_at hl 2 rfl) ?_
          refine lv_iload hx hb d_Law_law_805 (lv_at hl 1 rfl) ?_
          refine lv_iconst (v := (nI 4)) hx hb d_Law_law_807 rfl ?_
          refine lv_iadd hx hb d_Law_law_808 ?_
          refine q_topi (y := nI (i + 4)) (nI_add _ _) ?_
          refine q_sld hx hb hX hbl hbA hZ.2.2 ((i + 4)) rfl (by omega) (by omega) d_Law_law_809 ?_
          obtain ⟨fs43, h43⟩ := sM_43 hMM
          refine q_callv (va_runV (As := [.int (xs (i + 1)), .int (xs (i + 2)), .int (nI 1), .int (xs (i + 4))]) (rest := []) ⟨hx, hb, hml, hown, hts⟩ (x_Mod_only l dC dI cI cL cB ad s.heap.size w t0 F (xs (i + 1)) (xs (i + 2)) (nI 1) (xs (i + 4)) (nI 2) hMM (Or.inr ⟨⟨hB.1, hB.2, okB_0⟩, hQ, rfl⟩)) (cwV 4 hts (gI_V k_532 k_529 k_530 k_531 k_24) rfl rfl rfl (by decide +kernel) ⟨Nat.le_of_ble_eq_true rfl, Nat.le_of_ble_eq_true rfl⟩) (q_preV hK hAm hZ hN [.int (xs (i + 1)), .int (xs (i + 2)), .int (nI 1), .int (xs (i + 4))] (43) 3 (by decide) h43 rfl) rfl rfl hl.1 rfl (lv_room (Nat.le_of_ble_eq_true rfl)) d_Law_law_810 hc1) hZ (fun u_v H locs h_v hZ => ?_)
          obtain ⟨hfr, hres2⟩ := h_v
          have h51 := (hfr 51 (by omega)).trans h51
          have hMM := hres2
          have hC := sC_fr hC (fun x hx => hfr x (by omega))
          refine lv_aload_n hx hb d_Law_law_813 rfl (lv_at hl 4 rfl) ?_
          obtain ⟨fs43, h43⟩ := sM_43 hMM
          refine q_calli (va_runV (As := []) (rest := []) ⟨hx, hb, hml, hown, hts⟩ (c_Mod_thrown l dC dI cI cL cB ad s.heap.size u_v _ _ hMM) (cwV 0 hts (gI_V k_454 k_451 k_452 k_453 k_24) rfl rfl rfl (by decide +kernel) ⟨Nat.le_of_ble_eq_true rfl, Nat.le_of_ble_eq_true rfl⟩) (q_preV hK hAm hZ hN [] (43) 3 (by decide) h43 rfl) rfl rfl hl.1 rfl (lv_room (Nat.le_of_ble_eq_true rfl)) d_Law_law_814 hc1) hZ (fun th u_th H locs h_th hZ => ?_)
          obtain ⟨e_th, e_t⟩ := h_th
          rw [e_th] at hZ
          refine q_topi (y := nI 2) e_t ?_
          refine lv_iload hx hb d_Law_law_817 (lv_at hl 0 rfl) ?_
          refine lv_icmp_eq (tgt := 824) hx hb d_Law_law_819 (by decide) (fun h819 => ?_) (fun h819 => ?_)
          · skip
            have h819 : 2 = 2 := (nI_eq (a := 2) (b := 2) (by omega) (by omega)).mp h819
            refine lv_goto (tgt := 1486) hx hb d_Law_law_824 (by decide) ?_
            exact K _ _ _ _ _ _ _ hC hMM h51 hZ (lv_sub hl [1, 2, 3, 4, 5] rfl)
          · skip
            have h819 : ¬ 2 = 2 := fun z9 => h819 ((nI_eq (a := 2) (b := 2) (by omega) (by omega)).mpr z9)
            exact absurd h819 (by decide)
  · skip
    refine lv_aload_n hx hb d_Law_law_739 rfl (lv_at hl 2 rfl) ?_
    refine lv_aload_n hx hb d_Law_law_740 rfl (lv_at hl 1 rfl) ?_
    refine lv_iload hx hb d_Law_law_741 (lv_at hl 0 rfl) ?_
    refine lv_iconst (v := (nI 1)) hx hb d_Law_law_743 rfl ?_
    refine lv_iadd hx hb d_Law_law_744 ?_
    refine q_topi (y := nI (i + 1)) (nI_add _ _) ?_
    refine q_sld hx hb hX hbl hbA hZ.2.2 ((i + 1)) rfl (by omega) (by omega) d_Law_law_745 ?_
    refine lv_aload_n hx hb d_Law_law_746 rfl (lv_at hl 1 rfl) ?_
    refine lv_iload hx hb d_Law_law_747 (lv_at hl 0 rfl) ?_
    refine lv_iconst (v := (nI 2)) hx hb d_Law_law_749 rfl ?_
    refine lv_iadd hx hb d_Law_law_750 ?_
    refine q_topi (y := nI (i + 2)) (nI_add _ _) ?_
    refine q_sld hx hb hX hbl hbA hZ.2.2 ((i + 2)) rfl (by omega) (by omega) d_Law_law_751 ?_
    refine lv_aload_n hx hb d_Law_law_752 rfl (lv_at hl 1 rfl) ?_
    refine lv_iload hx hb d_Law_law_753 (lv_at hl 0 rfl) ?_
    refine lv_iconst (v := (nI 3)) hx hb d_Law_law_755 rfl ?_
    refine lv_iadd hx hb d_Law_law_756 ?_
    refine q_topi (y := nI (i + 3)) (nI_add _ _) ?_
    refine q_sld hx hb hX hbl hbA hZ.2.2 ((i + 3)) rfl (by omega) (by omega) d_Law_law_757 ?_
    refine lv_if_eq (tgt := 765) hx hb d_Law_law_758 (by decide) (fun h758 => ?_) (fun h758 => ?_)
    · skip
      refine lv_iconst (v := (nI 0)) hx hb d_Law_law_765 rfl ?_
      refine lv_aload_n hx hb d_Law_law_766 rfl (lv_at hl 1 rfl) ?_
      refine lv_iload hx hb d_Law_law_767 (lv_at hl 0 rfl) ?_
      refine lv_iconst (v := (nI 4)) hx hb d_Law_law_769 rfl ?_
      refine lv_iadd hx hb d_Law_law_770 ?_
      refine q_topi (y := nI (i + 4)) (nI_add _ _) ?_
      refine q_sld hx hb hX hbl hbA hZ.2.2 ((i + 4)) rfl (by omega) (by omega) d_Law_law_771 ?_
      refine q_calliX (vx_runSW (As := [.ref (ad 0), .int (xs (i + 1)), .int (xs (i + 2)), .int (nI 0), .int (xs (i + 4))]) (rest := []) ⟨hx, hb, hml, hown, hts⟩ (xb_Law_only l hfl dC dI cI cL cB ad s.heap.size w (xs (i + 1)) (xs (i + 2)) (nI 0) (xs (i + 4)) (sC_0 hC) hB) (vx_cwSW 5 hts (gI_S k_323 k_321 k_322 k_20) rfl rfl rfl (by decide +kernel) ⟨Nat.le_of_ble_eq_true rfl, Nat.le_of_ble_eq_true rfl⟩) (q_pre hK hAm hZ hN [.ref (ad 0), .int (xs (i + 1)), .int (xs (i + 2)), .int (nI 0), .int (xs (i + 4))]) rfl rfl hl.1 rfl (lv_room (Nat.le_of_ble_eq_true rfl)) d_Law_law_772 hc1) hZ (fun r u_r H locs h_r hZ => ?_)
      obtain ⟨e_r, e_u⟩ := h_r
      rw [e_u] at hZ
      refine q_topi (y := nI 1) e_r ?_
      refine lv_istore (lv' := [(5, .int (nI 1)), (4, .int (nI i)), (0, .ref b), (1, .ref (ad 0)), (2, .ref (ad 43)), (3, .ref (ad 51))]) hx hb d_Law_law_775 hl (by decide) rfl (fun ls hl => ?_)
      refine lv_aload_n hx hb d_Law_law_777 rfl (lv_at hl 4 rfl) ?_
      refine lv_aload_n hx hb d_Law_law_778 rfl (lv_at hl 2 rfl) ?_
      refine lv_iload hx hb d_Law_law_779 (lv_at hl 1 rfl) ?_
      refine lv_iconst (v := (nI 1)) hx hb d_Law_law_781 rfl ?_
      refine lv_iadd hx hb d_Law_law_782 ?_
      refine q_topi (y := nI (i + 1)) (nI_add _ _) ?_
      refine q_sld hx hb hX hbl hbA hZ.2.2 ((i + 1)) rfl (by omega) (by omega) d_Law_law_783 ?_
      refine lv_aload_n hx hb d_Law_law_784 rfl (lv_at hl 2 rfl) ?_
      refine lv_iload hx hb d_Law_law_785 (lv_at hl 1 rfl) ?_
      refine lv_iconst (v := (nI 2)) hx hb d_Law_law_787 rfl ?_
      refine lv_iadd hx hb d_Law_law_788 ?_
      refine q_topi (y := nI (i + 2)) (nI_add _ _) ?_
      refine q_sld hx hb hX hbl hbA hZ.2.2 ((i + 2)) rfl (by omega) (by omega) d_Law_law_789 ?_
      refine lv_aload_n hx hb d_Law_law_790 rfl (lv_at hl 2 rfl) ?_
      refine lv_iload hx hb d_Law_law_791 (lv_at hl 1 rfl) ?_
      refine lv_iconst (v := (nI 3)) hx hb d_Law_law_793 rfl ?_
      refine lv_iadd hx hb d_Law_law_794 ?_
      refine q_topi (y := nI (i + 3)) (nI_add _ _) ?_
      refine q_sld hx hb hX hbl hbA hZ.2.2 ((i + 3)) rfl (by omega) (by omega) d_Law_law_795 ?_
      refine lv_if_eq (tgt := 803) hx hb d_Law_law_796 (by decide) (fun h796 => ?_) (fun h796 => ?_)
      · skip
        refine lv_iconst (v := (nI 0)) hx hb d_Law_law_803 rfl ?_
        refine lv_aload_n hx hb d_Law_law_804 rfl (lv_at hl 2 rfl) ?_
        refine lv_iload hx hb d_Law_law_805 (lv_at hl 1 rfl) ?_
        refine lv_iconst (v := (nI 4)) hx hb d_Law_law_807 rfl ?_
        refine lv_iadd hx hb d_Law_law_808 ?_
        refine q_topi (y := nI (i + 4)) (nI_add _ _) ?_
        refine q_sld hx hb hX hbl hbA hZ.2.2 ((i + 4)) rfl (by omega) (by omega) d_Law_law_809 ?_
        obtain ⟨fs43, h43⟩ := sM_43 hMM
        refine q_callv (va_runV (As := [.int (xs (i + 1)), .int (xs (i + 2)), .int (nI 0), .int (xs (i + 4))]) (rest := []) ⟨hx, hb, hml, hown, hts⟩ (x_Mod_only l dC dI cI cL cB ad s.heap.size w t0 F (xs (i + 1)) (xs (i + 2)) (nI 0) (xs (i + 4)) (nI 1) hMM (Or.inl ⟨fun z => hB ⟨z.1, z.2.1⟩, rfl⟩)) (cwV 4 hts (gI_V k_532 k_529 k_530 k_531 k_24) rfl rfl rfl (by decide +kernel) ⟨Nat.le_of_ble_eq_true rfl, Nat.le_of_ble_eq_true rfl⟩) (q_preV hK hAm hZ hN [.int (xs (i + 1)), .int (xs (i + 2)), .int (nI 0), .int (xs (i + 4))] (43) 3 (by decide) h43 rfl) rfl rfl hl.1 rfl (lv_room (Nat.le_of_ble_eq_true rfl)) d_Law_law_810 hc1) hZ (fun u_v H locs h_v hZ => ?_)
        obtain ⟨hfr, hres2⟩ := h_v
        have h51 := (hfr 51 (by omega)).trans h51
        have hMM := hres2
        have hC := sC_fr hC (fun x hx => hfr x (by omega))
        refine lv_aload_n hx hb d_Law_law_813 rfl (lv_at hl 4 rfl) ?_
        obtain ⟨fs43, h43⟩ := sM_43 hMM
        refine q_calli (va_runV (As := []) (rest := []) ⟨hx, hb, hml, hown, hts⟩ (c_Mod_thrown l dC dI cI cL cB ad s.heap.size u_v _ _ hMM) (cwV 0 hts (gI_V k_454 k_451 k_452 k_453 k_24) rfl rfl rfl (by decide +kernel) ⟨Nat.le_of_ble_eq_true rfl, Nat.le_of_ble_eq_true rfl⟩) (q_preV hK hAm hZ hN [] (43) 3 (by decide) h43 rfl) rfl rfl hl.1 rfl (lv_room (Nat.le_of_ble_eq_true rfl)) d_Law_law_814 hc1) hZ (fun th u_th H locs h_th hZ => ?_)
        obtain ⟨e_th, e_t⟩ := h_th
        rw [e_th] at hZ
        refine q_topi (y := nI 1) e_t ?_
        refine lv_iload hx hb d_Law_law_817 (lv_at hl 0 rfl) ?_
        refine lv_icmp_eq (tgt := 824) hx hb d_Law_law_819 (by decide) (fun h819 => ?_) (fun h819 => ?_)
        · skip
          have h819 : 1 = 1 := (nI_eq (a := 1) (b := 1) (by omega) (by omega)).mp h819
          refine lv_goto (tgt := 1486) hx hb d_Law_law_824 (by decide) ?_
          exact K _ _ _ _ _ _ _ hC hMM h51 hZ (lv_sub hl [1, 2, 3, 4, 5] rfl)
        · skip
          have h819 : ¬ 1 = 1 := fun z9 => h819 ((nI_eq (a := 1) (b := 1) (by omega) (by omega)).mpr z9)
          exact absurd h819 (by decide)
      · skip
        exact absurd h758 h796
    · skip
      refine lv_iconst (v := (nI 1)) hx hb d_Law_law_761 rfl ?_
      refine lv_goto (tgt := 766) hx hb d_Law_law_762 (by decide) ?_
      refine lv_aload_n hx hb d_Law_law_766 rfl (lv_at hl 1 rfl) ?_
      refine lv_iload hx hb d_Law_law_767 (lv_at hl 0 rfl) ?_
      refine lv_iconst (v := (nI 4)) hx hb d_Law_law_769 rfl ?_
      refine lv_iadd hx hb d_Law_law_770 ?_
      refine q_topi (y := nI (i + 4)) (nI_add _ _) ?_
      refine q_sld hx hb hX hbl hbA hZ.2.2 ((i + 4)) rfl (by omega) (by omega) d_Law_law_771 ?_
      refine q_calliX (vx_runSW (As := [.ref (ad 0), .int (xs (i + 1)), .int (xs (i + 2)), .int (nI 1), .int (xs (i + 4))]) (rest := []) ⟨hx, hb, hml, hown, hts⟩ (xb_Law_only l hfl dC dI cI cL cB ad s.heap.size w (xs (i + 1)) (xs (i + 2)) (nI 1) (xs (i + 4)) (sC_0 hC) hB) (vx_cwSW 5 hts (gI_S k_323 k_321 k_322 k_20) rfl rfl rfl (by decide +kernel) ⟨Nat.le_of_ble_eq_true rfl, Nat.le_of_ble_eq_true rfl⟩) (q_pre hK hAm hZ hN [.ref (ad 0), .int (xs (i + 1)), .int (xs (i + 2)), .int (nI 1), .int (xs (i + 4))]) rfl rfl hl.1 rfl (lv_room (Nat.le_of_ble_eq_true rfl)) d_Law_law_772 hc1) hZ (fun r u_r H locs h_r hZ => ?_)
      obtain ⟨e_r, e_u⟩ := h_r
      rw [e_u] at hZ
      refine q_topi (y := nI 1) e_r ?_
      refine lv_istore (lv' := [(5, .int (nI 1)), (4, .int (nI i)), (0, .ref b), (1, .ref (ad 0)), (2, .ref (ad 43)), (3, .ref (ad 51))]) hx hb d_Law_law_775 hl (by decide) rfl (fun ls hl => ?_)
      refine lv_aload_n hx hb d_Law_law_777 rfl (lv_at hl 4 rfl) ?_
      refine lv_aload_n hx hb d_Law_law_778 rfl (lv_at hl 2 rfl) ?_
      refine lv_iload hx hb d_Law_law_779 (lv_at hl 1 rfl) ?_
      refine lv_iconst (v := (nI 1)) hx hb d_Law_law_781 rfl ?_
      refine lv_iadd hx hb d_Law_law_782 ?_
      refine q_topi (y := nI (i + 1)) (nI_add _ _) ?_
      refine q_sld hx hb hX hbl hbA hZ.2.2 ((i + 1)) rfl (by omega) (by omega) d_Law_law_783 ?_
      refine lv_aload_n hx hb d_Law_law_784 rfl (lv_at hl 2 rfl) ?_
      refine lv_iload hx hb d_Law_law_785 (lv_at hl 1 rfl) ?_
      refine lv_iconst (v := (nI 2)) hx hb d_Law_law_787 rfl ?_
      refine lv_iadd hx hb d_Law_law_788 ?_
      refine q_topi (y := nI (i + 2)) (nI_add _ _) ?_
      refine q_sld hx hb hX hbl hbA hZ.2.2 ((i + 2)) rfl (by omega) (by omega) d_Law_law_789 ?_
      refine lv_aload_n hx hb d_Law_law_790 rfl (lv_at hl 2 rfl) ?_
      refine lv_iload hx hb d_Law_law_791 (lv_at hl 1 rfl) ?_
      refine lv_iconst (v := (nI 3)) hx hb d_Law_law_793 rfl ?_
      refine lv_iadd hx hb d_Law_law_794 ?_
      refine q_topi (y := nI (i + 3)) (nI_add _ _) ?_
      refine q_sld hx hb hX hbl hbA hZ.2.2 ((i + 3)) rfl (by omega) (by omega) d_Law_law_795 ?_
      refine lv_if_eq (tgt := 803) hx hb d_Law_law_796 (by decide) (fun h796 => ?_) (fun h796 => ?_)
      · skip
        exact absurd h796 h758
      · skip
        refine lv_iconst (v := (nI 1)) hx hb d_Law_law_799 rfl ?_
        refine lv_goto (tgt := 804) hx hb d_Law_law_800 (by decide) ?_
        refine lv_aload_n hx hb d_Law_law_804 rfl (lv_at hl 2 rfl) ?_
        refine lv_iload hx hb d_Law_law_805 (lv_at hl 1 rfl) ?_
        refine lv_iconst (v := (nI 4)) hx hb d_Law_law_807 rfl ?_
        refine lv_iadd hx hb d_Law_law_808 ?_
        refine q_topi (y := nI (i + 4)) (nI_add _ _) ?_
        refine q_sld hx hb hX hbl hbA hZ.2.2 ((i + 4)) rfl (by omega) (by omega) d_Law_law_809 ?_
        obtain ⟨fs43, h43⟩ := sM_43 hMM
        refine q_callv (va_runV (As := [.int (xs (i + 1)), .int (xs (i + 2)), .int (nI 1), .int (xs (i + 4))]) (rest := []) ⟨hx, hb, hml, hown, hts⟩ (x_Mod_only l dC dI cI cL cB ad s.heap.size w t0 F (xs (i + 1)) (xs (i + 2)) (nI 1) (xs (i + 4)) (nI 1) hMM (Or.inl ⟨fun z => hB ⟨z.1, z.2.1⟩, rfl⟩)) (cwV 4 hts (gI_V k_532 k_529 k_530 k_531 k_24) rfl rfl rfl (by decide +kernel) ⟨Nat.le_of_ble_eq_true rfl, Nat.le_of_ble_eq_true rfl⟩) (q_preV hK hAm hZ hN [.int (xs (i + 1)), .int (xs (i + 2)), .int (nI 1), .int (xs (i + 4))] (43) 3 (by decide) h43 rfl) rfl rfl hl.1 rfl (lv_room (Nat.le_of_ble_eq_true rfl)) d_Law_law_810 hc1) hZ (fun u_v H locs h_v hZ => ?_)
        obtain ⟨hfr, hres2⟩ := h_v
        have h51 := (hfr 51 (by omega)).trans h51
        have hMM := hres2
        have hC := sC_fr hC (fun x hx => hfr x (by omega))
        refine lv_aload_n hx hb d_Law_law_813 rfl (lv_at hl 4 rfl) ?_
        obtain ⟨fs43, h43⟩ := sM_43 hMM
        refine q_calli (va_runV (As := []) (rest := []) ⟨hx, hb, hml, hown, hts⟩ (c_Mod_thrown l dC dI cI cL cB ad s.heap.size u_v _ _ hMM) (cwV 0 hts (gI_V k_454 k_451 k_452 k_453 k_24) rfl rfl rfl (by decide +kernel) ⟨Nat.le_of_ble_eq_true rfl, Nat.le_of_ble_eq_true rfl⟩) (q_preV hK hAm hZ hN [] (43) 3 (by decide) h43 rfl) rfl rfl hl.1 rfl (lv_room (Nat.le_of_ble_eq_true rfl)) d_Law_law_814 hc1) hZ (fun th u_th H locs h_th hZ => ?_)
        obtain ⟨e_th, e_t⟩ := h_th
        rw [e_th] at hZ
        refine q_topi (y := nI 1) e_t ?_
        refine lv_iload hx hb d_Law_law_817 (lv_at hl 0 rfl) ?_
        refine lv_icmp_eq (tgt := 824) hx hb d_Law_law_819 (by decide) (fun h819 => ?_) (fun h819 => ?_)
        · skip
          have h819 : 1 = 1 := (nI_eq (a := 1) (b := 1) (by omega) (by omega)).mp h819
          refine lv_goto (tgt := 1486) hx hb d_Law_law_824 (by decide) ?_
          exact K _ _ _ _ _ _ _ hC hMM h51 hZ (lv_sub hl [1, 2, 3, 4, 5] rfl)
        · skip
          have h819 : ¬ 1 = 1 := fun z9 => h819 ((nI_eq (a := 1) (b := 1) (by omega) (by omega)).mpr z9)
          exact absurd h819 (by decide)
set_option maxHeartbeats 4000000 in
set_option maxRecDepth 100000 in
/-- at -/
theorem law_10 {p : Program} {e : Env} {s : State} {m : MethodId} {below : List Frame} {meth : Method} {c : Code} (l : Launch) (hfl : l.stackTraces = false) {b L : Nat} {xs : Nat → Int32} (C0 : lw_At p s m meth c b L xs) (dC : Nat → ClassId) (dI : Nat → Nat → Nat) (cI cL cB : ClassId) (ad : Nat → Nat) (hK : va_K (dC, dI) vCl [(cI, .int), (cL, .long), (cB, .object "CoinBag$Bag")] s) (hAm : sAm s.heap.size s) (i : Nat) (hi : i + 7 ≤ L) (hL : L ≤ 3584) (cells slots : Nat) (hc1 : cells + 1 ≤ room_1.cells ∧ slots + 6 ≤ room_1.slots) (K : lawK p l e s m below meth c b dC dI cI cL cB ad i (cells + 1) (slots + 6)) (w : Nat → va_E) (F : Nat → Int → Int64) (o : Nat → Int64) (t0 : Int32) (H : Heap) (locs : List Loc) (ls : Array Slot) (hC : sC ad cI cL cB w F) (hMM : sM ad cI cL w t0 F) (h51 : w 51 = .inl (cL, 1, .inr (.inl o))) (hZ : sZ (dC, dI) vCl 52 ad (fun q => s.heap.size ≤ q) s.heap w H locs) (hl : lv_has ls 8 [(4, .int (nI i)), (0, .ref b), (1, .ref (ad 0)), (2, .ref (ad 43)), (3, .ref (ad 51))]) : W p l e room_1 s m #[Value.ref b] below meth c H locs cells slots (lw_Z below #[Value.ref b] s) (F0 m 1117 ls []) := by
  obtain ⟨hx, hb, hr, hml, hown, hts0, hX, hbl, hlocks, hgv⟩ := id C0
  have hts := law_hts hts0
  have hN : s.heap.size ≤ s.heap.size := Nat.le_refl _
  have hbA : ¬ (fun q => s.heap.size ≤ q) b := Nat.not_le.mpr hbl
  have hc0 : cells + 0 ≤ room_1.cells ∧ slots + 0 ≤ room_1.slots := ⟨Nat.le_trans (Nat.le_succ _) hc1.1, Nat.le_trans (by omega) hc1.2⟩
  by_cases hB : okB (xs (i + 1))
  · skip
    obtain ⟨j1, hj1, ej1⟩ := okB_nat hB
    obtain ⟨n1, kn, hn1, hen, hfn⟩ := sM_n hMM hj1
    by_cases hKK : (¬ xs (i + 2) < 0 ∧ xs (i + 2) < nI n1) ∧ (xs (i + 3) = 0 ∨ xs (i + 3) = 1 ∨ xs (i + 3) = 2)
    · skip
      obtain ⟨⟨hk1, hk2⟩, hk3⟩ := hKK
      obtain ⟨i0, hi0, ei0⟩ := nI_of hk1
      have hin : i0 < n1 := (nI_ltI hi0 (by omega)).mp (by rw [← ei0]; exact hk2)
      obtain ⟨wh, hwh, ewh⟩ := wh_of hk3
      refine lv_aload_n hx hb d_Law_law_1117 rfl (lv_at hl 2 rfl) ?_
      refine lv_aload_n hx hb d_Law_law_1118 rfl (lv_at hl 1 rfl) ?_
      refine lv_iload hx hb d_Law_law_1119 (lv_at hl 0 rfl) ?_
      refine lv_iconst (v := (nI 1)) hx hb d_Law_law_1121 rfl ?_
      refine lv_iadd hx hb d_Law_law_1122 ?_
      refine q_topi (y := nI (i + 1)) (nI_add _ _) ?_
      refine q_sld hx hb hX hbl hbA hZ.2.2 ((i + 1)) rfl (by omega) (by omega) d_Law_law_1123 ?_
      refine q_topi (y := nI j1) ej1 ?_
      refine lv_aload_n hx hb d_Law_law_1124 rfl (lv_at hl 1 rfl) ?_
      refine lv_iload hx hb d_Law_law_1125 (lv_at hl 0 rfl) ?_
      refine lv_iconst (v := (nI 2)) hx hb d_Law_law_1127 rfl ?_
      refine lv_iadd hx hb d_Law_law_1128 ?_
      refine q_topi (y := nI (i + 2)) (nI_add _ _) ?_
      refine q_sld hx hb hX hbl hbA hZ.2.2 ((i + 2)) rfl (by omega) (by omega) d_Law_law_1129 ?_
      refine q_topi (y := nI i0) ei0 ?_
      refine lv_aload_n hx hb d_Law_law_1130 rfl (lv_at hl 1 rfl) ?_
      refine lv_iload hx hb d_Law_law_1131 (lv_at hl 0 rfl) ?_
      refine lv_iconst (v := (nI 3)) hx hb d_Law_law_1133 rfl ?_
      refine lv_iadd hx hb d_Law_law_1134 ?_
      refine q_topi (y := nI (i + 3)) (nI_add _ _) ?_
      refine q_sld hx hb hX hbl hbA hZ.2.2 ((i + 3)) rfl (by omega) (by omega) d_Law_law_1135 ?_
      refine q_topi (y := nI wh) ewh ?_
      refine lv_aload_n hx hb d_Law_law_1136 rfl (lv_at hl 4 rfl) ?_
      refine q_calli (vx_runSW (As := [.ref (ad 0), .int (nI j1), .int (nI i0), .int (nI wh), .ref (ad 51)]) (rest := []) ⟨hx, hb, hml, hown, hts⟩ (c_Law_at l dC dI cI cL cB ad s.heap.size w F j1 i0 wh n1 kn o hC hj1 hen hfn hin hwh h51) (vx_cwSW 5 hts (gI_S k_358 k_356 k_357 k_20) rfl rfl rfl (by decide +kernel) ⟨Nat.le_of_ble_eq_true rfl, Nat.le_of_ble_eq_true rfl⟩) (q_pre hK hAm hZ hN [.ref (ad 0), .int (nI j1), .int (nI i0), .int (nI wh), .ref (ad 51)]) rfl rfl hl.1 rfl (lv_room (Nat.le_of_ble_eq_true rfl)) d_Law_law_1137 hc0) hZ (fun r u_r H locs h_r hZ => ?_)
      obtain ⟨e_r, hkp, o2, h51, hres⟩ := h_r
      have hMM := sM_fr hMM (fun x h1 h2 => hkp x (by omega) (by omega))
      refine q_topi (y := nI 0) e_r ?_
      obtain ⟨hC, hres⟩ := hres
      obtain ⟨z2, P2, N2, A2, hRc, hiz, hr1⟩ := hres
      refine lv_istore (lv' := [(5, .int (nI 0)), (4, .int (nI i)), (0, .ref b), (1, .ref (ad 0)), (2, .ref (ad 43)), (3, .ref (ad 51))]) hx hb d_Law_law_1140 hl (by decide) rfl (fun ls hl => ?_)
      refine lv_aload_n hx hb d_Law_law_1142 rfl (lv_at hl 4 rfl) ?_
      refine lv_aload_n hx hb d_Law_law_1143 rfl (lv_at hl 2 rfl) ?_
      refine lv_iload hx hb d_Law_law_1144 (lv_at hl 1 rfl) ?_
      refine lv_iconst (v := (nI 1)) hx hb d_Law_law_1146 rfl ?_
      refine lv_iadd hx hb d_Law_law_1147 ?_
      refine q_topi (y := nI (i + 1)) (nI_add _ _) ?_
      refine q_sld hx hb hX hbl hbA hZ.2.2 ((i + 1)) rfl (by omega) (by omega) d_Law_law_1148 ?_
      refine q_topi (y := nI j1) ej1 ?_
      refine lv_aload_n hx hb d_Law_law_1149 rfl (lv_at hl 2 rfl) ?_
      refine lv_iload hx hb d_Law_law_1150 (lv_at hl 1 rfl) ?_
      refine lv_iconst (v := (nI 2)) hx hb d_Law_law_1152 rfl ?_
      refine lv_iadd hx hb d_Law_law_1153 ?_
      refine q_topi (y := nI (i + 2)) (nI_add _ _) ?_
      refine q_sld hx hb hX hbl hbA hZ.2.2 ((i + 2)) rfl (by omega) (by omega) d_Law_law_1154 ?_
      refine q_topi (y := nI i0) ei0 ?_
      refine lv_aload_n hx hb d_Law_law_1155 rfl (lv_at hl 2 rfl) ?_
      refine lv_iload hx hb d_Law_law_1156 (lv_at hl 1 rfl) ?_
      refine lv_iconst (v := (nI 3)) hx hb d_Law_law_1158 rfl ?_
      refine lv_iadd hx hb d_Law_law_1159 ?_
      refine q_topi (y := nI (i + 3)) (nI_add _ _) ?_
      refine q_sld hx hb hX hbl hbA hZ.2.2 ((i + 3)) rfl (by omega) (by omega) d_Law_law_1160 ?_
      refine q_topi (y := nI wh) ewh ?_
      obtain ⟨fs43, h43⟩ := sM_43 hMM
      refine q_calll (va_runV (As := [.int (nI j1), .int (nI i0), .int (nI wh)]) (rest := []) ⟨hx, hb, hml, hown, hts⟩ (c_Mod_at l dC dI cI cL cB ad s.heap.size u_r t0 F j1 i0 wh z2 P2 N2 A2 hMM hj1 hRc hiz hwh) (cwV 3 hts (gI_V k_556 k_553 k_554 k_555 k_24) rfl rfl rfl (by decide +kernel) ⟨Nat.le_of_ble_eq_true rfl, Nat.le_of_ble_eq_true rfl⟩) (q_preV hK hAm hZ hN [.int (nI j1), .int (nI i0), .int (nI wh)] (43) 3 (by decide) h43 rfl) rfl rfl hl.1 rfl (lv_room (Nat.le_of_ble_eq_true rfl)) d_Law_law_1161 hc0) hZ (fun v u_v H locs h_v hZ => ?_)
      obtain ⟨hfr, hres2⟩ := h_v
      have h51 := (hfr 51 (by omega)).trans h51
      obtain ⟨hMM, hres2⟩ := hres2
      have hC := sC_fr hC (fun x hx => hfr x (by omega))
      refine lv_lstore (lv' := [(6, .long v), (5, .int (nI 0)), (4, .int (nI i)), (0, .ref b), (1, .ref (ad 0)), (2, .ref (ad 43)), (3, .ref (ad 51))]) hx hb d_Law_law_1164 hl (by decide) rfl (fun ls hl => ?_)
      refine lv_aload_n hx hb d_Law_law_1166 rfl (lv_at hl 5 rfl) ?_
      obtain ⟨fs43, h43⟩ := sM_43 hMM
      refine q_calli (va_runV (As := []) (rest := []) ⟨hx, hb, hml, hown, hts⟩ (c_Mod_thrown l dC dI cI cL cB ad s.heap.size u_v _ _ hMM) (cwV 0 hts (gI_V k_454 k_451 k_452 k_453 k_24) rfl rfl rfl (by decide +kernel) ⟨Nat.le_of_ble_eq_true rfl, Nat.le_of_ble_eq_true rfl⟩) (q_preV hK hAm hZ hN [] (43) 3 (by decide) h43 rfl) rfl rfl hl.1 rfl (lv_room (Nat.le_of_ble_eq_true rfl)) d_Law_law_1167 hc0) hZ (fun th u_th H locs h_th hZ => ?_)
      obtain ⟨e_th, e_t⟩ := h_th
      rw [e_th] at hZ
      refine q_topi (y := nI 0) e_t ?_
      refine lv_iload hx hb d_Law_law_1170 (lv_at hl 1 rfl) ?_
      refine lv_icmp_eq (tgt := 1177) hx hb d_Law_law_1172 (by decide) (fun h1172 => ?_) (fun h1172 => ?_)
      · skip
        have h1172 : 0 = 0 := (nI_eq (a := 0) (b := 0) (by omega) (by omega)).mp h1172
        refine lv_iload hx hb d_Law_law_1177 (lv_at hl 1 rfl) ?_
        refine lv_if_ne (tgt := 1193) hx hb d_Law_law_1179 (by decide) (fun h1179 => ?_) (fun h1179 => ?_)
        · skip
          have h1179 : ¬ 0 = 0 := fun z9 => h1179 ((nI_eq (a := 0) (b := 0) (by omega) (by omega)).mpr z9)
          exact absurd h1179 (by decide)
        · skip
          have h1179 : 0 = 0 := (nI_eq (a := 0) (b := 0) (by omega) (by omega)).mp h1179
          refine lv_aload_n hx hb d_Law_law_1182 rfl (lv_at hl 6 rfl) ?_
          refine lv_iconst (v := (nI 0)) hx hb d_Law_law_1183 rfl ?_
          refine q_lald hx hb hK hZ (51) 1 (0) (by decide) h51 rfl rfl (by omega) (by decide) d_Law_law_1184 ?_
          refine lv_lload hx hb d_Law_law_1185 (lv_at hl 0 rfl) ?_
          refine W.lcmp hx hb d_Law_law_1187 ?_
          refine lv_if_eq (tgt := 1193) hx hb d_Law_law_1188 (by decide) (fun h1188 => ?_) (fun h1188 => ?_)
          · skip
            rw [lg_cmp_eq] at h1188
            refine lv_goto (tgt := 1486) hx hb d_Law_law_1193 (by decide) ?_
            refine W.widen (k := cells + 1) (n := slots + 6) (by omega) (by omega) ?_
            exact K _ _ _ _ _ _ _ hC hMM h51 hZ (lv_sub hl [2, 3, 4, 5, 6] rfl)
          · skip
            rw [lg_cmp_eq] at h1188
            exact absurd (atR_eq hr1 hres2) h1188
      · skip
        have h1172 : ¬ 0 = 0 := fun z9 => h1172 ((nI_eq (a := 0) (b := 0) (by omega) (by omega)).mpr z9)
        exact absurd h1172 (by decide)
    · skip
      refine lv_aload_n hx hb d_Law_law_1117 rfl (lv_at hl 2 rfl) ?_
      refine lv_aload_n hx hb d_Law_law_1118 rfl (lv_at hl 1 rfl) ?_
      refine lv_iload hx hb d_Law_law_1119 (lv_at hl 0 rfl) ?_
      refine lv_iconst (v := (nI 1)) hx hb d_Law_law_1121 rfl ?_
      refine lv_iadd hx hb d_Law_law_1122 ?_
      refine q_topi (y := nI (i + 1)) (nI_add _ _) ?_
      refine q_sld hx hb hX hbl hbA hZ.2.2 ((i + 1)) rfl (by omega) (by omega) d_Law_law_1123 ?_
      refine q_topi (y := nI j1) ej1 ?_
      refine lv_aload_n hx hb d_Law_law_1124 rfl (lv_at hl 1 rfl) ?_
      refine lv_iload hx hb d_Law_law_1125 (lv_at hl 0 rfl) ?_
      refine lv_iconst (v := (nI 2)) hx hb d_Law_law_1127 rfl ?_
      refine lv_iadd hx hb d_Law_law_1128 ?_
      refine q_topi (y := nI (i + 2)) (nI_add _ _) ?_
      refine q_sld hx hb hX hbl hbA hZ.2.2 ((i + 2)) rfl (by omega) (by omega) d_Law_law_1129 ?_
      refine lv_aload_n hx hb d_Law_law_1130 rfl (lv_at hl 1 rfl) ?_
      refine lv_iload hx hb d_Law_law_1131 (lv_at hl 0 rfl) ?_
      refine lv_iconst (v := (nI 3)) hx hb d_Law_law_1133 rfl ?_
      refine lv_iadd hx hb d_Law_law_1134 ?_
      refine q_topi (y := nI (i + 3)) (nI_add _ _) ?_
      refine q_sld hx hb hX hbl hbA hZ.2.2 ((i + 3)) rfl (by omega) (by omega) d_Law_law_1135 ?_
      refine lv_aload_n hx hb d_Law_law_1136 rfl (lv_at hl 4 rfl) ?_
      refine q_calliX (vx_runSW (As := [.ref (ad 0), .int (nI j1), .int (xs (i + 2)), .int (xs (i + 3)), .ref (ad 51)]) (rest := []) ⟨hx, hb, hml, hown, hts⟩ (xk_Law_at l hfl dC dI cI cL cB ad s.heap.size w F j1 n1 kn (xs (i + 2)) (xs (i + 3)) hC hj1 hen hfn hKK) (vx_cwSW 5 hts (gI_S k_358 k_356 k_357 k_20) rfl rfl rfl (by decide +kernel) ⟨Nat.le_of_ble_eq_true rfl, Nat.le_of_ble_eq_true rfl⟩) (q_pre hK hAm hZ hN [.ref (ad 0), .int (nI j1), .int (xs (i + 2)), .int (xs (i + 3)), .ref (ad 51)]) rfl rfl hl.1 rfl (lv_room (Nat.le_of_ble_eq_true rfl)) d_Law_law_1137 hc1) hZ (fun r u_r H locs h_r hZ => ?_)
      obtain ⟨e_r, e_u⟩ := h_r
      rw [e_u] at hZ
      refine q_topi (y := nI 1) e_r ?_
      refine lv_istore (lv' := [(5, .int (nI 1)), (4, .int (nI i)), (0, .ref b), (1, .ref (ad 0)), (2, .ref (ad 43)), (3, .ref (ad 51))]) hx hb d_Law_law_1140 hl (by decide) rfl (fun ls hl => ?_)
      refine lv_aload_n hx hb d_Law_law_1142 rfl (lv_at hl 4 rfl) ?_
      refine lv_aload_n hx hb d_Law_law_1143 rfl (lv_at hl 2 rfl) ?_
      refine lv_iload hx hb d_Law_law_1144 (lv_at hl 1 rfl) ?_
      refine lv_iconst (v := (nI 1)) hx hb d_Law_law_1146 rfl ?_
      refine lv_iadd hx hb d_Law_law_1147 ?_
      refine q_topi (y := nI (i + 1)) (nI_add _ _) ?_
      refine q_sld hx hb hX hbl hbA hZ.2.2 ((i + 1)) rfl (by omega) (by omega) d_Law_law_1148 ?_
      refine q_topi (y := nI j1) ej1 ?_
      refine lv_aload_n hx hb d_Law_law_1149 rfl (lv_at hl 2 rfl) ?_
      refine lv_iload hx hb d_Law_law_1150 (lv_at hl 1 rfl) ?_
      refine lv_iconst (v := (nI 2)) hx hb d_Law_law_1152 rfl ?_
      refine lv_iadd hx hb d_Law_law_1153 ?_
      refine q_topi (y := nI (i + 2)) (nI_add _ _) ?_
      refine q_sld hx hb hX hbl hbA hZ.2.2 ((i + 2)) rfl (by omega) (by omega) d_Law_law_1154 ?_
      refine lv_aload_n hx hb d_Law_law_1155 rfl (lv_at hl 2 rfl) ?_
      refine lv_iload hx hb d_Law_law_1156 (lv_at hl 1 rfl) ?_
      refine lv_iconst (v := (nI 3)) hx hb d_Law_law_1158 rfl ?_
      refine lv_iadd hx hb d_Law_law_1159 ?_
      refine q_topi (y := nI (i + 3)) (nI_add _ _) ?_
      refine q_sld hx hb hX hbl hbA hZ.2.2 ((i + 3)) rfl (by omega) (by omega) d_Law_law_1160 ?_
      obtain ⟨fs43, h43⟩ := sM_43 hMM
      refine q_calll (va_runV (As := [.int (nI j1), .int (xs (i + 2)), .int (xs (i + 3))]) (rest := []) ⟨hx, hb, hml, hown, hts⟩ (x_Mod_at_k l dC dI cI cL cB ad s.heap.size w t0 F j1 n1 kn (xs (i + 2)) (xs (i + 3)) hMM hj1 hen hfn hKK) (cwV 3 hts (gI_V k_556 k_553 k_554 k_555 k_24) rfl rfl rfl (by decide +kernel) ⟨Nat.le_of_ble_eq_true rfl, Nat.le_of_ble_eq_true rfl⟩) (q_preV hK hAm hZ hN [.int (nI j1), .int (xs (i + 2)), .int (xs (i + 3))] (43) 3 (by decide) h43 rfl) rfl rfl hl.1 rfl (lv_room (Nat.le_of_ble_eq_true rfl)) d_Law_law_1161 hc1) hZ (fun v u_v H locs h_v hZ => ?_)
      obtain ⟨hfr, hres2⟩ := h_v
      have h51 := (hfr 51 (by omega)).trans h51
      have hMM := hres2
      have hC := sC_fr hC (fun x hx => hfr x (by omega))
      refine lv_lstore (lv' := [(6, .long v), (5, .int (nI 1)), (4, .int (nI i)), (0, .ref b), (1, .ref (ad 0)), (2, .ref (ad 43)), (3, .ref (ad 51))]) hx hb d_Law_law_1164 hl (by decide) rfl (fun ls hl => ?_)
      refine lv_aload_n hx hb d_Law_law_1166 rfl (lv_at hl 5 rfl) ?_
      obtain ⟨fs43, h43⟩ := sM_43 hMM
      refine q_calli (va_runV (As := []) (rest := []) ⟨hx, hb, hml, hown, hts⟩ (c_Mod_thrown l dC dI cI cL cB ad s.heap.size u_v _ _ hMM) (cwV 0 hts (gI_V k_454 k_451 k_452 k_453 k_24) rfl rfl rfl (by decide +kernel) ⟨Nat.le_of_ble_eq_true rfl, Nat.le_of_ble_eq_true rfl⟩) (q_preV hK hAm hZ hN [] (43) 3 (by decide) h43 rfl) rfl rfl hl.1 rfl (lv_room (Nat.le_of_ble_eq_true rfl)) d_Law_law_1167 hc1) hZ (fun th u_th H locs h_th hZ => ?_)
      obtain ⟨e_th, e_t⟩ := h_th
      rw [e_th] at hZ
      refine q_topi (y := nI 1) e_t ?_
      refine lv_iload hx hb d_Law_law_1170 (lv_at hl 1 rfl) ?_
      refine lv_icmp_eq (tgt := 1177) hx hb d_Law_law_1172 (by decide) (fun h1172 => ?_) (fun h1172 => ?_)
      · skip
        have h1172 : 1 = 1 := (nI_eq (a := 1) (b := 1) (by omega) (by omega)).mp h1172
        refine lv_iload hx hb d_Law_law_1177 (lv_at hl 1 rfl) ?_
        refine lv_if_ne (tgt := 1193) hx hb d_Law_law_1179 (by decide) (fun h1179 => ?_) (fun h1179 => ?_)
        · skip
          have h1179 : ¬ 1 = 0 := fun z9 => h1179 ((nI_eq (a := 1) (b := 0) (by omega) (by omega)).mpr z9)
          refine lv_goto (tgt := 1486) hx hb d_Law_law_1193 (by decide) ?_
          exact K _ _ _ _ _ _ _ hC hMM h51 hZ (lv_sub hl [2, 3, 4, 5, 6] rfl)
        · skip
          have h1179 : 1 = 0 := (nI_eq (a := 1) (b := 0) (by omega) (by omega)).mp h1179
          exact absurd h1179 (by decide)
      · skip
        have h1172 : ¬ 1 = 1 := fun z9 => h1172 ((nI_eq (a := 1) (b := 1) (by omega) (by omega)).mpr z9)
        exact absurd h1172 (by decide)
  · skip
    refine lv_aload_n hx hb d_Law_law_1117 rfl (lv_at hl 2 rfl) ?_
    refine lv_aload_n hx hb d_Law_law_1118 rfl (lv_at hl 1 rfl) ?_
    refine lv_iload hx hb d_Law_law_1119 (lv_at hl 0 rfl) ?_
    refine lv_iconst (v := (nI 1)) hx hb d_Law_law_1121 rfl ?_
    refine lv_iadd hx hb d_Law_law_1122 ?_
    refine q_topi (y := nI (i + 1)) (nI_add _ _) ?_
    refine q_sld hx hb hX hbl hbA hZ.2.2 ((i + 1)) rfl (by omega) (by omega) d_Law_law_1123 ?_
    refine lv_aload_n hx hb d_Law_law_1124 rfl (lv_at hl 1 rfl) ?_
    refine lv_iload hx hb d_Law_law_1125 (lv_at hl 0 rfl) ?_
    refine lv_iconst (v := (nI 2)) hx hb d_Law_law_1127 rfl ?_
    refine lv_iadd hx hb d_Law_law_1128 ?_
    refine q_topi (y := nI (i + 2)) (nI_add _ _) ?_
    refine q_sld hx hb hX hbl hbA hZ.2.2 ((i + 2)) rfl (by omega) (by omega) d_Law_law_1129 ?_
    refine lv_aload_n hx hb d_Law_law_1130 rfl (lv_at hl 1 rfl) ?_
    refine lv_iload hx hb d_Law_law_1131 (lv_at hl 0 rfl) ?_
    refine lv_iconst (v := (nI 3)) hx hb d_Law_law_1133 rfl ?_
    refine lv_iadd hx hb d_Law_law_1134 ?_
    refine q_topi (y := nI (i + 3)) (nI_add _ _) ?_
    refine q_sld hx hb hX hbl hbA hZ.2.2 ((i + 3)) rfl (by omega) (by omega) d_Law_law_1135 ?_
    refine lv_aload_n hx hb d_Law_law_1136 rfl (lv_at hl 4 rfl) ?_
    refine q_calliX (vx_runSW (As := [.ref (ad 0), .int (xs (i + 1)), .int (xs (i + 2)), .int (xs (i + 3)), .ref (ad 51)]) (rest := []) ⟨hx, hb, hml, hown, hts⟩ (xb_Law_at l hfl dC dI cI cL cB ad s.heap.size w (xs (i + 1)) (xs (i + 2)) (xs (i + 3)) (sC_0 hC) hB) (vx_cwSW 5 hts (gI_S k_358 k_356 k_357 k_20) rfl rfl rfl (by decide +kernel) ⟨Nat.le_of_ble_eq_true rfl, Nat.le_of_ble_eq_true rfl⟩) (q_pre hK hAm hZ hN [.ref (ad 0), .int (xs (i + 1)), .int (xs (i + 2)), .int (xs (i + 3)), .ref (ad 51)]) rfl rfl hl.1 rfl (lv_room (Nat.le_of_ble_eq_true rfl)) d_Law_law_1137 hc1) hZ (fun r u_r H locs h_r hZ => ?_)
    obtain ⟨e_r, e_u⟩ := h_r
    rw [e_u] at hZ
    refine q_topi (y := nI 1) e_r ?_
    refine lv_istore (lv' := [(5, .int (nI 1)), (4, .int (nI i)), (0, .ref b), (1, .ref (ad 0)), (2, .ref (ad 43)), (3, .ref (ad 51))]) hx hb d_Law_law_1140 hl (by decide) rfl (fun ls hl => ?_)
    refine lv_aload_n hx hb d_Law_law_1142 rfl (lv_at hl 4 rfl) ?_
    refine lv_aload_n hx hb d_Law_law_1143 rfl (lv_at hl 2 rfl) ?_
    refine lv_iload hx hb d_Law_law_1144 (lv_at hl 1 rfl) ?_
    refine lv_iconst (v := (nI 1)) hx hb d_Law_law_1146 rfl ?_
    refine lv_iadd hx hb d_Law_law_1147 ?_
    refine q_topi (y := nI (i + 1)) (nI_add _ _) ?_
    refine q_sld hx hb hX hbl hbA hZ.2.2 ((i + 1)) rfl (by omega) (by omega) d_Law_law_1148 ?_
    refine lv_aload_n hx hb d_Law_law_1149 rfl (lv_at hl 2 rfl) ?_
    refine lv_iload hx hb d_Law_law_1150 (lv_at hl 1 rfl) ?_
    refine lv_iconst (v := (nI 2)) hx hb d_Law_law_1152 rfl ?_
    refine lv_iadd hx hb d_Law_law_1153 ?_
    refine q_topi (y := nI (i + 2)) (nI_add _ _) ?_
    refine q_sld hx hb hX hbl hbA hZ.2.2 ((i + 2)) rfl (by omega) (by omega) d_Law_law_1154 ?_
    refine lv_aload_n hx hb d_Law_law_1155 rfl (lv_at hl 2 rfl) ?_
    refine lv_iload hx hb d_Law_law_1156 (lv_at hl 1 rfl) ?_
    refine lv_iconst (v := (nI 3)) hx hb d_Law_law_1158 rfl ?_
    refine lv_iadd hx hb d_Law_law_1159 ?_
    refine q_topi (y := nI (i + 3)) (nI_add _ _) ?_
    refine q_sld hx hb hX hbl hbA hZ.2.2 ((i + 3)) rfl (by omega) (by omega) d_Law_law_1160 ?_
    obtain ⟨fs43, h43⟩ := sM_43 hMM
    refine q_calll (va_runV (As := [.int (xs (i + 1)), .int (xs (i + 2)), .int (xs (i + 3))]) (rest := []) ⟨hx, hb, hml, hown, hts⟩ (x_Mod_at_b l dC dI cI cL cB ad s.heap.size w t0 F (xs (i + 1)) (xs (i + 2)) (xs (i + 3)) hMM hB) (cwV 3 hts (gI_V k_556 k_553 k_554 k_555 k_24) rfl rfl rfl (by decide +kernel) ⟨Nat.le_of_ble_eq_true rfl, Nat.le_of_ble_eq_true rfl⟩) (q_preV hK hAm hZ hN [.int (xs (i + 1)), .int (xs (i + 2)), .int (xs (i + 3))] (43) 3 (by decide) h43 rfl) rfl rfl hl.1 rfl (lv_room (Nat.le_of_ble_eq_true rfl)) d_Law_law_1161 hc1) hZ (fun v u_v H locs h_v hZ => ?_)
    obtain ⟨hfr, hres2⟩ := h_v
    have h51 := (hfr 51 (by omega)).trans h51
    have hMM := hres2
    have hC := sC_fr hC (fun x hx => hfr x (by omega))
    refine lv_lstore (lv' := [(6, .long v), (5, .int (nI 1)), (4, .int (nI i)), (0, .ref b), (1, .ref (ad 0)), (2, .ref (ad 43)), (3, .ref (ad 51))]) hx hb d_Law_law_1164 hl (by decide) rfl (fun ls hl => ?_)
    refine lv_aload_n hx hb d_Law_law_1166 rfl (lv_at hl 5 rfl) ?_
    obtain ⟨fs43, h43⟩ := sM_43 hMM
    refine q_calli (va_runV (As := []) (rest := []) ⟨hx, hb, hml, hown, hts⟩ (c_Mod_thrown l dC dI cI cL cB ad s.heap.size u_v _ _ hMM) (cwV 0 hts (gI_V k_454 k_451 k_452 k_453 k_24) rfl rfl rfl (by decide +kernel) ⟨Nat.le_of_ble_eq_true rfl, Nat.le_of_ble_eq_true rfl⟩) (q_preV hK hAm hZ hN [] (43) 3 (by decide) h43 rfl) rfl rfl hl.1 rfl (lv_room (Nat.le_of_ble_eq_true rfl)) d_Law_law_1167 hc1) hZ (fun th u_th H locs h_th hZ => ?_)
    obtain ⟨e_th, e_t⟩ := h_th
    rw [e_th] at hZ
    refine q_topi (y := nI 1) e_t ?_
    refine lv_iload hx hb d_Law_law_1170 (lv_at hl 1 rfl) ?_
    refine lv_icmp_eq (tgt := 1177) hx hb d_Law_law_1172 (by decide) (fun h1172 => ?_) (fun h1172 => ?_)
    · skip
      have h1172 : 1 = 1 := (nI_eq (a := 1) (b := 1) (by omega) (by omega)).mp h1172
      refine lv_iload hx hb d_Law_law_1177 (lv_at hl 1 rfl) ?_
      refine lv_if_ne (tgt := 1193) hx hb d_Law_law_1179 (by decide) (fun h1179 => ?_) (fun h1179 => ?_)
      · skip
        have h1179 : ¬ 1 = 0 := fun z9 => h1179 ((nI_eq (a := 1) (b := 0) (by omega) (by omega)).mpr z9)
        refine lv_goto (tgt := 1486) hx hb d_Law_law_1193 (by decide) ?_
        exact K _ _ _ _ _ _ _ hC hMM h51 hZ (lv_sub hl [2, 3, 4, 5, 6] rfl)
      · skip
        have h1179 : 1 = 0 := (nI_eq (a := 1) (b := 0) (by omega) (by omega)).mp h1179
        exact absurd h1179 (by decide)
    · skip
      have h1172 : ¬ 1 = 1 := fun z9 => h1172 ((nI_eq (a := 1) (b := 1) (by omega) (by omega)).mpr z9)
      exact absurd h1172 (by decide)
