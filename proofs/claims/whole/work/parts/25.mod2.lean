/-! the reference: its answers -/
/-- what is wrong with the arguments -/
def wX (a b c2 q cd : Int32) : Prop := (¬ (okB a ∧ okB b ∧ okB c2) ∧ cd = 1) ∨ ((okB a ∧ okB b ∧ okB c2) ∧ ¬ okP q ∧ cd = 2)
theorem okB_0 : okB (nI 0) := okB_nI (by decide)
theorem okP_0 : okP (nI 0) := ⟨by decide, by decide⟩
section WR
variable {a b c2 q r cd : Int32}
theorem wr_ok (h : (¬ (okB a ∧ okB b ∧ okB c2) ∧ r = 1) ∨ ((okB a ∧ okB b ∧ okB c2) ∧ ¬ okP q ∧ r = 2) ∨ ((okB a ∧ okB b ∧ okB c2) ∧ okP q ∧ r = 0)) (h1 : okB a ∧ okB b ∧ okB c2) (h2 : okP q) : r = nI 0 := by
  rcases h with h | h | h
  · exact absurd h1 h.1
  · exact absurd h2 h.2.1
  · exact h.2.2
theorem wr_x (h : (¬ (okB a ∧ okB b ∧ okB c2) ∧ r = 1) ∨ ((okB a ∧ okB b ∧ okB c2) ∧ ¬ okP q ∧ r = 2) ∨ ((okB a ∧ okB b ∧ okB c2) ∧ okP q ∧ r = 0)) (hb : wX a b c2 q cd) : r = cd := by
  rcases h with h | h | h <;> rcases hb with k | k
  · rw [h.2, k.2]
  · exact absurd k.1 h.1
  · exact absurd h.1 k.1
  · rw [h.2.2, k.2.2]
  · exact absurd h.1 k.1
  · exact absurd h.2.1 k.2.1
theorem wX_12 (h : wX a b c2 q cd) : cd = 1 ∨ cd = 2 := h.imp (fun z => z.2) (fun z => z.2.2)
theorem wX_ne (h : wX a b c2 q cd) : ¬ cd = 0 := fun z => by rcases wX_12 h with e | e <;> rw [e] at z <;> exact absurd z (by decide)
theorem wX_le (h : wX a b c2 q cd) : ¬ cd ≤ 0 := fun z => by rcases wX_12 h with e | e <;> rw [e] at z <;> exact absurd z (by decide)
theorem wX_gt (h : wX a b c2 q cd) : 0 < cd := Int32.not_le.mp (wX_le h)
end WR
theorem bY {Q : Prop} {r : Int32} (h : (Q ∧ r = 1) ∨ (¬ Q ∧ r = 0)) (hq : Q) : r = nI 1 := h.elim (fun z => z.2) (fun z => absurd hq z.1)
theorem bN {Q : Prop} {r : Int32} (h : (Q ∧ r = 1) ∨ (¬ Q ∧ r = 0)) (hq : ¬ Q) : r = nI 0 := h.elim (fun z => absurd z.1 hq) (fun z => z.2)
theorem b3T {Q X Y : Prop} {r : Int32} (h : (Q ∧ r = 1 ∧ X) ∨ (¬ Q ∧ r = 0 ∧ Y)) (h0 : ¬ r = 0) : Q ∧ X := h.elim (fun z => ⟨z.1, z.2.2⟩) (fun z => absurd z.2.1 h0)
theorem b3F {Q X Y : Prop} {r : Int32} (h : (Q ∧ r = 1 ∧ X) ∨ (¬ Q ∧ r = 0 ∧ Y)) (h0 : r = 0) : ¬ Q ∧ Y := h.elim (fun z => absurd (z.2.1.symm.trans h0) (by decide)) (fun z => ⟨z.1, z.2.2⟩)
theorem mS_clr {mn P : Nat → Int32} {N A : Nat → Int64} {F : Nat → Int → Int64} {j : Nat} (h : mBag mn P N A F) : mBag (upd mn j (nI 0)) P N A (va_up F j (fun _ => 0)) :=
  mBag_up h (fun i hi => upd_n hi) (fun _ _ => rfl) (fun _ _ => rfl) (fun _ _ => rfl) (Nat.zero_le 64) upd_s (mRep_0 _ _ _)
theorem i3_in {q : Int32} (h1 : ¬ q < 0) (h2 : q ≤ nI 2) : q = 0 ∨ q = 1 ∨ q = 2 := by
  have a : ¬ q.toInt < 0 := fun z => h1 (Int32.lt_iff_toInt_lt.mpr (by rw [show (0 : Int32).toInt = 0 from by decide]; exact z))
  have b := Int32.le_iff_toInt_le.mp h2
  rw [show (nI 2).toInt = 2 from by decide] at b
  have e : q.toInt = 0 ∨ q.toInt = 1 ∨ q.toInt = 2 := by omega
  rcases e with e | e | e
  · exact Or.inl (Int32.toInt_inj.mp (e.trans (by decide)))
  · exact Or.inr (Or.inl (Int32.toInt_inj.mp (e.trans (by decide))))
  · exact Or.inr (Or.inr (Int32.toInt_inj.mp (e.trans (by decide))))
/-- the KINDS seen: all of one BAG, and some of the other's -/
def sB (a : Nat → Int) (za : Nat) (b : Nat → Int) (k : Nat) : Int → Prop := fun y => sU a za y ∨ sU b k y
section SB
variable {a b : Nat → Int} {za zb k kf : Nat} {x : Int}
theorem sB_0 (y : Int) : sB a za b 0 y ↔ sU a za y := ⟨fun h => h.elim id (fun z => absurd z (sU_0 y)), Or.inl⟩
theorem sB_s (y : Int) : sB a za b (k + 1) y ↔ (sB a za b k y ∨ y = b k) := by
  unfold sB
  rw [sU_s, or_assoc]
theorem sB_k (h : kf < za) (e : a kf = b k) (y : Int) : sB a za b (k + 1) y ↔ sB a za b k y := by
  rw [sB_s]
  exact ⟨fun z => z.elim id (fun z => Or.inl ⟨kf, h, e.trans z.symm⟩), Or.inl⟩
theorem sU_f {z : Nat} (h : eI z a) (hk : k < z) : ¬ sU a k (a k) := fun ⟨j, hj, e⟩ => by
  have := h j k (by omega) hk e
  omega
theorem sB_f {z : Nat} (hno : ∀ i, i < za → ¬ a i = b k) (h : eI z b) (hk : k < z) : ¬ sB a za b k (b k) := fun y => y.elim (fun ⟨i, hi, e⟩ => hno i hi e) (sU_f h hk)
end SB
section RW
variable {rm : Nat} {rP : Nat → Int32} {rN rA : Nat → Int64} {G : Int → Int64} {S S' : Int → Prop} {q : Int32} {x v : Int64} {Q : Int → Prop} {bd b2 : Int32} {X : Int}
theorem rw_0 {p : Nat → Int32} {n a : Nat → Int64} (h : ∀ y, ¬ S y) : mRep 0 p n a (gS G S) := by
  rw [gS_none h]
  exact mRep_0 _ _ _
theorem rw_y (h : mRep rm rP rN rA (gS G S)) (hS : ∀ y, S' y ↔ (S y ∨ y = kv q x)) (hx : ¬ S (kv q x)) (hv : ¬ G (kv q x) = 0) : mRep (rm + 1) (upd rP rm q) (vp_updL rN rm x) (vp_updL rA rm (G (kv q x))) (gS G S') := by
  rw [gS_congr hS]
  exact mlay_y h hx hv
theorem rw_n (h : mRep rm rP rN rA (gS G S)) (hS : ∀ y, S' y ↔ (S y ∨ y = X)) (hv : G X = 0) : mRep rm rP rN rA (gS G S') := by
  rw [gS_congr hS]
  exact mlay_n h hv
theorem rw_k (h : mRep rm rP rN rA (gS G S)) (hS : ∀ y, S' y ↔ S y) : mRep rm rP rN rA (gS G S') := by
  rw [gS_congr hS]
  exact h
theorem rw_end (h : mRep rm rP rN rA (gS G S)) (hG : ∀ y, ¬ G y = 0 → S y) : mRep rm rP rN rA G := by
  rw [gS_all hG] at h
  exact h
theorem bz_0 (h : ∀ y, ¬ S y) : bZ (nI 0) (∀ y, S y → Q y) := bZ_0 (fun y hy => absurd hy (h y))
theorem bz_s (h : bZ bd (∀ y, S y → Q y)) (h2 : bZ b2 (bd = 0 ∧ Q X)) (hS : ∀ y, S' y ↔ (S y ∨ y = X)) : bZ b2 (∀ y, S' y → Q y) := by
  refine ⟨fun z y hy => ?_, fun z => h2.mpr ⟨h.mpr (fun y hy => z y ((hS y).mpr (Or.inl hy))), z X ((hS X).mpr (Or.inr rfl))⟩⟩
  rcases (hS y).mp hy with a | a
  · exact h.mp (h2.mp z).1 y a
  · rw [a]
    exact (h2.mp z).2
theorem bz_k (h : bZ bd (∀ y, S y → Q y)) (hS : ∀ y, S' y ↔ S y) : bZ bd (∀ y, S' y → Q y) := ⟨fun z y hy => h.mp z y ((hS y).mp hy), fun z => h.mpr (fun y hy => z y ((hS y).mpr hy))⟩
theorem bz_end (h : bZ bd (∀ y, S y → Q y)) (hS : ∀ y, ¬ S y → Q y) : bZ bd (∀ y, Q y) := ⟨fun z y => Classical.byCases (fun a : S y => h.mp z y a) (hS y), fun z => h.mpr (fun y _ => z y)⟩
theorem bz_all {z : Nat} {k : Nat → Int} {F : Int → Int64} (hF : ∀ x, ¬ F x = 0 → ∃ i, i < z ∧ k i = x) (h0 : ∀ y, F y = 0 → Q y) (h : bZ bd (∀ y, sU k z y → Q y)) : bZ bd (∀ y, Q y) := bz_end h (fun y hy => h0 y (Classical.byContradiction (fun e => hy (hF y e))))
theorem gP_0 {F : Int → Int64} {sg : Int32} {y : Int} (e : F y = 0) : gP F sg y = 0 := by
  by_cases h : gPs (F y) sg
  · rw [gP_y h, e, Int64.zero_mul]
  · exact gP_n h
theorem bc_end {T U : Prop} {Qp : Prop} {r : Int32} (h : ((bd = 0 ∧ rm ≤ 64) ∧ r = 1 ∧ T) ∨ (¬ (bd = 0 ∧ rm ≤ 64) ∧ r = 0 ∧ U)) (hbd : bZ bd Qp) (hR : mRep rm rP rN rA G) : ((Qp ∧ eC G) ∧ r = 1 ∧ T) ∨ (¬ (Qp ∧ eC G) ∧ r = 0 ∧ U) :=
  h.imp (fun z => ⟨⟨hbd.mp z.1.1, mRep_C hR z.1.2⟩, z.2⟩) (fun z => ⟨fun y => z.1 ⟨hbd.mpr y.1, Nat.le_of_not_lt (fun k => mRep_big hR k y.2)⟩, z.2⟩)
theorem b1_end {T U : Prop} {Qp : Prop} {r : Int32} (h : ((bd = 0 ∧ rm ≤ 64) ∧ r = 1 ∧ T) ∨ (¬ (bd = 0 ∧ rm ≤ 64) ∧ r = 0 ∧ U)) (hbd : bZ bd Qp) (hr : rm ≤ 64) : (Qp ∧ r = 1 ∧ T) ∨ (¬ Qp ∧ r = 0 ∧ U) :=
  h.imp (fun z => ⟨hbd.mp z.1.1, z.2⟩) (fun z => ⟨fun y => z.1 ⟨hbd.mpr y, hr⟩, z.2⟩)
theorem b0_end {T U : Prop} {r : Int32} (h : ((bd = 0 ∧ rm ≤ 64) ∧ r = 1 ∧ T) ∨ (¬ (bd = 0 ∧ rm ≤ 64) ∧ r = 0 ∧ U)) (h0 : bd = 0) (hr : rm ≤ 64) : T := h.elim (fun z => z.2.2) (fun z => absurd ⟨h0, hr⟩ z.1)
theorem b2_end {T U Qa Qp : Prop} {r : Int32} (h : (Qp ∧ r = 1 ∧ T) ∨ (¬ Qp ∧ r = 0 ∧ U)) (ha : Qa) : ((Qa ∧ Qp) ∧ r = 1 ∧ T) ∨ (¬ (Qa ∧ Qp) ∧ r = 0 ∧ U) := h.imp (fun z => ⟨⟨ha, z.1⟩, z.2⟩) (fun z => ⟨fun y => z.1 y.2, z.2⟩)
end RW
section BO
variable {hw za zb : Nat} {ka kb : Nat → Int} {Fa Fb : Int → Int64} {K : Int}
theorem gH_0 (h : hw = 0) : Fa K + Fb K = gH hw Fa Fb K := by
  unfold gH cH
  rw [if_pos h]
theorem gH_1 (h : hw = 1) : Fa K - Fb K = gH hw Fa Fb K := by
  unfold gH cH
  rw [if_neg (by omega), if_pos h]
theorem gH_2a (h0 : ¬ hw = 0) (h1 : ¬ hw = 1) (h : Fb K ≤ Fa K) : Fb K = gH hw Fa Fb K := by
  unfold gH cH
  rw [if_neg h0, if_neg h1]
  by_cases z : Fb K < Fa K
  · rw [if_pos z]
  · rw [if_neg z]
    exact Int64.toInt_inj.mp (by
      have a := Int64.le_iff_toInt_le.mp h
      have b := Int64.le_iff_toInt_le.mp (Int64.not_lt.mp z)
      omega)
theorem gH_2b (h0 : ¬ hw = 0) (h1 : ¬ hw = 1) (h : ¬ Fb K ≤ Fa K) : Fa K = gH hw Fa Fb K := by
  unfold gH cH
  rw [if_neg h0, if_neg h1, if_neg (fun z => h (Int64.le_of_lt z))]
theorem bo_out (hA : ∀ x, ¬ Fa x = 0 → ∃ i, i < za ∧ ka i = x) (hB : ∀ x, ¬ Fb x = 0 → ∃ i, i < zb ∧ kb i = x) {y : Int} (h : ¬ sB ka za kb zb y) : Fa y = 0 ∧ Fb y = 0 :=
  ⟨Classical.byContradiction (fun e => h (Or.inl (hA y e))), Classical.byContradiction (fun e => h (Or.inr (hB y e)))⟩
theorem bo_end {rm : Nat} {rP : Nat → Int32} {rN rA : Nat → Int64} (hA : ∀ x, ¬ Fa x = 0 → ∃ i, i < za ∧ ka i = x) (hB : ∀ x, ¬ Fb x = 0 → ∃ i, i < zb ∧ kb i = x) (h : mRep rm rP rN rA (gS (gH hw Fa Fb) (sB ka za kb zb))) : mRep rm rP rN rA (gH hw Fa Fb) :=
  rw_end h (fun y hy => Classical.byContradiction (fun e => hy (by
    unfold gH
    rw [(bo_out hA hB e).1, (bo_out hA hB e).2]
    exact cH_00 hw)))
theorem bo_bz {bd : Int32} (hA : ∀ x, ¬ Fa x = 0 → ∃ i, i < za ∧ ka i = x) (hB : ∀ x, ¬ Fb x = 0 → ∃ i, i < zb ∧ kb i = x) (h : bZ bd (∀ y, sB ka za kb zb y → fH hw (Fa y) (Fb y))) : bZ bd (∀ y, fH hw (Fa y) (Fb y)) :=
  bz_end h (fun y e => by
    rw [(bo_out hA hB e).1, (bo_out hA hB e).2]
    exact fH_00 hw)
end BO
set_option maxHeartbeats 4000000 in
set_option maxRecDepth 100000 in
theorem c_Mod_thrown (l : Launch) (dC : Nat → ClassId) (dI : Nat → Nat → Nat) (cI cL cB : ClassId) (ad : Nat → Nat) (N0 : Nat) (w : Nat → va_E) (t0 : Int32) (F : Nat → Int → Int64)  (hMM : sM ad cI cL w t0 F) : Met l y_Mod_thrown ws_Mod_thrown ({ frames := 0, cells := 0, slots := 0, locals := 0 } : Room) (va_Pc [.ref (ad 43)] (sPr (dC, dI) vCl [(cI, .int), (cL, .long), (cB, .object "CoinBag$Bag")] 52 ad N0 w)) (va_Qi (fun r u => u = w ∧ r = t0) (sPr (dC, dI) vCl [(cI, .int), (cL, .long), (cB, .object "CoinBag$Bag")] 52 ad N0) (fun q => N0 ≤ q)) 0 0 (fun q => N0 ≤ q) := by
  refine Met.ofW (cc := b_Mod_thrown) (maxL := 1) (ret := (some .int)) (by decide) rfl ?_
  intro p e s m args below meth c s₁ B hml hv
  obtain ⟨rfl, hP, hK, hD, hN, hAm⟩ := hv
  have hx := B.exec
  have hb := B.bytes
  have hr := B.returns
  have hts := atoms_spec (ws := ws_Mod_thrown) B.pre
  have hown : s.vm.findClass "CoinBagModel" = some m.cls := findClass_of_methodNamed B.named
  have hlocks := B.notSynchronized
  have hZ : sZ (dC, dI) vCl 52 ad (fun q => N0 ≤ q) s.heap w s.heap [] := ⟨hP, hD, va_S.rf⟩
  have hl := lv_entry ([.ref (ad 43)]) (n := 1) (Nat.le_of_ble_eq_true rfl)
  rw [lg_entry_eq]
  generalize (lg_sl ([.ref (ad 43)]) ++ List.replicate (1 - (lg_sl ([.ref (ad 43)])).length) Slot.unset).toArray = ls at hl ⊢
  have hl : lv_has ls 1 [(0, .ref (ad 43))] := hl
  obtain ⟨mn, P, N, A, rm, rP, rN, rA, bd, hM, hB⟩ := hMM
  have hfr : fr w w 43 50 := fr_rf
  refine lv_aload_n hx hb d_Mod_thrown_0 rfl (lv_at hl 0 rfl) ?_
  refine q_get (C := R_Mod) (T := T_Mod) (N := 10) hx hb hts (fun w h => gm (inT_Mod w h)) hown hK hZ (43) (by decide) hM.1 rfl 0 (by decide) (hts _ (gm k_420)) (fun _ h9 => h9) rfl d_Mod_thrown_1 ?_
  exact q_iret hx hb hr hlocks hK hAm hZ hN (⟨rfl, rfl⟩) d_Mod_thrown_4
set_option maxHeartbeats 4000000 in
set_option maxRecDepth 100000 in
theorem c_Mod_set (l : Launch) (dC : Nat → ClassId) (dI : Nat → Nat → Nat) (cI cL cB : ClassId) (ad : Nat → Nat) (N0 : Nat) (w : Nat → va_E) (t0 : Int32) (F : Nat → Int → Int64) (j : Nat) (q : Int32) (x v : Int64) (hMM : sM ad cI cL w t0 F) (hj : j < 8) (hq : okP q) : Met l y_Mod_set ws_Mod_set ({ frames := 2, cells := 0, slots := 0, locals := 54 } : Room) (va_Pc [.ref (ad 43), .int (nI j), .int q, .long x, .long v] (sPr (dC, dI) vCl [(cI, .int), (cL, .long), (cB, .object "CoinBag$Bag")] 52 ad N0 w)) (va_Qi (fun r u => fr w u 43 50 ∧ ((eC (fUp (F j) (kv q x) v) ∧ r = 1 ∧ sM ad cI cL u (nI 0) (va_up F j (fUp (F j) (kv q x) v))) ∨ (¬ eC (fUp (F j) (kv q x) v) ∧ r = 0 ∧ sM ad cI cL u (nI 0) F))) (sPr (dC, dI) vCl [(cI, .int), (cL, .long), (cB, .object "CoinBag$Bag")] 52 ad N0) (fun q => N0 ≤ q)) 0 0 (fun q => N0 ≤ q) := by
  refine Met.ofW (cc := b_Mod_set) (maxL := 7) (ret := (some .boolean)) (by decide) rfl ?_
  intro p e s m args below meth c s₁ B hml hv
  obtain ⟨rfl, hP, hK, hD, hN, hAm⟩ := hv
  have hx := B.exec
  have hb := B.bytes
  have hr := B.returns
  have hts := atoms_spec (ws := ws_Mod_set) B.pre
  have hown : s.vm.findClass "CoinBagModel" = some m.cls := findClass_of_methodNamed B.named
  have hlocks := B.notSynchronized
  have hZ : sZ (dC, dI) vCl 52 ad (fun q => N0 ≤ q) s.heap w s.heap [] := ⟨hP, hD, va_S.rf⟩
  have hl := lv_entry ([.ref (ad 43), .int (nI j), .int q, .long x, .long v]) (n := 7) (Nat.le_of_ble_eq_true rfl)
  rw [lg_entry_eq]
  generalize (lg_sl ([.ref (ad 43), .int (nI j), .int q, .long x, .long v]) ++ List.replicate (7 - (lg_sl ([.ref (ad 43), .int (nI j), .int q, .long x, .long v])).length) Slot.unset).toArray = ls at hl ⊢
  have hl : lv_has ls 7 [(0, .ref (ad 43)), (1, .int (nI j)), (2, .int q), (3, .long x), (5, .long v)] := hl
  obtain ⟨mn, P, N, A, rm, rP, rN, rA, bd, hM, hB⟩ := hMM
  have hfr : fr w w 43 50 := fr_rf
  refine lv_aload_n hx hb d_Mod_set_0 rfl (lv_at hl 0 rfl) ?_
  refine lv_aload_n hx hb d_Mod_set_1 rfl (lv_at hl 0 rfl) ?_
  refine lv_iload_n hx hb d_Mod_set_2 rfl (lv_at hl 1 rfl) ?_
  refine lv_iconst (v := (nI 0)) hx hb d_Mod_set_3 rfl ?_
  refine lv_iconst (v := (nI 0)) hx hb d_Mod_set_4 rfl ?_
  refine lv_iload_n hx hb d_Mod_set_5 rfl (lv_at hl 2 rfl) ?_
  refine q_calli (va_runV (As := [.int (nI j), .int (nI 0), .int (nI 0), .int q]) (rest := [.ref (ad 43)]) ⟨hx, hb, hml, hown, hts⟩ (c_Mod_wrong l dC dI cI cL cB ad N0 w t0 mn P N A rm rP rN rA bd (nI j) (nI 0) (nI 0) q hM) (cwV 4 hts (gI_V k_462 k_459 k_461 k_7 k_24) rfl rfl rfl (by decide +kernel) ⟨Nat.le_of_ble_eq_true rfl, Nat.le_of_ble_eq_true rfl⟩) (q_preV hK hAm hZ hN [.int (nI j), .int (nI 0), .int (nI 0), .int q] (43) 3 (by decide) hM.1 rfl) rfl rfl hl.1 rfl (lv_room (Nat.le_of_ble_eq_true rfl)) d_Mod_set_6 ⟨Nat.zero_le _, Nat.zero_le _⟩) hZ (fun r u_r H locs h_r hZ => ?_)
  obtain ⟨e_r, h_r⟩ := h_r
  rw [e_r] at hZ
  refine q_topi (y := nI 0) (wr_ok h_r ⟨okB_nI hj, okB_0, okB_0⟩ hq) ?_
  refine q_put (C := R_Mod) (T := T_Mod) (N := 10) (ty := .int) (v := .int (nI 0)) hx hb hts (fun w h => gm (inT_Mod w h)) ty_Mod tyo_Mod nm_Mod hown hK hZ (43) (by decide) hM.1 rfl 0 (by decide) (hts _ (gm k_420)) (fun _ h9 => h9) rfl (by decide +kernel) (rfl) (rfl) (Nat.le_of_ble_eq_true rfl) d_Mod_set_9 (fun H locs hZ => ?_)
  have hM := hM.up43 (nI 0) rm bd
  have hfr := fr_up (x := 43) (e := .inr (3, [.int (nI 0), .ref (ad 44), .ref (ad 45), .ref (ad 46), .ref (ad 47), .int rm, .ref (ad 48), .ref (ad 49), .ref (ad 50), .int bd])) hfr (by omega) (by omega)
  have hZ : sZ (dC, dI) vCl 52 ad (fun q => N0 ≤ q) s.heap (va_up w 43 (.inr (3, [.int (nI 0), .ref (ad 44), .ref (ad 45), .ref (ad 46), .ref (ad 47), .int rm, .ref (ad 48), .ref (ad 49), .ref (ad 50), .int bd]))) H locs := hZ
  generalize va_up w 43 (.inr (3, [.int (nI 0), .ref (ad 44), .ref (ad 45), .ref (ad 46), .ref (ad 47), .int rm, .ref (ad 48), .ref (ad 49), .ref (ad 50), .int bd])) = w54 at hZ hM hfr
  refine lv_aload_n hx hb d_Mod_set_12 rfl (lv_at hl 0 rfl) ?_
  refine q_get (C := R_Mod) (T := T_Mod) (N := 10) hx hb hts (fun w h => gm (inT_Mod w h)) hown hK hZ (43) (by decide) hM.1 rfl 0 (by decide) (hts _ (gm k_420)) (fun _ h9 => h9) rfl d_Mod_set_13 ?_
  refine lv_if_ne (tgt := 35) hx hb d_Mod_set_16 (by decide) (fun h16 => ?_) (fun h16 => ?_)
  · skip
    have h16 : ¬ 0 = 0 := fun z9 => h16 ((nI_eq (a := 0) (b := 0) (by omega) (by omega)).mpr z9)
    exact absurd h16 (by decide)
  · skip
    have h16 : 0 = 0 := (nI_eq (a := 0) (b := 0) (by omega) (by omega)).mp h16
    refine lv_aload_n hx hb d_Mod_set_19 rfl (lv_at hl 0 rfl) ?_
    refine lv_iload_n hx hb d_Mod_set_20 rfl (lv_at hl 1 rfl) ?_
    refine lv_iload_n hx hb d_Mod_set_21 rfl (lv_at hl 2 rfl) ?_
    refine lv_lload_n hx hb d_Mod_set_22 rfl (lv_at hl 3 rfl) ?_
    refine lv_lload hx hb d_Mod_set_23 (lv_at hl 4 rfl) ?_
    refine q_calli (va_runV (As := [.int (nI j), .int q, .long x, .long v]) (rest := []) ⟨hx, hb, hml, hown, hts⟩ (c_Mod_store l dC dI cI cL cB ad N0 w54 (nI 0) mn P N A rm rP rN rA bd j F q x v hM hj hB) (cwV 4 hts (gI_V k_473 k_470 k_472 k_8 k_24) rfl rfl rfl (by decide +kernel) ⟨Nat.le_of_ble_eq_true rfl, Nat.le_of_ble_eq_true rfl⟩) (q_preV hK hAm hZ hN [.int (nI j), .int q, .long x, .long v] (43) 3 (by decide) hM.1 rfl) rfl rfl hl.1 rfl (lv_room (Nat.le_of_ble_eq_true rfl)) d_Mod_set_25 ⟨Nat.zero_le _, Nat.zero_le _⟩) hZ (fun s9 u_s9 H locs h_s9 hZ => ?_)
    refine lv_if_eq (tgt := 35) hx hb d_Mod_set_28 (by decide) (fun h28 => ?_) (fun h28 => ?_)
    · skip
      refine lv_iconst (v := (nI 0)) hx hb d_Mod_set_35 rfl ?_
      exact q_zret hx hb hr rfl hlocks hK hAm hZ hN (⟨fr_tr hfr h_s9.1 (Nat.le_refl _) (Nat.le_refl _), (by first | exact Or.inl ⟨(b3T h_s9.2 h28).1, rfl, (b3T h_s9.2 h28).2⟩ | exact Or.inr ⟨(b3F h_s9.2 h28).1, rfl, (b3F h_s9.2 h28).2⟩)⟩) d_Mod_set_36
    · skip
      refine lv_iconst (v := (nI 1)) hx hb d_Mod_set_31 rfl ?_
      refine lv_goto (tgt := 36) hx hb d_Mod_set_32 (by decide) ?_
      exact q_zret hx hb hr rfl hlocks hK hAm hZ hN (⟨fr_tr hfr h_s9.1 (Nat.le_refl _) (Nat.le_refl _), (by first | exact Or.inl ⟨(b3T h_s9.2 h28).1, rfl, (b3T h_s9.2 h28).2⟩ | exact Or.inr ⟨(b3F h_s9.2 h28).1, rfl, (b3F h_s9.2 h28).2⟩)⟩) d_Mod_set_36
set_option maxHeartbeats 4000000 in
set_option maxRecDepth 100000 in
theorem x_Mod_set (l : Launch) (dC : Nat → ClassId) (dI : Nat → Nat → Nat) (cI cL cB : ClassId) (ad : Nat → Nat) (N0 : Nat) (w : Nat → va_E) (t0 : Int32) (F : Nat → Int → Int64) (b q : Int32) (x v : Int64) (cd : Int32) (hMM : sM ad cI cL w t0 F) (hbad : wX b (nI 0) (nI 0) q cd) : Met l y_Mod_set ws_Mod_set ({ frames := 2, cells := 0, slots := 0, locals := 44 } : Room) (va_Pc [.ref (ad 43), .int b, .int q, .long x, .long v] (sPr (dC, dI) vCl [(cI, .int), (cL, .long), (cB, .object "CoinBag$Bag")] 52 ad N0 w)) (va_Qi (fun r u => fr w u 43 50 ∧ sM ad cI cL u cd F) (sPr (dC, dI) vCl [(cI, .int), (cL, .long), (cB, .object "CoinBag$Bag")] 52 ad N0) (fun q => N0 ≤ q)) 0 0 (fun q => N0 ≤ q) := by
  refine Met.ofW (cc := b_Mod_set) (maxL := 7) (ret := (some .boolean)) (by decide) rfl ?_
  intro p e s m args below meth c s₁ B hml hv
  obtain ⟨rfl, hP, hK, hD, hN, hAm⟩ := hv
  have hx := B.exec
  have hb := B.bytes
  have hr := B.returns
  have hts := atoms_spec (ws := ws_Mod_set) B.pre
  have hown : s.vm.findClass "CoinBagModel" = some m.cls := findClass_of_methodNamed B.named
  have hlocks := B.notSynchronized
  have hZ : sZ (dC, dI) vCl 52 ad (fun q => N0 ≤ q) s.heap w s.heap [] := ⟨hP, hD, va_S.rf⟩
  have hl := lv_entry ([.ref (ad 43), .int b, .int q, .long x, .long v]) (n := 7) (Nat.le_of_ble_eq_true rfl)
  rw [lg_entry_eq]
  generalize (lg_sl ([.ref (ad 43), .int b, .int q, .long x, .long v]) ++ List.replicate (7 - (lg_sl ([.ref (ad 43), .int b, .int q, .long x, .long v])).length) Slot.unset).toArray = ls at hl ⊢
  have hl : lv_has ls 7 [(0, .ref (ad 43)), (1, .int b), (2, .int q), (3, .long x), (5, .long v)] := hl
  obtain ⟨mn, P, N, A, rm, rP, rN, rA, bd, hM, hB⟩ := hMM
  have hfr : fr w w 43 50 := fr_rf
  refine lv_aload_n hx hb d_Mod_set_0 rfl (lv_at hl 0 rfl) ?_
  refine lv_aload_n hx hb d_Mod_set_1 rfl (lv_at hl 0 rfl) ?_
  refine lv_iload_n hx hb d_Mod_set_2 rfl (lv_at hl 1 rfl) ?_
  refine lv_iconst (v := (nI 0)) hx hb d_Mod_set_3 rfl ?_
  refine lv_iconst (v := (nI 0)) hx hb d_Mod_set_4 rfl ?_
  refine lv_iload_n hx hb d_Mod_set_5 rfl (lv_at hl 2 rfl) ?_
  refine q_calli (va_runV (As := [.int b, .int (nI 0), .int (nI 0), .int q]) (rest := [.ref (ad 43)]) ⟨hx, hb, hml, hown, hts⟩ (c_Mod_wrong l dC dI cI cL cB ad N0 w t0 mn P N A rm rP rN rA bd b (nI 0) (nI 0) q hM) (cwV 4 hts (gI_V k_462 k_459 k_461 k_7 k_24) rfl rfl rfl (by decide +kernel) ⟨Nat.le_of_ble_eq_true rfl, Nat.le_of_ble_eq_true rfl⟩) (q_preV hK hAm hZ hN [.int b, .int (nI 0), .int (nI 0), .int q] (43) 3 (by decide) hM.1 rfl) rfl rfl hl.1 rfl (lv_room (Nat.le_of_ble_eq_true rfl)) d_Mod_set_6 ⟨Nat.zero_le _, Nat.zero_le _⟩) hZ (fun r u_r H locs h_r hZ => ?_)
  obtain ⟨e_r, h_r⟩ := h_r
  rw [e_r] at hZ
  refine q_topi (y := cd) (wr_x h_r hbad) ?_
  refine q_put (C := R_Mod) (T := T_Mod) (N := 10) (ty := .int) (v := .int cd) hx hb hts (fun w h => gm (inT_Mod w h)) ty_Mod tyo_Mod nm_Mod hown hK hZ (43) (by decide) hM.1 rfl 0 (by decide) (hts _ (gm k_420)) (fun _ h9 => h9) rfl (by decide +kernel) (rfl) (rfl) (Nat.le_of_ble_eq_true rfl) d_Mod_set_9 (fun H locs hZ => ?_)
  have hM := hM.up43 cd rm bd
  have hfr := fr_up (x := 43) (e := .inr (3, [.int cd, .ref (ad 44), .ref (ad 45), .ref (ad 46), .ref (ad 47), .int rm, .ref (ad 48), .ref (ad 49), .ref (ad 50), .int bd])) hfr (by omega) (by omega)
  have hZ : sZ (dC, dI) vCl 52 ad (fun q => N0 ≤ q) s.heap (va_up w 43 (.inr (3, [.int cd, .ref (ad 44), .ref (ad 45), .ref (ad 46), .ref (ad 47), .int rm, .ref (ad 48), .ref (ad 49), .ref (ad 50), .int bd]))) H locs := hZ
  generalize va_up w 43 (.inr (3, [.int cd, .ref (ad 44), .ref (ad 45), .ref (ad 46), .ref (ad 47), .int rm, .ref (ad 48), .ref (ad 49), .ref (ad 50), .int bd])) = w55 at hZ hM hfr
  refine lv_aload_n hx hb d_Mod_set_12 rfl (lv_at hl 0 rfl) ?_
  refine q_get (C := R_Mod) (T := T_Mod) (N := 10) hx hb hts (fun w h => gm (inT_Mod w h)) hown hK hZ (43) (by decide) hM.1 rfl 0 (by decide) (hts _ (gm k_420)) (fun _ h9 => h9) rfl d_Mod_set_13 ?_
  refine lv_if_ne (tgt := 35) hx hb d_Mod_set_16 (by decide) (fun h16 => ?_) (fun h16 => ?_)
  · skip
    refine lv_iconst (v := (nI 0)) hx hb d_Mod_set_35 rfl ?_
    exact q_zret hx hb hr rfl hlocks hK hAm hZ hN (⟨hfr, ⟨_, _, _, _, _, _, _, _, _, hM, hB⟩⟩) d_Mod_set_36
  · skip
    first | exact absurd h16 (wX_ne hbad) | exact absurd h16 (wX_le hbad) | exact absurd (wX_gt hbad) h16
set_option maxHeartbeats 4000000 in
set_option maxRecDepth 100000 in
theorem c_Mod_put (l : Launch) (dC : Nat → ClassId) (dI : Nat → Nat → Nat) (cI cL cB : ClassId) (ad : Nat → Nat) (N0 : Nat) (w : Nat → va_E) (t0 : Int32) (F : Nat → Int → Int64) (j : Nat) (q : Int32) (x v : Int64) (hMM : sM ad cI cL w t0 F) (hj : j < 8) (hq : okP q) : Met l y_Mod_put ws_Mod_put ({ frames := 2, cells := 0, slots := 0, locals := 54 } : Room) (va_Pc [.ref (ad 43), .int (nI j), .int q, .long x, .long v] (sPr (dC, dI) vCl [(cI, .int), (cL, .long), (cB, .object "CoinBag$Bag")] 52 ad N0 w)) (va_Qi (fun r u => fr w u 43 50 ∧ (((fH 0 (F j (kv q x)) v ∧ eC (fUp (F j) (kv q x) (F j (kv q x) + v))) ∧ r = 1 ∧ sM ad cI cL u (nI 0) (va_up F j (fUp (F j) (kv q x) (F j (kv q x) + v)))) ∨ (¬ (fH 0 (F j (kv q x)) v ∧ eC (fUp (F j) (kv q x) (F j (kv q x) + v))) ∧ r = 0 ∧ sM ad cI cL u (nI 0) F))) (sPr (dC, dI) vCl [(cI, .int), (cL, .long), (cB, .object "CoinBag$Bag")] 52 ad N0) (fun q => N0 ≤ q)) 0 0 (fun q => N0 ≤ q) := by
  refine Met.ofW (cc := b_Mod_put) (maxL := 9) (ret := (some .boolean)) (by decide) rfl ?_
  intro p e s m args below meth c s₁ B hml hv
  obtain ⟨rfl, hP, hK, hD, hN, hAm⟩ := hv
  have hx := B.exec
  have hb := B.bytes
  have hr := B.returns
  have hts := atoms_spec (ws := ws_Mod_put) B.pre
  have hown : s.vm.findClass "CoinBagModel" = some m.cls := findClass_of_methodNamed B.named
  have hlocks := B.notSynchronized
  have hZ : sZ (dC, dI) vCl 52 ad (fun q => N0 ≤ q) s.heap w s.heap [] := ⟨hP, hD, va_S.rf⟩
  have hl := lv_entry ([.ref (ad 43), .int (nI j), .int q, .long x, .long v]) (n := 9) (Nat.le_of_ble_eq_true rfl)
  rw [lg_entry_eq]
  generalize (lg_sl ([.ref (ad 43), .int (nI j), .int q, .long x, .long v]) ++ List.replicate (9 - (lg_sl ([.ref (ad 43), .int (nI j), .int q, .long x, .long v])).length) Slot.unset).toArray = ls at hl ⊢
  have hl : lv_has ls 9 [(0, .ref (ad 43)), (1, .int (nI j)), (2, .int q), (3, .long x), (5, .long v)] := hl
  obtain ⟨mn, P, N, A, rm, rP, rN, rA, bd, hM, hB⟩ := hMM
  have hfr : fr w w 43 50 := fr_rf
  obtain ⟨z, hz, hmn, hR⟩ := mB_at hB hj
  refine lv_aload_n hx hb d_Mod_put_0 rfl (lv_at hl 0 rfl) ?_
  refine lv_aload_n hx hb d_Mod_put_1 rfl (lv_at hl 0 rfl) ?_
  refine lv_iload_n hx hb d_Mod_put_2 rfl (lv_at hl 1 rfl) ?_
  refine lv_iconst (v := (nI 0)) hx hb d_Mod_put_3 rfl ?_
  refine lv_iconst (v := (nI 0)) hx hb d_Mod_put_4 rfl ?_
  refine lv_iload_n hx hb d_Mod_put_5 rfl (lv_at hl 2 rfl) ?_
  refine q_calli (va_runV (As := [.int (nI j), .int (nI 0), .int (nI 0), .int q]) (rest := [.ref (ad 43)]) ⟨hx, hb, hml, hown, hts⟩ (c_Mod_wrong l dC dI cI cL cB ad N0 w t0 mn P N A rm rP rN rA bd (nI j) (nI 0) (nI 0) q hM) (cwV 4 hts (gI_V k_462 k_459 k_461 k_7 k_24) rfl rfl rfl (by decide +kernel) ⟨Nat.le_of_ble_eq_true rfl, Nat.le_of_ble_eq_true rfl⟩) (q_preV hK hAm hZ hN [.int (nI j), .int (nI 0), .int (nI 0), .int q] (43) 3 (by decide) hM.1 rfl) rfl rfl hl.1 rfl (lv_room (Nat.le_of_ble_eq_true rfl)) d_Mod_put_6 ⟨Nat.zero_le _, Nat.zero_le _⟩) hZ (fun r u_r H locs h_r hZ => ?_)
  obtain ⟨e_r, h_r⟩ := h_r
  rw [e_r] at hZ
  refine q_topi (y := nI 0) (wr_ok h_r ⟨okB_nI hj, okB_0, okB_0⟩ hq) ?_
  refine q_put (C := R_Mod) (T := T_Mod) (N := 10) (ty := .int) (v := .int (nI 0)) hx hb hts (fun w h => gm (inT_Mod w h)) ty_Mod tyo_Mod nm_Mod hown hK hZ (43) (by decide) hM.1 rfl 0 (by decide) (hts _ (gm k_420)) (fun _ h9 => h9) rfl (by decide +kernel) (rfl) (rfl) (Nat.le_of_ble_eq_true rfl) d_Mod_put_9 (fun H locs hZ => ?_)
  have hM := hM.up43 (nI 0) rm bd
  have hfr := fr_up (x := 43) (e := .inr (3, [.int (nI 0), .ref (ad 44), .ref (ad 45), .ref (ad 46), .ref (ad 47), .int rm, .ref (ad 48), .ref (ad 49), .ref (ad 50), .int bd])) hfr (by omega) (by omega)
  have hZ : sZ (dC, dI) vCl 52 ad (fun q => N0 ≤ q) s.heap (va_up w 43 (.inr (3, [.int (nI 0), .ref (ad 44), .ref (ad 45), .ref (ad 46), .ref (ad 47), .int rm, .ref (ad 48), .ref (ad 49), .ref (ad 50), .int bd]))) H locs := hZ
  generalize va_up w 43 (.inr (3, [.int (nI 0), .ref (ad 44), .ref (ad 45), .ref (ad 46), .ref (ad 47), .int rm, .ref (ad 48), .ref (ad 49), .ref (ad 50), .int bd])) = w56 at hZ hM hfr
  refine lv_aload_n hx hb d_Mod_put_12 rfl (lv_at hl 0 rfl) ?_
  refine q_get (C := R_Mod) (T := T_Mod) (N := 10) hx hb hts (fun w h => gm (inT_Mod w h)) hown hK hZ (43) (by decide) hM.1 rfl 0 (by decide) (hts _ (gm k_420)) (fun _ h9 => h9) rfl d_Mod_put_13 ?_
  refine lv_if_le (tgt := 21) hx hb d_Mod_put_16 (by decide) (fun h16 => ?_) (fun h16 => ?_)
  · skip
    have h16 : 0 ≤ 0 := (nI_leI (a := 0) (b := 0) (by omega) (by omega)).mp h16
    refine lv_aload_n hx hb d_Mod_put_21 rfl (lv_at hl 0 rfl) ?_
    refine lv_iconst (v := (nI 0)) hx hb d_Mod_put_22 rfl ?_
    refine q_put (C := R_Mod) (T := T_Mod) (N := 10) (ty := .boolean) (v := .int (nI 0)) hx hb hts (fun w h => gm (inT_Mod w h)) ty_Mod tyo_Mod nm_Mod hown hK hZ (43) (by decide) hM.1 rfl 9 (by decide) (hts _ (gm k_429)) (fun _ h9 => h9) rfl (by decide +kernel) (rfl) (rfl) (Nat.le_of_ble_eq_true rfl) d_Mod_put_23 (fun H locs hZ => ?_)
    have hM := hM.up43 (nI 0) rm (nI 0)
    have hfr := fr_up (x := 43) (e := .inr (3, [.int (nI 0), .ref (ad 44), .ref (ad 45), .ref (ad 46), .ref (ad 47), .int rm, .ref (ad 48), .ref (ad 49), .ref (ad 50), .int (nI 0)])) hfr (by omega) (by omega)
    have hZ : sZ (dC, dI) vCl 52 ad (fun q => N0 ≤ q) s.heap (va_up w56 43 (.inr (3, [.int (nI 0), .ref (ad 44), .ref (ad 45), .ref (ad 46), .ref (ad 47), .int rm, .ref (ad 48), .ref (ad 49), .ref (ad 50), .int (nI 0)]))) H locs := hZ
    generalize va_up w56 43 (.inr (3, [.int (nI 0), .ref (ad 44), .ref (ad 45), .ref (ad 46), .ref (ad 47), .int rm, .ref (ad 48), .ref (ad 49), .ref (ad 50), .int (nI 0)])) = w57 at hZ hM hfr
    refine lv_aload_n hx hb d_Mod_put_26 rfl (lv_at hl 0 rfl) ?_
    refine lv_aload_n hx hb d_Mod_put_27 rfl (lv_at hl 0 rfl) ?_
    refine lv_iload_n hx hb d_Mod_put_28 rfl (lv_at hl 1 rfl) ?_
    refine lv_iload_n hx hb d_Mod_put_29 rfl (lv_at hl 2 rfl) ?_
    refine lv_lload_n hx hb d_Mod_put_30 rfl (lv_at hl 3 rfl) ?_
    refine q_calll (va_runV (As := [.int (nI j), .int q, .long x]) (rest := [.ref (ad 43)]) ⟨hx, hb, hml, hown, hts⟩ (c_Mod_valueOf l dC dI cI cL cB ad N0 w57 (nI 0) mn P N A rm rP rN rA (nI 0) j z (F j) q x hM hj hz hmn hR) (cwV 3 hts (gI_V k_485 k_482 k_484 k_10 k_24) rfl rfl rfl (by decide +kernel) ⟨Nat.le_of_ble_eq_true rfl, Nat.le_of_ble_eq_true rfl⟩) (q_preV hK hAm hZ hN [.int (nI j), .int q, .long x] (43) 3 (by decide) hM.1 rfl) rfl rfl hl.1 rfl (lv_room (Nat.le_of_ble_eq_true rfl)) d_Mod_put_31 ⟨Nat.zero_le _, Nat.zero_le _⟩) hZ (fun t9 u_t9 H locs h_t9 hZ => ?_)
    obtain ⟨e_t9, h_t9⟩ := h_t9
    rw [e_t9] at hZ
    refine q_topl (y := F j (kv q x)) h_t9 ?_
    refine lv_lload hx hb d_Mod_put_34 (lv_at hl 4 rfl) ?_
    refine q_calll (va_runV (As := [.long (F j (kv q x)), .long v]) (rest := []) ⟨hx, hb, hml, hown, hts⟩ (c_Mod_added l dC dI cI cL cB ad N0 w57 (nI 0) mn P N A rm rP rN rA (nI 0) (F j (kv q x)) v hM) (cwV 2 hts (gI_V k_489 k_486 k_488 k_11 k_24) rfl rfl rfl (by decide +kernel) ⟨Nat.le_of_ble_eq_true rfl, Nat.le_of_ble_eq_true rfl⟩) (q_preV hK hAm hZ hN [.long (F j (kv q x)), .long v] (43) 3 (by decide) hM.1 rfl) rfl rfl hl.1 rfl (lv_room (Nat.le_of_ble_eq_true rfl)) d_Mod_put_36 ⟨Nat.zero_le _, Nat.zero_le _⟩) hZ (fun a9 u_a9 H locs h_a9 hZ => ?_)
    obtain ⟨hf2, e_a, b2, hM, hb2⟩ := h_a9
    have hfr := fr_tr hfr hf2 (Nat.le_refl _) (Nat.le_refl _)
    refine q_topl (y := F j (kv q x) + v) e_a ?_
    refine lv_lstore (lv' := [(7, .long (F j (kv q x) + v)), (0, .ref (ad 43)), (1, .int (nI j)), (2, .int q), (3, .long x), (5, .long v)]) hx hb d_Mod_put_39 hl (by decide) rfl (fun ls hl => ?_)
    refine lv_aload_n hx hb d_Mod_put_41 rfl (lv_at hl 1 rfl) ?_
    refine q_get (C := R_Mod) (T := T_Mod) (N := 10) hx hb hts (fun w h => gm (inT_Mod w h)) hown hK hZ (43) (by decide) hM.1 rfl 9 (by decide) (hts _ (gm k_429)) (fun _ h9 => h9) rfl d_Mod_put_42 ?_
    refine lv_if_ne (tgt := 64) hx hb d_Mod_put_45 (by decide) (fun h45 => ?_) (fun h45 => ?_)
    · skip
      refine lv_iconst (v := (nI 0)) hx hb d_Mod_put_64 rfl ?_
      exact q_zret hx hb hr rfl hlocks hK hAm hZ hN (⟨hfr, Or.inr ⟨fun y => h45 (hb2.mpr ⟨rfl, y.1⟩), rfl, ⟨_, _, _, _, _, _, _, _, _, hM, hB⟩⟩⟩) d_Mod_put_65
    · skip
      refine lv_aload_n hx hb d_Mod_put_48 rfl (lv_at hl 1 rfl) ?_
      refine lv_iload_n hx hb d_Mod_put_49 rfl (lv_at hl 2 rfl) ?_
      refine lv_iload_n hx hb d_Mod_put_50 rfl (lv_at hl 3 rfl) ?_
      refine lv_lload_n hx hb d_Mod_put_51 rfl (lv_at hl 4 rfl) ?_
      refine lv_lload hx hb d_Mod_put_52 (lv_at hl 0 rfl) ?_
      refine q_calli (va_runV (As := [.int (nI j), .int q, .long x, .long (F j (kv q x) + v)]) (rest := []) ⟨hx, hb, hml, hown, hts⟩ (c_Mod_store l dC dI cI cL cB ad N0 u_a9 (nI 0) mn P N A rm rP rN rA b2 j F q x (F j (kv q x) + v) hM hj hB) (cwV 4 hts (gI_V k_473 k_470 k_472 k_8 k_24) rfl rfl rfl (by decide +kernel) ⟨Nat.le_of_ble_eq_true rfl, Nat.le_of_ble_eq_true rfl⟩) (q_preV hK hAm hZ hN [.int (nI j), .int q, .long x, .long (F j (kv q x) + v)] (43) 3 (by decide) hM.1 rfl) rfl rfl hl.1 rfl (lv_room (Nat.le_of_ble_eq_true rfl)) d_Mod_put_54 ⟨Nat.zero_le _, Nat.zero_le _⟩) hZ (fun s9 u_s9 H locs h_s9 hZ => ?_)
      refine lv_if_eq (tgt := 64) hx hb d_Mod_put_57 (by decide) (fun h57 => ?_) (fun h57 => ?_)
      · skip
        refine lv_iconst (v := (nI 0)) hx hb d_Mod_put_64 rfl ?_
        exact q_zret hx hb hr rfl hlocks hK hAm hZ hN (⟨fr_tr hfr h_s9.1 (Nat.le_refl _) (Nat.le_refl _), (by first | exact Or.inl ⟨⟨(hb2.mp h45).2, (b3T h_s9.2 h57).1⟩, rfl, (b3T h_s9.2 h57).2⟩ | exact Or.inr ⟨fun y => (b3F h_s9.2 h57).1 y.2, rfl, (b3F h_s9.2 h57).2⟩)⟩) d_Mod_put_65
      · skip
        refine lv_iconst (v := (nI 1)) hx hb d_Mod_put_60 rfl ?_
        refine lv_goto (tgt := 65) hx hb d_Mod_put_61 (by decide) ?_
        exact q_zret hx hb hr rfl hlocks hK hAm hZ hN (⟨fr_tr hfr h_s9.1 (Nat.le_refl _) (Nat.le_refl _), (by first | exact Or.inl ⟨⟨(hb2.mp h45).2, (b3T h_s9.2 h57).1⟩, rfl, (b3T h_s9.2 h57).2⟩ | exact Or.inr ⟨fun y => (b3F h_s9.2 h57).1 y.2, rfl, (b3F h_s9.2 h57).2⟩)⟩) d_Mod_put_65
  · skip
    have h16 : 0 < 0 := Nat.lt_of_not_le (fun z9 => h16 ((nI_leI (a := 0) (b := 0) (by omega) (by omega)).mpr z9))
    exact absurd h16 (by decide)
set_option maxHeartbeats 4000000 in
set_option maxRecDepth 100000 in
theorem x_Mod_put (l : Launch) (dC : Nat → ClassId) (dI : Nat → Nat → Nat) (cI cL cB : ClassId) (ad : Nat → Nat) (N0 : Nat) (w : Nat → va_E) (t0 : Int32) (F : Nat → Int → Int64) (b q : Int32) (x v : Int64) (cd : Int32) (hMM : sM ad cI cL w t0 F) (hbad : wX b (nI 0) (nI 0) q cd) : Met l y_Mod_put ws_Mod_put ({ frames := 2, cells := 0, slots := 0, locals := 44 } : Room) (va_Pc [.ref (ad 43), .int b, .int q, .long x, .long v] (sPr (dC, dI) vCl [(cI, .int), (cL, .long), (cB, .object "CoinBag$Bag")] 52 ad N0 w)) (va_Qi (fun r u => fr w u 43 50 ∧ sM ad cI cL u cd F) (sPr (dC, dI) vCl [(cI, .int), (cL, .long), (cB, .object "CoinBag$Bag")] 52 ad N0) (fun q => N0 ≤ q)) 0 0 (fun q => N0 ≤ q) := by
  refine Met.ofW (cc := b_Mod_put) (maxL := 9) (ret := (some .boolean)) (by decide) rfl ?_
  intro p e s m args below meth c s₁ B hml hv
  obtain ⟨rfl, hP, hK, hD, hN, hAm⟩ := hv
  have hx := B.exec
  have hb := B.bytes
  have hr := B.returns
  have hts := atoms_spec (ws := ws_Mod_put) B.pre
  have hown : s.vm.findClass "CoinBagModel" = some m.cls := findClass_of_methodNamed B.named
  have hlocks := B.notSynchronized
  have hZ : sZ (dC, dI) vCl 52 ad (fun q => N0 ≤ q) s.heap w s.heap [] := ⟨hP, hD, va_S.rf⟩
  have hl := lv_entry ([.ref (ad 43), .int b, .int q, .long x, .long v]) (n := 9) (Nat.le_of_ble_eq_true rfl)
  rw [lg_entry_eq]
  generalize (lg_sl ([.ref (ad 43), .int b, .int q, .long x, .long v]) ++ List.replicate (9 - (lg_sl ([.ref (ad 43), .int b, .int q, .long x, .long v])).length) Slot.unset).toArray = ls at hl ⊢
  have hl : lv_has ls 9 [(0, .ref (ad 43)), (1, .int b), (2, .int q), (3, .long x), (5, .long v)] := hl
  obtain ⟨mn, P, N, A, rm, rP, rN, rA, bd, hM, hB⟩ := hMM
  have hfr : fr w w 43 50 := fr_rf
  refine lv_aload_n hx hb d_Mod_put_0 rfl (lv_at hl 0 rfl) ?_
  refine lv_aload_n hx hb d_Mod_put_1 rfl (lv_at hl 0 rfl) ?_
  refine lv_iload_n hx hb d_Mod_put_2 rfl (lv_at hl 1 rfl) ?_
  refine lv_iconst (v := (nI 0)) hx hb d_Mod_put_3 rfl ?_
  refine lv_iconst (v := (nI 0)) hx hb d_Mod_put_4 rfl ?_
  refine lv_iload_n hx hb d_Mod_put_5 rfl (lv_at hl 2 rfl) ?_
  refine q_calli (va_runV (As := [.int b, .int (nI 0), .int (nI 0), .int q]) (rest := [.ref (ad 43)]) ⟨hx, hb, hml, hown, hts⟩ (c_Mod_wrong l dC dI cI cL cB ad N0 w t0 mn P N A rm rP rN rA bd b (nI 0) (nI 0) q hM) (cwV 4 hts (gI_V k_462 k_459 k_461 k_7 k_24) rfl rfl rfl (by decide +kernel) ⟨Nat.le_of_ble_eq_true rfl, Nat.le_of_ble_eq_true rfl⟩) (q_preV hK hAm hZ hN [.int b, .int (nI 0), .int (nI 0), .int q] (43) 3 (by decide) hM.1 rfl) rfl rfl hl.1 rfl (lv_room (Nat.le_of_ble_eq_true rfl)) d_Mod_put_6 ⟨Nat.zero_le _, Nat.zero_le _⟩) hZ (fun r u_r H locs h_r hZ => ?_)
  obtain ⟨e_r, h_r⟩ := h_r
  rw [e_r] at hZ
  refine q_topi (y := cd) (wr_x h_r hbad) ?_
  refine q_put (C := R_Mod) (T := T_Mod) (N := 10) (ty := .int) (v := .int cd) hx hb hts (fun w h => gm (inT_Mod w h)) ty_Mod tyo_Mod nm_Mod hown hK hZ (43) (by decide) hM.1 rfl 0 (by decide) (hts _ (gm k_420)) (fun _ h9 => h9) rfl (by decide +kernel) (rfl) (rfl) (Nat.le_of_ble_eq_true rfl) d_Mod_put_9 (fun H locs hZ => ?_)
  have hM := hM.up43 cd rm bd
  have hfr := fr_up (x := 43) (e := .inr (3, [.int cd, .ref (ad 44), .ref (ad 45), .ref (ad 46), .ref (ad 47), .int rm, .ref (ad 48), .ref (ad 49), .ref (ad 50), .int bd])) hfr (by omega) (by omega)
  have hZ : sZ (dC, dI) vCl 52 ad (fun q => N0 ≤ q) s.heap (va_up w 43 (.inr (3, [.int cd, .ref (ad 44), .ref (ad 45), .ref (ad 46), .ref (ad 47), .int rm, .ref (ad 48), .ref (ad 49), .ref (ad 50), .int bd]))) H locs := hZ
  generalize va_up w 43 (.inr (3, [.int cd, .ref (ad 44), .ref (ad 45), .ref (ad 46), .ref (ad 47), .int rm, .ref (ad 48), .ref (ad 49), .ref (ad 50), .int bd])) = w58 at hZ hM hfr
  refine lv_aload_n hx hb d_Mod_put_12 rfl (lv_at hl 0 rfl) ?_
  refine q_get (C := R_Mod) (T := T_Mod) (N := 10) hx hb hts (fun w h => gm (inT_Mod w h)) hown hK hZ (43) (by decide) hM.1 rfl 0 (by decide) (hts _ (gm k_420)) (fun _ h9 => h9) rfl d_Mod_put_13 ?_
  refine lv_if_le (tgt := 21) hx hb d_Mod_put_16 (by decide) (fun h16 => ?_) (fun h16 => ?_)
  · skip
    first | exact absurd h16 (wX_ne hbad) | exact absurd h16 (wX_le hbad) | exact absurd (wX_gt hbad) h16
  · skip
    refine lv_iconst (v := (nI 0)) hx hb d_Mod_put_19 rfl ?_
    exact q_zret hx hb hr rfl hlocks hK hAm hZ hN (⟨hfr, ⟨_, _, _, _, _, _, _, _, _, hM, hB⟩⟩) d_Mod_put_20
set_option maxHeartbeats 4000000 in
set_option maxRecDepth 100000 in
theorem c_Mod_amount (l : Launch) (dC : Nat → ClassId) (dI : Nat → Nat → Nat) (cI cL cB : ClassId) (ad : Nat → Nat) (N0 : Nat) (w : Nat → va_E) (t0 : Int32) (F : Nat → Int → Int64) (j : Nat) (q : Int32) (x : Int64) (hMM : sM ad cI cL w t0 F) (hj : j < 8) (hq : okP q) : Met l y_Mod_amount ws_Mod_amount ({ frames := 2, cells := 0, slots := 0, locals := 50 } : Room) (va_Pc [.ref (ad 43), .int (nI j), .int q, .long x] (sPr (dC, dI) vCl [(cI, .int), (cL, .long), (cB, .object "CoinBag$Bag")] 52 ad N0 w)) (va_Ql (fun r u => fr w u 43 50 ∧ sM ad cI cL u (nI 0) F ∧ r = F j (kv q x)) (sPr (dC, dI) vCl [(cI, .int), (cL, .long), (cB, .object "CoinBag$Bag")] 52 ad N0) (fun q => N0 ≤ q)) 0 0 (fun q => N0 ≤ q) := by
  refine Met.ofW (cc := b_Mod_amount) (maxL := 5) (ret := (some .long)) (by decide) rfl ?_
  intro p e s m args below meth c s₁ B hml hv
  obtain ⟨rfl, hP, hK, hD, hN, hAm⟩ := hv
  have hx := B.exec
  have hb := B.bytes
  have hr := B.returns
  have hts := atoms_spec (ws := ws_Mod_amount) B.pre
  have hown : s.vm.findClass "CoinBagModel" = some m.cls := findClass_of_methodNamed B.named
  have hlocks := B.notSynchronized
  have hZ : sZ (dC, dI) vCl 52 ad (fun q => N0 ≤ q) s.heap w s.heap [] := ⟨hP, hD, va_S.rf⟩
  have hl := lv_entry ([.ref (ad 43), .int (nI j), .int q, .long x]) (n := 5) (Nat.le_of_ble_eq_true rfl)
  rw [lg_entry_eq]
  generalize (lg_sl ([.ref (ad 43), .int (nI j), .int q, .long x]) ++ List.replicate (5 - (lg_sl ([.ref (ad 43), .int (nI j), .int q, .long x])).length) Slot.unset).toArray = ls at hl ⊢
  have hl : lv_has ls 5 [(0, .ref (ad 43)), (1, .int (nI j)), (2, .int q), (3, .long x)] := hl
  obtain ⟨mn, P, N, A, rm, rP, rN, rA, bd, hM, hB⟩ := hMM
  have hfr : fr w w 43 50 := fr_rf
  obtain ⟨z, hz, hmn, hR⟩ := mB_at hB hj
  refine lv_aload_n hx hb d_Mod_amount_0 rfl (lv_at hl 0 rfl) ?_
  refine lv_aload_n hx hb d_Mod_amount_1 rfl (lv_at hl 0 rfl) ?_
  refine lv_iload_n hx hb d_Mod_amount_2 rfl (lv_at hl 1 rfl) ?_
  refine lv_iconst (v := (nI 0)) hx hb d_Mod_amount_3 rfl ?_
  refine lv_iconst (v := (nI 0)) hx hb d_Mod_amount_4 rfl ?_
  refine lv_iload_n hx hb d_Mod_amount_5 rfl (lv_at hl 2 rfl) ?_
  refine q_calli (va_runV (As := [.int (nI j), .int (nI 0), .int (nI 0), .int q]) (rest := [.ref (ad 43)]) ⟨hx, hb, hml, hown, hts⟩ (c_Mod_wrong l dC dI cI cL cB ad N0 w t0 mn P N A rm rP rN rA bd (nI j) (nI 0) (nI 0) q hM) (cwV 4 hts (gI_V k_462 k_459 k_461 k_7 k_24) rfl rfl rfl (by decide +kernel) ⟨Nat.le_of_ble_eq_true rfl, Nat.le_of_ble_eq_true rfl⟩) (q_preV hK hAm hZ hN [.int (nI j), .int (nI 0), .int (nI 0), .int q] (43) 3 (by decide) hM.1 rfl) rfl rfl hl.1 rfl (lv_room (Nat.le_of_ble_eq_true rfl)) d_Mod_amount_6 ⟨Nat.zero_le _, Nat.zero_le _⟩) hZ (fun r u_r H locs h_r hZ => ?_)
  obtain ⟨e_r, h_r⟩ := h_r
  rw [e_r] at hZ
  refine q_topi (y := nI 0) (wr_ok h_r ⟨okB_nI hj, okB_0, okB_0⟩ hq) ?_
  refine q_put (C := R_Mod) (T := T_Mod) (N := 10) (ty := .int) (v := .int (nI 0)) hx hb hts (fun w h => gm (inT_Mod w h)) ty_Mod tyo_Mod nm_Mod hown hK hZ (43) (by decide) hM.1 rfl 0 (by decide) (hts _ (gm k_420)) (fun _ h9 => h9) rfl (by decide +kernel) (rfl) (rfl) (Nat.le_of_ble_eq_true rfl) d_Mod_amount_9 (fun H locs hZ => ?_)
  have hM := hM.up43 (nI 0) rm bd
  have hfr := fr_up (x := 43) (e := .inr (3, [.int (nI 0), .ref (ad 44), .ref (ad 45), .ref (ad 46), .ref (ad 47), .int rm, .ref (ad 48), .ref (ad 49), .ref (ad 50), .int bd])) hfr (by omega) (by omega)
  have hZ : sZ (dC, dI) vCl 52 ad (fun q => N0 ≤ q) s.heap (va_up w 43 (.inr (3, [.int (nI 0), .ref (ad 44), .ref (ad 45), .ref (ad 46), .ref (ad 47), .int rm, .ref (ad 48), .ref (ad 49), .ref (ad 50), .int bd]))) H locs := hZ
  generalize va_up w 43 (.inr (3, [.int (nI 0), .ref (ad 44), .ref (ad 45), .ref (ad 46), .ref (ad 47), .int rm, .ref (ad 48), .ref (ad 49), .ref (ad 50), .int bd])) = w59 at hZ hM hfr
  refine lv_aload_n hx hb d_Mod_amount_12 rfl (lv_at hl 0 rfl) ?_
  refine q_get (C := R_Mod) (T := T_Mod) (N := 10) hx hb hts (fun w h => gm (inT_Mod w h)) hown hK hZ (43) (by decide) hM.1 rfl 0 (by decide) (hts _ (gm k_420)) (fun _ h9 => h9) rfl d_Mod_amount_13 ?_
  refine lv_if_le (tgt := 23) hx hb d_Mod_amount_16 (by decide) (fun h16 => ?_) (fun h16 => ?_)
  · skip
    have h16 : 0 ≤ 0 := (nI_leI (a := 0) (b := 0) (by omega) (by omega)).mp h16
    refine lv_aload_n hx hb d_Mod_amount_23 rfl (lv_at hl 0 rfl) ?_
    refine lv_iload_n hx hb d_Mod_amount_24 rfl (lv_at hl 1 rfl) ?_
    refine lv_iload_n hx hb d_Mod_amount_25 rfl (lv_at hl 2 rfl) ?_
    refine lv_lload_n hx hb d_Mod_amount_26 rfl (lv_at hl 3 rfl) ?_
    refine q_calll (va_runV (As := [.int (nI j), .int q, .long x]) (rest := []) ⟨hx, hb, hml, hown, hts⟩ (c_Mod_valueOf l dC dI cI cL cB ad N0 w59 (nI 0) mn P N A rm rP rN rA bd j z (F j) q x hM hj hz hmn hR) (cwV 3 hts (gI_V k_485 k_482 k_484 k_10 k_24) rfl rfl rfl (by decide +kernel) ⟨Nat.le_of_ble_eq_true rfl, Nat.le_of_ble_eq_true rfl⟩) (q_preV hK hAm hZ hN [.int (nI j), .int q, .long x] (43) 3 (by decide) hM.1 rfl) rfl rfl hl.1 rfl (lv_room (Nat.le_of_ble_eq_true rfl)) d_Mod_amount_27 ⟨Nat.zero_le _, Nat.zero_le _⟩) hZ (fun t9 u_t9 H locs h_t9 hZ => ?_)
    obtain ⟨e_t9, h_t9⟩ := h_t9
    rw [e_t9] at hZ
    refine q_topl (y := F j (kv q x)) h_t9 ?_
    exact q_lret hx hb hr hlocks hK hAm hZ hN (⟨hfr, ⟨_, _, _, _, _, _, _, _, _, hM, hB⟩, rfl⟩) d_Mod_amount_30
  · skip
    have h16 : 0 < 0 := Nat.lt_of_not_le (fun z9 => h16 ((nI_leI (a := 0) (b := 0) (by omega) (by omega)).mpr z9))
    exact absurd h16 (by decide)
set_option maxHeartbeats 4000000 in
set_option maxRecDepth 100000 in
theorem x_Mod_amount (l : Launch) (dC : Nat → ClassId) (dI : Nat → Nat → Nat) (cI cL cB : ClassId) (ad : Nat → Nat) (N0 : Nat) (w : Nat → va_E) (t0 : Int32) (F : Nat → Int → Int64) (b q : Int32) (x : Int64) (cd : Int32) (hMM : sM ad cI cL w t0 F) (hbad : wX b (nI 0) (nI 0) q cd) : Met l y_Mod_amount ws_Mod_amount ({ frames := 2, cells := 0, slots := 0, locals := 44 } : Room) (va_Pc [.ref (ad 43), .int b, .int q, .long x] (sPr (dC, dI) vCl [(cI, .int), (cL, .long), (cB, .object "CoinBag$Bag")] 52 ad N0 w)) (va_Ql (fun r u => fr w u 43 50 ∧ sM ad cI cL u cd F) (sPr (dC, dI) vCl [(cI, .int), (cL, .long), (cB, .object "CoinBag$Bag")] 52 ad N0) (fun q => N0 ≤ q)) 0 0 (fun q => N0 ≤ q) := by
  refine Met.ofW (cc := b_Mod_amount) (maxL := 5) (ret := (some .long)) (by decide) rfl ?_
  intro p e s m args below meth c s₁ B hml hv
  obtain ⟨rfl, hP, hK, hD, hN, hAm⟩ := hv
  have hx := B.exec
  have hb := B.bytes
  have hr := B.returns
  have hts := atoms_spec (ws := ws_Mod_amount) B.pre
  have hown : s.vm.findClass "CoinBagModel" = some m.cls := findClass_of_methodNamed B.named
  have hlocks := B.notSynchronized
  have hZ : sZ (dC, dI) vCl 52 ad (fun q => N0 ≤ q) s.heap w s.heap [] := ⟨hP, hD, va_S.rf⟩
  have hl := lv_entry ([.ref (ad 43), .int b, .int q, .long x]) (n := 5) (Nat.le_of_ble_eq_true rfl)
  rw [lg_entry_eq]
  generalize (lg_sl ([.ref (ad 43), .int b, .int q, .long x]) ++ List.replicate (5 - (lg_sl ([.ref (ad 43), .int b, .int q, .long x])).length) Slot.unset).toArray = ls at hl ⊢
  have hl : lv_has ls 5 [(0, .ref (ad 43)), (1, .int b), (2, .int q), (3, .long x)] := hl
  obtain ⟨mn, P, N, A, rm, rP, rN, rA, bd, hM, hB⟩ := hMM
  have hfr : fr w w 43 50 := fr_rf
  refine lv_aload_n hx hb d_Mod_amount_0 rfl (lv_at hl 0 rfl) ?_
  refine lv_aload_n hx hb d_Mod_amount_1 rfl (lv_at hl 0 rfl) ?_
  refine lv_iload_n hx hb d_Mod_amount_2 rfl (lv_at hl 1 rfl) ?_
  refine lv_iconst (v := (nI 0)) hx hb d_Mod_amount_3 rfl ?_
  refine lv_iconst (v := (nI 0)) hx hb d_Mod_amount_4 rfl ?_
  refine lv_iload_n hx hb d_Mod_amount_5 rfl (lv_at hl 2 rfl) ?_
  refine q_calli (va_runV (As := [.int b, .int (nI 0), .int (nI 0), .int q]) (rest := [.ref (ad 43)]) ⟨hx, hb, hml, hown, hts⟩ (c_Mod_wrong l dC dI cI cL cB ad N0 w t0 mn P N A rm rP rN rA bd b (nI 0) (nI 0) q hM) (cwV 4 hts (gI_V k_462 k_459 k_461 k_7 k_24) rfl rfl rfl (by decide +kernel) ⟨Nat.le_of_ble_eq_true rfl, Nat.le_of_ble_eq_true rfl⟩) (q_preV hK hAm hZ hN [.int b, .int (nI 0), .int (nI 0), .int q] (43) 3 (by decide) hM.1 rfl) rfl rfl hl.1 rfl (lv_room (Nat.le_of_ble_eq_true rfl)) d_Mod_amount_6 ⟨Nat.zero_le _, Nat.zero_le _⟩) hZ (fun r u_r H locs h_r hZ => ?_)
  obtain ⟨e_r, h_r⟩ := h_r
  rw [e_r] at hZ
  refine q_topi (y := cd) (wr_x h_r hbad) ?_
  refine q_put (C := R_Mod) (T := T_Mod) (N := 10) (ty := .int) (v := .int cd) hx hb hts (fun w h => gm (inT_Mod w h)) ty_Mod tyo_Mod nm_Mod hown hK hZ (43) (by decide) hM.1 rfl 0 (by decide) (hts _ (gm k_420)) (fun _ h9 => h9) rfl (by decide +kernel) (rfl) (rfl) (Nat.le_of_ble_eq_true rfl) d_Mod_amount_9 (fun H locs hZ => ?_)
  have hM := hM.up43 cd rm bd
  have hfr := fr_up (x := 43) (e := .inr (3, [.int cd, .ref (ad 44), .ref (ad 45), .ref (ad 46), .ref (ad 47), .int rm, .ref (ad 48), .ref (ad 49), .ref (ad 50), .int bd])) hfr (by omega) (by omega)
  have hZ : sZ (dC, dI) vCl 52 ad (fun q => N0 ≤ q) s.heap (va_up w 43 (.inr (3, [.int cd, .ref (ad 44), .ref (ad 45), .ref (ad 46), .ref (ad 47), .int rm, .ref (ad 48), .ref (ad 49), .ref (ad 50), .int bd]))) H locs := hZ
  generalize va_up w 43 (.inr (3, [.int cd, .ref (ad 44), .ref (ad 45), .ref (ad 46), .ref (ad 47), .int rm, .ref (ad 48), .ref (ad 49), .ref (ad 50), .int bd])) = w60 at hZ hM hfr
  refine lv_aload_n hx hb d_Mod_amount_12 rfl (lv_at hl 0 rfl) ?_
  refine q_get (C := R_Mod) (T := T_Mod) (N := 10) hx hb hts (fun w h => gm (inT_Mod w h)) hown hK hZ (43) (by decide) hM.1 rfl 0 (by decide) (hts _ (gm k_420)) (fun _ h9 => h9) rfl d_Mod_amount_13 ?_
  refine lv_if_le (tgt := 23) hx hb d_Mod_amount_16 (by decide) (fun h16 => ?_) (fun h16 => ?_)
  · skip
    first | exact absurd h16 (wX_ne hbad) | exact absurd h16 (wX_le hbad) | exact absurd (wX_gt hbad) h16
  · skip
    refine lv_lconst (v := 0) hx hb d_Mod_amount_19 rfl ?_
    refine lv_goto (tgt := 30) hx hb d_Mod_amount_20 (by decide) ?_
    exact q_lret hx hb hr hlocks hK hAm hZ hN (⟨hfr, ⟨_, _, _, _, _, _, _, _, _, hM, hB⟩⟩) d_Mod_amount_30
set_option maxHeartbeats 4000000 in
set_option maxRecDepth 100000 in
theorem c_Mod_size (l : Launch) (dC : Nat → ClassId) (dI : Nat → Nat → Nat) (cI cL cB : ClassId) (ad : Nat → Nat) (N0 : Nat) (w : Nat → va_E) (t0 : Int32) (F : Nat → Int → Int64) (j : Nat) (hMM : sM ad cI cL w t0 F) (hj : j < 8) : Met l y_Mod_size ws_Mod_size ({ frames := 1, cells := 0, slots := 0, locals := 20 } : Room) (va_Pc [.ref (ad 43), .int (nI j)] (sPr (dC, dI) vCl [(cI, .int), (cL, .long), (cB, .object "CoinBag$Bag")] 52 ad N0 w)) (va_Qi (fun r u => fr w u 43 50 ∧ sM ad cI cL u (nI 0) F ∧ ∃ (z : Nat) (k : Nat → Int), r = nI z ∧ z ≤ 64 ∧ eI z k ∧ eF z k (F j)) (sPr (dC, dI) vCl [(cI, .int), (cL, .long), (cB, .object "CoinBag$Bag")] 52 ad N0) (fun q => N0 ≤ q)) 0 0 (fun q => N0 ≤ q) := by
  refine Met.ofW (cc := b_Mod_size) (maxL := 2) (ret := (some .int)) (by decide) rfl ?_
  intro p e s m args below meth c s₁ B hml hv
  obtain ⟨rfl, hP, hK, hD, hN, hAm⟩ := hv
  have hx := B.exec
  have hb := B.bytes
  have hr := B.returns
  have hts := atoms_spec (ws := ws_Mod_size) B.pre
  have hown : s.vm.findClass "CoinBagModel" = some m.cls := findClass_of_methodNamed B.named
  have hlocks := B.notSynchronized
  have hZ : sZ (dC, dI) vCl 52 ad (fun q => N0 ≤ q) s.heap w s.heap [] := ⟨hP, hD, va_S.rf⟩
  have hl := lv_entry ([.ref (ad 43), .int (nI j)]) (n := 2) (Nat.le_of_ble_eq_true rfl)
  rw [lg_entry_eq]
  generalize (lg_sl ([.ref (ad 43), .int (nI j)]) ++ List.replicate (2 - (lg_sl ([.ref (ad 43), .int (nI j)])).length) Slot.unset).toArray = ls at hl ⊢
  have hl : lv_has ls 2 [(0, .ref (ad 43)), (1, .int (nI j))] := hl
  obtain ⟨mn, P, N, A, rm, rP, rN, rA, bd, hM, hB⟩ := hMM
  have hfr : fr w w 43 50 := fr_rf
  obtain ⟨z, hz, hmn, hR⟩ := mB_at hB hj
  refine lv_aload_n hx hb d_Mod_size_0 rfl (lv_at hl 0 rfl) ?_
  refine lv_iload_n hx hb d_Mod_size_1 rfl (lv_at hl 1 rfl) ?_
  refine q_callSi (va_runS (As := [.int (nI j)]) (rest := [.ref (ad 43)]) ⟨hx, hb, hml, hown, hts⟩ (c_Mod_isBag l (nI j)) (va_cwS 1 hts (gI_S k_465 k_463 k_464 k_24) rfl rfl rfl (by decide +kernel) ⟨Nat.le_of_ble_eq_true rfl, Nat.le_of_ble_eq_true rfl⟩) ⟨fun _ _ _ _ q => q, fun _ _ _ => ⟨rfl, trivial⟩⟩ rfl rfl hl.1 rfl (lv_room (Nat.le_of_ble_eq_true rfl)) d_Mod_size_2 ⟨Nat.zero_le _, Nat.zero_le _⟩) (fun b9 h_b9 => ?_)
  have h_b9 := bY h_b9 (okB_nI hj)
  refine q_topi (y := nI 1) h_b9 ?_
  refine lv_if_eq (tgt := 12) hx hb d_Mod_size_5 (by decide) (fun h5 => ?_) (fun h5 => ?_)
  · skip
    have h5 : 1 = 0 := (nI_eq (a := 1) (b := 0) (by omega) (by omega)).mp h5
    exact absurd h5 (by decide)
  · skip
    have h5 : ¬ 1 = 0 := fun z9 => h5 ((nI_eq (a := 1) (b := 0) (by omega) (by omega)).mpr z9)
    refine lv_iconst (v := (nI 0)) hx hb d_Mod_size_8 rfl ?_
    refine lv_goto (tgt := 13) hx hb d_Mod_size_9 (by decide) ?_
    refine q_put (C := R_Mod) (T := T_Mod) (N := 10) (ty := .int) (v := .int (nI 0)) hx hb hts (fun w h => gm (inT_Mod w h)) ty_Mod tyo_Mod nm_Mod hown hK hZ (43) (by decide) hM.1 rfl 0 (by decide) (hts _ (gm k_420)) (fun _ h9 => h9) rfl (by decide +kernel) (rfl) (rfl) (Nat.le_of_ble_eq_true rfl) d_Mod_size_13 (fun H locs hZ => ?_)
    have hM := hM.up43 (nI 0) rm bd
    have hfr := fr_up (x := 43) (e := .inr (3, [.int (nI 0), .ref (ad 44), .ref (ad 45), .ref (ad 46), .ref (ad 47), .int rm, .ref (ad 48), .ref (ad 49), .ref (ad 50), .int bd])) hfr (by omega) (by omega)
    have hZ : sZ (dC, dI) vCl 52 ad (fun q => N0 ≤ q) s.heap (va_up w 43 (.inr (3, [.int (nI 0), .ref (ad 44), .ref (ad 45), .ref (ad 46), .ref (ad 47), .int rm, .ref (ad 48), .ref (ad 49), .ref (ad 50), .int bd]))) H locs := hZ
    generalize va_up w 43 (.inr (3, [.int (nI 0), .ref (ad 44), .ref (ad 45), .ref (ad 46), .ref (ad 47), .int rm, .ref (ad 48), .ref (ad 49), .ref (ad 50), .int bd])) = w61 at hZ hM hfr
    refine lv_aload_n hx hb d_Mod_size_16 rfl (lv_at hl 0 rfl) ?_
    refine q_get (C := R_Mod) (T := T_Mod) (N := 10) hx hb hts (fun w h => gm (inT_Mod w h)) hown hK hZ (43) (by decide) hM.1 rfl 0 (by decide) (hts _ (gm k_420)) (fun _ h9 => h9) rfl d_Mod_size_17 ?_
    refine lv_if_le (tgt := 27) hx hb d_Mod_size_20 (by decide) (fun h20 => ?_) (fun h20 => ?_)
    · skip
      have h20 : 0 ≤ 0 := (nI_leI (a := 0) (b := 0) (by omega) (by omega)).mp h20
      refine lv_aload_n hx hb d_Mod_size_27 rfl (lv_at hl 0 rfl) ?_
      refine q_get (C := R_Mod) (T := T_Mod) (N := 10) hx hb hts (fun w h => gm (inT_Mod w h)) hown hK hZ (43) (by decide) hM.1 rfl 1 (by decide) (hts _ (gm k_421)) (fun _ h9 => h9) rfl d_Mod_size_28 ?_
      refine lv_iload_n hx hb d_Mod_size_31 rfl (lv_at hl 1 rfl) ?_
      refine q_iald hx hb hK hZ (44) 0 (j) (by decide) hM.2.1 rfl rfl (by omega) (by decide) d_Mod_size_32 ?_
      refine q_topi (y := nI z) (hmn) ?_
      exact q_iret hx hb hr hlocks hK hAm hZ hN (⟨hfr, ⟨_, _, _, _, _, _, _, _, _, hM, hB⟩, z, _, rfl, hz, hR.1, hR.2.1⟩) d_Mod_size_33
    · skip
      have h20 : 0 < 0 := Nat.lt_of_not_le (fun z9 => h20 ((nI_leI (a := 0) (b := 0) (by omega) (by omega)).mpr z9))
      exact absurd h20 (by decide)
set_option maxHeartbeats 4000000 in
set_option maxRecDepth 100000 in
theorem x_Mod_size (l : Launch) (dC : Nat → ClassId) (dI : Nat → Nat → Nat) (cI cL cB : ClassId) (ad : Nat → Nat) (N0 : Nat) (w : Nat → va_E) (t0 : Int32) (F : Nat → Int → Int64) (b : Int32) (hMM : sM ad cI cL w t0 F) (hbad : ¬ okB b) : Met l y_Mod_size ws_Mod_size ({ frames := 1, cells := 0, slots := 0, locals := 20 } : Room) (va_Pc [.ref (ad 43), .int b] (sPr (dC, dI) vCl [(cI, .int), (cL, .long), (cB, .object "CoinBag$Bag")] 52 ad N0 w)) (va_Qi (fun r u => fr w u 43 50 ∧ sM ad cI cL u (nI 1) F) (sPr (dC, dI) vCl [(cI, .int), (cL, .long), (cB, .object "CoinBag$Bag")] 52 ad N0) (fun q => N0 ≤ q)) 0 0 (fun q => N0 ≤ q) := by
  refine Met.ofW (cc := b_Mod_size) (maxL := 2) (ret := (some .int)) (by decide) rfl ?_
  intro p e s m args below meth c s₁ B hml hv
  obtain ⟨rfl, hP, hK, hD, hN, hAm⟩ := hv
  have hx := B.exec
  have hb := B.bytes
  have hr := B.returns
  have hts := atoms_spec (ws := ws_Mod_size) B.pre
  have hown : s.vm.findClass "CoinBagModel" = some m.cls := findClass_of_methodNamed B.named
  have hlocks := B.notSynchronized
  have hZ : sZ (dC, dI) vCl 52 ad (fun q => N0 ≤ q) s.heap w s.heap [] := ⟨hP, hD, va_S.rf⟩
  have hl := lv_entry ([.ref (ad 43), .int b]) (n := 2) (Nat.le_of_ble_eq_true rfl)
  rw [lg_entry_eq]
  generalize (lg_sl ([.ref (ad 43), .int b]) ++ List.replicate (2 - (lg_sl ([.ref (ad 43), .int b])).length) Slot.unset).toArray = ls at hl ⊢
  have hl : lv_has ls 2 [(0, .ref (ad 43)), (1, .int b)] := hl
  obtain ⟨mn, P, N, A, rm, rP, rN, rA, bd, hM, hB⟩ := hMM
  have hfr : fr w w 43 50 := fr_rf
  refine lv_aload_n hx hb d_Mod_size_0 rfl (lv_at hl 0 rfl) ?_
  refine lv_iload_n hx hb d_Mod_size_1 rfl (lv_at hl 1 rfl) ?_
  refine q_callSi (va_runS (As := [.int b]) (rest := [.ref (ad 43)]) ⟨hx, hb, hml, hown, hts⟩ (c_Mod_isBag l b) (va_cwS 1 hts (gI_S k_465 k_463 k_464 k_24) rfl rfl rfl (by decide +kernel) ⟨Nat.le_of_ble_eq_true rfl, Nat.le_of_ble_eq_true rfl⟩) ⟨fun _ _ _ _ q => q, fun _ _ _ => ⟨rfl, trivial⟩⟩ rfl rfl hl.1 rfl (lv_room (Nat.le_of_ble_eq_true rfl)) d_Mod_size_2 ⟨Nat.zero_le _, Nat.zero_le _⟩) (fun b9 h_b9 => ?_)
  have h_b9 := bN h_b9 hbad
  refine q_topi (y := nI 0) h_b9 ?_
  refine lv_if_eq (tgt := 12) hx hb d_Mod_size_5 (by decide) (fun h5 => ?_) (fun h5 => ?_)
  · skip
    have h5 : 0 = 0 := (nI_eq (a := 0) (b := 0) (by omega) (by omega)).mp h5
    refine lv_iconst (v := (nI 1)) hx hb d_Mod_size_12 rfl ?_
    refine q_put (C := R_Mod) (T := T_Mod) (N := 10) (ty := .int) (v := .int (nI 1)) hx hb hts (fun w h => gm (inT_Mod w h)) ty_Mod tyo_Mod nm_Mod hown hK hZ (43) (by decide) hM.1 rfl 0 (by decide) (hts _ (gm k_420)) (fun _ h9 => h9) rfl (by decide +kernel) (rfl) (rfl) (Nat.le_of_ble_eq_true rfl) d_Mod_size_13 (fun H locs hZ => ?_)
    have hM := hM.up43 (nI 1) rm bd
    have hfr := fr_up (x := 43) (e := .inr (3, [.int (nI 1), .ref (ad 44), .ref (ad 45), .ref (ad 46), .ref (ad 47), .int rm, .ref (ad 48), .ref (ad 49), .ref (ad 50), .int bd])) hfr (by omega) (by omega)
    have hZ : sZ (dC, dI) vCl 52 ad (fun q => N0 ≤ q) s.heap (va_up w 43 (.inr (3, [.int (nI 1), .ref (ad 44), .ref (ad 45), .ref (ad 46), .ref (ad 47), .int rm, .ref (ad 48), .ref (ad 49), .ref (ad 50), .int bd]))) H locs := hZ
    generalize va_up w 43 (.inr (3, [.int (nI 1), .ref (ad 44), .ref (ad 45), .ref (ad 46), .ref (ad 47), .int rm, .ref (ad 48), .ref (ad 49), .ref (ad 50), .int bd])) = w62 at hZ hM hfr
    refine lv_aload_n hx hb d_Mod_size_16 rfl (lv_at hl 0 rfl) ?_
    refine q_get (C := R_Mod) (T := T_Mod) (N := 10) hx hb hts (fun w h => gm (inT_Mod w h)) hown hK hZ (43) (by decide) hM.1 rfl 0 (by decide) (hts _ (gm k_420)) (fun _ h9 => h9) rfl d_Mod_size_17 ?_
    refine lv_if_le (tgt := 27) hx hb d_Mod_size_20 (by decide) (fun h20 => ?_) (fun h20 => ?_)
    · skip
      have h20 : 1 ≤ 0 := (nI_leI (a := 1) (b := 0) (by omega) (by omega)).mp h20
      exact absurd h20 (by decide)
    · skip
      have h20 : 0 < 1 := Nat.lt_of_not_le (fun z9 => h20 ((nI_leI (a := 1) (b := 0) (by omega) (by omega)).mpr z9))
      refine lv_iconst (v := (nI 0)) hx hb d_Mod_size_23 rfl ?_
      refine lv_goto (tgt := 33) hx hb d_Mod_size_24 (by decide) ?_
      exact q_iret hx hb hr hlocks hK hAm hZ hN (⟨hfr, ⟨_, _, _, _, _, _, _, _, _, hM, hB⟩⟩) d_Mod_size_33
  · skip
    have h5 : ¬ 0 = 0 := fun z9 => h5 ((nI_eq (a := 0) (b := 0) (by omega) (by omega)).mpr z9)
    exact absurd h5 (by decide)
set_option maxHeartbeats 4000000 in
set_option maxRecDepth 100000 in
theorem c_Mod_clear (l : Launch) (dC : Nat → ClassId) (dI : Nat → Nat → Nat) (cI cL cB : ClassId) (ad : Nat → Nat) (N0 : Nat) (w : Nat → va_E) (t0 : Int32) (F : Nat → Int → Int64) (j : Nat) (hMM : sM ad cI cL w t0 F) (hj : j < 8) : Met l y_Mod_clear ws_Mod_clear ({ frames := 1, cells := 0, slots := 0, locals := 20 } : Room) (va_Pc [.ref (ad 43), .int (nI j)] (sPr (dC, dI) vCl [(cI, .int), (cL, .long), (cB, .object "CoinBag$Bag")] 52 ad N0 w)) (va_Qv (fun u => fr w u 43 50 ∧ sM ad cI cL u (nI 0) (va_up F j (fun _ => 0))) (sPr (dC, dI) vCl [(cI, .int), (cL, .long), (cB, .object "CoinBag$Bag")] 52 ad N0) (fun q => N0 ≤ q)) 0 0 (fun q => N0 ≤ q) := by
  refine Met.ofW (cc := b_Mod_clear) (maxL := 2) (ret := none) (by decide) rfl ?_
  intro p e s m args below meth c s₁ B hml hv
  obtain ⟨rfl, hP, hK, hD, hN, hAm⟩ := hv
  have hx := B.exec
  have hb := B.bytes
  have hr := B.returns
  have hts := atoms_spec (ws := ws_Mod_clear) B.pre
  have hown : s.vm.findClass "CoinBagModel" = some m.cls := findClass_of_methodNamed B.named
  have hlocks := B.notSynchronized
  have hZ : sZ (dC, dI) vCl 52 ad (fun q => N0 ≤ q) s.heap w s.heap [] := ⟨hP, hD, va_S.rf⟩
  have hl := lv_entry ([.ref (ad 43), .int (nI j)]) (n := 2) (Nat.le_of_ble_eq_true rfl)
  rw [lg_entry_eq]
  generalize (lg_sl ([.ref (ad 43), .int (nI j)]) ++ List.replicate (2 - (lg_sl ([.ref (ad 43), .int (nI j)])).length) Slot.unset).toArray = ls at hl ⊢
  have hl : lv_has ls 2 [(0, .ref (ad 43)), (1, .int (nI j))] := hl
  obtain ⟨mn, P, N, A, rm, rP, rN, rA, bd, hM, hB⟩ := hMM
  have hfr : fr w w 43 50 := fr_rf
  refine lv_aload_n hx hb d_Mod_clear_0 rfl (lv_at hl 0 rfl) ?_
  refine lv_iload_n hx hb d_Mod_clear_1 rfl (lv_at hl 1 rfl) ?_
  refine q_callSi (va_runS (As := [.int (nI j)]) (rest := [.ref (ad 43)]) ⟨hx, hb, hml, hown, hts⟩ (c_Mod_isBag l (nI j)) (va_cwS 1 hts (gI_S k_465 k_463 k_464 k_24) rfl rfl rfl (by decide +kernel) ⟨Nat.le_of_ble_eq_true rfl, Nat.le_of_ble_eq_true rfl⟩) ⟨fun _ _ _ _ q => q, fun _ _ _ => ⟨rfl, trivial⟩⟩ rfl rfl hl.1 rfl (lv_room (Nat.le_of_ble_eq_true rfl)) d_Mod_clear_2 ⟨Nat.zero_le _, Nat.zero_le _⟩) (fun b9 h_b9 => ?_)
  have h_b9 := bY h_b9 (okB_nI hj)
  refine q_topi (y := nI 1) h_b9 ?_
  refine lv_if_eq (tgt := 12) hx hb d_Mod_clear_5 (by decide) (fun h5 => ?_) (fun h5 => ?_)
  · skip
    have h5 : 1 = 0 := (nI_eq (a := 1) (b := 0) (by omega) (by omega)).mp h5
    exact absurd h5 (by decide)
  · skip
    have h5 : ¬ 1 = 0 := fun z9 => h5 ((nI_eq (a := 1) (b := 0) (by omega) (by omega)).mpr z9)
    refine lv_iconst (v := (nI 0)) hx hb d_Mod_clear_8 rfl ?_
    refine lv_goto (tgt := 13) hx hb d_Mod_clear_9 (by decide) ?_
    refine q_put (C := R_Mod) (T := T_Mod) (N := 10) (ty := .int) (v := .int (nI 0)) hx hb hts (fun w h => gm (inT_Mod w h)) ty_Mod tyo_Mod nm_Mod hown hK hZ (43) (by decide) hM.1 rfl 0 (by decide) (hts _ (gm k_420)) (fun _ h9 => h9) rfl (by decide +kernel) (rfl) (rfl) (Nat.le_of_ble_eq_true rfl) d_Mod_clear_13 (fun H locs hZ => ?_)
    have hM := hM.up43 (nI 0) rm bd
    have hfr := fr_up (x := 43) (e := .inr (3, [.int (nI 0), .ref (ad 44), .ref (ad 45), .ref (ad 46), .ref (ad 47), .int rm, .ref (ad 48), .ref (ad 49), .ref (ad 50), .int bd])) hfr (by omega) (by omega)
    have hZ : sZ (dC, dI) vCl 52 ad (fun q => N0 ≤ q) s.heap (va_up w 43 (.inr (3, [.int (nI 0), .ref (ad 44), .ref (ad 45), .ref (ad 46), .ref (ad 47), .int rm, .ref (ad 48), .ref (ad 49), .ref (ad 50), .int bd]))) H locs := hZ
    generalize va_up w 43 (.inr (3, [.int (nI 0), .ref (ad 44), .ref (ad 45), .ref (ad 46), .ref (ad 47), .int rm, .ref (ad 48), .ref (ad 49), .ref (ad 50), .int bd])) = w63 at hZ hM hfr
    refine lv_aload_n hx hb d_Mod_clear_16 rfl (lv_at hl 0 rfl) ?_
    refine q_get (C := R_Mod) (T := T_Mod) (N := 10) hx hb hts (fun w h => gm (inT_Mod w h)) hown hK hZ (43) (by decide) hM.1 rfl 0 (by decide) (hts _ (gm k_420)) (fun _ h9 => h9) rfl d_Mod_clear_17 ?_
    refine lv_if_ne (tgt := 30) hx hb d_Mod_clear_20 (by decide) (fun h20 => ?_) (fun h20 => ?_)
    · skip
      have h20 : ¬ 0 = 0 := fun z9 => h20 ((nI_eq (a := 0) (b := 0) (by omega) (by omega)).mpr z9)
      exact absurd h20 (by decide)
    · skip
      have h20 : 0 = 0 := (nI_eq (a := 0) (b := 0) (by omega) (by omega)).mp h20
      refine lv_aload_n hx hb d_Mod_clear_23 rfl (lv_at hl 0 rfl) ?_
      refine q_get (C := R_Mod) (T := T_Mod) (N := 10) hx hb hts (fun w h => gm (inT_Mod w h)) hown hK hZ (43) (by decide) hM.1 rfl 1 (by decide) (hts _ (gm k_421)) (fun _ h9 => h9) rfl d_Mod_clear_24 ?_
      refine lv_iload_n hx hb d_Mod_clear_27 rfl (lv_at hl 1 rfl) ?_
      refine lv_iconst (v := (nI 0)) hx hb d_Mod_clear_28 rfl ?_
      refine q_iast hx hb hK hZ (44) 0 (j) (by decide) hM.2.1 rfl rfl (by omega) (by decide) d_Mod_clear_29 (fun H locs hZ => ?_)
      have hM := hM.up44 (upd mn j (nI 0))
      have hfr := fr_up (x := 44) (e := .inl (cI, 8, .inl (upd mn j (nI 0)))) hfr (by omega) (by omega)
      have hZ : sZ (dC, dI) vCl 52 ad (fun q => N0 ≤ q) s.heap (va_up w63 44 (.inl (cI, 8, .inl (upd mn j (nI 0))))) H locs := hZ
      generalize va_up w63 44 (.inl (cI, 8, .inl (upd mn j (nI 0)))) = w64 at hZ hM hfr
      exact q_vret hx hb hr hlocks hK hAm hZ hN (⟨hfr, ⟨_, _, _, _, _, _, _, _, _, hM, mS_clr hB⟩⟩) d_Mod_clear_30
set_option maxHeartbeats 4000000 in
set_option maxRecDepth 100000 in
theorem x_Mod_clear (l : Launch) (dC : Nat → ClassId) (dI : Nat → Nat → Nat) (cI cL cB : ClassId) (ad : Nat → Nat) (N0 : Nat) (w : Nat → va_E) (t0 : Int32) (F : Nat → Int → Int64) (b : Int32) (hMM : sM ad cI cL w t0 F) (hbad : ¬ okB b) : Met l y_Mod_clear ws_Mod_clear ({ frames := 1, cells := 0, slots := 0, locals := 20 } : Room) (va_Pc [.ref (ad 43), .int b] (sPr (dC, dI) vCl [(cI, .int), (cL, .long), (cB, .object "CoinBag$Bag")] 52 ad N0 w)) (va_Qv (fun u => fr w u 43 50 ∧ sM ad cI cL u (nI 1) F) (sPr (dC, dI) vCl [(cI, .int), (cL, .long), (cB, .object "CoinBag$Bag")] 52 ad N0) (fun q => N0 ≤ q)) 0 0 (fun q => N0 ≤ q) := by
  refine Met.ofW (cc := b_Mod_clear) (maxL := 2) (ret := none) (by decide) rfl ?_
  intro p e s m args below meth c s₁ B hml hv
  obtain ⟨rfl, hP, hK, hD, hN, hAm⟩ := hv
  have hx := B.exec
  have hb := B.bytes
  have hr := B.returns
  have hts := atoms_spec (ws := ws_Mod_clear) B.pre
  have hown : s.vm.findClass "CoinBagModel" = some m.cls := findClass_of_methodNamed B.named
  have hlocks := B.notSynchronized
  have hZ : sZ (dC, dI) vCl 52 ad (fun q => N0 ≤ q) s.heap w s.heap [] := ⟨hP, hD, va_S.rf⟩
  have hl := lv_entry ([.ref (ad 43), .int b]) (n := 2) (Nat.le_of_ble_eq_true rfl)
  rw [lg_entry_eq]
  generalize (lg_sl ([.ref (ad 43), .int b]) ++ List.replicate (2 - (lg_sl ([.ref (ad 43), .int b])).length) Slot.unset).toArray = ls at hl ⊢
  have hl : lv_has ls 2 [(0, .ref (ad 43)), (1, .int b)] := hl
  obtain ⟨mn, P, N, A, rm, rP, rN, rA, bd, hM, hB⟩ := hMM
  have hfr : fr w w 43 50 := fr_rf
  refine lv_aload_n hx hb d_Mod_clear_0 rfl (lv_at hl 0 rfl) ?_
  refine lv_iload_n hx hb d_Mod_clear_1 rfl (lv_at hl 1 rfl) ?_
  refine q_callSi (va_runS (As := [.int b]) (rest := [.ref (ad 43)]) ⟨hx, hb, hml, hown, hts⟩ (c_Mod_isBag l b) (va_cwS 1 hts (gI_S k_465 k_463 k_464 k_24) rfl rfl rfl (by decide +kernel) ⟨Nat.le_of_ble_eq_true rfl, Nat.le_of_ble_eq_true rfl⟩) ⟨fun _ _ _ _ q => q, fun _ _ _ => ⟨rfl, trivial⟩⟩ rfl rfl hl.1 rfl (lv_room (Nat.le_of_ble_eq_true rfl)) d_Mod_clear_2 ⟨Nat.zero_le _, Nat.zero_le _⟩) (fun b9 h_b9 => ?_)
  have h_b9 := bN h_b9 hbad
  refine q_topi (y := nI 0) h_b9 ?_
  refine lv_if_eq (tgt := 12) hx hb d_Mod_clear_5 (by decide) (fun h5 => ?_) (fun h5 => ?_)
  · skip
    have h5 : 0 = 0 := (nI_eq (a := 0) (b := 0) (by omega) (by omega)).mp h5
    refine lv_iconst (v := (nI 1)) hx hb d_Mod_clear_12 rfl ?_
    refine q_put (C := R_Mod) (T := T_Mod) (N := 10) (ty := .int) (v := .int (nI 1)) hx hb hts (fun w h => gm (inT_Mod w h)) ty_Mod tyo_Mod nm_Mod hown hK hZ (43) (by decide) hM.1 rfl 0 (by decide) (hts _ (gm k_420)) (fun _ h9 => h9) rfl (by decide +kernel) (rfl) (rfl) (Nat.le_of_ble_eq_true rfl) d_Mod_clear_13 (fun H locs hZ => ?_)
    have hM := hM.up43 (nI 1) rm bd
    have hfr := fr_up (x := 43) (e := .inr (3, [.int (nI 1), .ref (ad 44), .ref (ad 45), .ref (ad 46), .ref (ad 47), .int rm, .ref (ad 48), .ref (ad 49), .ref (ad 50), .int bd])) hfr (by omega) (by omega)
    have hZ : sZ (dC, dI) vCl 52 ad (fun q => N0 ≤ q) s.heap (va_up w 43 (.inr (3, [.int (nI 1), .ref (ad 44), .ref (ad 45), .ref (ad 46), .ref (ad 47), .int rm, .ref (ad 48), .ref (ad 49), .ref (ad 50), .int bd]))) H locs := hZ
    generalize va_up w 43 (.inr (3, [.int (nI 1), .ref (ad 44), .ref (ad 45), .ref (ad 46), .ref (ad 47), .int rm, .ref (ad 48), .ref (ad 49), .ref (ad 50), .int bd])) = w65 at hZ hM hfr
    refine lv_aload_n hx hb d_Mod_clear_16 rfl (lv_at hl 0 rfl) ?_
    refine q_get (C := R_Mod) (T := T_Mod) (N := 10) hx hb hts (fun w h => gm (inT_Mod w h)) hown hK hZ (43) (by decide) hM.1 rfl 0 (by decide) (hts _ (gm k_420)) (fun _ h9 => h9) rfl d_Mod_clear_17 ?_
    refine lv_if_ne (tgt := 30) hx hb d_Mod_clear_20 (by decide) (fun h20 => ?_) (fun h20 => ?_)
    · skip
      have h20 : ¬ 1 = 0 := fun z9 => h20 ((nI_eq (a := 1) (b := 0) (by omega) (by omega)).mpr z9)
      exact q_vret hx hb hr hlocks hK hAm hZ hN (⟨hfr, ⟨_, _, _, _, _, _, _, _, _, hM, hB⟩⟩) d_Mod_clear_30
    · skip
      have h20 : 1 = 0 := (nI_eq (a := 1) (b := 0) (by omega) (by omega)).mp h20
      exact absurd h20 (by decide)
  · skip
    have h5 : ¬ 0 = 0 := fun z9 => h5 ((nI_eq (a := 0) (b := 0) (by omega) (by omega)).mpr z9)
    exact absurd h5 (by decide)
set_option maxHeartbeats 4000000 in
set_option maxRecDepth 100000 in
theorem c_Mod_at (l : Launch) (dC : Nat → ClassId) (dI : Nat → Nat → Nat) (cI cL cB : ClassId) (ad : Nat → Nat) (N0 : Nat) (w : Nat → va_E) (t0 : Int32) (F : Nat → Int → Int64) (j i wh z2 : Nat) (P2 : Nat → Int32) (N2 A2 : Nat → Int64) (hMM : sM ad cI cL w t0 F) (hj : j < 8) (hRc : cRep z2 P2 N2 A2 (F j)) (hi : i < z2) (hwh : wh ≤ 2) : Met l y_Mod_at ws_Mod_at ({ frames := 2, cells := 0, slots := 0, locals := 51 } : Room) (va_Pc [.ref (ad 43), .int (nI j), .int (nI i), .int (nI wh)] (sPr (dC, dI) vCl [(cI, .int), (cL, .long), (cB, .object "CoinBag$Bag")] 52 ad N0 w)) (va_Ql (fun r u => fr w u 43 50 ∧ sM ad cI cL u (nI 0) F ∧ atR P2 N2 A2 i wh r) (sPr (dC, dI) vCl [(cI, .int), (cL, .long), (cB, .object "CoinBag$Bag")] 52 ad N0) (fun q => N0 ≤ q)) 0 0 (fun q => N0 ≤ q) := by
  refine Met.ofW (cc := b_Mod_at) (maxL := 5) (ret := (some .long)) (by decide) rfl ?_
  intro p e s m args below meth c s₁ B hml hv
  obtain ⟨rfl, hP, hK, hD, hN, hAm⟩ := hv
  have hx := B.exec
  have hb := B.bytes
  have hr := B.returns
  have hts := atoms_spec (ws := ws_Mod_at) B.pre
  have hown : s.vm.findClass "CoinBagModel" = some m.cls := findClass_of_methodNamed B.named
  have hlocks := B.notSynchronized
  have hZ : sZ (dC, dI) vCl 52 ad (fun q => N0 ≤ q) s.heap w s.heap [] := ⟨hP, hD, va_S.rf⟩
  have hl := lv_entry ([.ref (ad 43), .int (nI j), .int (nI i), .int (nI wh)]) (n := 5) (Nat.le_of_ble_eq_true rfl)
  rw [lg_entry_eq]
  generalize (lg_sl ([.ref (ad 43), .int (nI j), .int (nI i), .int (nI wh)]) ++ List.replicate (5 - (lg_sl ([.ref (ad 43), .int (nI j), .int (nI i), .int (nI wh)])).length) Slot.unset).toArray = ls at hl ⊢
  have hl : lv_has ls 5 [(0, .ref (ad 43)), (1, .int (nI j)), (2, .int (nI i)), (3, .int (nI wh))] := hl
  obtain ⟨mn, P, N, A, rm, rP, rN, rA, bd, hM, hB⟩ := hMM
  have hfr : fr w w 43 50 := fr_rf
  obtain ⟨z, hz, hmn, hR⟩ := mB_at hB hj
  have ez : z2 = z := card_eq (eS_I hRc.2.1) hRc.2.2.1 hR.1 hR.2.1
  have hw3 : wh = 0 ∨ wh = 1 ∨ wh = 2 := by omega
  rcases hw3 with rfl | rfl | rfl
  · skip
    refine lv_aload_n hx hb d_Mod_at_0 rfl (lv_at hl 0 rfl) ?_
    refine lv_iload_n hx hb d_Mod_at_1 rfl (lv_at hl 1 rfl) ?_
    refine q_callSi (va_runS (As := [.int (nI j)]) (rest := [.ref (ad 43)]) ⟨hx, hb, hml, hown, hts⟩ (c_Mod_isBag l (nI j)) (va_cwS 1 hts (gI_S k_465 k_463 k_464 k_24) rfl rfl rfl (by decide +kernel) ⟨Nat.le_of_ble_eq_true rfl, Nat.le_of_ble_eq_true rfl⟩) ⟨fun _ _ _ _ q => q, fun _ _ _ => ⟨rfl, trivial⟩⟩ rfl rfl hl.1 rfl (lv_room (Nat.le_of_ble_eq_true rfl)) d_Mod_at_2 ⟨Nat.zero_le _, Nat.zero_le _⟩) (fun b9 h_b9 => ?_)
    have h_b9 := bY h_b9 (okB_nI hj)
    refine q_topi (y := nI 1) h_b9 ?_
    refine lv_if_ne (tgt := 12) hx hb d_Mod_at_5 (by decide) (fun h5 => ?_) (fun h5 => ?_)
    · skip
      have h5 : ¬ 1 = 0 := fun z9 => h5 ((nI_eq (a := 1) (b := 0) (by omega) (by omega)).mpr z9)
      refine lv_iload_n hx hb d_Mod_at_12 rfl (lv_at hl 2 rfl) ?_
      refine lv_if_lt (tgt := 35) hx hb d_Mod_at_13 (by decide) (fun h13 => ?_) (fun h13 => ?_)
      · skip
        have h13 : i < 0 := (nI_ltI (a := i) (b := 0) (by omega) (by omega)).mp h13
        exact absurd h13 (by omega)
      · skip
        have h13 : 0 ≤ i := Nat.le_of_not_lt (fun z9 => h13 ((nI_ltI (a := i) (b := 0) (by omega) (by omega)).mpr z9))
        refine lv_iload_n hx hb d_Mod_at_16 rfl (lv_at hl 2 rfl) ?_
        refine lv_aload_n hx hb d_Mod_at_17 rfl (lv_at hl 0 rfl) ?_
        refine q_get (C := R_Mod) (T := T_Mod) (N := 10) hx hb hts (fun w h => gm (inT_Mod w h)) hown hK hZ (43) (by decide) hM.1 rfl 1 (by decide) (hts _ (gm k_421)) (fun _ h9 => h9) rfl d_Mod_at_18 ?_
        refine lv_iload_n hx hb d_Mod_at_21 rfl (lv_at hl 1 rfl) ?_
        refine q_iald hx hb hK hZ (44) 0 (j) (by decide) hM.2.1 rfl rfl (by omega) (by decide) d_Mod_at_22 ?_
        refine q_topi (y := nI z) (hmn) ?_
        refine lv_icmp_ge (tgt := 35) hx hb d_Mod_at_23 (by decide) (fun h23 => ?_) (fun h23 => ?_)
        · skip
          have h23 : z ≤ i := (nI_leI (a := z) (b := i) (by omega) (by omega)).mp h23
          exact absurd h23 (by omega)
        · skip
          have h23 : i < z := Nat.lt_of_not_le (fun z9 => h23 ((nI_leI (a := z) (b := i) (by omega) (by omega)).mpr z9))
          refine lv_iload_n hx hb d_Mod_at_26 rfl (lv_at hl 3 rfl) ?_
          refine lv_if_lt (tgt := 35) hx hb d_Mod_at_27 (by decide) (fun h27 => ?_) (fun h27 => ?_)
          · skip
            have h27 : 0 < 0 := (nI_ltI (a := 0) (b := 0) (by omega) (by omega)).mp h27
            exact absurd h27 (by decide)
          · skip
            have h27 : 0 ≤ 0 := Nat.le_of_not_lt (fun z9 => h27 ((nI_ltI (a := 0) (b := 0) (by omega) (by omega)).mpr z9))
            refine lv_iload_n hx hb d_Mod_at_30 rfl (lv_at hl 3 rfl) ?_
            refine lv_iconst (v := (nI 2)) hx hb d_Mod_at_31 rfl ?_
            refine lv_icmp_le (tgt := 39) hx hb d_Mod_at_32 (by decide) (fun h32 => ?_) (fun h32 => ?_)
            · skip
              have h32 : 0 ≤ 2 := (nI_leI (a := 0) (b := 2) (by omega) (by omega)).mp h32
              refine lv_iconst (v := (nI 0)) hx hb d_Mod_at_39 rfl ?_
              refine q_put (C := R_Mod) (T := T_Mod) (N := 10) (ty := .int) (v := .int (nI 0)) hx hb hts (fun w h => gm (inT_Mod w h)) ty_Mod tyo_Mod nm_Mod hown hK hZ (43) (by decide) hM.1 rfl 0 (by decide) (hts _ (gm k_420)) (fun _ h9 => h9) rfl (by decide +kernel) (rfl) (rfl) (Nat.le_of_ble_eq_true rfl) d_Mod_at_40 (fun H locs hZ => ?_)
              have hM := hM.up43 (nI 0) rm bd
              have hfr := fr_up (x := 43) (e := .inr (3, [.int (nI 0), .ref (ad 44), .ref (ad 45), .ref (ad 46), .ref (ad 47), .int rm, .ref (ad 48), .ref (ad 49), .ref (ad 50), .int bd])) hfr (by omega) (by omega)
              have hZ : sZ (dC, dI) vCl 52 ad (fun q => N0 ≤ q) s.heap (va_up w 43 (.inr (3, [.int (nI 0), .ref (ad 44), .ref (ad 45), .ref (ad 46), .ref (ad 47), .int rm, .ref (ad 48), .ref (ad 49), .ref (ad 50), .int bd]))) H locs := hZ
              generalize va_up w 43 (.inr (3, [.int (nI 0), .ref (ad 44), .ref (ad 45), .ref (ad 46), .ref (ad 47), .int rm, .ref (ad 48), .ref (ad 49), .ref (ad 50), .int bd])) = w66 at hZ hM hfr
              refine lv_aload_n hx hb d_Mod_at_43 rfl (lv_at hl 0 rfl) ?_
              refine q_get (C := R_Mod) (T := T_Mod) (N := 10) hx hb hts (fun w h => gm (inT_Mod w h)) hown hK hZ (43) (by decide) hM.1 rfl 0 (by decide) (hts _ (gm k_420)) (fun _ h9 => h9) rfl d_Mod_at_44 ?_
              refine lv_if_le (tgt := 52) hx hb d_Mod_at_47 (by decide) (fun h47 => ?_) (fun h47 => ?_)
              · skip
                have h47 : 0 ≤ 0 := (nI_leI (a := 0) (b := 0) (by omega) (by omega)).mp h47
                refine lv_bipush (v := (nI 64)) hx hb d_Mod_at_52 rfl ?_
                refine lv_iload_n hx hb d_Mod_at_54 rfl (lv_at hl 1 rfl) ?_
                refine lv_imul hx hb d_Mod_at_55 ?_
                refine q_topi (y := nI (64 * j)) (pk_mul _ _) ?_
                refine lv_aload_n hx hb d_Mod_at_56 rfl (lv_at hl 0 rfl) ?_
                refine lv_iload_n hx hb d_Mod_at_57 rfl (lv_at hl 1 rfl) ?_
                refine lv_iload_n hx hb d_Mod_at_58 rfl (lv_at hl 2 rfl) ?_
                refine q_calli (va_runV (As := [.int (nI j), .int (nI i)]) (rest := [.int (nI (64 * j))]) ⟨hx, hb, hml, hown, hts⟩ (c_Mod_inOrder l dC dI cI cL cB ad N0 w66 (nI 0) mn P N A rm rP rN rA bd j z i z2 P2 N2 A2 (F j) hM hj hz hmn hR hRc hi) (cwV 2 hts (gI_V k_560 k_557 k_559 k_18 k_24) rfl rfl rfl (by decide +kernel) ⟨Nat.le_of_ble_eq_true rfl, Nat.le_of_ble_eq_true rfl⟩) (q_preV hK hAm hZ hN [.int (nI j), .int (nI i)] (43) 3 (by decide) hM.1 rfl) rfl rfl hl.1 rfl (lv_room (Nat.le_of_ble_eq_true rfl)) d_Mod_at_59 ⟨Nat.zero_le _, Nat.zero_le _⟩) hZ (fun o9 u_o9 H locs h_o9 hZ => ?_)
                obtain ⟨e_o9, h_o9⟩ := h_o9
                rw [e_o9] at hZ
                obtain ⟨kf, hk_kf, e_kf, p_kf, n_kf, a_kf⟩ := h_o9
                refine q_topi (y := nI kf) e_kf ?_
                refine lv_iadd hx hb d_Mod_at_62 ?_
                refine q_topi (y := nI ((64 * j) + kf)) (nI_add _ _) ?_
                refine lv_istore (lv' := [(4, .int (nI ((64 * j) + kf))), (0, .ref (ad 43)), (1, .int (nI j)), (2, .int (nI i)), (3, .int (nI 0))]) hx hb d_Mod_at_63 hl (by decide) rfl (fun ls hl => ?_)
                refine lv_iload_n hx hb d_Mod_at_65 rfl (lv_at hl 4 rfl) ?_
                refine lv_if_ne (tgt := 80) hx hb d_Mod_at_66 (by decide) (fun h66 => ?_) (fun h66 => ?_)
                · skip
                  have h66 : ¬ 0 = 0 := fun z9 => h66 ((nI_eq (a := 0) (b := 0) (by omega) (by omega)).mpr z9)
                  exact absurd h66 (by decide)
                · skip
                  have h66 : 0 = 0 := (nI_eq (a := 0) (b := 0) (by omega) (by omega)).mp h66
                  refine lv_aload_n hx hb d_Mod_at_69 rfl (lv_at hl 1 rfl) ?_
                  refine q_get (C := R_Mod) (T := T_Mod) (N := 10) hx hb hts (fun w h => gm (inT_Mod w h)) hown hK hZ (43) (by decide) hM.1 rfl 2 (by decide) (hts _ (gm k_422)) (fun _ h9 => h9) rfl d_Mod_at_70 ?_
                  refine lv_iload hx hb d_Mod_at_73 (lv_at hl 0 rfl) ?_
                  refine q_iald hx hb hK hZ (45) 0 (((64 * j) + kf)) (by decide) hM.2.2.1 rfl rfl (by omega) (by decide) d_Mod_at_75 ?_
                  refine lv_i2l (v := (P ((64 * j) + kf)).toInt64) hx hb d_Mod_at_76 rfl ?_
                  refine lv_goto (tgt := 102) hx hb d_Mod_at_77 (by decide) ?_
                  exact q_lret hx hb hr hlocks hK hAm hZ hN (⟨hfr, ⟨_, _, _, _, _, _, _, _, _, hM, hB⟩, Or.inl ⟨rfl, by rw [p_kf]⟩⟩) d_Mod_at_102
              · skip
                have h47 : 0 < 0 := Nat.lt_of_not_le (fun z9 => h47 ((nI_leI (a := 0) (b := 0) (by omega) (by omega)).mpr z9))
                exact absurd h47 (by decide)
            · skip
              have h32 : 2 < 0 := Nat.lt_of_not_le (fun z9 => h32 ((nI_leI (a := 0) (b := 2) (by omega) (by omega)).mpr z9))
              exact absurd h32 (by decide)
    · skip
      have h5 : 1 = 0 := (nI_eq (a := 1) (b := 0) (by omega) (by omega)).mp h5
      exact absurd h5 (by decide)
  · skip
    refine lv_aload_n hx hb d_Mod_at_0 rfl (lv_at hl 0 rfl) ?_
    refine lv_iload_n hx hb d_Mod_at_1 rfl (lv_at hl 1 rfl) ?_
    refine q_callSi (va_runS (As := [.int (nI j)]) (rest := [.ref (ad 43)]) ⟨hx, hb, hml, hown, hts⟩ (c_Mod_isBag l (nI j)) (va_cwS 1 hts (gI_S k_465 k_463 k_464 k_24) rfl rfl rfl (by decide +kernel) ⟨Nat.le_of_ble_eq_true rfl, Nat.le_of_ble_eq_true rfl⟩) ⟨fun _ _ _ _ q => q, fun _ _ _ => ⟨rfl, trivial⟩⟩ rfl rfl hl.1 rfl (lv_room (Nat.le_of_ble_eq_true rfl)) d_Mod_at_2 ⟨Nat.zero_le _, Nat.zero_le _⟩) (fun b9 h_b9 => ?_)
    have h_b9 := bY h_b9 (okB_nI hj)
    refine q_topi (y := nI 1) h_b9 ?_
    refine lv_if_ne (tgt := 12) hx hb d_Mod_at_5 (by decide) (fun h5 => ?_) (fun h5 => ?_)
    · skip
      have h5 : ¬ 1 = 0 := fun z9 => h5 ((nI_eq (a := 1) (b := 0) (by omega) (by omega)).mpr z9)
      refine lv_iload_n hx hb d_Mod_at_12 rfl (lv_at hl 2 rfl) ?_
      refine lv_if_lt (tgt := 35) hx hb d_Mod_at_13 (by decide) (fun h13 => ?_) (fun h13 => ?_)
      · skip
        have h13 : i < 0 := (nI_ltI (a := i) (b := 0) (by omega) (by omega)).mp h13
        exact absurd h13 (by omega)
      · skip
        have h13 : 0 ≤ i := Nat.le_of_not_lt (fun z9 => h13 ((nI_ltI (a := i) (b := 0) (by omega) (by omega)).mpr z9))
        refine lv_iload_n hx hb d_Mod_at_16 rfl (lv_at hl 2 rfl) ?_
        refine lv_aload_n hx hb d_Mod_at_17 rfl (lv_at hl 0 rfl) ?_
        refine q_get (C := R_Mod) (T := T_Mod) (N := 10) hx hb hts (fun w h => gm (inT_Mod w h)) hown hK hZ (43) (by decide) hM.1 rfl 1 (by decide) (hts _ (gm k_421)) (fun _ h9 => h9) rfl d_Mod_at_18 ?_
        refine lv_iload_n hx hb d_Mod_at_21 rfl (lv_at hl 1 rfl) ?_
        refine q_iald hx hb hK hZ (44) 0 (j) (by decide) hM.2.1 rfl rfl (by omega) (by decide) d_Mod_at_22 ?_
        refine q_topi (y := nI z) (hmn) ?_
        refine lv_icmp_ge (tgt := 35) hx hb d_Mod_at_23 (by decide) (fun h23 => ?_) (fun h23 => ?_)
        · skip
          have h23 : z ≤ i := (nI_leI (a := z) (b := i) (by omega) (by omega)).mp h23
          exact absurd h23 (by omega)
        · skip
          have h23 : i < z := Nat.lt_of_not_le (fun z9 => h23 ((nI_leI (a := z) (b := i) (by omega) (by omega)).mpr z9))
          refine lv_iload_n hx hb d_Mod_at_26 rfl (lv_at hl 3 rfl) ?_
          refine lv_if_lt (tgt := 35) hx hb d_Mod_at_27 (by decide) (fun h27 => ?_) (fun h27 => ?_)
          · skip
            have h27 : 1 < 0 := (nI_ltI (a := 1) (b := 0) (by omega) (by omega)).mp h27
            exact absurd h27 (by decide)
          · skip
            have h27 : 0 ≤ 1 := Nat.le_of_not_lt (fun z9 => h27 ((nI_ltI (a := 1) (b := 0) (by omega) (by omega)).mpr z9))
            refine lv_iload_n hx hb d_Mod_at_30 rfl (lv_at hl 3 rfl) ?_
            refine lv_iconst (v := (nI 2)) hx hb d_Mod_at_31 rfl ?_
            refine lv_icmp_le (tgt := 39) hx hb d_Mod_at_32 (by decide) (fun h32 => ?_) (fun h32 => ?_)
            · skip
              have h32 : 1 ≤ 2 := (nI_leI (a := 1) (b := 2) (by omega) (by omega)).mp h32
              refine lv_iconst (v := (nI 0)) hx hb d_Mod_at_39 rfl ?_
              refine q_put (C := R_Mod) (T := T_Mod) (N := 10) (ty := .int) (v := .int (nI 0)) hx hb hts (fun w h => gm (inT_Mod w h)) ty_Mod tyo_Mod nm_Mod hown hK hZ (43) (by decide) hM.1 rfl 0 (by decide) (hts _ (gm k_420)) (fun _ h9 => h9) rfl (by decide +kernel) (rfl) (rfl) (Nat.le_of_ble_eq_true rfl) d_Mod_at_40 (fun H locs hZ => ?_)
              have hM := hM.up43 (nI 0) rm bd
              have hfr := fr_up (x := 43) (e := .inr (3, [.int (nI 0), .ref (ad 44), .ref (ad 45), .ref (ad 46), .ref (ad 47), .int rm, .ref (ad 48), .ref (ad 49), .ref (ad 50), .int bd])) hfr (by omega) (by omega)
              have hZ : sZ (dC, dI) vCl 52 ad (fun q => N0 ≤ q) s.heap (va_up w 43 (.inr (3, [.int (nI 0), .ref (ad 44), .ref (ad 45), .ref (ad 46), .ref (ad 47), .int rm, .ref (ad 48), .ref (ad 49), .ref (ad 50), .int bd]))) H locs := hZ
              generalize va_up w 43 (.inr (3, [.int (nI 0), .ref (ad 44), .ref (ad 45), .ref (ad 46), .ref (ad 47), .int rm, .ref (ad 48), .ref (ad 49), .ref (ad 50), .int bd])) = w67 at hZ hM hfr
              refine lv_aload_n hx hb d_Mod_at_43 rfl (lv_at hl 0 rfl) ?_
              refine q_get (C := R_Mod) (T := T_Mod) (N := 10) hx hb hts (fun w h => gm (inT_Mod w h)) hown hK hZ (43) (by decide) hM.1 rfl 0 (by decide) (hts _ (gm k_420)) (fun _ h9 => h9) rfl d_Mod_at_44 ?_
              refine lv_if_le (tgt := 52) hx hb d_Mod_at_47 (by decide) (fun h47 => ?_) (fun h47 => ?_)
              · skip
                have h47 : 0 ≤ 0 := (nI_leI (a := 0) (b := 0) (by omega) (by omega)).mp h47
                refine lv_bipush (v := (nI 64)) hx hb d_Mod_at_52 rfl ?_
                refine lv_iload_n hx hb d_Mod_at_54 rfl (lv_at hl 1 rfl) ?_
                refine lv_imul hx hb d_Mod_at_55 ?_
                refine q_topi (y := nI (64 * j)) (pk_mul _ _) ?_
                refine lv_aload_n hx hb d_Mod_at_56 rfl (lv_at hl 0 rfl) ?_
                refine lv_iload_n hx hb d_Mod_at_57 rfl (lv_at hl 1 rfl) ?_
                refine lv_iload_n hx hb d_Mod_at_58 rfl (lv_at hl 2 rfl) ?_
                refine q_calli (va_runV (As := [.int (nI j), .int (nI i)]) (rest := [.int (nI (64 * j))]) ⟨hx, hb, hml, hown, hts⟩ (c_Mod_inOrder l dC dI cI cL cB ad N0 w67 (nI 0) mn P N A rm rP rN rA bd j z i z2 P2 N2 A2 (F j) hM hj hz hmn hR hRc hi) (cwV 2 hts (gI_V k_560 k_557 k_559 k_18 k_24) rfl rfl rfl (by decide +kernel) ⟨Nat.le_of_ble_eq_true rfl, Nat.le_of_ble_eq_true rfl⟩) (q_preV hK hAm hZ hN [.int (nI j), .int (nI i)] (43) 3 (by decide) hM.1 rfl) rfl rfl hl.1 rfl (lv_room (Nat.le_of_ble_eq_true rfl)) d_Mod_at_59 ⟨Nat.zero_le _, Nat.zero_le _⟩) hZ (fun o9 u_o9 H locs h_o9 hZ => ?_)
                obtain ⟨e_o9, h_o9⟩ := h_o9
                rw [e_o9] at hZ
                obtain ⟨kf, hk_kf, e_kf, p_kf, n_kf, a_kf⟩ := h_o9
                refine q_topi (y := nI kf) e_kf ?_
                refine lv_iadd hx hb d_Mod_at_62 ?_
                refine q_topi (y := nI ((64 * j) + kf)) (nI_add _ _) ?_
                refine lv_istore (lv' := [(4, .int (nI ((64 * j) + kf))), (0, .ref (ad 43)), (1, .int (nI j)), (2, .int (nI i)), (3, .int (nI 1))]) hx hb d_Mod_at_63 hl (by decide) rfl (fun ls hl => ?_)
                refine lv_iload_n hx hb d_Mod_at_65 rfl (lv_at hl 4 rfl) ?_
                refine lv_if_ne (tgt := 80) hx hb d_Mod_at_66 (by decide) (fun h66 => ?_) (fun h66 => ?_)
                · skip
                  have h66 : ¬ 1 = 0 := fun z9 => h66 ((nI_eq (a := 1) (b := 0) (by omega) (by omega)).mpr z9)
                  refine lv_iload_n hx hb d_Mod_at_80 rfl (lv_at hl 4 rfl) ?_
                  refine lv_iconst (v := (nI 1)) hx hb d_Mod_at_81 rfl ?_
                  refine lv_icmp_ne (tgt := 95) hx hb d_Mod_at_82 (by decide) (fun h82 => ?_) (fun h82 => ?_)
                  · skip
                    have h82 : ¬ 1 = 1 := fun z9 => h82 ((nI_eq (a := 1) (b := 1) (by omega) (by omega)).mpr z9)
                    exact absurd h82 (by decide)
                  · skip
                    have h82 : 1 = 1 := (nI_eq (a := 1) (b := 1) (by omega) (by omega)).mp h82
                    refine lv_aload_n hx hb d_Mod_at_85 rfl (lv_at hl 1 rfl) ?_
                    refine q_get (C := R_Mod) (T := T_Mod) (N := 10) hx hb hts (fun w h => gm (inT_Mod w h)) hown hK hZ (43) (by decide) hM.1 rfl 3 (by decide) (hts _ (gm k_423)) (fun _ h9 => h9) rfl d_Mod_at_86 ?_
                    refine lv_iload hx hb d_Mod_at_89 (lv_at hl 0 rfl) ?_
                    refine q_lald hx hb hK hZ (46) 1 (((64 * j) + kf)) (by decide) hM.2.2.2.1 rfl rfl (by omega) (by decide) d_Mod_at_91 ?_
                    refine lv_goto (tgt := 102) hx hb d_Mod_at_92 (by decide) ?_
                    exact q_lret hx hb hr hlocks hK hAm hZ hN (⟨hfr, ⟨_, _, _, _, _, _, _, _, _, hM, hB⟩, Or.inr (Or.inl ⟨rfl, n_kf⟩)⟩) d_Mod_at_102
                · skip
                  have h66 : 1 = 0 := (nI_eq (a := 1) (b := 0) (by omega) (by omega)).mp h66
                  exact absurd h66 (by decide)
              · skip
                have h47 : 0 < 0 := Nat.lt_of_not_le (fun z9 => h47 ((nI_leI (a := 0) (b := 0) (by omega) (by omega)).mpr z9))
                exact absurd h47 (by decide)
            · skip
              have h32 : 2 < 1 := Nat.lt_of_not_le (fun z9 => h32 ((nI_leI (a := 1) (b := 2) (by omega) (by omega)).mpr z9))
              exact absurd h32 (by decide)
    · skip
      have h5 : 1 = 0 := (nI_eq (a := 1) (b := 0) (by omega) (by omega)).mp h5
      exact absurd h5 (by decide)
  · skip
    refine lv_aload_n hx hb d_Mod_at_0 rfl (lv_at hl 0 rfl) ?_
    refine lv_iload_n hx hb d_Mod_at_1 rfl (lv_at hl 1 rfl) ?_
    refine q_callSi (va_runS (As := [.int (nI j)]) (rest := [.ref (ad 43)]) ⟨hx, hb, hml, hown, hts⟩ (c_Mod_isBag l (nI j)) (va_cwS 1 hts (gI_S k_465 k_463 k_464 k_24) rfl rfl rfl (by decide +kernel) ⟨Nat.le_of_ble_eq_true rfl, Nat.le_of_ble_eq_true rfl⟩) ⟨fun _ _ _ _ q => q, fun _ _ _ => ⟨rfl, trivial⟩⟩ rfl rfl hl.1 rfl (lv_room (Nat.le_of_ble_eq_true rfl)) d_Mod_at_2 ⟨Nat.zero_le _, Nat.zero_le _⟩) (fun b9 h_b9 => ?_)
    have h_b9 := bY h_b9 (okB_nI hj)
    refine q_topi (y := nI 1) h_b9 ?_
    refine lv_if_ne (tgt := 12) hx hb d_Mod_at_5 (by decide) (fun h5 => ?_) (fun h5 => ?_)
    · skip
      have h5 : ¬ 1 = 0 := fun z9 => h5 ((nI_eq (a := 1) (b := 0) (by omega) (by omega)).mpr z9)
      refine lv_iload_n hx hb d_Mod_at_12 rfl (lv_at hl 2 rfl) ?_
      refine lv_if_lt (tgt := 35) hx hb d_Mod_at_13 (by decide) (fun h13 => ?_) (fun h13 => ?_)
      · skip
        have h13 : i < 0 := (nI_ltI (a := i) (b := 0) (by omega) (by omega)).mp h13
        exact absurd h13 (by omega)
      · skip
        have h13 : 0 ≤ i := Nat.le_of_not_lt (fun z9 => h13 ((nI_ltI (a := i) (b := 0) (by omega) (by omega)).mpr z9))
        refine lv_iload_n hx hb d_Mod_at_16 rfl (lv_at hl 2 rfl) ?_
        refine lv_aload_n hx hb d_Mod_at_17 rfl (lv_at hl 0 rfl) ?_
        refine q_get (C := R_Mod) (T := T_Mod) (N := 10) hx hb hts (fun w h => gm (inT_Mod w h)) hown hK hZ (43) (by decide) hM.1 rfl 1 (by decide) (hts _ (gm k_421)) (fun _ h9 => h9) rfl d_Mod_at_18 ?_
        refine lv_iload_n hx hb d_Mod_at_21 rfl (lv_at hl 1 rfl) ?_
        refine q_iald hx hb hK hZ (44) 0 (j) (by decide) hM.2.1 rfl rfl (by omega) (by decide) d_Mod_at_22 ?_
        refine q_topi (y := nI z) (hmn) ?_
        refine lv_icmp_ge (tgt := 35) hx hb d_Mod_at_23 (by decide) (fun h23 => ?_) (fun h23 => ?_)
        · skip
          have h23 : z ≤ i := (nI_leI (a := z) (b := i) (by omega) (by omega)).mp h23
          exact absurd h23 (by omega)
        · skip
          have h23 : i < z := Nat.lt_of_not_le (fun z9 => h23 ((nI_leI (a := z) (b := i) (by omega) (by omega)).mpr z9))
          refine lv_iload_n hx hb d_Mod_at_26 rfl (lv_at hl 3 rfl) ?_
          refine lv_if_lt (tgt := 35) hx hb d_Mod_at_27 (by decide) (fun h27 => ?_) (fun h27 => ?_)
          · skip
            have h27 : 2 < 0 := (nI_ltI (a := 2) (b := 0) (by omega) (by omega)).mp h27
            exact absurd h27 (by decide)
          · skip
            have h27 : 0 ≤ 2 := Nat.le_of_not_lt (fun z9 => h27 ((nI_ltI (a := 2) (b := 0) (by omega) (by omega)).mpr z9))
            refine lv_iload_n hx hb d_Mod_at_30 rfl (lv_at hl 3 rfl) ?_
            refine lv_iconst (v := (nI 2)) hx hb d_Mod_at_31 rfl ?_
            refine lv_icmp_le (tgt := 39) hx hb d_Mod_at_32 (by decide) (fun h32 => ?_) (fun h32 => ?_)
            · skip
              have h32 : 2 ≤ 2 := (nI_leI (a := 2) (b := 2) (by omega) (by omega)).mp h32
              refine lv_iconst (v := (nI 0)) hx hb d_Mod_at_39 rfl ?_
              refine q_put (C := R_Mod) (T := T_Mod) (N := 10) (ty := .int) (v := .int (nI 0)) hx hb hts (fun w h => gm (inT_Mod w h)) ty_Mod tyo_Mod nm_Mod hown hK hZ (43) (by decide) hM.1 rfl 0 (by decide) (hts _ (gm k_420)) (fun _ h9 => h9) rfl (by decide +kernel) (rfl) (rfl) (Nat.le_of_ble_eq_true rfl) d_Mod_at_40 (fun H locs hZ => ?_)
              have hM := hM.up43 (nI 0) rm bd
              have hfr := fr_up (x := 43) (e := .inr (3, [.int (nI 0), .ref (ad 44), .ref (ad 45), .ref (ad 46), .ref (ad 47), .int rm, .ref (ad 48), .ref (ad 49), .ref (ad 50), .int bd])) hfr (by omega) (by omega)
              have hZ : sZ (dC, dI) vCl 52 ad (fun q => N0 ≤ q) s.heap (va_up w 43 (.inr (3, [.int (nI 0), .ref (ad 44), .ref (ad 45), .ref (ad 46), .ref (ad 47), .int rm, .ref (ad 48), .ref (ad 49), .ref (ad 50), .int bd]))) H locs := hZ
              generalize va_up w 43 (.inr (3, [.int (nI 0), .ref (ad 44), .ref (ad 45), .ref (ad 46), .ref (ad 47), .int rm, .ref (ad 48), .ref (ad 49), .ref (ad 50), .int bd])) = w68 at hZ hM hfr
              refine lv_aload_n hx hb d_Mod_at_43 rfl (lv_at hl 0 rfl) ?_
              refine q_get (C := R_Mod) (T := T_Mod) (N := 10) hx hb hts (fun w h => gm (inT_Mod w h)) hown hK hZ (43) (by decide) hM.1 rfl 0 (by decide) (hts _ (gm k_420)) (fun _ h9 => h9) rfl d_Mod_at_44 ?_
              refine lv_if_le (tgt := 52) hx hb d_Mod_at_47 (by decide) (fun h47 => ?_) (fun h47 => ?_)
              · skip
                have h47 : 0 ≤ 0 := (nI_leI (a := 0) (b := 0) (by omega) (by omega)).mp h47
                refine lv_bipush (v := (nI 64)) hx hb d_Mod_at_52 rfl ?_
                refine lv_iload_n hx hb d_Mod_at_54 rfl (lv_at hl 1 rfl) ?_
                refine lv_imul hx hb d_Mod_at_55 ?_
                refine q_topi (y := nI (64 * j)) (pk_mul _ _) ?_
                refine lv_aload_n hx hb d_Mod_at_56 rfl (lv_at hl 0 rfl) ?_
                refine lv_iload_n hx hb d_Mod_at_57 rfl (lv_at hl 1 rfl) ?_
                refine lv_iload_n hx hb d_Mod_at_58 rfl (lv_at hl 2 rfl) ?_
                refine q_calli (va_runV (As := [.int (nI j), .int (nI i)]) (rest := [.int (nI (64 * j))]) ⟨hx, hb, hml, hown, hts⟩ (c_Mod_inOrder l dC dI cI cL cB ad N0 w68 (nI 0) mn P N A rm rP rN rA bd j z i z2 P2 N2 A2 (F j) hM hj hz hmn hR hRc hi) (cwV 2 hts (gI_V k_560 k_557 k_559 k_18 k_24) rfl rfl rfl (by decide +kernel) ⟨Nat.le_of_ble_eq_true rfl, Nat.le_of_ble_eq_true rfl⟩) (q_preV hK hAm hZ hN [.int (nI j), .int (nI i)] (43) 3 (by decide) hM.1 rfl) rfl rfl hl.1 rfl (lv_room (Nat.le_of_ble_eq_true rfl)) d_Mod_at_59 ⟨Nat.zero_le _, Nat.zero_le _⟩) hZ (fun o9 u_o9 H locs h_o9 hZ => ?_)
                obtain ⟨e_o9, h_o9⟩ := h_o9
                rw [e_o9] at hZ
                obtain ⟨kf, hk_kf, e_kf, p_kf, n_kf, a_kf⟩ := h_o9
                refine q_topi (y := nI kf) e_kf ?_
                refine lv_iadd hx hb d_Mod_at_62 ?_
                refine q_topi (y := nI ((64 * j) + kf)) (nI_add _ _) ?_
                refine lv_istore (lv' := [(4, .int (nI ((64 * j) + kf))), (0, .ref (ad 43)), (1, .int (nI j)), (2, .int (nI i)), (3, .int (nI 2))]) hx hb d_Mod_at_63 hl (by decide) rfl (fun ls hl => ?_)
                refine lv_iload_n hx hb d_Mod_at_65 rfl (lv_at hl 4 rfl) ?_
                refine lv_if_ne (tgt := 80) hx hb d_Mod_at_66 (by decide) (fun h66 => ?_) (fun h66 => ?_)
                · skip
                  have h66 : ¬ 2 = 0 := fun z9 => h66 ((nI_eq (a := 2) (b := 0) (by omega) (by omega)).mpr z9)
                  refine lv_iload_n hx hb d_Mod_at_80 rfl (lv_at hl 4 rfl) ?_
                  refine lv_iconst (v := (nI 1)) hx hb d_Mod_at_81 rfl ?_
                  refine lv_icmp_ne (tgt := 95) hx hb d_Mod_at_82 (by decide) (fun h82 => ?_) (fun h82 => ?_)
                  · skip
                    have h82 : ¬ 2 = 1 := fun z9 => h82 ((nI_eq (a := 2) (b := 1) (by omega) (by omega)).mpr z9)
                    refine lv_aload_n hx hb d_Mod_at_95 rfl (lv_at hl 1 rfl) ?_
                    refine q_get (C := R_Mod) (T := T_Mod) (N := 10) hx hb hts (fun w h => gm (inT_Mod w h)) hown hK hZ (43) (by decide) hM.1 rfl 4 (by decide) (hts _ (gm k_424)) (fun _ h9 => h9) rfl d_Mod_at_96 ?_
                    refine lv_iload hx hb d_Mod_at_99 (lv_at hl 0 rfl) ?_
                    refine q_lald hx hb hK hZ (47) 1 (((64 * j) + kf)) (by decide) hM.2.2.2.2.1 rfl rfl (by omega) (by decide) d_Mod_at_101 ?_
                    exact q_lret hx hb hr hlocks hK hAm hZ hN (⟨hfr, ⟨_, _, _, _, _, _, _, _, _, hM, hB⟩, Or.inr (Or.inr ⟨rfl, a_kf⟩)⟩) d_Mod_at_102
                  · skip
                    have h82 : 2 = 1 := (nI_eq (a := 2) (b := 1) (by omega) (by omega)).mp h82
                    exact absurd h82 (by decide)
                · skip
                  have h66 : 2 = 0 := (nI_eq (a := 2) (b := 0) (by omega) (by omega)).mp h66
                  exact absurd h66 (by decide)
              · skip
                have h47 : 0 < 0 := Nat.lt_of_not_le (fun z9 => h47 ((nI_leI (a := 0) (b := 0) (by omega) (by omega)).mpr z9))
                exact absurd h47 (by decide)
            · skip
              have h32 : 2 < 2 := Nat.lt_of_not_le (fun z9 => h32 ((nI_leI (a := 2) (b := 2) (by omega) (by omega)).mpr z9))
              exact absurd h32 (by decide)
    · skip
      have h5 : 1 = 0 := (nI_eq (a := 1) (b := 0) (by omega) (by omega)).mp h5
      exact absurd h5 (by decide)
set_option maxHeartbeats 4000000 in
set_option maxRecDepth 100000 in
theorem x_Mod_at_b (l : Launch) (dC : Nat → ClassId) (dI : Nat → Nat → Nat) (cI cL cB : ClassId) (ad : Nat → Nat) (N0 : Nat) (w : Nat → va_E) (t0 : Int32) (F : Nat → Int → Int64) (b it wh : Int32) (hMM : sM ad cI cL w t0 F) (hbad : ¬ okB b) : Met l y_Mod_at ws_Mod_at ({ frames := 1, cells := 0, slots := 0, locals := 20 } : Room) (va_Pc [.ref (ad 43), .int b, .int it, .int wh] (sPr (dC, dI) vCl [(cI, .int), (cL, .long), (cB, .object "CoinBag$Bag")] 52 ad N0 w)) (va_Ql (fun r u => fr w u 43 50 ∧ sM ad cI cL u (nI 1) F) (sPr (dC, dI) vCl [(cI, .int), (cL, .long), (cB, .object "CoinBag$Bag")] 52 ad N0) (fun q => N0 ≤ q)) 0 0 (fun q => N0 ≤ q) := by
  refine Met.ofW (cc := b_Mod_at) (maxL := 5) (ret := (some .long)) (by decide) rfl ?_
  intro p e s m args below meth c s₁ B hml hv
  obtain ⟨rfl, hP, hK, hD, hN, hAm⟩ := hv
  have hx := B.exec
  have hb := B.bytes
  have hr := B.returns
  have hts := atoms_spec (ws := ws_Mod_at) B.pre
  have hown : s.vm.findClass "CoinBagModel" = some m.cls := findClass_of_methodNamed B.named
  have hlocks := B.notSynchronized
  have hZ : sZ (dC, dI) vCl 52 ad (fun q => N0 ≤ q) s.heap w s.heap [] := ⟨hP, hD, va_S.rf⟩
  have hl := lv_entry ([.ref (ad 43), .int b, .int it, .int wh]) (n := 5) (Nat.le_of_ble_eq_true rfl)
  rw [lg_entry_eq]
  generalize (lg_sl ([.ref (ad 43), .int b, .int it, .int wh]) ++ List.replicate (5 - (lg_sl ([.ref (ad 43), .int b, .int it, .int wh])).length) Slot.unset).toArray = ls at hl ⊢
  have hl : lv_has ls 5 [(0, .ref (ad 43)), (1, .int b), (2, .int it), (3, .int wh)] := hl
  obtain ⟨mn, P, N, A, rm, rP, rN, rA, bd, hM, hB⟩ := hMM
  have hfr : fr w w 43 50 := fr_rf
  refine lv_aload_n hx hb d_Mod_at_0 rfl (lv_at hl 0 rfl) ?_
  refine lv_iload_n hx hb d_Mod_at_1 rfl (lv_at hl 1 rfl) ?_
  refine q_callSi (va_runS (As := [.int b]) (rest := [.ref (ad 43)]) ⟨hx, hb, hml, hown, hts⟩ (c_Mod_isBag l b) (va_cwS 1 hts (gI_S k_465 k_463 k_464 k_24) rfl rfl rfl (by decide +kernel) ⟨Nat.le_of_ble_eq_true rfl, Nat.le_of_ble_eq_true rfl⟩) ⟨fun _ _ _ _ q => q, fun _ _ _ => ⟨rfl, trivial⟩⟩ rfl rfl hl.1 rfl (lv_room (Nat.le_of_ble_eq_true rfl)) d_Mod_at_2 ⟨Nat.zero_le _, Nat.zero_le _⟩) (fun b9 h_b9 => ?_)
  have h_b9 := bN h_b9 hbad
  refine q_topi (y := nI 0) h_b9 ?_
  refine lv_if_ne (tgt := 12) hx hb d_Mod_at_5 (by decide) (fun h5 => ?_) (fun h5 => ?_)
  · skip
    have h5 : ¬ 0 = 0 := fun z9 => h5 ((nI_eq (a := 0) (b := 0) (by omega) (by omega)).mpr z9)
    exact absurd h5 (by decide)
  · skip
    have h5 : 0 = 0 := (nI_eq (a := 0) (b := 0) (by omega) (by omega)).mp h5
    refine lv_iconst (v := (nI 1)) hx hb d_Mod_at_8 rfl ?_
    refine lv_goto (tgt := 40) hx hb d_Mod_at_9 (by decide) ?_
    refine q_put (C := R_Mod) (T := T_Mod) (N := 10) (ty := .int) (v := .int (nI 1)) hx hb hts (fun w h => gm (inT_Mod w h)) ty_Mod tyo_Mod nm_Mod hown hK hZ (43) (by decide) hM.1 rfl 0 (by decide) (hts _ (gm k_420)) (fun _ h9 => h9) rfl (by decide +kernel) (rfl) (rfl) (Nat.le_of_ble_eq_true rfl) d_Mod_at_40 (fun H locs hZ => ?_)
    have hM := hM.up43 (nI 1) rm bd
    have hfr := fr_up (x := 43) (e := .inr (3, [.int (nI 1), .ref (ad 44), .ref (ad 45), .ref (ad 46), .ref (ad 47), .int rm, .ref (ad 48), .ref (ad 49), .ref (ad 50), .int bd])) hfr (by omega) (by omega)
    have hZ : sZ (dC, dI) vCl 52 ad (fun q => N0 ≤ q) s.heap (va_up w 43 (.inr (3, [.int (nI 1), .ref (ad 44), .ref (ad 45), .ref (ad 46), .ref (ad 47), .int rm, .ref (ad 48), .ref (ad 49), .ref (ad 50), .int bd]))) H locs := hZ
    generalize va_up w 43 (.inr (3, [.int (nI 1), .ref (ad 44), .ref (ad 45), .ref (ad 46), .ref (ad 47), .int rm, .ref (ad 48), .ref (ad 49), .ref (ad 50), .int bd])) = w69 at hZ hM hfr
    refine lv_aload_n hx hb d_Mod_at_43 rfl (lv_at hl 0 rfl) ?_
    refine q_get (C := R_Mod) (T := T_Mod) (N := 10) hx hb hts (fun w h => gm (inT_Mod w h)) hown hK hZ (43) (by decide) hM.1 rfl 0 (by decide) (hts _ (gm k_420)) (fun _ h9 => h9) rfl d_Mod_at_44 ?_
    refine lv_if_le (tgt := 52) hx hb d_Mod_at_47 (by decide) (fun h47 => ?_) (fun h47 => ?_)
    · skip
      have h47 : 1 ≤ 0 := (nI_leI (a := 1) (b := 0) (by omega) (by omega)).mp h47
      exact absurd h47 (by decide)
    · skip
      have h47 : 0 < 1 := Nat.lt_of_not_le (fun z9 => h47 ((nI_leI (a := 1) (b := 0) (by omega) (by omega)).mpr z9))
      refine lv_lconst (v := 0) hx hb d_Mod_at_50 rfl ?_
      exact q_lret hx hb hr hlocks hK hAm hZ hN (⟨hfr, ⟨_, _, _, _, _, _, _, _, _, hM, hB⟩⟩) d_Mod_at_51
set_option maxHeartbeats 4000000 in
set_option maxRecDepth 100000 in
theorem x_Mod_at_k (l : Launch) (dC : Nat → ClassId) (dI : Nat → Nat → Nat) (cI cL cB : ClassId) (ad : Nat → Nat) (N0 : Nat) (w : Nat → va_E) (t0 : Int32) (F : Nat → Int → Int64) (j n : Nat) (kn : Nat → Int) (it wh : Int32) (hMM : sM ad cI cL w t0 F) (hj : j < 8) (hen : eI n kn) (hfn : eF n kn (F j)) (hbad : ¬ ((¬ it < 0 ∧ it < nI n) ∧ (wh = 0 ∨ wh = 1 ∨ wh = 2))) : Met l y_Mod_at ws_Mod_at ({ frames := 1, cells := 0, slots := 0, locals := 20 } : Room) (va_Pc [.ref (ad 43), .int (nI j), .int it, .int wh] (sPr (dC, dI) vCl [(cI, .int), (cL, .long), (cB, .object "CoinBag$Bag")] 52 ad N0 w)) (va_Ql (fun r u => fr w u 43 50 ∧ sM ad cI cL u (nI 1) F) (sPr (dC, dI) vCl [(cI, .int), (cL, .long), (cB, .object "CoinBag$Bag")] 52 ad N0) (fun q => N0 ≤ q)) 0 0 (fun q => N0 ≤ q) := by
  refine Met.ofW (cc := b_Mod_at) (maxL := 5) (ret := (some .long)) (by decide) rfl ?_
  intro p e s m args below meth c s₁ B hml hv
  obtain ⟨rfl, hP, hK, hD, hN, hAm⟩ := hv
  have hx := B.exec
  have hb := B.bytes
  have hr := B.returns
  have hts := atoms_spec (ws := ws_Mod_at) B.pre
  have hown : s.vm.findClass "CoinBagModel" = some m.cls := findClass_of_methodNamed B.named
  have hlocks := B.notSynchronized
  have hZ : sZ (dC, dI) vCl 52 ad (fun q => N0 ≤ q) s.heap w s.heap [] := ⟨hP, hD, va_S.rf⟩
  have hl := lv_entry ([.ref (ad 43), .int (nI j), .int it, .int wh]) (n := 5) (Nat.le_of_ble_eq_true rfl)
  rw [lg_entry_eq]
  generalize (lg_sl ([.ref (ad 43), .int (nI j), .int it, .int wh]) ++ List.replicate (5 - (lg_sl ([.ref (ad 43), .int (nI j), .int it, .int wh])).length) Slot.unset).toArray = ls at hl ⊢
  have hl : lv_has ls 5 [(0, .ref (ad 43)), (1, .int (nI j)), (2, .int it), (3, .int wh)] := hl
  obtain ⟨mn, P, N, A, rm, rP, rN, rA, bd, hM, hB⟩ := hMM
  have hfr : fr w w 43 50 := fr_rf
  obtain ⟨z, hz, hmn, hR⟩ := mB_at hB hj
  have ez : z = n := card_eq hR.1 hR.2.1 hen hfn
  refine lv_aload_n hx hb d_Mod_at_0 rfl (lv_at hl 0 rfl) ?_
  refine lv_iload_n hx hb d_Mod_at_1 rfl (lv_at hl 1 rfl) ?_
  refine q_callSi (va_runS (As := [.int (nI j)]) (rest := [.ref (ad 43)]) ⟨hx, hb, hml, hown, hts⟩ (c_Mod_isBag l (nI j)) (va_cwS 1 hts (gI_S k_465 k_463 k_464 k_24) rfl rfl rfl (by decide +kernel) ⟨Nat.le_of_ble_eq_true rfl, Nat.le_of_ble_eq_true rfl⟩) ⟨fun _ _ _ _ q => q, fun _ _ _ => ⟨rfl, trivial⟩⟩ rfl rfl hl.1 rfl (lv_room (Nat.le_of_ble_eq_true rfl)) d_Mod_at_2 ⟨Nat.zero_le _, Nat.zero_le _⟩) (fun b9 h_b9 => ?_)
  have h_b9 := bY h_b9 (okB_nI hj)
  refine q_topi (y := nI 1) h_b9 ?_
  refine lv_if_ne (tgt := 12) hx hb d_Mod_at_5 (by decide) (fun h5 => ?_) (fun h5 => ?_)
  · skip
    have h5 : ¬ 1 = 0 := fun z9 => h5 ((nI_eq (a := 1) (b := 0) (by omega) (by omega)).mpr z9)
    refine lv_iload_n hx hb d_Mod_at_12 rfl (lv_at hl 2 rfl) ?_
    refine lv_if_lt (tgt := 35) hx hb d_Mod_at_13 (by decide) (fun h13 => ?_) (fun h13 => ?_)
    · skip
      refine lv_iconst (v := (nI 1)) hx hb d_Mod_at_35 rfl ?_
      refine lv_goto (tgt := 40) hx hb d_Mod_at_36 (by decide) ?_
      refine q_put (C := R_Mod) (T := T_Mod) (N := 10) (ty := .int) (v := .int (nI 1)) hx hb hts (fun w h => gm (inT_Mod w h)) ty_Mod tyo_Mod nm_Mod hown hK hZ (43) (by decide) hM.1 rfl 0 (by decide) (hts _ (gm k_420)) (fun _ h9 => h9) rfl (by decide +kernel) (rfl) (rfl) (Nat.le_of_ble_eq_true rfl) d_Mod_at_40 (fun H locs hZ => ?_)
      have hM := hM.up43 (nI 1) rm bd
      have hfr := fr_up (x := 43) (e := .inr (3, [.int (nI 1), .ref (ad 44), .ref (ad 45), .ref (ad 46), .ref (ad 47), .int rm, .ref (ad 48), .ref (ad 49), .ref (ad 50), .int bd])) hfr (by omega) (by omega)
      have hZ : sZ (dC, dI) vCl 52 ad (fun q => N0 ≤ q) s.heap (va_up w 43 (.inr (3, [.int (nI 1), .ref (ad 44), .ref (ad 45), .ref (ad 46), .ref (ad 47), .int rm, .ref (ad 48), .ref (ad 49), .ref (ad 50), .int bd]))) H locs := hZ
      generalize va_up w 43 (.inr (3, [.int (nI 1), .ref (ad 44), .ref (ad 45), .ref (ad 46), .ref (ad 47), .int rm, .ref (ad 48), .ref (ad 49), .ref (ad 50), .int bd])) = w70 at hZ hM hfr
      refine lv_aload_n hx hb d_Mod_at_43 rfl (lv_at hl 0 rfl) ?_
      refine q_get (C := R_Mod) (T := T_Mod) (N := 10) hx hb hts (fun w h => gm (inT_Mod w h)) hown hK hZ (43) (by decide) hM.1 rfl 0 (by decide) (hts _ (gm k_420)) (fun _ h9 => h9) rfl d_Mod_at_44 ?_
      refine lv_if_le (tgt := 52) hx hb d_Mod_at_47 (by decide) (fun h47 => ?_) (fun h47 => ?_)
      · skip
        have h47 : 1 ≤ 0 := (nI_leI (a := 1) (b := 0) (by omega) (by omega)).mp h47
        exact absurd h47 (by decide)
      · skip
        have h47 : 0 < 1 := Nat.lt_of_not_le (fun z9 => h47 ((nI_leI (a := 1) (b := 0) (by omega) (by omega)).mpr z9))
        refine lv_lconst (v := 0) hx hb d_Mod_at_50 rfl ?_
        exact q_lret hx hb hr hlocks hK hAm hZ hN (⟨hfr, ⟨_, _, _, _, _, _, _, _, _, hM, hB⟩⟩) d_Mod_at_51
    · skip
      refine lv_iload_n hx hb d_Mod_at_16 rfl (lv_at hl 2 rfl) ?_
      refine lv_aload_n hx hb d_Mod_at_17 rfl (lv_at hl 0 rfl) ?_
      refine q_get (C := R_Mod) (T := T_Mod) (N := 10) hx hb hts (fun w h => gm (inT_Mod w h)) hown hK hZ (43) (by decide) hM.1 rfl 1 (by decide) (hts _ (gm k_421)) (fun _ h9 => h9) rfl d_Mod_at_18 ?_
      refine lv_iload_n hx hb d_Mod_at_21 rfl (lv_at hl 1 rfl) ?_
      refine q_iald hx hb hK hZ (44) 0 (j) (by decide) hM.2.1 rfl rfl (by omega) (by decide) d_Mod_at_22 ?_
      refine q_topi (y := nI z) (hmn) ?_
      refine lv_icmp_ge (tgt := 35) hx hb d_Mod_at_23 (by decide) (fun h23 => ?_) (fun h23 => ?_)
      · skip
        refine lv_iconst (v := (nI 1)) hx hb d_Mod_at_35 rfl ?_
        refine lv_goto (tgt := 40) hx hb d_Mod_at_36 (by decide) ?_
        refine q_put (C := R_Mod) (T := T_Mod) (N := 10) (ty := .int) (v := .int (nI 1)) hx hb hts (fun w h => gm (inT_Mod w h)) ty_Mod tyo_Mod nm_Mod hown hK hZ (43) (by decide) hM.1 rfl 0 (by decide) (hts _ (gm k_420)) (fun _ h9 => h9) rfl (by decide +kernel) (rfl) (rfl) (Nat.le_of_ble_eq_true rfl) d_Mod_at_40 (fun H locs hZ => ?_)
        have hM := hM.up43 (nI 1) rm bd
        have hfr := fr_up (x := 43) (e := .inr (3, [.int (nI 1), .ref (ad 44), .ref (ad 45), .ref (ad 46), .ref (ad 47), .int rm, .ref (ad 48), .ref (ad 49), .ref (ad 50), .int bd])) hfr (by omega) (by omega)
        have hZ : sZ (dC, dI) vCl 52 ad (fun q => N0 ≤ q) s.heap (va_up w 43 (.inr (3, [.int (nI 1), .ref (ad 44), .ref (ad 45), .ref (ad 46), .ref (ad 47), .int rm, .ref (ad 48), .ref (ad 49), .ref (ad 50), .int bd]))) H locs := hZ
        generalize va_up w 43 (.inr (3, [.int (nI 1), .ref (ad 44), .ref (ad 45), .ref (ad 46), .ref (ad 47), .int rm, .ref (ad 48), .ref (ad 49), .ref (ad 50), .int bd])) = w71 at hZ hM hfr
        refine lv_aload_n hx hb d_Mod_at_43 rfl (lv_at hl 0 rfl) ?_
        refine q_get (C := R_Mod) (T := T_Mod) (N := 10) hx hb hts (fun w h => gm (inT_Mod w h)) hown hK hZ (43) (by decide) hM.1 rfl 0 (by decide) (hts _ (gm k_420)) (fun _ h9 => h9) rfl d_Mod_at_44 ?_
        refine lv_if_le (tgt := 52) hx hb d_Mod_at_47 (by decide) (fun h47 => ?_) (fun h47 => ?_)
        · skip
          have h47 : 1 ≤ 0 := (nI_leI (a := 1) (b := 0) (by omega) (by omega)).mp h47
          exact absurd h47 (by decide)
        · skip
          have h47 : 0 < 1 := Nat.lt_of_not_le (fun z9 => h47 ((nI_leI (a := 1) (b := 0) (by omega) (by omega)).mpr z9))
          refine lv_lconst (v := 0) hx hb d_Mod_at_50 rfl ?_
          exact q_lret hx hb hr hlocks hK hAm hZ hN (⟨hfr, ⟨_, _, _, _, _, _, _, _, _, hM, hB⟩⟩) d_Mod_at_51
      · skip
        refine lv_iload_n hx hb d_Mod_at_26 rfl (lv_at hl 3 rfl) ?_
        refine lv_if_lt (tgt := 35) hx hb d_Mod_at_27 (by decide) (fun h27 => ?_) (fun h27 => ?_)
        · skip
          refine lv_iconst (v := (nI 1)) hx hb d_Mod_at_35 rfl ?_
          refine lv_goto (tgt := 40) hx hb d_Mod_at_36 (by decide) ?_
          refine q_put (C := R_Mod) (T := T_Mod) (N := 10) (ty := .int) (v := .int (nI 1)) hx hb hts (fun w h => gm (inT_Mod w h)) ty_Mod tyo_Mod nm_Mod hown hK hZ (43) (by decide) hM.1 rfl 0 (by decide) (hts _ (gm k_420)) (fun _ h9 => h9) rfl (by decide +kernel) (rfl) (rfl) (Nat.le_of_ble_eq_true rfl) d_Mod_at_40 (fun H locs hZ => ?_)
          have hM := hM.up43 (nI 1) rm bd
          have hfr := fr_up (x := 43) (e := .inr (3, [.int (nI 1), .ref (ad 44), .ref (ad 45), .ref (ad 46), .ref (ad 47), .int rm, .ref (ad 48), .ref (ad 49), .ref (ad 50), .int bd])) hfr (by omega) (by omega)
          have hZ : sZ (dC, dI) vCl 52 ad (fun q => N0 ≤ q) s.heap (va_up w 43 (.inr (3, [.int (nI 1), .ref (ad 44), .ref (ad 45), .ref (ad 46), .ref (ad 47), .int rm, .ref (ad 48), .ref (ad 49), .ref (ad 50), .int bd]))) H locs := hZ
          generalize va_up w 43 (.inr (3, [.int (nI 1), .ref (ad 44), .ref (ad 45), .ref (ad 46), .ref (ad 47), .int rm, .ref (ad 48), .ref (ad 49), .ref (ad 50), .int bd])) = w72 at hZ hM hfr
          refine lv_aload_n hx hb d_Mod_at_43 rfl (lv_at hl 0 rfl) ?_
          refine q_get (C := R_Mod) (T := T_Mod) (N := 10) hx hb hts (fun w h => gm (inT_Mod w h)) hown hK hZ (43) (by decide) hM.1 rfl 0 (by decide) (hts _ (gm k_420)) (fun _ h9 => h9) rfl d_Mod_at_44 ?_
          refine lv_if_le (tgt := 52) hx hb d_Mod_at_47 (by decide) (fun h47 => ?_) (fun h47 => ?_)
          · skip
            have h47 : 1 ≤ 0 := (nI_leI (a := 1) (b := 0) (by omega) (by omega)).mp h47
            exact absurd h47 (by decide)
          · skip
            have h47 : 0 < 1 := Nat.lt_of_not_le (fun z9 => h47 ((nI_leI (a := 1) (b := 0) (by omega) (by omega)).mpr z9))
            refine lv_lconst (v := 0) hx hb d_Mod_at_50 rfl ?_
            exact q_lret hx hb hr hlocks hK hAm hZ hN (⟨hfr, ⟨_, _, _, _, _, _, _, _, _, hM, hB⟩⟩) d_Mod_at_51
        · skip
          refine lv_iload_n hx hb d_Mod_at_30 rfl (lv_at hl 3 rfl) ?_
          refine lv_iconst (v := (nI 2)) hx hb d_Mod_at_31 rfl ?_
          refine lv_icmp_le (tgt := 39) hx hb d_Mod_at_32 (by decide) (fun h32 => ?_) (fun h32 => ?_)
          · skip
            exact absurd ⟨⟨h13, by rw [← ez]; exact Int32.not_le.mp h23⟩, i3_in h27 h32⟩ hbad
          · skip
            refine lv_iconst (v := (nI 1)) hx hb d_Mod_at_35 rfl ?_
            refine lv_goto (tgt := 40) hx hb d_Mod_at_36 (by decide) ?_
            refine q_put (C := R_Mod) (T := T_Mod) (N := 10) (ty := .int) (v := .int (nI 1)) hx hb hts (fun w h => gm (inT_Mod w h)) ty_Mod tyo_Mod nm_Mod hown hK hZ (43) (by decide) hM.1 rfl 0 (by decide) (hts _ (gm k_420)) (fun _ h9 => h9) rfl (by decide +kernel) (rfl) (rfl) (Nat.le_of_ble_eq_true rfl) d_Mod_at_40 (fun H locs hZ => ?_)
            have hM := hM.up43 (nI 1) rm bd
            have hfr := fr_up (x := 43) (e := .inr (3, [.int (nI 1), .ref (ad 44), .ref (ad 45), .ref (ad 46), .ref (ad 47), .int rm, .ref (ad 48), .ref (ad 49), .ref (ad 50), .int bd])) hfr (by omega) (by omega)
            have hZ : sZ (dC, dI) vCl 52 ad (fun q => N0 ≤ q) s.heap (va_up w 43 (.inr (3, [.int (nI 1), .ref (ad 44), .ref (ad 45), .ref (ad 46), .ref (ad 47), .int rm, .ref (ad 48), .ref (ad 49), .ref (ad 50), .int bd]))) H locs := hZ
            generalize va_up w 43 (.inr (3, [.int (nI 1), .ref (ad 44), .ref (ad 45), .ref (ad 46), .ref (ad 47), .int rm, .ref (ad 48), .ref (ad 49), .ref (ad 50), .int bd])) = w73 at hZ hM hfr
            refine lv_aload_n hx hb d_Mod_at_43 rfl (lv_at hl 0 rfl) ?_
            refine q_get (C := R_Mod) (T := T_Mod) (N := 10) hx hb hts (fun w h => gm (inT_Mod w h)) hown hK hZ (43) (by decide) hM.1 rfl 0 (by decide) (hts _ (gm k_420)) (fun _ h9 => h9) rfl d_Mod_at_44 ?_
            refine lv_if_le (tgt := 52) hx hb d_Mod_at_47 (by decide) (fun h47 => ?_) (fun h47 => ?_)
            · skip
              have h47 : 1 ≤ 0 := (nI_leI (a := 1) (b := 0) (by omega) (by omega)).mp h47
              exact absurd h47 (by decide)
            · skip
              have h47 : 0 < 1 := Nat.lt_of_not_le (fun z9 => h47 ((nI_leI (a := 1) (b := 0) (by omega) (by omega)).mpr z9))
              refine lv_lconst (v := 0) hx hb d_Mod_at_50 rfl ?_
              exact q_lret hx hb hr hlocks hK hAm hZ hN (⟨hfr, ⟨_, _, _, _, _, _, _, _, _, hM, hB⟩⟩) d_Mod_at_51
  · skip
    have h5 : 1 = 0 := (nI_eq (a := 1) (b := 0) (by omega) (by omega)).mp h5
    exact absurd h5 (by decide)
set_option maxHeartbeats 4000000 in
set_option maxRecDepth 100000 in
theorem c_Mod_both (l : Launch) (dC : Nat → ClassId) (dI : Nat → Nat → Nat) (cI cL cB : ClassId) (ad : Nat → Nat) (N0 : Nat) (w : Nat → va_E) (t : Int32) (mn P : Nat → Int32) (N A : Nat → Int64) (rm : Int32) (rP : Nat → Int32) (rN rA : Nat → Int64) (bd : Int32) (ja jb hw : Nat) (F : Nat → Int → Int64) (hM : isMod ad cI cL w t mn P N A rm rP rN rA bd) (hja : ja < 8) (hjb : jb < 8) (hh : hw ≤ 2) (hB : mBag mn P N A F) : Met l y_Mod_both ws_Mod_both ({ frames := 2, cells := 0, slots := 0, locals := 50 } : Room) (va_Pc [.ref (ad 43), .int (nI ja), .int (nI jb), .int (nI hw)] (sPr (dC, dI) vCl [(cI, .int), (cL, .long), (cB, .object "CoinBag$Bag")] 52 ad N0 w)) (va_Qv (fun u => fr w u 43 50 ∧ ∃ (r2 : Nat) (p2 : Nat → Int32) (n2 a2 : Nat → Int64) (b2 : Int32), isMod ad cI cL u t mn P N A (nI r2) p2 n2 a2 b2 ∧ r2 ≤ 128 ∧ mRep r2 p2 n2 a2 (gH hw (F ja) (F jb)) ∧ bZ b2 (∀ y, fH hw (F ja y) (F jb y))) (sPr (dC, dI) vCl [(cI, .int), (cL, .long), (cB, .object "CoinBag$Bag")] 52 ad N0) (fun q => N0 ≤ q)) 0 0 (fun q => N0 ≤ q) := by
  refine Met.ofW (cc := b_Mod_both) (maxL := 14) (ret := none) (by decide) rfl ?_
  intro p e s m args below meth c s₁ B hml hv
  obtain ⟨rfl, hP, hK, hD, hN, hAm⟩ := hv
  have hx := B.exec
  have hb := B.bytes
  have hr := B.returns
  have hts := atoms_spec (ws := ws_Mod_both) B.pre
  have hown : s.vm.findClass "CoinBagModel" = some m.cls := findClass_of_methodNamed B.named
  have hlocks := B.notSynchronized
  have hZ : sZ (dC, dI) vCl 52 ad (fun q => N0 ≤ q) s.heap w s.heap [] := ⟨hP, hD, va_S.rf⟩
  have hl := lv_entry ([.ref (ad 43), .int (nI ja), .int (nI jb), .int (nI hw)]) (n := 14) (Nat.le_of_ble_eq_true rfl)
  rw [lg_entry_eq]
  generalize (lg_sl ([.ref (ad 43), .int (nI ja), .int (nI jb), .int (nI hw)]) ++ List.replicate (14 - (lg_sl ([.ref (ad 43), .int (nI ja), .int (nI jb), .int (nI hw)])).length) Slot.unset).toArray = ls at hl ⊢
  have hl : lv_has ls 14 [(0, .ref (ad 43)), (1, .int (nI ja)), (2, .int (nI jb)), (3, .int (nI hw))] := hl
  obtain ⟨za, hza, hmna, hRa⟩ := mB_at hB hja
  obtain ⟨zb, hzb, hmnb, hRb⟩ := mB_at hB hjb
  have hfr : fr w w 43 50 := fr_rf
  refine lv_aload_n hx hb d_Mod_both_0 rfl (lv_at hl 0 rfl) ?_
  refine q_callv (va_runV (As := []) (rest := []) ⟨hx, hb, hml, hown, hts⟩ (c_Mod_begin l dC dI cI cL cB ad N0 w t mn P N A rm rP rN rA bd hM) (cwV 0 hts (gI_V k_503 k_500 k_502 k_13 k_24) rfl rfl rfl (by decide +kernel) ⟨Nat.le_of_ble_eq_true rfl, Nat.le_of_ble_eq_true rfl⟩) (q_preV hK hAm hZ hN [] (43) 3 (by decide) hM.1 rfl) rfl rfl hl.1 rfl (lv_room (Nat.le_of_ble_eq_true rfl)) d_Mod_both_1 ⟨Nat.zero_le _, Nat.zero_le _⟩) hZ (fun u_g9 H locs h_g9 hZ => ?_)
  obtain ⟨hf2, hM⟩ := h_g9
  have hfr := fr_tr hfr hf2 (Nat.le_refl _) (Nat.le_refl _)
  refine lv_iconst (v := (nI 0)) hx hb d_Mod_both_4 rfl ?_
  refine lv_istore (lv' := [(4, .int (nI 0)), (0, .ref (ad 43)), (1, .int (nI ja)), (2, .int (nI jb)), (3, .int (nI hw))]) hx hb d_Mod_both_5 hl (by decide) rfl (fun ls hl => ?_)
  refine lv_iload hx hb d_Mod_both_7 (lv_at hl 0 rfl) ?_
  refine lv_iconst (v := (nI 2)) hx hb d_Mod_both_9 rfl ?_
  refine lv_icmp_ge (tgt := 175) hx hb d_Mod_both_10 (by decide) (fun h10 => ?_) (fun h10 => ?_)
  · skip
    have h10 : 2 ≤ 0 := (nI_leI (a := 2) (b := 0) (by omega) (by omega)).mp h10
    exact absurd h10 (by decide)
  · skip
    have h10 : 0 < 2 := Nat.lt_of_not_le (fun z9 => h10 ((nI_leI (a := 2) (b := 0) (by omega) (by omega)).mpr z9))
    refine lv_iload hx hb d_Mod_both_13 (lv_at hl 0 rfl) ?_
    refine lv_if_ne (tgt := 22) hx hb d_Mod_both_15 (by decide) (fun h15 => ?_) (fun h15 => ?_)
    · skip
      have h15 : ¬ 0 = 0 := fun z9 => h15 ((nI_eq (a := 0) (b := 0) (by omega) (by omega)).mpr z9)
      exact absurd h15 (by decide)
    · skip
      have h15 : 0 = 0 := (nI_eq (a := 0) (b := 0) (by omega) (by omega)).mp h15
      refine lv_iload_n hx hb d_Mod_both_18 rfl (lv_at hl 2 rfl) ?_
      refine lv_goto (tgt := 23) hx hb d_Mod_both_19 (by decide) ?_
      refine lv_istore (lv' := [(5, .int (nI ja)), (4, .int (nI 0)), (0, .ref (ad 43)), (1, .int (nI ja)), (2, .int (nI jb)), (3, .int (nI hw))]) hx hb d_Mod_both_23 hl (by decide) rfl (fun ls hl => ?_)
      refine lv_iconst (v := (nI 0)) hx hb d_Mod_both_25 rfl ?_
      refine lv_istore (lv' := [(6, .int (nI 0)), (5, .int (nI ja)), (4, .int (nI 0)), (0, .ref (ad 43)), (1, .int (nI ja)), (2, .int (nI jb)), (3, .int (nI hw))]) hx hb d_Mod_both_26 hl (by decide) rfl (fun ls hl => ?_)
      have loop28a : ∀ (fu28a : Nat) (k rm : Nat) (rP : Nat → Int32) (rN rA : Nat → Int64) (bd : Int32) (u : Nat → va_E) (H : Heap) (locs : List Loc) (ls : Array Slot), (k ≤ za) → (za + 1 ≤ k + fu28a) → (isMod ad cI cL u t mn P N A (nI rm) rP rN rA bd) → (mRep rm rP rN rA (gS (gH hw (F ja) (F jb)) (sU (kM P N ja) k))) → (rm ≤ k) → (bZ bd (∀ y, (sU (kM P N ja) k) y → fH hw (F ja y) (F jb y))) → (fr w u 43 50) → sZ (dC, dI) vCl 52 ad (fun q => N0 ≤ q) s.heap u H locs → lv_has ls 14 [(4, .int (nI 0)), (5, .int (nI ja)), (6, .int (nI k)), (0, .ref (ad 43)), (1, .int (nI ja)), (2, .int (nI jb)), (3, .int (nI hw))] → W p l e (headSpec ws_Mod_both ({ frames := 2, cells := 0, slots := 0, locals := 50 } : Room)).room s m ([.ref (ad 43), .int (nI ja), .int (nI jb), .int (nI hw)]).toArray below meth c H locs 0 0 (MQ below (va_Qv (fun u => fr w u 43 50 ∧ ∃ (r2 : Nat) (p2 : Nat → Int32) (n2 a2 : Nat → Int64) (b2 : Int32), isMod ad cI cL u t mn P N A (nI r2) p2 n2 a2 b2 ∧ r2 ≤ 128 ∧ mRep r2 p2 n2 a2 (gH hw (F ja) (F jb)) ∧ bZ b2 (∀ y, fH hw (F ja y) (F jb y))) (sPr (dC, dI) vCl [(cI, .int), (cL, .long), (cB, .object "CoinBag$Bag")] 52 ad N0) (fun q => N0 ≤ q)) ([.ref (ad 43), .int (nI ja), .int (nI jb), .int (nI hw)]).toArray s 0 0 (fun q => N0 ≤ q)) (F0 m 28 ls []) := by
        intro fu28a
        induction fu28a with
        | zero =>
          intro k rm rP rN rA bd u H locs ls hk hf9 hM hrow hrm hbd hfr
          omega
        | succ fu28a ih28a =>
          intro k rm rP rN rA bd u H locs ls hk hf9 hM hrow hrm hbd hfr hZ hl
          refine lv_iload hx hb d_Mod_both_28 (lv_at hl 2 rfl) ?_
          refine lv_aload_n hx hb d_Mod_both_30 rfl (lv_at hl 3 rfl) ?_
          refine q_get (C := R_Mod) (T := T_Mod) (N := 10) hx hb hts (fun w h => gm (inT_Mod w h)) hown hK hZ (43) (by decide) hM.1 rfl 1 (by decide) (hts _ (gm k_421)) (fun _ h9 => h9) rfl d_Mod_both_31 ?_
          refine lv_iload hx hb d_Mod_both_34 (lv_at hl 1 rfl) ?_
          refine q_iald hx hb hK hZ (44) 0 (ja) (by decide) hM.2.1 rfl rfl (by omega) (by decide) d_Mod_both_36 ?_
          refine q_topi (y := nI za) (hmna) ?_
          refine lv_icmp_ge (tgt := 169) hx hb d_Mod_both_37 (by decide) (fun h37 => ?_) (fun h37 => ?_)
          · skip
            have h37 : za ≤ k := (nI_leI (a := za) (b := k) (by omega) (by omega)).mp h37
            have ek : k = za := by omega
            rw [ek] at hrow hbd hrm
            refine lv_iinc (v := (nI (0 + 1))) (lv' := [(4, .int (nI (0 + 1))), (5, .int (nI ja)), (6, .int (nI k)), (0, .ref (ad 43)), (1, .int (nI ja)), (2, .int (nI jb)), (3, .int (nI hw))]) hx hb d_Mod_both_169 hl (k := 0) rfl (nI_1 _) (by decide) rfl (fun ls hl => ?_)
            have hl : lv_has ls 14 [(4, .int (nI 1)), (5, .int (nI ja)), (6, .int (nI k)), (0, .ref (ad 43)), (1, .int (nI ja)), (2, .int (nI jb)), (3, .int (nI hw))] := hl
            refine lv_goto (tgt := 7) hx hb d_Mod_both_172 (by decide) ?_
            refine lv_iload hx hb d_Mod_both_7 (lv_at hl 0 rfl) ?_
            refine lv_iconst (v := (nI 2)) hx hb d_Mod_both_9 rfl ?_
            refine lv_icmp_ge (tgt := 175) hx hb d_Mod_both_10 (by decide) (fun h10 => ?_) (fun h10 => ?_)
            · skip
              have h10 : 2 ≤ 1 := (nI_leI (a := 2) (b := 1) (by omega) (by omega)).mp h10
              exact absurd h10 (by decide)
            · skip
              have h10 : 1 < 2 := Nat.lt_of_not_le (fun z9 => h10 ((nI_leI (a := 2) (b := 1) (by omega) (by omega)).mpr z9))
              refine lv_iload hx hb d_Mod_both_13 (lv_at hl 0 rfl) ?_
              refine lv_if_ne (tgt := 22) hx hb d_Mod_both_15 (by decide) (fun h15 => ?_) (fun h15 => ?_)
              · skip
                have h15 : ¬ 1 = 0 := fun z9 => h15 ((nI_eq (a := 1) (b := 0) (by omega) (by omega)).mpr z9)
                refine lv_iload_n hx hb d_Mod_both_22 rfl (lv_at hl 5 rfl) ?_
                refine lv_istore (lv' := [(5, .int (nI jb)), (4, .int (nI 1)), (6, .int (nI k)), (0, .ref (ad 43)), (1, .int (nI ja)), (2, .int (nI jb)), (3, .int (nI hw))]) hx hb d_Mod_both_23 hl (by decide) rfl (fun ls hl => ?_)
                refine lv_iconst (v := (nI 0)) hx hb d_Mod_both_25 rfl ?_
                refine lv_istore (lv' := [(6, .int (nI 0)), (5, .int (nI jb)), (4, .int (nI 1)), (0, .ref (ad 43)), (1, .int (nI ja)), (2, .int (nI jb)), (3, .int (nI hw))]) hx hb d_Mod_both_26 hl (by decide) rfl (fun ls hl => ?_)
                have loop28b : ∀ (fu28b : Nat) (k rm : Nat) (rP : Nat → Int32) (rN rA : Nat → Int64) (bd : Int32) (u : Nat → va_E) (H : Heap) (locs : List Loc) (ls : Array Slot), (k ≤ zb) → (zb + 1 ≤ k + fu28b) → (isMod ad cI cL u t mn P N A (nI rm) rP rN rA bd) → (mRep rm rP rN rA (gS (gH hw (F ja) (F jb)) (sB (kM P N ja) za (kM P N jb) k))) → (rm ≤ za + k) → (bZ bd (∀ y, (sB (kM P N ja) za (kM P N jb) k) y → fH hw (F ja y) (F jb y))) → (fr w u 43 50) → sZ (dC, dI) vCl 52 ad (fun q => N0 ≤ q) s.heap u H locs → lv_has ls 14 [(4, .int (nI 1)), (5, .int (nI jb)), (6, .int (nI k)), (0, .ref (ad 43)), (1, .int (nI ja)), (2, .int (nI jb)), (3, .int (nI hw))] → W p l e (headSpec ws_Mod_both ({ frames := 2, cells := 0, slots := 0, locals := 50 } : Room)).room s m ([.ref (ad 43), .int (nI ja), .int (nI jb), .int (nI hw)]).toArray below meth c H locs 0 0 (MQ below (va_Qv (fun u => fr w u 43 50 ∧ ∃ (r2 : Nat) (p2 : Nat → Int32) (n2 a2 : Nat → Int64) (b2 : Int32), isMod ad cI cL u t mn P N A (nI r2) p2 n2 a2 b2 ∧ r2 ≤ 128 ∧ mRep r2 p2 n2 a2 (gH hw (F ja) (F jb)) ∧ bZ b2 (∀ y, fH hw (F ja y) (F jb y))) (sPr (dC, dI) vCl [(cI, .int), (cL, .long), (cB, .object "CoinBag$Bag")] 52 ad N0) (fun q => N0 ≤ q)) ([.ref (ad 43), .int (nI ja), .int (nI jb), .int (nI hw)]).toArray s 0 0 (fun q => N0 ≤ q)) (F0 m 28 ls []) := by
                  intro fu28b
                  induction fu28b with
                  | zero =>
                    intro k rm rP rN rA bd u H locs ls hk hf9 hM hrow hrm hbd hfr
                    omega
                  | succ fu28b ih28b =>
                    intro k rm rP rN rA bd u H locs ls hk hf9 hM hrow hrm hbd hfr hZ hl
                    refine lv_iload hx hb d_Mod_both_28 (lv_at hl 2 rfl) ?_
                    refine lv_aload_n hx hb d_Mod_both_30 rfl (lv_at hl 3 rfl) ?_
                    refine q_get (C := R_Mod) (T := T_Mod) (N := 10) hx hb hts (fun w h => gm (inT_Mod w h)) hown hK hZ (43) (by decide) hM.1 rfl 1 (by decide) (hts _ (gm k_421)) (fun _ h9 => h9) rfl d_Mod_both_31 ?_
                    refine lv_iload hx hb d_Mod_both_34 (lv_at hl 1 rfl) ?_
                    refine q_iald hx hb hK hZ (44) 0 (jb) (by decide) hM.2.1 rfl rfl (by omega) (by decide) d_Mod_both_36 ?_
                    refine q_topi (y := nI zb) (hmnb) ?_
                    refine lv_icmp_ge (tgt := 169) hx hb d_Mod_both_37 (by decide) (fun h37 => ?_) (fun h37 => ?_)
                    · skip
                      have h37 : zb ≤ k := (nI_leI (a := zb) (b := k) (by omega) (by omega)).mp h37
                      have ek : k = zb := by omega
                      rw [ek] at hrow hbd hrm
                      refine lv_iinc (v := (nI (1 + 1))) (lv' := [(4, .int (nI (1 + 1))), (5, .int (nI jb)), (6, .int (nI k)), (0, .ref (ad 43)), (1, .int (nI ja)), (2, .int (nI jb)), (3, .int (nI hw))]) hx hb d_Mod_both_169 hl (k := 0) rfl (nI_1 _) (by decide) rfl (fun ls hl => ?_)
                      have hl : lv_has ls 14 [(4, .int (nI 2)), (5, .int (nI jb)), (6, .int (nI k)), (0, .ref (ad 43)), (1, .int (nI ja)), (2, .int (nI jb)), (3, .int (nI hw))] := hl
                      refine lv_goto (tgt := 7) hx hb d_Mod_both_172 (by decide) ?_
                      refine lv_iload hx hb d_Mod_both_7 (lv_at hl 0 rfl) ?_
                      refine lv_iconst (v := (nI 2)) hx hb d_Mod_both_9 rfl ?_
                      refine lv_icmp_ge (tgt := 175) hx hb d_Mod_both_10 (by decide) (fun h10 => ?_) (fun h10 => ?_)
                      · skip
                        have h10 : 2 ≤ 2 := (nI_leI (a := 2) (b := 2) (by omega) (by omega)).mp h10
                        exact q_vret hx hb hr hlocks hK hAm hZ hN (⟨hfr, rm, rP, rN, rA, bd, hM, by omega, bo_end hRa.2.1.2 hRb.2.1.2 hrow, bo_bz hRa.2.1.2 hRb.2.1.2 hbd⟩) d_Mod_both_175
                      · skip
                        have h10 : 2 < 2 := Nat.lt_of_not_le (fun z9 => h10 ((nI_leI (a := 2) (b := 2) (by omega) (by omega)).mpr z9))
                        exact absurd h10 (by decide)
                    · skip
                      have h37 : k < zb := Nat.lt_of_not_le (fun z9 => h37 ((nI_leI (a := zb) (b := k) (by omega) (by omega)).mpr z9))
                      refine lv_aload_n hx hb d_Mod_both_40 rfl (lv_at hl 3 rfl) ?_
                      refine q_get (C := R_Mod) (T := T_Mod) (N := 10) hx hb hts (fun w h => gm (inT_Mod w h)) hown hK hZ (43) (by decide) hM.1 rfl 2 (by decide) (hts _ (gm k_422)) (fun _ h9 => h9) rfl d_Mod_both_41 ?_
                      refine lv_bipush (v := (nI 64)) hx hb d_Mod_both_44 rfl ?_
                      refine lv_iload hx hb d_Mod_both_46 (lv_at hl 1 rfl) ?_
                      refine lv_imul hx hb d_Mod_both_48 ?_
                      refine q_topi (y := nI (64 * jb)) (pk_mul _ _) ?_
                      refine lv_iload hx hb d_Mod_both_49 (lv_at hl 2 rfl) ?_
                      refine lv_iadd hx hb d_Mod_both_51 ?_
                      refine q_topi (y := nI ((64 * jb) + k)) (nI_add _ _) ?_
                      refine q_iald hx hb hK hZ (45) 0 (((64 * jb) + k)) (by decide) hM.2.2.1 rfl rfl (by omega) (by decide) d_Mod_both_52 ?_
                      refine lv_istore (lv' := [(7, .int (P ((64 * jb) + k))), (4, .int (nI 1)), (5, .int (nI jb)), (6, .int (nI k)), (0, .ref (ad 43)), (1, .int (nI ja)), (2, .int (nI jb)), (3, .int (nI hw))]) hx hb d_Mod_both_53 hl (by decide) rfl (fun ls hl => ?_)
                      refine lv_aload_n hx hb d_Mod_both_55 rfl (lv_at hl 4 rfl) ?_
                      refine q_get (C := R_Mod) (T := T_Mod) (N := 10) hx hb hts (fun w h => gm (inT_Mod w h)) hown hK hZ (43) (by decide) hM.1 rfl 3 (by decide) (hts _ (gm k_423)) (fun _ h9 => h9) rfl d_Mod_both_56 ?_
                      refine lv_bipush (v := (nI 64)) hx hb d_Mod_both_59 rfl ?_
                      refine lv_iload hx hb d_Mod_both_61 (lv_at hl 2 rfl) ?_
                      refine lv_imul hx hb d_Mod_both_63 ?_
                      refine q_topi (y := nI (64 * jb)) (pk_mul _ _) ?_
                      refine lv_iload hx hb d_Mod_both_64 (lv_at hl 3 rfl) ?_
                      refine lv_iadd hx hb d_Mod_both_66 ?_
                      refine q_topi (y := nI ((64 * jb) + k)) (nI_add _ _) ?_
                      refine q_lald hx hb hK hZ (46) 1 (((64 * jb) + k)) (by decide) hM.2.2.2.1 rfl rfl (by omega) (by decide) d_Mod_both_67 ?_
                      refine lv_lstore (lv' := [(8, .long (N ((64 * jb) + k))), (7, .int (P ((64 * jb) + k))), (4, .int (nI 1)), (5, .int (nI jb)), (6, .int (nI k)), (0, .ref (ad 43)), (1, .int (nI ja)), (2, .int (nI jb)), (3, .int (nI hw))]) hx hb d_Mod_both_68 hl (by decide) rfl (fun ls hl => ?_)
                      refine lv_iload hx hb d_Mod_both_70 (lv_at hl 2 rfl) ?_
                      refine lv_if_eq (tgt := 87) hx hb d_Mod_both_72 (by decide) (fun h72 => ?_) (fun h72 => ?_)
                      · skip
                        have h72 : 1 = 0 := (nI_eq (a := 1) (b := 0) (by omega) (by omega)).mp h72
                        exact absurd h72 (by decide)
                      · skip
                        have h72 : ¬ 1 = 0 := fun z9 => h72 ((nI_eq (a := 1) (b := 0) (by omega) (by omega)).mpr z9)
                        refine lv_aload_n hx hb d_Mod_both_75 rfl (lv_at hl 5 rfl) ?_
                        refine lv_iload_n hx hb d_Mod_both_76 rfl (lv_at hl 6 rfl) ?_
                        refine lv_iload hx hb d_Mod_both_77 (lv_at hl 1 rfl) ?_
                        refine lv_lload hx hb d_Mod_both_79 (lv_at hl 0 rfl) ?_
                        refine q_calli (va_runV (As := [.int (nI ja), .int (P ((64 * jb) + k)), .long (N ((64 * jb) + k))]) (rest := []) ⟨hx, hb, hml, hown, hts⟩ (c_Mod_find l dC dI cI cL cB ad N0 u t mn P N A (nI rm) rP rN rA bd ja za (P (64 * jb + k)) (N (64 * jb + k)) hM hja hza hmna) (cwV 3 hts (gI_V k_477 k_474 k_476 k_9 k_24) rfl rfl rfl (by decide +kernel) ⟨Nat.le_of_ble_eq_true rfl, Nat.le_of_ble_eq_true rfl⟩) (q_preV hK hAm hZ hN [.int (nI ja), .int (P ((64 * jb) + k)), .long (N ((64 * jb) + k))] (43) 3 (by decide) hM.1 rfl) rfl rfl hl.1 rfl (lv_room (Nat.le_of_ble_eq_true rfl)) d_Mod_both_81 ⟨Nat.zero_le _, Nat.zero_le _⟩) hZ (fun f9 u_f9 H locs h_f9 hZ => ?_)
                        obtain ⟨e_f9, h_f9⟩ := h_f9
                        rw [e_f9] at hZ
                        rcases h_f9 with ⟨kf, hkf, e_f, ekf⟩ | ⟨hno, e_f⟩
                        · skip
                          refine q_topi (y := nI kf) e_f ?_
                          have hSk : ∀ y, sB (kM P N ja) za (kM P N jb) (k + 1) y ↔ sB (kM P N ja) za (kM P N jb) k y := sB_k hkf ekf
                          refine lv_if_ge (tgt := 163) hx hb d_Mod_both_84 (by decide) (fun h84 => ?_) (fun h84 => ?_)
                          · skip
                            have h84 : 0 ≤ kf := (nI_leI (a := 0) (b := kf) (by omega) (by omega)).mp h84
                            refine lv_iinc (v := (nI (k + 1))) (lv' := [(6, .int (nI (k + 1))), (8, .long (N ((64 * jb) + k))), (7, .int (P ((64 * jb) + k))), (4, .int (nI 1)), (5, .int (nI jb)), (0, .ref (ad 43)), (1, .int (nI ja)), (2, .int (nI jb)), (3, .int (nI hw))]) hx hb d_Mod_both_163 hl (k := 4) rfl (nI_1 _) (by decide) rfl (fun ls hl => ?_)
                            refine lv_goto (tgt := 28) hx hb d_Mod_both_166 (by decide) ?_
                            exact ih28b (k + 1) rm rP rN rA bd u _ _ _ (by omega) (by omega) hM (rw_k hrow hSk) (by omega) (bz_k hbd hSk) hfr hZ (lv_sub hl [3, 4, 0, 5, 6, 7, 8] rfl)
                          · skip
                            have h84 : kf < 0 := Nat.lt_of_not_le (fun z9 => h84 ((nI_leI (a := 0) (b := kf) (by omega) (by omega)).mpr z9))
                            exact absurd h84 (by omega)
                        · skip
                          refine q_topi (y := -1) e_f ?_
                          refine lv_if_ge (tgt := 163) hx hb d_Mod_both_84 (by decide) (fun h84 => ?_) (fun h84 => ?_)
                          · skip
                            exact absurd h84 (by decide)
                          · skip
                            refine lv_aload_n hx hb d_Mod_both_87 rfl (lv_at hl 5 rfl) ?_
                            refine lv_iload_n hx hb d_Mod_both_88 rfl (lv_at hl 6 rfl) ?_
                            refine lv_iload hx hb d_Mod_both_89 (lv_at hl 1 rfl) ?_
                            refine lv_lload hx hb d_Mod_both_91 (lv_at hl 0 rfl) ?_
                            refine q_calll (va_runV (As := [.int (nI ja), .int (P ((64 * jb) + k)), .long (N ((64 * jb) + k))]) (rest := []) ⟨hx, hb, hml, hown, hts⟩ (c_Mod_valueOf l dC dI cI cL cB ad N0 u t mn P N A (nI rm) rP rN rA bd ja za (F ja) (P (64 * jb + k)) (N (64 * jb + k)) hM hja hza hmna hRa) (cwV 3 hts (gI_V k_485 k_482 k_484 k_10 k_24) rfl rfl rfl (by decide +kernel) ⟨Nat.le_of_ble_eq_true rfl, Nat.le_of_ble_eq_true rfl⟩) (q_preV hK hAm hZ hN [.int (nI ja), .int (P ((64 * jb) + k)), .long (N ((64 * jb) + k))] (43) 3 (by decide) hM.1 rfl) rfl rfl hl.1 rfl (lv_room (Nat.le_of_ble_eq_true rfl)) d_Mod_both_93 ⟨Nat.zero_le _, Nat.zero_le _⟩) hZ (fun t9 u_t9 H locs h_t9 hZ => ?_)
                            obtain ⟨e_t9, h_t9⟩ := h_t9
                            rw [e_t9] at hZ
                            refine q_topl (y := F ja (kM P N jb k)) h_t9 ?_
                            refine lv_lstore (lv' := [(10, .long (F ja (kM P N jb k))), (8, .long (N ((64 * jb) + k))), (7, .int (P ((64 * jb) + k))), (4, .int (nI 1)), (5, .int (nI jb)), (6, .int (nI k)), (0, .ref (ad 43)), (1, .int (nI ja)), (2, .int (nI jb)), (3, .int (nI hw))]) hx hb d_Mod_both_96 hl (by decide) rfl (fun ls hl => ?_)
                            refine lv_aload_n hx hb d_Mod_both_98 rfl (lv_at hl 6 rfl) ?_
                            refine lv_iload_n hx hb d_Mod_both_99 rfl (lv_at hl 8 rfl) ?_
                            refine lv_iload hx hb d_Mod_both_100 (lv_at hl 2 rfl) ?_
                            refine lv_lload hx hb d_Mod_both_102 (lv_at hl 1 rfl) ?_
                            refine q_calll (va_runV (As := [.int (nI jb), .int (P ((64 * jb) + k)), .long (N ((64 * jb) + k))]) (rest := []) ⟨hx, hb, hml, hown, hts⟩ (c_Mod_valueOf l dC dI cI cL cB ad N0 u t mn P N A (nI rm) rP rN rA bd jb zb (F jb) (P (64 * jb + k)) (N (64 * jb + k)) hM hjb hzb hmnb hRb) (cwV 3 hts (gI_V k_485 k_482 k_484 k_10 k_24) rfl rfl rfl (by decide +kernel) ⟨Nat.le_of_ble_eq_true rfl, Nat.le_of_ble_eq_true rfl⟩) (q_preV hK hAm hZ hN [.int (nI jb), .int (P ((64 * jb) + k)), .long (N ((64 * jb) + k))] (43) 3 (by decide) hM.1 rfl) rfl rfl hl.1 rfl (lv_room (Nat.le_of_ble_eq_true rfl)) d_Mod_both_104 ⟨Nat.zero_le _, Nat.zero_le _⟩) hZ (fun t9 u_t9 H locs h_t9 hZ => ?_)
                            obtain ⟨e_t9, h_t9⟩ := h_t9
                            rw [e_t9] at hZ
                            refine q_topl (y := F jb (kM P N jb k)) h_t9 ?_
                            refine lv_lstore (lv' := [(12, .long (F jb (kM P N jb k))), (10, .long (F ja (kM P N jb k))), (8, .long (N ((64 * jb) + k))), (7, .int (P ((64 * jb) + k))), (4, .int (nI 1)), (5, .int (nI jb)), (6, .int (nI k)), (0, .ref (ad 43)), (1, .int (nI ja)), (2, .int (nI jb)), (3, .int (nI hw))]) hx hb d_Mod_both_107 hl (by decide) rfl (fun ls hl => ?_)
                            refine lv_aload_n hx hb d_Mod_both_109 rfl (lv_at hl 7 rfl) ?_
                            refine lv_iload hx hb d_Mod_both_110 (lv_at hl 3 rfl) ?_
                            refine lv_lload hx hb d_Mod_both_112 (lv_at hl 2 rfl) ?_
                            refine lv_iload_n hx hb d_Mod_both_114 rfl (lv_at hl 10 rfl) ?_
                            refine lv_if_ne (tgt := 129) hx hb d_Mod_both_115 (by decide) (fun h115 => ?_) (fun h115 => ?_)
                            · skip
                              have h115 : ¬ hw = 0 := fun z9 => h115 ((nI_eq (a := hw) (b := 0) (by omega) (by omega)).mpr z9)
                              refine lv_iload_n hx hb d_Mod_both_129 rfl (lv_at hl 10 rfl) ?_
                              refine lv_iconst (v := (nI 1)) hx hb d_Mod_both_130 rfl ?_
                              refine lv_icmp_ne (tgt := 145) hx hb d_Mod_both_131 (by decide) (fun h131 => ?_) (fun h131 => ?_)
                              · skip
                                have h131 : ¬ hw = 1 := fun z9 => h131 ((nI_eq (a := hw) (b := 1) (by omega) (by omega)).mpr z9)
                                refine lv_lload hx hb d_Mod_both_145 (lv_at hl 1 rfl) ?_
                                refine lv_lload hx hb d_Mod_both_147 (lv_at hl 0 rfl) ?_
                                refine W.lcmp hx hb d_Mod_both_149 ?_
                                refine lv_if_ge (tgt := 158) hx hb d_Mod_both_150 (by decide) (fun h150 => ?_) (fun h150 => ?_)
                                · skip
                                  rw [lg_cmp_ge] at h150
                                  refine lv_lload hx hb d_Mod_both_158 (lv_at hl 0 rfl) ?_
                                  have hbd2 : bZ bd (bd = 0 ∧ fH hw (F ja (kM P N jb k)) (F jb (kM P N jb k))) := ⟨fun y => ⟨y, fH_2 hw h115 h131 _ _⟩, fun y => y.1⟩
                                  refine q_topl (y := gH hw (F ja) (F jb) (kM P N jb k)) (gH_2a h115 h131 h150) ?_
                                  refine q_callv (va_runV (As := [.int (P ((64 * jb) + k)), .long (N ((64 * jb) + k)), .long (gH hw (F ja) (F jb) (kM P N jb k))]) (rest := []) ⟨hx, hb, hml, hown, hts⟩ (c_Mod_lay l dC dI cI cL cB ad N0 u t mn P N A rm rP rN rA bd (P (64 * jb + k)) (N (64 * jb + k)) (gH hw (F ja) (F jb) (kM P N jb k)) hM (by omega)) (cwV 3 hts (gI_V k_511 k_508 k_510 k_15 k_24) rfl rfl rfl (by decide +kernel) ⟨Nat.le_of_ble_eq_true rfl, Nat.le_of_ble_eq_true rfl⟩) (q_preV hK hAm hZ hN [.int (P ((64 * jb) + k)), .long (N ((64 * jb) + k)), .long (gH hw (F ja) (F jb) (kM P N jb k))] (43) 3 (by decide) hM.1 rfl) rfl rfl hl.1 rfl (lv_room (Nat.le_of_ble_eq_true rfl)) d_Mod_both_160 ⟨Nat.zero_le _, Nat.zero_le _⟩) hZ (fun u_y9 H locs h_y9 hZ => ?_)
                                  obtain ⟨hf3, h_y9⟩ := h_y9
                                  have hfr := fr_tr hfr hf3 (Nat.le_refl _) (Nat.le_refl _)
                                  rcases h_y9 with ⟨hv9, e_y9⟩ | ⟨hv9, hM⟩
                                  · skip
                                    rw [e_y9] at hZ
                                    have hfr : fr w u 43 50 := by rw [e_y9] at hfr; exact hfr
                                    refine lv_iinc (v := (nI (k + 1))) (lv' := [(6, .int (nI (k + 1))), (12, .long (F jb (kM P N jb k))), (10, .long (F ja (kM P N jb k))), (8, .long (N ((64 * jb) + k))), (7, .int (P ((64 * jb) + k))), (4, .int (nI 1)), (5, .int (nI jb)), (0, .ref (ad 43)), (1, .int (nI ja)), (2, .int (nI jb)), (3, .int (nI hw))]) hx hb d_Mod_both_163 hl (k := 6) rfl (nI_1 _) (by decide) rfl (fun ls hl => ?_)
                                    refine lv_goto (tgt := 28) hx hb d_Mod_both_166 (by decide) ?_
                                    exact ih28b (k + 1) rm rP rN rA bd u _ _ _ (by omega) (by omega) hM (rw_n hrow (sB_s (b := kM P N jb)) hv9) (by omega) (bz_s hbd hbd2 (sB_s (b := kM P N jb))) hfr hZ (lv_sub hl [5, 6, 0, 7, 8, 9, 10] rfl)
                                  · skip
                                    refine lv_iinc (v := (nI (k + 1))) (lv' := [(6, .int (nI (k + 1))), (12, .long (F jb (kM P N jb k))), (10, .long (F ja (kM P N jb k))), (8, .long (N ((64 * jb) + k))), (7, .int (P ((64 * jb) + k))), (4, .int (nI 1)), (5, .int (nI jb)), (0, .ref (ad 43)), (1, .int (nI ja)), (2, .int (nI jb)), (3, .int (nI hw))]) hx hb d_Mod_both_163 hl (k := 6) rfl (nI_1 _) (by decide) rfl (fun ls hl => ?_)
                                    refine lv_goto (tgt := 28) hx hb d_Mod_both_166 (by decide) ?_
                                    exact ih28b (k + 1) (rm + 1) _ _ _ bd u_y9 _ _ _ (by omega) (by omega) hM (rw_y hrow (sB_s (b := kM P N jb)) (sB_f hno hRb.1 h37) hv9) (by omega) (bz_s hbd hbd2 (sB_s (b := kM P N jb))) hfr hZ (lv_sub hl [5, 6, 0, 7, 8, 9, 10] rfl)
                                · skip
                                  rw [lg_cmp_ge] at h150
                                  refine lv_lload hx hb d_Mod_both_153 (lv_at hl 1 rfl) ?_
                                  refine lv_goto (tgt := 160) hx hb d_Mod_both_155 (by decide) ?_
                                  have hbd2 : bZ bd (bd = 0 ∧ fH hw (F ja (kM P N jb k)) (F jb (kM P N jb k))) := ⟨fun y => ⟨y, fH_2 hw h115 h131 _ _⟩, fun y => y.1⟩
                                  refine q_topl (y := gH hw (F ja) (F jb) (kM P N jb k)) (gH_2b h115 h131 h150) ?_
                                  refine q_callv (va_runV (As := [.int (P ((64 * jb) + k)), .long (N ((64 * jb) + k)), .long (gH hw (F ja) (F jb) (kM P N jb k))]) (rest := []) ⟨hx, hb, hml, hown, hts⟩ (c_Mod_lay l dC dI cI cL cB ad N0 u t mn P N A rm rP rN rA bd (P (64 * jb + k)) (N (64 * jb + k)) (gH hw (F ja) (F jb) (kM P N jb k)) hM (by omega)) (cwV 3 hts (gI_V k_511 k_508 k_510 k_15 k_24) rfl rfl rfl (by decide +kernel) ⟨Nat.le_of_ble_eq_true rfl, Nat.le_of_ble_eq_true rfl⟩) (q_preV hK hAm hZ hN [.int (P ((64 * jb) + k)), .long (N ((64 * jb) + k)), .long (gH hw (F ja) (F jb) (kM P N jb k))] (43) 3 (by decide) hM.1 rfl) rfl rfl hl.1 rfl (lv_room (Nat.le_of_ble_eq_true rfl)) d_Mod_both_160 ⟨Nat.zero_le _, Nat.zero_le _⟩) hZ (fun u_y9 H locs h_y9 hZ => ?_)
                                  obtain ⟨hf3, h_y9⟩ := h_y9
                                  have hfr := fr_tr hfr hf3 (Nat.le_refl _) (Nat.le_refl _)
                                  rcases h_y9 with ⟨hv9, e_y9⟩ | ⟨hv9, hM⟩
                                  · skip
                                    rw [e_y9] at hZ
                                    have hfr : fr w u 43 50 := by rw [e_y9] at hfr; exact hfr
                                    refine lv_iinc (v := (nI (k + 1))) (lv' := [(6, .int (nI (k + 1))), (12, .long (F jb (kM P N jb k))), (10, .long (F ja (kM P N jb k))), (8, .long (N ((64 * jb) + k))), (7, .int (P ((64 * jb) + k))), (4, .int (nI 1)), (5, .int (nI jb)), (0, .ref (ad 43)), (1, .int (nI ja)), (2, .int (nI jb)), (3, .int (nI hw))]) hx hb d_Mod_both_163 hl (k := 6) rfl (nI_1 _) (by decide) rfl (fun ls hl => ?_)
                                    refine lv_goto (tgt := 28) hx hb d_Mod_both_166 (by decide) ?_
                                    exact ih28b (k + 1) rm rP rN rA bd u _ _ _ (by omega) (by omega) hM (rw_n hrow (sB_s (b := kM P N jb)) hv9) (by omega) (bz_s hbd hbd2 (sB_s (b := kM P N jb))) hfr hZ (lv_sub hl [5, 6, 0, 7, 8, 9, 10] rfl)
                                  · skip
                                    refine lv_iinc (v := (nI (k + 1))) (lv' := [(6, .int (nI (k + 1))), (12, .long (F jb (kM P N jb k))), (10, .long (F ja (kM P N jb k))), (8, .long (N ((64 * jb) + k))), (7, .int (P ((64 * jb) + k))), (4, .int (nI 1)), (5, .int (nI jb)), (0, .ref (ad 43)), (1, .int (nI ja)), (2, .int (nI jb)), (3, .int (nI hw))]) hx hb d_Mod_both_163 hl (k := 6) rfl (nI_1 _) (by decide) rfl (fun ls hl => ?_)
                                    refine lv_goto (tgt := 28) hx hb d_Mod_both_166 (by decide) ?_
                                    exact ih28b (k + 1) (rm + 1) _ _ _ bd u_y9 _ _ _ (by omega) (by omega) hM (rw_y hrow (sB_s (b := kM P N jb)) (sB_f hno hRb.1 h37) hv9) (by omega) (bz_s hbd hbd2 (sB_s (b := kM P N jb))) hfr hZ (lv_sub hl [5, 6, 0, 7, 8, 9, 10] rfl)
                              · skip
                                have h131 : hw = 1 := (nI_eq (a := hw) (b := 1) (by omega) (by omega)).mp h131
                                refine lv_aload_n hx hb d_Mod_both_134 rfl (lv_at hl 7 rfl) ?_
                                refine lv_lload hx hb d_Mod_both_135 (lv_at hl 1 rfl) ?_
                                refine lv_lload hx hb d_Mod_both_137 (lv_at hl 0 rfl) ?_
                                refine q_calll (va_runV (As := [.long (F ja (kM P N jb k)), .long (F jb (kM P N jb k))]) (rest := [.long (N ((64 * jb) + k)), .int (P ((64 * jb) + k)), .ref (ad 43)]) ⟨hx, hb, hml, hown, hts⟩ (c_Mod_subtracted l dC dI cI cL cB ad N0 u t mn P N A (nI rm) rP rN rA bd (F ja (kM P N jb k)) (F jb (kM P N jb k)) hM) (cwV 2 hts (gI_V k_507 k_504 k_506 k_14 k_24) rfl rfl rfl (by decide +kernel) ⟨Nat.le_of_ble_eq_true rfl, Nat.le_of_ble_eq_true rfl⟩) (q_preV hK hAm hZ hN [.long (F ja (kM P N jb k)), .long (F jb (kM P N jb k))] (43) 3 (by decide) hM.1 rfl) rfl rfl hl.1 rfl (lv_room (Nat.le_of_ble_eq_true rfl)) d_Mod_both_139 ⟨Nat.zero_le _, Nat.zero_le _⟩) hZ (fun a9 u_a9 H locs h_a9 hZ => ?_)
                                obtain ⟨hf2, e_a, b2, hM, hb2⟩ := h_a9
                                have hfr := fr_tr hfr hf2 (Nat.le_refl _) (Nat.le_refl _)
                                have hbd2 : bZ b2 (bd = 0 ∧ fH hw (F ja (kM P N jb k)) (F jb (kM P N jb k))) := by rw [h131]; exact hb2
                                refine q_topl (y := gH hw (F ja) (F jb) (kM P N jb k)) (e_a.trans (gH_1 h131)) ?_
                                refine lv_goto (tgt := 160) hx hb d_Mod_both_142 (by decide) ?_
                                refine q_callv (va_runV (As := [.int (P ((64 * jb) + k)), .long (N ((64 * jb) + k)), .long (gH hw (F ja) (F jb) (kM P N jb k))]) (rest := []) ⟨hx, hb, hml, hown, hts⟩ (c_Mod_lay l dC dI cI cL cB ad N0 u_a9 t mn P N A rm rP rN rA b2 (P (64 * jb + k)) (N (64 * jb + k)) (gH hw (F ja) (F jb) (kM P N jb k)) hM (by omega)) (cwV 3 hts (gI_V k_511 k_508 k_510 k_15 k_24) rfl rfl rfl (by decide +kernel) ⟨Nat.le_of_ble_eq_true rfl, Nat.le_of_ble_eq_true rfl⟩) (q_preV hK hAm hZ hN [.int (P ((64 * jb) + k)), .long (N ((64 * jb) + k)), .long (gH hw (F ja) (F jb) (kM P N jb k))] (43) 3 (by decide) hM.1 rfl) rfl rfl hl.1 rfl (lv_room (Nat.le_of_ble_eq_true rfl)) d_Mod_both_160 ⟨Nat.zero_le _, Nat.zero_le _⟩) hZ (fun u_y9 H locs h_y9 hZ => ?_)
                                obtain ⟨hf3, h_y9⟩ := h_y9
                                have hfr := fr_tr hfr hf3 (Nat.le_refl _) (Nat.le_refl _)
                                rcases h_y9 with ⟨hv9, e_y9⟩ | ⟨hv9, hM⟩
                                · skip
                                  rw [e_y9] at hZ
                                  have hfr : fr w u_a9 43 50 := by rw [e_y9] at hfr; exact hfr
                                  refine lv_iinc (v := (nI (k + 1))) (lv' := [(6, .int (nI (k + 1))), (12, .long (F jb (kM P N jb k))), (10, .long (F ja (kM P N jb k))), (8, .long (N ((64 * jb) + k))), (7, .int (P ((64 * jb) + k))), (4, .int (nI 1)), (5, .int (nI jb)), (0, .ref (ad 43)), (1, .int (nI ja)), (2, .int (nI jb)), (3, .int (nI hw))]) hx hb d_Mod_both_163 hl (k := 6) rfl (nI_1 _) (by decide) rfl (fun ls hl => ?_)
                                  refine lv_goto (tgt := 28) hx hb d_Mod_both_166 (by decide) ?_
                                  exact ih28b (k + 1) rm rP rN rA b2 u_a9 _ _ _ (by omega) (by omega) hM (rw_n hrow (sB_s (b := kM P N jb)) hv9) (by omega) (bz_s hbd hbd2 (sB_s (b := kM P N jb))) hfr hZ (lv_sub hl [5, 6, 0, 7, 8, 9, 10] rfl)
                                · skip
                                  refine lv_iinc (v := (nI (k + 1))) (lv' := [(6, .int (nI (k + 1))), (12, .long (F jb (kM P N jb k))), (10, .long (F ja (kM P N jb k))), (8, .long (N ((64 * jb) + k))), (7, .int (P ((64 * jb) + k))), (4, .int (nI 1)), (5, .int (nI jb)), (0, .ref (ad 43)), (1, .int (nI ja)), (2, .int (nI jb)), (3, .int (nI hw))]) hx hb d_Mod_both_163 hl (k := 6) rfl (nI_1 _) (by decide) rfl (fun ls hl => ?_)
                                  refine lv_goto (tgt := 28) hx hb d_Mod_both_166 (by decide) ?_
                                  exact ih28b (k + 1) (rm + 1) _ _ _ b2 u_y9 _ _ _ (by omega) (by omega) hM (rw_y hrow (sB_s (b := kM P N jb)) (sB_f hno hRb.1 h37) hv9) (by omega) (bz_s hbd hbd2 (sB_s (b := kM P N jb))) hfr hZ (lv_sub hl [5, 6, 0, 7, 8, 9, 10] rfl)
                            · skip
                              have h115 : hw = 0 := (nI_eq (a := hw) (b := 0) (by omega) (by omega)).mp h115
                              refine lv_aload_n hx hb d_Mod_both_118 rfl (lv_at hl 7 rfl) ?_
                              refine lv_lload hx hb d_Mod_both_119 (lv_at hl 1 rfl) ?_
                              refine lv_lload hx hb d_Mod_both_121 (lv_at hl 0 rfl) ?_
                              refine q_calll (va_runV (As := [.long (F ja (kM P N jb k)), .long (F jb (kM P N jb k))]) (rest := [.long (N ((64 * jb) + k)), .int (P ((64 * jb) + k)), .ref (ad 43)]) ⟨hx, hb, hml, hown, hts⟩ (c_Mod_added l dC dI cI cL cB ad N0 u t mn P N A (nI rm) rP rN rA bd (F ja (kM P N jb k)) (F jb (kM P N jb k)) hM) (cwV 2 hts (gI_V k_489 k_486 k_488 k_11 k_24) rfl rfl rfl (by decide +kernel) ⟨Nat.le_of_ble_eq_true rfl, Nat.le_of_ble_eq_true rfl⟩) (q_preV hK hAm hZ hN [.long (F ja (kM P N jb k)), .long (F jb (kM P N jb k))] (43) 3 (by decide) hM.1 rfl) rfl rfl hl.1 rfl (lv_room (Nat.le_of_ble_eq_true rfl)) d_Mod_both_123 ⟨Nat.zero_le _, Nat.zero_le _⟩) hZ (fun a9 u_a9 H locs h_a9 hZ => ?_)
                              obtain ⟨hf2, e_a, b2, hM, hb2⟩ := h_a9
                              have hfr := fr_tr hfr hf2 (Nat.le_refl _) (Nat.le_refl _)
                              have hbd2 : bZ b2 (bd = 0 ∧ fH hw (F ja (kM P N jb k)) (F jb (kM P N jb k))) := by rw [h115]; exact hb2
                              refine q_topl (y := gH hw (F ja) (F jb) (kM P N jb k)) (e_a.trans (gH_0 h115)) ?_
                              refine lv_goto (tgt := 160) hx hb d_Mod_both_126 (by decide) ?_
                              refine q_callv (va_runV (As := [.int (P ((64 * jb) + k)), .long (N ((64 * jb) + k)), .long (gH hw (F ja) (F jb) (kM P N jb k))]) (rest := []) ⟨hx, hb, hml, hown, hts⟩ (c_Mod_lay l dC dI cI cL cB ad N0 u_a9 t mn P N A rm rP rN rA b2 (P (64 * jb + k)) (N (64 * jb + k)) (gH hw (F ja) (F jb) (kM P N jb k)) hM (by omega)) (cwV 3 hts (gI_V k_511 k_508 k_510 k_15 k_24) rfl rfl rfl (by decide +kernel) ⟨Nat.le_of_ble_eq_true rfl, Nat.le_of_ble_eq_true rfl⟩) (q_preV hK hAm hZ hN [.int (P ((64 * jb) + k)), .long (N ((64 * jb) + k)), .long (gH hw (F ja) (F jb) (kM P N jb k))] (43) 3 (by decide) hM.1 rfl) rfl rfl hl.1 rfl (lv_room (Nat.le_of_ble_eq_true rfl)) d_Mod_both_160 ⟨Nat.zero_le _, Nat.zero_le _⟩) hZ (fun u_y9 H locs h_y9 hZ => ?_)
                              obtain ⟨hf3, h_y9⟩ := h_y9
                              have hfr := fr_tr hfr hf3 (Nat.le_refl _) (Nat.le_refl _)
                              rcases h_y9 with ⟨hv9, e_y9⟩ | ⟨hv9, hM⟩
                              · skip
                                rw [e_y9] at hZ
                                have hfr : fr w u_a9 43 50 := by rw [e_y9] at hfr; exact hfr
                                refine lv_iinc (v := (nI (k + 1))) (lv' := [(6, .int (nI (k + 1))), (12, .long (F jb (kM P N jb k))), (10, .long (F ja (kM P N jb k))), (8, .long (N ((64 * jb) + k))), (7, .int (P ((64 * jb) + k))), (4, .int (nI 1)), (5, .int (nI jb)), (0, .ref (ad 43)), (1, .int (nI ja)), (2, .int (nI jb)), (3, .int (nI hw))]) hx hb d_Mod_both_163 hl (k := 6) rfl (nI_1 _) (by decide) rfl (fun ls hl => ?_)
                                refine lv_goto (tgt := 28) hx hb d_Mod_both_166 (by decide) ?_
                                exact ih28b (k + 1) rm rP rN rA b2 u_a9 _ _ _ (by omega) (by omega) hM (rw_n hrow (sB_s (b := kM P N jb)) hv9) (by omega) (bz_s hbd hbd2 (sB_s (b := kM P N jb))) hfr hZ (lv_sub hl [5, 6, 0, 7, 8, 9, 10] rfl)
                              · skip
                                refine lv_iinc (v := (nI (k + 1))) (lv' := [(6, .int (nI (k + 1))), (12, .long (F jb (kM P N jb k))), (10, .long (F ja (kM P N jb k))), (8, .long (N ((64 * jb) + k))), (7, .int (P ((64 * jb) + k))), (4, .int (nI 1)), (5, .int (nI jb)), (0, .ref (ad 43)), (1, .int (nI ja)), (2, .int (nI jb)), (3, .int (nI hw))]) hx hb d_Mod_both_163 hl (k := 6) rfl (nI_1 _) (by decide) rfl (fun ls hl => ?_)
                                refine lv_goto (tgt := 28) hx hb d_Mod_both_166 (by decide) ?_
                                exact ih28b (k + 1) (rm + 1) _ _ _ b2 u_y9 _ _ _ (by omega) (by omega) hM (rw_y hrow (sB_s (b := kM P N jb)) (sB_f hno hRb.1 h37) hv9) (by omega) (bz_s hbd hbd2 (sB_s (b := kM P N jb))) hfr hZ (lv_sub hl [5, 6, 0, 7, 8, 9, 10] rfl)
                exact loop28b (zb + 1) 0 rm rP rN rA bd u _ _ _ (Nat.zero_le zb) (by omega) hM (rw_k hrow sB_0) (by omega) (bz_k hbd sB_0) hfr hZ (lv_sub hl [2, 1, 0, 3, 4, 5, 6] rfl)
              · skip
                have h15 : 1 = 0 := (nI_eq (a := 1) (b := 0) (by omega) (by omega)).mp h15
                exact absurd h15 (by decide)
          · skip
            have h37 : k < za := Nat.lt_of_not_le (fun z9 => h37 ((nI_leI (a := za) (b := k) (by omega) (by omega)).mpr z9))
            refine lv_aload_n hx hb d_Mod_both_40 rfl (lv_at hl 3 rfl) ?_
            refine q_get (C := R_Mod) (T := T_Mod) (N := 10) hx hb hts (fun w h => gm (inT_Mod w h)) hown hK hZ (43) (by decide) hM.1 rfl 2 (by decide) (hts _ (gm k_422)) (fun _ h9 => h9) rfl d_Mod_both_41 ?_
            refine lv_bipush (v := (nI 64)) hx hb d_Mod_both_44 rfl ?_
            refine lv_iload hx hb d_Mod_both_46 (lv_at hl 1 rfl) ?_
            refine lv_imul hx hb d_Mod_both_48 ?_
            refine q_topi (y := nI (64 * ja)) (pk_mul _ _) ?_
            refine lv_iload hx hb d_Mod_both_49 (lv_at hl 2 rfl) ?_
            refine lv_iadd hx hb d_Mod_both_51 ?_
            refine q_topi (y := nI ((64 * ja) + k)) (nI_add _ _) ?_
            refine q_iald hx hb hK hZ (45) 0 (((64 * ja) + k)) (by decide) hM.2.2.1 rfl rfl (by omega) (by decide) d_Mod_both_52 ?_
            refine lv_istore (lv' := [(7, .int (P ((64 * ja) + k))), (4, .int (nI 0)), (5, .int (nI ja)), (6, .int (nI k)), (0, .ref (ad 43)), (1, .int (nI ja)), (2, .int (nI jb)), (3, .int (nI hw))]) hx hb d_Mod_both_53 hl (by decide) rfl (fun ls hl => ?_)
            refine lv_aload_n hx hb d_Mod_both_55 rfl (lv_at hl 4 rfl) ?_
            refine q_get (C := R_Mod) (T := T_Mod) (N := 10) hx hb hts (fun w h => gm (inT_Mod w h)) hown hK hZ (43) (by decide) hM.1 rfl 3 (by decide) (hts _ (gm k_423)) (fun _ h9 => h9) rfl d_Mod_both_56 ?_
            refine lv_bipush (v := (nI 64)) hx hb d_Mod_both_59 rfl ?_
            refine lv_iload hx hb d_Mod_both_61 (lv_at hl 2 rfl) ?_
            refine lv_imul hx hb d_Mod_both_63 ?_
            refine q_topi (y := nI (64 * ja)) (pk_mul _ _) ?_
            refine lv_iload hx hb d_Mod_both_64 (lv_at hl 3 rfl) ?_
            refine lv_iadd hx hb d_Mod_both_66 ?_
            refine q_topi (y := nI ((64 * ja) + k)) (nI_add _ _) ?_
            refine q_lald hx hb hK hZ (46) 1 (((64 * ja) + k)) (by decide) hM.2.2.2.1 rfl rfl (by omega) (by decide) d_Mod_both_67 ?_
            refine lv_lstore (lv' := [(8, .long (N ((64 * ja) + k))), (7, .int (P ((64 * ja) + k))), (4, .int (nI 0)), (5, .int (nI ja)), (6, .int (nI k)), (0, .ref (ad 43)), (1, .int (nI ja)), (2, .int (nI jb)), (3, .int (nI hw))]) hx hb d_Mod_both_68 hl (by decide) rfl (fun ls hl => ?_)
            refine lv_iload hx hb d_Mod_both_70 (lv_at hl 2 rfl) ?_
            refine lv_if_eq (tgt := 87) hx hb d_Mod_both_72 (by decide) (fun h72 => ?_) (fun h72 => ?_)
            · skip
              have h72 : 0 = 0 := (nI_eq (a := 0) (b := 0) (by omega) (by omega)).mp h72
              refine lv_aload_n hx hb d_Mod_both_87 rfl (lv_at hl 5 rfl) ?_
              refine lv_iload_n hx hb d_Mod_both_88 rfl (lv_at hl 6 rfl) ?_
              refine lv_iload hx hb d_Mod_both_89 (lv_at hl 1 rfl) ?_
              refine lv_lload hx hb d_Mod_both_91 (lv_at hl 0 rfl) ?_
              refine q_calll (va_runV (As := [.int (nI ja), .int (P ((64 * ja) + k)), .long (N ((64 * ja) + k))]) (rest := []) ⟨hx, hb, hml, hown, hts⟩ (c_Mod_valueOf l dC dI cI cL cB ad N0 u t mn P N A (nI rm) rP rN rA bd ja za (F ja) (P (64 * ja + k)) (N (64 * ja + k)) hM hja hza hmna hRa) (cwV 3 hts (gI_V k_485 k_482 k_484 k_10 k_24) rfl rfl rfl (by decide +kernel) ⟨Nat.le_of_ble_eq_true rfl, Nat.le_of_ble_eq_true rfl⟩) (q_preV hK hAm hZ hN [.int (nI ja), .int (P ((64 * ja) + k)), .long (N ((64 * ja) + k))] (43) 3 (by decide) hM.1 rfl) rfl rfl hl.1 rfl (lv_room (Nat.le_of_ble_eq_true rfl)) d_Mod_both_93 ⟨Nat.zero_le _, Nat.zero_le _⟩) hZ (fun t9 u_t9 H locs h_t9 hZ => ?_)
              obtain ⟨e_t9, h_t9⟩ := h_t9
              rw [e_t9] at hZ
              refine q_topl (y := F ja (kM P N ja k)) h_t9 ?_
              refine lv_lstore (lv' := [(10, .long (F ja (kM P N ja k))), (8, .long (N ((64 * ja) + k))), (7, .int (P ((64 * ja) + k))), (4, .int (nI 0)), (5, .int (nI ja)), (6, .int (nI k)), (0, .ref (ad 43)), (1, .int (nI ja)), (2, .int (nI jb)), (3, .int (nI hw))]) hx hb d_Mod_both_96 hl (by decide) rfl (fun ls hl => ?_)
              refine lv_aload_n hx hb d_Mod_both_98 rfl (lv_at hl 6 rfl) ?_
              refine lv_iload_n hx hb d_Mod_both_99 rfl (lv_at hl 8 rfl) ?_
              refine lv_iload hx hb d_Mod_both_100 (lv_at hl 2 rfl) ?_
              refine lv_lload hx hb d_Mod_both_102 (lv_at hl 1 rfl) ?_
              refine q_calll (va_runV (As := [.int (nI jb), .int (P ((64 * ja) + k)), .long (N ((64 * ja) + k))]) (rest := []) ⟨hx, hb, hml, hown, hts⟩ (c_Mod_valueOf l dC dI cI cL cB ad N0 u t mn P N A (nI rm) rP rN rA bd jb zb (F jb) (P (64 * ja + k)) (N (64 * ja + k)) hM hjb hzb hmnb hRb) (cwV 3 hts (gI_V k_485 k_482 k_484 k_10 k_24) rfl rfl rfl (by decide +kernel) ⟨Nat.le_of_ble_eq_true rfl, Nat.le_of_ble_eq_true rfl⟩) (q_preV hK hAm hZ hN [.int (nI jb), .int (P ((64 * ja) + k)), .long (N ((64 * ja) + k))] (43) 3 (by decide) hM.1 rfl) rfl rfl hl.1 rfl (lv_room (Nat.le_of_ble_eq_true rfl)) d_Mod_both_104 ⟨Nat.zero_le _, Nat.zero_le _⟩) hZ (fun t9 u_t9 H locs h_t9 hZ => ?_)
              obtain ⟨e_t9, h_t9⟩ := h_t9
              rw [e_t9] at hZ
              refine q_topl (y := F jb (kM P N ja k)) h_t9 ?_
              refine lv_lstore (lv' := [(12, .long (F jb (kM P N ja k))), (10, .long (F ja (kM P N ja k))), (8, .long (N ((64 * ja) + k))), (7, .int (P ((64 * ja) + k))), (4, .int (nI 0)), (5, .int (nI ja)), (6, .int (nI k)), (0, .ref (ad 43)), (1, .int (nI ja)), (2, .int (nI jb)), (3, .int (nI hw))]) hx hb d_Mod_both_107 hl (by decide) rfl (fun ls hl => ?_)
              refine lv_aload_n hx hb d_Mod_both_109 rfl (lv_at hl 7 rfl) ?_
              refine lv_iload hx hb d_Mod_both_110 (lv_at hl 3 rfl) ?_
              refine lv_lload hx hb d_Mod_both_112 (lv_at hl 2 rfl) ?_
              refine lv_iload_n hx hb d_Mod_both_114 rfl (lv_at hl 10 rfl) ?_
              refine lv_if_ne (tgt := 129) hx hb d_Mod_both_115 (by decide) (fun h115 => ?_) (fun h115 => ?_)
              · skip
                have h115 : ¬ hw = 0 := fun z9 => h115 ((nI_eq (a := hw) (b := 0) (by omega) (by omega)).mpr z9)
                refine lv_iload_n hx hb d_Mod_both_129 rfl (lv_at hl 10 rfl) ?_
                refine lv_iconst (v := (nI 1)) hx hb d_Mod_both_130 rfl ?_
                refine lv_icmp_ne (tgt := 145) hx hb d_Mod_both_131 (by decide) (fun h131 => ?_) (fun h131 => ?_)
                · skip
                  have h131 : ¬ hw = 1 := fun z9 => h131 ((nI_eq (a := hw) (b := 1) (by omega) (by omega)).mpr z9)
                  refine lv_lload hx hb d_Mod_both_145 (lv_at hl 1 rfl) ?_
                  refine lv_lload hx hb d_Mod_both_147 (lv_at hl 0 rfl) ?_
                  refine W.lcmp hx hb d_Mod_both_149 ?_
                  refine lv_if_ge (tgt := 158) hx hb d_Mod_both_150 (by decide) (fun h150 => ?_) (fun h150 => ?_)
                  · skip
                    rw [lg_cmp_ge] at h150
                    refine lv_lload hx hb d_Mod_both_158 (lv_at hl 0 rfl) ?_
                    have hbd2 : bZ bd (bd = 0 ∧ fH hw (F ja (kM P N ja k)) (F jb (kM P N ja k))) := ⟨fun y => ⟨y, fH_2 hw h115 h131 _ _⟩, fun y => y.1⟩
                    refine q_topl (y := gH hw (F ja) (F jb) (kM P N ja k)) (gH_2a h115 h131 h150) ?_
                    refine q_callv (va_runV (As := [.int (P ((64 * ja) + k)), .long (N ((64 * ja) + k)), .long (gH hw (F ja) (F jb) (kM P N ja k))]) (rest := []) ⟨hx, hb, hml, hown, hts⟩ (c_Mod_lay l dC dI cI cL cB ad N0 u t mn P N A rm rP rN rA bd (P (64 * ja + k)) (N (64 * ja + k)) (gH hw (F ja) (F jb) (kM P N ja k)) hM (by omega)) (cwV 3 hts (gI_V k_511 k_508 k_510 k_15 k_24) rfl rfl rfl (by decide +kernel) ⟨Nat.le_of_ble_eq_true rfl, Nat.le_of_ble_eq_true rfl⟩) (q_preV hK hAm hZ hN [.int (P ((64 * ja) + k)), .long (N ((64 * ja) + k)), .long (gH hw (F ja) (F jb) (kM P N ja k))] (43) 3 (by decide) hM.1 rfl) rfl rfl hl.1 rfl (lv_room (Nat.le_of_ble_eq_true rfl)) d_Mod_both_160 ⟨Nat.zero_le _, Nat.zero_le _⟩) hZ (fun u_y9 H locs h_y9 hZ => ?_)
                    obtain ⟨hf3, h_y9⟩ := h_y9
                    have hfr := fr_tr hfr hf3 (Nat.le_refl _) (Nat.le_refl _)
                    rcases h_y9 with ⟨hv9, e_y9⟩ | ⟨hv9, hM⟩
                    · skip
                      rw [e_y9] at hZ
                      have hfr : fr w u 43 50 := by rw [e_y9] at hfr; exact hfr
                      refine lv_iinc (v := (nI (k + 1))) (lv' := [(6, .int (nI (k + 1))), (12, .long (F jb (kM P N ja k))), (10, .long (F ja (kM P N ja k))), (8, .long (N ((64 * ja) + k))), (7, .int (P ((64 * ja) + k))), (4, .int (nI 0)), (5, .int (nI ja)), (0, .ref (ad 43)), (1, .int (nI ja)), (2, .int (nI jb)), (3, .int (nI hw))]) hx hb d_Mod_both_163 hl (k := 6) rfl (nI_1 _) (by decide) rfl (fun ls hl => ?_)
                      refine lv_goto (tgt := 28) hx hb d_Mod_both_166 (by decide) ?_
                      exact ih28a (k + 1) rm rP rN rA bd u _ _ _ (by omega) (by omega) hM (rw_n hrow (sU_s (k := kM P N ja)) hv9) (by omega) (bz_s hbd hbd2 (sU_s (k := kM P N ja))) hfr hZ (lv_sub hl [5, 6, 0, 7, 8, 9, 10] rfl)
                    · skip
                      refine lv_iinc (v := (nI (k + 1))) (lv' := [(6, .int (nI (k + 1))), (12, .long (F jb (kM P N ja k))), (10, .long (F ja (kM P N ja k))), (8, .long (N ((64 * ja) + k))), (7, .int (P ((64 * ja) + k))), (4, .int (nI 0)), (5, .int (nI ja)), (0, .ref (ad 43)), (1, .int (nI ja)), (2, .int (nI jb)), (3, .int (nI hw))]) hx hb d_Mod_both_163 hl (k := 6) rfl (nI_1 _) (by decide) rfl (fun ls hl => ?_)
                      refine lv_goto (tgt := 28) hx hb d_Mod_both_166 (by decide) ?_
                      exact ih28a (k + 1) (rm + 1) _ _ _ bd u_y9 _ _ _ (by omega) (by omega) hM (rw_y hrow (sU_s (k := kM P N ja)) (sU_f hRa.1 h37) hv9) (by omega) (bz_s hbd hbd2 (sU_s (k := kM P N ja))) hfr hZ (lv_sub hl [5, 6, 0, 7, 8, 9, 10] rfl)
                  · skip
                    rw [lg_cmp_ge] at h150
                    refine lv_lload hx hb d_Mod_both_153 (lv_at hl 1 rfl) ?_
                    refine lv_goto (tgt := 160) hx hb d_Mod_both_155 (by decide) ?_
                    have hbd2 : bZ bd (bd = 0 ∧ fH hw (F ja (kM P N ja k)) (F jb (kM P N ja k))) := ⟨fun y => ⟨y, fH_2 hw h115 h131 _ _⟩, fun y => y.1⟩
                    refine q_topl (y := gH hw (F ja) (F jb) (kM P N ja k)) (gH_2b h115 h131 h150) ?_
                    refine q_callv (va_runV (As := [.int (P ((64 * ja) + k)), .long (N ((64 * ja) + k)), .long (gH hw (F ja) (F jb) (kM P N ja k))]) (rest := []) ⟨hx, hb, hml, hown, hts⟩ (c_Mod_lay l dC dI cI cL cB ad N0 u t mn P N A rm rP rN rA bd (P (64 * ja + k)) (N (64 * ja + k)) (gH hw (F ja) (F jb) (kM P N ja k)) hM (by omega)) (cwV 3 hts (gI_V k_511 k_508 k_510 k_15 k_24) rfl rfl rfl (by decide +kernel) ⟨Nat.le_of_ble_eq_true rfl, Nat.le_of_ble_eq_true rfl⟩) (q_preV hK hAm hZ hN [.int (P ((64 * ja) + k)), .long (N ((64 * ja) + k)), .long (gH hw (F ja) (F jb) (kM P N ja k))] (43) 3 (by decide) hM.1 rfl) rfl rfl hl.1 rfl (lv_room (Nat.le_of_ble_eq_true rfl)) d_Mod_both_160 ⟨Nat.zero_le _, Nat.zero_le _⟩) hZ (fun u_y9 H locs h_y9 hZ => ?_)
                    obtain ⟨hf3, h_y9⟩ := h_y9
                    have hfr := fr_tr hfr hf3 (Nat.le_refl _) (Nat.le_refl _)
                    rcases h_y9 with ⟨hv9, e_y9⟩ | ⟨hv9, hM⟩
                    · skip
                      rw [e_y9] at hZ
                      have hfr : fr w u 43 50 := by rw [e_y9] at hfr; exact hfr
                      refine lv_iinc (v := (nI (k + 1))) (lv' := [(6, .int (nI (k + 1))), (12, .long (F jb (kM P N ja k))), (10, .long (F ja (kM P N ja k))), (8, .long (N ((64 * ja) + k))), (7, .int (P ((64 * ja) + k))), (4, .int (nI 0)), (5, .int (nI ja)), (0, .ref (ad 43)), (1, .int (nI ja)), (2, .int (nI jb)), (3, .int (nI hw))]) hx hb d_Mod_both_163 hl (k := 6) rfl (nI_1 _) (by decide) rfl (fun ls hl => ?_)
                      refine lv_goto (tgt := 28) hx hb d_Mod_both_166 (by decide) ?_
                      exact ih28a (k + 1) rm rP rN rA bd u _ _ _ (by omega) (by omega) hM (rw_n hrow (sU_s (k := kM P N ja)) hv9) (by omega) (bz_s hbd hbd2 (sU_s (k := kM P N ja))) hfr hZ (lv_sub hl [5, 6, 0, 7, 8, 9, 10] rfl)
                    · skip
                      refine lv_iinc (v := (nI (k + 1))) (lv' := [(6, .int (nI (k + 1))), (12, .long (F jb (kM P N ja k))), (10, .long (F ja (kM P N ja k))), (8, .long (N ((64 * ja) + k))), (7, .int (P ((64 * ja) + k))), (4, .int (nI 0)), (5, .int (nI ja)), (0, .ref (ad 43)), (1, .int (nI ja)), (2, .int (nI jb)), (3, .int (nI hw))]) hx hb d_Mod_both_163 hl (k := 6) rfl (nI_1 _) (by decide) rfl (fun ls hl => ?_)
                      refine lv_goto (tgt := 28) hx hb d_Mod_both_166 (by decide) ?_
                      exact ih28a (k + 1) (rm + 1) _ _ _ bd u_y9 _ _ _ (by omega) (by omega) hM (rw_y hrow (sU_s (k := kM P N ja)) (sU_f hRa.1 h37) hv9) (by omega) (bz_s hbd hbd2 (sU_s (k := kM P N ja))) hfr hZ (lv_sub hl [5, 6, 0, 7, 8, 9, 10] rfl)
                · skip
                  have h131 : hw = 1 := (nI_eq (a := hw) (b := 1) (by omega) (by omega)).mp h131
                  refine lv_aload_n hx hb d_Mod_both_134 rfl (lv_at hl 7 rfl) ?_
                  refine lv_lload hx hb d_Mod_both_135 (lv_at hl 1 rfl) ?_
                  refine lv_lload hx hb d_Mod_both_137 (lv_at hl 0 rfl) ?_
                  refine q_calll (va_runV (As := [.long (F ja (kM P N ja k)), .long (F jb (kM P N ja k))]) (rest := [.long (N ((64 * ja) + k)), .int (P ((64 * ja) + k)), .ref (ad 43)]) ⟨hx, hb, hml, hown, hts⟩ (c_Mod_subtracted l dC dI cI cL cB ad N0 u t mn P N A (nI rm) rP rN rA bd (F ja (kM P N ja k)) (F jb (kM P N ja k)) hM) (cwV 2 hts (gI_V k_507 k_504 k_506 k_14 k_24) rfl rfl rfl (by decide +kernel) ⟨Nat.le_of_ble_eq_true rfl, Nat.le_of_ble_eq_true rfl⟩) (q_preV hK hAm hZ hN [.long (F ja (kM P N ja k)), .long (F jb (kM P N ja k))] (43) 3 (by decide) hM.1 rfl) rfl rfl hl.1 rfl (lv_room (Nat.le_of_ble_eq_true rfl)) d_Mod_both_139 ⟨Nat.zero_le _, Nat.zero_le _⟩) hZ (fun a9 u_a9 H locs h_a9 hZ => ?_)
                  obtain ⟨hf2, e_a, b2, hM, hb2⟩ := h_a9
                  have hfr := fr_tr hfr hf2 (Nat.le_refl _) (Nat.le_refl _)
                  have hbd2 : bZ b2 (bd = 0 ∧ fH hw (F ja (kM P N ja k)) (F jb (kM P N ja k))) := by rw [h131]; exact hb2
                  refine q_topl (y := gH hw (F ja) (F jb) (kM P N ja k)) (e_a.trans (gH_1 h131)) ?_
                  refine lv_goto (tgt := 160) hx hb d_Mod_both_142 (by decide) ?_
                  refine q_callv (va_runV (As := [.int (P ((64 * ja) + k)), .long (N ((64 * ja) + k)), .long (gH hw (F ja) (F jb) (kM P N ja k))]) (rest := []) ⟨hx, hb, hml, hown, hts⟩ (c_Mod_lay l dC dI cI cL cB ad N0 u_a9 t mn P N A rm rP rN rA b2 (P (64 * ja + k)) (N (64 * ja + k)) (gH hw (F ja) (F jb) (kM P N ja k)) hM (by omega)) (cwV 3 hts (gI_V k_511 k_508 k_510 k_15 k_24) rfl rfl rfl (by decide +kernel) ⟨Nat.le_of_ble_eq_true rfl, Nat.le_of_ble_eq_true rfl⟩) (q_preV hK hAm hZ hN [.int (P ((64 * ja) + k)), .long (N ((64 * ja) + k)), .long (gH hw (F ja) (F jb) (kM P N ja k))] (43) 3 (by decide) hM.1 rfl) rfl rfl hl.1 rfl (lv_room (Nat.le_of_ble_eq_true rfl)) d_Mod_both_160 ⟨Nat.zero_le _, Nat.zero_le _⟩) hZ (fun u_y9 H locs h_y9 hZ => ?_)
                  obtain ⟨hf3, h_y9⟩ := h_y9
                  have hfr := fr_tr hfr hf3 (Nat.le_refl _) (Nat.le_refl _)
                  rcases h_y9 with ⟨hv9, e_y9⟩ | ⟨hv9, hM⟩
                  · skip
                    rw [e_y9] at hZ
                    have hfr : fr w u_a9 43 50 := by rw [e_y9] at hfr; exact hfr
                    refine lv_iinc (v := (nI (k + 1))) (lv' := [(6, .int (nI (k + 1))), (12, .long (F jb (kM P N ja k))), (10, .long (F ja (kM P N ja k))), (8, .long (N ((64 * ja) + k))), (7, .int (P ((64 * ja) + k))), (4, .int (nI 0)), (5, .int (nI ja)), (0, .ref (ad 43)), (1, .int (nI ja)), (2, .int (nI jb)), (3, .int (nI hw))]) hx hb d_Mod_both_163 hl (k := 6) rfl (nI_1 _) (by decide) rfl (fun ls hl => ?_)
                    refine lv_goto (tgt := 28) hx hb d_Mod_both_166 (by decide) ?_
                    exact ih28a (k + 1) rm rP rN rA b2 u_a9 _ _ _ (by omega) (by omega) hM (rw_n hrow (sU_s (k := kM P N ja)) hv9) (by omega) (bz_s hbd hbd2 (sU_s (k := kM P N ja))) hfr hZ (lv_sub hl [5, 6, 0, 7, 8, 9, 10] rfl)
                  · skip
                    refine lv_iinc (v := (nI (k + 1))) (lv' := [(6, .int (nI (k + 1))), (12, .long (F jb (kM P N ja k))), (10, .long (F ja (kM P N ja k))), (8, .long (N ((64 * ja) + k))), (7, .int (P ((64 * ja) + k))), (4, .int (nI 0)), (5, .int (nI ja)), (0, .ref (ad 43)), (1, .int (nI ja)), (2, .int (nI jb)), (3, .int (nI hw))]) hx hb d_Mod_both_163 hl (k := 6) rfl (nI_1 _) (by decide) rfl (fun ls hl => ?_)
                    refine lv_goto (tgt := 28) hx hb d_Mod_both_166 (by decide) ?_
                    exact ih28a (k + 1) (rm + 1) _ _ _ b2 u_y9 _ _ _ (by omega) (by omega) hM (rw_y hrow (sU_s (k := kM P N ja)) (sU_f hRa.1 h37) hv9) (by omega) (bz_s hbd hbd2 (sU_s (k := kM P N ja))) hfr hZ (lv_sub hl [5, 6, 0, 7, 8, 9, 10] rfl)
              · skip
                have h115 : hw = 0 := (nI_eq (a := hw) (b := 0) (by omega) (by omega)).mp h115
                refine lv_aload_n hx hb d_Mod_both_118 rfl (lv_at hl 7 rfl) ?_
                refine lv_lload hx hb d_Mod_both_119 (lv_at hl 1 rfl) ?_
                refine lv_lload hx hb d_Mod_both_121 (lv_at hl 0 rfl) ?_
                refine q_calll (va_runV (As := [.long (F ja (kM P N ja k)), .long (F jb (kM P N ja k))]) (rest := [.long (N ((64 * ja) + k)), .int (P ((64 * ja) + k)), .ref (ad 43)]) ⟨hx, hb, hml, hown, hts⟩ (c_Mod_added l dC dI cI cL cB ad N0 u t mn P N A (nI rm) rP rN rA bd (F ja (kM P N ja k)) (F jb (kM P N ja k)) hM) (cwV 2 hts (gI_V k_489 k_486 k_488 k_11 k_24) rfl rfl rfl (by decide +kernel) ⟨Nat.le_of_ble_eq_true rfl, Nat.le_of_ble_eq_true rfl⟩) (q_preV hK hAm hZ hN [.long (F ja (kM P N ja k)), .long (F jb (kM P N ja k))] (43) 3 (by decide) hM.1 rfl) rfl rfl hl.1 rfl (lv_room (Nat.le_of_ble_eq_true rfl)) d_Mod_both_123 ⟨Nat.zero_le _, Nat.zero_le _⟩) hZ (fun a9 u_a9 H locs h_a9 hZ => ?_)
                obtain ⟨hf2, e_a, b2, hM, hb2⟩ := h_a9
                have hfr := fr_tr hfr hf2 (Nat.le_refl _) (Nat.le_refl _)
                have hbd2 : bZ b2 (bd = 0 ∧ fH hw (F ja (kM P N ja k)) (F jb (kM P N ja k))) := by rw [h115]; exact hb2
                refine q_topl (y := gH hw (F ja) (F jb) (kM P N ja k)) (e_a.trans (gH_0 h115)) ?_
                refine lv_goto (tgt := 160) hx hb d_Mod_both_126 (by decide) ?_
                refine q_callv (va_runV (As := [.int (P ((64 * ja) + k)), .long (N ((64 * ja) + k)), .long (gH hw (F ja) (F jb) (kM P N ja k))]) (rest := []) ⟨hx, hb, hml, hown, hts⟩ (c_Mod_lay l dC dI cI cL cB ad N0 u_a9 t mn P N A rm rP rN rA b2 (P (64 * ja + k)) (N (64 * ja + k)) (gH hw (F ja) (F jb) (kM P N ja k)) hM (by omega)) (cwV 3 hts (gI_V k_511 k_508 k_510 k_15 k_24) rfl rfl rfl (by decide +kernel) ⟨Nat.le_of_ble_eq_true rfl, Nat.le_of_ble_eq_true rfl⟩) (q_preV hK hAm hZ hN [.int (P ((64 * ja) + k)), .long (N ((64 * ja) + k)), .long (gH hw (F ja) (F jb) (kM P N ja k))] (43) 3 (by decide) hM.1 rfl) rfl rfl hl.1 rfl (lv_room (Nat.le_of_ble_eq_true rfl)) d_Mod_both_160 ⟨Nat.zero_le _, Nat.zero_le _⟩) hZ (fun u_y9 H locs h_y9 hZ => ?_)
                obtain ⟨hf3, h_y9⟩ := h_y9
                have hfr := fr_tr hfr hf3 (Nat.le_refl _) (Nat.le_refl _)
                rcases h_y9 with ⟨hv9, e_y9⟩ | ⟨hv9, hM⟩
                · skip
                  rw [e_y9] at hZ
                  have hfr : fr w u_a9 43 50 := by rw [e_y9] at hfr; exact hfr
                  refine lv_iinc (v := (nI (k + 1))) (lv' := [(6, .int (nI (k + 1))), (12, .long (F jb (kM P N ja k))), (10, .long (F ja (kM P N ja k))), (8, .long (N ((64 * ja) + k))), (7, .int (P ((64 * ja) + k))), (4, .int (nI 0)), (5, .int (nI ja)), (0, .ref (ad 43)), (1, .int (nI ja)), (2, .int (nI jb)), (3, .int (nI hw))]) hx hb d_Mod_both_163 hl (k := 6) rfl (nI_1 _) (by decide) rfl (fun ls hl => ?_)
                  refine lv_goto (tgt := 28) hx hb d_Mod_both_166 (by decide) ?_
                  exact ih28a (k + 1) rm rP rN rA b2 u_a9 _ _ _ (by omega) (by omega) hM (rw_n hrow (sU_s (k := kM P N ja)) hv9) (by omega) (bz_s hbd hbd2 (sU_s (k := kM P N ja))) hfr hZ (lv_sub hl [5, 6, 0, 7, 8, 9, 10] rfl)
                · skip
                  refine lv_iinc (v := (nI (k + 1))) (lv' := [(6, .int (nI (k + 1))), (12, .long (F jb (kM P N ja k))), (10, .long (F ja (kM P N ja k))), (8, .long (N ((64 * ja) + k))), (7, .int (P ((64 * ja) + k))), (4, .int (nI 0)), (5, .int (nI ja)), (0, .ref (ad 43)), (1, .int (nI ja)), (2, .int (nI jb)), (3, .int (nI hw))]) hx hb d_Mod_both_163 hl (k := 6) rfl (nI_1 _) (by decide) rfl (fun ls hl => ?_)
                  refine lv_goto (tgt := 28) hx hb d_Mod_both_166 (by decide) ?_
                  exact ih28a (k + 1) (rm + 1) _ _ _ b2 u_y9 _ _ _ (by omega) (by omega) hM (rw_y hrow (sU_s (k := kM P N ja)) (sU_f hRa.1 h37) hv9) (by omega) (bz_s hbd hbd2 (sU_s (k := kM P N ja))) hfr hZ (lv_sub hl [5, 6, 0, 7, 8, 9, 10] rfl)
            · skip
              have h72 : ¬ 0 = 0 := fun z9 => h72 ((nI_eq (a := 0) (b := 0) (by omega) (by omega)).mpr z9)
              exact absurd h72 (by decide)
      exact loop28a (za + 1) 0 0 rP rN rA (nI 0) u_g9 _ _ _ (Nat.zero_le za) (by omega) hM (rw_0 sU_0) (by omega) (bz_0 sU_0) hfr hZ (lv_sub hl [2, 1, 0, 3, 4, 5, 6] rfl)
set_option maxHeartbeats 4000000 in
set_option maxRecDepth 100000 in
theorem c_Mod_sum (l : Launch) (dC : Nat → ClassId) (dI : Nat → Nat → Nat) (cI cL cB : ClassId) (ad : Nat → Nat) (N0 : Nat) (w : Nat → va_E) (t0 : Int32) (F : Nat → Int → Int64) (ja jb jc : Nat) (hMM : sM ad cI cL w t0 F) (hja : ja < 8) (hjb : jb < 8) (hjc : jc < 8) : Met l y_Mod_sum ws_Mod_sum ({ frames := 3, cells := 0, slots := 0, locals := 83 } : Room) (va_Pc [.ref (ad 43), .int (nI ja), .int (nI jb), .int (nI jc)] (sPr (dC, dI) vCl [(cI, .int), (cL, .long), (cB, .object "CoinBag$Bag")] 52 ad N0 w)) (va_Qi (fun r u => fr w u 43 50 ∧ ((((∀ y, fH 0 (F ja y) (F jb y)) ∧ eC (gH 0 (F ja) (F jb))) ∧ r = 1 ∧ sM ad cI cL u (nI 0) (va_up F jc (gH 0 (F ja) (F jb)))) ∨ (¬ ((∀ y, fH 0 (F ja y) (F jb y)) ∧ eC (gH 0 (F ja) (F jb))) ∧ r = 0 ∧ sM ad cI cL u (nI 0) F))) (sPr (dC, dI) vCl [(cI, .int), (cL, .long), (cB, .object "CoinBag$Bag")] 52 ad N0) (fun q => N0 ≤ q)) 0 0 (fun q => N0 ≤ q) := by
  refine Met.ofW (cc := b_Mod_sum) (maxL := 4) (ret := (some .boolean)) (by decide) rfl ?_
  intro p e s m args below meth c s₁ B hml hv
  obtain ⟨rfl, hP, hK, hD, hN, hAm⟩ := hv
  have hx := B.exec
  have hb := B.bytes
  have hr := B.returns
  have hts := atoms_spec (ws := ws_Mod_sum) B.pre
  have hown : s.vm.findClass "CoinBagModel" = some m.cls := findClass_of_methodNamed B.named
  have hlocks := B.notSynchronized
  have hZ : sZ (dC, dI) vCl 52 ad (fun q => N0 ≤ q) s.heap w s.heap [] := ⟨hP, hD, va_S.rf⟩
  have hl := lv_entry ([.ref (ad 43), .int (nI ja), .int (nI jb), .int (nI jc)]) (n := 4) (Nat.le_of_ble_eq_true rfl)
  rw [lg_entry_eq]
  generalize (lg_sl ([.ref (ad 43), .int (nI ja), .int (nI jb), .int (nI jc)]) ++ List.replicate (4 - (lg_sl ([.ref (ad 43), .int (nI ja), .int (nI jb), .int (nI jc)])).length) Slot.unset).toArray = ls at hl ⊢
  have hl : lv_has ls 4 [(0, .ref (ad 43)), (1, .int (nI ja)), (2, .int (nI jb)), (3, .int (nI jc))] := hl
  obtain ⟨mn, P, N, A, rm, rP, rN, rA, bd, hM, hB⟩ := hMM
  have hfr : fr w w 43 50 := fr_rf
  refine lv_aload_n hx hb d_Mod_sum_0 rfl (lv_at hl 0 rfl) ?_
  refine lv_aload_n hx hb d_Mod_sum_1 rfl (lv_at hl 0 rfl) ?_
  refine lv_iload_n hx hb d_Mod_sum_2 rfl (lv_at hl 1 rfl) ?_
  refine lv_iload_n hx hb d_Mod_sum_3 rfl (lv_at hl 2 rfl) ?_
  refine lv_iload_n hx hb d_Mod_sum_4 rfl (lv_at hl 3 rfl) ?_
  refine lv_iconst (v := (nI 0)) hx hb d_Mod_sum_5 rfl ?_
  refine q_calli (va_runV (As := [.int (nI ja), .int (nI jb), .int (nI jc), .int (nI 0)]) (rest := [.ref (ad 43)]) ⟨hx, hb, hml, hown, hts⟩ (c_Mod_wrong l dC dI cI cL cB ad N0 w t0 mn P N A rm rP rN rA bd (nI ja) (nI jb) (nI jc) (nI 0) hM) (cwV 4 hts (gI_V k_462 k_459 k_461 k_7 k_24) rfl rfl rfl (by decide +kernel) ⟨Nat.le_of_ble_eq_true rfl, Nat.le_of_ble_eq_true rfl⟩) (q_preV hK hAm hZ hN [.int (nI ja), .int (nI jb), .int (nI jc), .int (nI 0)] (43) 3 (by decide) hM.1 rfl) rfl rfl hl.1 rfl (lv_room (Nat.le_of_ble_eq_true rfl)) d_Mod_sum_6 ⟨Nat.zero_le _, Nat.zero_le _⟩) hZ (fun r u_r H locs h_r hZ => ?_)
  obtain ⟨e_r, h_r⟩ := h_r
  rw [e_r] at hZ
  refine q_topi (y := nI 0) (wr_ok h_r ⟨okB_nI hja, okB_nI hjb, okB_nI hjc⟩ okP_0) ?_
  refine q_put (C := R_Mod) (T := T_Mod) (N := 10) (ty := .int) (v := .int (nI 0)) hx hb hts (fun w h => gm (inT_Mod w h)) ty_Mod tyo_Mod nm_Mod hown hK hZ (43) (by decide) hM.1 rfl 0 (by decide) (hts _ (gm k_420)) (fun _ h9 => h9) rfl (by decide +kernel) (rfl) (rfl) (Nat.le_of_ble_eq_true rfl) d_Mod_sum_9 (fun H locs hZ => ?_)
  have hM := hM.up43 (nI 0) rm bd
  have hfr := fr_up (x := 43) (e := .inr (3, [.int (nI 0), .ref (ad 44), .ref (ad 45), .ref (ad 46), .ref (ad 47), .int rm, .ref (ad 48), .ref (ad 49), .ref (ad 50), .int bd])) hfr (by omega) (by omega)
  have hZ : sZ (dC, dI) vCl 52 ad (fun q => N0 ≤ q) s.heap (va_up w 43 (.inr (3, [.int (nI 0), .ref (ad 44), .ref (ad 45), .ref (ad 46), .ref (ad 47), .int rm, .ref (ad 48), .ref (ad 49), .ref (ad 50), .int bd]))) H locs := hZ
  generalize va_up w 43 (.inr (3, [.int (nI 0), .ref (ad 44), .ref (ad 45), .ref (ad 46), .ref (ad 47), .int rm, .ref (ad 48), .ref (ad 49), .ref (ad 50), .int bd])) = w74 at hZ hM hfr
  refine lv_aload_n hx hb d_Mod_sum_12 rfl (lv_at hl 0 rfl) ?_
  refine q_get (C := R_Mod) (T := T_Mod) (N := 10) hx hb hts (fun w h => gm (inT_Mod w h)) hown hK hZ (43) (by decide) hM.1 rfl 0 (by decide) (hts _ (gm k_420)) (fun _ h9 => h9) rfl d_Mod_sum_13 ?_
  refine lv_if_le (tgt := 21) hx hb d_Mod_sum_16 (by decide) (fun h16 => ?_) (fun h16 => ?_)
  · skip
    have h16 : 0 ≤ 0 := (nI_leI (a := 0) (b := 0) (by omega) (by omega)).mp h16
    refine lv_aload_n hx hb d_Mod_sum_21 rfl (lv_at hl 0 rfl) ?_
    refine lv_iload_n hx hb d_Mod_sum_22 rfl (lv_at hl 1 rfl) ?_
    refine lv_iload_n hx hb d_Mod_sum_23 rfl (lv_at hl 2 rfl) ?_
    refine lv_iconst (v := (nI 0)) hx hb d_Mod_sum_24 rfl ?_
    refine q_callv (va_runV (As := [.int (nI ja), .int (nI jb), .int (nI 0)]) (rest := []) ⟨hx, hb, hml, hown, hts⟩ (c_Mod_both l dC dI cI cL cB ad N0 w74 (nI 0) mn P N A rm rP rN rA bd ja jb 0 F hM hja hjb (by omega) hB) (cwV 3 hts (gI_V k_499 k_496 k_498 k_12 k_24) rfl rfl rfl (by decide +kernel) ⟨Nat.le_of_ble_eq_true rfl, Nat.le_of_ble_eq_true rfl⟩) (q_preV hK hAm hZ hN [.int (nI ja), .int (nI jb), .int (nI 0)] (43) 3 (by decide) hM.1 rfl) rfl rfl hl.1 rfl (lv_room (Nat.le_of_ble_eq_true rfl)) d_Mod_sum_25 ⟨Nat.zero_le _, Nat.zero_le _⟩) hZ (fun u_g9 H locs h_g9 hZ => ?_)
    obtain ⟨hf2, rm, rP, rN, rA, bd, hM, hrm, hrow, hbd⟩ := h_g9
    have hfr := fr_tr hfr hf2 (Nat.le_refl _) (Nat.le_refl _)
    refine lv_aload_n hx hb d_Mod_sum_28 rfl (lv_at hl 0 rfl) ?_
    refine lv_iload_n hx hb d_Mod_sum_29 rfl (lv_at hl 3 rfl) ?_
    refine q_calli (va_runV (As := [.int (nI jc)]) (rest := []) ⟨hx, hb, hml, hown, hts⟩ (c_Mod_becomes l dC dI cI cL cB ad N0 u_g9 (nI 0) mn P N A rm rP rN rA bd jc F (gH 0 (F ja) (F jb)) hM hjc (by omega) hB hrow) (cwV 1 hts (gI_V k_515 k_512 k_514 k_16 k_24) rfl rfl rfl (by decide +kernel) ⟨Nat.le_of_ble_eq_true rfl, Nat.le_of_ble_eq_true rfl⟩) (q_preV hK hAm hZ hN [.int (nI jc)] (43) 3 (by decide) hM.1 rfl) rfl rfl hl.1 rfl (lv_room (Nat.le_of_ble_eq_true rfl)) d_Mod_sum_30 ⟨Nat.zero_le _, Nat.zero_le _⟩) hZ (fun s9 u_s9 H locs h_s9 hZ => ?_)
    exact q_zret hx hb hr (show narrow .boolean (.int s9) = .int s9 from by rcases h_s9.2 with ⟨_, e9, _⟩ | ⟨_, e9, _⟩ <;> rw [e9] <;> rfl) hlocks hK hAm hZ hN (⟨fr_tr hfr h_s9.1 (Nat.le_refl _) (Nat.le_refl _), bc_end h_s9.2 hbd hrow⟩) d_Mod_sum_33
  · skip
    have h16 : 0 < 0 := Nat.lt_of_not_le (fun z9 => h16 ((nI_leI (a := 0) (b := 0) (by omega) (by omega)).mpr z9))
    exact absurd h16 (by decide)
set_option maxHeartbeats 4000000 in
set_option maxRecDepth 100000 in
theorem x_Mod_sum (l : Launch) (dC : Nat → ClassId) (dI : Nat → Nat → Nat) (cI cL cB : ClassId) (ad : Nat → Nat) (N0 : Nat) (w : Nat → va_E) (t0 : Int32) (F : Nat → Int → Int64) (a b c2 : Int32) (cd : Int32) (hMM : sM ad cI cL w t0 F) (hbad : wX a b c2 (nI 0) cd) : Met l y_Mod_sum ws_Mod_sum ({ frames := 2, cells := 0, slots := 0, locals := 44 } : Room) (va_Pc [.ref (ad 43), .int a, .int b, .int c2] (sPr (dC, dI) vCl [(cI, .int), (cL, .long), (cB, .object "CoinBag$Bag")] 52 ad N0 w)) (va_Qi (fun r u => fr w u 43 50 ∧ sM ad cI cL u cd F) (sPr (dC, dI) vCl [(cI, .int), (cL, .long), (cB, .object "CoinBag$Bag")] 52 ad N0) (fun q => N0 ≤ q)) 0 0 (fun q => N0 ≤ q) := by
  refine Met.ofW (cc := b_Mod_sum) (maxL := 4) (ret := (some .boolean)) (by decide) rfl ?_
  intro p e s m args below meth c s₁ B hml hv
  obtain ⟨rfl, hP, hK, hD, hN, hAm⟩ := hv
  have hx := B.exec
  have hb := B.bytes
  have hr := B.returns
  have hts := atoms_spec (ws := ws_Mod_sum) B.pre
  have hown : s.vm.findClass "CoinBagModel" = some m.cls := findClass_of_methodNamed B.named
  have hlocks := B.notSynchronized
  have hZ : sZ (dC, dI) vCl 52 ad (fun q => N0 ≤ q) s.heap w s.heap [] := ⟨hP, hD, va_S.rf⟩
  have hl := lv_entry ([.ref (ad 43), .int a, .int b, .int c2]) (n := 4) (Nat.le_of_ble_eq_true rfl)
  rw [lg_entry_eq]
  generalize (lg_sl ([.ref (ad 43), .int a, .int b, .int c2]) ++ List.replicate (4 - (lg_sl ([.ref (ad 43), .int a, .int b, .int c2])).length) Slot.unset).toArray = ls at hl ⊢
  have hl : lv_has ls 4 [(0, .ref (ad 43)), (1, .int a), (2, .int b), (3, .int c2)] := hl
  obtain ⟨mn, P, N, A, rm, rP, rN, rA, bd, hM, hB⟩ := hMM
  have hfr : fr w w 43 50 := fr_rf
  refine lv_aload_n hx hb d_Mod_sum_0 rfl (lv_at hl 0 rfl) ?_
  refine lv_aload_n hx hb d_Mod_sum_1 rfl (lv_at hl 0 rfl) ?_
  refine lv_iload_n hx hb d_Mod_sum_2 rfl (lv_at hl 1 rfl) ?_
  refine lv_iload_n hx hb d_Mod_sum_3 rfl (lv_at hl 2 rfl) ?_
  refine lv_iload_n hx hb d_Mod_sum_4 rfl (lv_at hl 3 rfl) ?_
  refine lv_iconst (v := (nI 0)) hx hb d_Mod_sum_5 rfl ?_
  refine q_calli (va_runV (As := [.int a, .int b, .int c2, .int (nI 0)]) (rest := [.ref (ad 43)]) ⟨hx, hb, hml, hown, hts⟩ (c_Mod_wrong l dC dI cI cL cB ad N0 w t0 mn P N A rm rP rN rA bd a b c2 (nI 0) hM) (cwV 4 hts (gI_V k_462 k_459 k_461 k_7 k_24) rfl rfl rfl (by decide +kernel) ⟨Nat.le_of_ble_eq_true rfl, Nat.le_of_ble_eq_true rfl⟩) (q_preV hK hAm hZ hN [.int a, .int b, .int c2, .int (nI 0)] (43) 3 (by decide) hM.1 rfl) rfl rfl hl.1 rfl (lv_room (Nat.le_of_ble_eq_true rfl)) d_Mod_sum_6 ⟨Nat.zero_le _, Nat.zero_le _⟩) hZ (fun r u_r H locs h_r hZ => ?_)
  obtain ⟨e_r, h_r⟩ := h_r
  rw [e_r] at hZ
  refine q_topi (y := cd) (wr_x h_r hbad) ?_
  refine q_put (C := R_Mod) (T := T_Mod) (N := 10) (ty := .int) (v := .int cd) hx hb hts (fun w h => gm (inT_Mod w h)) ty_Mod tyo_Mod nm_Mod hown hK hZ (43) (by decide) hM.1 rfl 0 (by decide) (hts _ (gm k_420)) (fun _ h9 => h9) rfl (by decide +kernel) (rfl) (rfl) (Nat.le_of_ble_eq_true rfl) d_Mod_sum_9 (fun H locs hZ => ?_)
  have hM := hM.up43 cd rm bd
  have hfr := fr_up (x := 43) (e := .inr (3, [.int cd, .ref (ad 44), .ref (ad 45), .ref (ad 46), .ref (ad 47), .int rm, .ref (ad 48), .ref (ad 49), .ref (ad 50), .int bd])) hfr (by omega) (by omega)
  have hZ : sZ (dC, dI) vCl 52 ad (fun q => N0 ≤ q) s.heap (va_up w 43 (.inr (3, [.int cd, .ref (ad 44), .ref (ad 45), .ref (ad 46), .ref (ad 47), .int rm, .ref (ad 48), .ref (ad 49), .ref (ad 50), .int bd]))) H locs := hZ
  generalize va_up w 43 (.inr (3, [.int cd, .ref (ad 44), .ref (ad 45), .ref (ad 46), .ref (ad 47), .int rm, .ref (ad 48), .ref (ad 49), .ref (ad 50), .int bd])) = w75 at hZ hM hfr
  refine lv_aload_n hx hb d_Mod_sum_12 rfl (lv_at hl 0 rfl) ?_
  refine q_get (C := R_Mod) (T := T_Mod) (N := 10) hx hb hts (fun w h => gm (inT_Mod w h)) hown hK hZ (43) (by decide) hM.1 rfl 0 (by decide) (hts _ (gm k_420)) (fun _ h9 => h9) rfl d_Mod_sum_13 ?_
  refine lv_if_le (tgt := 21) hx hb d_Mod_sum_16 (by decide) (fun h16 => ?_) (fun h16 => ?_)
  · skip
    first | exact absurd h16 (wX_ne hbad) | exact absurd h16 (wX_le hbad) | exact absurd (wX_gt hbad) h16
  · skip
    refine lv_iconst (v := (nI 0)) hx hb d_Mod_sum_19 rfl ?_
    exact q_zret hx hb hr rfl hlocks hK hAm hZ hN (⟨hfr, ⟨_, _, _, _, _, _, _, _, _, hM, hB⟩⟩) d_Mod_sum_20
set_option maxHeartbeats 4000000 in
set_option maxRecDepth 100000 in
theorem c_Mod_less (l : Launch) (dC : Nat → ClassId) (dI : Nat → Nat → Nat) (cI cL cB : ClassId) (ad : Nat → Nat) (N0 : Nat) (w : Nat → va_E) (t0 : Int32) (F : Nat → Int → Int64) (ja jb jc : Nat) (hMM : sM ad cI cL w t0 F) (hja : ja < 8) (hjb : jb < 8) (hjc : jc < 8) : Met l y_Mod_less ws_Mod_less ({ frames := 3, cells := 0, slots := 0, locals := 83 } : Room) (va_Pc [.ref (ad 43), .int (nI ja), .int (nI jb), .int (nI jc)] (sPr (dC, dI) vCl [(cI, .int), (cL, .long), (cB, .object "CoinBag$Bag")] 52 ad N0 w)) (va_Qi (fun r u => fr w u 43 50 ∧ ((((∀ y, fH 1 (F ja y) (F jb y)) ∧ eC (gH 1 (F ja) (F jb))) ∧ r = 1 ∧ sM ad cI cL u (nI 0) (va_up F jc (gH 1 (F ja) (F jb)))) ∨ (¬ ((∀ y, fH 1 (F ja y) (F jb y)) ∧ eC (gH 1 (F ja) (F jb))) ∧ r = 0 ∧ sM ad cI cL u (nI 0) F))) (sPr (dC, dI) vCl [(cI, .int), (cL, .long), (cB, .object "CoinBag$Bag")] 52 ad N0) (fun q => N0 ≤ q)) 0 0 (fun q => N0 ≤ q) := by
  refine Met.ofW (cc := b_Mod_less) (maxL := 4) (ret := (some .boolean)) (by decide) rfl ?_
  intro p e s m args below meth c s₁ B hml hv
  obtain ⟨rfl, hP, hK, hD, hN, hAm⟩ := hv
  have hx := B.exec
  have hb := B.bytes
  have hr := B.returns
  have hts := atoms_spec (ws := ws_Mod_less) B.pre
  have hown : s.vm.findClass "CoinBagModel" = some m.cls := findClass_of_methodNamed B.named
  have hlocks := B.notSynchronized
  have hZ : sZ (dC, dI) vCl 52 ad (fun q => N0 ≤ q) s.heap w s.heap [] := ⟨hP, hD, va_S.rf⟩
  have hl := lv_entry ([.ref (ad 43), .int (nI ja), .int (nI jb), .int (nI jc)]) (n := 4) (Nat.le_of_ble_eq_true rfl)
  rw [lg_entry_eq]
  generalize (lg_sl ([.ref (ad 43), .int (nI ja), .int (nI jb), .int (nI jc)]) ++ List.replicate (4 - (lg_sl ([.ref (ad 43), .int (nI ja), .int (nI jb), .int (nI jc)])).length) Slot.unset).toArray = ls at hl ⊢
  have hl : lv_has ls 4 [(0, .ref (ad 43)), (1, .int (nI ja)), (2, .int (nI jb)), (3, .int (nI jc))] := hl
  obtain ⟨mn, P, N, A, rm, rP, rN, rA, bd, hM, hB⟩ := hMM
  have hfr : fr w w 43 50 := fr_rf
  refine lv_aload_n hx hb d_Mod_less_0 rfl (lv_at hl 0 rfl) ?_
  refine lv_aload_n hx hb d_Mod_less_1 rfl (lv_at hl 0 rfl) ?_
  refine lv_iload_n hx hb d_Mod_less_2 rfl (lv_at hl 1 rfl) ?_
  refine lv_iload_n hx hb d_Mod_less_3 rfl (lv_at hl 2 rfl) ?_
  refine lv_iload_n hx hb d_Mod_less_4 rfl (lv_at hl 3 rfl) ?_
  refine lv_iconst (v := (nI 0)) hx hb d_Mod_less_5 rfl ?_
  refine q_calli (va_runV (As := [.int (nI ja), .int (nI jb), .int (nI jc), .int (nI 0)]) (rest := [.ref (ad 43)]) ⟨hx, hb, hml, hown, hts⟩ (c_Mod_wrong l dC dI cI cL cB ad N0 w t0 mn P N A rm rP rN rA bd (nI ja) (nI jb) (nI jc) (nI 0) hM) (cwV 4 hts (gI_V k_462 k_459 k_461 k_7 k_24) rfl rfl rfl (by decide +kernel) ⟨Nat.le_of_ble_eq_true rfl, Nat.le_of_ble_eq_true rfl⟩) (q_preV hK hAm hZ hN [.int (nI ja), .int (nI jb), .int (nI jc), .int (nI 0)] (43) 3 (by decide) hM.1 rfl) rfl rfl hl.1 rfl (lv_room (Nat.le_of_ble_eq_true rfl)) d_Mod_less_6 ⟨Nat.zero_le _, Nat.zero_le _⟩) hZ (fun r u_r H locs h_r hZ => ?_)
  obtain ⟨e_r, h_r⟩ := h_r
  rw [e_r] at hZ
  refine q_topi (y := nI 0) (wr_ok h_r ⟨okB_nI hja, okB_nI hjb, okB_nI hjc⟩ okP_0) ?_
  refine q_put (C := R_Mod) (T := T_Mod) (N := 10) (ty := .int) (v := .int (nI 0)) hx hb hts (fun w h => gm (inT_Mod w h)) ty_Mod tyo_Mod nm_Mod hown hK hZ (43) (by decide) hM.1 rfl 0 (by decide) (hts _ (gm k_420)) (fun _ h9 => h9) rfl (by decide +kernel) (rfl) (rfl) (Nat.le_of_ble_eq_true rfl) d_Mod_less_9 (fun H locs hZ => ?_)
  have hM := hM.up43 (nI 0) rm bd
  have hfr := fr_up (x := 43) (e := .inr (3, [.int (nI 0), .ref (ad 44), .ref (ad 45), .ref (ad 46), .ref (ad 47), .int rm, .ref (ad 48), .ref (ad 49), .ref (ad 50), .int bd])) hfr (by omega) (by omega)
  have hZ : sZ (dC, dI) vCl 52 ad (fun q => N0 ≤ q) s.heap (va_up w 43 (.inr (3, [.int (nI 0), .ref (ad 44), .ref (ad 45), .ref (ad 46), .ref (ad 47), .int rm, .ref (ad 48), .ref (ad 49), .ref (ad 50), .int bd]))) H locs := hZ
  generalize va_up w 43 (.inr (3, [.int (nI 0), .ref (ad 44), .ref (ad 45), .ref (ad 46), .ref (ad 47), .int rm, .ref (ad 48), .ref (ad 49), .ref (ad 50), .int bd])) = w76 at hZ hM hfr
  refine lv_aload_n hx hb d_Mod_less_12 rfl (lv_at hl 0 rfl) ?_
  refine q_get (C := R_Mod) (T := T_Mod) (N := 10) hx hb hts (fun w h => gm (inT_Mod w h)) hown hK hZ (43) (by decide) hM.1 rfl 0 (by decide) (hts _ (gm k_420)) (fun _ h9 => h9) rfl d_Mod_less_13 ?_
  refine lv_if_le (tgt := 21) hx hb d_Mod_less_16 (by decide) (fun h16 => ?_) (fun h16 => ?_)
  · skip
    have h16 : 0 ≤ 0 := (nI_leI (a := 0) (b := 0) (by omega) (by omega)).mp h16
    refine lv_aload_n hx hb d_Mod_less_21 rfl (lv_at hl 0 rfl) ?_
    refine lv_iload_n hx hb d_Mod_less_22 rfl (lv_at hl 1 rfl) ?_
    refine lv_iload_n hx hb d_Mod_less_23 rfl (lv_at hl 2 rfl) ?_
    refine lv_iconst (v := (nI 1)) hx hb d_Mod_less_24 rfl ?_
    refine q_callv (va_runV (As := [.int (nI ja), .int (nI jb), .int (nI 1)]) (rest := []) ⟨hx, hb, hml, hown, hts⟩ (c_Mod_both l dC dI cI cL cB ad N0 w76 (nI 0) mn P N A rm rP rN rA bd ja jb 1 F hM hja hjb (by omega) hB) (cwV 3 hts (gI_V k_499 k_496 k_498 k_12 k_24) rfl rfl rfl (by decide +kernel) ⟨Nat.le_of_ble_eq_true rfl, Nat.le_of_ble_eq_true rfl⟩) (q_preV hK hAm hZ hN [.int (nI ja), .int (nI jb), .int (nI 1)] (43) 3 (by decide) hM.1 rfl) rfl rfl hl.1 rfl (lv_room (Nat.le_of_ble_eq_true rfl)) d_Mod_less_25 ⟨Nat.zero_le _, Nat.zero_le _⟩) hZ (fun u_g9 H locs h_g9 hZ => ?_)
    obtain ⟨hf2, rm, rP, rN, rA, bd, hM, hrm, hrow, hbd⟩ := h_g9
    have hfr := fr_tr hfr hf2 (Nat.le_refl _) (Nat.le_refl _)
    refine lv_aload_n hx hb d_Mod_less_28 rfl (lv_at hl 0 rfl) ?_
    refine lv_iload_n hx hb d_Mod_less_29 rfl (lv_at hl 3 rfl) ?_
    refine q_calli (va_runV (As := [.int (nI jc)]) (rest := []) ⟨hx, hb, hml, hown, hts⟩ (c_Mod_becomes l dC dI cI cL cB ad N0 u_g9 (nI 0) mn P N A rm rP rN rA bd jc F (gH 1 (F ja) (F jb)) hM hjc (by omega) hB hrow) (cwV 1 hts (gI_V k_515 k_512 k_514 k_16 k_24) rfl rfl rfl (by decide +kernel) ⟨Nat.le_of_ble_eq_true rfl, Nat.le_of_ble_eq_true rfl⟩) (q_preV hK hAm hZ hN [.int (nI jc)] (43) 3 (by decide) hM.1 rfl) rfl rfl hl.1 rfl (lv_room (Nat.le_of_ble_eq_true rfl)) d_Mod_less_30 ⟨Nat.zero_le _, Nat.zero_le _⟩) hZ (fun s9 u_s9 H locs h_s9 hZ => ?_)
    exact q_zret hx hb hr (show narrow .boolean (.int s9) = .int s9 from by rcases h_s9.2 with ⟨_, e9, _⟩ | ⟨_, e9, _⟩ <;> rw [e9] <;> rfl) hlocks hK hAm hZ hN (⟨fr_tr hfr h_s9.1 (Nat.le_refl _) (Nat.le_refl _), bc_end h_s9.2 hbd hrow⟩) d_Mod_less_33
  · skip
    have h16 : 0 < 0 := Nat.lt_of_not_le (fun z9 => h16 ((nI_leI (a := 0) (b := 0) (by omega) (by omega)).mpr z9))
    exact absurd h16 (by decide)
set_option maxHeartbeats 4000000 in
set_option maxRecDepth 100000 in
theorem x_Mod_less (l : Launch) (dC : Nat → ClassId) (dI : Nat → Nat → Nat) (cI cL cB : ClassId) (ad : Nat → Nat) (N0 : Nat) (w : Nat → va_E) (t0 : Int32) (F : Nat → Int → Int64) (a b c2 : Int32) (cd : Int32) (hMM : sM ad cI cL w t0 F) (hbad : wX a b c2 (nI 0) cd) : Met l y_Mod_less ws_Mod_less ({ frames := 2, cells := 0, slots := 0, locals := 44 } : Room) (va_Pc [.ref (ad 43), .int a, .int b, .int c2] (sPr (dC, dI) vCl [(cI, .int), (cL, .long), (cB, .object "CoinBag$Bag")] 52 ad N0 w)) (va_Qi (fun r u => fr w u 43 50 ∧ sM ad cI cL u cd F) (sPr (dC, dI) vCl [(cI, .int), (cL, .long), (cB, .object "CoinBag$Bag")] 52 ad N0) (fun q => N0 ≤ q)) 0 0 (fun q => N0 ≤ q) := by
  refine Met.ofW (cc := b_Mod_less) (maxL := 4) (ret := (some .boolean)) (by decide) rfl ?_
  intro p e s m args below meth c s₁ B hml hv
  obtain ⟨rfl, hP, hK, hD, hN, hAm⟩ := hv
  have hx := B.exec
  have hb := B.bytes
  have hr := B.returns
  have hts := atoms_spec (ws := ws_Mod_less) B.pre
  have hown : s.vm.findClass "CoinBagModel" = some m.cls := findClass_of_methodNamed B.named
  have hlocks := B.notSynchronized
  have hZ : sZ (dC, dI) vCl 52 ad (fun q => N0 ≤ q) s.heap w s.heap [] := ⟨hP, hD, va_S.rf⟩
  have hl := lv_entry ([.ref (ad 43), .int a, .int b, .int c2]) (n := 4) (Nat.le_of_ble_eq_true rfl)
  rw [lg_entry_eq]
  generalize (lg_sl ([.ref (ad 43), .int a, .int b, .int c2]) ++ List.replicate (4 - (lg_sl ([.ref (ad 43), .int a, .int b, .int c2])).length) Slot.unset).toArray = ls at hl ⊢
  have hl : lv_has ls 4 [(0, .ref (ad 43)), (1, .int a), (2, .int b), (3, .int c2)] := hl
  obtain ⟨mn, P, N, A, rm, rP, rN, rA, bd, hM, hB⟩ := hMM
  have hfr : fr w w 43 50 := fr_rf
  refine lv_aload_n hx hb d_Mod_less_0 rfl (lv_at hl 0 rfl) ?_
  refine lv_aload_n hx hb d_Mod_less_1 rfl (lv_at hl 0 rfl) ?_
  refine lv_iload_n hx hb d_Mod_less_2 rfl (lv_at hl 1 rfl) ?_
  refine lv_iload_n hx hb d_Mod_less_3 rfl (lv_at hl 2 rfl) ?_
  refine lv_iload_n hx hb d_Mod_less_4 rfl (lv_at hl 3 rfl) ?_
  refine lv_iconst (v := (nI 0)) hx hb d_Mod_less_5 rfl ?_
  refine q_calli (va_runV (As := [.int a, .int b, .int c2, .int (nI 0)]) (rest := [.ref (ad 43)]) ⟨hx, hb, hml, hown, hts⟩ (c_Mod_wrong l dC dI cI cL cB ad N0 w t0 mn P N A rm rP rN rA bd a b c2 (nI 0) hM) (cwV 4 hts (gI_V k_462 k_459 k_461 k_7 k_24) rfl rfl rfl (by decide +kernel) ⟨Nat.le_of_ble_eq_true rfl, Nat.le_of_ble_eq_true rfl⟩) (q_preV hK hAm hZ hN [.int a, .int b, .int c2, .int (nI 0)] (43) 3 (by decide) hM.1 rfl) rfl rfl hl.1 rfl (lv_room (Nat.le_of_ble_eq_true rfl)) d_Mod_less_6 ⟨Nat.zero_le _, Nat.zero_le _⟩) hZ (fun r u_r H locs h_r hZ => ?_)
  obtain ⟨e_r, h_r⟩ := h_r
  rw [e_r] at hZ
  refine q_topi (y := cd) (wr_x h_r hbad) ?_
  refine q_put (C := R_Mod) (T := T_Mod) (N := 10) (ty := .int) (v := .int cd) hx hb hts (fun w h => gm (inT_Mod w h)) ty_Mod tyo_Mod nm_Mod hown hK hZ (43) (by decide) hM.1 rfl 0 (by decide) (hts _ (gm k_420)) (fun _ h9 => h9) rfl (by decide +kernel) (rfl) (rfl) (Nat.le_of_ble_eq_true rfl) d_Mod_less_9 (fun H locs hZ => ?_)
  have hM := hM.up43 cd rm bd
  have hfr := fr_up (x := 43) (e := .inr (3, [.int cd, .ref (ad 44), .ref (ad 45), .ref (ad 46), .ref (ad 47), .int rm, .ref (ad 48), .ref (ad 49), .ref (ad 50), .int bd])) hfr (by omega) (by omega)
  have hZ : sZ (dC, dI) vCl 52 ad (fun q => N0 ≤ q) s.heap (va_up w 43 (.inr (3, [.int cd, .ref (ad 44), .ref (ad 45), .ref (ad 46), .ref (ad 47), .int rm, .ref (ad 48), .ref (ad 49), .ref (ad 50), .int bd]))) H locs := hZ
  generalize va_up w 43 (.inr (3, [.int cd, .ref (ad 44), .ref (ad 45), .ref (ad 46), .ref (ad 47), .int rm, .ref (ad 48), .ref (ad 49), .ref (ad 50), .int bd])) = w77 at hZ hM hfr
  refine lv_aload_n hx hb d_Mod_less_12 rfl (lv_at hl 0 rfl) ?_
  refine q_get (C := R_Mod) (T := T_Mod) (N := 10) hx hb hts (fun w h => gm (inT_Mod w h)) hown hK hZ (43) (by decide) hM.1 rfl 0 (by decide) (hts _ (gm k_420)) (fun _ h9 => h9) rfl d_Mod_less_13 ?_
  refine lv_if_le (tgt := 21) hx hb d_Mod_less_16 (by decide) (fun h16 => ?_) (fun h16 => ?_)
  · skip
    first | exact absurd h16 (wX_ne hbad) | exact absurd h16 (wX_le hbad) | exact absurd (wX_gt hbad) h16
  · skip
    refine lv_iconst (v := (nI 0)) hx hb d_Mod_less_19 rfl ?_
    exact q_zret hx hb hr rfl hlocks hK hAm hZ hN (⟨hfr, ⟨_, _, _, _, _, _, _, _, _, hM, hB⟩⟩) d_Mod_less_20
set_option maxHeartbeats 4000000 in
set_option maxRecDepth 100000 in
theorem c_Mod_least (l : Launch) (dC : Nat → ClassId) (dI : Nat → Nat → Nat) (cI cL cB : ClassId) (ad : Nat → Nat) (N0 : Nat) (w : Nat → va_E) (t0 : Int32) (F : Nat → Int → Int64) (ja jb jc : Nat) (hMM : sM ad cI cL w t0 F) (hja : ja < 8) (hjb : jb < 8) (hjc : jc < 8) : Met l y_Mod_least ws_Mod_least ({ frames := 3, cells := 0, slots := 0, locals := 83 } : Room) (va_Pc [.ref (ad 43), .int (nI ja), .int (nI jb), .int (nI jc)] (sPr (dC, dI) vCl [(cI, .int), (cL, .long), (cB, .object "CoinBag$Bag")] 52 ad N0 w)) (va_Qi (fun r u => fr w u 43 50 ∧ ((((∀ y, fH 2 (F ja y) (F jb y)) ∧ eC (gH 2 (F ja) (F jb))) ∧ r = 1 ∧ sM ad cI cL u (nI 0) (va_up F jc (gH 2 (F ja) (F jb)))) ∨ (¬ ((∀ y, fH 2 (F ja y) (F jb y)) ∧ eC (gH 2 (F ja) (F jb))) ∧ r = 0 ∧ sM ad cI cL u (nI 0) F))) (sPr (dC, dI) vCl [(cI, .int), (cL, .long), (cB, .object "CoinBag$Bag")] 52 ad N0) (fun q => N0 ≤ q)) 0 0 (fun q => N0 ≤ q) := by
  refine Met.ofW (cc := b_Mod_least) (maxL := 4) (ret := (some .boolean)) (by decide) rfl ?_
  intro p e s m args below meth c s₁ B hml hv
  obtain ⟨rfl, hP, hK, hD, hN, hAm⟩ := hv
  have hx := B.exec
  have hb := B.bytes
  have hr := B.returns
  have hts := atoms_spec (ws := ws_Mod_least) B.pre
  have hown : s.vm.findClass "CoinBagModel" = some m.cls := findClass_of_methodNamed B.named
  have hlocks := B.notSynchronized
  have hZ : sZ (dC, dI) vCl 52 ad (fun q => N0 ≤ q) s.heap w s.heap [] := ⟨hP, hD, va_S.rf⟩
  have hl := lv_entry ([.ref (ad 43), .int (nI ja), .int (nI jb), .int (nI jc)]) (n := 4) (Nat.le_of_ble_eq_true rfl)
  rw [lg_entry_eq]
  generalize (lg_sl ([.ref (ad 43), .int (nI ja), .int (nI jb), .int (nI jc)]) ++ List.replicate (4 - (lg_sl ([.ref (ad 43), .int (nI ja), .int (nI jb), .int (nI jc)])).length) Slot.unset).toArray = ls at hl ⊢
  have hl : lv_has ls 4 [(0, .ref (ad 43)), (1, .int (nI ja)), (2, .int (nI jb)), (3, .int (nI jc))] := hl
  obtain ⟨mn, P, N, A, rm, rP, rN, rA, bd, hM, hB⟩ := hMM
  have hfr : fr w w 43 50 := fr_rf
  refine lv_aload_n hx hb d_Mod_least_0 rfl (lv_at hl 0 rfl) ?_
  refine lv_aload_n hx hb d_Mod_least_1 rfl (lv_at hl 0 rfl) ?_
  refine lv_iload_n hx hb d_Mod_least_2 rfl (lv_at hl 1 rfl) ?_
  refine lv_iload_n hx hb d_Mod_least_3 rfl (lv_at hl 2 rfl) ?_
  refine lv_iload_n hx hb d_Mod_least_4 rfl (lv_at hl 3 rfl) ?_
  refine lv_iconst (v := (nI 0)) hx hb d_Mod_least_5 rfl ?_
  refine q_calli (va_runV (As := [.int (nI ja), .int (nI jb), .int (nI jc), .int (nI 0)]) (rest := [.ref (ad 43)]) ⟨hx, hb, hml, hown, hts⟩ (c_Mod_wrong l dC dI cI cL cB ad N0 w t0 mn P N A rm rP rN rA bd (nI ja) (nI jb) (nI jc) (nI 0) hM) (cwV 4 hts (gI_V k_462 k_459 k_461 k_7 k_24) rfl rfl rfl (by decide +kernel) ⟨Nat.le_of_ble_eq_true rfl, Nat.le_of_ble_eq_true rfl⟩) (q_preV hK hAm hZ hN [.int (nI ja), .int (nI jb), .int (nI jc), .int (nI 0)] (43) 3 (by decide) hM.1 rfl) rfl rfl hl.1 rfl (lv_room (Nat.le_of_ble_eq_true rfl)) d_Mod_least_6 ⟨Nat.zero_le _, Nat.zero_le _⟩) hZ (fun r u_r H locs h_r hZ => ?_)
  obtain ⟨e_r, h_r⟩ := h_r
  rw [e_r] at hZ
  refine q_topi (y := nI 0) (wr_ok h_r ⟨okB_nI hja, okB_nI hjb, okB_nI hjc⟩ okP_0) ?_
  refine q_put (C := R_Mod) (T := T_Mod) (N := 10) (ty := .int) (v := .int (nI 0)) hx hb hts (fun w h => gm (inT_Mod w h)) ty_Mod tyo_Mod nm_Mod hown hK hZ (43) (by decide) hM.1 rfl 0 (by decide) (hts _ (gm k_420)) (fun _ h9 => h9) rfl (by decide +kernel) (rfl) (rfl) (Nat.le_of_ble_eq_true rfl) d_Mod_least_9 (fun H locs hZ => ?_)
  have hM := hM.up43 (nI 0) rm bd
  have hfr := fr_up (x := 43) (e := .inr (3, [.int (nI 0), .ref (ad 44), .ref (ad 45), .ref (ad 46), .ref (ad 47), .int rm, .ref (ad 48), .ref (ad 49), .ref (ad 50), .int bd])) hfr (by omega) (by omega)
  have hZ : sZ (dC, dI) vCl 52 ad (fun q => N0 ≤ q) s.heap (va_up w 43 (.inr (3, [.int (nI 0), .ref (ad 44), .ref (ad 45), .ref (ad 46), .ref (ad 47), .int rm, .ref (ad 48), .ref (ad 49), .ref (ad 50), .int bd]))) H locs := hZ
  generalize va_up w 43 (.inr (3, [.int (nI 0), .ref (ad 44), .ref (ad 45), .ref (ad 46), .ref (ad 47), .int rm, .ref (ad 48), .ref (ad 49), .ref (ad 50), .int bd])) = w78 at hZ hM hfr
  refine lv_aload_n hx hb d_Mod_least_12 rfl (lv_at hl 0 rfl) ?_
  refine q_get (C := R_Mod) (T := T_Mod) (N := 10) hx hb hts (fun w h => gm (inT_Mod w h)) hown hK hZ (43) (by decide) hM.1 rfl 0 (by decide) (hts _ (gm k_420)) (fun _ h9 => h9) rfl d_Mod_least_13 ?_
  refine lv_if_le (tgt := 21) hx hb d_Mod_least_16 (by decide) (fun h16 => ?_) (fun h16 => ?_)
  · skip
    have h16 : 0 ≤ 0 := (nI_leI (a := 0) (b := 0) (by omega) (by omega)).mp h16
    refine lv_aload_n hx hb d_Mod_least_21 rfl (lv_at hl 0 rfl) ?_
    refine lv_iload_n hx hb d_Mod_least_22 rfl (lv_at hl 1 rfl) ?_
    refine lv_iload_n hx hb d_Mod_least_23 rfl (lv_at hl 2 rfl) ?_
    refine lv_iconst (v := (nI 2)) hx hb d_Mod_least_24 rfl ?_
    refine q_callv (va_runV (As := [.int (nI ja), .int (nI jb), .int (nI 2)]) (rest := []) ⟨hx, hb, hml, hown, hts⟩ (c_Mod_both l dC dI cI cL cB ad N0 w78 (nI 0) mn P N A rm rP rN rA bd ja jb 2 F hM hja hjb (by omega) hB) (cwV 3 hts (gI_V k_499 k_496 k_498 k_12 k_24) rfl rfl rfl (by decide +kernel) ⟨Nat.le_of_ble_eq_true rfl, Nat.le_of_ble_eq_true rfl⟩) (q_preV hK hAm hZ hN [.int (nI ja), .int (nI jb), .int (nI 2)] (43) 3 (by decide) hM.1 rfl) rfl rfl hl.1 rfl (lv_room (Nat.le_of_ble_eq_true rfl)) d_Mod_least_25 ⟨Nat.zero_le _, Nat.zero_le _⟩) hZ (fun u_g9 H locs h_g9 hZ => ?_)
    obtain ⟨hf2, rm, rP, rN, rA, bd, hM, hrm, hrow, hbd⟩ := h_g9
    have hfr := fr_tr hfr hf2 (Nat.le_refl _) (Nat.le_refl _)
    refine lv_aload_n hx hb d_Mod_least_28 rfl (lv_at hl 0 rfl) ?_
    refine lv_iload_n hx hb d_Mod_least_29 rfl (lv_at hl 3 rfl) ?_
    refine q_calli (va_runV (As := [.int (nI jc)]) (rest := []) ⟨hx, hb, hml, hown, hts⟩ (c_Mod_becomes l dC dI cI cL cB ad N0 u_g9 (nI 0) mn P N A rm rP rN rA bd jc F (gH 2 (F ja) (F jb)) hM hjc (by omega) hB hrow) (cwV 1 hts (gI_V k_515 k_512 k_514 k_16 k_24) rfl rfl rfl (by decide +kernel) ⟨Nat.le_of_ble_eq_true rfl, Nat.le_of_ble_eq_true rfl⟩) (q_preV hK hAm hZ hN [.int (nI jc)] (43) 3 (by decide) hM.1 rfl) rfl rfl hl.1 rfl (lv_room (Nat.le_of_ble_eq_true rfl)) d_Mod_least_30 ⟨Nat.zero_le _, Nat.zero_le _⟩) hZ (fun s9 u_s9 H locs h_s9 hZ => ?_)
    exact q_zret hx hb hr (show narrow .boolean (.int s9) = .int s9 from by rcases h_s9.2 with ⟨_, e9, _⟩ | ⟨_, e9, _⟩ <;> rw [e9] <;> rfl) hlocks hK hAm hZ hN (⟨fr_tr hfr h_s9.1 (Nat.le_refl _) (Nat.le_refl _), bc_end h_s9.2 hbd hrow⟩) d_Mod_least_33
  · skip
    have h16 : 0 < 0 := Nat.lt_of_not_le (fun z9 => h16 ((nI_leI (a := 0) (b := 0) (by omega) (by omega)).mpr z9))
    exact absurd h16 (by decide)
set_option maxHeartbeats 4000000 in
set_option maxRecDepth 100000 in
theorem x_Mod_least (l : Launch) (dC : Nat → ClassId) (dI : Nat → Nat → Nat) (cI cL cB : ClassId) (ad : Nat → Nat) (N0 : Nat) (w : Nat → va_E) (t0 : Int32) (F : Nat → Int → Int64) (a b c2 : Int32) (cd : Int32) (hMM : sM ad cI cL w t0 F) (hbad : wX a b c2 (nI 0) cd) : Met l y_Mod_least ws_Mod_least ({ frames := 2, cells := 0, slots := 0, locals := 44 } : Room) (va_Pc [.ref (ad 43), .int a, .int b, .int c2] (sPr (dC, dI) vCl [(cI, .int), (cL, .long), (cB, .object "CoinBag$Bag")] 52 ad N0 w)) (va_Qi (fun r u => fr w u 43 50 ∧ sM ad cI cL u cd F) (sPr (dC, dI) vCl [(cI, .int), (cL, .long), (cB, .object "CoinBag$Bag")] 52 ad N0) (fun q => N0 ≤ q)) 0 0 (fun q => N0 ≤ q) := by
  refine Met.ofW (cc := b_Mod_least) (maxL := 4) (ret := (some .boolean)) (by decide) rfl ?_
  intro p e s m args below meth c s₁ B hml hv
  obtain ⟨rfl, hP, hK, hD, hN, hAm⟩ := hv
  have hx := B.exec
  have hb := B.bytes
  have hr := B.returns
  have hts := atoms_spec (ws := ws_Mod_least) B.pre
  have hown : s.vm.findClass "CoinBagModel" = some m.cls := findClass_of_methodNamed B.named
  have hlocks := B.notSynchronized
  have hZ : sZ (dC, dI) vCl 52 ad (fun q => N0 ≤ q) s.heap w s.heap [] := ⟨hP, hD, va_S.rf⟩
  have hl := lv_entry ([.ref (ad 43), .int a, .int b, .int c2]) (n := 4) (Nat.le_of_ble_eq_true rfl)
  rw [lg_entry_eq]
  generalize (lg_sl ([.ref (ad 43), .int a, .int b, .int c2]) ++ List.replicate (4 - (lg_sl ([.ref (ad 43), .int a, .int b, .int c2])).length) Slot.unset).toArray = ls at hl ⊢
  have hl : lv_has ls 4 [(0, .ref (ad 43)), (1, .int a), (2, .int b), (3, .int c2)] := hl
  obtain ⟨mn, P, N, A, rm, rP, rN, rA, bd, hM, hB⟩ := hMM
  have hfr : fr w w 43 50 := fr_rf
  refine lv_aload_n hx hb d_Mod_least_0 rfl (lv_at hl 0 rfl) ?_
  refine lv_aload_n hx hb d_Mod_least_1 rfl (lv_at hl 0 rfl) ?_
  refine lv_iload_n hx hb d_Mod_least_2 rfl (lv_at hl 1 rfl) ?_
  refine lv_iload_n hx hb d_Mod_least_3 rfl (lv_at hl 2 rfl) ?_
  refine lv_iload_n hx hb d_Mod_least_4 rfl (lv_at hl 3 rfl) ?_
  refine lv_iconst (v := (nI 0)) hx hb d_Mod_least_5 rfl ?_
  refine q_calli (va_runV (As := [.int a, .int b, .int c2, .int (nI 0)]) (rest := [.ref (ad 43)]) ⟨hx, hb, hml, hown, hts⟩ (c_Mod_wrong l dC dI cI cL cB ad N0 w t0 mn P N A rm rP rN rA bd a b c2 (nI 0) hM) (cwV 4 hts (gI_V k_462 k_459 k_461 k_7 k_24) rfl rfl rfl (by decide +kernel) ⟨Nat.le_of_ble_eq_true rfl, Nat.le_of_ble_eq_true rfl⟩) (q_preV hK hAm hZ hN [.int a, .int b, .int c2, .int (nI 0)] (43) 3 (by decide) hM.1 rfl) rfl rfl hl.1 rfl (lv_room (Nat.le_of_ble_eq_true rfl)) d_Mod_least_6 ⟨Nat.zero_le _, Nat.zero_le _⟩) hZ (fun r u_r H locs h_r hZ => ?_)
  obtain ⟨e_r, h_r⟩ := h_r
  rw [e_r] at hZ
  refine q_topi (y := cd) (wr_x h_r hbad) ?_
  refine q_put (C := R_Mod) (T := T_Mod) (N := 10) (ty := .int) (v := .int cd) hx hb hts (fun w h => gm (inT_Mod w h)) ty_Mod tyo_Mod nm_Mod hown hK hZ (43) (by decide) hM.1 rfl 0 (by decide) (hts _ (gm k_420)) (fun _ h9 => h9) rfl (by decide +kernel) (rfl) (rfl) (Nat.le_of_ble_eq_true rfl) d_Mod_least_9 (fun H locs hZ => ?_)
  have hM := hM.up43 cd rm bd
  have hfr := fr_up (x := 43) (e := .inr (3, [.int cd, .ref (ad 44), .ref (ad 45), .ref (ad 46), .ref (ad 47), .int rm, .ref (ad 48), .ref (ad 49), .ref (ad 50), .int bd])) hfr (by omega) (by omega)
  have hZ : sZ (dC, dI) vCl 52 ad (fun q => N0 ≤ q) s.heap (va_up w 43 (.inr (3, [.int cd, .ref (ad 44), .ref (ad 45), .ref (ad 46), .ref (ad 47), .int rm, .ref (ad 48), .ref (ad 49), .ref (ad 50), .int bd]))) H locs := hZ
  generalize va_up w 43 (.inr (3, [.int cd, .ref (ad 44), .ref (ad 45), .ref (ad 46), .ref (ad 47), .int rm, .ref (ad 48), .ref (ad 49), .ref (ad 50), .int bd])) = w79 at hZ hM hfr
  refine lv_aload_n hx hb d_Mod_least_12 rfl (lv_at hl 0 rfl) ?_
  refine q_get (C := R_Mod) (T := T_Mod) (N := 10) hx hb hts (fun w h => gm (inT_Mod w h)) hown hK hZ (43) (by decide) hM.1 rfl 0 (by decide) (hts _ (gm k_420)) (fun _ h9 => h9) rfl d_Mod_least_13 ?_
  refine lv_if_le (tgt := 21) hx hb d_Mod_least_16 (by decide) (fun h16 => ?_) (fun h16 => ?_)
  · skip
    first | exact absurd h16 (wX_ne hbad) | exact absurd h16 (wX_le hbad) | exact absurd (wX_gt hbad) h16
  · skip
    refine lv_iconst (v := (nI 0)) hx hb d_Mod_least_19 rfl ?_
    exact q_zret hx hb hr rfl hlocks hK hAm hZ hN (⟨hfr, ⟨_, _, _, _, _, _, _, _, _, hM, hB⟩⟩) d_Mod_least_20
set_option maxHeartbeats 4000000 in
set_option maxRecDepth 100000 in
theorem c_Mod_times (l : Launch) (dC : Nat → ClassId) (dI : Nat → Nat → Nat) (cI cL cB : ClassId) (ad : Nat → Nat) (N0 : Nat) (w : Nat → va_E) (t0 : Int32) (F : Nat → Int → Int64) (ja : Nat) (v : Int64) (jc : Nat) (hMM : sM ad cI cL w t0 F) (hja : ja < 8) (hjc : jc < 8) : Met l y_Mod_times ws_Mod_times ({ frames := 2, cells := 0, slots := 0, locals := 44 } : Room) (va_Pc [.ref (ad 43), .int (nI ja), .long v, .int (nI jc)] (sPr (dC, dI) vCl [(cI, .int), (cL, .long), (cB, .object "CoinBag$Bag")] 52 ad N0 w)) (va_Qi (fun r u => fr w u 43 50 ∧ (((∀ y, fM (F ja y) v) ∧ r = 1 ∧ sM ad cI cL u (nI 0) (va_up F jc (gT (F ja) v))) ∨ (¬ (∀ y, fM (F ja y) v) ∧ r = 0 ∧ sM ad cI cL u (nI 0) F))) (sPr (dC, dI) vCl [(cI, .int), (cL, .long), (cB, .object "CoinBag$Bag")] 52 ad N0) (fun q => N0 ≤ q)) 0 0 (fun q => N0 ≤ q) := by
  refine Met.ofW (cc := b_Mod_times) (maxL := 6) (ret := (some .boolean)) (by decide) rfl ?_
  intro p e s m args below meth c s₁ B hml hv
  obtain ⟨rfl, hP, hK, hD, hN, hAm⟩ := hv
  have hx := B.exec
  have hb := B.bytes
  have hr := B.returns
  have hts := atoms_spec (ws := ws_Mod_times) B.pre
  have hown : s.vm.findClass "CoinBagModel" = some m.cls := findClass_of_methodNamed B.named
  have hlocks := B.notSynchronized
  have hZ : sZ (dC, dI) vCl 52 ad (fun q => N0 ≤ q) s.heap w s.heap [] := ⟨hP, hD, va_S.rf⟩
  have hl := lv_entry ([.ref (ad 43), .int (nI ja), .long v, .int (nI jc)]) (n := 6) (Nat.le_of_ble_eq_true rfl)
  rw [lg_entry_eq]
  generalize (lg_sl ([.ref (ad 43), .int (nI ja), .long v, .int (nI jc)]) ++ List.replicate (6 - (lg_sl ([.ref (ad 43), .int (nI ja), .long v, .int (nI jc)])).length) Slot.unset).toArray = ls at hl ⊢
  have hl : lv_has ls 6 [(0, .ref (ad 43)), (1, .int (nI ja)), (2, .long v), (4, .int (nI jc))] := hl
  obtain ⟨mn, P, N, A, rm, rP, rN, rA, bd, hM, hB⟩ := hMM
  have hfr : fr w w 43 50 := fr_rf
  obtain ⟨za, hza, hmna, hRa⟩ := mB_at hB hja
  refine lv_aload_n hx hb d_Mod_times_0 rfl (lv_at hl 0 rfl) ?_
  refine lv_aload_n hx hb d_Mod_times_1 rfl (lv_at hl 0 rfl) ?_
  refine lv_iload_n hx hb d_Mod_times_2 rfl (lv_at hl 1 rfl) ?_
  refine lv_iload hx hb d_Mod_times_3 (lv_at hl 3 rfl) ?_
  refine lv_iconst (v := (nI 0)) hx hb d_Mod_times_5 rfl ?_
  refine lv_iconst (v := (nI 0)) hx hb d_Mod_times_6 rfl ?_
  refine q_calli (va_runV (As := [.int (nI ja), .int (nI jc), .int (nI 0), .int (nI 0)]) (rest := [.ref (ad 43)]) ⟨hx, hb, hml, hown, hts⟩ (c_Mod_wrong l dC dI cI cL cB ad N0 w t0 mn P N A rm rP rN rA bd (nI ja) (nI jc) (nI 0) (nI 0) hM) (cwV 4 hts (gI_V k_462 k_459 k_461 k_7 k_24) rfl rfl rfl (by decide +kernel) ⟨Nat.le_of_ble_eq_true rfl, Nat.le_of_ble_eq_true rfl⟩) (q_preV hK hAm hZ hN [.int (nI ja), .int (nI jc), .int (nI 0), .int (nI 0)] (43) 3 (by decide) hM.1 rfl) rfl rfl hl.1 rfl (lv_room (Nat.le_of_ble_eq_true rfl)) d_Mod_times_7 ⟨Nat.zero_le _, Nat.zero_le _⟩) hZ (fun r u_r H locs h_r hZ => ?_)
  obtain ⟨e_r, h_r⟩ := h_r
  rw [e_r] at hZ
  refine q_topi (y := nI 0) (wr_ok h_r ⟨okB_nI hja, okB_nI hjc, okB_0⟩ okP_0) ?_
  refine q_put (C := R_Mod) (T := T_Mod) (N := 10) (ty := .int) (v := .int (nI 0)) hx hb hts (fun w h => gm (inT_Mod w h)) ty_Mod tyo_Mod nm_Mod hown hK hZ (43) (by decide) hM.1 rfl 0 (by decide) (hts _ (gm k_420)) (fun _ h9 => h9) rfl (by decide +kernel) (rfl) (rfl) (Nat.le_of_ble_eq_true rfl) d_Mod_times_10 (fun H locs hZ => ?_)
  have hM := hM.up43 (nI 0) rm bd
  have hfr := fr_up (x := 43) (e := .inr (3, [.int (nI 0), .ref (ad 44), .ref (ad 45), .ref (ad 46), .ref (ad 47), .int rm, .ref (ad 48), .ref (ad 49), .ref (ad 50), .int bd])) hfr (by omega) (by omega)
  have hZ : sZ (dC, dI) vCl 52 ad (fun q => N0 ≤ q) s.heap (va_up w 43 (.inr (3, [.int (nI 0), .ref (ad 44), .ref (ad 45), .ref (ad 46), .ref (ad 47), .int rm, .ref (ad 48), .ref (ad 49), .ref (ad 50), .int bd]))) H locs := hZ
  generalize va_up w 43 (.inr (3, [.int (nI 0), .ref (ad 44), .ref (ad 45), .ref (ad 46), .ref (ad 47), .int rm, .ref (ad 48), .ref (ad 49), .ref (ad 50), .int bd])) = w80 at hZ hM hfr
  refine lv_aload_n hx hb d_Mod_times_13 rfl (lv_at hl 0 rfl) ?_
  refine q_get (C := R_Mod) (T := T_Mod) (N := 10) hx hb hts (fun w h => gm (inT_Mod w h)) hown hK hZ (43) (by decide) hM.1 rfl 0 (by decide) (hts _ (gm k_420)) (fun _ h9 => h9) rfl d_Mod_times_14 ?_
  refine lv_if_le (tgt := 22) hx hb d_Mod_times_17 (by decide) (fun h17 => ?_) (fun h17 => ?_)
  · skip
    have h17 : 0 ≤ 0 := (nI_leI (a := 0) (b := 0) (by omega) (by omega)).mp h17
    refine lv_aload_n hx hb d_Mod_times_22 rfl (lv_at hl 0 rfl) ?_
    refine q_callv (va_runV (As := []) (rest := []) ⟨hx, hb, hml, hown, hts⟩ (c_Mod_begin l dC dI cI cL cB ad N0 w80 (nI 0) mn P N A rm rP rN rA bd hM) (cwV 0 hts (gI_V k_503 k_500 k_502 k_13 k_24) rfl rfl rfl (by decide +kernel) ⟨Nat.le_of_ble_eq_true rfl, Nat.le_of_ble_eq_true rfl⟩) (q_preV hK hAm hZ hN [] (43) 3 (by decide) hM.1 rfl) rfl rfl hl.1 rfl (lv_room (Nat.le_of_ble_eq_true rfl)) d_Mod_times_23 ⟨Nat.zero_le _, Nat.zero_le _⟩) hZ (fun u_g9 H locs h_g9 hZ => ?_)
    obtain ⟨hf2, hM⟩ := h_g9
    have hfr := fr_tr hfr hf2 (Nat.le_refl _) (Nat.le_refl _)
    refine lv_bipush (v := (nI 64)) hx hb d_Mod_times_26 rfl ?_
    refine lv_iload_n hx hb d_Mod_times_28 rfl (lv_at hl 1 rfl) ?_
    refine lv_imul hx hb d_Mod_times_29 ?_
    refine q_topi (y := nI (64 * ja)) (pk_mul _ _) ?_
    refine lv_istore (lv' := [(5, .int (nI (64 * ja))), (0, .ref (ad 43)), (1, .int (nI ja)), (2, .long v), (4, .int (nI jc))]) hx hb d_Mod_times_30 hl (by decide) rfl (fun ls hl => ?_)
    have loop32 : ∀ (fu32 : Nat) (k rm : Nat) (rP : Nat → Int32) (rN rA : Nat → Int64) (bd : Int32) (u : Nat → va_E) (H : Heap) (locs : List Loc) (ls : Array Slot), (k ≤ za) → (za + 1 ≤ k + fu32) → (isMod ad cI cL u (nI 0) mn P N A (nI rm) rP rN rA bd) → (mRep rm rP rN rA (gS (gT (F ja) v) (sU (kM P N ja) k))) → (rm ≤ k) → (bZ bd (∀ y, (sU (kM P N ja) k) y → fM (F ja y) v)) → (fr w u 43 50) → sZ (dC, dI) vCl 52 ad (fun q => N0 ≤ q) s.heap u H locs → lv_has ls 6 [(5, .int (nI (64 * ja + k))), (0, .ref (ad 43)), (1, .int (nI ja)), (2, .long v), (4, .int (nI jc))] → W p l e (headSpec ws_Mod_times ({ frames := 2, cells := 0, slots := 0, locals := 44 } : Room)).room s m ([.ref (ad 43), .int (nI ja), .long v, .int (nI jc)]).toArray below meth c H locs 0 0 (MQ below (va_Qi (fun r u => fr w u 43 50 ∧ (((∀ y, fM (F ja y) v) ∧ r = 1 ∧ sM ad cI cL u (nI 0) (va_up F jc (gT (F ja) v))) ∨ (¬ (∀ y, fM (F ja y) v) ∧ r = 0 ∧ sM ad cI cL u (nI 0) F))) (sPr (dC, dI) vCl [(cI, .int), (cL, .long), (cB, .object "CoinBag$Bag")] 52 ad N0) (fun q => N0 ≤ q)) ([.ref (ad 43), .int (nI ja), .long v, .int (nI jc)]).toArray s 0 0 (fun q => N0 ≤ q)) (F0 m 32 ls []) := by
      intro fu32
      induction fu32 with
      | zero =>
        intro k rm rP rN rA bd u H locs ls hk hf9 hM hrow hrm hbd hfr
        omega
      | succ fu32 ih32 =>
        intro k rm rP rN rA bd u H locs ls hk hf9 hM hrow hrm hbd hfr hZ hl
        refine lv_iload hx hb d_Mod_times_32 (lv_at hl 0 rfl) ?_
        refine lv_bipush (v := (nI 64)) hx hb d_Mod_times_34 rfl ?_
        refine lv_iload_n hx hb d_Mod_times_36 rfl (lv_at hl 2 rfl) ?_
        refine lv_imul hx hb d_Mod_times_37 ?_
        refine q_topi (y := nI (64 * ja)) (pk_mul _ _) ?_
        refine lv_aload_n hx hb d_Mod_times_38 rfl (lv_at hl 1 rfl) ?_
        refine q_get (C := R_Mod) (T := T_Mod) (N := 10) hx hb hts (fun w h => gm (inT_Mod w h)) hown hK hZ (43) (by decide) hM.1 rfl 1 (by decide) (hts _ (gm k_421)) (fun _ h9 => h9) rfl d_Mod_times_39 ?_
        refine lv_iload_n hx hb d_Mod_times_42 rfl (lv_at hl 2 rfl) ?_
        refine q_iald hx hb hK hZ (44) 0 (ja) (by decide) hM.2.1 rfl rfl (by omega) (by decide) d_Mod_times_43 ?_
        refine q_topi (y := nI za) (hmna) ?_
        refine lv_iadd hx hb d_Mod_times_44 ?_
        refine q_topi (y := nI ((64 * ja) + za)) (nI_add _ _) ?_
        refine lv_icmp_ge (tgt := 84) hx hb d_Mod_times_45 (by decide) (fun h45 => ?_) (fun h45 => ?_)
        · skip
          have h45 : ((64 * ja) + za) ≤ (64 * ja + k) := (nI_leI (a := ((64 * ja) + za)) (b := (64 * ja + k)) (by omega) (by omega)).mp h45
          have ek : k = za := by omega
          rw [ek] at hrow hbd hrm
          refine lv_aload_n hx hb d_Mod_times_84 rfl (lv_at hl 1 rfl) ?_
          refine lv_iload hx hb d_Mod_times_85 (lv_at hl 4 rfl) ?_
          have hrow := rw_end hrow (fun y hy => hRa.2.1.2 y (fun e => hy (by unfold gT; rw [e, Int64.zero_mul])))
          refine q_calli (va_runV (As := [.int (nI jc)]) (rest := []) ⟨hx, hb, hml, hown, hts⟩ (c_Mod_becomes l dC dI cI cL cB ad N0 u (nI 0) mn P N A rm rP rN rA bd jc F (gT (F ja) v) hM hjc (by omega) hB hrow) (cwV 1 hts (gI_V k_515 k_512 k_514 k_16 k_24) rfl rfl rfl (by decide +kernel) ⟨Nat.le_of_ble_eq_true rfl, Nat.le_of_ble_eq_true rfl⟩) (q_preV hK hAm hZ hN [.int (nI jc)] (43) 3 (by decide) hM.1 rfl) rfl rfl hl.1 rfl (lv_room (Nat.le_of_ble_eq_true rfl)) d_Mod_times_87 ⟨Nat.zero_le _, Nat.zero_le _⟩) hZ (fun s9 u_s9 H locs h_s9 hZ => ?_)
          exact q_zret hx hb hr (show narrow .boolean (.int s9) = .int s9 from by rcases h_s9.2 with ⟨_, e9, _⟩ | ⟨_, e9, _⟩ <;> rw [e9] <;> rfl) hlocks hK hAm hZ hN (⟨fr_tr hfr h_s9.1 (Nat.le_refl _) (Nat.le_refl _), b1_end h_s9.2 (bz_all hRa.2.1.2 (fun y e => by rw [e]; exact fM_0l v) hbd) (by omega)⟩) d_Mod_times_90
        · skip
          have h45 : (64 * ja + k) < ((64 * ja) + za) := Nat.lt_of_not_le (fun z9 => h45 ((nI_leI (a := ((64 * ja) + za)) (b := (64 * ja + k)) (by omega) (by omega)).mpr z9))
          refine lv_aload_n hx hb d_Mod_times_48 rfl (lv_at hl 1 rfl) ?_
          refine lv_aload_n hx hb d_Mod_times_49 rfl (lv_at hl 1 rfl) ?_
          refine q_get (C := R_Mod) (T := T_Mod) (N := 10) hx hb hts (fun w h => gm (inT_Mod w h)) hown hK hZ (43) (by decide) hM.1 rfl 2 (by decide) (hts _ (gm k_422)) (fun _ h9 => h9) rfl d_Mod_times_50 ?_
          refine lv_iload hx hb d_Mod_times_53 (lv_at hl 0 rfl) ?_
          refine q_iald hx hb hK hZ (45) 0 ((64 * ja + k)) (by decide) hM.2.2.1 rfl rfl (by omega) (by decide) d_Mod_times_55 ?_
          refine lv_aload_n hx hb d_Mod_times_56 rfl (lv_at hl 1 rfl) ?_
          refine q_get (C := R_Mod) (T := T_Mod) (N := 10) hx hb hts (fun w h => gm (inT_Mod w h)) hown hK hZ (43) (by decide) hM.1 rfl 3 (by decide) (hts _ (gm k_423)) (fun _ h9 => h9) rfl d_Mod_times_57 ?_
          refine lv_iload hx hb d_Mod_times_60 (lv_at hl 0 rfl) ?_
          refine q_lald hx hb hK hZ (46) 1 ((64 * ja + k)) (by decide) hM.2.2.2.1 rfl rfl (by omega) (by decide) d_Mod_times_62 ?_
          refine lv_aload_n hx hb d_Mod_times_63 rfl (lv_at hl 1 rfl) ?_
          refine lv_aload_n hx hb d_Mod_times_64 rfl (lv_at hl 1 rfl) ?_
          refine q_get (C := R_Mod) (T := T_Mod) (N := 10) hx hb hts (fun w h => gm (inT_Mod w h)) hown hK hZ (43) (by decide) hM.1 rfl 4 (by decide) (hts _ (gm k_424)) (fun _ h9 => h9) rfl d_Mod_times_65 ?_
          refine lv_iload hx hb d_Mod_times_68 (lv_at hl 0 rfl) ?_
          refine q_lald hx hb hK hZ (47) 1 ((64 * ja + k)) (by decide) hM.2.2.2.2.1 rfl rfl (by omega) (by decide) d_Mod_times_70 ?_
          refine lv_lload_n hx hb d_Mod_times_71 rfl (lv_at hl 3 rfl) ?_
          refine q_calll (va_runV (As := [.long (A (64 * ja + k)), .long v]) (rest := [.long (N (64 * ja + k)), .int (P (64 * ja + k)), .ref (ad 43)]) ⟨hx, hb, hml, hown, hts⟩ (c_Mod_multiplied l dC dI cI cL cB ad N0 u (nI 0) mn P N A (nI rm) rP rN rA bd (A (64 * ja + k)) v hM) (cwV 2 hts (gI_V k_527 k_524 k_526 k_17 k_24) rfl rfl rfl (by decide +kernel) ⟨Nat.le_of_ble_eq_true rfl, Nat.le_of_ble_eq_true rfl⟩) (q_preV hK hAm hZ hN [.long (A (64 * ja + k)), .long v] (43) 3 (by decide) hM.1 rfl) rfl rfl hl.1 rfl (lv_room (Nat.le_of_ble_eq_true rfl)) d_Mod_times_72 ⟨Nat.zero_le _, Nat.zero_le _⟩) hZ (fun a9 u_a9 H locs h_a9 hZ => ?_)
          obtain ⟨hf2, e_a, b2, hM, hb2⟩ := h_a9
          have hfr := fr_tr hfr hf2 (Nat.le_refl _) (Nat.le_refl _)
          have eA : A (64 * ja + k) = F ja (kM P N ja k) := hRa.2.2 k (by omega)
          have hbd2 : bZ b2 (bd = 0 ∧ fM (F ja (kM P N ja k)) v) := by rw [← eA]; exact hb2
          refine q_topl (y := gT (F ja) v (kM P N ja k)) (e_a.trans (by rw [eA]; rfl)) ?_
          refine q_callv (va_runV (As := [.int (P (64 * ja + k)), .long (N (64 * ja + k)), .long (gT (F ja) v (kM P N ja k))]) (rest := []) ⟨hx, hb, hml, hown, hts⟩ (c_Mod_lay l dC dI cI cL cB ad N0 u_a9 (nI 0) mn P N A rm rP rN rA b2 (P (64 * ja + k)) (N (64 * ja + k)) (gT (F ja) v (kM P N ja k)) hM (by omega)) (cwV 3 hts (gI_V k_511 k_508 k_510 k_15 k_24) rfl rfl rfl (by decide +kernel) ⟨Nat.le_of_ble_eq_true rfl, Nat.le_of_ble_eq_true rfl⟩) (q_preV hK hAm hZ hN [.int (P (64 * ja + k)), .long (N (64 * ja + k)), .long (gT (F ja) v (kM P N ja k))] (43) 3 (by decide) hM.1 rfl) rfl rfl hl.1 rfl (lv_room (Nat.le_of_ble_eq_true rfl)) d_Mod_times_75 ⟨Nat.zero_le _, Nat.zero_le _⟩) hZ (fun u_y9 H locs h_y9 hZ => ?_)
          obtain ⟨hf3, h_y9⟩ := h_y9
          have hfr := fr_tr hfr hf3 (Nat.le_refl _) (Nat.le_refl _)
          rcases h_y9 with ⟨hv9, e_y9⟩ | ⟨hv9, hM⟩
          · skip
            rw [e_y9] at hZ
            have hfr : fr w u_a9 43 50 := by rw [e_y9] at hfr; exact hfr
            refine lv_iinc (v := (nI ((64 * ja + k) + 1))) (lv' := [(5, .int (nI ((64 * ja + k) + 1))), (0, .ref (ad 43)), (1, .int (nI ja)), (2, .long v), (4, .int (nI jc))]) hx hb d_Mod_times_78 hl (k := 0) rfl (nI_1 _) (by decide) rfl (fun ls hl => ?_)
            refine lv_goto (tgt := 32) hx hb d_Mod_times_81 (by decide) ?_
            exact ih32 (k + 1) rm rP rN rA b2 u_a9 _ _ _ (by omega) (by omega) hM (rw_n hrow (sU_s (k := kM P N ja)) hv9) (by omega) (bz_s hbd hbd2 (sU_s (k := kM P N ja))) hfr hZ (lv_sub hl [0, 1, 2, 3, 4] rfl)
          · skip
            refine lv_iinc (v := (nI ((64 * ja + k) + 1))) (lv' := [(5, .int (nI ((64 * ja + k) + 1))), (0, .ref (ad 43)), (1, .int (nI ja)), (2, .long v), (4, .int (nI jc))]) hx hb d_Mod_times_78 hl (k := 0) rfl (nI_1 _) (by decide) rfl (fun ls hl => ?_)
            refine lv_goto (tgt := 32) hx hb d_Mod_times_81 (by decide) ?_
            exact ih32 (k + 1) (rm + 1) _ _ _ b2 u_y9 _ _ _ (by omega) (by omega) hM (rw_y hrow (sU_s (k := kM P N ja)) (sU_f hRa.1 (by omega)) hv9) (by omega) (bz_s hbd hbd2 (sU_s (k := kM P N ja))) hfr hZ (lv_sub hl [0, 1, 2, 3, 4] rfl)
    exact loop32 (za + 1) 0 0 rP rN rA (nI 0) u_g9 _ _ _ (Nat.zero_le za) (by omega) hM (rw_0 sU_0) (by omega) (bz_0 sU_0) hfr hZ (lv_sub hl [0, 1, 2, 3, 4] rfl)
  · skip
    have h17 : 0 < 0 := Nat.lt_of_not_le (fun z9 => h17 ((nI_leI (a := 0) (b := 0) (by omega) (by omega)).mpr z9))
    exact absurd h17 (by decide)
set_option maxHeartbeats 4000000 in
set_option maxRecDepth 100000 in
theorem x_Mod_times (l : Launch) (dC : Nat → ClassId) (dI : Nat → Nat → Nat) (cI cL cB : ClassId) (ad : Nat → Nat) (N0 : Nat) (w : Nat → va_E) (t0 : Int32) (F : Nat → Int → Int64) (a : Int32) (v : Int64) (c2 : Int32) (cd : Int32) (hMM : sM ad cI cL w t0 F) (hbad : wX a c2 (nI 0) (nI 0) cd) : Met l y_Mod_times ws_Mod_times ({ frames := 2, cells := 0, slots := 0, locals := 44 } : Room) (va_Pc [.ref (ad 43), .int a, .long v, .int c2] (sPr (dC, dI) vCl [(cI, .int), (cL, .long), (cB, .object "CoinBag$Bag")] 52 ad N0 w)) (va_Qi (fun r u => fr w u 43 50 ∧ sM ad cI cL u cd F) (sPr (dC, dI) vCl [(cI, .int), (cL, .long), (cB, .object "CoinBag$Bag")] 52 ad N0) (fun q => N0 ≤ q)) 0 0 (fun q => N0 ≤ q) := by
  refine Met.ofW (cc := b_Mod_times) (maxL := 6) (ret := (some .boolean)) (by decide) rfl ?_
  intro p e s m args below meth c s₁ B hml hv
  obtain ⟨rfl, hP, hK, hD, hN, hAm⟩ := hv
  have hx := B.exec
  have hb := B.bytes
  have hr := B.returns
  have hts := atoms_spec (ws := ws_Mod_times) B.pre
  have hown : s.vm.findClass "CoinBagModel" = some m.cls := findClass_of_methodNamed B.named
  have hlocks := B.notSynchronized
  have hZ : sZ (dC, dI) vCl 52 ad (fun q => N0 ≤ q) s.heap w s.heap [] := ⟨hP, hD, va_S.rf⟩
  have hl := lv_entry ([.ref (ad 43), .int a, .long v, .int c2]) (n := 6) (Nat.le_of_ble_eq_true rfl)
  rw [lg_entry_eq]
  generalize (lg_sl ([.ref (ad 43), .int a, .long v, .int c2]) ++ List.replicate (6 - (lg_sl ([.ref (ad 43), .int a, .long v, .int c2])).length) Slot.unset).toArray = ls at hl ⊢
  have hl : lv_has ls 6 [(0, .ref (ad 43)), (1, .int a), (2, .long v), (4, .int c2)] := hl
  obtain ⟨mn, P, N, A, rm, rP, rN, rA, bd, hM, hB⟩ := hMM
  have hfr : fr w w 43 50 := fr_rf
  refine lv_aload_n hx hb d_Mod_times_0 rfl (lv_at hl 0 rfl) ?_
  refine lv_aload_n hx hb d_Mod_times_1 rfl (lv_at hl 0 rfl) ?_
  refine lv_iload_n hx hb d_Mod_times_2 rfl (lv_at hl 1 rfl) ?_
  refine lv_iload hx hb d_Mod_times_3 (lv_at hl 3 rfl) ?_
  refine lv_iconst (v := (nI 0)) hx hb d_Mod_times_5 rfl ?_
  refine lv_iconst (v := (nI 0)) hx hb d_Mod_times_6 rfl ?_
  refine q_calli (va_runV (As := [.int a, .int c2, .int (nI 0), .int (nI 0)]) (rest := [.ref (ad 43)]) ⟨hx, hb, hml, hown, hts⟩ (c_Mod_wrong l dC dI cI cL cB ad N0 w t0 mn P N A rm rP rN rA bd a c2 (nI 0) (nI 0) hM) (cwV 4 hts (gI_V k_462 k_459 k_461 k_7 k_24) rfl rfl rfl (by decide +kernel) ⟨Nat.le_of_ble_eq_true rfl, Nat.le_of_ble_eq_true rfl⟩) (q_preV hK hAm hZ hN [.int a, .int c2, .int (nI 0), .int (nI 0)] (43) 3 (by decide) hM.1 rfl) rfl rfl hl.1 rfl (lv_room (Nat.le_of_ble_eq_true rfl)) d_Mod_times_7 ⟨Nat.zero_le _, Nat.zero_le _⟩) hZ (fun r u_r H locs h_r hZ => ?_)
  obtain ⟨e_r, h_r⟩ := h_r
  rw [e_r] at hZ
  refine q_topi (y := cd) (wr_x h_r hbad) ?_
  refine q_put (C := R_Mod) (T := T_Mod) (N := 10) (ty := .int) (v := .int cd) hx hb hts (fun w h => gm (inT_Mod w h)) ty_Mod tyo_Mod nm_Mod hown hK hZ (43) (by decide) hM.1 rfl 0 (by decide) (hts _ (gm k_420)) (fun _ h9 => h9) rfl (by decide +kernel) (rfl) (rfl) (Nat.le_of_ble_eq_true rfl) d_Mod_times_10 (fun H locs hZ => ?_)
  have hM := hM.up43 cd rm bd
  have hfr := fr_up (x := 43) (e := .inr (3, [.int cd, .ref (ad 44), .ref (ad 45), .ref (ad 46), .ref (ad 47), .int rm, .ref (ad 48), .ref (ad 49), .ref (ad 50), .int bd])) hfr (by omega) (by omega)
  have hZ : sZ (dC, dI) vCl 52 ad (fun q => N0 ≤ q) s.heap (va_up w 43 (.inr (3, [.int cd, .ref (ad 44), .ref (ad 45), .ref (ad 46), .ref (ad 47), .int rm, .ref (ad 48), .ref (ad 49), .ref (ad 50), .int bd]))) H locs := hZ
  generalize va_up w 43 (.inr (3, [.int cd, .ref (ad 44), .ref (ad 45), .ref (ad 46), .ref (ad 47), .int rm, .ref (ad 48), .ref (ad 49), .ref (ad 50), .int bd])) = w81 at hZ hM hfr
  refine lv_aload_n hx hb d_Mod_times_13 rfl (lv_at hl 0 rfl) ?_
  refine q_get (C := R_Mod) (T := T_Mod) (N := 10) hx hb hts (fun w h => gm (inT_Mod w h)) hown hK hZ (43) (by decide) hM.1 rfl 0 (by decide) (hts _ (gm k_420)) (fun _ h9 => h9) rfl d_Mod_times_14 ?_
  refine lv_if_le (tgt := 22) hx hb d_Mod_times_17 (by decide) (fun h17 => ?_) (fun h17 => ?_)
  · skip
    first | exact absurd h17 (wX_ne hbad) | exact absurd h17 (wX_le hbad) | exact absurd (wX_gt hbad) h17
  · skip
    refine lv_iconst (v := (nI 0)) hx hb d_Mod_times_20 rfl ?_
    exact q_zret hx hb hr rfl hlocks hK hAm hZ hN (⟨hfr, ⟨_, _, _, _, _, _, _, _, _, hM, hB⟩⟩) d_Mod_times_21
set_option maxHeartbeats 4000000 in
set_option maxRecDepth 100000 in
theorem c_Mod_only (l : Launch) (dC : Nat → ClassId) (dI : Nat → Nat → Nat) (cI cL cB : ClassId) (ad : Nat → Nat) (N0 : Nat) (w : Nat → va_E) (t0 : Int32) (F : Nat → Int → Int64) (ja : Nat) (q iz : Int32) (jc : Nat) (hMM : sM ad cI cL w t0 F) (hja : ja < 8) (hjc : jc < 8) (hq : okP q) (hiz : iz = 0 ∨ iz = 1) : Met l y_Mod_only ws_Mod_only ({ frames := 2, cells := 0, slots := 0, locals := 44 } : Room) (va_Pc [.ref (ad 43), .int (nI ja), .int q, .int iz, .int (nI jc)] (sPr (dC, dI) vCl [(cI, .int), (cL, .long), (cB, .object "CoinBag$Bag")] 52 ad N0 w)) (va_Qv (fun u => fr w u 43 50 ∧ sM ad cI cL u (nI 0) (va_up F jc (gO (F ja) q iz))) (sPr (dC, dI) vCl [(cI, .int), (cL, .long), (cB, .object "CoinBag$Bag")] 52 ad N0) (fun q => N0 ≤ q)) 0 0 (fun q => N0 ≤ q) := by
  refine Met.ofW (cc := b_Mod_only) (maxL := 6) (ret := none) (by decide) rfl ?_
  intro p e s m args below meth c s₁ B hml hv
  obtain ⟨rfl, hP, hK, hD, hN, hAm⟩ := hv
  have hx := B.exec
  have hb := B.bytes
  have hr := B.returns
  have hts := atoms_spec (ws := ws_Mod_only) B.pre
  have hown : s.vm.findClass "CoinBagModel" = some m.cls := findClass_of_methodNamed B.named
  have hlocks := B.notSynchronized
  have hZ : sZ (dC, dI) vCl 52 ad (fun q => N0 ≤ q) s.heap w s.heap [] := ⟨hP, hD, va_S.rf⟩
  have hl := lv_entry ([.ref (ad 43), .int (nI ja), .int q, .int iz, .int (nI jc)]) (n := 6) (Nat.le_of_ble_eq_true rfl)
  rw [lg_entry_eq]
  generalize (lg_sl ([.ref (ad 43), .int (nI ja), .int q, .int iz, .int (nI jc)]) ++ List.replicate (6 - (lg_sl ([.ref (ad 43), .int (nI ja), .int q, .int iz, .int (nI jc)])).length) Slot.unset).toArray = ls at hl ⊢
  have hl : lv_has ls 6 [(0, .ref (ad 43)), (1, .int (nI ja)), (2, .int q), (3, .int iz), (4, .int (nI jc))] := hl
  obtain ⟨mn, P, N, A, rm, rP, rN, rA, bd, hM, hB⟩ := hMM
  have hfr : fr w w 43 50 := fr_rf
  obtain ⟨za, hza, hmna, hRa⟩ := mB_at hB hja
  refine lv_aload_n hx hb d_Mod_only_0 rfl (lv_at hl 0 rfl) ?_
  refine lv_aload_n hx hb d_Mod_only_1 rfl (lv_at hl 0 rfl) ?_
  refine lv_iload_n hx hb d_Mod_only_2 rfl (lv_at hl 1 rfl) ?_
  refine lv_iload hx hb d_Mod_only_3 (lv_at hl 4 rfl) ?_
  refine lv_iconst (v := (nI 0)) hx hb d_Mod_only_5 rfl ?_
  refine lv_iload_n hx hb d_Mod_only_6 rfl (lv_at hl 2 rfl) ?_
  refine q_calli (va_runV (As := [.int (nI ja), .int (nI jc), .int (nI 0), .int q]) (rest := [.ref (ad 43)]) ⟨hx, hb, hml, hown, hts⟩ (c_Mod_wrong l dC dI cI cL cB ad N0 w t0 mn P N A rm rP rN rA bd (nI ja) (nI jc) (nI 0) q hM) (cwV 4 hts (gI_V k_462 k_459 k_461 k_7 k_24) rfl rfl rfl (by decide +kernel) ⟨Nat.le_of_ble_eq_true rfl, Nat.le_of_ble_eq_true rfl⟩) (q_preV hK hAm hZ hN [.int (nI ja), .int (nI jc), .int (nI 0), .int q] (43) 3 (by decide) hM.1 rfl) rfl rfl hl.1 rfl (lv_room (Nat.le_of_ble_eq_true rfl)) d_Mod_only_7 ⟨Nat.zero_le _, Nat.zero_le _⟩) hZ (fun r u_r H locs h_r hZ => ?_)
  obtain ⟨e_r, h_r⟩ := h_r
  rw [e_r] at hZ
  refine q_topi (y := nI 0) (wr_ok h_r ⟨okB_nI hja, okB_nI hjc, okB_0⟩ hq) ?_
  refine q_put (C := R_Mod) (T := T_Mod) (N := 10) (ty := .int) (v := .int (nI 0)) hx hb hts (fun w h => gm (inT_Mod w h)) ty_Mod tyo_Mod nm_Mod hown hK hZ (43) (by decide) hM.1 rfl 0 (by decide) (hts _ (gm k_420)) (fun _ h9 => h9) rfl (by decide +kernel) (rfl) (rfl) (Nat.le_of_ble_eq_true rfl) d_Mod_only_10 (fun H locs hZ => ?_)
  have hM := hM.up43 (nI 0) rm bd
  have hfr := fr_up (x := 43) (e := .inr (3, [.int (nI 0), .ref (ad 44), .ref (ad 45), .ref (ad 46), .ref (ad 47), .int rm, .ref (ad 48), .ref (ad 49), .ref (ad 50), .int bd])) hfr (by omega) (by omega)
  have hZ : sZ (dC, dI) vCl 52 ad (fun q => N0 ≤ q) s.heap (va_up w 43 (.inr (3, [.int (nI 0), .ref (ad 44), .ref (ad 45), .ref (ad 46), .ref (ad 47), .int rm, .ref (ad 48), .ref (ad 49), .ref (ad 50), .int bd]))) H locs := hZ
  generalize va_up w 43 (.inr (3, [.int (nI 0), .ref (ad 44), .ref (ad 45), .ref (ad 46), .ref (ad 47), .int rm, .ref (ad 48), .ref (ad 49), .ref (ad 50), .int bd])) = w82 at hZ hM hfr
  refine lv_aload_n hx hb d_Mod_only_13 rfl (lv_at hl 0 rfl) ?_
  refine q_get (C := R_Mod) (T := T_Mod) (N := 10) hx hb hts (fun w h => gm (inT_Mod w h)) hown hK hZ (43) (by decide) hM.1 rfl 0 (by decide) (hts _ (gm k_420)) (fun _ h9 => h9) rfl d_Mod_only_14 ?_
  refine lv_if_le (tgt := 21) hx hb d_Mod_only_17 (by decide) (fun h17 => ?_) (fun h17 => ?_)
  · skip
    have h17 : 0 ≤ 0 := (nI_leI (a := 0) (b := 0) (by omega) (by omega)).mp h17
    refine lv_aload_n hx hb d_Mod_only_21 rfl (lv_at hl 0 rfl) ?_
    refine q_callv (va_runV (As := []) (rest := []) ⟨hx, hb, hml, hown, hts⟩ (c_Mod_begin l dC dI cI cL cB ad N0 w82 (nI 0) mn P N A rm rP rN rA bd hM) (cwV 0 hts (gI_V k_503 k_500 k_502 k_13 k_24) rfl rfl rfl (by decide +kernel) ⟨Nat.le_of_ble_eq_true rfl, Nat.le_of_ble_eq_true rfl⟩) (q_preV hK hAm hZ hN [] (43) 3 (by decide) hM.1 rfl) rfl rfl hl.1 rfl (lv_room (Nat.le_of_ble_eq_true rfl)) d_Mod_only_22 ⟨Nat.zero_le _, Nat.zero_le _⟩) hZ (fun u_g9 H locs h_g9 hZ => ?_)
    obtain ⟨hf2, hM⟩ := h_g9
    have hfr := fr_tr hfr hf2 (Nat.le_refl _) (Nat.le_refl _)
    refine lv_bipush (v := (nI 64)) hx hb d_Mod_only_25 rfl ?_
    refine lv_iload_n hx hb d_Mod_only_27 rfl (lv_at hl 1 rfl) ?_
    refine lv_imul hx hb d_Mod_only_28 ?_
    refine q_topi (y := nI (64 * ja)) (pk_mul _ _) ?_
    refine lv_istore (lv' := [(5, .int (nI (64 * ja))), (0, .ref (ad 43)), (1, .int (nI ja)), (2, .int q), (3, .int iz), (4, .int (nI jc))]) hx hb d_Mod_only_29 hl (by decide) rfl (fun ls hl => ?_)
    have loop31 : ∀ (fu31 : Nat) (k rm : Nat) (rP : Nat → Int32) (rN rA : Nat → Int64) (bd : Int32) (u : Nat → va_E) (H : Heap) (locs : List Loc) (ls : Array Slot), (k ≤ za) → (za + 1 ≤ k + fu31) → (isMod ad cI cL u (nI 0) mn P N A (nI rm) rP rN rA bd) → (mRep rm rP rN rA (gS (gO (F ja) q iz) (sU (kM P N ja) k))) → (rm ≤ k) → (bZ bd (∀ y, (sU (kM P N ja) k) y → True)) → (fr w u 43 50) → sZ (dC, dI) vCl 52 ad (fun q => N0 ≤ q) s.heap u H locs → lv_has ls 6 [(5, .int (nI (64 * ja + k))), (0, .ref (ad 43)), (1, .int (nI ja)), (2, .int q), (3, .int iz), (4, .int (nI jc))] → W p l e (headSpec ws_Mod_only ({ frames := 2, cells := 0, slots := 0, locals := 44 } : Room)).room s m ([.ref (ad 43), .int (nI ja), .int q, .int iz, .int (nI jc)]).toArray below meth c H locs 0 0 (MQ below (va_Qv (fun u => fr w u 43 50 ∧ sM ad cI cL u (nI 0) (va_up F jc (gO (F ja) q iz))) (sPr (dC, dI) vCl [(cI, .int), (cL, .long), (cB, .object "CoinBag$Bag")] 52 ad N0) (fun q => N0 ≤ q)) ([.ref (ad 43), .int (nI ja), .int q, .int iz, .int (nI jc)]).toArray s 0 0 (fun q => N0 ≤ q)) (F0 m 31 ls []) := by
      intro fu31
      induction fu31 with
      | zero =>
        intro k rm rP rN rA bd u H locs ls hk hf9 hM hrow hrm hbd hfr
        omega
      | succ fu31 ih31 =>
        intro k rm rP rN rA bd u H locs ls hk hf9 hM hrow hrm hbd hfr hZ hl
        refine lv_iload hx hb d_Mod_only_31 (lv_at hl 0 rfl) ?_
        refine lv_bipush (v := (nI 64)) hx hb d_Mod_only_33 rfl ?_
        refine lv_iload_n hx hb d_Mod_only_35 rfl (lv_at hl 2 rfl) ?_
        refine lv_imul hx hb d_Mod_only_36 ?_
        refine q_topi (y := nI (64 * ja)) (pk_mul _ _) ?_
        refine lv_aload_n hx hb d_Mod_only_37 rfl (lv_at hl 1 rfl) ?_
        refine q_get (C := R_Mod) (T := T_Mod) (N := 10) hx hb hts (fun w h => gm (inT_Mod w h)) hown hK hZ (43) (by decide) hM.1 rfl 1 (by decide) (hts _ (gm k_421)) (fun _ h9 => h9) rfl d_Mod_only_38 ?_
        refine lv_iload_n hx hb d_Mod_only_41 rfl (lv_at hl 2 rfl) ?_
        refine q_iald hx hb hK hZ (44) 0 (ja) (by decide) hM.2.1 rfl rfl (by omega) (by decide) d_Mod_only_42 ?_
        refine q_topi (y := nI za) (hmna) ?_
        refine lv_iadd hx hb d_Mod_only_43 ?_
        refine q_topi (y := nI ((64 * ja) + za)) (nI_add _ _) ?_
        refine lv_icmp_ge (tgt := 98) hx hb d_Mod_only_44 (by decide) (fun h44 => ?_) (fun h44 => ?_)
        · skip
          have h44 : ((64 * ja) + za) ≤ (64 * ja + k) := (nI_leI (a := ((64 * ja) + za)) (b := (64 * ja + k)) (by omega) (by omega)).mp h44
          have ek : k = za := by omega
          rw [ek] at hrow hbd hrm
          refine lv_aload_n hx hb d_Mod_only_98 rfl (lv_at hl 1 rfl) ?_
          refine lv_iload hx hb d_Mod_only_99 (lv_at hl 5 rfl) ?_
          have hrow := rw_end hrow (fun y hy => hRa.2.1.2 y (fun e => hy (by unfold gO; rw [e]; split <;> rfl)))
          refine q_calli (va_runV (As := [.int (nI jc)]) (rest := []) ⟨hx, hb, hml, hown, hts⟩ (c_Mod_becomes l dC dI cI cL cB ad N0 u (nI 0) mn P N A rm rP rN rA bd jc F (gO (F ja) q iz) hM hjc (by omega) hB hrow) (cwV 1 hts (gI_V k_515 k_512 k_514 k_16 k_24) rfl rfl rfl (by decide +kernel) ⟨Nat.le_of_ble_eq_true rfl, Nat.le_of_ble_eq_true rfl⟩) (q_preV hK hAm hZ hN [.int (nI jc)] (43) 3 (by decide) hM.1 rfl) rfl rfl hl.1 rfl (lv_room (Nat.le_of_ble_eq_true rfl)) d_Mod_only_101 ⟨Nat.zero_le _, Nat.zero_le _⟩) hZ (fun s9 u_s9 H locs h_s9 hZ => ?_)
          refine lv_istore (lv' := [(5, .int s9), (0, .ref (ad 43)), (1, .int (nI ja)), (2, .int q), (3, .int iz), (4, .int (nI jc))]) hx hb d_Mod_only_104 hl (by decide) rfl (fun ls hl => ?_)
          exact q_vret hx hb hr hlocks hK hAm hZ hN (⟨fr_tr hfr h_s9.1 (Nat.le_refl _) (Nat.le_refl _), b0_end h_s9.2 (hbd.mpr (fun _ _ => trivial)) (by omega)⟩) d_Mod_only_106
        · skip
          have h44 : (64 * ja + k) < ((64 * ja) + za) := Nat.lt_of_not_le (fun z9 => h44 ((nI_leI (a := ((64 * ja) + za)) (b := (64 * ja + k)) (by omega) (by omega)).mpr z9))
          refine lv_aload_n hx hb d_Mod_only_47 rfl (lv_at hl 1 rfl) ?_
          refine q_get (C := R_Mod) (T := T_Mod) (N := 10) hx hb hts (fun w h => gm (inT_Mod w h)) hown hK hZ (43) (by decide) hM.1 rfl 2 (by decide) (hts _ (gm k_422)) (fun _ h9 => h9) rfl d_Mod_only_48 ?_
          refine lv_iload hx hb d_Mod_only_51 (lv_at hl 0 rfl) ?_
          refine q_iald hx hb hK hZ (45) 0 ((64 * ja + k)) (by decide) hM.2.2.1 rfl rfl (by omega) (by decide) d_Mod_only_53 ?_
          refine lv_iload_n hx hb d_Mod_only_54 rfl (lv_at hl 3 rfl) ?_
          refine lv_icmp_ne (tgt := 62) hx hb d_Mod_only_55 (by decide) (fun h55 => ?_) (fun h55 => ?_)
          · skip
            refine lv_iconst (v := (nI 0)) hx hb d_Mod_only_62 rfl ?_
            refine lv_iload_n hx hb d_Mod_only_63 rfl (lv_at hl 4 rfl) ?_
            refine lv_icmp_ne (tgt := 92) hx hb d_Mod_only_64 (by decide) (fun h64 => ?_) (fun h64 => ?_)
            · skip
              have hg : ¬ decide (pO (kM P N ja k) = q.toInt) = decide (iz = 1) := by first | exact gO_b (P := fun i => P (64 * ja + i)) (N := fun i => N (64 * ja + i)) h55 hiz h64 | exact gO_d (P := fun i => P (64 * ja + i)) (N := fun i => N (64 * ja + i)) h55 hiz h64
              have hv9 : gO (F ja) q iz (kM P N ja k) = 0 := gO_n hg
              have hbd2 : bZ bd (bd = 0 ∧ True) := ⟨fun y => ⟨y, trivial⟩, fun y => y.1⟩
              refine lv_iinc (v := (nI ((64 * ja + k) + 1))) (lv' := [(5, .int (nI ((64 * ja + k) + 1))), (0, .ref (ad 43)), (1, .int (nI ja)), (2, .int q), (3, .int iz), (4, .int (nI jc))]) hx hb d_Mod_only_92 hl (k := 0) rfl (nI_1 _) (by decide) rfl (fun ls hl => ?_)
              refine lv_goto (tgt := 31) hx hb d_Mod_only_95 (by decide) ?_
              exact ih31 (k + 1) rm rP rN rA bd u _ _ _ (by omega) (by omega) hM (rw_n hrow (sU_s (k := kM P N ja)) hv9) (by omega) (bz_s hbd hbd2 (sU_s (k := kM P N ja))) hfr hZ (lv_sub hl [0, 1, 2, 3, 4, 5] rfl)
            · skip
              have eA : A (64 * ja + k) = F ja (kM P N ja k) := hRa.2.2 k (by omega)
              have hbd2 : bZ bd (bd = 0 ∧ True) := ⟨fun y => ⟨y, trivial⟩, fun y => y.1⟩
              have hg : decide (pO (kM P N ja k) = q.toInt) = decide (iz = 1) := by first | exact gO_a (P := fun i => P (64 * ja + i)) (N := fun i => N (64 * ja + i)) h55 hiz h64 | exact gO_c (P := fun i => P (64 * ja + i)) (N := fun i => N (64 * ja + i)) h55 hiz h64
              refine lv_aload_n hx hb d_Mod_only_67 rfl (lv_at hl 1 rfl) ?_
              refine lv_aload_n hx hb d_Mod_only_68 rfl (lv_at hl 1 rfl) ?_
              refine q_get (C := R_Mod) (T := T_Mod) (N := 10) hx hb hts (fun w h => gm (inT_Mod w h)) hown hK hZ (43) (by decide) hM.1 rfl 2 (by decide) (hts _ (gm k_422)) (fun _ h9 => h9) rfl d_Mod_only_69 ?_
              refine lv_iload hx hb d_Mod_only_72 (lv_at hl 0 rfl) ?_
              refine q_iald hx hb hK hZ (45) 0 ((64 * ja + k)) (by decide) hM.2.2.1 rfl rfl (by omega) (by decide) d_Mod_only_74 ?_
              refine lv_aload_n hx hb d_Mod_only_75 rfl (lv_at hl 1 rfl) ?_
              refine q_get (C := R_Mod) (T := T_Mod) (N := 10) hx hb hts (fun w h => gm (inT_Mod w h)) hown hK hZ (43) (by decide) hM.1 rfl 3 (by decide) (hts _ (gm k_423)) (fun _ h9 => h9) rfl d_Mod_only_76 ?_
              refine lv_iload hx hb d_Mod_only_79 (lv_at hl 0 rfl) ?_
              refine q_lald hx hb hK hZ (46) 1 ((64 * ja + k)) (by decide) hM.2.2.2.1 rfl rfl (by omega) (by decide) d_Mod_only_81 ?_
              refine lv_aload_n hx hb d_Mod_only_82 rfl (lv_at hl 1 rfl) ?_
              refine q_get (C := R_Mod) (T := T_Mod) (N := 10) hx hb hts (fun w h => gm (inT_Mod w h)) hown hK hZ (43) (by decide) hM.1 rfl 4 (by decide) (hts _ (gm k_424)) (fun _ h9 => h9) rfl d_Mod_only_83 ?_
              refine lv_iload hx hb d_Mod_only_86 (lv_at hl 0 rfl) ?_
              refine q_lald hx hb hK hZ (47) 1 ((64 * ja + k)) (by decide) hM.2.2.2.2.1 rfl rfl (by omega) (by decide) d_Mod_only_88 ?_
              refine q_topl (y := gO (F ja) q iz (kM P N ja k)) (eA.trans (gO_y hg).symm) ?_
              refine q_callv (va_runV (As := [.int (P (64 * ja + k)), .long (N (64 * ja + k)), .long (gO (F ja) q iz (kM P N ja k))]) (rest := []) ⟨hx, hb, hml, hown, hts⟩ (c_Mod_lay l dC dI cI cL cB ad N0 u (nI 0) mn P N A rm rP rN rA bd (P (64 * ja + k)) (N (64 * ja + k)) (gO (F ja) q iz (kM P N ja k)) hM (by omega)) (cwV 3 hts (gI_V k_511 k_508 k_510 k_15 k_24) rfl rfl rfl (by decide +kernel) ⟨Nat.le_of_ble_eq_true rfl, Nat.le_of_ble_eq_true rfl⟩) (q_preV hK hAm hZ hN [.int (P (64 * ja + k)), .long (N (64 * ja + k)), .long (gO (F ja) q iz (kM P N ja k))] (43) 3 (by decide) hM.1 rfl) rfl rfl hl.1 rfl (lv_room (Nat.le_of_ble_eq_true rfl)) d_Mod_only_89 ⟨Nat.zero_le _, Nat.zero_le _⟩) hZ (fun u_y9 H locs h_y9 hZ => ?_)
              obtain ⟨hf3, h_y9⟩ := h_y9
              have hfr := fr_tr hfr hf3 (Nat.le_refl _) (Nat.le_refl _)
              rcases h_y9 with ⟨hv9, e_y9⟩ | ⟨hv9, hM⟩
              · skip
                rw [e_y9] at hZ
                have hfr : fr w u 43 50 := by rw [e_y9] at hfr; exact hfr
                refine lv_iinc (v := (nI ((64 * ja + k) + 1))) (lv' := [(5, .int (nI ((64 * ja + k) + 1))), (0, .ref (ad 43)), (1, .int (nI ja)), (2, .int q), (3, .int iz), (4, .int (nI jc))]) hx hb d_Mod_only_92 hl (k := 0) rfl (nI_1 _) (by decide) rfl (fun ls hl => ?_)
                refine lv_goto (tgt := 31) hx hb d_Mod_only_95 (by decide) ?_
                exact ih31 (k + 1) rm rP rN rA bd u _ _ _ (by omega) (by omega) hM (rw_n hrow (sU_s (k := kM P N ja)) hv9) (by omega) (bz_s hbd hbd2 (sU_s (k := kM P N ja))) hfr hZ (lv_sub hl [0, 1, 2, 3, 4, 5] rfl)
              · skip
                refine lv_iinc (v := (nI ((64 * ja + k) + 1))) (lv' := [(5, .int (nI ((64 * ja + k) + 1))), (0, .ref (ad 43)), (1, .int (nI ja)), (2, .int q), (3, .int iz), (4, .int (nI jc))]) hx hb d_Mod_only_92 hl (k := 0) rfl (nI_1 _) (by decide) rfl (fun ls hl => ?_)
                refine lv_goto (tgt := 31) hx hb d_Mod_only_95 (by decide) ?_
                exact ih31 (k + 1) (rm + 1) _ _ _ bd u_y9 _ _ _ (by omega) (by omega) hM (rw_y hrow (sU_s (k := kM P N ja)) (sU_f hRa.1 (by omega)) hv9) (by omega) (bz_s hbd hbd2 (sU_s (k := kM P N ja))) hfr hZ (lv_sub hl [0, 1, 2, 3, 4, 5] rfl)
          · skip
            refine lv_iconst (v := (nI 1)) hx hb d_Mod_only_58 rfl ?_
            refine lv_goto (tgt := 63) hx hb d_Mod_only_59 (by decide) ?_
            refine lv_iload_n hx hb d_Mod_only_63 rfl (lv_at hl 4 rfl) ?_
            refine lv_icmp_ne (tgt := 92) hx hb d_Mod_only_64 (by decide) (fun h64 => ?_) (fun h64 => ?_)
            · skip
              have hg : ¬ decide (pO (kM P N ja k) = q.toInt) = decide (iz = 1) := by first | exact gO_b (P := fun i => P (64 * ja + i)) (N := fun i => N (64 * ja + i)) h55 hiz h64 | exact gO_d (P := fun i => P (64 * ja + i)) (N := fun i => N (64 * ja + i)) h55 hiz h64
              have hv9 : gO (F ja) q iz (kM P N ja k) = 0 := gO_n hg
              have hbd2 : bZ bd (bd = 0 ∧ True) := ⟨fun y => ⟨y, trivial⟩, fun y => y.1⟩
              refine lv_iinc (v := (nI ((64 * ja + k) + 1))) (lv' := [(5, .int (nI ((64 * ja + k) + 1))), (0, .ref (ad 43)), (1, .int (nI ja)), (2, .int q), (3, .int iz), (4, .int (nI jc))]) hx hb d_Mod_only_92 hl (k := 0) rfl (nI_1 _) (by decide) rfl (fun ls hl => ?_)
              refine lv_goto (tgt := 31) hx hb d_Mod_only_95 (by decide) ?_
              exact ih31 (k + 1) rm rP rN rA bd u _ _ _ (by omega) (by omega) hM (rw_n hrow (sU_s (k := kM P N ja)) hv9) (by omega) (bz_s hbd hbd2 (sU_s (k := kM P N ja))) hfr hZ (lv_sub hl [0, 1, 2, 3, 4, 5] rfl)
            · skip
              have eA : A (64 * ja + k) = F ja (kM P N ja k) := hRa.2.2 k (by omega)
              have hbd2 : bZ bd (bd = 0 ∧ True) := ⟨fun y => ⟨y, trivial⟩, fun y => y.1⟩
              have hg : decide (pO (kM P N ja k) = q.toInt) = decide (iz = 1) := by first | exact gO_a (P := fun i => P (64 * ja + i)) (N := fun i => N (64 * ja + i)) h55 hiz h64 | exact gO_c (P := fun i => P (64 * ja + i)) (N := fun i => N (64 * ja + i)) h55 hiz h64
              refine lv_aload_n hx hb d_Mod_only_67 rfl (lv_at hl 1 rfl) ?_
              refine lv_aload_n hx hb d_Mod_only_68 rfl (lv_at hl 1 rfl) ?_
              refine q_get (C := R_Mod) (T := T_Mod) (N := 10) hx hb hts (fun w h => gm (inT_Mod w h)) hown hK hZ (43) (by decide) hM.1 rfl 2 (by decide) (hts _ (gm k_422)) (fun _ h9 => h9) rfl d_Mod_only_69 ?_
              refine lv_iload hx hb d_Mod_only_72 (lv_at hl 0 rfl) ?_
              refine q_iald hx hb hK hZ (45) 0 ((64 * ja + k)) (by decide) hM.2.2.1 rfl rfl (by omega) (by decide) d_Mod_only_74 ?_
              refine lv_aload_n hx hb d_Mod_only_75 rfl (lv_at hl 1 rfl) ?_
              refine q_get (C := R_Mod) (T := T_Mod) (N := 10) hx hb hts (fun w h => gm (inT_Mod w h)) hown hK hZ (43) (by decide) hM.1 rfl 3 (by decide) (hts _ (gm k_423)) (fun _ h9 => h9) rfl d_Mod_only_76 ?_
              refine lv_iload hx hb d_Mod_only_79 (lv_at hl 0 rfl) ?_
              refine q_lald hx hb hK hZ (46) 1 ((64 * ja + k)) (by decide) hM.2.2.2.1 rfl rfl (by omega) (by decide) d_Mod_only_81 ?_
              refine lv_aload_n hx hb d_Mod_only_82 rfl (lv_at hl 1 rfl) ?_
              refine q_get (C := R_Mod) (T := T_Mod) (N := 10) hx hb hts (fun w h => gm (inT_Mod w h)) hown hK hZ (43) (by decide) hM.1 rfl 4 (by decide) (hts _ (gm k_424)) (fun _ h9 => h9) rfl d_Mod_only_83 ?_
              refine lv_iload hx hb d_Mod_only_86 (lv_at hl 0 rfl) ?_
              refine q_lald hx hb hK hZ (47) 1 ((64 * ja + k)) (by decide) hM.2.2.2.2.1 rfl rfl (by omega) (by decide) d_Mod_only_88 ?_
              refine q_topl (y := gO (F ja) q iz (kM P N ja k)) (eA.trans (gO_y hg).symm) ?_
              refine q_callv (va_runV (As := [.int (P (64 * ja + k)), .long (N (64 * ja + k)), .long (gO (F ja) q iz (kM P N ja k))]) (rest := []) ⟨hx, hb, hml, hown, hts⟩ (c_Mod_lay l dC dI cI cL cB ad N0 u (nI 0) mn P N A rm rP rN rA bd (P (64 * ja + k)) (N (64 * ja + k)) (gO (F ja) q iz (kM P N ja k)) hM (by omega)) (cwV 3 hts (gI_V k_511 k_508 k_510 k_15 k_24) rfl rfl rfl (by decide +kernel) ⟨Nat.le_of_ble_eq_true rfl, Nat.le_of_ble_eq_true rfl⟩) (q_preV hK hAm hZ hN [.int (P (64 * ja + k)), .long (N (64 * ja + k)), .long (gO (F ja) q iz (kM P N ja k))] (43) 3 (by decide) hM.1 rfl) rfl rfl hl.1 rfl (lv_room (Nat.le_of_ble_eq_true rfl)) d_Mod_only_89 ⟨Nat.zero_le _, Nat.zero_le _⟩) hZ (fun u_y9 H locs h_y9 hZ => ?_)
              obtain ⟨hf3, h_y9⟩ := h_y9
              have hfr := fr_tr hfr hf3 (Nat.le_refl _) (Nat.le_refl _)
              rcases h_y9 with ⟨hv9, e_y9⟩ | ⟨hv9, hM⟩
              · skip
                rw [e_y9] at hZ
                have hfr : fr w u 43 50 := by rw [e_y9] at hfr; exact hfr
                refine lv_iinc (v := (nI ((64 * ja + k) + 1))) (lv' := [(5, .int (nI ((64 * ja + k) + 1))), (0, .ref (ad 43)), (1, .int (nI ja)), (2, .int q), (3, .int iz), (4, .int (nI jc))]) hx hb d_Mod_only_92 hl (k := 0) rfl (nI_1 _) (by decide) rfl (fun ls hl => ?_)
                refine lv_goto (tgt := 31) hx hb d_Mod_only_95 (by decide) ?_
                exact ih31 (k + 1) rm rP rN rA bd u _ _ _ (by omega) (by omega) hM (rw_n hrow (sU_s (k := kM P N ja)) hv9) (by omega) (bz_s hbd hbd2 (sU_s (k := kM P N ja))) hfr hZ (lv_sub hl [0, 1, 2, 3, 4, 5] rfl)
              · skip
                refine lv_iinc (v := (nI ((64 * ja + k) + 1))) (lv' := [(5, .int (nI ((64 * ja + k) + 1))), (0, .ref (ad 43)), (1, .int (nI ja)), (2, .int q), (3, .int iz), (4, .int (nI jc))]) hx hb d_Mod_only_92 hl (k := 0) rfl (nI_1 _) (by decide) rfl (fun ls hl => ?_)
                refine lv_goto (tgt := 31) hx hb d_Mod_only_95 (by decide) ?_
                exact ih31 (k + 1) (rm + 1) _ _ _ bd u_y9 _ _ _ (by omega) (by omega) hM (rw_y hrow (sU_s (k := kM P N ja)) (sU_f hRa.1 (by omega)) hv9) (by omega) (bz_s hbd hbd2 (sU_s (k := kM P N ja))) hfr hZ (lv_sub hl [0, 1, 2, 3, 4, 5] rfl)
    exact loop31 (za + 1) 0 0 rP rN rA (nI 0) u_g9 _ _ _ (Nat.zero_le za) (by omega) hM (rw_0 sU_0) (by omega) (bz_0 sU_0) hfr hZ (lv_sub hl [0, 1, 2, 3, 4, 5] rfl)
  · skip
    have h17 : 0 < 0 := Nat.lt_of_not_le (fun z9 => h17 ((nI_leI (a := 0) (b := 0) (by omega) (by omega)).mpr z9))
    exact absurd h17 (by decide)
set_option maxHeartbeats 4000000 in
set_option maxRecDepth 100000 in
theorem x_Mod_only (l : Launch) (dC : Nat → ClassId) (dI : Nat → Nat → Nat) (cI cL cB : ClassId) (ad : Nat → Nat) (N0 : Nat) (w : Nat → va_E) (t0 : Int32) (F : Nat → Int → Int64) (a q iz c2 : Int32) (cd : Int32) (hMM : sM ad cI cL w t0 F) (hbad : wX a c2 (nI 0) q cd) : Met l y_Mod_only ws_Mod_only ({ frames := 2, cells := 0, slots := 0, locals := 44 } : Room) (va_Pc [.ref (ad 43), .int a, .int q, .int iz, .int c2] (sPr (dC, dI) vCl [(cI, .int), (cL, .long), (cB, .object "CoinBag$Bag")] 52 ad N0 w)) (va_Qv (fun u => fr w u 43 50 ∧ sM ad cI cL u cd F) (sPr (dC, dI) vCl [(cI, .int), (cL, .long), (cB, .object "CoinBag$Bag")] 52 ad N0) (fun q => N0 ≤ q)) 0 0 (fun q => N0 ≤ q) := by
  refine Met.ofW (cc := b_Mod_only) (maxL := 6) (ret := none) (by decide) rfl ?_
  intro p e s m args below meth c s₁ B hml hv
  obtain ⟨rfl, hP, hK, hD, hN, hAm⟩ := hv
  have hx := B.exec
  have hb := B.bytes
  have hr := B.returns
  have hts := atoms_spec (ws := ws_Mod_only) B.pre
  have hown : s.vm.findClass "CoinBagModel" = some m.cls := findClass_of_methodNamed B.named
  have hlocks := B.notSynchronized
  have hZ : sZ (dC, dI) vCl 52 ad (fun q => N0 ≤ q) s.heap w s.heap [] := ⟨hP, hD, va_S.rf⟩
  have hl := lv_entry ([.ref (ad 43), .int a, .int q, .int iz, .int c2]) (n := 6) (Nat.le_of_ble_eq_true rfl)
  rw [lg_entry_eq]
  generalize (lg_sl ([.ref (ad 43), .int a, .int q, .int iz, .int c2]) ++ List.replicate (6 - (lg_sl ([.ref (ad 43), .int a, .int q, .int iz, .int c2])).length) Slot.unset).toArray = ls at hl ⊢
  have hl : lv_has ls 6 [(0, .ref (ad 43)), (1, .int a), (2, .int q), (3, .int iz), (4, .int c2)] := hl
  obtain ⟨mn, P, N, A, rm, rP, rN, rA, bd, hM, hB⟩ := hMM
  have hfr : fr w w 43 50 := fr_rf
  refine lv_aload_n hx hb d_Mod_only_0 rfl (lv_at hl 0 rfl) ?_
  refine lv_aload_n hx hb d_Mod_only_1 rfl (lv_at hl 0 rfl) ?_
  refine lv_iload_n hx hb d_Mod_only_2 rfl (lv_at hl 1 rfl) ?_
  refine lv_iload hx hb d_Mod_only_3 (lv_at hl 4 rfl) ?_
  refine lv_iconst (v := (nI 0)) hx hb d_Mod_only_5 rfl ?_
  refine lv_iload_n hx hb d_Mod_only_6 rfl (lv_at hl 2 rfl) ?_
  refine q_calli (va_runV (As := [.int a, .int c2, .int (nI 0), .int q]) (rest := [.ref (ad 43)]) ⟨hx, hb, hml, hown, hts⟩ (c_Mod_wrong l dC dI cI cL cB ad N0 w t0 mn P N A rm rP rN rA bd a c2 (nI 0) q hM) (cwV 4 hts (gI_V k_462 k_459 k_461 k_7 k_24) rfl rfl rfl (by decide +kernel) ⟨Nat.le_of_ble_eq_true rfl, Nat.le_of_ble_eq_true rfl⟩) (q_preV hK hAm hZ hN [.int a, .int c2, .int (nI 0), .int q] (43) 3 (by decide) hM.1 rfl) rfl rfl hl.1 rfl (lv_room (Nat.le_of_ble_eq_true rfl)) d_Mod_only_7 ⟨Nat.zero_le _, Nat.zero_le _⟩) hZ (fun r u_r H locs h_r hZ => ?_)
  obtain ⟨e_r, h_r⟩ := h_r
  rw [e_r] at hZ
  refine q_topi (y := cd) (wr_x h_r hbad) ?_
  refine q_put (C := R_Mod) (T := T_Mod) (N := 10) (ty := .int) (v := .int cd) hx hb hts (fun w h => gm (inT_Mod w h)) ty_Mod tyo_Mod nm_Mod hown hK hZ (43) (by decide) hM.1 rfl 0 (by decide) (hts _ (gm k_420)) (fun _ h9 => h9) rfl (by decide +kernel) (rfl) (rfl) (Nat.le_of_ble_eq_true rfl) d_Mod_only_10 (fun H locs hZ => ?_)
  have hM := hM.up43 cd rm bd
  have hfr := fr_up (x := 43) (e := .inr (3, [.int cd, .ref (ad 44), .ref (ad 45), .ref (ad 46), .ref (ad 47), .int rm, .ref (ad 48), .ref (ad 49), .ref (ad 50), .int bd])) hfr (by omega) (by omega)
  have hZ : sZ (dC, dI) vCl 52 ad (fun q => N0 ≤ q) s.heap (va_up w 43 (.inr (3, [.int cd, .ref (ad 44), .ref (ad 45), .ref (ad 46), .ref (ad 47), .int rm, .ref (ad 48), .ref (ad 49), .ref (ad 50), .int bd]))) H locs := hZ
  generalize va_up w 43 (.inr (3, [.int cd, .ref (ad 44), .ref (ad 45), .ref (ad 46), .ref (ad 47), .int rm, .ref (ad 48), .ref (ad 49), .ref (ad 50), .int bd])) = w83 at hZ hM hfr
  refine lv_aload_n hx hb d_Mod_only_13 rfl (lv_at hl 0 rfl) ?_
  refine q_get (C := R_Mod) (T := T_Mod) (N := 10) hx hb hts (fun w h => gm (inT_Mod w h)) hown hK hZ (43) (by decide) hM.1 rfl 0 (by decide) (hts _ (gm k_420)) (fun _ h9 => h9) rfl d_Mod_only_14 ?_
  refine lv_if_le (tgt := 21) hx hb d_Mod_only_17 (by decide) (fun h17 => ?_) (fun h17 => ?_)
  · skip
    first | exact absurd h17 (wX_ne hbad) | exact absurd h17 (wX_le hbad) | exact absurd (wX_gt hbad) h17
  · skip
    exact q_vret hx hb hr hlocks hK hAm hZ hN (⟨hfr, ⟨_, _, _, _, _, _, _, _, _, hM, hB⟩⟩) d_Mod_only_20
set_option maxHeartbeats 4000000 in
set_option maxRecDepth 100000 in
theorem c_Mod_part (l : Launch) (dC : Nat → ClassId) (dI : Nat → Nat → Nat) (cI cL cB : ClassId) (ad : Nat → Nat) (N0 : Nat) (w : Nat → va_E) (t0 : Int32) (F : Nat → Int → Int64) (ja : Nat) (sg : Int32) (jc : Nat) (hMM : sM ad cI cL w t0 F) (hja : ja < 8) (hjc : jc < 8) : Met l y_Mod_part ws_Mod_part ({ frames := 2, cells := 0, slots := 0, locals := 44 } : Room) (va_Pc [.ref (ad 43), .int (nI ja), .int sg, .int (nI jc)] (sPr (dC, dI) vCl [(cI, .int), (cL, .long), (cB, .object "CoinBag$Bag")] 52 ad N0 w)) (va_Qi (fun r u => fr w u 43 50 ∧ ((((sg = 1 ∨ sg = -1) ∧ ∀ y, gPs (F ja y) sg → fM (F ja y) sg.toInt64) ∧ r = 1 ∧ sM ad cI cL u (nI 0) (va_up F jc (gP (F ja) sg))) ∨ (¬ ((sg = 1 ∨ sg = -1) ∧ ∀ y, gPs (F ja y) sg → fM (F ja y) sg.toInt64) ∧ r = 0 ∧ sM ad cI cL u (nI 0) F))) (sPr (dC, dI) vCl [(cI, .int), (cL, .long), (cB, .object "CoinBag$Bag")] 52 ad N0) (fun q => N0 ≤ q)) 0 0 (fun q => N0 ≤ q) := by
  refine Met.ofW (cc := b_Mod_part) (maxL := 5) (ret := (some .boolean)) (by decide) rfl ?_
  intro p e s m args below meth c s₁ B hml hv
  obtain ⟨rfl, hP, hK, hD, hN, hAm⟩ := hv
  have hx := B.exec
  have hb := B.bytes
  have hr := B.returns
  have hts := atoms_spec (ws := ws_Mod_part) B.pre
  have hown : s.vm.findClass "CoinBagModel" = some m.cls := findClass_of_methodNamed B.named
  have hlocks := B.notSynchronized
  have hZ : sZ (dC, dI) vCl 52 ad (fun q => N0 ≤ q) s.heap w s.heap [] := ⟨hP, hD, va_S.rf⟩
  have hl := lv_entry ([.ref (ad 43), .int (nI ja), .int sg, .int (nI jc)]) (n := 5) (Nat.le_of_ble_eq_true rfl)
  rw [lg_entry_eq]
  generalize (lg_sl ([.ref (ad 43), .int (nI ja), .int sg, .int (nI jc)]) ++ List.replicate (5 - (lg_sl ([.ref (ad 43), .int (nI ja), .int sg, .int (nI jc)])).length) Slot.unset).toArray = ls at hl ⊢
  have hl : lv_has ls 5 [(0, .ref (ad 43)), (1, .int (nI ja)), (2, .int sg), (3, .int (nI jc))] := hl
  obtain ⟨mn, P, N, A, rm, rP, rN, rA, bd, hM, hB⟩ := hMM
  have hfr : fr w w 43 50 := fr_rf
  obtain ⟨za, hza, hmna, hRa⟩ := mB_at hB hja
  refine lv_aload_n hx hb d_Mod_part_0 rfl (lv_at hl 0 rfl) ?_
  refine lv_aload_n hx hb d_Mod_part_1 rfl (lv_at hl 0 rfl) ?_
  refine lv_iload_n hx hb d_Mod_part_2 rfl (lv_at hl 1 rfl) ?_
  refine lv_iload_n hx hb d_Mod_part_3 rfl (lv_at hl 3 rfl) ?_
  refine lv_iconst (v := (nI 0)) hx hb d_Mod_part_4 rfl ?_
  refine lv_iconst (v := (nI 0)) hx hb d_Mod_part_5 rfl ?_
  refine q_calli (va_runV (As := [.int (nI ja), .int (nI jc), .int (nI 0), .int (nI 0)]) (rest := [.ref (ad 43)]) ⟨hx, hb, hml, hown, hts⟩ (c_Mod_wrong l dC dI cI cL cB ad N0 w t0 mn P N A rm rP rN rA bd (nI ja) (nI jc) (nI 0) (nI 0) hM) (cwV 4 hts (gI_V k_462 k_459 k_461 k_7 k_24) rfl rfl rfl (by decide +kernel) ⟨Nat.le_of_ble_eq_true rfl, Nat.le_of_ble_eq_true rfl⟩) (q_preV hK hAm hZ hN [.int (nI ja), .int (nI jc), .int (nI 0), .int (nI 0)] (43) 3 (by decide) hM.1 rfl) rfl rfl hl.1 rfl (lv_room (Nat.le_of_ble_eq_true rfl)) d_Mod_part_6 ⟨Nat.zero_le _, Nat.zero_le _⟩) hZ (fun r u_r H locs h_r hZ => ?_)
  obtain ⟨e_r, h_r⟩ := h_r
  rw [e_r] at hZ
  refine q_topi (y := nI 0) (wr_ok h_r ⟨okB_nI hja, okB_nI hjc, okB_0⟩ okP_0) ?_
  refine q_put (C := R_Mod) (T := T_Mod) (N := 10) (ty := .int) (v := .int (nI 0)) hx hb hts (fun w h => gm (inT_Mod w h)) ty_Mod tyo_Mod nm_Mod hown hK hZ (43) (by decide) hM.1 rfl 0 (by decide) (hts _ (gm k_420)) (fun _ h9 => h9) rfl (by decide +kernel) (rfl) (rfl) (Nat.le_of_ble_eq_true rfl) d_Mod_part_9 (fun H locs hZ => ?_)
  have hM := hM.up43 (nI 0) rm bd
  have hfr := fr_up (x := 43) (e := .inr (3, [.int (nI 0), .ref (ad 44), .ref (ad 45), .ref (ad 46), .ref (ad 47), .int rm, .ref (ad 48), .ref (ad 49), .ref (ad 50), .int bd])) hfr (by omega) (by omega)
  have hZ : sZ (dC, dI) vCl 52 ad (fun q => N0 ≤ q) s.heap (va_up w 43 (.inr (3, [.int (nI 0), .ref (ad 44), .ref (ad 45), .ref (ad 46), .ref (ad 47), .int rm, .ref (ad 48), .ref (ad 49), .ref (ad 50), .int bd]))) H locs := hZ
  generalize va_up w 43 (.inr (3, [.int (nI 0), .ref (ad 44), .ref (ad 45), .ref (ad 46), .ref (ad 47), .int rm, .ref (ad 48), .ref (ad 49), .ref (ad 50), .int bd])) = w84 at hZ hM hfr
  refine lv_aload_n hx hb d_Mod_part_12 rfl (lv_at hl 0 rfl) ?_
  refine q_get (C := R_Mod) (T := T_Mod) (N := 10) hx hb hts (fun w h => gm (inT_Mod w h)) hown hK hZ (43) (by decide) hM.1 rfl 0 (by decide) (hts _ (gm k_420)) (fun _ h9 => h9) rfl d_Mod_part_13 ?_
  refine lv_if_gt (tgt := 29) hx hb d_Mod_part_16 (by decide) (fun h16 => ?_) (fun h16 => ?_)
  · skip
    have h16 : 0 < 0 := (nI_ltI (a := 0) (b := 0) (by omega) (by omega)).mp h16
    exact absurd h16 (by decide)
  · skip
    have h16 : 0 ≤ 0 := Nat.le_of_not_lt (fun z9 => h16 ((nI_ltI (a := 0) (b := 0) (by omega) (by omega)).mpr z9))
    refine lv_iload_n hx hb d_Mod_part_19 rfl (lv_at hl 2 rfl) ?_
    refine lv_iconst (v := (nI 1)) hx hb d_Mod_part_20 rfl ?_
    refine lv_icmp_eq (tgt := 31) hx hb d_Mod_part_21 (by decide) (fun h21 => ?_) (fun h21 => ?_)
    · skip
      have hsg : sg = 1 ∨ sg = -1 := by first | exact Or.inl h21 | exact Or.inr h26
      refine lv_aload_n hx hb d_Mod_part_31 rfl (lv_at hl 0 rfl) ?_
      refine q_callv (va_runV (As := []) (rest := []) ⟨hx, hb, hml, hown, hts⟩ (c_Mod_begin l dC dI cI cL cB ad N0 w84 (nI 0) mn P N A rm rP rN rA bd hM) (cwV 0 hts (gI_V k_503 k_500 k_502 k_13 k_24) rfl rfl rfl (by decide +kernel) ⟨Nat.le_of_ble_eq_true rfl, Nat.le_of_ble_eq_true rfl⟩) (q_preV hK hAm hZ hN [] (43) 3 (by decide) hM.1 rfl) rfl rfl hl.1 rfl (lv_room (Nat.le_of_ble_eq_true rfl)) d_Mod_part_32 ⟨Nat.zero_le _, Nat.zero_le _⟩) hZ (fun u_g9 H locs h_g9 hZ => ?_)
      obtain ⟨hf2, hM⟩ := h_g9
      have hfr := fr_tr hfr hf2 (Nat.le_refl _) (Nat.le_refl _)
      refine lv_bipush (v := (nI 64)) hx hb d_Mod_part_35 rfl ?_
      refine lv_iload_n hx hb d_Mod_part_37 rfl (lv_at hl 1 rfl) ?_
      refine lv_imul hx hb d_Mod_part_38 ?_
      refine q_topi (y := nI (64 * ja)) (pk_mul _ _) ?_
      refine lv_istore (lv' := [(4, .int (nI (64 * ja))), (0, .ref (ad 43)), (1, .int (nI ja)), (2, .int sg), (3, .int (nI jc))]) hx hb d_Mod_part_39 hl (by decide) rfl (fun ls hl => ?_)
      have loop41 : ∀ (fu41 : Nat) (k rm : Nat) (rP : Nat → Int32) (rN rA : Nat → Int64) (bd : Int32) (u : Nat → va_E) (H : Heap) (locs : List Loc) (ls : Array Slot), (k ≤ za) → (za + 1 ≤ k + fu41) → (isMod ad cI cL u (nI 0) mn P N A (nI rm) rP rN rA bd) → (mRep rm rP rN rA (gS (gP (F ja) sg) (sU (kM P N ja) k))) → (rm ≤ k) → (bZ bd (∀ y, (sU (kM P N ja) k) y → gPs (F ja y) sg → fM (F ja y) sg.toInt64)) → (fr w u 43 50) → sZ (dC, dI) vCl 52 ad (fun q => N0 ≤ q) s.heap u H locs → lv_has ls 5 [(4, .int (nI (64 * ja + k))), (0, .ref (ad 43)), (1, .int (nI ja)), (2, .int sg), (3, .int (nI jc))] → W p l e (headSpec ws_Mod_part ({ frames := 2, cells := 0, slots := 0, locals := 44 } : Room)).room s m ([.ref (ad 43), .int (nI ja), .int sg, .int (nI jc)]).toArray below meth c H locs 0 0 (MQ below (va_Qi (fun r u => fr w u 43 50 ∧ ((((sg = 1 ∨ sg = -1) ∧ ∀ y, gPs (F ja y) sg → fM (F ja y) sg.toInt64) ∧ r = 1 ∧ sM ad cI cL u (nI 0) (va_up F jc (gP (F ja) sg))) ∨ (¬ ((sg = 1 ∨ sg = -1) ∧ ∀ y, gPs (F ja y) sg → fM (F ja y) sg.toInt64) ∧ r = 0 ∧ sM ad cI cL u (nI 0) F))) (sPr (dC, dI) vCl [(cI, .int), (cL, .long), (cB, .object "CoinBag$Bag")] 52 ad N0) (fun q => N0 ≤ q)) ([.ref (ad 43), .int (nI ja), .int sg, .int (nI jc)]).toArray s 0 0 (fun q => N0 ≤ q)) (F0 m 41 ls []) := by
        intro fu41
        induction fu41 with
        | zero =>
          intro k rm rP rN rA bd u H locs ls hk hf9 hM hrow hrm hbd hfr
          omega
        | succ fu41 ih41 =>
          intro k rm rP rN rA bd u H locs ls hk hf9 hM hrow hrm hbd hfr hZ hl
          refine lv_iload hx hb d_Mod_part_41 (lv_at hl 0 rfl) ?_
          refine lv_bipush (v := (nI 64)) hx hb d_Mod_part_43 rfl ?_
          refine lv_iload_n hx hb d_Mod_part_45 rfl (lv_at hl 2 rfl) ?_
          refine lv_imul hx hb d_Mod_part_46 ?_
          refine q_topi (y := nI (64 * ja)) (pk_mul _ _) ?_
          refine lv_aload_n hx hb d_Mod_part_47 rfl (lv_at hl 1 rfl) ?_
          refine q_get (C := R_Mod) (T := T_Mod) (N := 10) hx hb hts (fun w h => gm (inT_Mod w h)) hown hK hZ (43) (by decide) hM.1 rfl 1 (by decide) (hts _ (gm k_421)) (fun _ h9 => h9) rfl d_Mod_part_48 ?_
          refine lv_iload_n hx hb d_Mod_part_51 rfl (lv_at hl 2 rfl) ?_
          refine q_iald hx hb hK hZ (44) 0 (ja) (by decide) hM.2.1 rfl rfl (by omega) (by decide) d_Mod_part_52 ?_
          refine q_topi (y := nI za) (hmna) ?_
          refine lv_iadd hx hb d_Mod_part_53 ?_
          refine q_topi (y := nI ((64 * ja) + za)) (nI_add _ _) ?_
          refine lv_icmp_ge (tgt := 124) hx hb d_Mod_part_54 (by decide) (fun h54 => ?_) (fun h54 => ?_)
          · skip
            have h54 : ((64 * ja) + za) ≤ (64 * ja + k) := (nI_leI (a := ((64 * ja) + za)) (b := (64 * ja + k)) (by omega) (by omega)).mp h54
            have ek : k = za := by omega
            rw [ek] at hrow hbd hrm
            refine lv_aload_n hx hb d_Mod_part_124 rfl (lv_at hl 1 rfl) ?_
            refine lv_iload_n hx hb d_Mod_part_125 rfl (lv_at hl 4 rfl) ?_
            have hrow := rw_end hrow (fun y hy => hRa.2.1.2 y (fun e => hy (gP_0 e)))
            refine q_calli (va_runV (As := [.int (nI jc)]) (rest := []) ⟨hx, hb, hml, hown, hts⟩ (c_Mod_becomes l dC dI cI cL cB ad N0 u (nI 0) mn P N A rm rP rN rA bd jc F (gP (F ja) sg) hM hjc (by omega) hB hrow) (cwV 1 hts (gI_V k_515 k_512 k_514 k_16 k_24) rfl rfl rfl (by decide +kernel) ⟨Nat.le_of_ble_eq_true rfl, Nat.le_of_ble_eq_true rfl⟩) (q_preV hK hAm hZ hN [.int (nI jc)] (43) 3 (by decide) hM.1 rfl) rfl rfl hl.1 rfl (lv_room (Nat.le_of_ble_eq_true rfl)) d_Mod_part_126 ⟨Nat.zero_le _, Nat.zero_le _⟩) hZ (fun s9 u_s9 H locs h_s9 hZ => ?_)
            exact q_zret hx hb hr (show narrow .boolean (.int s9) = .int s9 from by rcases h_s9.2 with ⟨_, e9, _⟩ | ⟨_, e9, _⟩ <;> rw [e9] <;> rfl) hlocks hK hAm hZ hN (⟨fr_tr hfr h_s9.1 (Nat.le_refl _) (Nat.le_refl _), b2_end (b1_end h_s9.2 (bz_all hRa.2.1.2 (fun y e _ => by rw [e]; exact fM_0l _) hbd) (by omega)) hsg⟩) d_Mod_part_129
          · skip
            have h54 : (64 * ja + k) < ((64 * ja) + za) := Nat.lt_of_not_le (fun z9 => h54 ((nI_leI (a := ((64 * ja) + za)) (b := (64 * ja + k)) (by omega) (by omega)).mpr z9))
            refine lv_aload_n hx hb d_Mod_part_57 rfl (lv_at hl 1 rfl) ?_
            refine q_get (C := R_Mod) (T := T_Mod) (N := 10) hx hb hts (fun w h => gm (inT_Mod w h)) hown hK hZ (43) (by decide) hM.1 rfl 4 (by decide) (hts _ (gm k_424)) (fun _ h9 => h9) rfl d_Mod_part_58 ?_
            refine lv_iload hx hb d_Mod_part_61 (lv_at hl 0 rfl) ?_
            refine q_lald hx hb hK hZ (47) 1 ((64 * ja + k)) (by decide) hM.2.2.2.2.1 rfl rfl (by omega) (by decide) d_Mod_part_63 ?_
            refine lv_lconst (v := 0) hx hb d_Mod_part_64 rfl ?_
            refine W.lcmp hx hb d_Mod_part_65 ?_
            refine lv_if_le (tgt := 73) hx hb d_Mod_part_66 (by decide) (fun h66 => ?_) (fun h66 => ?_)
            · skip
              rw [lg_cmp_le] at h66
              refine lv_iconst (v := (nI 0)) hx hb d_Mod_part_73 rfl ?_
              refine lv_iload_n hx hb d_Mod_part_74 rfl (lv_at hl 3 rfl) ?_
              refine lv_iconst (v := (nI 1)) hx hb d_Mod_part_75 rfl ?_
              refine lv_icmp_ne (tgt := 83) hx hb d_Mod_part_76 (by decide) (fun h76 => ?_) (fun h76 => ?_)
              · skip
                refine lv_iconst (v := (nI 0)) hx hb d_Mod_part_83 rfl ?_
                refine lv_icmp_ne (tgt := 118) hx hb d_Mod_part_84 (by decide) (fun h84 => ?_) (fun h84 => ?_)
                · skip
                  have h84 : ¬ 0 = 0 := fun z9 => h84 ((nI_eq (a := 0) (b := 0) (by omega) (by omega)).mpr z9)
                  exact absurd h84 (by decide)
                · skip
                  have h84 : 0 = 0 := (nI_eq (a := 0) (b := 0) (by omega) (by omega)).mp h84
                  have eA : A (64 * ja + k) = F ja (kM P N ja k) := hRa.2.2 k (by omega)
                  have hg : gPs (F ja (kM P N ja k)) sg := by rw [← eA]; first | exact Or.inl ⟨Int64.not_le.mp h66, h76⟩ | exact Or.inr ⟨Int64.not_lt.mpr h66, h76⟩
                  refine lv_aload_n hx hb d_Mod_part_87 rfl (lv_at hl 1 rfl) ?_
                  refine lv_aload_n hx hb d_Mod_part_88 rfl (lv_at hl 1 rfl) ?_
                  refine q_get (C := R_Mod) (T := T_Mod) (N := 10) hx hb hts (fun w h => gm (inT_Mod w h)) hown hK hZ (43) (by decide) hM.1 rfl 2 (by decide) (hts _ (gm k_422)) (fun _ h9 => h9) rfl d_Mod_part_89 ?_
                  refine lv_iload hx hb d_Mod_part_92 (lv_at hl 0 rfl) ?_
                  refine q_iald hx hb hK hZ (45) 0 ((64 * ja + k)) (by decide) hM.2.2.1 rfl rfl (by omega) (by decide) d_Mod_part_94 ?_
                  refine lv_aload_n hx hb d_Mod_part_95 rfl (lv_at hl 1 rfl) ?_
                  refine q_get (C := R_Mod) (T := T_Mod) (N := 10) hx hb hts (fun w h => gm (inT_Mod w h)) hown hK hZ (43) (by decide) hM.1 rfl 3 (by decide) (hts _ (gm k_423)) (fun _ h9 => h9) rfl d_Mod_part_96 ?_
                  refine lv_iload hx hb d_Mod_part_99 (lv_at hl 0 rfl) ?_
                  refine q_lald hx hb hK hZ (46) 1 ((64 * ja + k)) (by decide) hM.2.2.2.1 rfl rfl (by omega) (by decide) d_Mod_part_101 ?_
                  refine lv_aload_n hx hb d_Mod_part_102 rfl (lv_at hl 1 rfl) ?_
                  refine lv_aload_n hx hb d_Mod_part_103 rfl (lv_at hl 1 rfl) ?_
                  refine q_get (C := R_Mod) (T := T_Mod) (N := 10) hx hb hts (fun w h => gm (inT_Mod w h)) hown hK hZ (43) (by decide) hM.1 rfl 4 (by decide) (hts _ (gm k_424)) (fun _ h9 => h9) rfl d_Mod_part_104 ?_
                  refine lv_iload hx hb d_Mod_part_107 (lv_at hl 0 rfl) ?_
                  refine q_lald hx hb hK hZ (47) 1 ((64 * ja + k)) (by decide) hM.2.2.2.2.1 rfl rfl (by omega) (by decide) d_Mod_part_109 ?_
                  refine lv_iload_n hx hb d_Mod_part_110 rfl (lv_at hl 3 rfl) ?_
                  refine lv_i2l (v := sg.toInt64) hx hb d_Mod_part_111 rfl ?_
                  refine q_calll (va_runV (As := [.long (A (64 * ja + k)), .long (sg.toInt64)]) (rest := [.long (N (64 * ja + k)), .int (P (64 * ja + k)), .ref (ad 43)]) ⟨hx, hb, hml, hown, hts⟩ (c_Mod_multiplied l dC dI cI cL cB ad N0 u (nI 0) mn P N A (nI rm) rP rN rA bd (A (64 * ja + k)) sg.toInt64 hM) (cwV 2 hts (gI_V k_527 k_524 k_526 k_17 k_24) rfl rfl rfl (by decide +kernel) ⟨Nat.le_of_ble_eq_true rfl, Nat.le_of_ble_eq_true rfl⟩) (q_preV hK hAm hZ hN [.long (A (64 * ja + k)), .long (sg.toInt64)] (43) 3 (by decide) hM.1 rfl) rfl rfl hl.1 rfl (lv_room (Nat.le_of_ble_eq_true rfl)) d_Mod_part_112 ⟨Nat.zero_le _, Nat.zero_le _⟩) hZ (fun a9 u_a9 H locs h_a9 hZ => ?_)
                  obtain ⟨hf2, e_a, b2, hM, hb2⟩ := h_a9
                  have hfr := fr_tr hfr hf2 (Nat.le_refl _) (Nat.le_refl _)
                  have eA : A (64 * ja + k) = F ja (kM P N ja k) := hRa.2.2 k (by omega)
                  have hbd2 : bZ b2 (bd = 0 ∧ (gPs (F ja (kM P N ja k)) sg → fM (F ja (kM P N ja k)) sg.toInt64)) := by rw [← eA]; exact ⟨fun y => ⟨(hb2.mp y).1, fun _ => (hb2.mp y).2⟩, fun y => hb2.mpr ⟨y.1, y.2 (by rw [eA]; exact hg)⟩⟩
                  refine q_topl (y := gP (F ja) sg (kM P N ja k)) (e_a.trans (by rw [eA]; exact (gP_y hg).symm)) ?_
                  refine q_callv (va_runV (As := [.int (P (64 * ja + k)), .long (N (64 * ja + k)), .long (gP (F ja) sg (kM P N ja k))]) (rest := []) ⟨hx, hb, hml, hown, hts⟩ (c_Mod_lay l dC dI cI cL cB ad N0 u_a9 (nI 0) mn P N A rm rP rN rA b2 (P (64 * ja + k)) (N (64 * ja + k)) (gP (F ja) sg (kM P N ja k)) hM (by omega)) (cwV 3 hts (gI_V k_511 k_508 k_510 k_15 k_24) rfl rfl rfl (by decide +kernel) ⟨Nat.le_of_ble_eq_true rfl, Nat.le_of_ble_eq_true rfl⟩) (q_preV hK hAm hZ hN [.int (P (64 * ja + k)), .long (N (64 * ja + k)), .long (gP (F ja) sg (kM P N ja k))] (43) 3 (by decide) hM.1 rfl) rfl rfl hl.1 rfl (lv_room (Nat.le_of_ble_eq_true rfl)) d_Mod_part_115 ⟨Nat.zero_le _, Nat.zero_le _⟩) hZ (fun u_y9 H locs h_y9 hZ => ?_)
                  obtain ⟨hf3, h_y9⟩ := h_y9
                  have hfr := fr_tr hfr hf3 (Nat.le_refl _) (Nat.le_refl _)
                  rcases h_y9 with ⟨hv9, e_y9⟩ | ⟨hv9, hM⟩
                  · skip
                    rw [e_y9] at hZ
                    have hfr : fr w u_a9 43 50 := by rw [e_y9] at hfr; exact hfr
                    refine lv_iinc (v := (nI ((64 * ja + k) + 1))) (lv' := [(4, .int (nI ((64 * ja + k) + 1))), (0, .ref (ad 43)), (1, .int (nI ja)), (2, .int sg), (3, .int (nI jc))]) hx hb d_Mod_part_118 hl (k := 0) rfl (nI_1 _) (by decide) rfl (fun ls hl => ?_)
                    refine lv_goto (tgt := 41) hx hb d_Mod_part_121 (by decide) ?_
                    exact ih41 (k + 1) rm rP rN rA b2 u_a9 _ _ _ (by omega) (by omega) hM (rw_n hrow (sU_s (k := kM P N ja)) hv9) (by omega) (bz_s hbd hbd2 (sU_s (k := kM P N ja))) hfr hZ (lv_sub hl [0, 1, 2, 3, 4] rfl)
                  · skip
                    refine lv_iinc (v := (nI ((64 * ja + k) + 1))) (lv' := [(4, .int (nI ((64 * ja + k) + 1))), (0, .ref (ad 43)), (1, .int (nI ja)), (2, .int sg), (3, .int (nI jc))]) hx hb d_Mod_part_118 hl (k := 0) rfl (nI_1 _) (by decide) rfl (fun ls hl => ?_)
                    refine lv_goto (tgt := 41) hx hb d_Mod_part_121 (by decide) ?_
                    exact ih41 (k + 1) (rm + 1) _ _ _ b2 u_y9 _ _ _ (by omega) (by omega) hM (rw_y hrow (sU_s (k := kM P N ja)) (sU_f hRa.1 (by omega)) hv9) (by omega) (bz_s hbd hbd2 (sU_s (k := kM P N ja))) hfr hZ (lv_sub hl [0, 1, 2, 3, 4] rfl)
              · skip
                refine lv_iconst (v := (nI 1)) hx hb d_Mod_part_79 rfl ?_
                refine lv_goto (tgt := 84) hx hb d_Mod_part_80 (by decide) ?_
                refine lv_icmp_ne (tgt := 118) hx hb d_Mod_part_84 (by decide) (fun h84 => ?_) (fun h84 => ?_)
                · skip
                  have h84 : ¬ 0 = 1 := fun z9 => h84 ((nI_eq (a := 0) (b := 1) (by omega) (by omega)).mpr z9)
                  have eA : A (64 * ja + k) = F ja (kM P N ja k) := hRa.2.2 k (by omega)
                  have hg : ¬ gPs (F ja (kM P N ja k)) sg := by rw [← eA]; first | exact fun y => y.elim (fun a => Int64.not_lt.mpr h66 a.1) (fun a => a.2 h76) | exact fun y => y.elim (fun a => h76 a.2) (fun a => a.1 (Int64.not_le.mp h66))
                  have hv9 : gP (F ja) sg (kM P N ja k) = 0 := gP_n hg
                  have hbd2 : bZ bd (bd = 0 ∧ (gPs (F ja (kM P N ja k)) sg → fM (F ja (kM P N ja k)) sg.toInt64)) := ⟨fun y => ⟨y, fun a => absurd a hg⟩, fun y => y.1⟩
                  refine lv_iinc (v := (nI ((64 * ja + k) + 1))) (lv' := [(4, .int (nI ((64 * ja + k) + 1))), (0, .ref (ad 43)), (1, .int (nI ja)), (2, .int sg), (3, .int (nI jc))]) hx hb d_Mod_part_118 hl (k := 0) rfl (nI_1 _) (by decide) rfl (fun ls hl => ?_)
                  refine lv_goto (tgt := 41) hx hb d_Mod_part_121 (by decide) ?_
                  exact ih41 (k + 1) rm rP rN rA bd u _ _ _ (by omega) (by omega) hM (rw_n hrow (sU_s (k := kM P N ja)) hv9) (by omega) (bz_s hbd hbd2 (sU_s (k := kM P N ja))) hfr hZ (lv_sub hl [0, 1, 2, 3, 4] rfl)
                · skip
                  have h84 : 0 = 1 := (nI_eq (a := 0) (b := 1) (by omega) (by omega)).mp h84
                  exact absurd h84 (by decide)
            · skip
              rw [lg_cmp_le] at h66
              refine lv_iconst (v := (nI 1)) hx hb d_Mod_part_69 rfl ?_
              refine lv_goto (tgt := 74) hx hb d_Mod_part_70 (by decide) ?_
              refine lv_iload_n hx hb d_Mod_part_74 rfl (lv_at hl 3 rfl) ?_
              refine lv_iconst (v := (nI 1)) hx hb d_Mod_part_75 rfl ?_
              refine lv_icmp_ne (tgt := 83) hx hb d_Mod_part_76 (by decide) (fun h76 => ?_) (fun h76 => ?_)
              · skip
                refine lv_iconst (v := (nI 0)) hx hb d_Mod_part_83 rfl ?_
                refine lv_icmp_ne (tgt := 118) hx hb d_Mod_part_84 (by decide) (fun h84 => ?_) (fun h84 => ?_)
                · skip
                  have h84 : ¬ 1 = 0 := fun z9 => h84 ((nI_eq (a := 1) (b := 0) (by omega) (by omega)).mpr z9)
                  have eA : A (64 * ja + k) = F ja (kM P N ja k) := hRa.2.2 k (by omega)
                  have hg : ¬ gPs (F ja (kM P N ja k)) sg := by rw [← eA]; first | exact fun y => y.elim (fun a => Int64.not_lt.mpr h66 a.1) (fun a => a.2 h76) | exact fun y => y.elim (fun a => h76 a.2) (fun a => a.1 (Int64.not_le.mp h66))
                  have hv9 : gP (F ja) sg (kM P N ja k) = 0 := gP_n hg
                  have hbd2 : bZ bd (bd = 0 ∧ (gPs (F ja (kM P N ja k)) sg → fM (F ja (kM P N ja k)) sg.toInt64)) := ⟨fun y => ⟨y, fun a => absurd a hg⟩, fun y => y.1⟩
                  refine lv_iinc (v := (nI ((64 * ja + k) + 1))) (lv' := [(4, .int (nI ((64 * ja + k) + 1))), (0, .ref (ad 43)), (1, .int (nI ja)), (2, .int sg), (3, .int (nI jc))]) hx hb d_Mod_part_118 hl (k := 0) rfl (nI_1 _) (by decide) rfl (fun ls hl => ?_)
                  refine lv_goto (tgt := 41) hx hb d_Mod_part_121 (by decide) ?_
                  exact ih41 (k + 1) rm rP rN rA bd u _ _ _ (by omega) (by omega) hM (rw_n hrow (sU_s (k := kM P N ja)) hv9) (by omega) (bz_s hbd hbd2 (sU_s (k := kM P N ja))) hfr hZ (lv_sub hl [0, 1, 2, 3, 4] rfl)
                · skip
                  have h84 : 1 = 0 := (nI_eq (a := 1) (b := 0) (by omega) (by omega)).mp h84
                  exact absurd h84 (by decide)
              · skip
                refine lv_iconst (v := (nI 1)) hx hb d_Mod_part_79 rfl ?_
                refine lv_goto (tgt := 84) hx hb d_Mod_part_80 (by decide) ?_
                refine lv_icmp_ne (tgt := 118) hx hb d_Mod_part_84 (by decide) (fun h84 => ?_) (fun h84 => ?_)
                · skip
                  have h84 : ¬ 1 = 1 := fun z9 => h84 ((nI_eq (a := 1) (b := 1) (by omega) (by omega)).mpr z9)
                  exact absurd h84 (by decide)
                · skip
                  have h84 : 1 = 1 := (nI_eq (a := 1) (b := 1) (by omega) (by omega)).mp h84
                  have eA : A (64 * ja + k) = F ja (kM P N ja k) := hRa.2.2 k (by omega)
                  have hg : gPs (F ja (kM P N ja k)) sg := by rw [← eA]; first | exact Or.inl ⟨Int64.not_le.mp h66, h76⟩ | exact Or.inr ⟨Int64.not_lt.mpr h66, h76⟩
                  refine lv_aload_n hx hb d_Mod_part_87 rfl (lv_at hl 1 rfl) ?_
                  refine lv_aload_n hx hb d_Mod_part_88 rfl (lv_at hl 1 rfl) ?_
                  refine q_get (C := R_Mod) (T := T_Mod) (N := 10) hx hb hts (fun w h => gm (inT_Mod w h)) hown hK hZ (43) (by decide) hM.1 rfl 2 (by decide) (hts _ (gm k_422)) (fun _ h9 => h9) rfl d_Mod_part_89 ?_
                  refine lv_iload hx hb d_Mod_part_92 (lv_at hl 0 rfl) ?_
                  refine q_iald hx hb hK hZ (45) 0 ((64 * ja + k)) (by decide) hM.2.2.1 rfl rfl (by omega) (by decide) d_Mod_part_94 ?_
                  refine lv_aload_n hx hb d_Mod_part_95 rfl (lv_at hl 1 rfl) ?_
                  refine q_get (C := R_Mod) (T := T_Mod) (N := 10) hx hb hts (fun w h => gm (inT_Mod w h)) hown hK hZ (43) (by decide) hM.1 rfl 3 (by decide) (hts _ (gm k_423)) (fun _ h9 => h9) rfl d_Mod_part_96 ?_
                  refine lv_iload hx hb d_Mod_part_99 (lv_at hl 0 rfl) ?_
                  refine q_lald hx hb hK hZ (46) 1 ((64 * ja + k)) (by decide) hM.2.2.2.1 rfl rfl (by omega) (by decide) d_Mod_part_101 ?_
                  refine lv_aload_n hx hb d_Mod_part_102 rfl (lv_at hl 1 rfl) ?_
                  refine lv_aload_n hx hb d_Mod_part_103 rfl (lv_at hl 1 rfl) ?_
                  refine q_get (C := R_Mod) (T := T_Mod) (N := 10) hx hb hts (fun w h => gm (inT_Mod w h)) hown hK hZ (43) (by decide) hM.1 rfl 4 (by decide) (hts _ (gm k_424)) (fun _ h9 => h9) rfl d_Mod_part_104 ?_
                  refine lv_iload hx hb d_Mod_part_107 (lv_at hl 0 rfl) ?_
                  refine q_lald hx hb hK hZ (47) 1 ((64 * ja + k)) (by decide) hM.2.2.2.2.1 rfl rfl (by omega) (by decide) d_Mod_part_109 ?_
                  refine lv_iload_n hx hb d_Mod_part_110 rfl (lv_at hl 3 rfl) ?_
                  refine lv_i2l (v := sg.toInt64) hx hb d_Mod_part_111 rfl ?_
                  refine q_calll (va_runV (As := [.long (A (64 * ja + k)), .long (sg.toInt64)]) (rest := [.long (N (64 * ja + k)), .int (P (64 * ja + k)), .ref (ad 43)]) ⟨hx, hb, hml, hown, hts⟩ (c_Mod_multiplied l dC dI cI cL cB ad N0 u (nI 0) mn P N A (nI rm) rP rN rA bd (A (64 * ja + k)) sg.toInt64 hM) (cwV 2 hts (gI_V k_527 k_524 k_526 k_17 k_24) rfl rfl rfl (by decide +kernel) ⟨Nat.le_of_ble_eq_true rfl, Nat.le_of_ble_eq_true rfl⟩) (q_preV hK hAm hZ hN [.long (A (64 * ja + k)), .long (sg.toInt64)] (43) 3 (by decide) hM.1 rfl) rfl rfl hl.1 rfl (lv_room (Nat.le_of_ble_eq_true rfl)) d_Mod_part_112 ⟨Nat.zero_le _, Nat.zero_le _⟩) hZ (fun a9 u_a9 H locs h_a9 hZ => ?_)
                  obtain ⟨hf2, e_a, b2, hM, hb2⟩ := h_a9
                  have hfr := fr_tr hfr hf2 (Nat.le_refl _) (Nat.le_refl _)
                  have eA : A (64 * ja + k) = F ja (kM P N ja k) := hRa.2.2 k (by omega)
                  have hbd2 : bZ b2 (bd = 0 ∧ (gPs (F ja (kM P N ja k)) sg → fM (F ja (kM P N ja k)) sg.toInt64)) := by rw [← eA]; exact ⟨fun y => ⟨(hb2.mp y).1, fun _ => (hb2.mp y).2⟩, fun y => hb2.mpr ⟨y.1, y.2 (by rw [eA]; exact hg)⟩⟩
                  refine q_topl (y := gP (F ja) sg (kM P N ja k)) (e_a.trans (by rw [eA]; exact (gP_y hg).symm)) ?_
                  refine q_callv (va_runV (As := [.int (P (64 * ja + k)), .long (N (64 * ja + k)), .long (gP (F ja) sg (kM P N ja k))]) (rest := []) ⟨hx, hb, hml, hown, hts⟩ (c_Mod_lay l dC dI cI cL cB ad N0 u_a9 (nI 0) mn P N A rm rP rN rA b2 (P (64 * ja + k)) (N (64 * ja + k)) (gP (F ja) sg (kM P N ja k)) hM (by omega)) (cwV 3 hts (gI_V k_511 k_508 k_510 k_15 k_24) rfl rfl rfl (by decide +kernel) ⟨Nat.le_of_ble_eq_true rfl, Nat.le_of_ble_eq_true rfl⟩) (q_preV hK hAm hZ hN [.int (P (64 * ja + k)), .long (N (64 * ja + k)), .long (gP (F ja) sg (kM P N ja k))] (43) 3 (by decide) hM.1 rfl) rfl rfl hl.1 rfl (lv_room (Nat.le_of_ble_eq_true rfl)) d_Mod_part_115 ⟨Nat.zero_le _, Nat.zero_le _⟩) hZ (fun u_y9 H locs h_y9 hZ => ?_)
                  obtain ⟨hf3, h_y9⟩ := h_y9
                  have hfr := fr_tr hfr hf3 (Nat.le_refl _) (Nat.le_refl _)
                  rcases h_y9 with ⟨hv9, e_y9⟩ | ⟨hv9, hM⟩
                  · skip
                    rw [e_y9] at hZ
                    have hfr : fr w u_a9 43 50 := by rw [e_y9] at hfr; exact hfr
                    refine lv_iinc (v := (nI ((64 * ja + k) + 1))) (lv' := [(4, .int (nI ((64 * ja + k) + 1))), (0, .ref (ad 43)), (1, .int (nI ja)), (2, .int sg), (3, .int (nI jc))]) hx hb d_Mod_part_118 hl (k := 0) rfl (nI_1 _) (by decide) rfl (fun ls hl => ?_)
                    refine lv_goto (tgt := 41) hx hb d_Mod_part_121 (by decide) ?_
                    exact ih41 (k + 1) rm rP rN rA b2 u_a9 _ _ _ (by omega) (by omega) hM (rw_n hrow (sU_s (k := kM P N ja)) hv9) (by omega) (bz_s hbd hbd2 (sU_s (k := kM P N ja))) hfr hZ (lv_sub hl [0, 1, 2, 3, 4] rfl)
                  · skip
                    refine lv_iinc (v := (nI ((64 * ja + k) + 1))) (lv' := [(4, .int (nI ((64 * ja + k) + 1))), (0, .ref (ad 43)), (1, .int (nI ja)), (2, .int sg), (3, .int (nI jc))]) hx hb d_Mod_part_118 hl (k := 0) rfl (nI_1 _) (by decide) rfl (fun ls hl => ?_)
                    refine lv_goto (tgt := 41) hx hb d_Mod_part_121 (by decide) ?_
                    exact ih41 (k + 1) (rm + 1) _ _ _ b2 u_y9 _ _ _ (by omega) (by omega) hM (rw_y hrow (sU_s (k := kM P N ja)) (sU_f hRa.1 (by omega)) hv9) (by omega) (bz_s hbd hbd2 (sU_s (k := kM P N ja))) hfr hZ (lv_sub hl [0, 1, 2, 3, 4] rfl)
      exact loop41 (za + 1) 0 0 rP rN rA (nI 0) u_g9 _ _ _ (Nat.zero_le za) (by omega) hM (rw_0 sU_0) (by omega) (bz_0 sU_0) hfr hZ (lv_sub hl [0, 1, 2, 3, 4] rfl)
    · skip
      refine lv_iload_n hx hb d_Mod_part_24 rfl (lv_at hl 2 rfl) ?_
      refine lv_iconst (v := (-1)) hx hb d_Mod_part_25 rfl ?_
      refine lv_icmp_eq (tgt := 31) hx hb d_Mod_part_26 (by decide) (fun h26 => ?_) (fun h26 => ?_)
      · skip
        have hsg : sg = 1 ∨ sg = -1 := by first | exact Or.inl h21 | exact Or.inr h26
        refine lv_aload_n hx hb d_Mod_part_31 rfl (lv_at hl 0 rfl) ?_
        refine q_callv (va_runV (As := []) (rest := []) ⟨hx, hb, hml, hown, hts⟩ (c_Mod_begin l dC dI cI cL cB ad N0 w84 (nI 0) mn P N A rm rP rN rA bd hM) (cwV 0 hts (gI_V k_503 k_500 k_502 k_13 k_24) rfl rfl rfl (by decide +kernel) ⟨Nat.le_of_ble_eq_true rfl, Nat.le_of_ble_eq_true rfl⟩) (q_preV hK hAm hZ hN [] (43) 3 (by decide) hM.1 rfl) rfl rfl hl.1 rfl (lv_room (Nat.le_of_ble_eq_true rfl)) d_Mod_part_32 ⟨Nat.zero_le _, Nat.zero_le _⟩) hZ (fun u_g9 H locs h_g9 hZ => ?_)
        obtain ⟨hf2, hM⟩ := h_g9
        have hfr := fr_tr hfr hf2 (Nat.le_refl _) (Nat.le_refl _)
        refine lv_bipush (v := (nI 64)) hx hb d_Mod_part_35 rfl ?_
        refine lv_iload_n hx hb d_Mod_part_37 rfl (lv_at hl 1 rfl) ?_
        refine lv_imul hx hb d_Mod_part_38 ?_
        refine q_topi (y := nI (64 * ja)) (pk_mul _ _) ?_
        refine lv_istore (lv' := [(4, .int (nI (64 * ja))), (0, .ref (ad 43)), (1, .int (nI ja)), (2, .int sg), (3, .int (nI jc))]) hx hb d_Mod_part_39 hl (by decide) rfl (fun ls hl => ?_)
        have loop41 : ∀ (fu41 : Nat) (k rm : Nat) (rP : Nat → Int32) (rN rA : Nat → Int64) (bd : Int32) (u : Nat → va_E) (H : Heap) (locs : List Loc) (ls : Array Slot), (k ≤ za) → (za + 1 ≤ k + fu41) → (isMod ad cI cL u (nI 0) mn P N A (nI rm) rP rN rA bd) → (mRep rm rP rN rA (gS (gP (F ja) sg) (sU (kM P N ja) k))) → (rm ≤ k) → (bZ bd (∀ y, (sU (kM P N ja) k) y → gPs (F ja y) sg → fM (F ja y) sg.toInt64)) → (fr w u 43 50) → sZ (dC, dI) vCl 52 ad (fun q => N0 ≤ q) s.heap u H locs → lv_has ls 5 [(4, .int (nI (64 * ja + k))), (0, .ref (ad 43)), (1, .int (nI ja)), (2, .int sg), (3, .int (nI jc))] → W p l e (headSpec ws_Mod_part ({ frames := 2, cells := 0, slots := 0, locals := 44 } : Room)).room s m ([.ref (ad 43), .int (nI ja), .int sg, .int (nI jc)]).toArray below meth c H locs 0 0 (MQ below (va_Qi (fun r u => fr w u 43 50 ∧ ((((sg = 1 ∨ sg = -1) ∧ ∀ y, gPs (F ja y) sg → fM (F ja y) sg.toInt64) ∧ r = 1 ∧ sM ad cI cL u (nI 0) (va_up F jc (gP (F ja) sg))) ∨ (¬ ((sg = 1 ∨ sg = -1) ∧ ∀ y, gPs (F ja y) sg → fM (F ja y) sg.toInt64) ∧ r = 0 ∧ sM ad cI cL u (nI 0) F))) (sPr (dC, dI) vCl [(cI, .int), (cL, .long), (cB, .object "CoinBag$Bag")] 52 ad N0) (fun q => N0 ≤ q)) ([.ref (ad 43), .int (nI ja), .int sg, .int (nI jc)]).toArray s 0 0 (fun q => N0 ≤ q)) (F0 m 41 ls []) := by
          intro fu41
          induction fu41 with
          | zero =>
            intro k rm rP rN rA bd u H locs ls hk hf9 hM hrow hrm hbd hfr
            omega
          | succ fu41 ih41 =>
            intro k rm rP rN rA bd u H locs ls hk hf9 hM hrow hrm hbd hfr hZ hl
            refine lv_iload hx hb d_Mod_part_41 (lv_at hl 0 rfl) ?_
            refine lv_bipush (v := (nI 64)) hx hb d_Mod_part_43 rfl ?_
            refine lv_iload_n hx hb d_Mod_part_45 rfl (lv_at hl 2 rfl) ?_
            refine lv_imul hx hb d_Mod_part_46 ?_
            refine q_topi (y := nI (64 * ja)) (pk_mul _ _) ?_
            refine lv_aload_n hx hb d_Mod_part_47 rfl (lv_at hl 1 rfl) ?_
            refine q_get (C := R_Mod) (T := T_Mod) (N := 10) hx hb hts (fun w h => gm (inT_Mod w h)) hown hK hZ (43) (by decide) hM.1 rfl 1 (by decide) (hts _ (gm k_421)) (fun _ h9 => h9) rfl d_Mod_part_48 ?_
            refine lv_iload_n hx hb d_Mod_part_51 rfl (lv_at hl 2 rfl) ?_
            refine q_iald hx hb hK hZ (44) 0 (ja) (by decide) hM.2.1 rfl rfl (by omega) (by decide) d_Mod_part_52 ?_
            refine q_topi (y := nI za) (hmna) ?_
            refine lv_iadd hx hb d_Mod_part_53 ?_
            refine q_topi (y := nI ((64 * ja) + za)) (nI_add _ _) ?_
            refine lv_icmp_ge (tgt := 124) hx hb d_Mod_part_54 (by decide) (fun h54 => ?_) (fun h54 => ?_)
            · skip
              have h54 : ((64 * ja) + za) ≤ (64 * ja + k) := (nI_leI (a := ((64 * ja) + za)) (b := (64 * ja + k)) (by omega) (by omega)).mp h54
              have ek : k = za := by omega
              rw [ek] at hrow hbd hrm
              refine lv_aload_n hx hb d_Mod_part_124 rfl (lv_at hl 1 rfl) ?_
              refine lv_iload_n hx hb d_Mod_part_125 rfl (lv_at hl 4 rfl) ?_
              have hrow := rw_end hrow (fun y hy => hRa.2.1.2 y (fun e => hy (gP_0 e)))
              refine q_calli (va_runV (As := [.int (nI jc)]) (rest := []) ⟨hx, hb, hml, hown, hts⟩ (c_Mod_becomes l dC dI cI cL cB ad N0 u (nI 0) mn P N A rm rP rN rA bd jc F (gP (F ja) sg) hM hjc (by omega) hB hrow) (cwV 1 hts (gI_V k_515 k_512 k_514 k_16 k_24) rfl rfl rfl (by decide +kernel) ⟨Nat.le_of_ble_eq_true rfl, Nat.le_of_ble_eq_true rfl⟩) (q_preV hK hAm hZ hN [.int (nI jc)] (43) 3 (by decide) hM.1 rfl) rfl rfl hl.1 rfl (lv_room (Nat.le_of_ble_eq_true rfl)) d_Mod_part_126 ⟨Nat.zero_le _, Nat.zero_le _⟩) hZ (fun s9 u_s9 H locs h_s9 hZ => ?_)
              exact q_zret hx hb hr (show narrow .boolean (.int s9) = .int s9 from by rcases h_s9.2 with ⟨_, e9, _⟩ | ⟨_, e9, _⟩ <;> rw [e9] <;> rfl) hlocks hK hAm hZ hN (⟨fr_tr hfr h_s9.1 (Nat.le_refl _) (Nat.le_refl _), b2_end (b1_end h_s9.2 (bz_all hRa.2.1.2 (fun y e _ => by rw [e]; exact fM_0l _) hbd) (by omega)) hsg⟩) d_Mod_part_129
            · skip
              have h54 : (64 * ja + k) < ((64 * ja) + za) := Nat.lt_of_not_le (fun z9 => h54 ((nI_leI (a := ((64 * ja) + za)) (b := (64 * ja + k)) (by omega) (by omega)).mpr z9))
              refine lv_aload_n hx hb d_Mod_part_57 rfl (lv_at hl 1 rfl) ?_
              refine q_get (C := R_Mod) (T := T_Mod) (N := 10) hx hb hts (fun w h => gm (inT_Mod w h)) hown hK hZ (43) (by decide) hM.1 rfl 4 (by decide) (hts _ (gm k_424)) (fun _ h9 => h9) rfl d_Mod_part_58 ?_
              refine lv_iload hx hb d_Mod_part_61 (lv_at hl 0 rfl) ?_
              refine q_lald hx hb hK hZ (47) 1 ((64 * ja + k)) (by decide) hM.2.2.2.2.1 rfl rfl (by omega) (by decide) d_Mod_part_63 ?_
              refine lv_lconst (v := 0) hx hb d_Mod_part_64 rfl ?_
              refine W.lcmp hx hb d_Mod_part_65 ?_
              refine lv_if_le (tgt := 73) hx hb d_Mod_part_66 (by decide) (fun h66 => ?_) (fun h66 => ?_)
              · skip
                rw [lg_cmp_le] at h66
                refine lv_iconst (v := (nI 0)) hx hb d_Mod_part_73 rfl ?_
                refine lv_iload_n hx hb d_Mod_part_74 rfl (lv_at hl 3 rfl) ?_
                refine lv_iconst (v := (nI 1)) hx hb d_Mod_part_75 rfl ?_
                refine lv_icmp_ne (tgt := 83) hx hb d_Mod_part_76 (by decide) (fun h76 => ?_) (fun h76 => ?_)
                · skip
                  refine lv_iconst (v := (nI 0)) hx hb d_Mod_part_83 rfl ?_
                  refine lv_icmp_ne (tgt := 118) hx hb d_Mod_part_84 (by decide) (fun h84 => ?_) (fun h84 => ?_)
                  · skip
                    have h84 : ¬ 0 = 0 := fun z9 => h84 ((nI_eq (a := 0) (b := 0) (by omega) (by omega)).mpr z9)
                    exact absurd h84 (by decide)
                  · skip
                    have h84 : 0 = 0 := (nI_eq (a := 0) (b := 0) (by omega) (by omega)).mp h84
                    have eA : A (64 * ja + k) = F ja (kM P N ja k) := hRa.2.2 k (by omega)
                    have hg : gPs (F ja (kM P N ja k)) sg := by rw [← eA]; first | exact Or.inl ⟨Int64.not_le.mp h66, h76⟩ | exact Or.inr ⟨Int64.not_lt.mpr h66, h76⟩
                    refine lv_aload_n hx hb d_Mod_part_87 rfl (lv_at hl 1 rfl) ?_
                    refine lv_aload_n hx hb d_Mod_part_88 rfl (lv_at hl 1 rfl) ?_
                    refine q_get (C := R_Mod) (T := T_Mod) (N := 10) hx hb hts (fun w h => gm (inT_Mod w h)) hown hK hZ (43) (by decide) hM.1 rfl 2 (by decide) (hts _ (gm k_422)) (fun _ h9 => h9) rfl d_Mod_part_89 ?_
                    refine lv_iload hx hb d_Mod_part_92 (lv_at hl 0 rfl) ?_
                    refine q_iald hx hb hK hZ (45) 0 ((64 * ja + k)) (by decide) hM.2.2.1 rfl rfl (by omega) (by decide) d_Mod_part_94 ?_
                    refine lv_aload_n hx hb d_Mod_part_95 rfl (lv_at hl 1 rfl) ?_
                    refine q_get (C := R_Mod) (T := T_Mod) (N := 10) hx hb hts (fun w h => gm (inT_Mod w h)) hown hK hZ (43) (by decide) hM.1 rfl 3 (by decide) (hts _ (gm k_423)) (fun _ h9 => h9) rfl d_Mod_part_96 ?_
                    refine lv_iload hx hb d_Mod_part_99 (lv_at hl 0 rfl) ?_
                    refine q_lald hx hb hK hZ (46) 1 ((64 * ja + k)) (by decide) hM.2.2.2.1 rfl rfl (by omega) (by decide) d_Mod_part_101 ?_
                    refine lv_aload_n hx hb d_Mod_part_102 rfl (lv_at hl 1 rfl) ?_
                    refine lv_aload_n hx hb d_Mod_part_103 rfl (lv_at hl 1 rfl) ?_
                    refine q_get (C := R_Mod) (T := T_Mod) (N := 10) hx hb hts (fun w h => gm (inT_Mod w h)) hown hK hZ (43) (by decide) hM.1 rfl 4 (by decide) (hts _ (gm k_424)) (fun _ h9 => h9) rfl d_Mod_part_104 ?_
                    refine lv_iload hx hb d_Mod_part_107 (lv_at hl 0 rfl) ?_
                    refine q_lald hx hb hK hZ (47) 1 ((64 * ja + k)) (by decide) hM.2.2.2.2.1 rfl rfl (by omega) (by decide) d_Mod_part_109 ?_
                    refine lv_iload_n hx hb d_Mod_part_110 rfl (lv_at hl 3 rfl) ?_
                    refine lv_i2l (v := sg.toInt64) hx hb d_Mod_part_111 rfl ?_
                    refine q_calll (va_runV (As := [.long (A (64 * ja + k)), .long (sg.toInt64)]) (rest := [.long (N (64 * ja + k)), .int (P (64 * ja + k)), .ref (ad 43)]) ⟨hx, hb, hml, hown, hts⟩ (c_Mod_multiplied l dC dI cI cL cB ad N0 u (nI 0) mn P N A (nI rm) rP rN rA bd (A (64 * ja + k)) sg.toInt64 hM) (cwV 2 hts (gI_V k_527 k_524 k_526 k_17 k_24) rfl rfl rfl (by decide +kernel) ⟨Nat.le_of_ble_eq_true rfl, Nat.le_of_ble_eq_true rfl⟩) (q_preV hK hAm hZ hN [.long (A (64 * ja + k)), .long (sg.toInt64)] (43) 3 (by decide) hM.1 rfl) rfl rfl hl.1 rfl (lv_room (Nat.le_of_ble_eq_true rfl)) d_Mod_part_112 ⟨Nat.zero_le _, Nat.zero_le _⟩) hZ (fun a9 u_a9 H locs h_a9 hZ => ?_)
                    obtain ⟨hf2, e_a, b2, hM, hb2⟩ := h_a9
                    have hfr := fr_tr hfr hf2 (Nat.le_refl _) (Nat.le_refl _)
                    have eA : A (64 * ja + k) = F ja (kM P N ja k) := hRa.2.2 k (by omega)
                    have hbd2 : bZ b2 (bd = 0 ∧ (gPs (F ja (kM P N ja k)) sg → fM (F ja (kM P N ja k)) sg.toInt64)) := by rw [← eA]; exact ⟨fun y => ⟨(hb2.mp y).1, fun _ => (hb2.mp y).2⟩, fun y => hb2.mpr ⟨y.1, y.2 (by rw [eA]; exact hg)⟩⟩
                    refine q_topl (y := gP (F ja) sg (kM P N ja k)) (e_a.trans (by rw [eA]; exact (gP_y hg).symm)) ?_
                    refine q_callv (va_runV (As := [.int (P (64 * ja + k)), .long (N (64 * ja + k)), .long (gP (F ja) sg (kM P N ja k))]) (rest := []) ⟨hx, hb, hml, hown, hts⟩ (c_Mod_lay l dC dI cI cL cB ad N0 u_a9 (nI 0) mn P N A rm rP rN rA b2 (P (64 * ja + k)) (N (64 * ja + k)) (gP (F ja) sg (kM P N ja k)) hM (by omega)) (cwV 3 hts (gI_V k_511 k_508 k_510 k_15 k_24) rfl rfl rfl (by decide +kernel) ⟨Nat.le_of_ble_eq_true rfl, Nat.le_of_ble_eq_true rfl⟩) (q_preV hK hAm hZ hN [.int (P (64 * ja + k)), .long (N (64 * ja + k)), .long (gP (F ja) sg (kM P N ja k))] (43) 3 (by decide) hM.1 rfl) rfl rfl hl.1 rfl (lv_room (Nat.le_of_ble_eq_true rfl)) d_Mod_part_115 ⟨Nat.zero_le _, Nat.zero_le _⟩) hZ (fun u_y9 H locs h_y9 hZ => ?_)
                    obtain ⟨hf3, h_y9⟩ := h_y9
                    have hfr := fr_tr hfr hf3 (Nat.le_refl _) (Nat.le_refl _)
                    rcases h_y9 with ⟨hv9, e_y9⟩ | ⟨hv9, hM⟩
                    · skip
                      rw [e_y9] at hZ
                      have hfr : fr w u_a9 43 50 := by rw [e_y9] at hfr; exact hfr
                      refine lv_iinc (v := (nI ((64 * ja + k) + 1))) (lv' := [(4, .int (nI ((64 * ja + k) + 1))), (0, .ref (ad 43)), (1, .int (nI ja)), (2, .int sg), (3, .int (nI jc))]) hx hb d_Mod_part_118 hl (k := 0) rfl (nI_1 _) (by decide) rfl (fun ls hl => ?_)
                      refine lv_goto (tgt := 41) hx hb d_Mod_part_121 (by decide) ?_
                      exact ih41 (k + 1) rm rP rN rA b2 u_a9 _ _ _ (by omega) (by omega) hM (rw_n hrow (sU_s (k := kM P N ja)) hv9) (by omega) (bz_s hbd hbd2 (sU_s (k := kM P N ja))) hfr hZ (lv_sub hl [0, 1, 2, 3, 4] rfl)
                    · skip
                      refine lv_iinc (v := (nI ((64 * ja + k) + 1))) (lv' := [(4, .int (nI ((64 * ja + k) + 1))), (0, .ref (ad 43)), (1, .int (nI ja)), (2, .int sg), (3, .int (nI jc))]) hx hb d_Mod_part_118 hl (k := 0) rfl (nI_1 _) (by decide) rfl (fun ls hl => ?_)
                      refine lv_goto (tgt := 41) hx hb d_Mod_part_121 (by decide) ?_
                      exact ih41 (k + 1) (rm + 1) _ _ _ b2 u_y9 _ _ _ (by omega) (by omega) hM (rw_y hrow (sU_s (k := kM P N ja)) (sU_f hRa.1 (by omega)) hv9) (by omega) (bz_s hbd hbd2 (sU_s (k := kM P N ja))) hfr hZ (lv_sub hl [0, 1, 2, 3, 4] rfl)
                · skip
                  refine lv_iconst (v := (nI 1)) hx hb d_Mod_part_79 rfl ?_
                  refine lv_goto (tgt := 84) hx hb d_Mod_part_80 (by decide) ?_
                  refine lv_icmp_ne (tgt := 118) hx hb d_Mod_part_84 (by decide) (fun h84 => ?_) (fun h84 => ?_)
                  · skip
                    have h84 : ¬ 0 = 1 := fun z9 => h84 ((nI_eq (a := 0) (b := 1) (by omega) (by omega)).mpr z9)
                    have eA : A (64 * ja + k) = F ja (kM P N ja k) := hRa.2.2 k (by omega)
                    have hg : ¬ gPs (F ja (kM P N ja k)) sg := by rw [← eA]; first | exact fun y => y.elim (fun a => Int64.not_lt.mpr h66 a.1) (fun a => a.2 h76) | exact fun y => y.elim (fun a => h76 a.2) (fun a => a.1 (Int64.not_le.mp h66))
                    have hv9 : gP (F ja) sg (kM P N ja k) = 0 := gP_n hg
                    have hbd2 : bZ bd (bd = 0 ∧ (gPs (F ja (kM P N ja k)) sg → fM (F ja (kM P N ja k)) sg.toInt64)) := ⟨fun y => ⟨y, fun a => absurd a hg⟩, fun y => y.1⟩
                    refine lv_iinc (v := (nI ((64 * ja + k) + 1))) (lv' := [(4, .int (nI ((64 * ja + k) + 1))), (0, .ref (ad 43)), (1, .int (nI ja)), (2, .int sg), (3, .int (nI jc))]) hx hb d_Mod_part_118 hl (k := 0) rfl (nI_1 _) (by decide) rfl (fun ls hl => ?_)
                    refine lv_goto (tgt := 41) hx hb d_Mod_part_121 (by decide) ?_
                    exact ih41 (k + 1) rm rP rN rA bd u _ _ _ (by omega) (by omega) hM (rw_n hrow (sU_s (k := kM P N ja)) hv9) (by omega) (bz_s hbd hbd2 (sU_s (k := kM P N ja))) hfr hZ (lv_sub hl [0, 1, 2, 3, 4] rfl)
                  · skip
                    have h84 : 0 = 1 := (nI_eq (a := 0) (b := 1) (by omega) (by omega)).mp h84
                    exact absurd h84 (by decide)
              · skip
                rw [lg_cmp_le] at h66
                refine lv_iconst (v := (nI 1)) hx hb d_Mod_part_69 rfl ?_
                refine lv_goto (tgt := 74) hx hb d_Mod_part_70 (by decide) ?_
                refine lv_iload_n hx hb d_Mod_part_74 rfl (lv_at hl 3 rfl) ?_
                refine lv_iconst (v := (nI 1)) hx hb d_Mod_part_75 rfl ?_
                refine lv_icmp_ne (tgt := 83) hx hb d_Mod_part_76 (by decide) (fun h76 => ?_) (fun h76 => ?_)
                · skip
                  refine lv_iconst (v := (nI 0)) hx hb d_Mod_part_83 rfl ?_
                  refine lv_icmp_ne (tgt := 118) hx hb d_Mod_part_84 (by decide) (fun h84 => ?_) (fun h84 => ?_)
                  · skip
                    have h84 : ¬ 1 = 0 := fun z9 => h84 ((nI_eq (a := 1) (b := 0) (by omega) (by omega)).mpr z9)
                    have eA : A (64 * ja + k) = F ja (kM P N ja k) := hRa.2.2 k (by omega)
                    have hg : ¬ gPs (F ja (kM P N ja k)) sg := by rw [← eA]; first | exact fun y => y.elim (fun a => Int64.not_lt.mpr h66 a.1) (fun a => a.2 h76) | exact fun y => y.elim (fun a => h76 a.2) (fun a => a.1 (Int64.not_le.mp h66))
                    have hv9 : gP (F ja) sg (kM P N ja k) = 0 := gP_n hg
                    have hbd2 : bZ bd (bd = 0 ∧ (gPs (F ja (kM P N ja k)) sg → fM (F ja (kM P N ja k)) sg.toInt64)) := ⟨fun y => ⟨y, fun a => absurd a hg⟩, fun y => y.1⟩
                    refine lv_iinc (v := (nI ((64 * ja + k) + 1))) (lv' := [(4, .int (nI ((64 * ja + k) + 1))), (0, .ref (ad 43)), (1, .int (nI ja)), (2, .int sg), (3, .int (nI jc))]) hx hb d_Mod_part_118 hl (k := 0) rfl (nI_1 _) (by decide) rfl (fun ls hl => ?_)
                    refine lv_goto (tgt := 41) hx hb d_Mod_part_121 (by decide) ?_
                    exact ih41 (k + 1) rm rP rN rA bd u _ _ _ (by omega) (by omega) hM (rw_n hrow (sU_s (k := kM P N ja)) hv9) (by omega) (bz_s hbd hbd2 (sU_s (k := kM P N ja))) hfr hZ (lv_sub hl [0, 1, 2, 3, 4] rfl)
                  · skip
                    have h84 : 1 = 0 := (nI_eq (a := 1) (b := 0) (by omega) (by omega)).mp h84
                    exact absurd h84 (by decide)
                · skip
                  refine lv_iconst (v := (nI 1)) hx hb d_Mod_part_79 rfl ?_
                  refine lv_goto (tgt := 84) hx hb d_Mod_part_80 (by decide) ?_
                  refine lv_icmp_ne (tgt := 118) hx hb d_Mod_part_84 (by decide) (fun h84 => ?_) (fun h84 => ?_)
                  · skip
                    have h84 : ¬ 1 = 1 := fun z9 => h84 ((nI_eq (a := 1) (b := 1) (by omega) (by omega)).mpr z9)
                    exact absurd h84 (by decide)
                  · skip
                    have h84 : 1 = 1 := (nI_eq (a := 1) (b := 1) (by omega) (by omega)).mp h84
                    have eA : A (64 * ja + k) = F ja (kM P N ja k) := hRa.2.2 k (by omega)
                    have hg : gPs (F ja (kM P N ja k)) sg := by rw [← eA]; first | exact Or.inl ⟨Int64.not_le.mp h66, h76⟩ | exact Or.inr ⟨Int64.not_lt.mpr h66, h76⟩
                    refine lv_aload_n hx hb d_Mod_part_87 rfl (lv_at hl 1 rfl) ?_
                    refine lv_aload_n hx hb d_Mod_part_88 rfl (lv_at hl 1 rfl) ?_
                    refine q_get (C := R_Mod) (T := T_Mod) (N := 10) hx hb hts (fun w h => gm (inT_Mod w h)) hown hK hZ (43) (by decide) hM.1 rfl 2 (by decide) (hts _ (gm k_422)) (fun _ h9 => h9) rfl d_Mod_part_89 ?_
                    refine lv_iload hx hb d_Mod_part_92 (lv_at hl 0 rfl) ?_
                    refine q_iald hx hb hK hZ (45) 0 ((64 * ja + k)) (by decide) hM.2.2.1 rfl rfl (by omega) (by decide) d_Mod_part_94 ?_
                    refine lv_aload_n hx hb d_Mod_part_95 rfl (lv_at hl 1 rfl) ?_
                    refine q_get (C := R_Mod) (T := T_Mod) (N := 10) hx hb hts (fun w h => gm (inT_Mod w h)) hown hK hZ (43) (by decide) hM.1 rfl 3 (by decide) (hts _ (gm k_423)) (fun _ h9 => h9) rfl d_Mod_part_96 ?_
                    refine lv_iload hx hb d_Mod_part_99 (lv_at hl 0 rfl) ?_
                    refine q_lald hx hb hK hZ (46) 1 ((64 * ja + k)) (by decide) hM.2.2.2.1 rfl rfl (by omega) (by decide) d_Mod_part_101 ?_
                    refine lv_aload_n hx hb d_Mod_part_102 rfl (lv_at hl 1 rfl) ?_
                    refine lv_aload_n hx hb d_Mod_part_103 rfl (lv_at hl 1 rfl) ?_
                    refine q_get (C := R_Mod) (T := T_Mod) (N := 10) hx hb hts (fun w h => gm (inT_Mod w h)) hown hK hZ (43) (by decide) hM.1 rfl 4 (by decide) (hts _ (gm k_424)) (fun _ h9 => h9) rfl d_Mod_part_104 ?_
                    refine lv_iload hx hb d_Mod_part_107 (lv_at hl 0 rfl) ?_
                    refine q_lald hx hb hK hZ (47) 1 ((64 * ja + k)) (by decide) hM.2.2.2.2.1 rfl rfl (by omega) (by decide) d_Mod_part_109 ?_
                    refine lv_iload_n hx hb d_Mod_part_110 rfl (lv_at hl 3 rfl) ?_
                    refine lv_i2l (v := sg.toInt64) hx hb d_Mod_part_111 rfl ?_
                    refine q_calll (va_runV (As := [.long (A (64 * ja + k)), .long (sg.toInt64)]) (rest := [.long (N (64 * ja + k)), .int (P (64 * ja + k)), .ref (ad 43)]) ⟨hx, hb, hml, hown, hts⟩ (c_Mod_multiplied l dC dI cI cL cB ad N0 u (nI 0) mn P N A (nI rm) rP rN rA bd (A (64 * ja + k)) sg.toInt64 hM) (cwV 2 hts (gI_V k_527 k_524 k_526 k_17 k_24) rfl rfl rfl (by decide +kernel) ⟨Nat.le_of_ble_eq_true rfl, Nat.le_of_ble_eq_true rfl⟩) (q_preV hK hAm hZ hN [.long (A (64 * ja + k)), .long (sg.toInt64)] (43) 3 (by decide) hM.1 rfl) rfl rfl hl.1 rfl (lv_room (Nat.le_of_ble_eq_true rfl)) d_Mod_part_112 ⟨Nat.zero_le _, Nat.zero_le _⟩) hZ (fun a9 u_a9 H locs h_a9 hZ => ?_)
                    obtain ⟨hf2, e_a, b2, hM, hb2⟩ := h_a9
                    have hfr := fr_tr hfr hf2 (Nat.le_refl _) (Nat.le_refl _)
                    have eA : A (64 * ja + k) = F ja (kM P N ja k) := hRa.2.2 k (by omega)
                    have hbd2 : bZ b2 (bd = 0 ∧ (gPs (F ja (kM P N ja k)) sg → fM (F ja (kM P N ja k)) sg.toInt64)) := by rw [← eA]; exact ⟨fun y => ⟨(hb2.mp y).1, fun _ => (hb2.mp y).2⟩, fun y => hb2.mpr ⟨y.1, y.2 (by rw [eA]; exact hg)⟩⟩
                    refine q_topl (y := gP (F ja) sg (kM P N ja k)) (e_a.trans (by rw [eA]; exact (gP_y hg).symm)) ?_
                    refine q_callv (va_runV (As := [.int (P (64 * ja + k)), .long (N (64 * ja + k)), .long (gP (F ja) sg (kM P N ja k))]) (rest := []) ⟨hx, hb, hml, hown, hts⟩ (c_Mod_lay l dC dI cI cL cB ad N0 u_a9 (nI 0) mn P N A rm rP rN rA b2 (P (64 * ja + k)) (N (64 * ja + k)) (gP (F ja) sg (kM P N ja k)) hM (by omega)) (cwV 3 hts (gI_V k_511 k_508 k_510 k_15 k_24) rfl rfl rfl (by decide +kernel) ⟨Nat.le_of_ble_eq_true rfl, Nat.le_of_ble_eq_true rfl⟩) (q_preV hK hAm hZ hN [.int (P (64 * ja + k)), .long (N (64 * ja + k)), .long (gP (F ja) sg (kM P N ja k))] (43) 3 (by decide) hM.1 rfl) rfl rfl hl.1 rfl (lv_room (Nat.le_of_ble_eq_true rfl)) d_Mod_part_115 ⟨Nat.zero_le _, Nat.zero_le _⟩) hZ (fun u_y9 H locs h_y9 hZ => ?_)
                    obtain ⟨hf3, h_y9⟩ := h_y9
                    have hfr := fr_tr hfr hf3 (Nat.le_refl _) (Nat.le_refl _)
                    rcases h_y9 with ⟨hv9, e_y9⟩ | ⟨hv9, hM⟩
                    · skip
                      rw [e_y9] at hZ
                      have hfr : fr w u_a9 43 50 := by rw [e_y9] at hfr; exact hfr
                      refine lv_iinc (v := (nI ((64 * ja + k) + 1))) (lv' := [(4, .int (nI ((64 * ja + k) + 1))), (0, .ref (ad 43)), (1, .int (nI ja)), (2, .int sg), (3, .int (nI jc))]) hx hb d_Mod_part_118 hl (k := 0) rfl (nI_1 _) (by decide) rfl (fun ls hl => ?_)
                      refine lv_goto (tgt := 41) hx hb d_Mod_part_121 (by decide) ?_
                      exact ih41 (k + 1) rm rP rN rA b2 u_a9 _ _ _ (by omega) (by omega) hM (rw_n hrow (sU_s (k := kM P N ja)) hv9) (by omega) (bz_s hbd hbd2 (sU_s (k := kM P N ja))) hfr hZ (lv_sub hl [0, 1, 2, 3, 4] rfl)
                    · skip
                      refine lv_iinc (v := (nI ((64 * ja + k) + 1))) (lv' := [(4, .int (nI ((64 * ja + k) + 1))), (0, .ref (ad 43)), (1, .int (nI ja)), (2, .int sg), (3, .int (nI jc))]) hx hb d_Mod_part_118 hl (k := 0) rfl (nI_1 _) (by decide) rfl (fun ls hl => ?_)
                      refine lv_goto (tgt := 41) hx hb d_Mod_part_121 (by decide) ?_
                      exact ih41 (k + 1) (rm + 1) _ _ _ b2 u_y9 _ _ _ (by omega) (by omega) hM (rw_y hrow (sU_s (k := kM P N ja)) (sU_f hRa.1 (by omega)) hv9) (by omega) (bz_s hbd hbd2 (sU_s (k := kM P N ja))) hfr hZ (lv_sub hl [0, 1, 2, 3, 4] rfl)
        exact loop41 (za + 1) 0 0 rP rN rA (nI 0) u_g9 _ _ _ (Nat.zero_le za) (by omega) hM (rw_0 sU_0) (by omega) (bz_0 sU_0) hfr hZ (lv_sub hl [0, 1, 2, 3, 4] rfl)
      · skip
        refine lv_iconst (v := (nI 0)) hx hb d_Mod_part_29 rfl ?_
        exact q_zret hx hb hr rfl hlocks hK hAm hZ hN (⟨hfr, Or.inr ⟨fun y => y.1.elim h21 h26, rfl, ⟨_, _, _, _, _, _, _, _, _, hM, hB⟩⟩⟩) d_Mod_part_30
set_option maxHeartbeats 4000000 in
set_option maxRecDepth 100000 in
theorem x_Mod_part (l : Launch) (dC : Nat → ClassId) (dI : Nat → Nat → Nat) (cI cL cB : ClassId) (ad : Nat → Nat) (N0 : Nat) (w : Nat → va_E) (t0 : Int32) (F : Nat → Int → Int64) (a sg c2 : Int32) (cd : Int32) (hMM : sM ad cI cL w t0 F) (hbad : wX a c2 (nI 0) (nI 0) cd) : Met l y_Mod_part ws_Mod_part ({ frames := 2, cells := 0, slots := 0, locals := 44 } : Room) (va_Pc [.ref (ad 43), .int a, .int sg, .int c2] (sPr (dC, dI) vCl [(cI, .int), (cL, .long), (cB, .object "CoinBag$Bag")] 52 ad N0 w)) (va_Qi (fun r u => fr w u 43 50 ∧ sM ad cI cL u cd F) (sPr (dC, dI) vCl [(cI, .int), (cL, .long), (cB, .object "CoinBag$Bag")] 52 ad N0) (fun q => N0 ≤ q)) 0 0 (fun q => N0 ≤ q) := by
  refine Met.ofW (cc := b_Mod_part) (maxL := 5) (ret := (some .boolean)) (by decide) rfl ?_
  intro p e s m args below meth c s₁ B hml hv
  obtain ⟨rfl, hP, hK, hD, hN, hAm⟩ := hv
  have hx := B.exec
  have hb := B.bytes
  have hr := B.returns
  have hts := atoms_spec (ws := ws_Mod_part) B.pre
  have hown : s.vm.findClass "CoinBagModel" = some m.cls := findClass_of_methodNamed B.named
  have hlocks := B.notSynchronized
  have hZ : sZ (dC, dI) vCl 52 ad (fun q => N0 ≤ q) s.heap w s.heap [] := ⟨hP, hD, va_S.rf⟩
  have hl := lv_entry ([.ref (ad 43), .int a, .int sg, .int c2]) (n := 5) (Nat.le_of_ble_eq_true rfl)
  rw [lg_entry_eq]
  generalize (lg_sl ([.ref (ad 43), .int a, .int sg, .int c2]) ++ List.replicate (5 - (lg_sl ([.ref (ad 43), .int a, .int sg, .int c2])).length) Slot.unset).toArray = ls at hl ⊢
  have hl : lv_has ls 5 [(0, .ref (ad 43)), (1, .int a), (2, .int sg), (3, .int c2)] := hl
  obtain ⟨mn, P, N, A, rm, rP, rN, rA, bd, hM, hB⟩ := hMM
  have hfr : fr w w 43 50 := fr_rf
  refine lv_aload_n hx hb d_Mod_part_0 rfl (lv_at hl 0 rfl) ?_
  refine lv_aload_n hx hb d_Mod_part_1 rfl (lv_at hl 0 rfl) ?_
  refine lv_iload_n hx hb d_Mod_part_2 rfl (lv_at hl 1 rfl) ?_
  refine lv_iload_n hx hb d_Mod_part_3 rfl (lv_at hl 3 rfl) ?_
  refine lv_iconst (v := (nI 0)) hx hb d_Mod_part_4 rfl ?_
  refine lv_iconst (v := (nI 0)) hx hb d_Mod_part_5 rfl ?_
  refine q_calli (va_runV (As := [.int a, .int c2, .int (nI 0), .int (nI 0)]) (rest := [.ref (ad 43)]) ⟨hx, hb, hml, hown, hts⟩ (c_Mod_wrong l dC dI cI cL cB ad N0 w t0 mn P N A rm rP rN rA bd a c2 (nI 0) (nI 0) hM) (cwV 4 hts (gI_V k_462 k_459 k_461 k_7 k_24) rfl rfl rfl (by decide +kernel) ⟨Nat.le_of_ble_eq_true rfl, Nat.le_of_ble_eq_true rfl⟩) (q_preV hK hAm hZ hN [.int a, .int c2, .int (nI 0), .int (nI 0)] (43) 3 (by decide) hM.1 rfl) rfl rfl hl.1 rfl (lv_room (Nat.le_of_ble_eq_true rfl)) d_Mod_part_6 ⟨Nat.zero_le _, Nat.zero_le _⟩) hZ (fun r u_r H locs h_r hZ => ?_)
  obtain ⟨e_r, h_r⟩ := h_r
  rw [e_r] at hZ
  refine q_topi (y := cd) (wr_x h_r hbad) ?_
  refine q_put (C := R_Mod) (T := T_Mod) (N := 10) (ty := .int) (v := .int cd) hx hb hts (fun w h => gm (inT_Mod w h)) ty_Mod tyo_Mod nm_Mod hown hK hZ (43) (by decide) hM.1 rfl 0 (by decide) (hts _ (gm k_420)) (fun _ h9 => h9) rfl (by decide +kernel) (rfl) (rfl) (Nat.le_of_ble_eq_true rfl) d_Mod_part_9 (fun H locs hZ => ?_)
  have hM := hM.up43 cd rm bd
  have hfr := fr_up (x := 43) (e := .inr (3, [.int cd, .ref (ad 44), .ref (ad 45), .ref (ad 46), .ref (ad 47), .int rm, .ref (ad 48), .ref (ad 49), .ref (ad 50), .int bd])) hfr (by omega) (by omega)
  have hZ : sZ (dC, dI) vCl 52 ad (fun q => N0 ≤ q) s.heap (va_up w 43 (.inr (3, [.int cd, .ref (ad 44), .ref (ad 45), .ref (ad 46), .ref (ad 47), .int rm, .ref (ad 48), .ref (ad 49), .ref (ad 50), .int bd]))) H locs := hZ
  generalize va_up w 43 (.inr (3, [.int cd, .ref (ad 44), .ref (ad 45), .ref (ad 46), .ref (ad 47), .int rm, .ref (ad 48), .ref (ad 49), .ref (ad 50), .int bd])) = w85 at hZ hM hfr
  refine lv_aload_n hx hb d_Mod_part_12 rfl (lv_at hl 0 rfl) ?_
  refine q_get (C := R_Mod) (T := T_Mod) (N := 10) hx hb hts (fun w h => gm (inT_Mod w h)) hown hK hZ (43) (by decide) hM.1 rfl 0 (by decide) (hts _ (gm k_420)) (fun _ h9 => h9) rfl d_Mod_part_13 ?_
  refine lv_if_gt (tgt := 29) hx hb d_Mod_part_16 (by decide) (fun h16 => ?_) (fun h16 => ?_)
  · skip
    refine lv_iconst (v := (nI 0)) hx hb d_Mod_part_29 rfl ?_
    exact q_zret hx hb hr rfl hlocks hK hAm hZ hN (⟨hfr, ⟨_, _, _, _, _, _, _, _, _, hM, hB⟩⟩) d_Mod_part_30
  · skip
    first | exact absurd h16 (wX_ne hbad) | exact absurd h16 (wX_le hbad) | exact absurd (wX_gt hbad) h16
