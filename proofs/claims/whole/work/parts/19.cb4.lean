/-! the class CoinBag: compare, into -/
/-- a flag -/
def bX (b : Int32) (Q : Prop) : Prop := (b = 1 ∧ Q) ∨ (b = 0 ∧ ¬ Q)
theorem bX_t {b : Int32} {Q : Prop} (h : bX b Q) (h0 : ¬ b = 0) : Q := h.elim (fun z => z.2) (fun z => absurd z.1 h0)
theorem bX_f {b : Int32} {Q : Prop} (h : bX b Q) (h0 : b = 0) : ¬ Q := h.elim (fun z => absurd (z.1.symm.trans h0) (by decide)) (fun z => z.2)
theorem bX_0 (Q : Nat → Prop) : bX (nI 0) (∃ y, y < 0 ∧ Q y) := Or.inr ⟨rfl, fun ⟨y, hy, _⟩ => absurd hy (Nat.not_lt_zero _)⟩
theorem bX_1 {b : Int32} {Q : Nat → Prop} {i : Nat} (h : bX b (∃ y, y < i ∧ Q y)) (h0 : ¬ b = 0) : bX (nI 1) (∃ y, y < i + 1 ∧ Q y) := by
  obtain ⟨y, hy, hq⟩ := bX_t h h0
  exact Or.inl ⟨rfl, y, by omega, hq⟩
theorem bX_2 {Q : Nat → Prop} {i : Nat} (hq : Q i) : bX (nI 1) (∃ y, y < i + 1 ∧ Q y) := Or.inl ⟨rfl, i, by omega, hq⟩
theorem bX_3 {b : Int32} {Q : Nat → Prop} {i : Nat} (h : bX b (∃ y, y < i ∧ Q y)) (h0 : b = 0) (hq : ¬ Q i) : bX (nI 0) (∃ y, y < i + 1 ∧ Q y) := by
  refine Or.inr ⟨rfl, fun ⟨y, hy, z⟩ => ?_⟩
  by_cases e : y = i
  · subst e
    exact hq z
  · exact bX_f h h0 ⟨y, by omega, z⟩
theorem bX_k {b : Int32} {Q : Nat → Prop} {i : Nat} (h : bX b (∃ y, y < i ∧ Q y)) (hq : ¬ Q i) : bX b (∃ y, y < i + 1 ∧ Q y) := by
  rcases h with ⟨h1, y, hy, z⟩ | ⟨h1, h2⟩
  · exact Or.inl ⟨h1, y, by omega, z⟩
  · refine Or.inr ⟨h1, fun ⟨y, hy, z⟩ => ?_⟩
    by_cases e : y = i
    · subst e
      exact hq z
    · exact h2 ⟨y, by omega, z⟩
/-- what compare answers -/
def cmR (M W : Prop) (r : Int32) : Prop := (M ∧ W ∧ r = 3) ∨ (M ∧ ¬ W ∧ r = 1) ∨ (¬ M ∧ W ∧ r = 2) ∨ (¬ M ∧ ¬ W ∧ r = 0)
theorem cmR_3 {M W : Prop} (a : M) (b : W) : cmR M W (nI 3) := Or.inl ⟨a, b, rfl⟩
theorem cmR_1 {M W : Prop} (a : M) (b : ¬ W) : cmR M W (nI 1) := Or.inr (Or.inl ⟨a, b, rfl⟩)
theorem cmR_2 {M W : Prop} (a : ¬ M) (b : W) : cmR M W (nI 2) := Or.inr (Or.inr (Or.inl ⟨a, b, rfl⟩))
theorem cmR_0 {M W : Prop} (a : ¬ M) (b : ¬ W) : cmR M W (nI 0) := Or.inr (Or.inr (Or.inr ⟨a, b, rfl⟩))
/-! what into's loop holds -/
def in1 (L R : Nat → Int64) (mo : Int64) (i : Nat) : Prop := ∀ j, j < i → 0 < R j → (0 ≤ (L j).toInt → mo.toInt ≤ iQ (L j) (R j)) ∧ (L j < 0 → mo < 0)
def in2 (L R : Nat → Int64) (mo : Int64) (i : Nat) : Prop := (mo < 0 ∧ ∃ j, j < i ∧ 0 < R j ∧ L j < 0) ∨ (∃ j, j < i ∧ 0 < R j ∧ 0 ≤ (L j).toInt ∧ mo.toInt = iQ (L j) (R j))
def in3 (L R : Nat → Int64) (fe : Int64) (i : Nat) : Prop := ∀ j, j < i → ¬ 0 < R j → ¬ iB (L j) (R j) ∧ iN (L j) (R j) ≤ fe.toInt
def in4 (L R : Nat → Int64) (fe : Int64) (i : Nat) : Prop := fe.toInt = 0 ∨ ∃ j, j < i ∧ ¬ 0 < R j ∧ fe.toInt = iN (L j) (R j)
section INTO
variable {L R : Nat → Int64} {mo fe t : Int64} {i : Nat}
theorem in1_0 : in1 L R mo 0 := fun j h => absurd h (Nat.not_lt_zero _)
theorem in3_0 : in3 L R fe 0 := fun j h => absurd h (Nat.not_lt_zero _)
theorem in_min (x y : Int64) : (if x < y then x else y).toInt ≤ x.toInt ∧ (if x < y then x else y).toInt ≤ y.toInt := by
  by_cases h : x < y
  · rw [if_pos h]
    have := Int64.lt_iff_toInt_lt.mp h
    omega
  · rw [if_neg h]
    have := Int64.le_iff_toInt_le.mp (Int64.not_lt.mp h)
    omega
theorem in_p1 (h : in1 L R mo i) (hR : 0 < R i) (ht : (0 ≤ (L i).toInt → t.toInt = iQ (L i) (R i)) ∧ (L i < 0 → t < 0)) : in1 L R (if t < mo then t else mo) (i + 1) := by
  intro j hj hRj
  have mm := in_min t mo
  by_cases e : j = i
  · subst e
    refine ⟨fun a => ?_, fun a => z_lt0.mpr ?_⟩
    · have := ht.1 a
      omega
    · have := z_lt0.mp (ht.2 a)
      omega
  · have g := h j (by omega) hRj
    refine ⟨fun a => ?_, fun a => z_lt0.mpr ?_⟩
    · have := g.1 a
      omega
    · have := z_lt0.mp (g.2 a)
      omega
theorem in_p2 {bd : Int32} (h : bd = 0 ∨ in2 L R mo i) (hm : bd = 0 → mo = 9223372036854775807) (hR : 0 < R i) (ht : (0 ≤ (L i).toInt → t.toInt = iQ (L i) (R i)) ∧ (L i < 0 → t < 0)) : in2 L R (if t < mo then t else mo) (i + 1) := by
  have mm := in_min t mo
  by_cases c : L i < 0
  · exact Or.inl ⟨z_lt0.mpr (by have := z_lt0.mp (ht.2 c); omega), i, by omega, hR, c⟩
  · have c0 : 0 ≤ (L i).toInt := Int.not_lt.mp (fun z => c (z_lt0.mpr z))
    by_cases q : t < mo
    · rw [if_pos q]
      exact Or.inr ⟨i, by omega, hR, c0, ht.1 c0⟩
    · rw [if_neg q]
      rcases h with h | h | ⟨j, h1, h2, h3, h4⟩
      · refine Or.inr ⟨i, by omega, hR, c0, ?_⟩
        have e := hm h
        have := Int64.le_iff_toInt_le.mp (Int64.not_lt.mp q)
        have b := t.toInt_lt
        rw [e, z_max] at this
        rw [e, z_max, ← ht.1 c0]
        omega
      · obtain ⟨h1, j, h2, h3⟩ := h
        exact Or.inl ⟨h1, j, by omega, h3⟩
      · exact Or.inr ⟨j, by omega, h2, h3, h4⟩
theorem in_p3 (h : in3 L R fe i) (hR : 0 < R i) : in3 L R fe (i + 1) := fun j hj hn => by
  by_cases e : j = i
  · subst e
    exact absurd hR hn
  · exact h j (by omega) hn
theorem in_p4 (h : in4 L R fe i) : in4 L R fe (i + 1) := h.imp id (fun ⟨j, h1, h2⟩ => ⟨j, by omega, h2⟩)
theorem in_n1 (h : in1 L R mo i) (hR : ¬ 0 < R i) : in1 L R mo (i + 1) := fun j hj hn => by
  by_cases e : j = i
  · subst e
    exact absurd hn hR
  · exact h j (by omega) hn
theorem in_n2 {bd : Int32} (h : bd = 0 ∨ in2 L R mo i) : bd = 0 ∨ in2 L R mo (i + 1) := h.imp id (fun h => h.elim (fun ⟨h1, j, h2, h3⟩ => Or.inl ⟨h1, j, by omega, h3⟩) (fun ⟨j, h1, h2⟩ => Or.inr ⟨j, by omega, h2⟩))
theorem in_few (hR : ¬ 0 < R i) (ht : (0 ≤ (L i).toInt ∧ t = 0) ∨ (L i < 0 ∧ (R i = 0 ∨ (R i = -1 ∧ L i = -9223372036854775808)) ∧ t = -1) ∨ (L i < 0 ∧ ¬ iB (L i) (R i) ∧ t.toInt = iN (L i) (R i))) (h1 : ¬ t = -1) : ¬ iB (L i) (R i) ∧ t.toInt = iN (L i) (R i) := by
  rcases ht with ⟨a, b⟩ | ⟨a, b, c⟩ | ⟨a, b, c⟩
  · have n0 : ¬ L i < 0 := fun z => by
      have := z_lt0.mp z
      omega
    refine ⟨fun z => ?_, by rw [b, z_0, iN_pos (fun z => n0 z.1)]⟩
    rcases z with z | z
    · exact n0 z.1
    · apply n0
      rw [z.1]
      decide
  · exact absurd c h1
  · exact ⟨b, c⟩
theorem in_n3 (h : in3 L R fe i) (hR : ¬ 0 < R i) (ht : (0 ≤ (L i).toInt ∧ t = 0) ∨ (L i < 0 ∧ (R i = 0 ∨ (R i = -1 ∧ L i = -9223372036854775808)) ∧ t = -1) ∨ (L i < 0 ∧ ¬ iB (L i) (R i) ∧ t.toInt = iN (L i) (R i))) (h1 : ¬ t = -1) : in3 L R (if fe < t then t else fe) (i + 1) := fun j hj hn => by
  have k := in_few hR ht h1
  have mm : fe.toInt ≤ (if fe < t then t else fe).toInt ∧ t.toInt ≤ (if fe < t then t else fe).toInt := by
    by_cases q : fe < t
    · rw [if_pos q]
      have := Int64.lt_iff_toInt_lt.mp q
      omega
    · rw [if_neg q]
      have := Int64.le_iff_toInt_le.mp (Int64.not_lt.mp q)
      omega
  by_cases e : j = i
  · subst e
    exact ⟨k.1, by omega⟩
  · have := h j (by omega) hn
    exact ⟨this.1, by omega⟩
theorem in_n4 (h : in4 L R fe i) (hR : ¬ 0 < R i) (ht : (0 ≤ (L i).toInt ∧ t = 0) ∨ (L i < 0 ∧ (R i = 0 ∨ (R i = -1 ∧ L i = -9223372036854775808)) ∧ t = -1) ∨ (L i < 0 ∧ ¬ iB (L i) (R i) ∧ t.toInt = iN (L i) (R i))) (h1 : ¬ t = -1) : in4 L R (if fe < t then t else fe) (i + 1) := by
  have k := in_few hR ht h1
  by_cases q : fe < t
  · rw [if_pos q]
    exact Or.inr ⟨i, by omega, hR, k.2⟩
  · rw [if_neg q]
    exact in_p4 h
theorem in_bad (ht : (0 ≤ (L i).toInt ∧ t = 0) ∨ (L i < 0 ∧ (R i = 0 ∨ (R i = -1 ∧ L i = -9223372036854775808)) ∧ t = -1) ∨ (L i < 0 ∧ ¬ iB (L i) (R i) ∧ t.toInt = iN (L i) (R i))) (h1 : t = -1) : iB (L i) (R i) := by
  rcases ht with ⟨a, b⟩ | ⟨a, b, c⟩ | ⟨a, b, c⟩
  · exact absurd (b.symm.trans h1) (by decide)
  · rcases b with b | b
    · exact Or.inl ⟨a, by rw [b]; exact Int64.le_refl 0⟩
    · exact Or.inr ⟨b.2, b.1⟩
  · have := iN_0 (L i) (R i)
    rw [h1, z_m1] at c
    omega
theorem in_none {bd : Int32} {d : Nat} (h : bX bd (∃ y, y < d ∧ 0 < R y)) (h0 : bd = 0) : ∀ j, j < d → ¬ 0 < R j := fun j hj z => bX_f h h0 ⟨j, hj, z⟩
end INTO
set_option maxHeartbeats 4000000 in
set_option maxRecDepth 100000 in
theorem c_CB_compare (l : Launch) (dC : Nat → ClassId) (dI : Nat → Nat → Nat) (cI cL cB : ClassId) (ad : Nat → Nat) (N0 : Nat) (w : Nat → va_E) (F : Nat → Int → Int64) (ja jb : Nat) (hC : sC ad cI cL cB w F) (hja : ja < 8) (hjb : jb < 8) : Met l y_CB_compare ws_CB_compare ({ frames := 5, cells := 0, slots := 0, locals := 121 } : Room) (va_Pc [.ref (ad 0), .int (nI ja), .int (nI jb)] (sPr (dC, dI) vCl [(cI, .int), (cL, .long), (cB, .object "CoinBag$Bag")] 52 ad N0 w)) (va_Qi (fun r u => cmR (∃ y, F jb y < F ja y) (∃ y, F ja y < F jb y) r ∧ sC ad cI cL cB u F ∧ ∀ y, 43 ≤ y → u y = w y) (sPr (dC, dI) vCl [(cI, .int), (cL, .long), (cB, .object "CoinBag$Bag")] 52 ad N0) (fun q => N0 ≤ q)) 0 0 (fun q => N0 ≤ q) := by
  refine Met.ofW (cc := b_CB_compare) (maxL := 6) (ret := (some .int)) (by decide) rfl ?_
  intro p e s m args below meth c s₁ B hml hv
  obtain ⟨rfl, hP, hK, hD, hN, hAm⟩ := hv
  have hx := B.exec
  have hb := B.bytes
  have hr := B.returns
  have hts := atoms_spec (ws := ws_CB_compare) B.pre
  have hown : s.vm.findClass "CoinBag" = some m.cls := findClass_of_methodNamed B.named
  have hlocks := B.notSynchronized
  have hZ : sZ (dC, dI) vCl 52 ad (fun q => N0 ≤ q) s.heap w s.heap [] := ⟨hP, hD, va_S.rf⟩
  have hl := lv_entry ([.ref (ad 0), .int (nI ja), .int (nI jb)]) (n := 6) (Nat.le_of_ble_eq_true rfl)
  rw [lg_entry_eq]
  generalize (lg_sl ([.ref (ad 0), .int (nI ja), .int (nI jb)]) ++ List.replicate (6 - (lg_sl ([.ref (ad 0), .int (nI ja), .int (nI jb)])).length) Slot.unset).toArray = ls at hl ⊢
  have hl : lv_has ls 6 [(0, .ref (ad 0)), (1, .int (nI ja)), (2, .int (nI jb))] := hl
  obtain ⟨f, pi, sp, hX⟩ := hC
  have hX : sCx ad cI cL cB w F f pi sp := hX
  obtain ⟨h0, h1, hf, hpi, hinj, hsp, hbg, hspb, hprs⟩ := id hX
  obtain ⟨zs, Ps, Ns, As, hS⟩ := hspb
  have hch : ch2 w w sp := ch2_rf
  obtain ⟨za, Pa, Na, Aa, hBa, hRa⟩ := hbg ja hja
  have hka := (hpi ja hja).1
  have hza : za ≤ 64 := hBa.2.2.2.2
  obtain ⟨zb, Pb, Nb, Ab, hBb, hRb⟩ := hbg jb hjb
  have hkb := (hpi jb hjb).1
  have hzb : zb ≤ 64 := hBb.2.2.2.2
  refine lv_iload_n hx hb d_CB_compare_0 rfl (lv_at hl 1 rfl) ?_
  refine q_callSv (va_runS (As := [.int (nI ja)]) (rest := []) ⟨hx, hb, hml, hown, hts⟩ (c_CB_requireBag l ja hja) (va_cwS 1 hts (gI_S k_120 k_118 k_119 k_21) rfl rfl rfl (by decide +kernel) ⟨Nat.le_of_ble_eq_true rfl, Nat.le_of_ble_eq_true rfl⟩) ⟨fun _ _ _ _ q => q, fun _ _ _ => ⟨rfl, trivial⟩⟩ rfl rfl hl.1 rfl (lv_room (Nat.le_of_ble_eq_true rfl)) d_CB_compare_1 ⟨Nat.zero_le _, Nat.zero_le _⟩) ?_
  refine lv_iload_n hx hb d_CB_compare_4 rfl (lv_at hl 2 rfl) ?_
  refine q_callSv (va_runS (As := [.int (nI jb)]) (rest := []) ⟨hx, hb, hml, hown, hts⟩ (c_CB_requireBag l jb hjb) (va_cwS 1 hts (gI_S k_120 k_118 k_119 k_21) rfl rfl rfl (by decide +kernel) ⟨Nat.le_of_ble_eq_true rfl, Nat.le_of_ble_eq_true rfl⟩) ⟨fun _ _ _ _ q => q, fun _ _ _ => ⟨rfl, trivial⟩⟩ rfl rfl hl.1 rfl (lv_room (Nat.le_of_ble_eq_true rfl)) d_CB_compare_5 ⟨Nat.zero_le _, Nat.zero_le _⟩) ?_
  refine lv_aload_n hx hb d_CB_compare_8 rfl (lv_at hl 0 rfl) ?_
  refine q_get (C := R_CB) (T := T_CB) (N := 3) hx hb hts (fun w h => gm (inT_CB w h)) hown hK hZ (0) (by decide) h0 rfl 1 (by decide) (hts _ (gm k_100)) (fun _ h9 => h9) rfl d_CB_compare_9 ?_
  refine lv_aload_n hx hb d_CB_compare_12 rfl (lv_at hl 0 rfl) ?_
  refine q_get (C := R_CB) (T := T_CB) (N := 3) hx hb hts (fun w h => gm (inT_CB w h)) hown hK hZ (0) (by decide) h0 rfl 0 (by decide) (hts _ (gm k_99)) (fun _ h9 => h9) rfl d_CB_compare_13 ?_
  refine lv_iload_n hx hb d_CB_compare_16 rfl (lv_at hl 1 rfl) ?_
  refine q_aald hx hb hK hZ (1) 2 (ja) (by decide) h1 rfl rfl hja (by decide) (hf ja hja) d_CB_compare_17 ?_
  refine lv_aload_n hx hb d_CB_compare_18 rfl (lv_at hl 0 rfl) ?_
  refine q_get (C := R_CB) (T := T_CB) (N := 3) hx hb hts (fun w h => gm (inT_CB w h)) hown hK hZ (0) (by decide) h0 rfl 0 (by decide) (hts _ (gm k_99)) (fun _ h9 => h9) rfl d_CB_compare_19 ?_
  refine lv_iload_n hx hb d_CB_compare_22 rfl (lv_at hl 2 rfl) ?_
  refine q_aald hx hb hK hZ (1) 2 (jb) (by decide) h1 rfl rfl hjb (by decide) (hf jb hjb) d_CB_compare_23 ?_
  obtain ⟨d0, P0, N1, L0, R0, hPr⟩ := hprs
  refine q_callv (va_runV (As := [.ref (ad (bb (pi ja))), .ref (ad (bb (pi jb)))]) (rest := []) ⟨hx, hb, hml, hown, hts⟩ (c_Prs_align l dC dI cI cL cB ad N0 w (pi ja) za Pa Na Aa (pi jb) zb Pb Nb Ab (F ja) (F jb) d0 P0 N1 L0 R0 hka hBa hkb hBb hRa hRb hPr) (cwV 2 hts (gI_V k_274 k_271 k_272 k_273 k_23) rfl rfl rfl (by decide +kernel) ⟨Nat.le_of_ble_eq_true rfl, Nat.le_of_ble_eq_true rfl⟩) (q_preV hK hAm hZ hN [.ref (ad (bb (pi ja))), .ref (ad (bb (pi jb)))] (34) 1 (by decide) hPr.1 rfl) rfl rfl hl.1 rfl (lv_room (Nat.le_of_ble_eq_true rfl)) d_CB_compare_24 ⟨Nat.zero_le _, Nat.zero_le _⟩) hZ (fun u_g H locs h_g hZ => ?_)
  obtain ⟨hfg, d, P, N, L, R, hPr, hp⟩ := h_g
  have hch := ch2_p hch hfg
  have h0 := ch2_0 hX hch
  have h1 := ch2_1 hX hch
  have hS := hS.fr hfg (by have := bb_r hsp; omega)
  have hd : d ≤ 128 := hPr.2.2.2.2.2
  refine lv_iconst (v := (nI 0)) hx hb d_CB_compare_27 rfl ?_
  refine lv_istore_n (lv' := [(3, .int (nI 0)), (0, .ref (ad 0)), (1, .int (nI ja)), (2, .int (nI jb))]) hx hb d_CB_compare_28 rfl hl (by decide) rfl (fun ls hl => ?_)
  refine lv_iconst (v := (nI 0)) hx hb d_CB_compare_29 rfl ?_
  refine lv_istore (lv' := [(4, .int (nI 0)), (3, .int (nI 0)), (0, .ref (ad 0)), (1, .int (nI ja)), (2, .int (nI jb))]) hx hb d_CB_compare_30 hl (by decide) rfl (fun ls hl => ?_)
  refine lv_iconst (v := (nI 0)) hx hb d_CB_compare_32 rfl ?_
  refine lv_istore (lv' := [(5, .int (nI 0)), (4, .int (nI 0)), (3, .int (nI 0)), (0, .ref (ad 0)), (1, .int (nI ja)), (2, .int (nI jb))]) hx hb d_CB_compare_33 hl (by decide) rfl (fun ls hl => ?_)
  have loop35 : ∀ (fu35 : Nat) (i : Nat) (mb fb : Int32) (H : Heap) (locs : List Loc) (ls : Array Slot), (i ≤ d) → (d + 1 ≤ i + fu35) → (bX mb (∃ y, y < i ∧ R y < L y)) → (bX fb (∃ y, y < i ∧ L y < R y)) → sZ (dC, dI) vCl 52 ad (fun q => N0 ≤ q) s.heap u_g H locs → lv_has ls 6 [(5, .int (nI i)), (3, .int mb), (4, .int fb), (0, .ref (ad 0))] → W p l e (headSpec ws_CB_compare ({ frames := 5, cells := 0, slots := 0, locals := 121 } : Room)).room s m ([.ref (ad 0), .int (nI ja), .int (nI jb)]).toArray below meth c H locs 0 0 (MQ below (va_Qi (fun r u => cmR (∃ y, F jb y < F ja y) (∃ y, F ja y < F jb y) r ∧ sC ad cI cL cB u F ∧ ∀ y, 43 ≤ y → u y = w y) (sPr (dC, dI) vCl [(cI, .int), (cL, .long), (cB, .object "CoinBag$Bag")] 52 ad N0) (fun q => N0 ≤ q)) ([.ref (ad 0), .int (nI ja), .int (nI jb)]).toArray s 0 0 (fun q => N0 ≤ q)) (F0 m 35 ls []) := by
    intro fu35
    induction fu35 with
    | zero =>
      intro i mb fb H locs ls hi hf9 hm hw
      omega
    | succ fu35 ih35 =>
      intro i mb fb H locs ls hi hf9 hm hw hZ hl
      refine lv_iload hx hb d_CB_compare_35 (lv_at hl 0 rfl) ?_
      refine lv_aload_n hx hb d_CB_compare_37 rfl (lv_at hl 3 rfl) ?_
      refine q_get (C := R_CB) (T := T_CB) (N := 3) hx hb hts (fun w h => gm (inT_CB w h)) hown hK hZ (0) (by decide) h0 rfl 1 (by decide) (hts _ (gm k_100)) (fun _ h9 => h9) rfl d_CB_compare_38 ?_
      refine q_get (C := R_Prs) (T := T_Prs) (N := 5) hx hb hts (fun w h => gm (inT_Prs w h)) hown hK hZ (34) (by decide) hPr.1 rfl 4 (by decide) (hts _ (gm k_87)) (fun _ h9 => h9) rfl d_CB_compare_41 ?_
      refine lv_icmp_ge (tgt := 123) hx hb d_CB_compare_44 (by decide) (fun h44 => ?_) (fun h44 => ?_)
      · skip
        have h44 : d ≤ i := (nI_leI (a := d) (b := i) (by omega) (by omega)).mp h44
        have ei : i = d := by omega
        rw [ei] at hm hw
        rw [(cmp_iff hp).1] at hm
        rw [(cmp_iff hp).2] at hw
        refine lv_iload_n hx hb d_CB_compare_123 rfl (lv_at hl 1 rfl) ?_
        refine lv_if_eq (tgt := 138) hx hb d_CB_compare_124 (by decide) (fun h124 => ?_) (fun h124 => ?_)
        · skip
          refine lv_iload hx hb d_CB_compare_138 (lv_at hl 2 rfl) ?_
          refine lv_if_eq (tgt := 147) hx hb d_CB_compare_140 (by decide) (fun h140 => ?_) (fun h140 => ?_)
          · skip
            refine lv_iconst (v := (nI 0)) hx hb d_CB_compare_147 rfl ?_
            exact q_iret hx hb hr hlocks hK hAm hZ hN (⟨(by first | exact cmR_3 (bX_t hm h124) (bX_t hw h129) | exact cmR_1 (bX_t hm h124) (bX_f hw h129) | exact cmR_2 (bX_f hm h124) (bX_t hw h140) | exact cmR_0 (bX_f hm h124) (bX_f hw h140)), sC_spare hX hch ⟨_, _, _, _, hS⟩ ⟨_, _, _, _, _, hPr⟩, fun y hy => hch y (by omega) (by have := bb_r hsp; omega)⟩) d_CB_compare_148
          · skip
            refine lv_iconst (v := (nI 2)) hx hb d_CB_compare_143 rfl ?_
            refine lv_goto (tgt := 148) hx hb d_CB_compare_144 (by decide) ?_
            exact q_iret hx hb hr hlocks hK hAm hZ hN (⟨(by first | exact cmR_3 (bX_t hm h124) (bX_t hw h129) | exact cmR_1 (bX_t hm h124) (bX_f hw h129) | exact cmR_2 (bX_f hm h124) (bX_t hw h140) | exact cmR_0 (bX_f hm h124) (bX_f hw h140)), sC_spare hX hch ⟨_, _, _, _, hS⟩ ⟨_, _, _, _, _, hPr⟩, fun y hy => hch y (by omega) (by have := bb_r hsp; omega)⟩) d_CB_compare_148
        · skip
          refine lv_iload hx hb d_CB_compare_127 (lv_at hl 2 rfl) ?_
          refine lv_if_eq (tgt := 136) hx hb d_CB_compare_129 (by decide) (fun h129 => ?_) (fun h129 => ?_)
          · skip
            refine lv_iconst (v := (nI 1)) hx hb d_CB_compare_136 rfl ?_
            exact q_iret hx hb hr hlocks hK hAm hZ hN (⟨(by first | exact cmR_3 (bX_t hm h124) (bX_t hw h129) | exact cmR_1 (bX_t hm h124) (bX_f hw h129) | exact cmR_2 (bX_f hm h124) (bX_t hw h140) | exact cmR_0 (bX_f hm h124) (bX_f hw h140)), sC_spare hX hch ⟨_, _, _, _, hS⟩ ⟨_, _, _, _, _, hPr⟩, fun y hy => hch y (by omega) (by have := bb_r hsp; omega)⟩) d_CB_compare_137
          · skip
            refine lv_iconst (v := (nI 3)) hx hb d_CB_compare_132 rfl ?_
            refine lv_goto (tgt := 137) hx hb d_CB_compare_133 (by decide) ?_
            exact q_iret hx hb hr hlocks hK hAm hZ hN (⟨(by first | exact cmR_3 (bX_t hm h124) (bX_t hw h129) | exact cmR_1 (bX_t hm h124) (bX_f hw h129) | exact cmR_2 (bX_f hm h124) (bX_t hw h140) | exact cmR_0 (bX_f hm h124) (bX_f hw h140)), sC_spare hX hch ⟨_, _, _, _, hS⟩ ⟨_, _, _, _, _, hPr⟩, fun y hy => hch y (by omega) (by have := bb_r hsp; omega)⟩) d_CB_compare_137
      · skip
        have h44 : i < d := Nat.lt_of_not_le (fun z9 => h44 ((nI_leI (a := d) (b := i) (by omega) (by omega)).mpr z9))
        refine lv_iload_n hx hb d_CB_compare_47 rfl (lv_at hl 1 rfl) ?_
        refine lv_if_ne (tgt := 75) hx hb d_CB_compare_48 (by decide) (fun h48 => ?_) (fun h48 => ?_)
        · skip
          refine lv_iconst (v := (nI 1)) hx hb d_CB_compare_75 rfl ?_
          refine lv_goto (tgt := 80) hx hb d_CB_compare_76 (by decide) ?_
          refine lv_istore_n (lv' := [(3, .int (nI 1)), (5, .int (nI i)), (4, .int fb), (0, .ref (ad 0))]) hx hb d_CB_compare_80 rfl hl (by decide) rfl (fun ls hl => ?_)
          refine lv_iload hx hb d_CB_compare_81 (lv_at hl 2 rfl) ?_
          refine lv_if_ne (tgt := 110) hx hb d_CB_compare_83 (by decide) (fun h83 => ?_) (fun h83 => ?_)
          · skip
            refine lv_iconst (v := (nI 1)) hx hb d_CB_compare_110 rfl ?_
            refine lv_goto (tgt := 115) hx hb d_CB_compare_111 (by decide) ?_
            refine lv_istore (lv' := [(4, .int (nI 1)), (3, .int (nI 1)), (5, .int (nI i)), (0, .ref (ad 0))]) hx hb d_CB_compare_115 hl (by decide) rfl (fun ls hl => ?_)
            refine lv_iinc (v := (nI (i + 1))) (lv' := [(5, .int (nI (i + 1))), (4, .int (nI 1)), (3, .int (nI 1)), (0, .ref (ad 0))]) hx hb d_CB_compare_117 hl (k := 2) rfl (nI_1 _) (by decide) rfl (fun ls hl => ?_)
            refine lv_goto (tgt := 35) hx hb d_CB_compare_120 (by decide) ?_
            exact ih35 (i + 1) (nI 1) (nI 1) _ _ _ (by omega) (by omega) (by first | exact bX_1 hm h48 | exact bX_2 (Q := fun y => R y < L y) (Int64.not_le.mp h72) | exact bX_3 (Q := fun y => R y < L y) hm h48 (Int64.not_lt.mpr h72)) (by first | exact bX_1 hw h83 | exact bX_2 (Q := fun y => L y < R y) (Int64.not_le.mp h107) | exact bX_3 (Q := fun y => L y < R y) hw h83 (Int64.not_lt.mpr h107)) hZ (lv_sub hl [0, 2, 1, 3] rfl)
          · skip
            refine lv_aload_n hx hb d_CB_compare_86 rfl (lv_at hl 3 rfl) ?_
            refine q_get (C := R_CB) (T := T_CB) (N := 3) hx hb hts (fun w h => gm (inT_CB w h)) hown hK hZ (0) (by decide) h0 rfl 1 (by decide) (hts _ (gm k_100)) (fun _ h9 => h9) rfl d_CB_compare_87 ?_
            refine q_get (C := R_Prs) (T := T_Prs) (N := 5) hx hb hts (fun w h => gm (inT_Prs w h)) hown hK hZ (34) (by decide) hPr.1 rfl 2 (by decide) (hts _ (gm k_83)) (fun _ h9 => h9) rfl d_CB_compare_90 ?_
            refine lv_iload hx hb d_CB_compare_93 (lv_at hl 1 rfl) ?_
            refine q_lald hx hb hK hZ (37) 1 (i) (by decide) hPr.2.2.2.1 rfl rfl (by omega) (by decide) d_CB_compare_95 ?_
            refine lv_aload_n hx hb d_CB_compare_96 rfl (lv_at hl 3 rfl) ?_
            refine q_get (C := R_CB) (T := T_CB) (N := 3) hx hb hts (fun w h => gm (inT_CB w h)) hown hK hZ (0) (by decide) h0 rfl 1 (by decide) (hts _ (gm k_100)) (fun _ h9 => h9) rfl d_CB_compare_97 ?_
            refine q_get (C := R_Prs) (T := T_Prs) (N := 5) hx hb hts (fun w h => gm (inT_Prs w h)) hown hK hZ (34) (by decide) hPr.1 rfl 3 (by decide) (hts _ (gm k_85)) (fun _ h9 => h9) rfl d_CB_compare_100 ?_
            refine lv_iload hx hb d_CB_compare_103 (lv_at hl 1 rfl) ?_
            refine q_lald hx hb hK hZ (38) 1 (i) (by decide) hPr.2.2.2.2.1 rfl rfl (by omega) (by decide) d_CB_compare_105 ?_
            refine W.lcmp hx hb d_CB_compare_106 ?_
            refine lv_if_ge (tgt := 114) hx hb d_CB_compare_107 (by decide) (fun h107 => ?_) (fun h107 => ?_)
            · skip
              rw [lg_cmp_ge] at h107
              refine lv_iconst (v := (nI 0)) hx hb d_CB_compare_114 rfl ?_
              refine lv_istore (lv' := [(4, .int (nI 0)), (3, .int (nI 1)), (5, .int (nI i)), (0, .ref (ad 0))]) hx hb d_CB_compare_115 hl (by decide) rfl (fun ls hl => ?_)
              refine lv_iinc (v := (nI (i + 1))) (lv' := [(5, .int (nI (i + 1))), (4, .int (nI 0)), (3, .int (nI 1)), (0, .ref (ad 0))]) hx hb d_CB_compare_117 hl (k := 2) rfl (nI_1 _) (by decide) rfl (fun ls hl => ?_)
              refine lv_goto (tgt := 35) hx hb d_CB_compare_120 (by decide) ?_
              exact ih35 (i + 1) (nI 1) (nI 0) _ _ _ (by omega) (by omega) (by first | exact bX_1 hm h48 | exact bX_2 (Q := fun y => R y < L y) (Int64.not_le.mp h72) | exact bX_3 (Q := fun y => R y < L y) hm h48 (Int64.not_lt.mpr h72)) (by first | exact bX_1 hw h83 | exact bX_2 (Q := fun y => L y < R y) (Int64.not_le.mp h107) | exact bX_3 (Q := fun y => L y < R y) hw h83 (Int64.not_lt.mpr h107)) hZ (lv_sub hl [0, 2, 1, 3] rfl)
            · skip
              rw [lg_cmp_ge] at h107
              refine lv_iconst (v := (nI 1)) hx hb d_CB_compare_110 rfl ?_
              refine lv_goto (tgt := 115) hx hb d_CB_compare_111 (by decide) ?_
              refine lv_istore (lv' := [(4, .int (nI 1)), (3, .int (nI 1)), (5, .int (nI i)), (0, .ref (ad 0))]) hx hb d_CB_compare_115 hl (by decide) rfl (fun ls hl => ?_)
              refine lv_iinc (v := (nI (i + 1))) (lv' := [(5, .int (nI (i + 1))), (4, .int (nI 1)), (3, .int (nI 1)), (0, .ref (ad 0))]) hx hb d_CB_compare_117 hl (k := 2) rfl (nI_1 _) (by decide) rfl (fun ls hl => ?_)
              refine lv_goto (tgt := 35) hx hb d_CB_compare_120 (by decide) ?_
              exact ih35 (i + 1) (nI 1) (nI 1) _ _ _ (by omega) (by omega) (by first | exact bX_1 hm h48 | exact bX_2 (Q := fun y => R y < L y) (Int64.not_le.mp h72) | exact bX_3 (Q := fun y => R y < L y) hm h48 (Int64.not_lt.mpr h72)) (by first | exact bX_1 hw h83 | exact bX_2 (Q := fun y => L y < R y) (Int64.not_le.mp h107) | exact bX_3 (Q := fun y => L y < R y) hw h83 (Int64.not_lt.mpr h107)) hZ (lv_sub hl [0, 2, 1, 3] rfl)
        · skip
          refine lv_aload_n hx hb d_CB_compare_51 rfl (lv_at hl 3 rfl) ?_
          refine q_get (C := R_CB) (T := T_CB) (N := 3) hx hb hts (fun w h => gm (inT_CB w h)) hown hK hZ (0) (by decide) h0 rfl 1 (by decide) (hts _ (gm k_100)) (fun _ h9 => h9) rfl d_CB_compare_52 ?_
          refine q_get (C := R_Prs) (T := T_Prs) (N := 5) hx hb hts (fun w h => gm (inT_Prs w h)) hown hK hZ (34) (by decide) hPr.1 rfl 2 (by decide) (hts _ (gm k_83)) (fun _ h9 => h9) rfl d_CB_compare_55 ?_
          refine lv_iload hx hb d_CB_compare_58 (lv_at hl 0 rfl) ?_
          refine q_lald hx hb hK hZ (37) 1 (i) (by decide) hPr.2.2.2.1 rfl rfl (by omega) (by decide) d_CB_compare_60 ?_
          refine lv_aload_n hx hb d_CB_compare_61 rfl (lv_at hl 3 rfl) ?_
          refine q_get (C := R_CB) (T := T_CB) (N := 3) hx hb hts (fun w h => gm (inT_CB w h)) hown hK hZ (0) (by decide) h0 rfl 1 (by decide) (hts _ (gm k_100)) (fun _ h9 => h9) rfl d_CB_compare_62 ?_
          refine q_get (C := R_Prs) (T := T_Prs) (N := 5) hx hb hts (fun w h => gm (inT_Prs w h)) hown hK hZ (34) (by decide) hPr.1 rfl 3 (by decide) (hts _ (gm k_85)) (fun _ h9 => h9) rfl d_CB_compare_65 ?_
          refine lv_iload hx hb d_CB_compare_68 (lv_at hl 0 rfl) ?_
          refine q_lald hx hb hK hZ (38) 1 (i) (by decide) hPr.2.2.2.2.1 rfl rfl (by omega) (by decide) d_CB_compare_70 ?_
          refine W.lcmp hx hb d_CB_compare_71 ?_
          refine lv_if_le (tgt := 79) hx hb d_CB_compare_72 (by decide) (fun h72 => ?_) (fun h72 => ?_)
          · skip
            rw [lg_cmp_le] at h72
            refine lv_iconst (v := (nI 0)) hx hb d_CB_compare_79 rfl ?_
            refine lv_istore_n (lv' := [(3, .int (nI 0)), (5, .int (nI i)), (4, .int fb), (0, .ref (ad 0))]) hx hb d_CB_compare_80 rfl hl (by decide) rfl (fun ls hl => ?_)
            refine lv_iload hx hb d_CB_compare_81 (lv_at hl 2 rfl) ?_
            refine lv_if_ne (tgt := 110) hx hb d_CB_compare_83 (by decide) (fun h83 => ?_) (fun h83 => ?_)
            · skip
              refine lv_iconst (v := (nI 1)) hx hb d_CB_compare_110 rfl ?_
              refine lv_goto (tgt := 115) hx hb d_CB_compare_111 (by decide) ?_
              refine lv_istore (lv' := [(4, .int (nI 1)), (3, .int (nI 0)), (5, .int (nI i)), (0, .ref (ad 0))]) hx hb d_CB_compare_115 hl (by decide) rfl (fun ls hl => ?_)
              refine lv_iinc (v := (nI (i + 1))) (lv' := [(5, .int (nI (i + 1))), (4, .int (nI 1)), (3, .int (nI 0)), (0, .ref (ad 0))]) hx hb d_CB_compare_117 hl (k := 2) rfl (nI_1 _) (by decide) rfl (fun ls hl => ?_)
              refine lv_goto (tgt := 35) hx hb d_CB_compare_120 (by decide) ?_
              exact ih35 (i + 1) (nI 0) (nI 1) _ _ _ (by omega) (by omega) (by first | exact bX_1 hm h48 | exact bX_2 (Q := fun y => R y < L y) (Int64.not_le.mp h72) | exact bX_3 (Q := fun y => R y < L y) hm h48 (Int64.not_lt.mpr h72)) (by first | exact bX_1 hw h83 | exact bX_2 (Q := fun y => L y < R y) (Int64.not_le.mp h107) | exact bX_3 (Q := fun y => L y < R y) hw h83 (Int64.not_lt.mpr h107)) hZ (lv_sub hl [0, 2, 1, 3] rfl)
            · skip
              refine lv_aload_n hx hb d_CB_compare_86 rfl (lv_at hl 3 rfl) ?_
              refine q_get (C := R_CB) (T := T_CB) (N := 3) hx hb hts (fun w h => gm (inT_CB w h)) hown hK hZ (0) (by decide) h0 rfl 1 (by decide) (hts _ (gm k_100)) (fun _ h9 => h9) rfl d_CB_compare_87 ?_
              refine q_get (C := R_Prs) (T := T_Prs) (N := 5) hx hb hts (fun w h => gm (inT_Prs w h)) hown hK hZ (34) (by decide) hPr.1 rfl 2 (by decide) (hts _ (gm k_83)) (fun _ h9 => h9) rfl d_CB_compare_90 ?_
              refine lv_iload hx hb d_CB_compare_93 (lv_at hl 1 rfl) ?_
              refine q_lald hx hb hK hZ (37) 1 (i) (by decide) hPr.2.2.2.1 rfl rfl (by omega) (by decide) d_CB_compare_95 ?_
              refine lv_aload_n hx hb d_CB_compare_96 rfl (lv_at hl 3 rfl) ?_
              refine q_get (C := R_CB) (T := T_CB) (N := 3) hx hb hts (fun w h => gm (inT_CB w h)) hown hK hZ (0) (by decide) h0 rfl 1 (by decide) (hts _ (gm k_100)) (fun _ h9 => h9) rfl d_CB_compare_97 ?_
              refine q_get (C := R_Prs) (T := T_Prs) (N := 5) hx hb hts (fun w h => gm (inT_Prs w h)) hown hK hZ (34) (by decide) hPr.1 rfl 3 (by decide) (hts _ (gm k_85)) (fun _ h9 => h9) rfl d_CB_compare_100 ?_
              refine lv_iload hx hb d_CB_compare_103 (lv_at hl 1 rfl) ?_
              refine q_lald hx hb hK hZ (38) 1 (i) (by decide) hPr.2.2.2.2.1 rfl rfl (by omega) (by decide) d_CB_compare_105 ?_
              refine W.lcmp hx hb d_CB_compare_106 ?_
              refine lv_if_ge (tgt := 114) hx hb d_CB_compare_107 (by decide) (fun h107 => ?_) (fun h107 => ?_)
              · skip
                rw [lg_cmp_ge] at h107
                refine lv_iconst (v := (nI 0)) hx hb d_CB_compare_114 rfl ?_
                refine lv_istore (lv' := [(4, .int (nI 0)), (3, .int (nI 0)), (5, .int (nI i)), (0, .ref (ad 0))]) hx hb d_CB_compare_115 hl (by decide) rfl (fun ls hl => ?_)
                refine lv_iinc (v := (nI (i + 1))) (lv' := [(5, .int (nI (i + 1))), (4, .int (nI 0)), (3, .int (nI 0)), (0, .ref (ad 0))]) hx hb d_CB_compare_117 hl (k := 2) rfl (nI_1 _) (by decide) rfl (fun ls hl => ?_)
                refine lv_goto (tgt := 35) hx hb d_CB_compare_120 (by decide) ?_
                exact ih35 (i + 1) (nI 0) (nI 0) _ _ _ (by omega) (by omega) (by first | exact bX_1 hm h48 | exact bX_2 (Q := fun y => R y < L y) (Int64.not_le.mp h72) | exact bX_3 (Q := fun y => R y < L y) hm h48 (Int64.not_lt.mpr h72)) (by first | exact bX_1 hw h83 | exact bX_2 (Q := fun y => L y < R y) (Int64.not_le.mp h107) | exact bX_3 (Q := fun y => L y < R y) hw h83 (Int64.not_lt.mpr h107)) hZ (lv_sub hl [0, 2, 1, 3] rfl)
              · skip
                rw [lg_cmp_ge] at h107
                refine lv_iconst (v := (nI 1)) hx hb d_CB_compare_110 rfl ?_
                refine lv_goto (tgt := 115) hx hb d_CB_compare_111 (by decide) ?_
                refine lv_istore (lv' := [(4, .int (nI 1)), (3, .int (nI 0)), (5, .int (nI i)), (0, .ref (ad 0))]) hx hb d_CB_compare_115 hl (by decide) rfl (fun ls hl => ?_)
                refine lv_iinc (v := (nI (i + 1))) (lv' := [(5, .int (nI (i + 1))), (4, .int (nI 1)), (3, .int (nI 0)), (0, .ref (ad 0))]) hx hb d_CB_compare_117 hl (k := 2) rfl (nI_1 _) (by decide) rfl (fun ls hl => ?_)
                refine lv_goto (tgt := 35) hx hb d_CB_compare_120 (by decide) ?_
                exact ih35 (i + 1) (nI 0) (nI 1) _ _ _ (by omega) (by omega) (by first | exact bX_1 hm h48 | exact bX_2 (Q := fun y => R y < L y) (Int64.not_le.mp h72) | exact bX_3 (Q := fun y => R y < L y) hm h48 (Int64.not_lt.mpr h72)) (by first | exact bX_1 hw h83 | exact bX_2 (Q := fun y => L y < R y) (Int64.not_le.mp h107) | exact bX_3 (Q := fun y => L y < R y) hw h83 (Int64.not_lt.mpr h107)) hZ (lv_sub hl [0, 2, 1, 3] rfl)
          · skip
            rw [lg_cmp_le] at h72
            refine lv_iconst (v := (nI 1)) hx hb d_CB_compare_75 rfl ?_
            refine lv_goto (tgt := 80) hx hb d_CB_compare_76 (by decide) ?_
            refine lv_istore_n (lv' := [(3, .int (nI 1)), (5, .int (nI i)), (4, .int fb), (0, .ref (ad 0))]) hx hb d_CB_compare_80 rfl hl (by decide) rfl (fun ls hl => ?_)
            refine lv_iload hx hb d_CB_compare_81 (lv_at hl 2 rfl) ?_
            refine lv_if_ne (tgt := 110) hx hb d_CB_compare_83 (by decide) (fun h83 => ?_) (fun h83 => ?_)
            · skip
              refine lv_iconst (v := (nI 1)) hx hb d_CB_compare_110 rfl ?_
              refine lv_goto (tgt := 115) hx hb d_CB_compare_111 (by decide) ?_
              refine lv_istore (lv' := [(4, .int (nI 1)), (3, .int (nI 1)), (5, .int (nI i)), (0, .ref (ad 0))]) hx hb d_CB_compare_115 hl (by decide) rfl (fun ls hl => ?_)
              refine lv_iinc (v := (nI (i + 1))) (lv' := [(5, .int (nI (i + 1))), (4, .int (nI 1)), (3, .int (nI 1)), (0, .ref (ad 0))]) hx hb d_CB_compare_117 hl (k := 2) rfl (nI_1 _) (by decide) rfl (fun ls hl => ?_)
              refine lv_goto (tgt := 35) hx hb d_CB_compare_120 (by decide) ?_
              exact ih35 (i + 1) (nI 1) (nI 1) _ _ _ (by omega) (by omega) (by first | exact bX_1 hm h48 | exact bX_2 (Q := fun y => R y < L y) (Int64.not_le.mp h72) | exact bX_3 (Q := fun y => R y < L y) hm h48 (Int64.not_lt.mpr h72)) (by first | exact bX_1 hw h83 | exact bX_2 (Q := fun y => L y < R y) (Int64.not_le.mp h107) | exact bX_3 (Q := fun y => L y < R y) hw h83 (Int64.not_lt.mpr h107)) hZ (lv_sub hl [0, 2, 1, 3] rfl)
            · skip
              refine lv_aload_n hx hb d_CB_compare_86 rfl (lv_at hl 3 rfl) ?_
              refine q_get (C := R_CB) (T := T_CB) (N := 3) hx hb hts (fun w h => gm (inT_CB w h)) hown hK hZ (0) (by decide) h0 rfl 1 (by decide) (hts _ (gm k_100)) (fun _ h9 => h9) rfl d_CB_compare_87 ?_
              refine q_get (C := R_Prs) (T := T_Prs) (N := 5) hx hb hts (fun w h => gm (inT_Prs w h)) hown hK hZ (34) (by decide) hPr.1 rfl 2 (by decide) (hts _ (gm k_83)) (fun _ h9 => h9) rfl d_CB_compare_90 ?_
              refine lv_iload hx hb d_CB_compare_93 (lv_at hl 1 rfl) ?_
              refine q_lald hx hb hK hZ (37) 1 (i) (by decide) hPr.2.2.2.1 rfl rfl (by omega) (by decide) d_CB_compare_95 ?_
              refine lv_aload_n hx hb d_CB_compare_96 rfl (lv_at hl 3 rfl) ?_
              refine q_get (C := R_CB) (T := T_CB) (N := 3) hx hb hts (fun w h => gm (inT_CB w h)) hown hK hZ (0) (by decide) h0 rfl 1 (by decide) (hts _ (gm k_100)) (fun _ h9 => h9) rfl d_CB_compare_97 ?_
              refine q_get (C := R_Prs) (T := T_Prs) (N := 5) hx hb hts (fun w h => gm (inT_Prs w h)) hown hK hZ (34) (by decide) hPr.1 rfl 3 (by decide) (hts _ (gm k_85)) (fun _ h9 => h9) rfl d_CB_compare_100 ?_
              refine lv_iload hx hb d_CB_compare_103 (lv_at hl 1 rfl) ?_
              refine q_lald hx hb hK hZ (38) 1 (i) (by decide) hPr.2.2.2.2.1 rfl rfl (by omega) (by decide) d_CB_compare_105 ?_
              refine W.lcmp hx hb d_CB_compare_106 ?_
              refine lv_if_ge (tgt := 114) hx hb d_CB_compare_107 (by decide) (fun h107 => ?_) (fun h107 => ?_)
              · skip
                rw [lg_cmp_ge] at h107
                refine lv_iconst (v := (nI 0)) hx hb d_CB_compare_114 rfl ?_
                refine lv_istore (lv' := [(4, .int (nI 0)), (3, .int (nI 1)), (5, .int (nI i)), (0, .ref (ad 0))]) hx hb d_CB_compare_115 hl (by decide) rfl (fun ls hl => ?_)
                refine lv_iinc (v := (nI (i + 1))) (lv' := [(5, .int (nI (i + 1))), (4, .int (nI 0)), (3, .int (nI 1)), (0, .ref (ad 0))]) hx hb d_CB_compare_117 hl (k := 2) rfl (nI_1 _) (by decide) rfl (fun ls hl => ?_)
                refine lv_goto (tgt := 35) hx hb d_CB_compare_120 (by decide) ?_
                exact ih35 (i + 1) (nI 1) (nI 0) _ _ _ (by omega) (by omega) (by first | exact bX_1 hm h48 | exact bX_2 (Q := fun y => R y < L y) (Int64.not_le.mp h72) | exact bX_3 (Q := fun y => R y < L y) hm h48 (Int64.not_lt.mpr h72)) (by first | exact bX_1 hw h83 | exact bX_2 (Q := fun y => L y < R y) (Int64.not_le.mp h107) | exact bX_3 (Q := fun y => L y < R y) hw h83 (Int64.not_lt.mpr h107)) hZ (lv_sub hl [0, 2, 1, 3] rfl)
              · skip
                rw [lg_cmp_ge] at h107
                refine lv_iconst (v := (nI 1)) hx hb d_CB_compare_110 rfl ?_
                refine lv_goto (tgt := 115) hx hb d_CB_compare_111 (by decide) ?_
                refine lv_istore (lv' := [(4, .int (nI 1)), (3, .int (nI 1)), (5, .int (nI i)), (0, .ref (ad 0))]) hx hb d_CB_compare_115 hl (by decide) rfl (fun ls hl => ?_)
                refine lv_iinc (v := (nI (i + 1))) (lv' := [(5, .int (nI (i + 1))), (4, .int (nI 1)), (3, .int (nI 1)), (0, .ref (ad 0))]) hx hb d_CB_compare_117 hl (k := 2) rfl (nI_1 _) (by decide) rfl (fun ls hl => ?_)
                refine lv_goto (tgt := 35) hx hb d_CB_compare_120 (by decide) ?_
                exact ih35 (i + 1) (nI 1) (nI 1) _ _ _ (by omega) (by omega) (by first | exact bX_1 hm h48 | exact bX_2 (Q := fun y => R y < L y) (Int64.not_le.mp h72) | exact bX_3 (Q := fun y => R y < L y) hm h48 (Int64.not_lt.mpr h72)) (by first | exact bX_1 hw h83 | exact bX_2 (Q := fun y => L y < R y) (Int64.not_le.mp h107) | exact bX_3 (Q := fun y => L y < R y) hw h83 (Int64.not_lt.mpr h107)) hZ (lv_sub hl [0, 2, 1, 3] rfl)
  exact loop35 (d + 1) 0 (nI 0) (nI 0) _ _ _ (Nat.zero_le d) (by omega) (bX_0 _) (bX_0 _) hZ (lv_sub hl [0, 2, 1, 3] rfl)
set_option maxHeartbeats 4000000 in
set_option maxRecDepth 100000 in
theorem c_CB_into (l : Launch) (dC : Nat → ClassId) (dI : Nat → Nat → Nat) (cI cL cB : ClassId) (ad : Nat → Nat) (N0 : Nat) (w : Nat → va_E) (F : Nat → Int → Int64) (ja jb : Nat) (hC : sC ad cI cL cB w F) (hja : ja < 8) (hjb : jb < 8) : Met l y_CB_into ws_CB_into ({ frames := 5, cells := 0, slots := 0, locals := 121 } : Room) (va_Pc [.ref (ad 0), .int (nI ja), .int (nI jb)] (sPr (dC, dI) vCl [(cI, .int), (cL, .long), (cB, .object "CoinBag$Bag")] 52 ad N0 w)) (va_Ql (fun r u => iR (F ja) (F jb) r ∧ sC ad cI cL cB u F ∧ ∀ y, 43 ≤ y → u y = w y) (sPr (dC, dI) vCl [(cI, .int), (cL, .long), (cB, .object "CoinBag$Bag")] 52 ad N0) (fun q => N0 ≤ q)) 0 0 (fun q => N0 ≤ q) := by
  refine Met.ofW (cc := b_CB_into) (maxL := 15) (ret := (some .long)) (by decide) rfl ?_
  intro p e s m args below meth c s₁ B hml hv
  obtain ⟨rfl, hP, hK, hD, hN, hAm⟩ := hv
  have hx := B.exec
  have hb := B.bytes
  have hr := B.returns
  have hts := atoms_spec (ws := ws_CB_into) B.pre
  have hown : s.vm.findClass "CoinBag" = some m.cls := findClass_of_methodNamed B.named
  have hlocks := B.notSynchronized
  have hZ : sZ (dC, dI) vCl 52 ad (fun q => N0 ≤ q) s.heap w s.heap [] := ⟨hP, hD, va_S.rf⟩
  have hl := lv_entry ([.ref (ad 0), .int (nI ja), .int (nI jb)]) (n := 15) (Nat.le_of_ble_eq_true rfl)
  rw [lg_entry_eq]
  generalize (lg_sl ([.ref (ad 0), .int (nI ja), .int (nI jb)]) ++ List.replicate (15 - (lg_sl ([.ref (ad 0), .int (nI ja), .int (nI jb)])).length) Slot.unset).toArray = ls at hl ⊢
  have hl : lv_has ls 15 [(0, .ref (ad 0)), (1, .int (nI ja)), (2, .int (nI jb))] := hl
  obtain ⟨f, pi, sp, hX⟩ := hC
  have hX : sCx ad cI cL cB w F f pi sp := hX
  obtain ⟨h0, h1, hf, hpi, hinj, hsp, hbg, hspb, hprs⟩ := id hX
  obtain ⟨zs, Ps, Ns, As, hS⟩ := hspb
  have hch : ch2 w w sp := ch2_rf
  obtain ⟨za, Pa, Na, Aa, hBa, hRa⟩ := hbg ja hja
  have hka := (hpi ja hja).1
  have hza : za ≤ 64 := hBa.2.2.2.2
  obtain ⟨zb, Pb, Nb, Ab, hBb, hRb⟩ := hbg jb hjb
  have hkb := (hpi jb hjb).1
  have hzb : zb ≤ 64 := hBb.2.2.2.2
  refine lv_iload_n hx hb d_CB_into_0 rfl (lv_at hl 1 rfl) ?_
  refine q_callSv (va_runS (As := [.int (nI ja)]) (rest := []) ⟨hx, hb, hml, hown, hts⟩ (c_CB_requireBag l ja hja) (va_cwS 1 hts (gI_S k_120 k_118 k_119 k_21) rfl rfl rfl (by decide +kernel) ⟨Nat.le_of_ble_eq_true rfl, Nat.le_of_ble_eq_true rfl⟩) ⟨fun _ _ _ _ q => q, fun _ _ _ => ⟨rfl, trivial⟩⟩ rfl rfl hl.1 rfl (lv_room (Nat.le_of_ble_eq_true rfl)) d_CB_into_1 ⟨Nat.zero_le _, Nat.zero_le _⟩) ?_
  refine lv_iload_n hx hb d_CB_into_4 rfl (lv_at hl 2 rfl) ?_
  refine q_callSv (va_runS (As := [.int (nI jb)]) (rest := []) ⟨hx, hb, hml, hown, hts⟩ (c_CB_requireBag l jb hjb) (va_cwS 1 hts (gI_S k_120 k_118 k_119 k_21) rfl rfl rfl (by decide +kernel) ⟨Nat.le_of_ble_eq_true rfl, Nat.le_of_ble_eq_true rfl⟩) ⟨fun _ _ _ _ q => q, fun _ _ _ => ⟨rfl, trivial⟩⟩ rfl rfl hl.1 rfl (lv_room (Nat.le_of_ble_eq_true rfl)) d_CB_into_5 ⟨Nat.zero_le _, Nat.zero_le _⟩) ?_
  refine lv_aload_n hx hb d_CB_into_8 rfl (lv_at hl 0 rfl) ?_
  refine q_get (C := R_CB) (T := T_CB) (N := 3) hx hb hts (fun w h => gm (inT_CB w h)) hown hK hZ (0) (by decide) h0 rfl 1 (by decide) (hts _ (gm k_100)) (fun _ h9 => h9) rfl d_CB_into_9 ?_
  refine lv_aload_n hx hb d_CB_into_12 rfl (lv_at hl 0 rfl) ?_
  refine q_get (C := R_CB) (T := T_CB) (N := 3) hx hb hts (fun w h => gm (inT_CB w h)) hown hK hZ (0) (by decide) h0 rfl 0 (by decide) (hts _ (gm k_99)) (fun _ h9 => h9) rfl d_CB_into_13 ?_
  refine lv_iload_n hx hb d_CB_into_16 rfl (lv_at hl 1 rfl) ?_
  refine q_aald hx hb hK hZ (1) 2 (ja) (by decide) h1 rfl rfl hja (by decide) (hf ja hja) d_CB_into_17 ?_
  refine lv_aload_n hx hb d_CB_into_18 rfl (lv_at hl 0 rfl) ?_
  refine q_get (C := R_CB) (T := T_CB) (N := 3) hx hb hts (fun w h => gm (inT_CB w h)) hown hK hZ (0) (by decide) h0 rfl 0 (by decide) (hts _ (gm k_99)) (fun _ h9 => h9) rfl d_CB_into_19 ?_
  refine lv_iload_n hx hb d_CB_into_22 rfl (lv_at hl 2 rfl) ?_
  refine q_aald hx hb hK hZ (1) 2 (jb) (by decide) h1 rfl rfl hjb (by decide) (hf jb hjb) d_CB_into_23 ?_
  obtain ⟨d0, P0, N1, L0, R0, hPr⟩ := hprs
  refine q_callv (va_runV (As := [.ref (ad (bb (pi ja))), .ref (ad (bb (pi jb)))]) (rest := []) ⟨hx, hb, hml, hown, hts⟩ (c_Prs_align l dC dI cI cL cB ad N0 w (pi ja) za Pa Na Aa (pi jb) zb Pb Nb Ab (F ja) (F jb) d0 P0 N1 L0 R0 hka hBa hkb hBb hRa hRb hPr) (cwV 2 hts (gI_V k_274 k_271 k_272 k_273 k_23) rfl rfl rfl (by decide +kernel) ⟨Nat.le_of_ble_eq_true rfl, Nat.le_of_ble_eq_true rfl⟩) (q_preV hK hAm hZ hN [.ref (ad (bb (pi ja))), .ref (ad (bb (pi jb)))] (34) 1 (by decide) hPr.1 rfl) rfl rfl hl.1 rfl (lv_room (Nat.le_of_ble_eq_true rfl)) d_CB_into_24 ⟨Nat.zero_le _, Nat.zero_le _⟩) hZ (fun u_g H locs h_g hZ => ?_)
  obtain ⟨hfg, d, P, N, L, R, hPr, hp⟩ := h_g
  have hch := ch2_p hch hfg
  have h0 := ch2_0 hX hch
  have h1 := ch2_1 hX hch
  have hS := hS.fr hfg (by have := bb_r hsp; omega)
  have hd : d ≤ 128 := hPr.2.2.2.2.2
  refine lv_iconst (v := (nI 0)) hx hb d_CB_into_27 rfl ?_
  refine lv_istore_n (lv' := [(3, .int (nI 0)), (0, .ref (ad 0)), (1, .int (nI ja)), (2, .int (nI jb))]) hx hb d_CB_into_28 rfl hl (by decide) rfl (fun ls hl => ?_)
  refine lv_ldc2 (v := 9223372036854775807) hx hb hown (hts _ (gm k_258)) d_CB_into_29 ?_
  refine lv_lstore (lv' := [(4, .long 9223372036854775807), (3, .int (nI 0)), (0, .ref (ad 0)), (1, .int (nI ja)), (2, .int (nI jb))]) hx hb d_CB_into_32 hl (by decide) rfl (fun ls hl => ?_)
  refine lv_lconst (v := 0) hx hb d_CB_into_34 rfl ?_
  refine lv_lstore (lv' := [(6, .long 0), (4, .long 9223372036854775807), (3, .int (nI 0)), (0, .ref (ad 0)), (1, .int (nI ja)), (2, .int (nI jb))]) hx hb d_CB_into_35 hl (by decide) rfl (fun ls hl => ?_)
  refine lv_iconst (v := (nI 0)) hx hb d_CB_into_37 rfl ?_
  refine lv_istore (lv' := [(8, .int (nI 0)), (6, .long 0), (4, .long 9223372036854775807), (3, .int (nI 0)), (0, .ref (ad 0)), (1, .int (nI ja)), (2, .int (nI jb))]) hx hb d_CB_into_38 hl (by decide) rfl (fun ls hl => ?_)
  have loop40 : ∀ (fu40 : Nat) (i : Nat) (bd : Int32) (mo fe : Int64) (H : Heap) (locs : List Loc) (ls : Array Slot), (i ≤ d) → (d + 1 ≤ i + fu40) → (bX bd (∃ y, y < i ∧ 0 < R y)) → (in1 L R mo i) → (bd = 0 ∨ in2 L R mo i) → (bd = 0 → mo = 9223372036854775807) → (in3 L R fe i) → (in4 L R fe i) → sZ (dC, dI) vCl 52 ad (fun q => N0 ≤ q) s.heap u_g H locs → lv_has ls 15 [(8, .int (nI i)), (3, .int bd), (4, .long mo), (6, .long fe), (0, .ref (ad 0))] → W p l e (headSpec ws_CB_into ({ frames := 5, cells := 0, slots := 0, locals := 121 } : Room)).room s m ([.ref (ad 0), .int (nI ja), .int (nI jb)]).toArray below meth c H locs 0 0 (MQ below (va_Ql (fun r u => iR (F ja) (F jb) r ∧ sC ad cI cL cB u F ∧ ∀ y, 43 ≤ y → u y = w y) (sPr (dC, dI) vCl [(cI, .int), (cL, .long), (cB, .object "CoinBag$Bag")] 52 ad N0) (fun q => N0 ≤ q)) ([.ref (ad 0), .int (nI ja), .int (nI jb)]).toArray s 0 0 (fun q => N0 ≤ q)) (F0 m 40 ls []) := by
    intro fu40
    induction fu40 with
    | zero =>
      intro i bd mo fe H locs ls hi hf9 hbx hi1 hi2 hi2m hi3 hi4
      omega
    | succ fu40 ih40 =>
      intro i bd mo fe H locs ls hi hf9 hbx hi1 hi2 hi2m hi3 hi4 hZ hl
      refine lv_iload hx hb d_CB_into_40 (lv_at hl 0 rfl) ?_
      refine lv_aload_n hx hb d_CB_into_42 rfl (lv_at hl 4 rfl) ?_
      refine q_get (C := R_CB) (T := T_CB) (N := 3) hx hb hts (fun w h => gm (inT_CB w h)) hown hK hZ (0) (by decide) h0 rfl 1 (by decide) (hts _ (gm k_100)) (fun _ h9 => h9) rfl d_CB_into_43 ?_
      refine q_get (C := R_Prs) (T := T_Prs) (N := 5) hx hb hts (fun w h => gm (inT_Prs w h)) hown hK hZ (34) (by decide) hPr.1 rfl 4 (by decide) (hts _ (gm k_87)) (fun _ h9 => h9) rfl d_CB_into_46 ?_
      refine lv_icmp_ge (tgt := 139) hx hb d_CB_into_49 (by decide) (fun h49 => ?_) (fun h49 => ?_)
      · skip
        have h49 : d ≤ i := (nI_leI (a := d) (b := i) (by omega) (by omega)).mp h49
        have ei : i = d := by omega
        rw [ei] at hbx hi1 hi2 hi3 hi4
        refine lv_iload_n hx hb d_CB_into_139 rfl (lv_at hl 1 rfl) ?_
        refine lv_if_eq (tgt := 156) hx hb d_CB_into_140 (by decide) (fun h140 => ?_) (fun h140 => ?_)
        · skip
          refine lv_ldc2 (v := (-1)) hx hb hown (hts _ (gm k_320)) d_CB_into_156 ?_
          exact q_lret hx hb hr hlocks hK hAm hZ hN (⟨(by first | exact into_no hp (in_none hbx h140) | exact (into_c hp hi1 (hi2.resolve_left h140) hi3 hi4).1 (Int64.not_lt.mp h148) | exact (into_c hp hi1 (hi2.resolve_left h140) hi3 hi4).2 (Int64.not_le.mpr h148)), sC_spare hX hch ⟨_, _, _, _, hS⟩ ⟨_, _, _, _, _, hPr⟩, fun y hy => hch y (by omega) (by have := bb_r hsp; omega)⟩) d_CB_into_159
        · skip
          refine lv_lload hx hb d_CB_into_143 (lv_at hl 3 rfl) ?_
          refine lv_lload hx hb d_CB_into_145 (lv_at hl 2 rfl) ?_
          refine W.lcmp hx hb d_CB_into_147 ?_
          refine lv_if_gt (tgt := 156) hx hb d_CB_into_148 (by decide) (fun h148 => ?_) (fun h148 => ?_)
          · skip
            rw [lg_cmp_gt] at h148
            refine lv_ldc2 (v := (-1)) hx hb hown (hts _ (gm k_320)) d_CB_into_156 ?_
            exact q_lret hx hb hr hlocks hK hAm hZ hN (⟨(by first | exact into_no hp (in_none hbx h140) | exact (into_c hp hi1 (hi2.resolve_left h140) hi3 hi4).1 (Int64.not_lt.mp h148) | exact (into_c hp hi1 (hi2.resolve_left h140) hi3 hi4).2 (Int64.not_le.mpr h148)), sC_spare hX hch ⟨_, _, _, _, hS⟩ ⟨_, _, _, _, _, hPr⟩, fun y hy => hch y (by omega) (by have := bb_r hsp; omega)⟩) d_CB_into_159
          · skip
            rw [lg_cmp_gt] at h148
            refine lv_lload hx hb d_CB_into_151 (lv_at hl 2 rfl) ?_
            refine lv_goto (tgt := 159) hx hb d_CB_into_153 (by decide) ?_
            exact q_lret hx hb hr hlocks hK hAm hZ hN (⟨(by first | exact into_no hp (in_none hbx h140) | exact (into_c hp hi1 (hi2.resolve_left h140) hi3 hi4).1 (Int64.not_lt.mp h148) | exact (into_c hp hi1 (hi2.resolve_left h140) hi3 hi4).2 (Int64.not_le.mpr h148)), sC_spare hX hch ⟨_, _, _, _, hS⟩ ⟨_, _, _, _, _, hPr⟩, fun y hy => hch y (by omega) (by have := bb_r hsp; omega)⟩) d_CB_into_159
      · skip
        have h49 : i < d := Nat.lt_of_not_le (fun z9 => h49 ((nI_leI (a := d) (b := i) (by omega) (by omega)).mpr z9))
        refine lv_aload_n hx hb d_CB_into_52 rfl (lv_at hl 4 rfl) ?_
        refine q_get (C := R_CB) (T := T_CB) (N := 3) hx hb hts (fun w h => gm (inT_CB w h)) hown hK hZ (0) (by decide) h0 rfl 1 (by decide) (hts _ (gm k_100)) (fun _ h9 => h9) rfl d_CB_into_53 ?_
        refine q_get (C := R_Prs) (T := T_Prs) (N := 5) hx hb hts (fun w h => gm (inT_Prs w h)) hown hK hZ (34) (by decide) hPr.1 rfl 2 (by decide) (hts _ (gm k_83)) (fun _ h9 => h9) rfl d_CB_into_56 ?_
        refine lv_iload hx hb d_CB_into_59 (lv_at hl 0 rfl) ?_
        refine q_lald hx hb hK hZ (37) 1 (i) (by decide) hPr.2.2.2.1 rfl rfl (by omega) (by decide) d_CB_into_61 ?_
        refine lv_lstore (lv' := [(9, .long (L i)), (8, .int (nI i)), (3, .int bd), (4, .long mo), (6, .long fe), (0, .ref (ad 0))]) hx hb d_CB_into_62 hl (by decide) rfl (fun ls hl => ?_)
        refine lv_aload_n hx hb d_CB_into_64 rfl (lv_at hl 5 rfl) ?_
        refine q_get (C := R_CB) (T := T_CB) (N := 3) hx hb hts (fun w h => gm (inT_CB w h)) hown hK hZ (0) (by decide) h0 rfl 1 (by decide) (hts _ (gm k_100)) (fun _ h9 => h9) rfl d_CB_into_65 ?_
        refine q_get (C := R_Prs) (T := T_Prs) (N := 5) hx hb hts (fun w h => gm (inT_Prs w h)) hown hK hZ (34) (by decide) hPr.1 rfl 3 (by decide) (hts _ (gm k_85)) (fun _ h9 => h9) rfl d_CB_into_68 ?_
        refine lv_iload hx hb d_CB_into_71 (lv_at hl 1 rfl) ?_
        refine q_lald hx hb hK hZ (38) 1 (i) (by decide) hPr.2.2.2.2.1 rfl rfl (by omega) (by decide) d_CB_into_73 ?_
        refine lv_lstore (lv' := [(11, .long (R i)), (9, .long (L i)), (8, .int (nI i)), (3, .int bd), (4, .long mo), (6, .long fe), (0, .ref (ad 0))]) hx hb d_CB_into_74 hl (by decide) rfl (fun ls hl => ?_)
        refine lv_lload hx hb d_CB_into_76 (lv_at hl 0 rfl) ?_
        refine lv_lconst (v := 0) hx hb d_CB_into_78 rfl ?_
        refine W.lcmp hx hb d_CB_into_79 ?_
        refine lv_if_le (tgt := 102) hx hb d_CB_into_80 (by decide) (fun h80 => ?_) (fun h80 => ?_)
        · skip
          rw [lg_cmp_le] at h80
          have h80 : ¬ 0 < R i := Int64.not_lt.mpr h80
          refine lv_lload hx hb d_CB_into_102 (lv_at hl 1 rfl) ?_
          refine lv_lload hx hb d_CB_into_104 (lv_at hl 0 rfl) ?_
          refine q_callSl (va_runS (As := [.long (L i), .long (R i)]) (rest := []) ⟨hx, hb, hml, hown, hts⟩ (c_CB_fewestTimes l _ _ h80) (va_cwS 2 hts (gI_S k_391 k_389 k_390 k_21) rfl rfl rfl (by decide +kernel) ⟨Nat.le_of_ble_eq_true rfl, Nat.le_of_ble_eq_true rfl⟩) ⟨fun _ _ _ _ q => q, fun _ _ _ => ⟨rfl, trivial⟩⟩ rfl rfl hl.1 rfl (lv_room (Nat.le_of_ble_eq_true rfl)) d_CB_into_106 ⟨Nat.zero_le _, Nat.zero_le _⟩) (fun t h_t => ?_)
          refine lv_lstore (lv' := [(13, .long t), (11, .long (R i)), (9, .long (L i)), (8, .int (nI i)), (3, .int bd), (4, .long mo), (6, .long fe), (0, .ref (ad 0))]) hx hb d_CB_into_109 hl (by decide) rfl (fun ls hl => ?_)
          refine lv_lload hx hb d_CB_into_111 (lv_at hl 0 rfl) ?_
          refine lv_ldc2 (v := (-1)) hx hb hown (hts _ (gm k_320)) d_CB_into_113 ?_
          refine W.lcmp hx hb d_CB_into_116 ?_
          refine lv_if_ne (tgt := 124) hx hb d_CB_into_117 (by decide) (fun h117 => ?_) (fun h117 => ?_)
          · skip
            rw [lg_cmp_eq] at h117
            refine lv_lload hx hb d_CB_into_124 (lv_at hl 6 rfl) ?_
            refine lv_lload hx hb d_CB_into_126 (lv_at hl 0 rfl) ?_
            refine q_callSl (va_runS (As := [.long fe, .long t]) (rest := []) ⟨hx, hb, hml, hown, hts⟩ (c_JM_max l _ _) (va_cwS 2 hts (gI_S k_394 k_392 k_393 k_33) rfl rfl rfl (by decide +kernel) ⟨Nat.le_of_ble_eq_true rfl, Nat.le_of_ble_eq_true rfl⟩) ⟨fun _ _ _ _ q => q, fun _ _ _ => ⟨rfl, trivial⟩⟩ rfl rfl hl.1 rfl (lv_room (Nat.le_of_ble_eq_true rfl)) d_CB_into_128 ⟨Nat.zero_le _, Nat.zero_le _⟩) (fun m9 h_m9 => ?_)
            subst h_m9
            refine lv_lstore (lv' := [(6, .long (if fe < t then t else fe)), (13, .long t), (11, .long (R i)), (9, .long (L i)), (8, .int (nI i)), (3, .int bd), (4, .long mo), (0, .ref (ad 0))]) hx hb d_CB_into_131 hl (by decide) rfl (fun ls hl => ?_)
            refine lv_iinc (v := (nI (i + 1))) (lv' := [(8, .int (nI (i + 1))), (6, .long (if fe < t then t else fe)), (13, .long t), (11, .long (R i)), (9, .long (L i)), (3, .int bd), (4, .long mo), (0, .ref (ad 0))]) hx hb d_CB_into_133 hl (k := 4) rfl (nI_1 _) (by decide) rfl (fun ls hl => ?_)
            refine lv_goto (tgt := 40) hx hb d_CB_into_136 (by decide) ?_
            exact ih40 (i + 1) bd mo (if fe < t then t else fe) _ _ _ (by omega) (by omega) (bX_k (Q := fun y => 0 < R y) hbx h80) (in_n1 hi1 h80) (in_n2 hi2) hi2m (in_n3 hi3 h80 h_t h117) (in_n4 hi4 h80 h_t h117) hZ (lv_sub hl [0, 5, 6, 1, 7] rfl)
          · skip
            rw [lg_cmp_eq] at h117
            refine lv_ldc2 (v := (-1)) hx hb hown (hts _ (gm k_320)) d_CB_into_120 ?_
            exact q_lret hx hb hr hlocks hK hAm hZ hN (⟨into_bad hp h49 (in_bad h_t h117), sC_spare hX hch ⟨_, _, _, _, hS⟩ ⟨_, _, _, _, _, hPr⟩, fun y hy => hch y (by omega) (by have := bb_r hsp; omega)⟩) d_CB_into_123
        · skip
          rw [lg_cmp_le] at h80
          have h80 : 0 < R i := Int64.not_le.mp h80
          refine lv_iconst (v := (nI 1)) hx hb d_CB_into_83 rfl ?_
          refine lv_istore_n (lv' := [(3, .int (nI 1)), (11, .long (R i)), (9, .long (L i)), (8, .int (nI i)), (4, .long mo), (6, .long fe), (0, .ref (ad 0))]) hx hb d_CB_into_84 rfl hl (by decide) rfl (fun ls hl => ?_)
          refine lv_lload hx hb d_CB_into_85 (lv_at hl 4 rfl) ?_
          refine lv_lload hx hb d_CB_into_87 (lv_at hl 2 rfl) ?_
          refine lv_lload hx hb d_CB_into_89 (lv_at hl 1 rfl) ?_
          refine q_callSl (va_runS (As := [.long (L i), .long (R i)]) (rest := [.long mo]) ⟨hx, hb, hml, hown, hts⟩ (c_JM_floorDiv l _ _ h80) (va_cwS 2 hts (gI_S k_388 k_386 k_387 k_33) rfl rfl rfl (by decide +kernel) ⟨Nat.le_of_ble_eq_true rfl, Nat.le_of_ble_eq_true rfl⟩) ⟨fun _ _ _ _ q => q, fun _ _ _ => ⟨rfl, trivial⟩⟩ rfl rfl hl.1 rfl (lv_room (Nat.le_of_ble_eq_true rfl)) d_CB_into_91 ⟨Nat.zero_le _, Nat.zero_le _⟩) (fun t h_t => ?_)
          refine q_callSl (va_runS (As := [.long mo, .long t]) (rest := []) ⟨hx, hb, hml, hown, hts⟩ (c_JM_min l _ _) (va_cwS 2 hts (gI_S k_294 k_292 k_293 k_33) rfl rfl rfl (by decide +kernel) ⟨Nat.le_of_ble_eq_true rfl, Nat.le_of_ble_eq_true rfl⟩) ⟨fun _ _ _ _ q => q, fun _ _ _ => ⟨rfl, trivial⟩⟩ rfl rfl hl.1 rfl (lv_room (Nat.le_of_ble_eq_true rfl)) d_CB_into_94 ⟨Nat.zero_le _, Nat.zero_le _⟩) (fun m9 h_m9 => ?_)
          subst h_m9
          refine lv_lstore (lv' := [(4, .long (if t < mo then t else mo)), (3, .int (nI 1)), (11, .long (R i)), (9, .long (L i)), (8, .int (nI i)), (6, .long fe), (0, .ref (ad 0))]) hx hb d_CB_into_97 hl (by decide) rfl (fun ls hl => ?_)
          refine lv_goto (tgt := 133) hx hb d_CB_into_99 (by decide) ?_
          refine lv_iinc (v := (nI (i + 1))) (lv' := [(8, .int (nI (i + 1))), (4, .long (if t < mo then t else mo)), (3, .int (nI 1)), (11, .long (R i)), (9, .long (L i)), (6, .long fe), (0, .ref (ad 0))]) hx hb d_CB_into_133 hl (k := 4) rfl (nI_1 _) (by decide) rfl (fun ls hl => ?_)
          refine lv_goto (tgt := 40) hx hb d_CB_into_136 (by decide) ?_
          exact ih40 (i + 1) (nI 1) (if t < mo then t else mo) fe _ _ _ (by omega) (by omega) (bX_2 (Q := fun y => 0 < R y) h80) (in_p1 hi1 h80 h_t) (Or.inr (in_p2 hi2 hi2m h80 h_t)) (fun y => absurd y (by decide)) (in_p3 hi3 h80) (in_p4 hi4) hZ (lv_sub hl [0, 2, 1, 5, 6] rfl)
  exact loop40 (d + 1) 0 (nI 0) 9223372036854775807 0 _ _ _ (Nat.zero_le d) (by omega) (bX_0 _) in1_0 (Or.inl rfl) (fun _ => rfl) in3_0 (Or.inl z_0) hZ (lv_sub hl [0, 3, 2, 1, 4] rfl)
