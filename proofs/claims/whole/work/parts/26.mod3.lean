/-! the reference: compare, into, look -/
section BX
variable {b : Int32} {S S' : Int → Prop} {Q : Int → Prop} {X : Int}
theorem bx_0 (h : ∀ y, ¬ S y) : bX (nI 0) (∃ y, S y ∧ Q y) := Or.inr ⟨rfl, fun ⟨y, a, _⟩ => h y a⟩
theorem bx_1 (h : bX b (∃ y, S y ∧ Q y)) (h0 : ¬ b = 0) (hS : ∀ y, S' y ↔ (S y ∨ y = X)) : bX (nI 1) (∃ y, S' y ∧ Q y) := by
  obtain ⟨y, a, c⟩ := bX_t h h0
  exact Or.inl ⟨rfl, y, (hS y).mpr (Or.inl a), c⟩
theorem bx_2 (hq : Q X) (hS : ∀ y, S' y ↔ (S y ∨ y = X)) : bX (nI 1) (∃ y, S' y ∧ Q y) := Or.inl ⟨rfl, X, (hS X).mpr (Or.inr rfl), hq⟩
theorem bx_3 (h : bX b (∃ y, S y ∧ Q y)) (h0 : b = 0) (hq : ¬ Q X) (hS : ∀ y, S' y ↔ (S y ∨ y = X)) : bX (nI 0) (∃ y, S' y ∧ Q y) := by
  refine Or.inr ⟨rfl, fun ⟨y, a, c⟩ => ?_⟩
  rcases (hS y).mp a with k | k
  · exact bX_f h h0 ⟨y, k, c⟩
  · rw [k] at c
    exact hq c
theorem bx_k (h : bX b (∃ y, S y ∧ Q y)) (hS : ∀ y, S' y ↔ S y) : bX b (∃ y, S' y ∧ Q y) :=
  h.imp (fun ⟨e, y, a, c⟩ => ⟨e, y, (hS y).mpr a, c⟩) (fun ⟨e, n⟩ => ⟨e, fun ⟨y, a, c⟩ => n ⟨y, (hS y).mp a, c⟩⟩)
theorem bx_end (h : bX b (∃ y, S y ∧ Q y)) (hS : ∀ y, ¬ S y → ¬ Q y) : bX b (∃ y, Q y) :=
  h.imp (fun ⟨e, y, _, c⟩ => ⟨e, y, c⟩) (fun ⟨e, n⟩ => ⟨e, fun ⟨y, c⟩ => n ⟨y, Classical.byContradiction (fun a => hS y a c), c⟩⟩)
end BX
theorem i64_n0 {y : Int64} (h : ¬ y ≤ 0) : ¬ y = 0 := fun e => h (by rw [e]; exact Int64.le_refl 0)
theorem i64_l0 {y : Int64} (h : y < 0) : ¬ y = 0 := fun e => by
  rw [e] at h
  exact absurd h (Int64.lt_irrefl)
/-- what into's loop holds -/
def inI (S : Int → Prop) (Fa Fb : Int → Int64) (lo hi : Int64) (ca : Int32) : Prop :=
  bX ca (∀ y, S y → ¬ iB (Fa y) (Fb y)) ∧ ((∀ y, S y → ¬ iB (Fa y) (Fb y)) →
    (((hi = -1 ∧ ∀ y, S y → ¬ 0 < Fb y) ∨ (0 ≤ hi.toInt ∧ (∃ y, S y ∧ 0 < Fb y ∧ hi.toInt = iQ (Fa y) (Fb y)) ∧ ∀ y, S y → 0 < Fb y → hi.toInt ≤ iQ (Fa y) (Fb y))) ∧
    (∀ y, S y → iN (Fa y) (Fb y) ≤ lo.toInt) ∧ (lo.toInt = 0 ∨ ∃ y, S y ∧ lo.toInt = iN (Fa y) (Fb y))))
def hiS (hi h2 x y : Int64) : Prop := (¬ 0 < y ∧ h2 = hi) ∨ (0 < y ∧ (hi < 0 ∨ iQ x y < hi.toInt) ∧ h2.toInt = iQ x y) ∨ (0 < y ∧ ¬ hi < 0 ∧ hi.toInt ≤ iQ x y ∧ h2 = hi)
def loS (lo l2 x y : Int64) : Prop := ((iN x y = 0 ∨ iN x y ≤ lo.toInt) ∧ l2 = lo) ∨ (lo.toInt < iN x y ∧ l2.toInt = iN x y)
section INI
variable {S S' : Int → Prop} {Fa Fb : Int → Int64} {lo hi l2 h2 : Int64} {ca c2 : Int32} {X : Int}
theorem inI_0 (h : ∀ y, ¬ S y) : inI S Fa Fb 0 (-1) (nI 1) :=
  ⟨Or.inl ⟨rfl, fun y a => absurd a (h y)⟩, fun _ => ⟨Or.inl ⟨rfl, fun y a => absurd a (h y)⟩, fun y a => absurd a (h y), Or.inl z_0⟩⟩
theorem inI_k (h : inI S Fa Fb lo hi ca) (hS : ∀ y, S' y ↔ S y) : inI S' Fa Fb lo hi ca := by
  have e : S' = S := funext fun y => propext (hS y)
  rw [e]
  exact h
theorem inI_lo (h : lo.toInt = 0 ∨ ∃ y, S y ∧ lo.toInt = iN (Fa y) (Fb y)) : 0 ≤ lo.toInt := by
  rcases h with e | ⟨y, -, e⟩
  · omega
  · rw [e]
    exact iN_0 _ _
theorem inI_s (h : inI S Fa Fb lo hi ca) (hS : ∀ y, S' y ↔ (S y ∨ y = X)) (hc : bX c2 (¬ ca = 0 ∧ ¬ iB (Fa X) (Fb X))) (hh : ¬ iB (Fa X) (Fb X) → hiS hi h2 (Fa X) (Fb X)) (hl : ¬ iB (Fa X) (Fb X) → loS lo l2 (Fa X) (Fb X)) : inI S' Fa Fb l2 h2 c2 := by
  obtain ⟨g1, g2⟩ := h
  have hall : (∀ y, S' y → ¬ iB (Fa y) (Fb y)) ↔ ((∀ y, S y → ¬ iB (Fa y) (Fb y)) ∧ ¬ iB (Fa X) (Fb X)) := by
    refine ⟨fun z => ⟨fun y a => z y ((hS y).mpr (Or.inl a)), z X ((hS X).mpr (Or.inr rfl))⟩, fun z y a => ?_⟩
    rcases (hS y).mp a with k | k
    · exact z.1 y k
    · rw [k]
      exact z.2
  refine ⟨?_, fun z => ?_⟩
  · rw [hall]
    rcases hc with ⟨e, a, b⟩ | ⟨e, a⟩
    · exact Or.inl ⟨e, bX_t g1 a, b⟩
    · exact Or.inr ⟨e, fun k => a ⟨fun e0 => bX_f g1 e0 k.1, k.2⟩⟩
  · obtain ⟨z1, z2⟩ := hall.mp z
    obtain ⟨q1, q2, q3⟩ := g2 z1
    have SX : S' X := (hS X).mpr (Or.inr rfl)
    refine ⟨?_, ?_, ?_⟩
    · rcases hh z2 with ⟨a, b⟩ | ⟨a, b, d⟩ | ⟨a, b, d, e⟩
      · rw [b]
        refine q1.imp (fun k => ⟨k.1, fun y s => ?_⟩) (fun k => ⟨k.1, ?_, fun y s => ?_⟩)
        · rcases (hS y).mp s with t | t
          · exact k.2 y t
          · rw [t]
            exact a
        · obtain ⟨y, s, t⟩ := k.2.1
          exact ⟨y, (hS y).mpr (Or.inl s), t⟩
        · rcases (hS y).mp s with t | t
          · exact k.2.2 y t
          · rw [t]
            exact fun r => absurd r a
      · have x0 : ¬ Fa X < 0 := fun r => z2 (Or.inl ⟨r, Int64.le_of_lt a⟩)
        have x1 : 0 ≤ (Fa X).toInt := Int.not_lt.mp (fun r => x0 (z_lt0.mpr r))
        have q0 : 0 ≤ iQ (Fa X) (Fb X) := z_tdiv_pp x1 (by have := z_0lt.mp a; omega)
        refine Or.inr ⟨by omega, ⟨X, SX, a, d⟩, fun y s t => ?_⟩
        rcases (hS y).mp s with r | r
        · rcases q1 with k | k
          · exact absurd t (k.2 y r)
          · have i1 := k.2.2 y r t
            rcases b with b | b
            · have := z_lt0.mp b
              omega
            · omega
        · rw [r]
          omega
      · rw [e]
        rcases q1 with k | k
        · exact absurd (by rw [k.1]; decide) b
        · refine Or.inr ⟨k.1, ?_, fun y s t => ?_⟩
          · obtain ⟨y, s, t⟩ := k.2.1
            exact ⟨y, (hS y).mpr (Or.inl s), t⟩
          · rcases (hS y).mp s with r | r
            · exact k.2.2 y r t
            · rw [r]
              exact d
    · intro y s
      rcases (hS y).mp s with r | r
      · have := q2 y r
        rcases hl z2 with ⟨a, b⟩ | ⟨a, b⟩
        · rw [b]
          exact this
        · omega
      · rw [r]
        have l0 := inI_lo q3
        rcases hl z2 with ⟨a, b⟩ | ⟨a, b⟩
        · rw [b]
          omega
        · omega
    · rcases hl z2 with ⟨a, b⟩ | ⟨a, b⟩
      · rw [b]
        exact q3.imp id (fun ⟨y, s, t⟩ => ⟨y, (hS y).mpr (Or.inl s), t⟩)
      · exact Or.inr ⟨X, SX, b⟩
theorem inI_e0 (h : inI S Fa Fb lo hi ca) (h0 : ca = 0) : iR Fa Fb (-1) := by
  have n := bX_f h.1 h0
  refine Or.inl ⟨rfl, Or.inl ?_⟩
  apply Classical.byContradiction
  intro z
  exact n (fun y _ b => z ⟨y, b⟩)
theorem inI_all (h : inI S Fa Fb lo hi ca) (h0 : ¬ ca = 0) (ho : ∀ y, ¬ S y → Fa y = 0 ∧ Fb y = 0) : ∀ y, ¬ iB (Fa y) (Fb y) := fun y => by
  by_cases s : S y
  · exact bX_t h.1 h0 y s
  · rw [(ho y s).1]
    intro z
    rcases z with ⟨a, -⟩ | ⟨a, -⟩
    · exact absurd a (by decide)
    · exact absurd a (by decide)
theorem inI_e1 (h : inI S Fa Fb lo hi ca) (h0 : ¬ ca = 0) (hlt : hi < lo) (ho : ∀ y, ¬ S y → Fa y = 0 ∧ Fb y = 0) : iR Fa Fb (-1) := by
  obtain ⟨q1, q2, q3⟩ := h.2 (bX_t h.1 h0)
  have l0 := inI_lo q3
  have hl := Int64.lt_iff_toInt_lt.mp hlt
  refine Or.inl ⟨rfl, ?_⟩
  rcases q1 with k | k
  · refine Or.inr (Or.inl fun y z => ?_)
    by_cases s : S y
    · exact k.2 y s z
    · rw [(ho y s).2] at z
      exact absurd z (by decide)
  · obtain ⟨y, -, a, b⟩ := k.2.1
    rcases q3 with e | ⟨y2, -, e⟩
    · omega
    · exact Or.inr (Or.inr ⟨y, y2, a, by omega⟩)
theorem inI_e2 (h : inI S Fa Fb lo hi ca) (h0 : ¬ ca = 0) (hlt : ¬ hi < lo) (ho : ∀ y, ¬ S y → Fa y = 0 ∧ Fb y = 0) : iR Fa Fb hi := by
  obtain ⟨q1, q2, q3⟩ := h.2 (bX_t h.1 h0)
  have l0 := inI_lo q3
  have hl := Int64.le_iff_toInt_le.mp (Int64.not_lt.mp hlt)
  rcases q1 with k | k
  · have e := k.1
    rw [e, z_m1] at hl
    omega
  · refine Or.inr ⟨inI_all h h0 ho, ?_, fun y z => ?_, fun y => ?_⟩
    · obtain ⟨y, -, a⟩ := k.2.1
      exact ⟨y, a⟩
    · by_cases s : S y
      · exact k.2.2 y s z
      · rw [(ho y s).2] at z
        exact absurd z (by decide)
    · by_cases s : S y
      · have := q2 y s
        omega
      · rw [(ho y s).1, iN_pos (fun z => absurd z.1 (by decide))]
        omega
end INI
section INS
variable {S : Int → Prop} {Fa Fb : Int → Int64} {x y lo hi : Int64} {ca : Int32}
theorem ca_1 (h : ca = 0) : bX (nI 0) (¬ ca = 0 ∧ ¬ iB x y) := Or.inr ⟨rfl, fun z => z.1 h⟩
theorem ca_2 (h : x < 0) (hy : ¬ y < 0) : bX (nI 0) (¬ ca = 0 ∧ ¬ iB x y) := Or.inr ⟨rfl, fun z => z.2 (Or.inl ⟨h, Int64.not_lt.mp hy⟩)⟩
theorem nB_p (h : ¬ x < 0) : ¬ iB x y := fun z => z.elim (fun a => h a.1) (fun a => h (by rw [a.1]; decide))
theorem ca_3 (hc : ¬ ca = 0) (h : ¬ x < 0) (hy : ¬ y < 0) : bX (nI 1) (¬ ca = 0 ∧ ¬ iB x y) := Or.inl ⟨rfl, hc, nB_p h⟩
theorem ca_k (hI : inI S Fa Fb lo hi ca) (hy : y < 0) (hx : 0 ≤ x) : bX ca (¬ ca = 0 ∧ ¬ iB x y) := by
  rcases hI.1 with ⟨e, -⟩ | ⟨e, -⟩
  · exact Or.inl ⟨e, by rw [e]; decide, nB_p (Int64.not_lt.mpr hx)⟩
  · exact Or.inr ⟨e, fun z => z.1 e⟩
theorem ca_4 (hc : ¬ ca = 0) (hy : y < 0) (hb : ¬ (x = -9223372036854775808 ∧ y = -1)) : bX (nI 1) (¬ ca = 0 ∧ ¬ iB x y) := Or.inl ⟨rfl, hc, fun z => z.elim (fun a => Int64.not_le.mpr hy a.2) hb⟩
theorem ca_5 (h1 : x = -9223372036854775808) (h2 : y = -1) : bX (nI 0) (¬ ca = 0 ∧ ¬ iB x y) := Or.inr ⟨rfl, fun z => z.2 (Or.inr ⟨h1, h2⟩)⟩
theorem hi_1 (h : y ≤ 0) : ¬ iB x y → hiS hi hi x y := fun _ => Or.inl ⟨Int64.not_lt.mpr h, rfl⟩
theorem hi_n (h : y < 0) : ¬ iB x y → hiS hi hi x y := fun _ => Or.inl ⟨Int64.not_lt.mpr (Int64.le_of_lt h), rfl⟩
theorem hi_2 (h : ¬ y ≤ 0) (h2 : hi < 0) : ¬ iB x y → hiS hi (x / y) x y := fun _ => Or.inr (Or.inl ⟨Int64.not_le.mp h, Or.inl h2, fd_toInt (Int64.not_le.mp h)⟩)
theorem hi_3 (h : ¬ y ≤ 0) (h2 : ¬ hi < 0) (h3 : hi ≤ x / y) : ¬ iB x y → hiS hi hi x y := fun _ => Or.inr (Or.inr ⟨Int64.not_le.mp h, h2, by
  have a := Int64.le_iff_toInt_le.mp h3
  rw [fd_toInt (Int64.not_le.mp h)] at a
  exact a, rfl⟩)
theorem hi_4 (h : ¬ y ≤ 0) (h2 : ¬ hi < 0) (h3 : ¬ hi ≤ x / y) : ¬ iB x y → hiS hi (x / y) x y := fun _ => Or.inr (Or.inl ⟨Int64.not_le.mp h, Or.inr (by
  have a := Int64.lt_iff_toInt_lt.mp (Int64.not_le.mp h3)
  rw [fd_toInt (Int64.not_le.mp h)] at a
  exact a), fd_toInt (Int64.not_le.mp h)⟩)
theorem lo_1 (hy : ¬ y < 0) : ¬ iB x y → loS lo lo x y := fun _ => Or.inl ⟨Or.inl (iN_pos (fun z => hy z.2)), rfl⟩
theorem lo_2 (hx : 0 ≤ x) : ¬ iB x y → loS lo lo x y := fun _ => Or.inl ⟨Or.inl (iN_pos (fun z => Int64.not_lt.mpr hx z.1)), rfl⟩
theorem lo_b (h1 : x = -9223372036854775808) (h2 : y = -1) {l2 : Int64} : ¬ iB x y → loS lo l2 x y := fun n => absurd (Or.inr ⟨h1, h2⟩) n
theorem lo_3 (hx : ¬ 0 ≤ x) (hy : y < 0) (hb : ¬ (x = -9223372036854775808 ∧ y = -1)) (hr : x - x / y * y = 0) (hq : x / y + 0 ≤ lo) : ¬ iB x y → loS lo lo x y := fun _ => Or.inl ⟨Or.inr (by
  have a := Int64.le_iff_toInt_le.mp hq
  rw [Int64.add_zero, iN_e0 (Int64.not_le.mp hx) hy hb hr] at a
  exact a), rfl⟩
theorem lo_4 (hx : ¬ 0 ≤ x) (hy : y < 0) (hb : ¬ (x = -9223372036854775808 ∧ y = -1)) (hr : x - x / y * y = 0) (hq : ¬ x / y + 0 ≤ lo) : ¬ iB x y → loS lo (x / y + 0) x y := fun _ => Or.inr ⟨by
  have a := Int64.lt_iff_toInt_lt.mp (Int64.not_le.mp hq)
  rw [Int64.add_zero, iN_e0 (Int64.not_le.mp hx) hy hb hr] at a
  exact a, by rw [Int64.add_zero, iN_e0 (Int64.not_le.mp hx) hy hb hr]⟩
theorem lo_5 (hx : ¬ 0 ≤ x) (hy : y < 0) (hr : ¬ x - x / y * y = 0) (hq : x / y + 1 ≤ lo) : ¬ iB x y → loS lo lo x y := fun _ => Or.inl ⟨Or.inr (by
  have a := Int64.le_iff_toInt_le.mp hq
  rw [iN_e1 (Int64.not_le.mp hx) hy hr] at a
  exact a), rfl⟩
theorem lo_6 (hx : ¬ 0 ≤ x) (hy : y < 0) (hr : ¬ x - x / y * y = 0) (hq : ¬ x / y + 1 ≤ lo) : ¬ iB x y → loS lo (x / y + 1) x y := fun _ => Or.inr ⟨by
  have a := Int64.lt_iff_toInt_lt.mp (Int64.not_le.mp hq)
  rw [iN_e1 (Int64.not_le.mp hx) hy hr] at a
  exact a, iN_e1 (Int64.not_le.mp hx) hy hr⟩
end INS
theorem cP_y {p : Nat → Int32} {i : Nat} (h : i = 0 ∨ ¬ p i = p (i - 1)) : cP p i + 1 = cP p (i + 1) := by
  show _ = cP p i + (if i = 0 ∨ ¬ p i = p (i - 1) then 1 else 0)
  rw [if_pos h]
theorem cP_n {p : Nat → Int32} {i : Nat} (h : ¬ (i = 0 ∨ ¬ p i = p (i - 1))) : cP p i + 0 = cP p (i + 1) := by
  show _ = cP p i + (if i = 0 ∨ ¬ p i = p (i - 1) then 1 else 0)
  rw [if_neg h]
theorem cN_y {a : Nat → Int64} {i : Nat} (h : a i < 0) : cN a i + 1 = cN a (i + 1) := by
  show _ = cN a i + (if a i < 0 then 1 else 0)
  rw [if_pos h]
theorem cN_n {a : Nat → Int64} {i : Nat} (h : ¬ a i < 0) : cN a i + 0 = cN a (i + 1) := by
  show _ = cN a i + (if a i < 0 then 1 else 0)
  rw [if_neg h]
set_option maxHeartbeats 4000000 in
set_option maxRecDepth 100000 in
theorem c_Mod_compare (l : Launch) (dC : Nat → ClassId) (dI : Nat → Nat → Nat) (cI cL cB : ClassId) (ad : Nat → Nat) (N0 : Nat) (w : Nat → va_E) (t0 : Int32) (F : Nat → Int → Int64) (ja jb : Nat) (hMM : sM ad cI cL w t0 F) (hja : ja < 8) (hjb : jb < 8) : Met l y_Mod_compare ws_Mod_compare ({ frames := 2, cells := 0, slots := 0, locals := 50 } : Room) (va_Pc [.ref (ad 43), .int (nI ja), .int (nI jb)] (sPr (dC, dI) vCl [(cI, .int), (cL, .long), (cB, .object "CoinBag$Bag")] 52 ad N0 w)) (va_Qi (fun r u => fr w u 43 50 ∧ sM ad cI cL u (nI 0) F ∧ cmR (∃ y, F jb y < F ja y) (∃ y, F ja y < F jb y) r) (sPr (dC, dI) vCl [(cI, .int), (cL, .long), (cB, .object "CoinBag$Bag")] 52 ad N0) (fun q => N0 ≤ q)) 0 0 (fun q => N0 ≤ q) := by
  refine Met.ofW (cc := b_Mod_compare) (maxL := 12) (ret := (some .int)) (by decide) rfl ?_
  intro p e s m args below meth c s₁ B hml hv
  obtain ⟨rfl, hP, hK, hD, hN, hAm⟩ := hv
  have hx := B.exec
  have hb := B.bytes
  have hr := B.returns
  have hts := atoms_spec (ws := ws_Mod_compare) B.pre
  have hown : s.vm.findClass "CoinBagModel" = some m.cls := findClass_of_methodNamed B.named
  have hlocks := B.notSynchronized
  have hZ : sZ (dC, dI) vCl 52 ad (fun q => N0 ≤ q) s.heap w s.heap [] := ⟨hP, hD, va_S.rf⟩
  have hl := lv_entry ([.ref (ad 43), .int (nI ja), .int (nI jb)]) (n := 12) (Nat.le_of_ble_eq_true rfl)
  rw [lg_entry_eq]
  generalize (lg_sl ([.ref (ad 43), .int (nI ja), .int (nI jb)]) ++ List.replicate (12 - (lg_sl ([.ref (ad 43), .int (nI ja), .int (nI jb)])).length) Slot.unset).toArray = ls at hl ⊢
  have hl : lv_has ls 12 [(0, .ref (ad 43)), (1, .int (nI ja)), (2, .int (nI jb))] := hl
  obtain ⟨mn, P, N, A, rm, rP, rN, rA, bd, hM, hB⟩ := hMM
  have hfr : fr w w 43 50 := fr_rf
  obtain ⟨za, hza, hmna, hRa⟩ := mB_at hB hja
  obtain ⟨zb, hzb, hmnb, hRb⟩ := mB_at hB hjb
  refine lv_aload_n hx hb d_Mod_compare_0 rfl (lv_at hl 0 rfl) ?_
  refine lv_aload_n hx hb d_Mod_compare_1 rfl (lv_at hl 0 rfl) ?_
  refine lv_iload_n hx hb d_Mod_compare_2 rfl (lv_at hl 1 rfl) ?_
  refine lv_iload_n hx hb d_Mod_compare_3 rfl (lv_at hl 2 rfl) ?_
  refine lv_iconst (v := (nI 0)) hx hb d_Mod_compare_4 rfl ?_
  refine lv_iconst (v := (nI 0)) hx hb d_Mod_compare_5 rfl ?_
  refine q_calli (va_runV (As := [.int (nI ja), .int (nI jb), .int (nI 0), .int (nI 0)]) (rest := [.ref (ad 43)]) ⟨hx, hb, hml, hown, hts⟩ (c_Mod_wrong l dC dI cI cL cB ad N0 w t0 mn P N A rm rP rN rA bd (nI ja) (nI jb) (nI 0) (nI 0) hM) (cwV 4 hts (gI_V k_462 k_459 k_461 k_7 k_24) rfl rfl rfl (by decide +kernel) ⟨Nat.le_of_ble_eq_true rfl, Nat.le_of_ble_eq_true rfl⟩) (q_preV hK hAm hZ hN [.int (nI ja), .int (nI jb), .int (nI 0), .int (nI 0)] (43) 3 (by decide) hM.1 rfl) rfl rfl hl.1 rfl (lv_room (Nat.le_of_ble_eq_true rfl)) d_Mod_compare_6 ⟨Nat.zero_le _, Nat.zero_le _⟩) hZ (fun r u_r H locs h_r hZ => ?_)
  obtain ⟨e_r, h_r⟩ := h_r
  rw [e_r] at hZ
  refine q_topi (y := nI 0) (wr_ok h_r ⟨okB_nI hja, okB_nI hjb, okB_0⟩ okP_0) ?_
  refine q_put (C := R_Mod) (T := T_Mod) (N := 10) (ty := .int) (v := .int (nI 0)) hx hb hts (fun w h => gm (inT_Mod w h)) ty_Mod tyo_Mod nm_Mod hown hK hZ (43) (by decide) hM.1 rfl 0 (by decide) (hts _ (gm k_420)) (fun _ h9 => h9) rfl (by decide +kernel) (rfl) (rfl) (Nat.le_of_ble_eq_true rfl) d_Mod_compare_9 (fun H locs hZ => ?_)
  have hM := hM.up43 (nI 0) rm bd
  have hfr := fr_up (x := 43) (e := .inr (3, [.int (nI 0), .ref (ad 44), .ref (ad 45), .ref (ad 46), .ref (ad 47), .int rm, .ref (ad 48), .ref (ad 49), .ref (ad 50), .int bd])) hfr (by omega) (by omega)
  have hZ : sZ (dC, dI) vCl 52 ad (fun q => N0 ≤ q) s.heap (va_up w 43 (.inr (3, [.int (nI 0), .ref (ad 44), .ref (ad 45), .ref (ad 46), .ref (ad 47), .int rm, .ref (ad 48), .ref (ad 49), .ref (ad 50), .int bd]))) H locs := hZ
  generalize va_up w 43 (.inr (3, [.int (nI 0), .ref (ad 44), .ref (ad 45), .ref (ad 46), .ref (ad 47), .int rm, .ref (ad 48), .ref (ad 49), .ref (ad 50), .int bd])) = w86 at hZ hM hfr
  refine lv_aload_n hx hb d_Mod_compare_12 rfl (lv_at hl 0 rfl) ?_
  refine q_get (C := R_Mod) (T := T_Mod) (N := 10) hx hb hts (fun w h => gm (inT_Mod w h)) hown hK hZ (43) (by decide) hM.1 rfl 0 (by decide) (hts _ (gm k_420)) (fun _ h9 => h9) rfl d_Mod_compare_13 ?_
  refine lv_if_le (tgt := 21) hx hb d_Mod_compare_16 (by decide) (fun h16 => ?_) (fun h16 => ?_)
  · skip
    have h16 : 0 ≤ 0 := (nI_leI (a := 0) (b := 0) (by omega) (by omega)).mp h16
    refine lv_iconst (v := (nI 0)) hx hb d_Mod_compare_21 rfl ?_
    refine lv_istore_n (lv' := [(3, .int (nI 0)), (0, .ref (ad 43)), (1, .int (nI ja)), (2, .int (nI jb))]) hx hb d_Mod_compare_22 rfl hl (by decide) rfl (fun ls hl => ?_)
    refine lv_iconst (v := (nI 0)) hx hb d_Mod_compare_23 rfl ?_
    refine lv_istore (lv' := [(4, .int (nI 0)), (3, .int (nI 0)), (0, .ref (ad 43)), (1, .int (nI ja)), (2, .int (nI jb))]) hx hb d_Mod_compare_24 hl (by decide) rfl (fun ls hl => ?_)
    refine lv_iconst (v := (nI 0)) hx hb d_Mod_compare_26 rfl ?_
    refine lv_istore (lv' := [(5, .int (nI 0)), (4, .int (nI 0)), (3, .int (nI 0)), (0, .ref (ad 43)), (1, .int (nI ja)), (2, .int (nI jb))]) hx hb d_Mod_compare_27 hl (by decide) rfl (fun ls hl => ?_)
    refine lv_iload hx hb d_Mod_compare_29 (lv_at hl 0 rfl) ?_
    refine lv_iconst (v := (nI 2)) hx hb d_Mod_compare_31 rfl ?_
    refine lv_icmp_ge (tgt := 164) hx hb d_Mod_compare_32 (by decide) (fun h32 => ?_) (fun h32 => ?_)
    · skip
      have h32 : 2 ≤ 0 := (nI_leI (a := 2) (b := 0) (by omega) (by omega)).mp h32
      exact absurd h32 (by decide)
    · skip
      have h32 : 0 < 2 := Nat.lt_of_not_le (fun z9 => h32 ((nI_leI (a := 2) (b := 0) (by omega) (by omega)).mpr z9))
      refine lv_iload hx hb d_Mod_compare_35 (lv_at hl 0 rfl) ?_
      refine lv_if_ne (tgt := 44) hx hb d_Mod_compare_37 (by decide) (fun h37 => ?_) (fun h37 => ?_)
      · skip
        have h37 : ¬ 0 = 0 := fun z9 => h37 ((nI_eq (a := 0) (b := 0) (by omega) (by omega)).mpr z9)
        exact absurd h37 (by decide)
      · skip
        have h37 : 0 = 0 := (nI_eq (a := 0) (b := 0) (by omega) (by omega)).mp h37
        refine lv_iload_n hx hb d_Mod_compare_40 rfl (lv_at hl 4 rfl) ?_
        refine lv_goto (tgt := 45) hx hb d_Mod_compare_41 (by decide) ?_
        refine lv_istore (lv' := [(6, .int (nI ja)), (5, .int (nI 0)), (4, .int (nI 0)), (3, .int (nI 0)), (0, .ref (ad 43)), (1, .int (nI ja)), (2, .int (nI jb))]) hx hb d_Mod_compare_45 hl (by decide) rfl (fun ls hl => ?_)
        refine lv_bipush (v := (nI 64)) hx hb d_Mod_compare_47 rfl ?_
        refine lv_iload hx hb d_Mod_compare_49 (lv_at hl 0 rfl) ?_
        refine lv_imul hx hb d_Mod_compare_51 ?_
        refine q_topi (y := nI (64 * ja)) (pk_mul _ _) ?_
        refine lv_istore (lv' := [(7, .int (nI (64 * ja))), (6, .int (nI ja)), (5, .int (nI 0)), (4, .int (nI 0)), (3, .int (nI 0)), (0, .ref (ad 43)), (1, .int (nI ja)), (2, .int (nI jb))]) hx hb d_Mod_compare_52 hl (by decide) rfl (fun ls hl => ?_)
        have loop54a : ∀ (fu54a : Nat) (k : Nat) (mb fb : Int32) (H : Heap) (locs : List Loc) (ls : Array Slot), (k ≤ za) → (za + 1 ≤ k + fu54a) → (bX mb (∃ y, (sU (kM P N ja) k) y ∧ F jb y < F ja y)) → (bX fb (∃ y, (sU (kM P N ja) k) y ∧ F ja y < F jb y)) → sZ (dC, dI) vCl 52 ad (fun q => N0 ≤ q) s.heap w86 H locs → lv_has ls 12 [(7, .int (nI (64 * ja + k))), (6, .int (nI ja)), (5, .int (nI 0)), (3, .int mb), (4, .int fb), (0, .ref (ad 43)), (1, .int (nI ja)), (2, .int (nI jb))] → W p l e (headSpec ws_Mod_compare ({ frames := 2, cells := 0, slots := 0, locals := 50 } : Room)).room s m ([.ref (ad 43), .int (nI ja), .int (nI jb)]).toArray below meth c H locs 0 0 (MQ below (va_Qi (fun r u => fr w u 43 50 ∧ sM ad cI cL u (nI 0) F ∧ cmR (∃ y, F jb y < F ja y) (∃ y, F ja y < F jb y) r) (sPr (dC, dI) vCl [(cI, .int), (cL, .long), (cB, .object "CoinBag$Bag")] 52 ad N0) (fun q => N0 ≤ q)) ([.ref (ad 43), .int (nI ja), .int (nI jb)]).toArray s 0 0 (fun q => N0 ≤ q)) (F0 m 54 ls []) := by
          intro fu54a
          induction fu54a with
          | zero =>
            intro k mb fb H locs ls hk hf9 hm hw
            omega
          | succ fu54a ih54a =>
            intro k mb fb H locs ls hk hf9 hm hw hZ hl
            refine lv_iload hx hb d_Mod_compare_54 (lv_at hl 0 rfl) ?_
            refine lv_bipush (v := (nI 64)) hx hb d_Mod_compare_56 rfl ?_
            refine lv_iload hx hb d_Mod_compare_58 (lv_at hl 1 rfl) ?_
            refine lv_imul hx hb d_Mod_compare_60 ?_
            refine q_topi (y := nI (64 * ja)) (pk_mul _ _) ?_
            refine lv_aload_n hx hb d_Mod_compare_61 rfl (lv_at hl 5 rfl) ?_
            refine q_get (C := R_Mod) (T := T_Mod) (N := 10) hx hb hts (fun w h => gm (inT_Mod w h)) hown hK hZ (43) (by decide) hM.1 rfl 1 (by decide) (hts _ (gm k_421)) (fun _ h9 => h9) rfl d_Mod_compare_62 ?_
            refine lv_iload hx hb d_Mod_compare_65 (lv_at hl 1 rfl) ?_
            refine q_iald hx hb hK hZ (44) 0 (ja) (by decide) hM.2.1 rfl rfl (by omega) (by decide) d_Mod_compare_67 ?_
            refine q_topi (y := nI za) (hmna) ?_
            refine lv_iadd hx hb d_Mod_compare_68 ?_
            refine q_topi (y := nI ((64 * ja) + za)) (nI_add _ _) ?_
            refine lv_icmp_ge (tgt := 158) hx hb d_Mod_compare_69 (by decide) (fun h69 => ?_) (fun h69 => ?_)
            · skip
              have h69 : ((64 * ja) + za) ≤ (64 * ja + k) := (nI_leI (a := ((64 * ja) + za)) (b := (64 * ja + k)) (by omega) (by omega)).mp h69
              have ek : k = za := by omega
              rw [ek] at hm hw
              refine lv_iinc (v := (nI (0 + 1))) (lv' := [(5, .int (nI (0 + 1))), (7, .int (nI (64 * ja + k))), (6, .int (nI ja)), (3, .int mb), (4, .int fb), (0, .ref (ad 43)), (1, .int (nI ja)), (2, .int (nI jb))]) hx hb d_Mod_compare_158 hl (k := 2) rfl (nI_1 _) (by decide) rfl (fun ls hl => ?_)
              have hl : lv_has ls 12 [(5, .int (nI 1)), (7, .int (nI (64 * ja + k))), (6, .int (nI ja)), (3, .int mb), (4, .int fb), (0, .ref (ad 43)), (1, .int (nI ja)), (2, .int (nI jb))] := hl
              refine lv_goto (tgt := 29) hx hb d_Mod_compare_161 (by decide) ?_
              refine lv_iload hx hb d_Mod_compare_29 (lv_at hl 0 rfl) ?_
              refine lv_iconst (v := (nI 2)) hx hb d_Mod_compare_31 rfl ?_
              refine lv_icmp_ge (tgt := 164) hx hb d_Mod_compare_32 (by decide) (fun h32 => ?_) (fun h32 => ?_)
              · skip
                have h32 : 2 ≤ 1 := (nI_leI (a := 2) (b := 1) (by omega) (by omega)).mp h32
                exact absurd h32 (by decide)
              · skip
                have h32 : 1 < 2 := Nat.lt_of_not_le (fun z9 => h32 ((nI_leI (a := 2) (b := 1) (by omega) (by omega)).mpr z9))
                refine lv_iload hx hb d_Mod_compare_35 (lv_at hl 0 rfl) ?_
                refine lv_if_ne (tgt := 44) hx hb d_Mod_compare_37 (by decide) (fun h37 => ?_) (fun h37 => ?_)
                · skip
                  have h37 : ¬ 1 = 0 := fun z9 => h37 ((nI_eq (a := 1) (b := 0) (by omega) (by omega)).mpr z9)
                  refine lv_iload_n hx hb d_Mod_compare_44 rfl (lv_at hl 7 rfl) ?_
                  refine lv_istore (lv' := [(6, .int (nI jb)), (5, .int (nI 1)), (7, .int (nI (64 * ja + k))), (3, .int mb), (4, .int fb), (0, .ref (ad 43)), (1, .int (nI ja)), (2, .int (nI jb))]) hx hb d_Mod_compare_45 hl (by decide) rfl (fun ls hl => ?_)
                  refine lv_bipush (v := (nI 64)) hx hb d_Mod_compare_47 rfl ?_
                  refine lv_iload hx hb d_Mod_compare_49 (lv_at hl 0 rfl) ?_
                  refine lv_imul hx hb d_Mod_compare_51 ?_
                  refine q_topi (y := nI (64 * jb)) (pk_mul _ _) ?_
                  refine lv_istore (lv' := [(7, .int (nI (64 * jb))), (6, .int (nI jb)), (5, .int (nI 1)), (3, .int mb), (4, .int fb), (0, .ref (ad 43)), (1, .int (nI ja)), (2, .int (nI jb))]) hx hb d_Mod_compare_52 hl (by decide) rfl (fun ls hl => ?_)
                  have loop54b : ∀ (fu54b : Nat) (k : Nat) (mb fb : Int32) (H : Heap) (locs : List Loc) (ls : Array Slot), (k ≤ zb) → (zb + 1 ≤ k + fu54b) → (bX mb (∃ y, (sB (kM P N ja) za (kM P N jb) k) y ∧ F jb y < F ja y)) → (bX fb (∃ y, (sB (kM P N ja) za (kM P N jb) k) y ∧ F ja y < F jb y)) → sZ (dC, dI) vCl 52 ad (fun q => N0 ≤ q) s.heap w86 H locs → lv_has ls 12 [(7, .int (nI (64 * jb + k))), (6, .int (nI jb)), (5, .int (nI 1)), (3, .int mb), (4, .int fb), (0, .ref (ad 43)), (1, .int (nI ja)), (2, .int (nI jb))] → W p l e (headSpec ws_Mod_compare ({ frames := 2, cells := 0, slots := 0, locals := 50 } : Room)).room s m ([.ref (ad 43), .int (nI ja), .int (nI jb)]).toArray below meth c H locs 0 0 (MQ below (va_Qi (fun r u => fr w u 43 50 ∧ sM ad cI cL u (nI 0) F ∧ cmR (∃ y, F jb y < F ja y) (∃ y, F ja y < F jb y) r) (sPr (dC, dI) vCl [(cI, .int), (cL, .long), (cB, .object "CoinBag$Bag")] 52 ad N0) (fun q => N0 ≤ q)) ([.ref (ad 43), .int (nI ja), .int (nI jb)]).toArray s 0 0 (fun q => N0 ≤ q)) (F0 m 54 ls []) := by
                    intro fu54b
                    induction fu54b with
                    | zero =>
                      intro k mb fb H locs ls hk hf9 hm hw
                      omega
                    | succ fu54b ih54b =>
                      intro k mb fb H locs ls hk hf9 hm hw hZ hl
                      refine lv_iload hx hb d_Mod_compare_54 (lv_at hl 0 rfl) ?_
                      refine lv_bipush (v := (nI 64)) hx hb d_Mod_compare_56 rfl ?_
                      refine lv_iload hx hb d_Mod_compare_58 (lv_at hl 1 rfl) ?_
                      refine lv_imul hx hb d_Mod_compare_60 ?_
                      refine q_topi (y := nI (64 * jb)) (pk_mul _ _) ?_
                      refine lv_aload_n hx hb d_Mod_compare_61 rfl (lv_at hl 5 rfl) ?_
                      refine q_get (C := R_Mod) (T := T_Mod) (N := 10) hx hb hts (fun w h => gm (inT_Mod w h)) hown hK hZ (43) (by decide) hM.1 rfl 1 (by decide) (hts _ (gm k_421)) (fun _ h9 => h9) rfl d_Mod_compare_62 ?_
                      refine lv_iload hx hb d_Mod_compare_65 (lv_at hl 1 rfl) ?_
                      refine q_iald hx hb hK hZ (44) 0 (jb) (by decide) hM.2.1 rfl rfl (by omega) (by decide) d_Mod_compare_67 ?_
                      refine q_topi (y := nI zb) (hmnb) ?_
                      refine lv_iadd hx hb d_Mod_compare_68 ?_
                      refine q_topi (y := nI ((64 * jb) + zb)) (nI_add _ _) ?_
                      refine lv_icmp_ge (tgt := 158) hx hb d_Mod_compare_69 (by decide) (fun h69 => ?_) (fun h69 => ?_)
                      · skip
                        have h69 : ((64 * jb) + zb) ≤ (64 * jb + k) := (nI_leI (a := ((64 * jb) + zb)) (b := (64 * jb + k)) (by omega) (by omega)).mp h69
                        have ek : k = zb := by omega
                        rw [ek] at hm hw
                        refine lv_iinc (v := (nI (1 + 1))) (lv' := [(5, .int (nI (1 + 1))), (7, .int (nI (64 * jb + k))), (6, .int (nI jb)), (3, .int mb), (4, .int fb), (0, .ref (ad 43)), (1, .int (nI ja)), (2, .int (nI jb))]) hx hb d_Mod_compare_158 hl (k := 2) rfl (nI_1 _) (by decide) rfl (fun ls hl => ?_)
                        have hl : lv_has ls 12 [(5, .int (nI 2)), (7, .int (nI (64 * jb + k))), (6, .int (nI jb)), (3, .int mb), (4, .int fb), (0, .ref (ad 43)), (1, .int (nI ja)), (2, .int (nI jb))] := hl
                        refine lv_goto (tgt := 29) hx hb d_Mod_compare_161 (by decide) ?_
                        refine lv_iload hx hb d_Mod_compare_29 (lv_at hl 0 rfl) ?_
                        refine lv_iconst (v := (nI 2)) hx hb d_Mod_compare_31 rfl ?_
                        refine lv_icmp_ge (tgt := 164) hx hb d_Mod_compare_32 (by decide) (fun h32 => ?_) (fun h32 => ?_)
                        · skip
                          have h32 : 2 ≤ 2 := (nI_leI (a := 2) (b := 2) (by omega) (by omega)).mp h32
                          have hm := bx_end hm (fun y hy => by rw [(bo_out hRa.2.1.2 hRb.2.1.2 hy).1, (bo_out hRa.2.1.2 hRb.2.1.2 hy).2]; exact Int64.lt_irrefl)
                          have hw := bx_end hw (fun y hy => by rw [(bo_out hRa.2.1.2 hRb.2.1.2 hy).1, (bo_out hRa.2.1.2 hRb.2.1.2 hy).2]; exact Int64.lt_irrefl)
                          refine lv_iload_n hx hb d_Mod_compare_164 rfl (lv_at hl 3 rfl) ?_
                          refine lv_if_eq (tgt := 181) hx hb d_Mod_compare_165 (by decide) (fun h165 => ?_) (fun h165 => ?_)
                          · skip
                            refine lv_iload hx hb d_Mod_compare_181 (lv_at hl 4 rfl) ?_
                            refine lv_if_eq (tgt := 190) hx hb d_Mod_compare_183 (by decide) (fun h183 => ?_) (fun h183 => ?_)
                            · skip
                              refine lv_iconst (v := (nI 0)) hx hb d_Mod_compare_190 rfl ?_
                              exact q_iret hx hb hr hlocks hK hAm hZ hN (⟨hfr, ⟨_, _, _, _, _, _, _, _, _, hM, hB⟩, (by first | exact cmR_3 (bX_t hm h165) (bX_t hw h170) | exact cmR_1 (bX_t hm h165) (bX_f hw h170) | exact cmR_2 (bX_f hm h165) (bX_t hw h183) | exact cmR_0 (bX_f hm h165) (bX_f hw h183))⟩) d_Mod_compare_191
                            · skip
                              refine lv_iconst (v := (nI 2)) hx hb d_Mod_compare_186 rfl ?_
                              refine lv_goto (tgt := 191) hx hb d_Mod_compare_187 (by decide) ?_
                              exact q_iret hx hb hr hlocks hK hAm hZ hN (⟨hfr, ⟨_, _, _, _, _, _, _, _, _, hM, hB⟩, (by first | exact cmR_3 (bX_t hm h165) (bX_t hw h170) | exact cmR_1 (bX_t hm h165) (bX_f hw h170) | exact cmR_2 (bX_f hm h165) (bX_t hw h183) | exact cmR_0 (bX_f hm h165) (bX_f hw h183))⟩) d_Mod_compare_191
                          · skip
                            refine lv_iload hx hb d_Mod_compare_168 (lv_at hl 4 rfl) ?_
                            refine lv_if_eq (tgt := 177) hx hb d_Mod_compare_170 (by decide) (fun h170 => ?_) (fun h170 => ?_)
                            · skip
                              refine lv_iconst (v := (nI 1)) hx hb d_Mod_compare_177 rfl ?_
                              refine lv_goto (tgt := 191) hx hb d_Mod_compare_178 (by decide) ?_
                              exact q_iret hx hb hr hlocks hK hAm hZ hN (⟨hfr, ⟨_, _, _, _, _, _, _, _, _, hM, hB⟩, (by first | exact cmR_3 (bX_t hm h165) (bX_t hw h170) | exact cmR_1 (bX_t hm h165) (bX_f hw h170) | exact cmR_2 (bX_f hm h165) (bX_t hw h183) | exact cmR_0 (bX_f hm h165) (bX_f hw h183))⟩) d_Mod_compare_191
                            · skip
                              refine lv_iconst (v := (nI 3)) hx hb d_Mod_compare_173 rfl ?_
                              refine lv_goto (tgt := 191) hx hb d_Mod_compare_174 (by decide) ?_
                              exact q_iret hx hb hr hlocks hK hAm hZ hN (⟨hfr, ⟨_, _, _, _, _, _, _, _, _, hM, hB⟩, (by first | exact cmR_3 (bX_t hm h165) (bX_t hw h170) | exact cmR_1 (bX_t hm h165) (bX_f hw h170) | exact cmR_2 (bX_f hm h165) (bX_t hw h183) | exact cmR_0 (bX_f hm h165) (bX_f hw h183))⟩) d_Mod_compare_191
                        · skip
                          have h32 : 2 < 2 := Nat.lt_of_not_le (fun z9 => h32 ((nI_leI (a := 2) (b := 2) (by omega) (by omega)).mpr z9))
                          exact absurd h32 (by decide)
                      · skip
                        have h69 : (64 * jb + k) < ((64 * jb) + zb) := Nat.lt_of_not_le (fun z9 => h69 ((nI_leI (a := ((64 * jb) + zb)) (b := (64 * jb + k)) (by omega) (by omega)).mpr z9))
                        refine lv_aload_n hx hb d_Mod_compare_72 rfl (lv_at hl 5 rfl) ?_
                        refine lv_iload_n hx hb d_Mod_compare_73 rfl (lv_at hl 6 rfl) ?_
                        refine lv_aload_n hx hb d_Mod_compare_74 rfl (lv_at hl 5 rfl) ?_
                        refine q_get (C := R_Mod) (T := T_Mod) (N := 10) hx hb hts (fun w h => gm (inT_Mod w h)) hown hK hZ (43) (by decide) hM.1 rfl 2 (by decide) (hts _ (gm k_422)) (fun _ h9 => h9) rfl d_Mod_compare_75 ?_
                        refine lv_iload hx hb d_Mod_compare_78 (lv_at hl 0 rfl) ?_
                        refine q_iald hx hb hK hZ (45) 0 ((64 * jb + k)) (by decide) hM.2.2.1 rfl rfl (by omega) (by decide) d_Mod_compare_80 ?_
                        refine lv_aload_n hx hb d_Mod_compare_81 rfl (lv_at hl 5 rfl) ?_
                        refine q_get (C := R_Mod) (T := T_Mod) (N := 10) hx hb hts (fun w h => gm (inT_Mod w h)) hown hK hZ (43) (by decide) hM.1 rfl 3 (by decide) (hts _ (gm k_423)) (fun _ h9 => h9) rfl d_Mod_compare_82 ?_
                        refine lv_iload hx hb d_Mod_compare_85 (lv_at hl 0 rfl) ?_
                        refine q_lald hx hb hK hZ (46) 1 ((64 * jb + k)) (by decide) hM.2.2.2.1 rfl rfl (by omega) (by decide) d_Mod_compare_87 ?_
                        refine q_calll (va_runV (As := [.int (nI ja), .int (P (64 * jb + k)), .long (N (64 * jb + k))]) (rest := []) ⟨hx, hb, hml, hown, hts⟩ (c_Mod_valueOf l dC dI cI cL cB ad N0 w86 (nI 0) mn P N A rm rP rN rA bd ja za (F ja) (P (64 * jb + k)) (N (64 * jb + k)) hM hja hza hmna hRa) (cwV 3 hts (gI_V k_485 k_482 k_484 k_10 k_24) rfl rfl rfl (by decide +kernel) ⟨Nat.le_of_ble_eq_true rfl, Nat.le_of_ble_eq_true rfl⟩) (q_preV hK hAm hZ hN [.int (nI ja), .int (P (64 * jb + k)), .long (N (64 * jb + k))] (43) 3 (by decide) hM.1 rfl) rfl rfl hl.1 rfl (lv_room (Nat.le_of_ble_eq_true rfl)) d_Mod_compare_88 ⟨Nat.zero_le _, Nat.zero_le _⟩) hZ (fun t9 u_t9 H locs h_t9 hZ => ?_)
                        obtain ⟨e_t9, h_t9⟩ := h_t9
                        rw [e_t9] at hZ
                        refine q_topl (y := F ja (kM P N jb k)) h_t9 ?_
                        refine lv_lstore (lv' := [(8, .long (F ja (kM P N jb k))), (7, .int (nI (64 * jb + k))), (6, .int (nI jb)), (5, .int (nI 1)), (3, .int mb), (4, .int fb), (0, .ref (ad 43)), (1, .int (nI ja)), (2, .int (nI jb))]) hx hb d_Mod_compare_91 hl (by decide) rfl (fun ls hl => ?_)
                        refine lv_aload_n hx hb d_Mod_compare_93 rfl (lv_at hl 6 rfl) ?_
                        refine lv_iload_n hx hb d_Mod_compare_94 rfl (lv_at hl 8 rfl) ?_
                        refine lv_aload_n hx hb d_Mod_compare_95 rfl (lv_at hl 6 rfl) ?_
                        refine q_get (C := R_Mod) (T := T_Mod) (N := 10) hx hb hts (fun w h => gm (inT_Mod w h)) hown hK hZ (43) (by decide) hM.1 rfl 2 (by decide) (hts _ (gm k_422)) (fun _ h9 => h9) rfl d_Mod_compare_96 ?_
                        refine lv_iload hx hb d_Mod_compare_99 (lv_at hl 1 rfl) ?_
                        refine q_iald hx hb hK hZ (45) 0 ((64 * jb + k)) (by decide) hM.2.2.1 rfl rfl (by omega) (by decide) d_Mod_compare_101 ?_
                        refine lv_aload_n hx hb d_Mod_compare_102 rfl (lv_at hl 6 rfl) ?_
                        refine q_get (C := R_Mod) (T := T_Mod) (N := 10) hx hb hts (fun w h => gm (inT_Mod w h)) hown hK hZ (43) (by decide) hM.1 rfl 3 (by decide) (hts _ (gm k_423)) (fun _ h9 => h9) rfl d_Mod_compare_103 ?_
                        refine lv_iload hx hb d_Mod_compare_106 (lv_at hl 1 rfl) ?_
                        refine q_lald hx hb hK hZ (46) 1 ((64 * jb + k)) (by decide) hM.2.2.2.1 rfl rfl (by omega) (by decide) d_Mod_compare_108 ?_
                        refine q_calll (va_runV (As := [.int (nI jb), .int (P (64 * jb + k)), .long (N (64 * jb + k))]) (rest := []) ⟨hx, hb, hml, hown, hts⟩ (c_Mod_valueOf l dC dI cI cL cB ad N0 w86 (nI 0) mn P N A rm rP rN rA bd jb zb (F jb) (P (64 * jb + k)) (N (64 * jb + k)) hM hjb hzb hmnb hRb) (cwV 3 hts (gI_V k_485 k_482 k_484 k_10 k_24) rfl rfl rfl (by decide +kernel) ⟨Nat.le_of_ble_eq_true rfl, Nat.le_of_ble_eq_true rfl⟩) (q_preV hK hAm hZ hN [.int (nI jb), .int (P (64 * jb + k)), .long (N (64 * jb + k))] (43) 3 (by decide) hM.1 rfl) rfl rfl hl.1 rfl (lv_room (Nat.le_of_ble_eq_true rfl)) d_Mod_compare_109 ⟨Nat.zero_le _, Nat.zero_le _⟩) hZ (fun t9 u_t9 H locs h_t9 hZ => ?_)
                        obtain ⟨e_t9, h_t9⟩ := h_t9
                        rw [e_t9] at hZ
                        refine q_topl (y := F jb (kM P N jb k)) h_t9 ?_
                        refine lv_lstore (lv' := [(10, .long (F jb (kM P N jb k))), (8, .long (F ja (kM P N jb k))), (7, .int (nI (64 * jb + k))), (6, .int (nI jb)), (5, .int (nI 1)), (3, .int mb), (4, .int fb), (0, .ref (ad 43)), (1, .int (nI ja)), (2, .int (nI jb))]) hx hb d_Mod_compare_112 hl (by decide) rfl (fun ls hl => ?_)
                        refine lv_iload_n hx hb d_Mod_compare_114 rfl (lv_at hl 5 rfl) ?_
                        refine lv_if_ne (tgt := 126) hx hb d_Mod_compare_115 (by decide) (fun h115 => ?_) (fun h115 => ?_)
                        · skip
                          refine lv_iconst (v := (nI 1)) hx hb d_Mod_compare_126 rfl ?_
                          refine lv_goto (tgt := 131) hx hb d_Mod_compare_127 (by decide) ?_
                          refine lv_istore_n (lv' := [(3, .int (nI 1)), (10, .long (F jb (kM P N jb k))), (8, .long (F ja (kM P N jb k))), (7, .int (nI (64 * jb + k))), (6, .int (nI jb)), (5, .int (nI 1)), (4, .int fb), (0, .ref (ad 43)), (1, .int (nI ja)), (2, .int (nI jb))]) hx hb d_Mod_compare_131 rfl hl (by decide) rfl (fun ls hl => ?_)
                          refine lv_iload hx hb d_Mod_compare_132 (lv_at hl 6 rfl) ?_
                          refine lv_if_ne (tgt := 145) hx hb d_Mod_compare_134 (by decide) (fun h134 => ?_) (fun h134 => ?_)
                          · skip
                            refine lv_iconst (v := (nI 1)) hx hb d_Mod_compare_145 rfl ?_
                            refine lv_goto (tgt := 150) hx hb d_Mod_compare_146 (by decide) ?_
                            refine lv_istore (lv' := [(4, .int (nI 1)), (3, .int (nI 1)), (10, .long (F jb (kM P N jb k))), (8, .long (F ja (kM P N jb k))), (7, .int (nI (64 * jb + k))), (6, .int (nI jb)), (5, .int (nI 1)), (0, .ref (ad 43)), (1, .int (nI ja)), (2, .int (nI jb))]) hx hb d_Mod_compare_150 hl (by decide) rfl (fun ls hl => ?_)
                            refine lv_iinc (v := (nI ((64 * jb + k) + 1))) (lv' := [(7, .int (nI ((64 * jb + k) + 1))), (4, .int (nI 1)), (3, .int (nI 1)), (10, .long (F jb (kM P N jb k))), (8, .long (F ja (kM P N jb k))), (6, .int (nI jb)), (5, .int (nI 1)), (0, .ref (ad 43)), (1, .int (nI ja)), (2, .int (nI jb))]) hx hb d_Mod_compare_152 hl (k := 4) rfl (nI_1 _) (by decide) rfl (fun ls hl => ?_)
                            refine lv_goto (tgt := 54) hx hb d_Mod_compare_155 (by decide) ?_
                            exact ih54b (k + 1) (nI 1) (nI 1) _ _ _ (by omega) (by omega) (by first | exact bx_1 hm h115 (sB_s (b := kM P N jb)) | exact bx_2 (Q := fun y => F jb y < F ja y) (Int64.not_le.mp h123) (sB_s (b := kM P N jb)) | exact bx_3 (Q := fun y => F jb y < F ja y) hm h115 (Int64.not_lt.mpr h123) (sB_s (b := kM P N jb))) (by first | exact bx_1 hw h134 (sB_s (b := kM P N jb)) | exact bx_2 (Q := fun y => F ja y < F jb y) (Int64.not_le.mp h142) (sB_s (b := kM P N jb)) | exact bx_3 (Q := fun y => F ja y < F jb y) hw h134 (Int64.not_lt.mpr h142) (sB_s (b := kM P N jb))) hZ (lv_sub hl [0, 5, 6, 2, 1, 7, 8, 9] rfl)
                          · skip
                            refine lv_lload hx hb d_Mod_compare_137 (lv_at hl 2 rfl) ?_
                            refine lv_lload hx hb d_Mod_compare_139 (lv_at hl 1 rfl) ?_
                            refine W.lcmp hx hb d_Mod_compare_141 ?_
                            refine lv_if_ge (tgt := 149) hx hb d_Mod_compare_142 (by decide) (fun h142 => ?_) (fun h142 => ?_)
                            · skip
                              rw [lg_cmp_ge] at h142
                              refine lv_iconst (v := (nI 0)) hx hb d_Mod_compare_149 rfl ?_
                              refine lv_istore (lv' := [(4, .int (nI 0)), (3, .int (nI 1)), (10, .long (F jb (kM P N jb k))), (8, .long (F ja (kM P N jb k))), (7, .int (nI (64 * jb + k))), (6, .int (nI jb)), (5, .int (nI 1)), (0, .ref (ad 43)), (1, .int (nI ja)), (2, .int (nI jb))]) hx hb d_Mod_compare_150 hl (by decide) rfl (fun ls hl => ?_)
                              refine lv_iinc (v := (nI ((64 * jb + k) + 1))) (lv' := [(7, .int (nI ((64 * jb + k) + 1))), (4, .int (nI 0)), (3, .int (nI 1)), (10, .long (F jb (kM P N jb k))), (8, .long (F ja (kM P N jb k))), (6, .int (nI jb)), (5, .int (nI 1)), (0, .ref (ad 43)), (1, .int (nI ja)), (2, .int (nI jb))]) hx hb d_Mod_compare_152 hl (k := 4) rfl (nI_1 _) (by decide) rfl (fun ls hl => ?_)
                              refine lv_goto (tgt := 54) hx hb d_Mod_compare_155 (by decide) ?_
                              exact ih54b (k + 1) (nI 1) (nI 0) _ _ _ (by omega) (by omega) (by first | exact bx_1 hm h115 (sB_s (b := kM P N jb)) | exact bx_2 (Q := fun y => F jb y < F ja y) (Int64.not_le.mp h123) (sB_s (b := kM P N jb)) | exact bx_3 (Q := fun y => F jb y < F ja y) hm h115 (Int64.not_lt.mpr h123) (sB_s (b := kM P N jb))) (by first | exact bx_1 hw h134 (sB_s (b := kM P N jb)) | exact bx_2 (Q := fun y => F ja y < F jb y) (Int64.not_le.mp h142) (sB_s (b := kM P N jb)) | exact bx_3 (Q := fun y => F ja y < F jb y) hw h134 (Int64.not_lt.mpr h142) (sB_s (b := kM P N jb))) hZ (lv_sub hl [0, 5, 6, 2, 1, 7, 8, 9] rfl)
                            · skip
                              rw [lg_cmp_ge] at h142
                              refine lv_iconst (v := (nI 1)) hx hb d_Mod_compare_145 rfl ?_
                              refine lv_goto (tgt := 150) hx hb d_Mod_compare_146 (by decide) ?_
                              refine lv_istore (lv' := [(4, .int (nI 1)), (3, .int (nI 1)), (10, .long (F jb (kM P N jb k))), (8, .long (F ja (kM P N jb k))), (7, .int (nI (64 * jb + k))), (6, .int (nI jb)), (5, .int (nI 1)), (0, .ref (ad 43)), (1, .int (nI ja)), (2, .int (nI jb))]) hx hb d_Mod_compare_150 hl (by decide) rfl (fun ls hl => ?_)
                              refine lv_iinc (v := (nI ((64 * jb + k) + 1))) (lv' := [(7, .int (nI ((64 * jb + k) + 1))), (4, .int (nI 1)), (3, .int (nI 1)), (10, .long (F jb (kM P N jb k))), (8, .long (F ja (kM P N jb k))), (6, .int (nI jb)), (5, .int (nI 1)), (0, .ref (ad 43)), (1, .int (nI ja)), (2, .int (nI jb))]) hx hb d_Mod_compare_152 hl (k := 4) rfl (nI_1 _) (by decide) rfl (fun ls hl => ?_)
                              refine lv_goto (tgt := 54) hx hb d_Mod_compare_155 (by decide) ?_
                              exact ih54b (k + 1) (nI 1) (nI 1) _ _ _ (by omega) (by omega) (by first | exact bx_1 hm h115 (sB_s (b := kM P N jb)) | exact bx_2 (Q := fun y => F jb y < F ja y) (Int64.not_le.mp h123) (sB_s (b := kM P N jb)) | exact bx_3 (Q := fun y => F jb y < F ja y) hm h115 (Int64.not_lt.mpr h123) (sB_s (b := kM P N jb))) (by first | exact bx_1 hw h134 (sB_s (b := kM P N jb)) | exact bx_2 (Q := fun y => F ja y < F jb y) (Int64.not_le.mp h142) (sB_s (b := kM P N jb)) | exact bx_3 (Q := fun y => F ja y < F jb y) hw h134 (Int64.not_lt.mpr h142) (sB_s (b := kM P N jb))) hZ (lv_sub hl [0, 5, 6, 2, 1, 7, 8, 9] rfl)
                        · skip
                          refine lv_lload hx hb d_Mod_compare_118 (lv_at hl 1 rfl) ?_
                          refine lv_lload hx hb d_Mod_compare_120 (lv_at hl 0 rfl) ?_
                          refine W.lcmp hx hb d_Mod_compare_122 ?_
                          refine lv_if_le (tgt := 130) hx hb d_Mod_compare_123 (by decide) (fun h123 => ?_) (fun h123 => ?_)
                          · skip
                            rw [lg_cmp_le] at h123
                            refine lv_iconst (v := (nI 0)) hx hb d_Mod_compare_130 rfl ?_
                            refine lv_istore_n (lv' := [(3, .int (nI 0)), (10, .long (F jb (kM P N jb k))), (8, .long (F ja (kM P N jb k))), (7, .int (nI (64 * jb + k))), (6, .int (nI jb)), (5, .int (nI 1)), (4, .int fb), (0, .ref (ad 43)), (1, .int (nI ja)), (2, .int (nI jb))]) hx hb d_Mod_compare_131 rfl hl (by decide) rfl (fun ls hl => ?_)
                            refine lv_iload hx hb d_Mod_compare_132 (lv_at hl 6 rfl) ?_
                            refine lv_if_ne (tgt := 145) hx hb d_Mod_compare_134 (by decide) (fun h134 => ?_) (fun h134 => ?_)
                            · skip
                              refine lv_iconst (v := (nI 1)) hx hb d_Mod_compare_145 rfl ?_
                              refine lv_goto (tgt := 150) hx hb d_Mod_compare_146 (by decide) ?_
                              refine lv_istore (lv' := [(4, .int (nI 1)), (3, .int (nI 0)), (10, .long (F jb (kM P N jb k))), (8, .long (F ja (kM P N jb k))), (7, .int (nI (64 * jb + k))), (6, .int (nI jb)), (5, .int (nI 1)), (0, .ref (ad 43)), (1, .int (nI ja)), (2, .int (nI jb))]) hx hb d_Mod_compare_150 hl (by decide) rfl (fun ls hl => ?_)
                              refine lv_iinc (v := (nI ((64 * jb + k) + 1))) (lv' := [(7, .int (nI ((64 * jb + k) + 1))), (4, .int (nI 1)), (3, .int (nI 0)), (10, .long (F jb (kM P N jb k))), (8, .long (F ja (kM P N jb k))), (6, .int (nI jb)), (5, .int (nI 1)), (0, .ref (ad 43)), (1, .int (nI ja)), (2, .int (nI jb))]) hx hb d_Mod_compare_152 hl (k := 4) rfl (nI_1 _) (by decide) rfl (fun ls hl => ?_)
                              refine lv_goto (tgt := 54) hx hb d_Mod_compare_155 (by decide) ?_
                              exact ih54b (k + 1) (nI 0) (nI 1) _ _ _ (by omega) (by omega) (by first | exact bx_1 hm h115 (sB_s (b := kM P N jb)) | exact bx_2 (Q := fun y => F jb y < F ja y) (Int64.not_le.mp h123) (sB_s (b := kM P N jb)) | exact bx_3 (Q := fun y => F jb y < F ja y) hm h115 (Int64.not_lt.mpr h123) (sB_s (b := kM P N jb))) (by first | exact bx_1 hw h134 (sB_s (b := kM P N jb)) | exact bx_2 (Q := fun y => F ja y < F jb y) (Int64.not_le.mp h142) (sB_s (b := kM P N jb)) | exact bx_3 (Q := fun y => F ja y < F jb y) hw h134 (Int64.not_lt.mpr h142) (sB_s (b := kM P N jb))) hZ (lv_sub hl [0, 5, 6, 2, 1, 7, 8, 9] rfl)
                            · skip
                              refine lv_lload hx hb d_Mod_compare_137 (lv_at hl 2 rfl) ?_
                              refine lv_lload hx hb d_Mod_compare_139 (lv_at hl 1 rfl) ?_
                              refine W.lcmp hx hb d_Mod_compare_141 ?_
                              refine lv_if_ge (tgt := 149) hx hb d_Mod_compare_142 (by decide) (fun h142 => ?_) (fun h142 => ?_)
                              · skip
                                rw [lg_cmp_ge] at h142
                                refine lv_iconst (v := (nI 0)) hx hb d_Mod_compare_149 rfl ?_
                                refine lv_istore (lv' := [(4, .int (nI 0)), (3, .int (nI 0)), (10, .long (F jb (kM P N jb k))), (8, .long (F ja (kM P N jb k))), (7, .int (nI (64 * jb + k))), (6, .int (nI jb)), (5, .int (nI 1)), (0, .ref (ad 43)), (1, .int (nI ja)), (2, .int (nI jb))]) hx hb d_Mod_compare_150 hl (by decide) rfl (fun ls hl => ?_)
                                refine lv_iinc (v := (nI ((64 * jb + k) + 1))) (lv' := [(7, .int (nI ((64 * jb + k) + 1))), (4, .int (nI 0)), (3, .int (nI 0)), (10, .long (F jb (kM P N jb k))), (8, .long (F ja (kM P N jb k))), (6, .int (nI jb)), (5, .int (nI 1)), (0, .ref (ad 43)), (1, .int (nI ja)), (2, .int (nI jb))]) hx hb d_Mod_compare_152 hl (k := 4) rfl (nI_1 _) (by decide) rfl (fun ls hl => ?_)
                                refine lv_goto (tgt := 54) hx hb d_Mod_compare_155 (by decide) ?_
                                exact ih54b (k + 1) (nI 0) (nI 0) _ _ _ (by omega) (by omega) (by first | exact bx_1 hm h115 (sB_s (b := kM P N jb)) | exact bx_2 (Q := fun y => F jb y < F ja y) (Int64.not_le.mp h123) (sB_s (b := kM P N jb)) | exact bx_3 (Q := fun y => F jb y < F ja y) hm h115 (Int64.not_lt.mpr h123) (sB_s (b := kM P N jb))) (by first | exact bx_1 hw h134 (sB_s (b := kM P N jb)) | exact bx_2 (Q := fun y => F ja y < F jb y) (Int64.not_le.mp h142) (sB_s (b := kM P N jb)) | exact bx_3 (Q := fun y => F ja y < F jb y) hw h134 (Int64.not_lt.mpr h142) (sB_s (b := kM P N jb))) hZ (lv_sub hl [0, 5, 6, 2, 1, 7, 8, 9] rfl)
                              · skip
                                rw [lg_cmp_ge] at h142
                                refine lv_iconst (v := (nI 1)) hx hb d_Mod_compare_145 rfl ?_
                                refine lv_goto (tgt := 150) hx hb d_Mod_compare_146 (by decide) ?_
                                refine lv_istore (lv' := [(4, .int (nI 1)), (3, .int (nI 0)), (10, .long (F jb (kM P N jb k))), (8, .long (F ja (kM P N jb k))), (7, .int (nI (64 * jb + k))), (6, .int (nI jb)), (5, .int (nI 1)), (0, .ref (ad 43)), (1, .int (nI ja)), (2, .int (nI jb))]) hx hb d_Mod_compare_150 hl (by decide) rfl (fun ls hl => ?_)
                                refine lv_iinc (v := (nI ((64 * jb + k) + 1))) (lv' := [(7, .int (nI ((64 * jb + k) + 1))), (4, .int (nI 1)), (3, .int (nI 0)), (10, .long (F jb (kM P N jb k))), (8, .long (F ja (kM P N jb k))), (6, .int (nI jb)), (5, .int (nI 1)), (0, .ref (ad 43)), (1, .int (nI ja)), (2, .int (nI jb))]) hx hb d_Mod_compare_152 hl (k := 4) rfl (nI_1 _) (by decide) rfl (fun ls hl => ?_)
                                refine lv_goto (tgt := 54) hx hb d_Mod_compare_155 (by decide) ?_
                                exact ih54b (k + 1) (nI 0) (nI 1) _ _ _ (by omega) (by omega) (by first | exact bx_1 hm h115 (sB_s (b := kM P N jb)) | exact bx_2 (Q := fun y => F jb y < F ja y) (Int64.not_le.mp h123) (sB_s (b := kM P N jb)) | exact bx_3 (Q := fun y => F jb y < F ja y) hm h115 (Int64.not_lt.mpr h123) (sB_s (b := kM P N jb))) (by first | exact bx_1 hw h134 (sB_s (b := kM P N jb)) | exact bx_2 (Q := fun y => F ja y < F jb y) (Int64.not_le.mp h142) (sB_s (b := kM P N jb)) | exact bx_3 (Q := fun y => F ja y < F jb y) hw h134 (Int64.not_lt.mpr h142) (sB_s (b := kM P N jb))) hZ (lv_sub hl [0, 5, 6, 2, 1, 7, 8, 9] rfl)
                          · skip
                            rw [lg_cmp_le] at h123
                            refine lv_iconst (v := (nI 1)) hx hb d_Mod_compare_126 rfl ?_
                            refine lv_goto (tgt := 131) hx hb d_Mod_compare_127 (by decide) ?_
                            refine lv_istore_n (lv' := [(3, .int (nI 1)), (10, .long (F jb (kM P N jb k))), (8, .long (F ja (kM P N jb k))), (7, .int (nI (64 * jb + k))), (6, .int (nI jb)), (5, .int (nI 1)), (4, .int fb), (0, .ref (ad 43)), (1, .int (nI ja)), (2, .int (nI jb))]) hx hb d_Mod_compare_131 rfl hl (by decide) rfl (fun ls hl => ?_)
                            refine lv_iload hx hb d_Mod_compare_132 (lv_at hl 6 rfl) ?_
                            refine lv_if_ne (tgt := 145) hx hb d_Mod_compare_134 (by decide) (fun h134 => ?_) (fun h134 => ?_)
                            · skip
                              refine lv_iconst (v := (nI 1)) hx hb d_Mod_compare_145 rfl ?_
                              refine lv_goto (tgt := 150) hx hb d_Mod_compare_146 (by decide) ?_
                              refine lv_istore (lv' := [(4, .int (nI 1)), (3, .int (nI 1)), (10, .long (F jb (kM P N jb k))), (8, .long (F ja (kM P N jb k))), (7, .int (nI (64 * jb + k))), (6, .int (nI jb)), (5, .int (nI 1)), (0, .ref (ad 43)), (1, .int (nI ja)), (2, .int (nI jb))]) hx hb d_Mod_compare_150 hl (by decide) rfl (fun ls hl => ?_)
                              refine lv_iinc (v := (nI ((64 * jb + k) + 1))) (lv' := [(7, .int (nI ((64 * jb + k) + 1))), (4, .int (nI 1)), (3, .int (nI 1)), (10, .long (F jb (kM P N jb k))), (8, .long (F ja (kM P N jb k))), (6, .int (nI jb)), (5, .int (nI 1)), (0, .ref (ad 43)), (1, .int (nI ja)), (2, .int (nI jb))]) hx hb d_Mod_compare_152 hl (k := 4) rfl (nI_1 _) (by decide) rfl (fun ls hl => ?_)
                              refine lv_goto (tgt := 54) hx hb d_Mod_compare_155 (by decide) ?_
                              exact ih54b (k + 1) (nI 1) (nI 1) _ _ _ (by omega) (by omega) (by first | exact bx_1 hm h115 (sB_s (b := kM P N jb)) | exact bx_2 (Q := fun y => F jb y < F ja y) (Int64.not_le.mp h123) (sB_s (b := kM P N jb)) | exact bx_3 (Q := fun y => F jb y < F ja y) hm h115 (Int64.not_lt.mpr h123) (sB_s (b := kM P N jb))) (by first | exact bx_1 hw h134 (sB_s (b := kM P N jb)) | exact bx_2 (Q := fun y => F ja y < F jb y) (Int64.not_le.mp h142) (sB_s (b := kM P N jb)) | exact bx_3 (Q := fun y => F ja y < F jb y) hw h134 (Int64.not_lt.mpr h142) (sB_s (b := kM P N jb))) hZ (lv_sub hl [0, 5, 6, 2, 1, 7, 8, 9] rfl)
                            · skip
                              refine lv_lload hx hb d_Mod_compare_137 (lv_at hl 2 rfl) ?_
                              refine lv_lload hx hb d_Mod_compare_139 (lv_at hl 1 rfl) ?_
                              refine W.lcmp hx hb d_Mod_compare_141 ?_
                              refine lv_if_ge (tgt := 149) hx hb d_Mod_compare_142 (by decide) (fun h142 => ?_) (fun h142 => ?_)
                              · skip
                                rw [lg_cmp_ge] at h142
                                refine lv_iconst (v := (nI 0)) hx hb d_Mod_compare_149 rfl ?_
                                refine lv_istore (lv' := [(4, .int (nI 0)), (3, .int (nI 1)), (10, .long (F jb (kM P N jb k))), (8, .long (F ja (kM P N jb k))), (7, .int (nI (64 * jb + k))), (6, .int (nI jb)), (5, .int (nI 1)), (0, .ref (ad 43)), (1, .int (nI ja)), (2, .int (nI jb))]) hx hb d_Mod_compare_150 hl (by decide) rfl (fun ls hl => ?_)
                                refine lv_iinc (v := (nI ((64 * jb + k) + 1))) (lv' := [(7, .int (nI ((64 * jb + k) + 1))), (4, .int (nI 0)), (3, .int (nI 1)), (10, .long (F jb (kM P N jb k))), (8, .long (F ja (kM P N jb k))), (6, .int (nI jb)), (5, .int (nI 1)), (0, .ref (ad 43)), (1, .int (nI ja)), (2, .int (nI jb))]) hx hb d_Mod_compare_152 hl (k := 4) rfl (nI_1 _) (by decide) rfl (fun ls hl => ?_)
                                refine lv_goto (tgt := 54) hx hb d_Mod_compare_155 (by decide) ?_
                                exact ih54b (k + 1) (nI 1) (nI 0) _ _ _ (by omega) (by omega) (by first | exact bx_1 hm h115 (sB_s (b := kM P N jb)) | exact bx_2 (Q := fun y => F jb y < F ja y) (Int64.not_le.mp h123) (sB_s (b := kM P N jb)) | exact bx_3 (Q := fun y => F jb y < F ja y) hm h115 (Int64.not_lt.mpr h123) (sB_s (b := kM P N jb))) (by first | exact bx_1 hw h134 (sB_s (b := kM P N jb)) | exact bx_2 (Q := fun y => F ja y < F jb y) (Int64.not_le.mp h142) (sB_s (b := kM P N jb)) | exact bx_3 (Q := fun y => F ja y < F jb y) hw h134 (Int64.not_lt.mpr h142) (sB_s (b := kM P N jb))) hZ (lv_sub hl [0, 5, 6, 2, 1, 7, 8, 9] rfl)
                              · skip
                                rw [lg_cmp_ge] at h142
                                refine lv_iconst (v := (nI 1)) hx hb d_Mod_compare_145 rfl ?_
                                refine lv_goto (tgt := 150) hx hb d_Mod_compare_146 (by decide) ?_
                                refine lv_istore (lv' := [(4, .int (nI 1)), (3, .int (nI 1)), (10, .long (F jb (kM P N jb k))), (8, .long (F ja (kM P N jb k))), (7, .int (nI (64 * jb + k))), (6, .int (nI jb)), (5, .int (nI 1)), (0, .ref (ad 43)), (1, .int (nI ja)), (2, .int (nI jb))]) hx hb d_Mod_compare_150 hl (by decide) rfl (fun ls hl => ?_)
                                refine lv_iinc (v := (nI ((64 * jb + k) + 1))) (lv' := [(7, .int (nI ((64 * jb + k) + 1))), (4, .int (nI 1)), (3, .int (nI 1)), (10, .long (F jb (kM P N jb k))), (8, .long (F ja (kM P N jb k))), (6, .int (nI jb)), (5, .int (nI 1)), (0, .ref (ad 43)), (1, .int (nI ja)), (2, .int (nI jb))]) hx hb d_Mod_compare_152 hl (k := 4) rfl (nI_1 _) (by decide) rfl (fun ls hl => ?_)
                                refine lv_goto (tgt := 54) hx hb d_Mod_compare_155 (by decide) ?_
                                exact ih54b (k + 1) (nI 1) (nI 1) _ _ _ (by omega) (by omega) (by first | exact bx_1 hm h115 (sB_s (b := kM P N jb)) | exact bx_2 (Q := fun y => F jb y < F ja y) (Int64.not_le.mp h123) (sB_s (b := kM P N jb)) | exact bx_3 (Q := fun y => F jb y < F ja y) hm h115 (Int64.not_lt.mpr h123) (sB_s (b := kM P N jb))) (by first | exact bx_1 hw h134 (sB_s (b := kM P N jb)) | exact bx_2 (Q := fun y => F ja y < F jb y) (Int64.not_le.mp h142) (sB_s (b := kM P N jb)) | exact bx_3 (Q := fun y => F ja y < F jb y) hw h134 (Int64.not_lt.mpr h142) (sB_s (b := kM P N jb))) hZ (lv_sub hl [0, 5, 6, 2, 1, 7, 8, 9] rfl)
                  exact loop54b (zb + 1) 0 mb fb _ _ _ (Nat.zero_le zb) (by omega) (bx_k hm sB_0) (bx_k hw sB_0) hZ (lv_sub hl [0, 1, 2, 3, 4, 5, 6, 7] rfl)
                · skip
                  have h37 : 1 = 0 := (nI_eq (a := 1) (b := 0) (by omega) (by omega)).mp h37
                  exact absurd h37 (by decide)
            · skip
              have h69 : (64 * ja + k) < ((64 * ja) + za) := Nat.lt_of_not_le (fun z9 => h69 ((nI_leI (a := ((64 * ja) + za)) (b := (64 * ja + k)) (by omega) (by omega)).mpr z9))
              refine lv_aload_n hx hb d_Mod_compare_72 rfl (lv_at hl 5 rfl) ?_
              refine lv_iload_n hx hb d_Mod_compare_73 rfl (lv_at hl 6 rfl) ?_
              refine lv_aload_n hx hb d_Mod_compare_74 rfl (lv_at hl 5 rfl) ?_
              refine q_get (C := R_Mod) (T := T_Mod) (N := 10) hx hb hts (fun w h => gm (inT_Mod w h)) hown hK hZ (43) (by decide) hM.1 rfl 2 (by decide) (hts _ (gm k_422)) (fun _ h9 => h9) rfl d_Mod_compare_75 ?_
              refine lv_iload hx hb d_Mod_compare_78 (lv_at hl 0 rfl) ?_
              refine q_iald hx hb hK hZ (45) 0 ((64 * ja + k)) (by decide) hM.2.2.1 rfl rfl (by omega) (by decide) d_Mod_compare_80 ?_
              refine lv_aload_n hx hb d_Mod_compare_81 rfl (lv_at hl 5 rfl) ?_
              refine q_get (C := R_Mod) (T := T_Mod) (N := 10) hx hb hts (fun w h => gm (inT_Mod w h)) hown hK hZ (43) (by decide) hM.1 rfl 3 (by decide) (hts _ (gm k_423)) (fun _ h9 => h9) rfl d_Mod_compare_82 ?_
              refine lv_iload hx hb d_Mod_compare_85 (lv_at hl 0 rfl) ?_
              refine q_lald hx hb hK hZ (46) 1 ((64 * ja + k)) (by decide) hM.2.2.2.1 rfl rfl (by omega) (by decide) d_Mod_compare_87 ?_
              refine q_calll (va_runV (As := [.int (nI ja), .int (P (64 * ja + k)), .long (N (64 * ja + k))]) (rest := []) ⟨hx, hb, hml, hown, hts⟩ (c_Mod_valueOf l dC dI cI cL cB ad N0 w86 (nI 0) mn P N A rm rP rN rA bd ja za (F ja) (P (64 * ja + k)) (N (64 * ja + k)) hM hja hza hmna hRa) (cwV 3 hts (gI_V k_485 k_482 k_484 k_10 k_24) rfl rfl rfl (by decide +kernel) ⟨Nat.le_of_ble_eq_true rfl, Nat.le_of_ble_eq_true rfl⟩) (q_preV hK hAm hZ hN [.int (nI ja), .int (P (64 * ja + k)), .long (N (64 * ja + k))] (43) 3 (by decide) hM.1 rfl) rfl rfl hl.1 rfl (lv_room (Nat.le_of_ble_eq_true rfl)) d_Mod_compare_88 ⟨Nat.zero_le _, Nat.zero_le _⟩) hZ (fun t9 u_t9 H locs h_t9 hZ => ?_)
              obtain ⟨e_t9, h_t9⟩ := h_t9
              rw [e_t9] at hZ
              refine q_topl (y := F ja (kM P N ja k)) h_t9 ?_
              refine lv_lstore (lv' := [(8, .long (F ja (kM P N ja k))), (7, .int (nI (64 * ja + k))), (6, .int (nI ja)), (5, .int (nI 0)), (3, .int mb), (4, .int fb), (0, .ref (ad 43)), (1, .int (nI ja)), (2, .int (nI jb))]) hx hb d_Mod_compare_91 hl (by decide) rfl (fun ls hl => ?_)
              refine lv_aload_n hx hb d_Mod_compare_93 rfl (lv_at hl 6 rfl) ?_
              refine lv_iload_n hx hb d_Mod_compare_94 rfl (lv_at hl 8 rfl) ?_
              refine lv_aload_n hx hb d_Mod_compare_95 rfl (lv_at hl 6 rfl) ?_
              refine q_get (C := R_Mod) (T := T_Mod) (N := 10) hx hb hts (fun w h => gm (inT_Mod w h)) hown hK hZ (43) (by decide) hM.1 rfl 2 (by decide) (hts _ (gm k_422)) (fun _ h9 => h9) rfl d_Mod_compare_96 ?_
              refine lv_iload hx hb d_Mod_compare_99 (lv_at hl 1 rfl) ?_
              refine q_iald hx hb hK hZ (45) 0 ((64 * ja + k)) (by decide) hM.2.2.1 rfl rfl (by omega) (by decide) d_Mod_compare_101 ?_
              refine lv_aload_n hx hb d_Mod_compare_102 rfl (lv_at hl 6 rfl) ?_
              refine q_get (C := R_Mod) (T := T_Mod) (N := 10) hx hb hts (fun w h => gm (inT_Mod w h)) hown hK hZ (43) (by decide) hM.1 rfl 3 (by decide) (hts _ (gm k_423)) (fun _ h9 => h9) rfl d_Mod_compare_103 ?_
              refine lv_iload hx hb d_Mod_compare_106 (lv_at hl 1 rfl) ?_
              refine q_lald hx hb hK hZ (46) 1 ((64 * ja + k)) (by decide) hM.2.2.2.1 rfl rfl (by omega) (by decide) d_Mod_compare_108 ?_
              refine q_calll (va_runV (As := [.int (nI jb), .int (P (64 * ja + k)), .long (N (64 * ja + k))]) (rest := []) ⟨hx, hb, hml, hown, hts⟩ (c_Mod_valueOf l dC dI cI cL cB ad N0 w86 (nI 0) mn P N A rm rP rN rA bd jb zb (F jb) (P (64 * ja + k)) (N (64 * ja + k)) hM hjb hzb hmnb hRb) (cwV 3 hts (gI_V k_485 k_482 k_484 k_10 k_24) rfl rfl rfl (by decide +kernel) ⟨Nat.le_of_ble_eq_true rfl, Nat.le_of_ble_eq_true rfl⟩) (q_preV hK hAm hZ hN [.int (nI jb), .int (P (64 * ja + k)), .long (N (64 * ja + k))] (43) 3 (by decide) hM.1 rfl) rfl rfl hl.1 rfl (lv_room (Nat.le_of_ble_eq_true rfl)) d_Mod_compare_109 ⟨Nat.zero_le _, Nat.zero_le _⟩) hZ (fun t9 u_t9 H locs h_t9 hZ => ?_)
              obtain ⟨e_t9, h_t9⟩ := h_t9
              rw [e_t9] at hZ
              refine q_topl (y := F jb (kM P N ja k)) h_t9 ?_
              refine lv_lstore (lv' := [(10, .long (F jb (kM P N ja k))), (8, .long (F ja (kM P N ja k))), (7, .int (nI (64 * ja + k))), (6, .int (nI ja)), (5, .int (nI 0)), (3, .int mb), (4, .int fb), (0, .ref (ad 43)), (1, .int (nI ja)), (2, .int (nI jb))]) hx hb d_Mod_compare_112 hl (by decide) rfl (fun ls hl => ?_)
              refine lv_iload_n hx hb d_Mod_compare_114 rfl (lv_at hl 5 rfl) ?_
              refine lv_if_ne (tgt := 126) hx hb d_Mod_compare_115 (by decide) (fun h115 => ?_) (fun h115 => ?_)
              · skip
                refine lv_iconst (v := (nI 1)) hx hb d_Mod_compare_126 rfl ?_
                refine lv_goto (tgt := 131) hx hb d_Mod_compare_127 (by decide) ?_
                refine lv_istore_n (lv' := [(3, .int (nI 1)), (10, .long (F jb (kM P N ja k))), (8, .long (F ja (kM P N ja k))), (7, .int (nI (64 * ja + k))), (6, .int (nI ja)), (5, .int (nI 0)), (4, .int fb), (0, .ref (ad 43)), (1, .int (nI ja)), (2, .int (nI jb))]) hx hb d_Mod_compare_131 rfl hl (by decide) rfl (fun ls hl => ?_)
                refine lv_iload hx hb d_Mod_compare_132 (lv_at hl 6 rfl) ?_
                refine lv_if_ne (tgt := 145) hx hb d_Mod_compare_134 (by decide) (fun h134 => ?_) (fun h134 => ?_)
                · skip
                  refine lv_iconst (v := (nI 1)) hx hb d_Mod_compare_145 rfl ?_
                  refine lv_goto (tgt := 150) hx hb d_Mod_compare_146 (by decide) ?_
                  refine lv_istore (lv' := [(4, .int (nI 1)), (3, .int (nI 1)), (10, .long (F jb (kM P N ja k))), (8, .long (F ja (kM P N ja k))), (7, .int (nI (64 * ja + k))), (6, .int (nI ja)), (5, .int (nI 0)), (0, .ref (ad 43)), (1, .int (nI ja)), (2, .int (nI jb))]) hx hb d_Mod_compare_150 hl (by decide) rfl (fun ls hl => ?_)
                  refine lv_iinc (v := (nI ((64 * ja + k) + 1))) (lv' := [(7, .int (nI ((64 * ja + k) + 1))), (4, .int (nI 1)), (3, .int (nI 1)), (10, .long (F jb (kM P N ja k))), (8, .long (F ja (kM P N ja k))), (6, .int (nI ja)), (5, .int (nI 0)), (0, .ref (ad 43)), (1, .int (nI ja)), (2, .int (nI jb))]) hx hb d_Mod_compare_152 hl (k := 4) rfl (nI_1 _) (by decide) rfl (fun ls hl => ?_)
                  refine lv_goto (tgt := 54) hx hb d_Mod_compare_155 (by decide) ?_
                  exact ih54a (k + 1) (nI 1) (nI 1) _ _ _ (by omega) (by omega) (by first | exact bx_1 hm h115 (sU_s (k := kM P N ja)) | exact bx_2 (Q := fun y => F jb y < F ja y) (Int64.not_le.mp h123) (sU_s (k := kM P N ja)) | exact bx_3 (Q := fun y => F jb y < F ja y) hm h115 (Int64.not_lt.mpr h123) (sU_s (k := kM P N ja))) (by first | exact bx_1 hw h134 (sU_s (k := kM P N ja)) | exact bx_2 (Q := fun y => F ja y < F jb y) (Int64.not_le.mp h142) (sU_s (k := kM P N ja)) | exact bx_3 (Q := fun y => F ja y < F jb y) hw h134 (Int64.not_lt.mpr h142) (sU_s (k := kM P N ja))) hZ (lv_sub hl [0, 5, 6, 2, 1, 7, 8, 9] rfl)
                · skip
                  refine lv_lload hx hb d_Mod_compare_137 (lv_at hl 2 rfl) ?_
                  refine lv_lload hx hb d_Mod_compare_139 (lv_at hl 1 rfl) ?_
                  refine W.lcmp hx hb d_Mod_compare_141 ?_
                  refine lv_if_ge (tgt := 149) hx hb d_Mod_compare_142 (by decide) (fun h142 => ?_) (fun h142 => ?_)
                  · skip
                    rw [lg_cmp_ge] at h142
                    refine lv_iconst (v := (nI 0)) hx hb d_Mod_compare_149 rfl ?_
                    refine lv_istore (lv' := [(4, .int (nI 0)), (3, .int (nI 1)), (10, .long (F jb (kM P N ja k))), (8, .long (F ja (kM P N ja k))), (7, .int (nI (64 * ja + k))), (6, .int (nI ja)), (5, .int (nI 0)), (0, .ref (ad 43)), (1, .int (nI ja)), (2, .int (nI jb))]) hx hb d_Mod_compare_150 hl (by decide) rfl (fun ls hl => ?_)
                    refine lv_iinc (v := (nI ((64 * ja + k) + 1))) (lv' := [(7, .int (nI ((64 * ja + k) + 1))), (4, .int (nI 0)), (3, .int (nI 1)), (10, .long (F jb (kM P N ja k))), (8, .long (F ja (kM P N ja k))), (6, .int (nI ja)), (5, .int (nI 0)), (0, .ref (ad 43)), (1, .int (nI ja)), (2, .int (nI jb))]) hx hb d_Mod_compare_152 hl (k := 4) rfl (nI_1 _) (by decide) rfl (fun ls hl => ?_)
                    refine lv_goto (tgt := 54) hx hb d_Mod_compare_155 (by decide) ?_
                    exact ih54a (k + 1) (nI 1) (nI 0) _ _ _ (by omega) (by omega) (by first | exact bx_1 hm h115 (sU_s (k := kM P N ja)) | exact bx_2 (Q := fun y => F jb y < F ja y) (Int64.not_le.mp h123) (sU_s (k := kM P N ja)) | exact bx_3 (Q := fun y => F jb y < F ja y) hm h115 (Int64.not_lt.mpr h123) (sU_s (k := kM P N ja))) (by first | exact bx_1 hw h134 (sU_s (k := kM P N ja)) | exact bx_2 (Q := fun y => F ja y < F jb y) (Int64.not_le.mp h142) (sU_s (k := kM P N ja)) | exact bx_3 (Q := fun y => F ja y < F jb y) hw h134 (Int64.not_lt.mpr h142) (sU_s (k := kM P N ja))) hZ (lv_sub hl [0, 5, 6, 2, 1, 7, 8, 9] rfl)
                  · skip
                    rw [lg_cmp_ge] at h142
                    refine lv_iconst (v := (nI 1)) hx hb d_Mod_compare_145 rfl ?_
                    refine lv_goto (tgt := 150) hx hb d_Mod_compare_146 (by decide) ?_
                    refine lv_istore (lv' := [(4, .int (nI 1)), (3, .int (nI 1)), (10, .long (F jb (kM P N ja k))), (8, .long (F ja (kM P N ja k))), (7, .int (nI (64 * ja + k))), (6, .int (nI ja)), (5, .int (nI 0)), (0, .ref (ad 43)), (1, .int (nI ja)), (2, .int (nI jb))]) hx hb d_Mod_compare_150 hl (by decide) rfl (fun ls hl => ?_)
                    refine lv_iinc (v := (nI ((64 * ja + k) + 1))) (lv' := [(7, .int (nI ((64 * ja + k) + 1))), (4, .int (nI 1)), (3, .int (nI 1)), (10, .long (F jb (kM P N ja k))), (8, .long (F ja (kM P N ja k))), (6, .int (nI ja)), (5, .int (nI 0)), (0, .ref (ad 43)), (1, .int (nI ja)), (2, .int (nI jb))]) hx hb d_Mod_compare_152 hl (k := 4) rfl (nI_1 _) (by decide) rfl (fun ls hl => ?_)
                    refine lv_goto (tgt := 54) hx hb d_Mod_compare_155 (by decide) ?_
                    exact ih54a (k + 1) (nI 1) (nI 1) _ _ _ (by omega) (by omega) (by first | exact bx_1 hm h115 (sU_s (k := kM P N ja)) | exact bx_2 (Q := fun y => F jb y < F ja y) (Int64.not_le.mp h123) (sU_s (k := kM P N ja)) | exact bx_3 (Q := fun y => F jb y < F ja y) hm h115 (Int64.not_lt.mpr h123) (sU_s (k := kM P N ja))) (by first | exact bx_1 hw h134 (sU_s (k := kM P N ja)) | exact bx_2 (Q := fun y => F ja y < F jb y) (Int64.not_le.mp h142) (sU_s (k := kM P N ja)) | exact bx_3 (Q := fun y => F ja y < F jb y) hw h134 (Int64.not_lt.mpr h142) (sU_s (k := kM P N ja))) hZ (lv_sub hl [0, 5, 6, 2, 1, 7, 8, 9] rfl)
              · skip
                refine lv_lload hx hb d_Mod_compare_118 (lv_at hl 1 rfl) ?_
                refine lv_lload hx hb d_Mod_compare_120 (lv_at hl 0 rfl) ?_
                refine W.lcmp hx hb d_Mod_compare_122 ?_
                refine lv_if_le (tgt := 130) hx hb d_Mod_compare_123 (by decide) (fun h123 => ?_) (fun h123 => ?_)
                · skip
                  rw [lg_cmp_le] at h123
                  refine lv_iconst (v := (nI 0)) hx hb d_Mod_compare_130 rfl ?_
                  refine lv_istore_n (lv' := [(3, .int (nI 0)), (10, .long (F jb (kM P N ja k))), (8, .long (F ja (kM P N ja k))), (7, .int (nI (64 * ja + k))), (6, .int (nI ja)), (5, .int (nI 0)), (4, .int fb), (0, .ref (ad 43)), (1, .int (nI ja)), (2, .int (nI jb))]) hx hb d_Mod_compare_131 rfl hl (by decide) rfl (fun ls hl => ?_)
                  refine lv_iload hx hb d_Mod_compare_132 (lv_at hl 6 rfl) ?_
                  refine lv_if_ne (tgt := 145) hx hb d_Mod_compare_134 (by decide) (fun h134 => ?_) (fun h134 => ?_)
                  · skip
                    refine lv_iconst (v := (nI 1)) hx hb d_Mod_compare_145 rfl ?_
                    refine lv_goto (tgt := 150) hx hb d_Mod_compare_146 (by decide) ?_
                    refine lv_istore (lv' := [(4, .int (nI 1)), (3, .int (nI 0)), (10, .long (F jb (kM P N ja k))), (8, .long (F ja (kM P N ja k))), (7, .int (nI (64 * ja + k))), (6, .int (nI ja)), (5, .int (nI 0)), (0, .ref (ad 43)), (1, .int (nI ja)), (2, .int (nI jb))]) hx hb d_Mod_compare_150 hl (by decide) rfl (fun ls hl => ?_)
                    refine lv_iinc (v := (nI ((64 * ja + k) + 1))) (lv' := [(7, .int (nI ((64 * ja + k) + 1))), (4, .int (nI 1)), (3, .int (nI 0)), (10, .long (F jb (kM P N ja k))), (8, .long (F ja (kM P N ja k))), (6, .int (nI ja)), (5, .int (nI 0)), (0, .ref (ad 43)), (1, .int (nI ja)), (2, .int (nI jb))]) hx hb d_Mod_compare_152 hl (k := 4) rfl (nI_1 _) (by decide) rfl (fun ls hl => ?_)
                    refine lv_goto (tgt := 54) hx hb d_Mod_compare_155 (by decide) ?_
                    exact ih54a (k + 1) (nI 0) (nI 1) _ _ _ (by omega) (by omega) (by first | exact bx_1 hm h115 (sU_s (k := kM P N ja)) | exact bx_2 (Q := fun y => F jb y < F ja y) (Int64.not_le.mp h123) (sU_s (k := kM P N ja)) | exact bx_3 (Q := fun y => F jb y < F ja y) hm h115 (Int64.not_lt.mpr h123) (sU_s (k := kM P N ja))) (by first | exact bx_1 hw h134 (sU_s (k := kM P N ja)) | exact bx_2 (Q := fun y => F ja y < F jb y) (Int64.not_le.mp h142) (sU_s (k := kM P N ja)) | exact bx_3 (Q := fun y => F ja y < F jb y) hw h134 (Int64.not_lt.mpr h142) (sU_s (k := kM P N ja))) hZ (lv_sub hl [0, 5, 6, 2, 1, 7, 8, 9] rfl)
                  · skip
                    refine lv_lload hx hb d_Mod_compare_137 (lv_at hl 2 rfl) ?_
                    refine lv_lload hx hb d_Mod_compare_139 (lv_at hl 1 rfl) ?_
                    refine W.lcmp hx hb d_Mod_compare_141 ?_
                    refine lv_if_ge (tgt := 149) hx hb d_Mod_compare_142 (by decide) (fun h142 => ?_) (fun h142 => ?_)
                    · skip
                      rw [lg_cmp_ge] at h142
                      refine lv_iconst (v := (nI 0)) hx hb d_Mod_compare_149 rfl ?_
                      refine lv_istore (lv' := [(4, .int (nI 0)), (3, .int (nI 0)), (10, .long (F jb (kM P N ja k))), (8, .long (F ja (kM P N ja k))), (7, .int (nI (64 * ja + k))), (6, .int (nI ja)), (5, .int (nI 0)), (0, .ref (ad 43)), (1, .int (nI ja)), (2, .int (nI jb))]) hx hb d_Mod_compare_150 hl (by decide) rfl (fun ls hl => ?_)
                      refine lv_iinc (v := (nI ((64 * ja + k) + 1))) (lv' := [(7, .int (nI ((64 * ja + k) + 1))), (4, .int (nI 0)), (3, .int (nI 0)), (10, .long (F jb (kM P N ja k))), (8, .long (F ja (kM P N ja k))), (6, .int (nI ja)), (5, .int (nI 0)), (0, .ref (ad 43)), (1, .int (nI ja)), (2, .int (nI jb))]) hx hb d_Mod_compare_152 hl (k := 4) rfl (nI_1 _) (by decide) rfl (fun ls hl => ?_)
                      refine lv_goto (tgt := 54) hx hb d_Mod_compare_155 (by decide) ?_
                      exact ih54a (k + 1) (nI 0) (nI 0) _ _ _ (by omega) (by omega) (by first | exact bx_1 hm h115 (sU_s (k := kM P N ja)) | exact bx_2 (Q := fun y => F jb y < F ja y) (Int64.not_le.mp h123) (sU_s (k := kM P N ja)) | exact bx_3 (Q := fun y => F jb y < F ja y) hm h115 (Int64.not_lt.mpr h123) (sU_s (k := kM P N ja))) (by first | exact bx_1 hw h134 (sU_s (k := kM P N ja)) | exact bx_2 (Q := fun y => F ja y < F jb y) (Int64.not_le.mp h142) (sU_s (k := kM P N ja)) | exact bx_3 (Q := fun y => F ja y < F jb y) hw h134 (Int64.not_lt.mpr h142) (sU_s (k := kM P N ja))) hZ (lv_sub hl [0, 5, 6, 2, 1, 7, 8, 9] rfl)
                    · skip
                      rw [lg_cmp_ge] at h142
                      refine lv_iconst (v := (nI 1)) hx hb d_Mod_compare_145 rfl ?_
                      refine lv_goto (tgt := 150) hx hb d_Mod_compare_146 (by decide) ?_
                      refine lv_istore (lv' := [(4, .int (nI 1)), (3, .int (nI 0)), (10, .long (F jb (kM P N ja k))), (8, .long (F ja (kM P N ja k))), (7, .int (nI (64 * ja + k))), (6, .int (nI ja)), (5, .int (nI 0)), (0, .ref (ad 43)), (1, .int (nI ja)), (2, .int (nI jb))]) hx hb d_Mod_compare_150 hl (by decide) rfl (fun ls hl => ?_)
                      refine lv_iinc (v := (nI ((64 * ja + k) + 1))) (lv' := [(7, .int (nI ((64 * ja + k) + 1))), (4, .int (nI 1)), (3, .int (nI 0)), (10, .long (F jb (kM P N ja k))), (8, .long (F ja (kM P N ja k))), (6, .int (nI ja)), (5, .int (nI 0)), (0, .ref (ad 43)), (1, .int (nI ja)), (2, .int (nI jb))]) hx hb d_Mod_compare_152 hl (k := 4) rfl (nI_1 _) (by decide) rfl (fun ls hl => ?_)
                      refine lv_goto (tgt := 54) hx hb d_Mod_compare_155 (by decide) ?_
                      exact ih54a (k + 1) (nI 0) (nI 1) _ _ _ (by omega) (by omega) (by first | exact bx_1 hm h115 (sU_s (k := kM P N ja)) | exact bx_2 (Q := fun y => F jb y < F ja y) (Int64.not_le.mp h123) (sU_s (k := kM P N ja)) | exact bx_3 (Q := fun y => F jb y < F ja y) hm h115 (Int64.not_lt.mpr h123) (sU_s (k := kM P N ja))) (by first | exact bx_1 hw h134 (sU_s (k := kM P N ja)) | exact bx_2 (Q := fun y => F ja y < F jb y) (Int64.not_le.mp h142) (sU_s (k := kM P N ja)) | exact bx_3 (Q := fun y => F ja y < F jb y) hw h134 (Int64.not_lt.mpr h142) (sU_s (k := kM P N ja))) hZ (lv_sub hl [0, 5, 6, 2, 1, 7, 8, 9] rfl)
                · skip
                  rw [lg_cmp_le] at h123
                  refine lv_iconst (v := (nI 1)) hx hb d_Mod_compare_126 rfl ?_
                  refine lv_goto (tgt := 131) hx hb d_Mod_compare_127 (by decide) ?_
                  refine lv_istore_n (lv' := [(3, .int (nI 1)), (10, .long (F jb (kM P N ja k))), (8, .long (F ja (kM P N ja k))), (7, .int (nI (64 * ja + k))), (6, .int (nI ja)), (5, .int (nI 0)), (4, .int fb), (0, .ref (ad 43)), (1, .int (nI ja)), (2, .int (nI jb))]) hx hb d_Mod_compare_131 rfl hl (by decide) rfl (fun ls hl => ?_)
                  refine lv_iload hx hb d_Mod_compare_132 (lv_at hl 6 rfl) ?_
                  refine lv_if_ne (tgt := 145) hx hb d_Mod_compare_134 (by decide) (fun h134 => ?_) (fun h134 => ?_)
                  · skip
                    refine lv_iconst (v := (nI 1)) hx hb d_Mod_compare_145 rfl ?_
                    refine lv_goto (tgt := 150) hx hb d_Mod_compare_146 (by decide) ?_
                    refine lv_istore (lv' := [(4, .int (nI 1)), (3, .int (nI 1)), (10, .long (F jb (kM P N ja k))), (8, .long (F ja (kM P N ja k))), (7, .int (nI (64 * ja + k))), (6, .int (nI ja)), (5, .int (nI 0)), (0, .ref (ad 43)), (1, .int (nI ja)), (2, .int (nI jb))]) hx hb d_Mod_compare_150 hl (by decide) rfl (fun ls hl => ?_)
                    refine lv_iinc (v := (nI ((64 * ja + k) + 1))) (lv' := [(7, .int (nI ((64 * ja + k) + 1))), (4, .int (nI 1)), (3, .int (nI 1)), (10, .long (F jb (kM P N ja k))), (8, .long (F ja (kM P N ja k))), (6, .int (nI ja)), (5, .int (nI 0)), (0, .ref (ad 43)), (1, .int (nI ja)), (2, .int (nI jb))]) hx hb d_Mod_compare_152 hl (k := 4) rfl (nI_1 _) (by decide) rfl (fun ls hl => ?_)
                    refine lv_goto (tgt := 54) hx hb d_Mod_compare_155 (by decide) ?_
                    exact ih54a (k + 1) (nI 1) (nI 1) _ _ _ (by omega) (by omega) (by first | exact bx_1 hm h115 (sU_s (k := kM P N ja)) | exact bx_2 (Q := fun y => F jb y < F ja y) (Int64.not_le.mp h123) (sU_s (k := kM P N ja)) | exact bx_3 (Q := fun y => F jb y < F ja y) hm h115 (Int64.not_lt.mpr h123) (sU_s (k := kM P N ja))) (by first | exact bx_1 hw h134 (sU_s (k := kM P N ja)) | exact bx_2 (Q := fun y => F ja y < F jb y) (Int64.not_le.mp h142) (sU_s (k := kM P N ja)) | exact bx_3 (Q := fun y => F ja y < F jb y) hw h134 (Int64.not_lt.mpr h142) (sU_s (k := kM P N ja))) hZ (lv_sub hl [0, 5, 6, 2, 1, 7, 8, 9] rfl)
                  · skip
                    refine lv_lload hx hb d_Mod_compare_137 (lv_at hl 2 rfl) ?_
                    refine lv_lload hx hb d_Mod_compare_139 (lv_at hl 1 rfl) ?_
                    refine W.lcmp hx hb d_Mod_compare_141 ?_
                    refine lv_if_ge (tgt := 149) hx hb d_Mod_compare_142 (by decide) (fun h142 => ?_) (fun h142 => ?_)
                    · skip
                      rw [lg_cmp_ge] at h142
                      refine lv_iconst (v := (nI 0)) hx hb d_Mod_compare_149 rfl ?_
                      refine lv_istore (lv' := [(4, .int (nI 0)), (3, .int (nI 1)), (10, .long (F jb (kM P N ja k))), (8, .long (F ja (kM P N ja k))), (7, .int (nI (64 * ja + k))), (6, .int (nI ja)), (5, .int (nI 0)), (0, .ref (ad 43)), (1, .int (nI ja)), (2, .int (nI jb))]) hx hb d_Mod_compare_150 hl (by decide) rfl (fun ls hl => ?_)
                      refine lv_iinc (v := (nI ((64 * ja + k) + 1))) (lv' := [(7, .int (nI ((64 * ja + k) + 1))), (4, .int (nI 0)), (3, .int (nI 1)), (10, .long (F jb (kM P N ja k))), (8, .long (F ja (kM P N ja k))), (6, .int (nI ja)), (5, .int (nI 0)), (0, .ref (ad 43)), (1, .int (nI ja)), (2, .int (nI jb))]) hx hb d_Mod_compare_152 hl (k := 4) rfl (nI_1 _) (by decide) rfl (fun ls hl => ?_)
                      refine lv_goto (tgt := 54) hx hb d_Mod_compare_155 (by decide) ?_
                      exact ih54a (k + 1) (nI 1) (nI 0) _ _ _ (by omega) (by omega) (by first | exact bx_1 hm h115 (sU_s (k := kM P N ja)) | exact bx_2 (Q := fun y => F jb y < F ja y) (Int64.not_le.mp h123) (sU_s (k := kM P N ja)) | exact bx_3 (Q := fun y => F jb y < F ja y) hm h115 (Int64.not_lt.mpr h123) (sU_s (k := kM P N ja))) (by first | exact bx_1 hw h134 (sU_s (k := kM P N ja)) | exact bx_2 (Q := fun y => F ja y < F jb y) (Int64.not_le.mp h142) (sU_s (k := kM P N ja)) | exact bx_3 (Q := fun y => F ja y < F jb y) hw h134 (Int64.not_lt.mpr h142) (sU_s (k := kM P N ja))) hZ (lv_sub hl [0, 5, 6, 2, 1, 7, 8, 9] rfl)
                    · skip
                      rw [lg_cmp_ge] at h142
                      refine lv_iconst (v := (nI 1)) hx hb d_Mod_compare_145 rfl ?_
                      refine lv_goto (tgt := 150) hx hb d_Mod_compare_146 (by decide) ?_
                      refine lv_istore (lv' := [(4, .int (nI 1)), (3, .int (nI 1)), (10, .long (F jb (kM P N ja k))), (8, .long (F ja (kM P N ja k))), (7, .int (nI (64 * ja + k))), (6, .int (nI ja)), (5, .int (nI 0)), (0, .ref (ad 43)), (1, .int (nI ja)), (2, .int (nI jb))]) hx hb d_Mod_compare_150 hl (by decide) rfl (fun ls hl => ?_)
                      refine lv_iinc (v := (nI ((64 * ja + k) + 1))) (lv' := [(7, .int (nI ((64 * ja + k) + 1))), (4, .int (nI 1)), (3, .int (nI 1)), (10, .long (F jb (kM P N ja k))), (8, .long (F ja (kM P N ja k))), (6, .int (nI ja)), (5, .int (nI 0)), (0, .ref (ad 43)), (1, .int (nI ja)), (2, .int (nI jb))]) hx hb d_Mod_compare_152 hl (k := 4) rfl (nI_1 _) (by decide) rfl (fun ls hl => ?_)
                      refine lv_goto (tgt := 54) hx hb d_Mod_compare_155 (by decide) ?_
                      exact ih54a (k + 1) (nI 1) (nI 1) _ _ _ (by omega) (by omega) (by first | exact bx_1 hm h115 (sU_s (k := kM P N ja)) | exact bx_2 (Q := fun y => F jb y < F ja y) (Int64.not_le.mp h123) (sU_s (k := kM P N ja)) | exact bx_3 (Q := fun y => F jb y < F ja y) hm h115 (Int64.not_lt.mpr h123) (sU_s (k := kM P N ja))) (by first | exact bx_1 hw h134 (sU_s (k := kM P N ja)) | exact bx_2 (Q := fun y => F ja y < F jb y) (Int64.not_le.mp h142) (sU_s (k := kM P N ja)) | exact bx_3 (Q := fun y => F ja y < F jb y) hw h134 (Int64.not_lt.mpr h142) (sU_s (k := kM P N ja))) hZ (lv_sub hl [0, 5, 6, 2, 1, 7, 8, 9] rfl)
        exact loop54a (za + 1) 0 (nI 0) (nI 0) _ _ _ (Nat.zero_le za) (by omega) (bx_0 sU_0) (bx_0 sU_0) hZ (lv_sub hl [0, 1, 2, 4, 3, 5, 6, 7] rfl)
  · skip
    have h16 : 0 < 0 := Nat.lt_of_not_le (fun z9 => h16 ((nI_leI (a := 0) (b := 0) (by omega) (by omega)).mpr z9))
    exact absurd h16 (by decide)
set_option maxHeartbeats 4000000 in
set_option maxRecDepth 100000 in
theorem x_Mod_compare (l : Launch) (dC : Nat → ClassId) (dI : Nat → Nat → Nat) (cI cL cB : ClassId) (ad : Nat → Nat) (N0 : Nat) (w : Nat → va_E) (t0 : Int32) (F : Nat → Int → Int64) (a b : Int32) (cd : Int32) (hMM : sM ad cI cL w t0 F) (hbad : wX a b (nI 0) (nI 0) cd) : Met l y_Mod_compare ws_Mod_compare ({ frames := 2, cells := 0, slots := 0, locals := 44 } : Room) (va_Pc [.ref (ad 43), .int a, .int b] (sPr (dC, dI) vCl [(cI, .int), (cL, .long), (cB, .object "CoinBag$Bag")] 52 ad N0 w)) (va_Qi (fun r u => fr w u 43 50 ∧ sM ad cI cL u cd F) (sPr (dC, dI) vCl [(cI, .int), (cL, .long), (cB, .object "CoinBag$Bag")] 52 ad N0) (fun q => N0 ≤ q)) 0 0 (fun q => N0 ≤ q) := by
  refine Met.ofW (cc := b_Mod_compare) (maxL := 12) (ret := (some .int)) (by decide) rfl ?_
  intro p e s m args below meth c s₁ B hml hv
  obtain ⟨rfl, hP, hK, hD, hN, hAm⟩ := hv
  have hx := B.exec
  have hb := B.bytes
  have hr := B.returns
  have hts := atoms_spec (ws := ws_Mod_compare) B.pre
  have hown : s.vm.findClass "CoinBagModel" = some m.cls := findClass_of_methodNamed B.named
  have hlocks := B.notSynchronized
  have hZ : sZ (dC, dI) vCl 52 ad (fun q => N0 ≤ q) s.heap w s.heap [] := ⟨hP, hD, va_S.rf⟩
  have hl := lv_entry ([.ref (ad 43), .int a, .int b]) (n := 12) (Nat.le_of_ble_eq_true rfl)
  rw [lg_entry_eq]
  generalize (lg_sl ([.ref (ad 43), .int a, .int b]) ++ List.replicate (12 - (lg_sl ([.ref (ad 43), .int a, .int b])).length) Slot.unset).toArray = ls at hl ⊢
  have hl : lv_has ls 12 [(0, .ref (ad 43)), (1, .int a), (2, .int b)] := hl
  obtain ⟨mn, P, N, A, rm, rP, rN, rA, bd, hM, hB⟩ := hMM
  have hfr : fr w w 43 50 := fr_rf
  refine lv_aload_n hx hb d_Mod_compare_0 rfl (lv_at hl 0 rfl) ?_
  refine lv_aload_n hx hb d_Mod_compare_1 rfl (lv_at hl 0 rfl) ?_
  refine lv_iload_n hx hb d_Mod_compare_2 rfl (lv_at hl 1 rfl) ?_
  refine lv_iload_n hx hb d_Mod_compare_3 rfl (lv_at hl 2 rfl) ?_
  refine lv_iconst (v := (nI 0)) hx hb d_Mod_compare_4 rfl ?_
  refine lv_iconst (v := (nI 0)) hx hb d_Mod_compare_5 rfl ?_
  refine q_calli (va_runV (As := [.int a, .int b, .int (nI 0), .int (nI 0)]) (rest := [.ref (ad 43)]) ⟨hx, hb, hml, hown, hts⟩ (c_Mod_wrong l dC dI cI cL cB ad N0 w t0 mn P N A rm rP rN rA bd a b (nI 0) (nI 0) hM) (cwV 4 hts (gI_V k_462 k_459 k_461 k_7 k_24) rfl rfl rfl (by decide +kernel) ⟨Nat.le_of_ble_eq_true rfl, Nat.le_of_ble_eq_true rfl⟩) (q_preV hK hAm hZ hN [.int a, .int b, .int (nI 0), .int (nI 0)] (43) 3 (by decide) hM.1 rfl) rfl rfl hl.1 rfl (lv_room (Nat.le_of_ble_eq_true rfl)) d_Mod_compare_6 ⟨Nat.zero_le _, Nat.zero_le _⟩) hZ (fun r u_r H locs h_r hZ => ?_)
  obtain ⟨e_r, h_r⟩ := h_r
  rw [e_r] at hZ
  refine q_topi (y := cd) (wr_x h_r hbad) ?_
  refine q_put (C := R_Mod) (T := T_Mod) (N := 10) (ty := .int) (v := .int cd) hx hb hts (fun w h => gm (inT_Mod w h)) ty_Mod tyo_Mod nm_Mod hown hK hZ (43) (by decide) hM.1 rfl 0 (by decide) (hts _ (gm k_420)) (fun _ h9 => h9) rfl (by decide +kernel) (rfl) (rfl) (Nat.le_of_ble_eq_true rfl) d_Mod_compare_9 (fun H locs hZ => ?_)
  have hM := hM.up43 cd rm bd
  have hfr := fr_up (x := 43) (e := .inr (3, [.int cd, .ref (ad 44), .ref (ad 45), .ref (ad 46), .ref (ad 47), .int rm, .ref (ad 48), .ref (ad 49), .ref (ad 50), .int bd])) hfr (by omega) (by omega)
  have hZ : sZ (dC, dI) vCl 52 ad (fun q => N0 ≤ q) s.heap (va_up w 43 (.inr (3, [.int cd, .ref (ad 44), .ref (ad 45), .ref (ad 46), .ref (ad 47), .int rm, .ref (ad 48), .ref (ad 49), .ref (ad 50), .int bd]))) H locs := hZ
  generalize va_up w 43 (.inr (3, [.int cd, .ref (ad 44), .ref (ad 45), .ref (ad 46), .ref (ad 47), .int rm, .ref (ad 48), .ref (ad 49), .ref (ad 50), .int bd])) = w87 at hZ hM hfr
  refine lv_aload_n hx hb d_Mod_compare_12 rfl (lv_at hl 0 rfl) ?_
  refine q_get (C := R_Mod) (T := T_Mod) (N := 10) hx hb hts (fun w h => gm (inT_Mod w h)) hown hK hZ (43) (by decide) hM.1 rfl 0 (by decide) (hts _ (gm k_420)) (fun _ h9 => h9) rfl d_Mod_compare_13 ?_
  refine lv_if_le (tgt := 21) hx hb d_Mod_compare_16 (by decide) (fun h16 => ?_) (fun h16 => ?_)
  · skip
    first | exact absurd h16 (wX_ne hbad) | exact absurd h16 (wX_le hbad) | exact absurd (wX_gt hbad) h16
  · skip
    refine lv_iconst (v := (nI 0)) hx hb d_Mod_compare_19 rfl ?_
    exact q_iret hx hb hr hlocks hK hAm hZ hN (⟨hfr, ⟨_, _, _, _, _, _, _, _, _, hM, hB⟩⟩) d_Mod_compare_20
set_option maxHeartbeats 4000000 in
set_option maxRecDepth 100000 in
theorem c_Mod_into (l : Launch) (dC : Nat → ClassId) (dI : Nat → Nat → Nat) (cI cL cB : ClassId) (ad : Nat → Nat) (N0 : Nat) (w : Nat → va_E) (t0 : Int32) (F : Nat → Int → Int64) (ja jb : Nat) (hMM : sM ad cI cL w t0 F) (hja : ja < 8) (hjb : jb < 8) : Met l y_Mod_into ws_Mod_into ({ frames := 2, cells := 0, slots := 0, locals := 50 } : Room) (va_Pc [.ref (ad 43), .int (nI ja), .int (nI jb)] (sPr (dC, dI) vCl [(cI, .int), (cL, .long), (cB, .object "CoinBag$Bag")] 52 ad N0 w)) (va_Ql (fun r u => fr w u 43 50 ∧ sM ad cI cL u (nI 0) F ∧ iR (F ja) (F jb) r) (sPr (dC, dI) vCl [(cI, .int), (cL, .long), (cB, .object "CoinBag$Bag")] 52 ad N0) (fun q => N0 ≤ q)) 0 0 (fun q => N0 ≤ q) := by
  refine Met.ofW (cc := b_Mod_into) (maxL := 18) (ret := (some .long)) (by decide) rfl ?_
  intro p e s m args below meth c s₁ B hml hv
  obtain ⟨rfl, hP, hK, hD, hN, hAm⟩ := hv
  have hx := B.exec
  have hb := B.bytes
  have hr := B.returns
  have hts := atoms_spec (ws := ws_Mod_into) B.pre
  have hown : s.vm.findClass "CoinBagModel" = some m.cls := findClass_of_methodNamed B.named
  have hlocks := B.notSynchronized
  have hZ : sZ (dC, dI) vCl 52 ad (fun q => N0 ≤ q) s.heap w s.heap [] := ⟨hP, hD, va_S.rf⟩
  have hl := lv_entry ([.ref (ad 43), .int (nI ja), .int (nI jb)]) (n := 18) (Nat.le_of_ble_eq_true rfl)
  rw [lg_entry_eq]
  generalize (lg_sl ([.ref (ad 43), .int (nI ja), .int (nI jb)]) ++ List.replicate (18 - (lg_sl ([.ref (ad 43), .int (nI ja), .int (nI jb)])).length) Slot.unset).toArray = ls at hl ⊢
  have hl : lv_has ls 18 [(0, .ref (ad 43)), (1, .int (nI ja)), (2, .int (nI jb))] := hl
  obtain ⟨mn, P, N, A, rm, rP, rN, rA, bd, hM, hB⟩ := hMM
  have hfr : fr w w 43 50 := fr_rf
  obtain ⟨za, hza, hmna, hRa⟩ := mB_at hB hja
  obtain ⟨zb, hzb, hmnb, hRb⟩ := mB_at hB hjb
  refine lv_aload_n hx hb d_Mod_into_0 rfl (lv_at hl 0 rfl) ?_
  refine lv_aload_n hx hb d_Mod_into_1 rfl (lv_at hl 0 rfl) ?_
  refine lv_iload_n hx hb d_Mod_into_2 rfl (lv_at hl 1 rfl) ?_
  refine lv_iload_n hx hb d_Mod_into_3 rfl (lv_at hl 2 rfl) ?_
  refine lv_iconst (v := (nI 0)) hx hb d_Mod_into_4 rfl ?_
  refine lv_iconst (v := (nI 0)) hx hb d_Mod_into_5 rfl ?_
  refine q_calli (va_runV (As := [.int (nI ja), .int (nI jb), .int (nI 0), .int (nI 0)]) (rest := [.ref (ad 43)]) ⟨hx, hb, hml, hown, hts⟩ (c_Mod_wrong l dC dI cI cL cB ad N0 w t0 mn P N A rm rP rN rA bd (nI ja) (nI jb) (nI 0) (nI 0) hM) (cwV 4 hts (gI_V k_462 k_459 k_461 k_7 k_24) rfl rfl rfl (by decide +kernel) ⟨Nat.le_of_ble_eq_true rfl, Nat.le_of_ble_eq_true rfl⟩) (q_preV hK hAm hZ hN [.int (nI ja), .int (nI jb), .int (nI 0), .int (nI 0)] (43) 3 (by decide) hM.1 rfl) rfl rfl hl.1 rfl (lv_room (Nat.le_of_ble_eq_true rfl)) d_Mod_into_6 ⟨Nat.zero_le _, Nat.zero_le _⟩) hZ (fun r u_r H locs h_r hZ => ?_)
  obtain ⟨e_r, h_r⟩ := h_r
  rw [e_r] at hZ
  refine q_topi (y := nI 0) (wr_ok h_r ⟨okB_nI hja, okB_nI hjb, okB_0⟩ okP_0) ?_
  refine q_put (C := R_Mod) (T := T_Mod) (N := 10) (ty := .int) (v := .int (nI 0)) hx hb hts (fun w h => gm (inT_Mod w h)) ty_Mod tyo_Mod nm_Mod hown hK hZ (43) (by decide) hM.1 rfl 0 (by decide) (hts _ (gm k_420)) (fun _ h9 => h9) rfl (by decide +kernel) (rfl) (rfl) (Nat.le_of_ble_eq_true rfl) d_Mod_into_9 (fun H locs hZ => ?_)
  have hM := hM.up43 (nI 0) rm bd
  have hfr := fr_up (x := 43) (e := .inr (3, [.int (nI 0), .ref (ad 44), .ref (ad 45), .ref (ad 46), .ref (ad 47), .int rm, .ref (ad 48), .ref (ad 49), .ref (ad 50), .int bd])) hfr (by omega) (by omega)
  have hZ : sZ (dC, dI) vCl 52 ad (fun q => N0 ≤ q) s.heap (va_up w 43 (.inr (3, [.int (nI 0), .ref (ad 44), .ref (ad 45), .ref (ad 46), .ref (ad 47), .int rm, .ref (ad 48), .ref (ad 49), .ref (ad 50), .int bd]))) H locs := hZ
  generalize va_up w 43 (.inr (3, [.int (nI 0), .ref (ad 44), .ref (ad 45), .ref (ad 46), .ref (ad 47), .int rm, .ref (ad 48), .ref (ad 49), .ref (ad 50), .int bd])) = w88 at hZ hM hfr
  refine lv_aload_n hx hb d_Mod_into_12 rfl (lv_at hl 0 rfl) ?_
  refine q_get (C := R_Mod) (T := T_Mod) (N := 10) hx hb hts (fun w h => gm (inT_Mod w h)) hown hK hZ (43) (by decide) hM.1 rfl 0 (by decide) (hts _ (gm k_420)) (fun _ h9 => h9) rfl d_Mod_into_13 ?_
  refine lv_if_le (tgt := 21) hx hb d_Mod_into_16 (by decide) (fun h16 => ?_) (fun h16 => ?_)
  · skip
    have h16 : 0 ≤ 0 := (nI_leI (a := 0) (b := 0) (by omega) (by omega)).mp h16
    refine lv_lconst (v := 0) hx hb d_Mod_into_21 rfl ?_
    refine lv_lstore_n (lv' := [(3, .long 0), (0, .ref (ad 43)), (1, .int (nI ja)), (2, .int (nI jb))]) hx hb d_Mod_into_22 rfl hl (by decide) rfl (fun ls hl => ?_)
    refine lv_ldc2 (v := (-1)) hx hb hown (hts _ (gm k_528)) d_Mod_into_23 ?_
    refine lv_lstore (lv' := [(5, .long (-1)), (3, .long 0), (0, .ref (ad 43)), (1, .int (nI ja)), (2, .int (nI jb))]) hx hb d_Mod_into_26 hl (by decide) rfl (fun ls hl => ?_)
    refine lv_iconst (v := (nI 1)) hx hb d_Mod_into_28 rfl ?_
    refine lv_istore (lv' := [(7, .int (nI 1)), (5, .long (-1)), (3, .long 0), (0, .ref (ad 43)), (1, .int (nI ja)), (2, .int (nI jb))]) hx hb d_Mod_into_29 hl (by decide) rfl (fun ls hl => ?_)
    refine lv_iconst (v := (nI 0)) hx hb d_Mod_into_31 rfl ?_
    refine lv_istore (lv' := [(8, .int (nI 0)), (7, .int (nI 1)), (5, .long (-1)), (3, .long 0), (0, .ref (ad 43)), (1, .int (nI ja)), (2, .int (nI jb))]) hx hb d_Mod_into_32 hl (by decide) rfl (fun ls hl => ?_)
    refine lv_iload hx hb d_Mod_into_34 (lv_at hl 0 rfl) ?_
    refine lv_iconst (v := (nI 2)) hx hb d_Mod_into_36 rfl ?_
    refine lv_icmp_ge (tgt := 292) hx hb d_Mod_into_37 (by decide) (fun h37 => ?_) (fun h37 => ?_)
    · skip
      have h37 : 2 ≤ 0 := (nI_leI (a := 2) (b := 0) (by omega) (by omega)).mp h37
      exact absurd h37 (by decide)
    · skip
      have h37 : 0 < 2 := Nat.lt_of_not_le (fun z9 => h37 ((nI_leI (a := 2) (b := 0) (by omega) (by omega)).mpr z9))
      refine lv_iload hx hb d_Mod_into_40 (lv_at hl 0 rfl) ?_
      refine lv_if_ne (tgt := 49) hx hb d_Mod_into_42 (by decide) (fun h42 => ?_) (fun h42 => ?_)
      · skip
        have h42 : ¬ 0 = 0 := fun z9 => h42 ((nI_eq (a := 0) (b := 0) (by omega) (by omega)).mpr z9)
        exact absurd h42 (by decide)
      · skip
        have h42 : 0 = 0 := (nI_eq (a := 0) (b := 0) (by omega) (by omega)).mp h42
        refine lv_iload_n hx hb d_Mod_into_45 rfl (lv_at hl 5 rfl) ?_
        refine lv_goto (tgt := 50) hx hb d_Mod_into_46 (by decide) ?_
        refine lv_istore (lv' := [(9, .int (nI ja)), (8, .int (nI 0)), (7, .int (nI 1)), (5, .long (-1)), (3, .long 0), (0, .ref (ad 43)), (1, .int (nI ja)), (2, .int (nI jb))]) hx hb d_Mod_into_50 hl (by decide) rfl (fun ls hl => ?_)
        refine lv_bipush (v := (nI 64)) hx hb d_Mod_into_52 rfl ?_
        refine lv_iload hx hb d_Mod_into_54 (lv_at hl 0 rfl) ?_
        refine lv_imul hx hb d_Mod_into_56 ?_
        refine q_topi (y := nI (64 * ja)) (pk_mul _ _) ?_
        refine lv_istore (lv' := [(10, .int (nI (64 * ja))), (9, .int (nI ja)), (8, .int (nI 0)), (7, .int (nI 1)), (5, .long (-1)), (3, .long 0), (0, .ref (ad 43)), (1, .int (nI ja)), (2, .int (nI jb))]) hx hb d_Mod_into_57 hl (by decide) rfl (fun ls hl => ?_)
        have loop59a : ∀ (fu59a : Nat) (k : Nat) (lo hi : Int64) (ca : Int32) (H : Heap) (locs : List Loc) (ls : Array Slot), (k ≤ za) → (za + 1 ≤ k + fu59a) → (inI (sU (kM P N ja) k) (F ja) (F jb) lo hi ca) → sZ (dC, dI) vCl 52 ad (fun q => N0 ≤ q) s.heap w88 H locs → lv_has ls 18 [(10, .int (nI (64 * ja + k))), (9, .int (nI ja)), (8, .int (nI 0)), (3, .long lo), (5, .long hi), (7, .int ca), (0, .ref (ad 43)), (1, .int (nI ja)), (2, .int (nI jb))] → W p l e (headSpec ws_Mod_into ({ frames := 2, cells := 0, slots := 0, locals := 50 } : Room)).room s m ([.ref (ad 43), .int (nI ja), .int (nI jb)]).toArray below meth c H locs 0 0 (MQ below (va_Ql (fun r u => fr w u 43 50 ∧ sM ad cI cL u (nI 0) F ∧ iR (F ja) (F jb) r) (sPr (dC, dI) vCl [(cI, .int), (cL, .long), (cB, .object "CoinBag$Bag")] 52 ad N0) (fun q => N0 ≤ q)) ([.ref (ad 43), .int (nI ja), .int (nI jb)]).toArray s 0 0 (fun q => N0 ≤ q)) (F0 m 59 ls []) := by
          intro fu59a
          induction fu59a with
          | zero =>
            intro k lo hi ca H locs ls hk hf9 hI
            omega
          | succ fu59a ih59a =>
            intro k lo hi ca H locs ls hk hf9 hI hZ hl
            refine lv_iload hx hb d_Mod_into_59 (lv_at hl 0 rfl) ?_
            refine lv_bipush (v := (nI 64)) hx hb d_Mod_into_61 rfl ?_
            refine lv_iload hx hb d_Mod_into_63 (lv_at hl 1 rfl) ?_
            refine lv_imul hx hb d_Mod_into_65 ?_
            refine q_topi (y := nI (64 * ja)) (pk_mul _ _) ?_
            refine lv_aload_n hx hb d_Mod_into_66 rfl (lv_at hl 6 rfl) ?_
            refine q_get (C := R_Mod) (T := T_Mod) (N := 10) hx hb hts (fun w h => gm (inT_Mod w h)) hown hK hZ (43) (by decide) hM.1 rfl 1 (by decide) (hts _ (gm k_421)) (fun _ h9 => h9) rfl d_Mod_into_67 ?_
            refine lv_iload hx hb d_Mod_into_70 (lv_at hl 1 rfl) ?_
            refine q_iald hx hb hK hZ (44) 0 (ja) (by decide) hM.2.1 rfl rfl (by omega) (by decide) d_Mod_into_72 ?_
            refine q_topi (y := nI za) (hmna) ?_
            refine lv_iadd hx hb d_Mod_into_73 ?_
            refine q_topi (y := nI ((64 * ja) + za)) (nI_add _ _) ?_
            refine lv_icmp_ge (tgt := 286) hx hb d_Mod_into_74 (by decide) (fun h74 => ?_) (fun h74 => ?_)
            · skip
              have h74 : ((64 * ja) + za) ≤ (64 * ja + k) := (nI_leI (a := ((64 * ja) + za)) (b := (64 * ja + k)) (by omega) (by omega)).mp h74
              have ek : k = za := by omega
              rw [ek] at hI
              refine lv_iinc (v := (nI (0 + 1))) (lv' := [(8, .int (nI (0 + 1))), (10, .int (nI (64 * ja + k))), (9, .int (nI ja)), (3, .long lo), (5, .long hi), (7, .int ca), (0, .ref (ad 43)), (1, .int (nI ja)), (2, .int (nI jb))]) hx hb d_Mod_into_286 hl (k := 2) rfl (nI_1 _) (by decide) rfl (fun ls hl => ?_)
              have hl : lv_has ls 18 [(8, .int (nI 1)), (10, .int (nI (64 * ja + k))), (9, .int (nI ja)), (3, .long lo), (5, .long hi), (7, .int ca), (0, .ref (ad 43)), (1, .int (nI ja)), (2, .int (nI jb))] := hl
              refine lv_goto (tgt := 34) hx hb d_Mod_into_289 (by decide) ?_
              refine lv_iload hx hb d_Mod_into_34 (lv_at hl 0 rfl) ?_
              refine lv_iconst (v := (nI 2)) hx hb d_Mod_into_36 rfl ?_
              refine lv_icmp_ge (tgt := 292) hx hb d_Mod_into_37 (by decide) (fun h37 => ?_) (fun h37 => ?_)
              · skip
                have h37 : 2 ≤ 1 := (nI_leI (a := 2) (b := 1) (by omega) (by omega)).mp h37
                exact absurd h37 (by decide)
              · skip
                have h37 : 1 < 2 := Nat.lt_of_not_le (fun z9 => h37 ((nI_leI (a := 2) (b := 1) (by omega) (by omega)).mpr z9))
                refine lv_iload hx hb d_Mod_into_40 (lv_at hl 0 rfl) ?_
                refine lv_if_ne (tgt := 49) hx hb d_Mod_into_42 (by decide) (fun h42 => ?_) (fun h42 => ?_)
                · skip
                  have h42 : ¬ 1 = 0 := fun z9 => h42 ((nI_eq (a := 1) (b := 0) (by omega) (by omega)).mpr z9)
                  refine lv_iload_n hx hb d_Mod_into_49 rfl (lv_at hl 8 rfl) ?_
                  refine lv_istore (lv' := [(9, .int (nI jb)), (8, .int (nI 1)), (10, .int (nI (64 * ja + k))), (3, .long lo), (5, .long hi), (7, .int ca), (0, .ref (ad 43)), (1, .int (nI ja)), (2, .int (nI jb))]) hx hb d_Mod_into_50 hl (by decide) rfl (fun ls hl => ?_)
                  refine lv_bipush (v := (nI 64)) hx hb d_Mod_into_52 rfl ?_
                  refine lv_iload hx hb d_Mod_into_54 (lv_at hl 0 rfl) ?_
                  refine lv_imul hx hb d_Mod_into_56 ?_
                  refine q_topi (y := nI (64 * jb)) (pk_mul _ _) ?_
                  refine lv_istore (lv' := [(10, .int (nI (64 * jb))), (9, .int (nI jb)), (8, .int (nI 1)), (3, .long lo), (5, .long hi), (7, .int ca), (0, .ref (ad 43)), (1, .int (nI ja)), (2, .int (nI jb))]) hx hb d_Mod_into_57 hl (by decide) rfl (fun ls hl => ?_)
                  have loop59b : ∀ (fu59b : Nat) (k : Nat) (lo hi : Int64) (ca : Int32) (H : Heap) (locs : List Loc) (ls : Array Slot), (k ≤ zb) → (zb + 1 ≤ k + fu59b) → (inI (sB (kM P N ja) za (kM P N jb) k) (F ja) (F jb) lo hi ca) → sZ (dC, dI) vCl 52 ad (fun q => N0 ≤ q) s.heap w88 H locs → lv_has ls 18 [(10, .int (nI (64 * jb + k))), (9, .int (nI jb)), (8, .int (nI 1)), (3, .long lo), (5, .long hi), (7, .int ca), (0, .ref (ad 43)), (1, .int (nI ja)), (2, .int (nI jb))] → W p l e (headSpec ws_Mod_into ({ frames := 2, cells := 0, slots := 0, locals := 50 } : Room)).room s m ([.ref (ad 43), .int (nI ja), .int (nI jb)]).toArray below meth c H locs 0 0 (MQ below (va_Ql (fun r u => fr w u 43 50 ∧ sM ad cI cL u (nI 0) F ∧ iR (F ja) (F jb) r) (sPr (dC, dI) vCl [(cI, .int), (cL, .long), (cB, .object "CoinBag$Bag")] 52 ad N0) (fun q => N0 ≤ q)) ([.ref (ad 43), .int (nI ja), .int (nI jb)]).toArray s 0 0 (fun q => N0 ≤ q)) (F0 m 59 ls []) := by
                    intro fu59b
                    induction fu59b with
                    | zero =>
                      intro k lo hi ca H locs ls hk hf9 hI
                      omega
                    | succ fu59b ih59b =>
                      intro k lo hi ca H locs ls hk hf9 hI hZ hl
                      refine lv_iload hx hb d_Mod_into_59 (lv_at hl 0 rfl) ?_
                      refine lv_bipush (v := (nI 64)) hx hb d_Mod_into_61 rfl ?_
                      refine lv_iload hx hb d_Mod_into_63 (lv_at hl 1 rfl) ?_
                      refine lv_imul hx hb d_Mod_into_65 ?_
                      refine q_topi (y := nI (64 * jb)) (pk_mul _ _) ?_
                      refine lv_aload_n hx hb d_Mod_into_66 rfl (lv_at hl 6 rfl) ?_
                      refine q_get (C := R_Mod) (T := T_Mod) (N := 10) hx hb hts (fun w h => gm (inT_Mod w h)) hown hK hZ (43) (by decide) hM.1 rfl 1 (by decide) (hts _ (gm k_421)) (fun _ h9 => h9) rfl d_Mod_into_67 ?_
                      refine lv_iload hx hb d_Mod_into_70 (lv_at hl 1 rfl) ?_
                      refine q_iald hx hb hK hZ (44) 0 (jb) (by decide) hM.2.1 rfl rfl (by omega) (by decide) d_Mod_into_72 ?_
                      refine q_topi (y := nI zb) (hmnb) ?_
                      refine lv_iadd hx hb d_Mod_into_73 ?_
                      refine q_topi (y := nI ((64 * jb) + zb)) (nI_add _ _) ?_
                      refine lv_icmp_ge (tgt := 286) hx hb d_Mod_into_74 (by decide) (fun h74 => ?_) (fun h74 => ?_)
                      · skip
                        have h74 : ((64 * jb) + zb) ≤ (64 * jb + k) := (nI_leI (a := ((64 * jb) + zb)) (b := (64 * jb + k)) (by omega) (by omega)).mp h74
                        have ek : k = zb := by omega
                        rw [ek] at hI
                        refine lv_iinc (v := (nI (1 + 1))) (lv' := [(8, .int (nI (1 + 1))), (10, .int (nI (64 * jb + k))), (9, .int (nI jb)), (3, .long lo), (5, .long hi), (7, .int ca), (0, .ref (ad 43)), (1, .int (nI ja)), (2, .int (nI jb))]) hx hb d_Mod_into_286 hl (k := 2) rfl (nI_1 _) (by decide) rfl (fun ls hl => ?_)
                        have hl : lv_has ls 18 [(8, .int (nI 2)), (10, .int (nI (64 * jb + k))), (9, .int (nI jb)), (3, .long lo), (5, .long hi), (7, .int ca), (0, .ref (ad 43)), (1, .int (nI ja)), (2, .int (nI jb))] := hl
                        refine lv_goto (tgt := 34) hx hb d_Mod_into_289 (by decide) ?_
                        refine lv_iload hx hb d_Mod_into_34 (lv_at hl 0 rfl) ?_
                        refine lv_iconst (v := (nI 2)) hx hb d_Mod_into_36 rfl ?_
                        refine lv_icmp_ge (tgt := 292) hx hb d_Mod_into_37 (by decide) (fun h37 => ?_) (fun h37 => ?_)
                        · skip
                          have h37 : 2 ≤ 2 := (nI_leI (a := 2) (b := 2) (by omega) (by omega)).mp h37
                          refine lv_iload hx hb d_Mod_into_292 (lv_at hl 5 rfl) ?_
                          refine lv_if_eq (tgt := 309) hx hb d_Mod_into_294 (by decide) (fun h294 => ?_) (fun h294 => ?_)
                          · skip
                            refine lv_ldc2 (v := (-1)) hx hb hown (hts _ (gm k_528)) d_Mod_into_309 ?_
                            exact q_lret hx hb hr hlocks hK hAm hZ hN (⟨hfr, ⟨_, _, _, _, _, _, _, _, _, hM, hB⟩, (by first | exact inI_e0 hI h294 | exact inI_e1 hI h294 h301 (fun y hy => bo_out hRa.2.1.2 hRb.2.1.2 hy) | exact inI_e2 hI h294 h301 (fun y hy => bo_out hRa.2.1.2 hRb.2.1.2 hy))⟩) d_Mod_into_312
                          · skip
                            refine lv_lload hx hb d_Mod_into_297 (lv_at hl 4 rfl) ?_
                            refine lv_lload_n hx hb d_Mod_into_299 rfl (lv_at hl 3 rfl) ?_
                            refine W.lcmp hx hb d_Mod_into_300 ?_
                            refine lv_if_lt (tgt := 309) hx hb d_Mod_into_301 (by decide) (fun h301 => ?_) (fun h301 => ?_)
                            · skip
                              rw [lg_cmp_lt] at h301
                              refine lv_ldc2 (v := (-1)) hx hb hown (hts _ (gm k_528)) d_Mod_into_309 ?_
                              exact q_lret hx hb hr hlocks hK hAm hZ hN (⟨hfr, ⟨_, _, _, _, _, _, _, _, _, hM, hB⟩, (by first | exact inI_e0 hI h294 | exact inI_e1 hI h294 h301 (fun y hy => bo_out hRa.2.1.2 hRb.2.1.2 hy) | exact inI_e2 hI h294 h301 (fun y hy => bo_out hRa.2.1.2 hRb.2.1.2 hy))⟩) d_Mod_into_312
                            · skip
                              rw [lg_cmp_lt] at h301
                              refine lv_lload hx hb d_Mod_into_304 (lv_at hl 4 rfl) ?_
                              refine lv_goto (tgt := 312) hx hb d_Mod_into_306 (by decide) ?_
                              exact q_lret hx hb hr hlocks hK hAm hZ hN (⟨hfr, ⟨_, _, _, _, _, _, _, _, _, hM, hB⟩, (by first | exact inI_e0 hI h294 | exact inI_e1 hI h294 h301 (fun y hy => bo_out hRa.2.1.2 hRb.2.1.2 hy) | exact inI_e2 hI h294 h301 (fun y hy => bo_out hRa.2.1.2 hRb.2.1.2 hy))⟩) d_Mod_into_312
                        · skip
                          have h37 : 2 < 2 := Nat.lt_of_not_le (fun z9 => h37 ((nI_leI (a := 2) (b := 2) (by omega) (by omega)).mpr z9))
                          exact absurd h37 (by decide)
                      · skip
                        have h74 : (64 * jb + k) < ((64 * jb) + zb) := Nat.lt_of_not_le (fun z9 => h74 ((nI_leI (a := ((64 * jb) + zb)) (b := (64 * jb + k)) (by omega) (by omega)).mpr z9))
                        refine lv_aload_n hx hb d_Mod_into_77 rfl (lv_at hl 6 rfl) ?_
                        refine lv_iload_n hx hb d_Mod_into_78 rfl (lv_at hl 7 rfl) ?_
                        refine lv_aload_n hx hb d_Mod_into_79 rfl (lv_at hl 6 rfl) ?_
                        refine q_get (C := R_Mod) (T := T_Mod) (N := 10) hx hb hts (fun w h => gm (inT_Mod w h)) hown hK hZ (43) (by decide) hM.1 rfl 2 (by decide) (hts _ (gm k_422)) (fun _ h9 => h9) rfl d_Mod_into_80 ?_
                        refine lv_iload hx hb d_Mod_into_83 (lv_at hl 0 rfl) ?_
                        refine q_iald hx hb hK hZ (45) 0 ((64 * jb + k)) (by decide) hM.2.2.1 rfl rfl (by omega) (by decide) d_Mod_into_85 ?_
                        refine lv_aload_n hx hb d_Mod_into_86 rfl (lv_at hl 6 rfl) ?_
                        refine q_get (C := R_Mod) (T := T_Mod) (N := 10) hx hb hts (fun w h => gm (inT_Mod w h)) hown hK hZ (43) (by decide) hM.1 rfl 3 (by decide) (hts _ (gm k_423)) (fun _ h9 => h9) rfl d_Mod_into_87 ?_
                        refine lv_iload hx hb d_Mod_into_90 (lv_at hl 0 rfl) ?_
                        refine q_lald hx hb hK hZ (46) 1 ((64 * jb + k)) (by decide) hM.2.2.2.1 rfl rfl (by omega) (by decide) d_Mod_into_92 ?_
                        refine q_calll (va_runV (As := [.int (nI ja), .int (P (64 * jb + k)), .long (N (64 * jb + k))]) (rest := []) ⟨hx, hb, hml, hown, hts⟩ (c_Mod_valueOf l dC dI cI cL cB ad N0 w88 (nI 0) mn P N A rm rP rN rA bd ja za (F ja) (P (64 * jb + k)) (N (64 * jb + k)) hM hja hza hmna hRa) (cwV 3 hts (gI_V k_485 k_482 k_484 k_10 k_24) rfl rfl rfl (by decide +kernel) ⟨Nat.le_of_ble_eq_true rfl, Nat.le_of_ble_eq_true rfl⟩) (q_preV hK hAm hZ hN [.int (nI ja), .int (P (64 * jb + k)), .long (N (64 * jb + k))] (43) 3 (by decide) hM.1 rfl) rfl rfl hl.1 rfl (lv_room (Nat.le_of_ble_eq_true rfl)) d_Mod_into_93 ⟨Nat.zero_le _, Nat.zero_le _⟩) hZ (fun t9 u_t9 H locs h_t9 hZ => ?_)
                        obtain ⟨e_t9, h_t9⟩ := h_t9
                        rw [e_t9] at hZ
                        refine q_topl (y := F ja (kM P N jb k)) h_t9 ?_
                        refine lv_lstore (lv' := [(11, .long (F ja (kM P N jb k))), (10, .int (nI (64 * jb + k))), (9, .int (nI jb)), (8, .int (nI 1)), (3, .long lo), (5, .long hi), (7, .int ca), (0, .ref (ad 43)), (1, .int (nI ja)), (2, .int (nI jb))]) hx hb d_Mod_into_96 hl (by decide) rfl (fun ls hl => ?_)
                        refine lv_aload_n hx hb d_Mod_into_98 rfl (lv_at hl 7 rfl) ?_
                        refine lv_iload_n hx hb d_Mod_into_99 rfl (lv_at hl 9 rfl) ?_
                        refine lv_aload_n hx hb d_Mod_into_100 rfl (lv_at hl 7 rfl) ?_
                        refine q_get (C := R_Mod) (T := T_Mod) (N := 10) hx hb hts (fun w h => gm (inT_Mod w h)) hown hK hZ (43) (by decide) hM.1 rfl 2 (by decide) (hts _ (gm k_422)) (fun _ h9 => h9) rfl d_Mod_into_101 ?_
                        refine lv_iload hx hb d_Mod_into_104 (lv_at hl 1 rfl) ?_
                        refine q_iald hx hb hK hZ (45) 0 ((64 * jb + k)) (by decide) hM.2.2.1 rfl rfl (by omega) (by decide) d_Mod_into_106 ?_
                        refine lv_aload_n hx hb d_Mod_into_107 rfl (lv_at hl 7 rfl) ?_
                        refine q_get (C := R_Mod) (T := T_Mod) (N := 10) hx hb hts (fun w h => gm (inT_Mod w h)) hown hK hZ (43) (by decide) hM.1 rfl 3 (by decide) (hts _ (gm k_423)) (fun _ h9 => h9) rfl d_Mod_into_108 ?_
                        refine lv_iload hx hb d_Mod_into_111 (lv_at hl 1 rfl) ?_
                        refine q_lald hx hb hK hZ (46) 1 ((64 * jb + k)) (by decide) hM.2.2.2.1 rfl rfl (by omega) (by decide) d_Mod_into_113 ?_
                        refine q_calll (va_runV (As := [.int (nI jb), .int (P (64 * jb + k)), .long (N (64 * jb + k))]) (rest := []) ⟨hx, hb, hml, hown, hts⟩ (c_Mod_valueOf l dC dI cI cL cB ad N0 w88 (nI 0) mn P N A rm rP rN rA bd jb zb (F jb) (P (64 * jb + k)) (N (64 * jb + k)) hM hjb hzb hmnb hRb) (cwV 3 hts (gI_V k_485 k_482 k_484 k_10 k_24) rfl rfl rfl (by decide +kernel) ⟨Nat.le_of_ble_eq_true rfl, Nat.le_of_ble_eq_true rfl⟩) (q_preV hK hAm hZ hN [.int (nI jb), .int (P (64 * jb + k)), .long (N (64 * jb + k))] (43) 3 (by decide) hM.1 rfl) rfl rfl hl.1 rfl (lv_room (Nat.le_of_ble_eq_true rfl)) d_Mod_into_114 ⟨Nat.zero_le _, Nat.zero_le _⟩) hZ (fun t9 u_t9 H locs h_t9 hZ => ?_)
                        obtain ⟨e_t9, h_t9⟩ := h_t9
                        rw [e_t9] at hZ
                        refine q_topl (y := F jb (kM P N jb k)) h_t9 ?_
                        refine lv_lstore (lv' := [(13, .long (F jb (kM P N jb k))), (11, .long (F ja (kM P N jb k))), (10, .int (nI (64 * jb + k))), (9, .int (nI jb)), (8, .int (nI 1)), (3, .long lo), (5, .long hi), (7, .int ca), (0, .ref (ad 43)), (1, .int (nI ja)), (2, .int (nI jb))]) hx hb d_Mod_into_117 hl (by decide) rfl (fun ls hl => ?_)
                        refine lv_lload hx hb d_Mod_into_119 (lv_at hl 0 rfl) ?_
                        refine lv_lconst (v := 0) hx hb d_Mod_into_121 rfl ?_
                        refine W.lcmp hx hb d_Mod_into_122 ?_
                        refine lv_if_lt (tgt := 185) hx hb d_Mod_into_123 (by decide) (fun h123 => ?_) (fun h123 => ?_)
                        · skip
                          rw [lg_cmp_lt] at h123
                          refine lv_lload hx hb d_Mod_into_185 (lv_at hl 1 rfl) ?_
                          refine lv_lconst (v := 0) hx hb d_Mod_into_187 rfl ?_
                          refine W.lcmp hx hb d_Mod_into_188 ?_
                          refine lv_if_ge (tgt := 280) hx hb d_Mod_into_189 (by decide) (fun h189 => ?_) (fun h189 => ?_)
                          · skip
                            rw [lg_cmp_ge] at h189
                            refine lv_iinc (v := (nI ((64 * jb + k) + 1))) (lv' := [(10, .int (nI ((64 * jb + k) + 1))), (13, .long (F jb (kM P N jb k))), (11, .long (F ja (kM P N jb k))), (9, .int (nI jb)), (8, .int (nI 1)), (3, .long lo), (5, .long hi), (7, .int ca), (0, .ref (ad 43)), (1, .int (nI ja)), (2, .int (nI jb))]) hx hb d_Mod_into_280 hl (k := 2) rfl (nI_1 _) (by decide) rfl (fun ls hl => ?_)
                            refine lv_goto (tgt := 59) hx hb d_Mod_into_283 (by decide) ?_
                            exact ih59b (k + 1) lo hi ca _ _ _ (by omega) (by omega) (by first | exact inI_s hI (sB_s (b := kM P N jb)) (ca_1 h128) (hi_1 h149) (lo_1 h123) | exact inI_s hI (sB_s (b := kM P N jb)) (ca_1 h128) (hi_2 h149 h156) (lo_1 h123) | exact inI_s hI (sB_s (b := kM P N jb)) (ca_1 h128) (hi_3 h149 h156 h167) (lo_1 h123) | exact inI_s hI (sB_s (b := kM P N jb)) (ca_1 h128) (hi_4 h149 h156 h167) (lo_1 h123) | exact inI_s hI (sB_s (b := kM P N jb)) (ca_2 h135 h123) (hi_1 h149) (lo_1 h123) | exact inI_s hI (sB_s (b := kM P N jb)) (ca_2 h135 h123) (hi_2 h149 h156) (lo_1 h123) | exact inI_s hI (sB_s (b := kM P N jb)) (ca_2 h135 h123) (hi_3 h149 h156 h167) (lo_1 h123) | exact inI_s hI (sB_s (b := kM P N jb)) (ca_2 h135 h123) (hi_4 h149 h156 h167) (lo_1 h123) | exact inI_s hI (sB_s (b := kM P N jb)) (ca_3 h128 h135 h123) (hi_1 h149) (lo_1 h123) | exact inI_s hI (sB_s (b := kM P N jb)) (ca_3 h128 h135 h123) (hi_2 h149 h156) (lo_1 h123) | exact inI_s hI (sB_s (b := kM P N jb)) (ca_3 h128 h135 h123) (hi_3 h149 h156 h167) (lo_1 h123) | exact inI_s hI (sB_s (b := kM P N jb)) (ca_3 h128 h135 h123) (hi_4 h149 h156 h167) (lo_1 h123) | exact inI_s hI (sB_s (b := kM P N jb)) (ca_k hI h123 h189) (hi_n h123) (lo_2 h189) | exact inI_s hI (sB_s (b := kM P N jb)) (ca_1 h219) (hi_n h123) (lo_3 h189 h123 (fun y => h198 y.1) h255 h270) | exact inI_s hI (sB_s (b := kM P N jb)) (ca_1 h219) (hi_n h123) (lo_4 h189 h123 (fun y => h198 y.1) h255 h270) | exact inI_s hI (sB_s (b := kM P N jb)) (ca_1 h219) (hi_n h123) (lo_5 h189 h123 h255 h270) | exact inI_s hI (sB_s (b := kM P N jb)) (ca_1 h219) (hi_n h123) (lo_6 h189 h123 h255 h270) | exact inI_s hI (sB_s (b := kM P N jb)) (ca_4 h219 h123 (fun y => h198 y.1)) (hi_n h123) (lo_3 h189 h123 (fun y => h198 y.1) h255 h270) | exact inI_s hI (sB_s (b := kM P N jb)) (ca_4 h219 h123 (fun y => h198 y.1)) (hi_n h123) (lo_4 h189 h123 (fun y => h198 y.1) h255 h270) | exact inI_s hI (sB_s (b := kM P N jb)) (ca_4 h219 h123 (fun y => h198 y.1)) (hi_n h123) (lo_5 h189 h123 h255 h270) | exact inI_s hI (sB_s (b := kM P N jb)) (ca_4 h219 h123 (fun y => h198 y.1)) (hi_n h123) (lo_6 h189 h123 h255 h270) | exact inI_s hI (sB_s (b := kM P N jb)) (ca_1 h219) (hi_n h123) (lo_3 h189 h123 (fun y => h207 y.2) h255 h270) | exact inI_s hI (sB_s (b := kM P N jb)) (ca_1 h219) (hi_n h123) (lo_4 h189 h123 (fun y => h207 y.2) h255 h270) | exact inI_s hI (sB_s (b := kM P N jb)) (ca_1 h219) (hi_n h123) (lo_5 h189 h123 h255 h270) | exact inI_s hI (sB_s (b := kM P N jb)) (ca_1 h219) (hi_n h123) (lo_6 h189 h123 h255 h270) | exact inI_s hI (sB_s (b := kM P N jb)) (ca_4 h219 h123 (fun y => h207 y.2)) (hi_n h123) (lo_3 h189 h123 (fun y => h207 y.2) h255 h270) | exact inI_s hI (sB_s (b := kM P N jb)) (ca_4 h219 h123 (fun y => h207 y.2)) (hi_n h123) (lo_4 h189 h123 (fun y => h207 y.2) h255 h270) | exact inI_s hI (sB_s (b := kM P N jb)) (ca_4 h219 h123 (fun y => h207 y.2)) (hi_n h123) (lo_5 h189 h123 h255 h270) | exact inI_s hI (sB_s (b := kM P N jb)) (ca_4 h219 h123 (fun y => h207 y.2)) (hi_n h123) (lo_6 h189 h123 h255 h270) | exact inI_s hI (sB_s (b := kM P N jb)) (ca_1 h219) (hi_n h123) (lo_b h198 h207) | exact inI_s hI (sB_s (b := kM P N jb)) (ca_5 h198 h207) (hi_n h123) (lo_b h198 h207)) hZ (lv_sub hl [0, 3, 4, 5, 6, 7, 8, 9, 10] rfl)
                          · skip
                            rw [lg_cmp_ge] at h189
                            refine lv_lload hx hb d_Mod_into_192 (lv_at hl 1 rfl) ?_
                            refine lv_ldc2 (v := (-9223372036854775808)) hx hb hown (hts _ (gm k_491)) d_Mod_into_194 ?_
                            refine W.lcmp hx hb d_Mod_into_197 ?_
                            refine lv_if_ne (tgt := 214) hx hb d_Mod_into_198 (by decide) (fun h198 => ?_) (fun h198 => ?_)
                            · skip
                              rw [lg_cmp_eq] at h198
                              refine lv_iconst (v := (nI 0)) hx hb d_Mod_into_214 rfl ?_
                              refine lv_istore (lv' := [(15, .int (nI 0)), (13, .long (F jb (kM P N jb k))), (11, .long (F ja (kM P N jb k))), (10, .int (nI (64 * jb + k))), (9, .int (nI jb)), (8, .int (nI 1)), (3, .long lo), (5, .long hi), (7, .int ca), (0, .ref (ad 43)), (1, .int (nI ja)), (2, .int (nI jb))]) hx hb d_Mod_into_215 hl (by decide) rfl (fun ls hl => ?_)
                              refine lv_iload hx hb d_Mod_into_217 (lv_at hl 8 rfl) ?_
                              refine lv_if_eq (tgt := 231) hx hb d_Mod_into_219 (by decide) (fun h219 => ?_) (fun h219 => ?_)
                              · skip
                                refine lv_iconst (v := (nI 0)) hx hb d_Mod_into_231 rfl ?_
                                refine lv_istore (lv' := [(7, .int (nI 0)), (15, .int (nI 0)), (13, .long (F jb (kM P N jb k))), (11, .long (F ja (kM P N jb k))), (10, .int (nI (64 * jb + k))), (9, .int (nI jb)), (8, .int (nI 1)), (3, .long lo), (5, .long hi), (0, .ref (ad 43)), (1, .int (nI ja)), (2, .int (nI jb))]) hx hb d_Mod_into_232 hl (by decide) rfl (fun ls hl => ?_)
                                refine lv_iload hx hb d_Mod_into_234 (lv_at hl 1 rfl) ?_
                                refine lv_if_eq (tgt := 243) hx hb d_Mod_into_236 (by decide) (fun h236 => ?_) (fun h236 => ?_)
                                · skip
                                  have h236 : 0 = 0 := (nI_eq (a := 0) (b := 0) (by omega) (by omega)).mp h236
                                  refine lv_lload hx hb d_Mod_into_243 (lv_at hl 3 rfl) ?_
                                  refine lv_lload hx hb d_Mod_into_245 (lv_at hl 2 rfl) ?_
                                  refine lv_ldiv hx hb d_Mod_into_247 (i64_l0 h123) ?_
                                  refine lv_lload hx hb d_Mod_into_248 (lv_at hl 3 rfl) ?_
                                  refine lv_lload hx hb d_Mod_into_250 (lv_at hl 2 rfl) ?_
                                  refine lv_lrem hx hb d_Mod_into_252 (i64_l0 h123) ?_
                                  refine lv_lconst (v := 0) hx hb d_Mod_into_253 rfl ?_
                                  refine W.lcmp hx hb d_Mod_into_254 ?_
                                  refine lv_if_eq (tgt := 262) hx hb d_Mod_into_255 (by decide) (fun h255 => ?_) (fun h255 => ?_)
                                  · skip
                                    rw [lg_cmp_eq] at h255
                                    refine lv_lconst (v := 0) hx hb d_Mod_into_262 rfl ?_
                                    refine lv_ladd hx hb d_Mod_into_263 ?_
                                    refine lv_lstore (lv' := [(16, .long (((F ja (kM P N jb k)) / (F jb (kM P N jb k))) + 0)), (7, .int (nI 0)), (15, .int (nI 0)), (13, .long (F jb (kM P N jb k))), (11, .long (F ja (kM P N jb k))), (10, .int (nI (64 * jb + k))), (9, .int (nI jb)), (8, .int (nI 1)), (3, .long lo), (5, .long hi), (0, .ref (ad 43)), (1, .int (nI ja)), (2, .int (nI jb))]) hx hb d_Mod_into_264 hl (by decide) rfl (fun ls hl => ?_)
                                    refine lv_lload hx hb d_Mod_into_266 (lv_at hl 0 rfl) ?_
                                    refine lv_lload_n hx hb d_Mod_into_268 rfl (lv_at hl 8 rfl) ?_
                                    refine W.lcmp hx hb d_Mod_into_269 ?_
                                    refine lv_if_le (tgt := 278) hx hb d_Mod_into_270 (by decide) (fun h270 => ?_) (fun h270 => ?_)
                                    · skip
                                      rw [lg_cmp_le] at h270
                                      refine lv_lload_n hx hb d_Mod_into_278 rfl (lv_at hl 8 rfl) ?_
                                      refine lv_lstore_n (lv' := [(3, .long lo), (16, .long (((F ja (kM P N jb k)) / (F jb (kM P N jb k))) + 0)), (7, .int (nI 0)), (15, .int (nI 0)), (13, .long (F jb (kM P N jb k))), (11, .long (F ja (kM P N jb k))), (10, .int (nI (64 * jb + k))), (9, .int (nI jb)), (8, .int (nI 1)), (5, .long hi), (0, .ref (ad 43)), (1, .int (nI ja)), (2, .int (nI jb))]) hx hb d_Mod_into_279 rfl hl (by decide) rfl (fun ls hl => ?_)
                                      refine lv_iinc (v := (nI ((64 * jb + k) + 1))) (lv' := [(10, .int (nI ((64 * jb + k) + 1))), (3, .long lo), (16, .long (((F ja (kM P N jb k)) / (F jb (kM P N jb k))) + 0)), (7, .int (nI 0)), (15, .int (nI 0)), (13, .long (F jb (kM P N jb k))), (11, .long (F ja (kM P N jb k))), (9, .int (nI jb)), (8, .int (nI 1)), (5, .long hi), (0, .ref (ad 43)), (1, .int (nI ja)), (2, .int (nI jb))]) hx hb d_Mod_into_280 hl (k := 6) rfl (nI_1 _) (by decide) rfl (fun ls hl => ?_)
                                      refine lv_goto (tgt := 59) hx hb d_Mod_into_283 (by decide) ?_
                                      exact ih59b (k + 1) lo hi (nI 0) _ _ _ (by omega) (by omega) (by first | exact inI_s hI (sB_s (b := kM P N jb)) (ca_1 h128) (hi_1 h149) (lo_1 h123) | exact inI_s hI (sB_s (b := kM P N jb)) (ca_1 h128) (hi_2 h149 h156) (lo_1 h123) | exact inI_s hI (sB_s (b := kM P N jb)) (ca_1 h128) (hi_3 h149 h156 h167) (lo_1 h123) | exact inI_s hI (sB_s (b := kM P N jb)) (ca_1 h128) (hi_4 h149 h156 h167) (lo_1 h123) | exact inI_s hI (sB_s (b := kM P N jb)) (ca_2 h135 h123) (hi_1 h149) (lo_1 h123) | exact inI_s hI (sB_s (b := kM P N jb)) (ca_2 h135 h123) (hi_2 h149 h156) (lo_1 h123) | exact inI_s hI (sB_s (b := kM P N jb)) (ca_2 h135 h123) (hi_3 h149 h156 h167) (lo_1 h123) | exact inI_s hI (sB_s (b := kM P N jb)) (ca_2 h135 h123) (hi_4 h149 h156 h167) (lo_1 h123) | exact inI_s hI (sB_s (b := kM P N jb)) (ca_3 h128 h135 h123) (hi_1 h149) (lo_1 h123) | exact inI_s hI (sB_s (b := kM P N jb)) (ca_3 h128 h135 h123) (hi_2 h149 h156) (lo_1 h123) | exact inI_s hI (sB_s (b := kM P N jb)) (ca_3 h128 h135 h123) (hi_3 h149 h156 h167) (lo_1 h123) | exact inI_s hI (sB_s (b := kM P N jb)) (ca_3 h128 h135 h123) (hi_4 h149 h156 h167) (lo_1 h123) | exact inI_s hI (sB_s (b := kM P N jb)) (ca_k hI h123 h189) (hi_n h123) (lo_2 h189) | exact inI_s hI (sB_s (b := kM P N jb)) (ca_1 h219) (hi_n h123) (lo_3 h189 h123 (fun y => h198 y.1) h255 h270) | exact inI_s hI (sB_s (b := kM P N jb)) (ca_1 h219) (hi_n h123) (lo_4 h189 h123 (fun y => h198 y.1) h255 h270) | exact inI_s hI (sB_s (b := kM P N jb)) (ca_1 h219) (hi_n h123) (lo_5 h189 h123 h255 h270) | exact inI_s hI (sB_s (b := kM P N jb)) (ca_1 h219) (hi_n h123) (lo_6 h189 h123 h255 h270) | exact inI_s hI (sB_s (b := kM P N jb)) (ca_4 h219 h123 (fun y => h198 y.1)) (hi_n h123) (lo_3 h189 h123 (fun y => h198 y.1) h255 h270) | exact inI_s hI (sB_s (b := kM P N jb)) (ca_4 h219 h123 (fun y => h198 y.1)) (hi_n h123) (lo_4 h189 h123 (fun y => h198 y.1) h255 h270) | exact inI_s hI (sB_s (b := kM P N jb)) (ca_4 h219 h123 (fun y => h198 y.1)) (hi_n h123) (lo_5 h189 h123 h255 h270) | exact inI_s hI (sB_s (b := kM P N jb)) (ca_4 h219 h123 (fun y => h198 y.1)) (hi_n h123) (lo_6 h189 h123 h255 h270) | exact inI_s hI (sB_s (b := kM P N jb)) (ca_1 h219) (hi_n h123) (lo_3 h189 h123 (fun y => h207 y.2) h255 h270) | exact inI_s hI (sB_s (b := kM P N jb)) (ca_1 h219) (hi_n h123) (lo_4 h189 h123 (fun y => h207 y.2) h255 h270) | exact inI_s hI (sB_s (b := kM P N jb)) (ca_1 h219) (hi_n h123) (lo_5 h189 h123 h255 h270) | exact inI_s hI (sB_s (b := kM P N jb)) (ca_1 h219) (hi_n h123) (lo_6 h189 h123 h255 h270) | exact inI_s hI (sB_s (b := kM P N jb)) (ca_4 h219 h123 (fun y => h207 y.2)) (hi_n h123) (lo_3 h189 h123 (fun y => h207 y.2) h255 h270) | exact inI_s hI (sB_s (b := kM P N jb)) (ca_4 h219 h123 (fun y => h207 y.2)) (hi_n h123) (lo_4 h189 h123 (fun y => h207 y.2) h255 h270) | exact inI_s hI (sB_s (b := kM P N jb)) (ca_4 h219 h123 (fun y => h207 y.2)) (hi_n h123) (lo_5 h189 h123 h255 h270) | exact inI_s hI (sB_s (b := kM P N jb)) (ca_4 h219 h123 (fun y => h207 y.2)) (hi_n h123) (lo_6 h189 h123 h255 h270) | exact inI_s hI (sB_s (b := kM P N jb)) (ca_1 h219) (hi_n h123) (lo_b h198 h207) | exact inI_s hI (sB_s (b := kM P N jb)) (ca_5 h198 h207) (hi_n h123) (lo_b h198 h207)) hZ (lv_sub hl [0, 7, 8, 1, 9, 3, 10, 11, 12] rfl)
                                    · skip
                                      rw [lg_cmp_le] at h270
                                      refine lv_lload hx hb d_Mod_into_273 (lv_at hl 0 rfl) ?_
                                      refine lv_goto (tgt := 279) hx hb d_Mod_into_275 (by decide) ?_
                                      refine lv_lstore_n (lv' := [(3, .long (((F ja (kM P N jb k)) / (F jb (kM P N jb k))) + 0)), (16, .long (((F ja (kM P N jb k)) / (F jb (kM P N jb k))) + 0)), (7, .int (nI 0)), (15, .int (nI 0)), (13, .long (F jb (kM P N jb k))), (11, .long (F ja (kM P N jb k))), (10, .int (nI (64 * jb + k))), (9, .int (nI jb)), (8, .int (nI 1)), (5, .long hi), (0, .ref (ad 43)), (1, .int (nI ja)), (2, .int (nI jb))]) hx hb d_Mod_into_279 rfl hl (by decide) rfl (fun ls hl => ?_)
                                      refine lv_iinc (v := (nI ((64 * jb + k) + 1))) (lv' := [(10, .int (nI ((64 * jb + k) + 1))), (3, .long (((F ja (kM P N jb k)) / (F jb (kM P N jb k))) + 0)), (16, .long (((F ja (kM P N jb k)) / (F jb (kM P N jb k))) + 0)), (7, .int (nI 0)), (15, .int (nI 0)), (13, .long (F jb (kM P N jb k))), (11, .long (F ja (kM P N jb k))), (9, .int (nI jb)), (8, .int (nI 1)), (5, .long hi), (0, .ref (ad 43)), (1, .int (nI ja)), (2, .int (nI jb))]) hx hb d_Mod_into_280 hl (k := 6) rfl (nI_1 _) (by decide) rfl (fun ls hl => ?_)
                                      refine lv_goto (tgt := 59) hx hb d_Mod_into_283 (by decide) ?_
                                      exact ih59b (k + 1) (((F ja (kM P N jb k)) / (F jb (kM P N jb k))) + 0) hi (nI 0) _ _ _ (by omega) (by omega) (by first | exact inI_s hI (sB_s (b := kM P N jb)) (ca_1 h128) (hi_1 h149) (lo_1 h123) | exact inI_s hI (sB_s (b := kM P N jb)) (ca_1 h128) (hi_2 h149 h156) (lo_1 h123) | exact inI_s hI (sB_s (b := kM P N jb)) (ca_1 h128) (hi_3 h149 h156 h167) (lo_1 h123) | exact inI_s hI (sB_s (b := kM P N jb)) (ca_1 h128) (hi_4 h149 h156 h167) (lo_1 h123) | exact inI_s hI (sB_s (b := kM P N jb)) (ca_2 h135 h123) (hi_1 h149) (lo_1 h123) | exact inI_s hI (sB_s (b := kM P N jb)) (ca_2 h135 h123) (hi_2 h149 h156) (lo_1 h123) | exact inI_s hI (sB_s (b := kM P N jb)) (ca_2 h135 h123) (hi_3 h149 h156 h167) (lo_1 h123) | exact inI_s hI (sB_s (b := kM P N jb)) (ca_2 h135 h123) (hi_4 h149 h156 h167) (lo_1 h123) | exact inI_s hI (sB_s (b := kM P N jb)) (ca_3 h128 h135 h123) (hi_1 h149) (lo_1 h123) | exact inI_s hI (sB_s (b := kM P N jb)) (ca_3 h128 h135 h123) (hi_2 h149 h156) (lo_1 h123) | exact inI_s hI (sB_s (b := kM P N jb)) (ca_3 h128 h135 h123) (hi_3 h149 h156 h167) (lo_1 h123) | exact inI_s hI (sB_s (b := kM P N jb)) (ca_3 h128 h135 h123) (hi_4 h149 h156 h167) (lo_1 h123) | exact inI_s hI (sB_s (b := kM P N jb)) (ca_k hI h123 h189) (hi_n h123) (lo_2 h189) | exact inI_s hI (sB_s (b := kM P N jb)) (ca_1 h219) (hi_n h123) (lo_3 h189 h123 (fun y => h198 y.1) h255 h270) | exact inI_s hI (sB_s (b := kM P N jb)) (ca_1 h219) (hi_n h123) (lo_4 h189 h123 (fun y => h198 y.1) h255 h270) | exact inI_s hI (sB_s (b := kM P N jb)) (ca_1 h219) (hi_n h123) (lo_5 h189 h123 h255 h270) | exact inI_s hI (sB_s (b := kM P N jb)) (ca_1 h219) (hi_n h123) (lo_6 h189 h123 h255 h270) | exact inI_s hI (sB_s (b := kM P N jb)) (ca_4 h219 h123 (fun y => h198 y.1)) (hi_n h123) (lo_3 h189 h123 (fun y => h198 y.1) h255 h270) | exact inI_s hI (sB_s (b := kM P N jb)) (ca_4 h219 h123 (fun y => h198 y.1)) (hi_n h123) (lo_4 h189 h123 (fun y => h198 y.1) h255 h270) | exact inI_s hI (sB_s (b := kM P N jb)) (ca_4 h219 h123 (fun y => h198 y.1)) (hi_n h123) (lo_5 h189 h123 h255 h270) | exact inI_s hI (sB_s (b := kM P N jb)) (ca_4 h219 h123 (fun y => h198 y.1)) (hi_n h123) (lo_6 h189 h123 h255 h270) | exact inI_s hI (sB_s (b := kM P N jb)) (ca_1 h219) (hi_n h123) (lo_3 h189 h123 (fun y => h207 y.2) h255 h270) | exact inI_s hI (sB_s (b := kM P N jb)) (ca_1 h219) (hi_n h123) (lo_4 h189 h123 (fun y => h207 y.2) h255 h270) | exact inI_s hI (sB_s (b := kM P N jb)) (ca_1 h219) (hi_n h123) (lo_5 h189 h123 h255 h270) | exact inI_s hI (sB_s (b := kM P N jb)) (ca_1 h219) (hi_n h123) (lo_6 h189 h123 h255 h270) | exact inI_s hI (sB_s (b := kM P N jb)) (ca_4 h219 h123 (fun y => h207 y.2)) (hi_n h123) (lo_3 h189 h123 (fun y => h207 y.2) h255 h270) | exact inI_s hI (sB_s (b := kM P N jb)) (ca_4 h219 h123 (fun y => h207 y.2)) (hi_n h123) (lo_4 h189 h123 (fun y => h207 y.2) h255 h270) | exact inI_s hI (sB_s (b := kM P N jb)) (ca_4 h219 h123 (fun y => h207 y.2)) (hi_n h123) (lo_5 h189 h123 h255 h270) | exact inI_s hI (sB_s (b := kM P N jb)) (ca_4 h219 h123 (fun y => h207 y.2)) (hi_n h123) (lo_6 h189 h123 h255 h270) | exact inI_s hI (sB_s (b := kM P N jb)) (ca_1 h219) (hi_n h123) (lo_b h198 h207) | exact inI_s hI (sB_s (b := kM P N jb)) (ca_5 h198 h207) (hi_n h123) (lo_b h198 h207)) hZ (lv_sub hl [0, 7, 8, 1, 9, 3, 10, 11, 12] rfl)
                                  · skip
                                    rw [lg_cmp_eq] at h255
                                    refine lv_lconst (v := 1) hx hb d_Mod_into_258 rfl ?_
                                    refine lv_goto (tgt := 263) hx hb d_Mod_into_259 (by decide) ?_
                                    refine lv_ladd hx hb d_Mod_into_263 ?_
                                    refine lv_lstore (lv' := [(16, .long (((F ja (kM P N jb k)) / (F jb (kM P N jb k))) + 1)), (7, .int (nI 0)), (15, .int (nI 0)), (13, .long (F jb (kM P N jb k))), (11, .long (F ja (kM P N jb k))), (10, .int (nI (64 * jb + k))), (9, .int (nI jb)), (8, .int (nI 1)), (3, .long lo), (5, .long hi), (0, .ref (ad 43)), (1, .int (nI ja)), (2, .int (nI jb))]) hx hb d_Mod_into_264 hl (by decide) rfl (fun ls hl => ?_)
                                    refine lv_lload hx hb d_Mod_into_266 (lv_at hl 0 rfl) ?_
                                    refine lv_lload_n hx hb d_Mod_into_268 rfl (lv_at hl 8 rfl) ?_
                                    refine W.lcmp hx hb d_Mod_into_269 ?_
                                    refine lv_if_le (tgt := 278) hx hb d_Mod_into_270 (by decide) (fun h270 => ?_) (fun h270 => ?_)
                                    · skip
                                      rw [lg_cmp_le] at h270
                                      refine lv_lload_n hx hb d_Mod_into_278 rfl (lv_at hl 8 rfl) ?_
                                      refine lv_lstore_n (lv' := [(3, .long lo), (16, .long (((F ja (kM P N jb k)) / (F jb (kM P N jb k))) + 1)), (7, .int (nI 0)), (15, .int (nI 0)), (13, .long (F jb (kM P N jb k))), (11, .long (F ja (kM P N jb k))), (10, .int (nI (64 * jb + k))), (9, .int (nI jb)), (8, .int (nI 1)), (5, .long hi), (0, .ref (ad 43)), (1, .int (nI ja)), (2, .int (nI jb))]) hx hb d_Mod_into_279 rfl hl (by decide) rfl (fun ls hl => ?_)
                                      refine lv_iinc (v := (nI ((64 * jb + k) + 1))) (lv' := [(10, .int (nI ((64 * jb + k) + 1))), (3, .long lo), (16, .long (((F ja (kM P N jb k)) / (F jb (kM P N jb k))) + 1)), (7, .int (nI 0)), (15, .int (nI 0)), (13, .long (F jb (kM P N jb k))), (11, .long (F ja (kM P N jb k))), (9, .int (nI jb)), (8, .int (nI 1)), (5, .long hi), (0, .ref (ad 43)), (1, .int (nI ja)), (2, .int (nI jb))]) hx hb d_Mod_into_280 hl (k := 6) rfl (nI_1 _) (by decide) rfl (fun ls hl => ?_)
                                      refine lv_goto (tgt := 59) hx hb d_Mod_into_283 (by decide) ?_
                                      exact ih59b (k + 1) lo hi (nI 0) _ _ _ (by omega) (by omega) (by first | exact inI_s hI (sB_s (b := kM P N jb)) (ca_1 h128) (hi_1 h149) (lo_1 h123) | exact inI_s hI (sB_s (b := kM P N jb)) (ca_1 h128) (hi_2 h149 h156) (lo_1 h123) | exact inI_s hI (sB_s (b := kM P N jb)) (ca_1 h128) (hi_3 h149 h156 h167) (lo_1 h123) | exact inI_s hI (sB_s (b := kM P N jb)) (ca_1 h128) (hi_4 h149 h156 h167) (lo_1 h123) | exact inI_s hI (sB_s (b := kM P N jb)) (ca_2 h135 h123) (hi_1 h149) (lo_1 h123) | exact inI_s hI (sB_s (b := kM P N jb)) (ca_2 h135 h123) (hi_2 h149 h156) (lo_1 h123) | exact inI_s hI (sB_s (b := kM P N jb)) (ca_2 h135 h123) (hi_3 h149 h156 h167) (lo_1 h123) | exact inI_s hI (sB_s (b := kM P N jb)) (ca_2 h135 h123) (hi_4 h149 h156 h167) (lo_1 h123) | exact inI_s hI (sB_s (b := kM P N jb)) (ca_3 h128 h135 h123) (hi_1 h149) (lo_1 h123) | exact inI_s hI (sB_s (b := kM P N jb)) (ca_3 h128 h135 h123) (hi_2 h149 h156) (lo_1 h123) | exact inI_s hI (sB_s (b := kM P N jb)) (ca_3 h128 h135 h123) (hi_3 h149 h156 h167) (lo_1 h123) | exact inI_s hI (sB_s (b := kM P N jb)) (ca_3 h128 h135 h123) (hi_4 h149 h156 h167) (lo_1 h123) | exact inI_s hI (sB_s (b := kM P N jb)) (ca_k hI h123 h189) (hi_n h123) (lo_2 h189) | exact inI_s hI (sB_s (b := kM P N jb)) (ca_1 h219) (hi_n h123) (lo_3 h189 h123 (fun y => h198 y.1) h255 h270) | exact inI_s hI (sB_s (b := kM P N jb)) (ca_1 h219) (hi_n h123) (lo_4 h189 h123 (fun y => h198 y.1) h255 h270) | exact inI_s hI (sB_s (b := kM P N jb)) (ca_1 h219) (hi_n h123) (lo_5 h189 h123 h255 h270) | exact inI_s hI (sB_s (b := kM P N jb)) (ca_1 h219) (hi_n h123) (lo_6 h189 h123 h255 h270) | exact inI_s hI (sB_s (b := kM P N jb)) (ca_4 h219 h123 (fun y => h198 y.1)) (hi_n h123) (lo_3 h189 h123 (fun y => h198 y.1) h255 h270) | exact inI_s hI (sB_s (b := kM P N jb)) (ca_4 h219 h123 (fun y => h198 y.1)) (hi_n h123) (lo_4 h189 h123 (fun y => h198 y.1) h255 h270) | exact inI_s hI (sB_s (b := kM P N jb)) (ca_4 h219 h123 (fun y => h198 y.1)) (hi_n h123) (lo_5 h189 h123 h255 h270) | exact inI_s hI (sB_s (b := kM P N jb)) (ca_4 h219 h123 (fun y => h198 y.1)) (hi_n h123) (lo_6 h189 h123 h255 h270) | exact inI_s hI (sB_s (b := kM P N jb)) (ca_1 h219) (hi_n h123) (lo_3 h189 h123 (fun y => h207 y.2) h255 h270) | exact inI_s hI (sB_s (b := kM P N jb)) (ca_1 h219) (hi_n h123) (lo_4 h189 h123 (fun y => h207 y.2) h255 h270) | exact inI_s hI (sB_s (b := kM P N jb)) (ca_1 h219) (hi_n h123) (lo_5 h189 h123 h255 h270) | exact inI_s hI (sB_s (b := kM P N jb)) (ca_1 h219) (hi_n h123) (lo_6 h189 h123 h255 h270) | exact inI_s hI (sB_s (b := kM P N jb)) (ca_4 h219 h123 (fun y => h207 y.2)) (hi_n h123) (lo_3 h189 h123 (fun y => h207 y.2) h255 h270) | exact inI_s hI (sB_s (b := kM P N jb)) (ca_4 h219 h123 (fun y => h207 y.2)) (hi_n h123) (lo_4 h189 h123 (fun y => h207 y.2) h255 h270) | exact inI_s hI (sB_s (b := kM P N jb)) (ca_4 h219 h123 (fun y => h207 y.2)) (hi_n h123) (lo_5 h189 h123 h255 h270) | exact inI_s hI (sB_s (b := kM P N jb)) (ca_4 h219 h123 (fun y => h207 y.2)) (hi_n h123) (lo_6 h189 h123 h255 h270) | exact inI_s hI (sB_s (b := kM P N jb)) (ca_1 h219) (hi_n h123) (lo_b h198 h207) | exact inI_s hI (sB_s (b := kM P N jb)) (ca_5 h198 h207) (hi_n h123) (lo_b h198 h207)) hZ (lv_sub hl [0, 7, 8, 1, 9, 3, 10, 11, 12] rfl)
                                    · skip
                                      rw [lg_cmp_le] at h270
                                      refine lv_lload hx hb d_Mod_into_273 (lv_at hl 0 rfl) ?_
                                      refine lv_goto (tgt := 279) hx hb d_Mod_into_275 (by decide) ?_
                                      refine lv_lstore_n (lv' := [(3, .long (((F ja (kM P N jb k)) / (F jb (kM P N jb k))) + 1)), (16, .long (((F ja (kM P N jb k)) / (F jb (kM P N jb k))) + 1)), (7, .int (nI 0)), (15, .int (nI 0)), (13, .long (F jb (kM P N jb k))), (11, .long (F ja (kM P N jb k))), (10, .int (nI (64 * jb + k))), (9, .int (nI jb)), (8, .int (nI 1)), (5, .long hi), (0, .ref (ad 43)), (1, .int (nI ja)), (2, .int (nI jb))]) hx hb d_Mod_into_279 rfl hl (by decide) rfl (fun ls hl => ?_)
                                      refine lv_iinc (v := (nI ((64 * jb + k) + 1))) (lv' := [(10, .int (nI ((64 * jb + k) + 1))), (3, .long (((F ja (kM P N jb k)) / (F jb (kM P N jb k))) + 1)), (16, .long (((F ja (kM P N jb k)) / (F jb (kM P N jb k))) + 1)), (7, .int (nI 0)), (15, .int (nI 0)), (13, .long (F jb (kM P N jb k))), (11, .long (F ja (kM P N jb k))), (9, .int (nI jb)), (8, .int (nI 1)), (5, .long hi), (0, .ref (ad 43)), (1, .int (nI ja)), (2, .int (nI jb))]) hx hb d_Mod_into_280 hl (k := 6) rfl (nI_1 _) (by decide) rfl (fun ls hl => ?_)
                                      refine lv_goto (tgt := 59) hx hb d_Mod_into_283 (by decide) ?_
                                      exact ih59b (k + 1) (((F ja (kM P N jb k)) / (F jb (kM P N jb k))) + 1) hi (nI 0) _ _ _ (by omega) (by omega) (by first | exact inI_s hI (sB_s (b := kM P N jb)) (ca_1 h128) (hi_1 h149) (lo_1 h123) | exact inI_s hI (sB_s (b := kM P N jb)) (ca_1 h128) (hi_2 h149 h156) (lo_1 h123) | exact inI_s hI (sB_s (b := kM P N jb)) (ca_1 h128) (hi_3 h149 h156 h167) (lo_1 h123) | exact inI_s hI (sB_s (b := kM P N jb)) (ca_1 h128) (hi_4 h149 h156 h167) (lo_1 h123) | exact inI_s hI (sB_s (b := kM P N jb)) (ca_2 h135 h123) (hi_1 h149) (lo_1 h123) | exact inI_s hI (sB_s (b := kM P N jb)) (ca_2 h135 h123) (hi_2 h149 h156) (lo_1 h123) | exact inI_s hI (sB_s (b := kM P N jb)) (ca_2 h135 h123) (hi_3 h149 h156 h167) (lo_1 h123) | exact inI_s hI (sB_s (b := kM P N jb)) (ca_2 h135 h123) (hi_4 h149 h156 h167) (lo_1 h123) | exact inI_s hI (sB_s (b := kM P N jb)) (ca_3 h128 h135 h123) (hi_1 h149) (lo_1 h123) | exact inI_s hI (sB_s (b := kM P N jb)) (ca_3 h128 h135 h123) (hi_2 h149 h156) (lo_1 h123) | exact inI_s hI (sB_s (b := kM P N jb)) (ca_3 h128 h135 h123) (hi_3 h149 h156 h167) (lo_1 h123) | exact inI_s hI (sB_s (b := kM P N jb)) (ca_3 h128 h135 h123) (hi_4 h149 h156 h167) (lo_1 h123) | exact inI_s hI (sB_s (b := kM P N jb)) (ca_k hI h123 h189) (hi_n h123) (lo_2 h189) | exact inI_s hI (sB_s (b := kM P N jb)) (ca_1 h219) (hi_n h123) (lo_3 h189 h123 (fun y => h198 y.1) h255 h270) | exact inI_s hI (sB_s (b := kM P N jb)) (ca_1 h219) (hi_n h123) (lo_4 h189 h123 (fun y => h198 y.1) h255 h270) | exact inI_s hI (sB_s (b := kM P N jb)) (ca_1 h219) (hi_n h123) (lo_5 h189 h123 h255 h270) | exact inI_s hI (sB_s (b := kM P N jb)) (ca_1 h219) (hi_n h123) (lo_6 h189 h123 h255 h270) | exact inI_s hI (sB_s (b := kM P N jb)) (ca_4 h219 h123 (fun y => h198 y.1)) (hi_n h123) (lo_3 h189 h123 (fun y => h198 y.1) h255 h270) | exact inI_s hI (sB_s (b := kM P N jb)) (ca_4 h219 h123 (fun y => h198 y.1)) (hi_n h123) (lo_4 h189 h123 (fun y => h198 y.1) h255 h270) | exact inI_s hI (sB_s (b := kM P N jb)) (ca_4 h219 h123 (fun y => h198 y.1)) (hi_n h123) (lo_5 h189 h123 h255 h270) | exact inI_s hI (sB_s (b := kM P N jb)) (ca_4 h219 h123 (fun y => h198 y.1)) (hi_n h123) (lo_6 h189 h123 h255 h270) | exact inI_s hI (sB_s (b := kM P N jb)) (ca_1 h219) (hi_n h123) (lo_3 h189 h123 (fun y => h207 y.2) h255 h270) | exact inI_s hI (sB_s (b := kM P N jb)) (ca_1 h219) (hi_n h123) (lo_4 h189 h123 (fun y => h207 y.2) h255 h270) | exact inI_s hI (sB_s (b := kM P N jb)) (ca_1 h219) (hi_n h123) (lo_5 h189 h123 h255 h270) | exact inI_s hI (sB_s (b := kM P N jb)) (ca_1 h219) (hi_n h123) (lo_6 h189 h123 h255 h270) | exact inI_s hI (sB_s (b := kM P N jb)) (ca_4 h219 h123 (fun y => h207 y.2)) (hi_n h123) (lo_3 h189 h123 (fun y => h207 y.2) h255 h270) | exact inI_s hI (sB_s (b := kM P N jb)) (ca_4 h219 h123 (fun y => h207 y.2)) (hi_n h123) (lo_4 h189 h123 (fun y => h207 y.2) h255 h270) | exact inI_s hI (sB_s (b := kM P N jb)) (ca_4 h219 h123 (fun y => h207 y.2)) (hi_n h123) (lo_5 h189 h123 h255 h270) | exact inI_s hI (sB_s (b := kM P N jb)) (ca_4 h219 h123 (fun y => h207 y.2)) (hi_n h123) (lo_6 h189 h123 h255 h270) | exact inI_s hI (sB_s (b := kM P N jb)) (ca_1 h219) (hi_n h123) (lo_b h198 h207) | exact inI_s hI (sB_s (b := kM P N jb)) (ca_5 h198 h207) (hi_n h123) (lo_b h198 h207)) hZ (lv_sub hl [0, 7, 8, 1, 9, 3, 10, 11, 12] rfl)
                                · skip
                                  have h236 : ¬ 0 = 0 := fun z9 => h236 ((nI_eq (a := 0) (b := 0) (by omega) (by omega)).mpr z9)
                                  exact absurd h236 (by decide)
                              · skip
                                refine lv_iload hx hb d_Mod_into_222 (lv_at hl 0 rfl) ?_
                                refine lv_if_ne (tgt := 231) hx hb d_Mod_into_224 (by decide) (fun h224 => ?_) (fun h224 => ?_)
                                · skip
                                  have h224 : ¬ 0 = 0 := fun z9 => h224 ((nI_eq (a := 0) (b := 0) (by omega) (by omega)).mpr z9)
                                  exact absurd h224 (by decide)
                                · skip
                                  have h224 : 0 = 0 := (nI_eq (a := 0) (b := 0) (by omega) (by omega)).mp h224
                                  refine lv_iconst (v := (nI 1)) hx hb d_Mod_into_227 rfl ?_
                                  refine lv_goto (tgt := 232) hx hb d_Mod_into_228 (by decide) ?_
                                  refine lv_istore (lv' := [(7, .int (nI 1)), (15, .int (nI 0)), (13, .long (F jb (kM P N jb k))), (11, .long (F ja (kM P N jb k))), (10, .int (nI (64 * jb + k))), (9, .int (nI jb)), (8, .int (nI 1)), (3, .long lo), (5, .long hi), (0, .ref (ad 43)), (1, .int (nI ja)), (2, .int (nI jb))]) hx hb d_Mod_into_232 hl (by decide) rfl (fun ls hl => ?_)
                                  refine lv_iload hx hb d_Mod_into_234 (lv_at hl 1 rfl) ?_
                                  refine lv_if_eq (tgt := 243) hx hb d_Mod_into_236 (by decide) (fun h236 => ?_) (fun h236 => ?_)
                                  · skip
                                    have h236 : 0 = 0 := (nI_eq (a := 0) (b := 0) (by omega) (by omega)).mp h236
                                    refine lv_lload hx hb d_Mod_into_243 (lv_at hl 3 rfl) ?_
                                    refine lv_lload hx hb d_Mod_into_245 (lv_at hl 2 rfl) ?_
                                    refine lv_ldiv hx hb d_Mod_into_247 (i64_l0 h123) ?_
                                    refine lv_lload hx hb d_Mod_into_248 (lv_at hl 3 rfl) ?_
                                    refine lv_lload hx hb d_Mod_into_250 (lv_at hl 2 rfl) ?_
                                    refine lv_lrem hx hb d_Mod_into_252 (i64_l0 h123) ?_
                                    refine lv_lconst (v := 0) hx hb d_Mod_into_253 rfl ?_
                                    refine W.lcmp hx hb d_Mod_into_254 ?_
                                    refine lv_if_eq (tgt := 262) hx hb d_Mod_into_255 (by decide) (fun h255 => ?_) (fun h255 => ?_)
                                    · skip
                                      rw [lg_cmp_eq] at h255
                                      refine lv_lconst (v := 0) hx hb d_Mod_into_262 rfl ?_
                                      refine lv_ladd hx hb d_Mod_into_263 ?_
                                      refine lv_lstore (lv' := [(16, .long (((F ja (kM P N jb k)) / (F jb (kM P N jb k))) + 0)), (7, .int (nI 1)), (15, .int (nI 0)), (13, .long (F jb (kM P N jb k))), (11, .long (F ja (kM P N jb k))), (10, .int (nI (64 * jb + k))), (9, .int (nI jb)), (8, .int (nI 1)), (3, .long lo), (5, .long hi), (0, .ref (ad 43)), (1, .int (nI ja)), (2, .int (nI jb))]) hx hb d_Mod_into_264 hl (by decide) rfl (fun ls hl => ?_)
                                      refine lv_lload hx hb d_Mod_into_266 (lv_at hl 0 rfl) ?_
                                      refine lv_lload_n hx hb d_Mod_into_268 rfl (lv_at hl 8 rfl) ?_
                                      refine W.lcmp hx hb d_Mod_into_269 ?_
                                      refine lv_if_le (tgt := 278) hx hb d_Mod_into_270 (by decide) (fun h270 => ?_) (fun h270 => ?_)
                                      · skip
                                        rw [lg_cmp_le] at h270
                                        refine lv_lload_n hx hb d_Mod_into_278 rfl (lv_at hl 8 rfl) ?_
                                        refine lv_lstore_n (lv' := [(3, .long lo), (16, .long (((F ja (kM P N jb k)) / (F jb (kM P N jb k))) + 0)), (7, .int (nI 1)), (15, .int (nI 0)), (13, .long (F jb (kM P N jb k))), (11, .long (F ja (kM P N jb k))), (10, .int (nI (64 * jb + k))), (9, .int (nI jb)), (8, .int (nI 1)), (5, .long hi), (0, .ref (ad 43)), (1, .int (nI ja)), (2, .int (nI jb))]) hx hb d_Mod_into_279 rfl hl (by decide) rfl (fun ls hl => ?_)
                                        refine lv_iinc (v := (nI ((64 * jb + k) + 1))) (lv' := [(10, .int (nI ((64 * jb + k) + 1))), (3, .long lo), (16, .long (((F ja (kM P N jb k)) / (F jb (kM P N jb k))) + 0)), (7, .int (nI 1)), (15, .int (nI 0)), (13, .long (F jb (kM P N jb k))), (11, .long (F ja (kM P N jb k))), (9, .int (nI jb)), (8, .int (nI 1)), (5, .long hi), (0, .ref (ad 43)), (1, .int (nI ja)), (2, .int (nI jb))]) hx hb d_Mod_into_280 hl (k := 6) rfl (nI_1 _) (by decide) rfl (fun ls hl => ?_)
                                        refine lv_goto (tgt := 59) hx hb d_Mod_into_283 (by decide) ?_
                                        exact ih59b (k + 1) lo hi (nI 1) _ _ _ (by omega) (by omega) (by first | exact inI_s hI (sB_s (b := kM P N jb)) (ca_1 h128) (hi_1 h149) (lo_1 h123) | exact inI_s hI (sB_s (b := kM P N jb)) (ca_1 h128) (hi_2 h149 h156) (lo_1 h123) | exact inI_s hI (sB_s (b := kM P N jb)) (ca_1 h128) (hi_3 h149 h156 h167) (lo_1 h123) | exact inI_s hI (sB_s (b := kM P N jb)) (ca_1 h128) (hi_4 h149 h156 h167) (lo_1 h123) | exact inI_s hI (sB_s (b := kM P N jb)) (ca_2 h135 h123) (hi_1 h149) (lo_1 h123) | exact inI_s hI (sB_s (b := kM P N jb)) (ca_2 h135 h123) (hi_2 h149 h156) (lo_1 h123) | exact inI_s hI (sB_s (b := kM P N jb)) (ca_2 h135 h123) (hi_3 h149 h156 h167) (lo_1 h123) | exact inI_s hI (sB_s (b := kM P N jb)) (ca_2 h135 h123) (hi_4 h149 h156 h167) (lo_1 h123) | exact inI_s hI (sB_s (b := kM P N jb)) (ca_3 h128 h135 h123) (hi_1 h149) (lo_1 h123) | exact inI_s hI (sB_s (b := kM P N jb)) (ca_3 h128 h135 h123) (hi_2 h149 h156) (lo_1 h123) | exact inI_s hI (sB_s (b := kM P N jb)) (ca_3 h128 h135 h123) (hi_3 h149 h156 h167) (lo_1 h123) | exact inI_s hI (sB_s (b := kM P N jb)) (ca_3 h128 h135 h123) (hi_4 h149 h156 h167) (lo_1 h123) | exact inI_s hI (sB_s (b := kM P N jb)) (ca_k hI h123 h189) (hi_n h123) (lo_2 h189) | exact inI_s hI (sB_s (b := kM P N jb)) (ca_1 h219) (hi_n h123) (lo_3 h189 h123 (fun y => h198 y.1) h255 h270) | exact inI_s hI (sB_s (b := kM P N jb)) (ca_1 h219) (hi_n h123) (lo_4 h189 h123 (fun y => h198 y.1) h255 h270) | exact inI_s hI (sB_s (b := kM P N jb)) (ca_1 h219) (hi_n h123) (lo_5 h189 h123 h255 h270) | exact inI_s hI (sB_s (b := kM P N jb)) (ca_1 h219) (hi_n h123) (lo_6 h189 h123 h255 h270) | exact inI_s hI (sB_s (b := kM P N jb)) (ca_4 h219 h123 (fun y => h198 y.1)) (hi_n h123) (lo_3 h189 h123 (fun y => h198 y.1) h255 h270) | exact inI_s hI (sB_s (b := kM P N jb)) (ca_4 h219 h123 (fun y => h198 y.1)) (hi_n h123) (lo_4 h189 h123 (fun y => h198 y.1) h255 h270) | exact inI_s hI (sB_s (b := kM P N jb)) (ca_4 h219 h123 (fun y => h198 y.1)) (hi_n h123) (lo_5 h189 h123 h255 h270) | exact inI_s hI (sB_s (b := kM P N jb)) (ca_4 h219 h123 (fun y => h198 y.1)) (hi_n h123) (lo_6 h189 h123 h255 h270) | exact inI_s hI (sB_s (b := kM P N jb)) (ca_1 h219) (hi_n h123) (lo_3 h189 h123 (fun y => h207 y.2) h255 h270) | exact inI_s hI (sB_s (b := kM P N jb)) (ca_1 h219) (hi_n h123) (lo_4 h189 h123 (fun y => h207 y.2) h255 h270) | exact inI_s hI (sB_s (b := kM P N jb)) (ca_1 h219) (hi_n h123) (lo_5 h189 h123 h255 h270) | exact inI_s hI (sB_s (b := kM P N jb)) (ca_1 h219) (hi_n h123) (lo_6 h189 h123 h255 h270) | exact inI_s hI (sB_s (b := kM P N jb)) (ca_4 h219 h123 (fun y => h207 y.2)) (hi_n h123) (lo_3 h189 h123 (fun y => h207 y.2) h255 h270) | exact inI_s hI (sB_s (b := kM P N jb)) (ca_4 h219 h123 (fun y => h207 y.2)) (hi_n h123) (lo_4 h189 h123 (fun y => h207 y.2) h255 h270) | exact inI_s hI (sB_s (b := kM P N jb)) (ca_4 h219 h123 (fun y => h207 y.2)) (hi_n h123) (lo_5 h189 h123 h255 h270) | exact inI_s hI (sB_s (b := kM P N jb)) (ca_4 h219 h123 (fun y => h207 y.2)) (hi_n h123) (lo_6 h189 h123 h255 h270) | exact inI_s hI (sB_s (b := kM P N jb)) (ca_1 h219) (hi_n h123) (lo_b h198 h207) | exact inI_s hI (sB_s (b := kM P N jb)) (ca_5 h198 h207) (hi_n h123) (lo_b h198 h207)) hZ (lv_sub hl [0, 7, 8, 1, 9, 3, 10, 11, 12] rfl)
                                      · skip
                                        rw [lg_cmp_le] at h270
                                        refine lv_lload hx hb d_Mod_into_273 (lv_at hl 0 rfl) ?_
                                        refine lv_goto (tgt := 279) hx hb d_Mod_into_275 (by decide) ?_
                                        refine lv_lstore_n (lv' := [(3, .long (((F ja (kM P N jb k)) / (F jb (kM P N jb k))) + 0)), (16, .long (((F ja (kM P N jb k)) / (F jb (kM P N jb k))) + 0)), (7, .int (nI 1)), (15, .int (nI 0)), (13, .long (F jb (kM P N jb k))), (11, .long (F ja (kM P N jb k))), (10, .int (nI (64 * jb + k))), (9, .int (nI jb)), (8, .int (nI 1)), (5, .long hi), (0, .ref (ad 43)), (1, .int (nI ja)), (2, .int (nI jb))]) hx hb d_Mod_into_279 rfl hl (by decide) rfl (fun ls hl => ?_)
                                        refine lv_iinc (v := (nI ((64 * jb + k) + 1))) (lv' := [(10, .int (nI ((64 * jb + k) + 1))), (3, .long (((F ja (kM P N jb k)) / (F jb (kM P N jb k))) + 0)), (16, .long (((F ja (kM P N jb k)) / (F jb (kM P N jb k))) + 0)), (7, .int (nI 1)), (15, .int (nI 0)), (13, .long (F jb (kM P N jb k))), (11, .long (F ja (kM P N jb k))), (9, .int (nI jb)), (8, .int (nI 1)), (5, .long hi), (0, .ref (ad 43)), (1, .int (nI ja)), (2, .int (nI jb))]) hx hb d_Mod_into_280 hl (k := 6) rfl (nI_1 _) (by decide) rfl (fun ls hl => ?_)
                                        refine lv_goto (tgt := 59) hx hb d_Mod_into_283 (by decide) ?_
                                        exact ih59b (k + 1) (((F ja (kM P N jb k)) / (F jb (kM P N jb k))) + 0) hi (nI 1) _ _ _ (by omega) (by omega) (by first | exact inI_s hI (sB_s (b := kM P N jb)) (ca_1 h128) (hi_1 h149) (lo_1 h123) | exact inI_s hI (sB_s (b := kM P N jb)) (ca_1 h128) (hi_2 h149 h156) (lo_1 h123) | exact inI_s hI (sB_s (b := kM P N jb)) (ca_1 h128) (hi_3 h149 h156 h167) (lo_1 h123) | exact inI_s hI (sB_s (b := kM P N jb)) (ca_1 h128) (hi_4 h149 h156 h167) (lo_1 h123) | exact inI_s hI (sB_s (b := kM P N jb)) (ca_2 h135 h123) (hi_1 h149) (lo_1 h123) | exact inI_s hI (sB_s (b := kM P N jb)) (ca_2 h135 h123) (hi_2 h149 h156) (lo_1 h123) | exact inI_s hI (sB_s (b := kM P N jb)) (ca_2 h135 h123) (hi_3 h149 h156 h167) (lo_1 h123) | exact inI_s hI (sB_s (b := kM P N jb)) (ca_2 h135 h123) (hi_4 h149 h156 h167) (lo_1 h123) | exact inI_s hI (sB_s (b := kM P N jb)) (ca_3 h128 h135 h123) (hi_1 h149) (lo_1 h123) | exact inI_s hI (sB_s (b := kM P N jb)) (ca_3 h128 h135 h123) (hi_2 h149 h156) (lo_1 h123) | exact inI_s hI (sB_s (b := kM P N jb)) (ca_3 h128 h135 h123) (hi_3 h149 h156 h167) (lo_1 h123) | exact inI_s hI (sB_s (b := kM P N jb)) (ca_3 h128 h135 h123) (hi_4 h149 h156 h167) (lo_1 h123) | exact inI_s hI (sB_s (b := kM P N jb)) (ca_k hI h123 h189) (hi_n h123) (lo_2 h189) | exact inI_s hI (sB_s (b := kM P N jb)) (ca_1 h219) (hi_n h123) (lo_3 h189 h123 (fun y => h198 y.1) h255 h270) | exact inI_s hI (sB_s (b := kM P N jb)) (ca_1 h219) (hi_n h123) (lo_4 h189 h123 (fun y => h198 y.1) h255 h270) | exact inI_s hI (sB_s (b := kM P N jb)) (ca_1 h219) (hi_n h123) (lo_5 h189 h123 h255 h270) | exact inI_s hI (sB_s (b := kM P N jb)) (ca_1 h219) (hi_n h123) (lo_6 h189 h123 h255 h270) | exact inI_s hI (sB_s (b := kM P N jb)) (ca_4 h219 h123 (fun y => h198 y.1)) (hi_n h123) (lo_3 h189 h123 (fun y => h198 y.1) h255 h270) | exact inI_s hI (sB_s (b := kM P N jb)) (ca_4 h219 h123 (fun y => h198 y.1)) (hi_n h123) (lo_4 h189 h123 (fun y => h198 y.1) h255 h270) | exact inI_s hI (sB_s (b := kM P N jb)) (ca_4 h219 h123 (fun y => h198 y.1)) (hi_n h123) (lo_5 h189 h123 h255 h270) | exact inI_s hI (sB_s (b := kM P N jb)) (ca_4 h219 h123 (fun y => h198 y.1)) (hi_n h123) (lo_6 h189 h123 h255 h270) | exact inI_s hI (sB_s (b := kM P N jb)) (ca_1 h219) (hi_n h123) (lo_3 h189 h123 (fun y => h207 y.2) h255 h270) | exact inI_s hI (sB_s (b := kM P N jb)) (ca_1 h219) (hi_n h123) (lo_4 h189 h123 (fun y => h207 y.2) h255 h270) | exact inI_s hI (sB_s (b := kM P N jb)) (ca_1 h219) (hi_n h123) (lo_5 h189 h123 h255 h270) | exact inI_s hI (sB_s (b := kM P N jb)) (ca_1 h219) (hi_n h123) (lo_6 h189 h123 h255 h270) | exact inI_s hI (sB_s (b := kM P N jb)) (ca_4 h219 h123 (fun y => h207 y.2)) (hi_n h123) (lo_3 h189 h123 (fun y => h207 y.2) h255 h270) | exact inI_s hI (sB_s (b := kM P N jb)) (ca_4 h219 h123 (fun y => h207 y.2)) (hi_n h123) (lo_4 h189 h123 (fun y => h207 y.2) h255 h270) | exact inI_s hI (sB_s (b := kM P N jb)) (ca_4 h219 h123 (fun y => h207 y.2)) (hi_n h123) (lo_5 h189 h123 h255 h270) | exact inI_s hI (sB_s (b := kM P N jb)) (ca_4 h219 h123 (fun y => h207 y.2)) (hi_n h123) (lo_6 h189 h123 h255 h270) | exact inI_s hI (sB_s (b := kM P N jb)) (ca_1 h219) (hi_n h123) (lo_b h198 h207) | exact inI_s hI (sB_s (b := kM P N jb)) (ca_5 h198 h207) (hi_n h123) (lo_b h198 h207)) hZ (lv_sub hl [0, 7, 8, 1, 9, 3, 10, 11, 12] rfl)
                                    · skip
                                      rw [lg_cmp_eq] at h255
                                      refine lv_lconst (v := 1) hx hb d_Mod_into_258 rfl ?_
                                      refine lv_goto (tgt := 263) hx hb d_Mod_into_259 (by decide) ?_
                                      refine lv_ladd hx hb d_Mod_into_263 ?_
                                      refine lv_lstore (lv' := [(16, .long (((F ja (kM P N jb k)) / (F jb (kM P N jb k))) + 1)), (7, .int (nI 1)), (15, .int (nI 0)), (13, .long (F jb (kM P N jb k))), (11, .long (F ja (kM P N jb k))), (10, .int (nI (64 * jb + k))), (9, .int (nI jb)), (8, .int (nI 1)), (3, .long lo), (5, .long hi), (0, .ref (ad 43)), (1, .int (nI ja)), (2, .int (nI jb))]) hx hb d_Mod_into_264 hl (by decide) rfl (fun ls hl => ?_)
                                      refine lv_lload hx hb d_Mod_into_266 (lv_at hl 0 rfl) ?_
                                      refine lv_lload_n hx hb d_Mod_into_268 rfl (lv_at hl 8 rfl) ?_
                                      refine W.lcmp hx hb d_Mod_into_269 ?_
                                      refine lv_if_le (tgt := 278) hx hb d_Mod_into_270 (by decide) (fun h270 => ?_) (fun h270 => ?_)
                                      · skip
                                        rw [lg_cmp_le] at h270
                                        refine lv_lload_n hx hb d_Mod_into_278 rfl (lv_at hl 8 rfl) ?_
                                        refine lv_lstore_n (lv' := [(3, .long lo), (16, .long (((F ja (kM P N jb k)) / (F jb (kM P N jb k))) + 1)), (7, .int (nI 1)), (15, .int (nI 0)), (13, .long (F jb (kM P N jb k))), (11, .long (F ja (kM P N jb k))), (10, .int (nI (64 * jb + k))), (9, .int (nI jb)), (8, .int (nI 1)), (5, .long hi), (0, .ref (ad 43)), (1, .int (nI ja)), (2, .int (nI jb))]) hx hb d_Mod_into_279 rfl hl (by decide) rfl (fun ls hl => ?_)
                                        refine lv_iinc (v := (nI ((64 * jb + k) + 1))) (lv' := [(10, .int (nI ((64 * jb + k) + 1))), (3, .long lo), (16, .long (((F ja (kM P N jb k)) / (F jb (kM P N jb k))) + 1)), (7, .int (nI 1)), (15, .int (nI 0)), (13, .long (F jb (kM P N jb k))), (11, .long (F ja (kM P N jb k))), (9, .int (nI jb)), (8, .int (nI 1)), (5, .long hi), (0, .ref (ad 43)), (1, .int (nI ja)), (2, .int (nI jb))]) hx hb d_Mod_into_280 hl (k := 6) rfl (nI_1 _) (by decide) rfl (fun ls hl => ?_)
                                        refine lv_goto (tgt := 59) hx hb d_Mod_into_283 (by decide) ?_
                                        exact ih59b (k + 1) lo hi (nI 1) _ _ _ (by omega) (by omega) (by first | exact inI_s hI (sB_s (b := kM P N jb)) (ca_1 h128) (hi_1 h149) (lo_1 h123) | exact inI_s hI (sB_s (b := kM P N jb)) (ca_1 h128) (hi_2 h149 h156) (lo_1 h123) | exact inI_s hI (sB_s (b := kM P N jb)) (ca_1 h128) (hi_3 h149 h156 h167) (lo_1 h123) | exact inI_s hI (sB_s (b := kM P N jb)) (ca_1 h128) (hi_4 h149 h156 h167) (lo_1 h123) | exact inI_s hI (sB_s (b := kM P N jb)) (ca_2 h135 h123) (hi_1 h149) (lo_1 h123) | exact inI_s hI (sB_s (b := kM P N jb)) (ca_2 h135 h123) (hi_2 h149 h156) (lo_1 h123) | exact inI_s hI (sB_s (b := kM P N jb)) (ca_2 h135 h123) (hi_3 h149 h156 h167) (lo_1 h123) | exact inI_s hI (sB_s (b := kM P N jb)) (ca_2 h135 h123) (hi_4 h149 h156 h167) (lo_1 h123) | exact inI_s hI (sB_s (b := kM P N jb)) (ca_3 h128 h135 h123) (hi_1 h149) (lo_1 h123) | exact inI_s hI (sB_s (b := kM P N jb)) (ca_3 h128 h135 h123) (hi_2 h149 h156) (lo_1 h123) | exact inI_s hI (sB_s (b := kM P N jb)) (ca_3 h128 h135 h123) (hi_3 h149 h156 h167) (lo_1 h123) | exact inI_s hI (sB_s (b := kM P N jb)) (ca_3 h128 h135 h123) (hi_4 h149 h156 h167) (lo_1 h123) | exact inI_s hI (sB_s (b := kM P N jb)) (ca_k hI h123 h189) (hi_n h123) (lo_2 h189) | exact inI_s hI (sB_s (b := kM P N jb)) (ca_1 h219) (hi_n h123) (lo_3 h189 h123 (fun y => h198 y.1) h255 h270) | exact inI_s hI (sB_s (b := kM P N jb)) (ca_1 h219) (hi_n h123) (lo_4 h189 h123 (fun y => h198 y.1) h255 h270) | exact inI_s hI (sB_s (b := kM P N jb)) (ca_1 h219) (hi_n h123) (lo_5 h189 h123 h255 h270) | exact inI_s hI (sB_s (b := kM P N jb)) (ca_1 h219) (hi_n h123) (lo_6 h189 h123 h255 h270) | exact inI_s hI (sB_s (b := kM P N jb)) (ca_4 h219 h123 (fun y => h198 y.1)) (hi_n h123) (lo_3 h189 h123 (fun y => h198 y.1) h255 h270) | exact inI_s hI (sB_s (b := kM P N jb)) (ca_4 h219 h123 (fun y => h198 y.1)) (hi_n h123) (lo_4 h189 h123 (fun y => h198 y.1) h255 h270) | exact inI_s hI (sB_s (b := kM P N jb)) (ca_4 h219 h123 (fun y => h198 y.1)) (hi_n h123) (lo_5 h189 h123 h255 h270) | exact inI_s hI (sB_s (b := kM P N jb)) (ca_4 h219 h123 (fun y => h198 y.1)) (hi_n h123) (lo_6 h189 h123 h255 h270) | exact inI_s hI (sB_s (b := kM P N jb)) (ca_1 h219) (hi_n h123) (lo_3 h189 h123 (fun y => h207 y.2) h255 h270) | exact inI_s hI (sB_s (b := kM P N jb)) (ca_1 h219) (hi_n h123) (lo_4 h189 h123 (fun y => h207 y.2) h255 h270) | exact inI_s hI (sB_s (b := kM P N jb)) (ca_1 h219) (hi_n h123) (lo_5 h189 h123 h255 h270) | exact inI_s hI (sB_s (b := kM P N jb)) (ca_1 h219) (hi_n h123) (lo_6 h189 h123 h255 h270) | exact inI_s hI (sB_s (b := kM P N jb)) (ca_4 h219 h123 (fun y => h207 y.2)) (hi_n h123) (lo_3 h189 h123 (fun y => h207 y.2) h255 h270) | exact inI_s hI (sB_s (b := kM P N jb)) (ca_4 h219 h123 (fun y => h207 y.2)) (hi_n h123) (lo_4 h189 h123 (fun y => h207 y.2) h255 h270) | exact inI_s hI (sB_s (b := kM P N jb)) (ca_4 h219 h123 (fun y => h207 y.2)) (hi_n h123) (lo_5 h189 h123 h255 h270) | exact inI_s hI (sB_s (b := kM P N jb)) (ca_4 h219 h123 (fun y => h207 y.2)) (hi_n h123) (lo_6 h189 h123 h255 h270) | exact inI_s hI (sB_s (b := kM P N jb)) (ca_1 h219) (hi_n h123) (lo_b h198 h207) | exact inI_s hI (sB_s (b := kM P N jb)) (ca_5 h198 h207) (hi_n h123) (lo_b h198 h207)) hZ (lv_sub hl [0, 7, 8, 1, 9, 3, 10, 11, 12] rfl)
                                      · skip
                                        rw [lg_cmp_le] at h270
                                        refine lv_lload hx hb d_Mod_into_273 (lv_at hl 0 rfl) ?_
                                        refine lv_goto (tgt := 279) hx hb d_Mod_into_275 (by decide) ?_
                                        refine lv_lstore_n (lv' := [(3, .long (((F ja (kM P N jb k)) / (F jb (kM P N jb k))) + 1)), (16, .long (((F ja (kM P N jb k)) / (F jb (kM P N jb k))) + 1)), (7, .int (nI 1)), (15, .int (nI 0)), (13, .long (F jb (kM P N jb k))), (11, .long (F ja (kM P N jb k))), (10, .int (nI (64 * jb + k))), (9, .int (nI jb)), (8, .int (nI 1)), (5, .long hi), (0, .ref (ad 43)), (1, .int (nI ja)), (2, .int (nI jb))]) hx hb d_Mod_into_279 rfl hl (by decide) rfl (fun ls hl => ?_)
                                        refine lv_iinc (v := (nI ((64 * jb + k) + 1))) (lv' := [(10, .int (nI ((64 * jb + k) + 1))), (3, .long (((F ja (kM P N jb k)) / (F jb (kM P N jb k))) + 1)), (16, .long (((F ja (kM P N jb k)) / (F jb (kM P N jb k))) + 1)), (7, .int (nI 1)), (15, .int (nI 0)), (13, .long (F jb (kM P N jb k))), (11, .long (F ja (kM P N jb k))), (9, .int (nI jb)), (8, .int (nI 1)), (5, .long hi), (0, .ref (ad 43)), (1, .int (nI ja)), (2, .int (nI jb))]) hx hb d_Mod_into_280 hl (k := 6) rfl (nI_1 _) (by decide) rfl (fun ls hl => ?_)
                                        refine lv_goto (tgt := 59) hx hb d_Mod_into_283 (by decide) ?_
                                        exact ih59b (k + 1) (((F ja (kM P N jb k)) / (F jb (kM P N jb k))) + 1) hi (nI 1) _ _ _ (by omega) (by omega) (by first | exact inI_s hI (sB_s (b := kM P N jb)) (ca_1 h128) (hi_1 h149) (lo_1 h123) | exact inI_s hI (sB_s (b := kM P N jb)) (ca_1 h128) (hi_2 h149 h156) (lo_1 h123) | exact inI_s hI (sB_s (b := kM P N jb)) (ca_1 h128) (hi_3 h149 h156 h167) (lo_1 h123) | exact inI_s hI (sB_s (b := kM P N jb)) (ca_1 h128) (hi_4 h149 h156 h167) (lo_1 h123) | exact inI_s hI (sB_s (b := kM P N jb)) (ca_2 h135 h123) (hi_1 h149) (lo_1 h123) | exact inI_s hI (sB_s (b := kM P N jb)) (ca_2 h135 h123) (hi_2 h149 h156) (lo_1 h123) | exact inI_s hI (sB_s (b := kM P N jb)) (ca_2 h135 h123) (hi_3 h149 h156 h167) (lo_1 h123) | exact inI_s hI (sB_s (b := kM P N jb)) (ca_2 h135 h123) (hi_4 h149 h156 h167) (lo_1 h123) | exact inI_s hI (sB_s (b := kM P N jb)) (ca_3 h128 h135 h123) (hi_1 h149) (lo_1 h123) | exact inI_s hI (sB_s (b := kM P N jb)) (ca_3 h128 h135 h123) (hi_2 h149 h156) (lo_1 h123) | exact inI_s hI (sB_s (b := kM P N jb)) (ca_3 h128 h135 h123) (hi_3 h149 h156 h167) (lo_1 h123) | exact inI_s hI (sB_s (b := kM P N jb)) (ca_3 h128 h135 h123) (hi_4 h149 h156 h167) (lo_1 h123) | exact inI_s hI (sB_s (b := kM P N jb)) (ca_k hI h123 h189) (hi_n h123) (lo_2 h189) | exact inI_s hI (sB_s (b := kM P N jb)) (ca_1 h219) (hi_n h123) (lo_3 h189 h123 (fun y => h198 y.1) h255 h270) | exact inI_s hI (sB_s (b := kM P N jb)) (ca_1 h219) (hi_n h123) (lo_4 h189 h123 (fun y => h198 y.1) h255 h270) | exact inI_s hI (sB_s (b := kM P N jb)) (ca_1 h219) (hi_n h123) (lo_5 h189 h123 h255 h270) | exact inI_s hI (sB_s (b := kM P N jb)) (ca_1 h219) (hi_n h123) (lo_6 h189 h123 h255 h270) | exact inI_s hI (sB_s (b := kM P N jb)) (ca_4 h219 h123 (fun y => h198 y.1)) (hi_n h123) (lo_3 h189 h123 (fun y => h198 y.1) h255 h270) | exact inI_s hI (sB_s (b := kM P N jb)) (ca_4 h219 h123 (fun y => h198 y.1)) (hi_n h123) (lo_4 h189 h123 (fun y => h198 y.1) h255 h270) | exact inI_s hI (sB_s (b := kM P N jb)) (ca_4 h219 h123 (fun y => h198 y.1)) (hi_n h123) (lo_5 h189 h123 h255 h270) | exact inI_s hI (sB_s (b := kM P N jb)) (ca_4 h219 h123 (fun y => h198 y.1)) (hi_n h123) (lo_6 h189 h123 h255 h270) | exact inI_s hI (sB_s (b := kM P N jb)) (ca_1 h219) (hi_n h123) (lo_3 h189 h123 (fun y => h207 y.2) h255 h270) | exact inI_s hI (sB_s (b := kM P N jb)) (ca_1 h219) (hi_n h123) (lo_4 h189 h123 (fun y => h207 y.2) h255 h270) | exact inI_s hI (sB_s (b := kM P N jb)) (ca_1 h219) (hi_n h123) (lo_5 h189 h123 h255 h270) | exact inI_s hI (sB_s (b := kM P N jb)) (ca_1 h219) (hi_n h123) (lo_6 h189 h123 h255 h270) | exact inI_s hI (sB_s (b := kM P N jb)) (ca_4 h219 h123 (fun y => h207 y.2)) (hi_n h123) (lo_3 h189 h123 (fun y => h207 y.2) h255 h270) | exact inI_s hI (sB_s (b := kM P N jb)) (ca_4 h219 h123 (fun y => h207 y.2)) (hi_n h123) (lo_4 h189 h123 (fun y => h207 y.2) h255 h270) | exact inI_s hI (sB_s (b := kM P N jb)) (ca_4 h219 h123 (fun y => h207 y.2)) (hi_n h123) (lo_5 h189 h123 h255 h270) | exact inI_s hI (sB_s (b := kM P N jb)) (ca_4 h219 h123 (fun y => h207 y.2)) (hi_n h123) (lo_6 h189 h123 h255 h270) | exact inI_s hI (sB_s (b := kM P N jb)) (ca_1 h219) (hi_n h123) (lo_b h198 h207) | exact inI_s hI (sB_s (b := kM P N jb)) (ca_5 h198 h207) (hi_n h123) (lo_b h198 h207)) hZ (lv_sub hl [0, 7, 8, 1, 9, 3, 10, 11, 12] rfl)
                                  · skip
                                    have h236 : ¬ 0 = 0 := fun z9 => h236 ((nI_eq (a := 0) (b := 0) (by omega) (by omega)).mpr z9)
                                    exact absurd h236 (by decide)
                            · skip
                              rw [lg_cmp_eq] at h198
                              refine lv_lload hx hb d_Mod_into_201 (lv_at hl 0 rfl) ?_
                              refine lv_ldc2 (v := (-1)) hx hb hown (hts _ (gm k_528)) d_Mod_into_203 ?_
                              refine W.lcmp hx hb d_Mod_into_206 ?_
                              refine lv_if_ne (tgt := 214) hx hb d_Mod_into_207 (by decide) (fun h207 => ?_) (fun h207 => ?_)
                              · skip
                                rw [lg_cmp_eq] at h207
                                refine lv_iconst (v := (nI 0)) hx hb d_Mod_into_214 rfl ?_
                                refine lv_istore (lv' := [(15, .int (nI 0)), (13, .long (F jb (kM P N jb k))), (11, .long (F ja (kM P N jb k))), (10, .int (nI (64 * jb + k))), (9, .int (nI jb)), (8, .int (nI 1)), (3, .long lo), (5, .long hi), (7, .int ca), (0, .ref (ad 43)), (1, .int (nI ja)), (2, .int (nI jb))]) hx hb d_Mod_into_215 hl (by decide) rfl (fun ls hl => ?_)
                                refine lv_iload hx hb d_Mod_into_217 (lv_at hl 8 rfl) ?_
                                refine lv_if_eq (tgt := 231) hx hb d_Mod_into_219 (by decide) (fun h219 => ?_) (fun h219 => ?_)
                                · skip
                                  refine lv_iconst (v := (nI 0)) hx hb d_Mod_into_231 rfl ?_
                                  refine lv_istore (lv' := [(7, .int (nI 0)), (15, .int (nI 0)), (13, .long (F jb (kM P N jb k))), (11, .long (F ja (kM P N jb k))), (10, .int (nI (64 * jb + k))), (9, .int (nI jb)), (8, .int (nI 1)), (3, .long lo), (5, .long hi), (0, .ref (ad 43)), (1, .int (nI ja)), (2, .int (nI jb))]) hx hb d_Mod_into_232 hl (by decide) rfl (fun ls hl => ?_)
                                  refine lv_iload hx hb d_Mod_into_234 (lv_at hl 1 rfl) ?_
                                  refine lv_if_eq (tgt := 243) hx hb d_Mod_into_236 (by decide) (fun h236 => ?_) (fun h236 => ?_)
                                  · skip
                                    have h236 : 0 = 0 := (nI_eq (a := 0) (b := 0) (by omega) (by omega)).mp h236
                                    refine lv_lload hx hb d_Mod_into_243 (lv_at hl 3 rfl) ?_
                                    refine lv_lload hx hb d_Mod_into_245 (lv_at hl 2 rfl) ?_
                                    refine lv_ldiv hx hb d_Mod_into_247 (i64_l0 h123) ?_
                                    refine lv_lload hx hb d_Mod_into_248 (lv_at hl 3 rfl) ?_
                                    refine lv_lload hx hb d_Mod_into_250 (lv_at hl 2 rfl) ?_
                                    refine lv_lrem hx hb d_Mod_into_252 (i64_l0 h123) ?_
                                    refine lv_lconst (v := 0) hx hb d_Mod_into_253 rfl ?_
                                    refine W.lcmp hx hb d_Mod_into_254 ?_
                                    refine lv_if_eq (tgt := 262) hx hb d_Mod_into_255 (by decide) (fun h255 => ?_) (fun h255 => ?_)
                                    · skip
                                      rw [lg_cmp_eq] at h255
                                      refine lv_lconst (v := 0) hx hb d_Mod_into_262 rfl ?_
                                      refine lv_ladd hx hb d_Mod_into_263 ?_
                                      refine lv_lstore (lv' := [(16, .long (((F ja (kM P N jb k)) / (F jb (kM P N jb k))) + 0)), (7, .int (nI 0)), (15, .int (nI 0)), (13, .long (F jb (kM P N jb k))), (11, .long (F ja (kM P N jb k))), (10, .int (nI (64 * jb + k))), (9, .int (nI jb)), (8, .int (nI 1)), (3, .long lo), (5, .long hi), (0, .ref (ad 43)), (1, .int (nI ja)), (2, .int (nI jb))]) hx hb d_Mod_into_264 hl (by decide) rfl (fun ls hl => ?_)
                                      refine lv_lload hx hb d_Mod_into_266 (lv_at hl 0 rfl) ?_
                                      refine lv_lload_n hx hb d_Mod_into_268 rfl (lv_at hl 8 rfl) ?_
                                      refine W.lcmp hx hb d_Mod_into_269 ?_
                                      refine lv_if_le (tgt := 278) hx hb d_Mod_into_270 (by decide) (fun h270 => ?_) (fun h270 => ?_)
                                      · skip
                                        rw [lg_cmp_le] at h270
                                        refine lv_lload_n hx hb d_Mod_into_278 rfl (lv_at hl 8 rfl) ?_
                                        refine lv_lstore_n (lv' := [(3, .long lo), (16, .long (((F ja (kM P N jb k)) / (F jb (kM P N jb k))) + 0)), (7, .int (nI 0)), (15, .int (nI 0)), (13, .long (F jb (kM P N jb k))), (11, .long (F ja (kM P N jb k))), (10, .int (nI (64 * jb + k))), (9, .int (nI jb)), (8, .int (nI 1)), (5, .long hi), (0, .ref (ad 43)), (1, .int (nI ja)), (2, .int (nI jb))]) hx hb d_Mod_into_279 rfl hl (by decide) rfl (fun ls hl => ?_)
                                        refine lv_iinc (v := (nI ((64 * jb + k) + 1))) (lv' := [(10, .int (nI ((64 * jb + k) + 1))), (3, .long lo), (16, .long (((F ja (kM P N jb k)) / (F jb (kM P N jb k))) + 0)), (7, .int (nI 0)), (15, .int (nI 0)), (13, .long (F jb (kM P N jb k))), (11, .long (F ja (kM P N jb k))), (9, .int (nI jb)), (8, .int (nI 1)), (5, .long hi), (0, .ref (ad 43)), (1, .int (nI ja)), (2, .int (nI jb))]) hx hb d_Mod_into_280 hl (k := 6) rfl (nI_1 _) (by decide) rfl (fun ls hl => ?_)
                                        refine lv_goto (tgt := 59) hx hb d_Mod_into_283 (by decide) ?_
                                        exact ih59b (k + 1) lo hi (nI 0) _ _ _ (by omega) (by omega) (by first | exact inI_s hI (sB_s (b := kM P N jb)) (ca_1 h128) (hi_1 h149) (lo_1 h123) | exact inI_s hI (sB_s (b := kM P N jb)) (ca_1 h128) (hi_2 h149 h156) (lo_1 h123) | exact inI_s hI (sB_s (b := kM P N jb)) (ca_1 h128) (hi_3 h149 h156 h167) (lo_1 h123) | exact inI_s hI (sB_s (b := kM P N jb)) (ca_1 h128) (hi_4 h149 h156 h167) (lo_1 h123) | exact inI_s hI (sB_s (b := kM P N jb)) (ca_2 h135 h123) (hi_1 h149) (lo_1 h123) | exact inI_s hI (sB_s (b := kM P N jb)) (ca_2 h135 h123) (hi_2 h149 h156) (lo_1 h123) | exact inI_s hI (sB_s (b := kM P N jb)) (ca_2 h135 h123) (hi_3 h149 h156 h167) (lo_1 h123) | exact inI_s hI (sB_s (b := kM P N jb)) (ca_2 h135 h123) (hi_4 h149 h156 h167) (lo_1 h123) | exact inI_s hI (sB_s (b := kM P N jb)) (ca_3 h128 h135 h123) (hi_1 h149) (lo_1 h123) | exact inI_s hI (sB_s (b := kM P N jb)) (ca_3 h128 h135 h123) (hi_2 h149 h156) (lo_1 h123) | exact inI_s hI (sB_s (b := kM P N jb)) (ca_3 h128 h135 h123) (hi_3 h149 h156 h167) (lo_1 h123) | exact inI_s hI (sB_s (b := kM P N jb)) (ca_3 h128 h135 h123) (hi_4 h149 h156 h167) (lo_1 h123) | exact inI_s hI (sB_s (b := kM P N jb)) (ca_k hI h123 h189) (hi_n h123) (lo_2 h189) | exact inI_s hI (sB_s (b := kM P N jb)) (ca_1 h219) (hi_n h123) (lo_3 h189 h123 (fun y => h198 y.1) h255 h270) | exact inI_s hI (sB_s (b := kM P N jb)) (ca_1 h219) (hi_n h123) (lo_4 h189 h123 (fun y => h198 y.1) h255 h270) | exact inI_s hI (sB_s (b := kM P N jb)) (ca_1 h219) (hi_n h123) (lo_5 h189 h123 h255 h270) | exact inI_s hI (sB_s (b := kM P N jb)) (ca_1 h219) (hi_n h123) (lo_6 h189 h123 h255 h270) | exact inI_s hI (sB_s (b := kM P N jb)) (ca_4 h219 h123 (fun y => h198 y.1)) (hi_n h123) (lo_3 h189 h123 (fun y => h198 y.1) h255 h270) | exact inI_s hI (sB_s (b := kM P N jb)) (ca_4 h219 h123 (fun y => h198 y.1)) (hi_n h123) (lo_4 h189 h123 (fun y => h198 y.1) h255 h270) | exact inI_s hI (sB_s (b := kM P N jb)) (ca_4 h219 h123 (fun y => h198 y.1)) (hi_n h123) (lo_5 h189 h123 h255 h270) | exact inI_s hI (sB_s (b := kM P N jb)) (ca_4 h219 h123 (fun y => h198 y.1)) (hi_n h123) (lo_6 h189 h123 h255 h270) | exact inI_s hI (sB_s (b := kM P N jb)) (ca_1 h219) (hi_n h123) (lo_3 h189 h123 (fun y => h207 y.2) h255 h270) | exact inI_s hI (sB_s (b := kM P N jb)) (ca_1 h219) (hi_n h123) (lo_4 h189 h123 (fun y => h207 y.2) h255 h270) | exact inI_s hI (sB_s (b := kM P N jb)) (ca_1 h219) (hi_n h123) (lo_5 h189 h123 h255 h270) | exact inI_s hI (sB_s (b := kM P N jb)) (ca_1 h219) (hi_n h123) (lo_6 h189 h123 h255 h270) | exact inI_s hI (sB_s (b := kM P N jb)) (ca_4 h219 h123 (fun y => h207 y.2)) (hi_n h123) (lo_3 h189 h123 (fun y => h207 y.2) h255 h270) | exact inI_s hI (sB_s (b := kM P N jb)) (ca_4 h219 h123 (fun y => h207 y.2)) (hi_n h123) (lo_4 h189 h123 (fun y => h207 y.2) h255 h270) | exact inI_s hI (sB_s (b := kM P N jb)) (ca_4 h219 h123 (fun y => h207 y.2)) (hi_n h123) (lo_5 h189 h123 h255 h270) | exact inI_s hI (sB_s (b := kM P N jb)) (ca_4 h219 h123 (fun y => h207 y.2)) (hi_n h123) (lo_6 h189 h123 h255 h270) | exact inI_s hI (sB_s (b := kM P N jb)) (ca_1 h219) (hi_n h123) (lo_b h198 h207) | exact inI_s hI (sB_s (b := kM P N jb)) (ca_5 h198 h207) (hi_n h123) (lo_b h198 h207)) hZ (lv_sub hl [0, 7, 8, 1, 9, 3, 10, 11, 12] rfl)
                                      · skip
                                        rw [lg_cmp_le] at h270
                                        refine lv_lload hx hb d_Mod_into_273 (lv_at hl 0 rfl) ?_
                                        refine lv_goto (tgt := 279) hx hb d_Mod_into_275 (by decide) ?_
                                        refine lv_lstore_n (lv' := [(3, .long (((F ja (kM P N jb k)) / (F jb (kM P N jb k))) + 0)), (16, .long (((F ja (kM P N jb k)) / (F jb (kM P N jb k))) + 0)), (7, .int (nI 0)), (15, .int (nI 0)), (13, .long (F jb (kM P N jb k))), (11, .long (F ja (kM P N jb k))), (10, .int (nI (64 * jb + k))), (9, .int (nI jb)), (8, .int (nI 1)), (5, .long hi), (0, .ref (ad 43)), (1, .int (nI ja)), (2, .int (nI jb))]) hx hb d_Mod_into_279 rfl hl (by decide) rfl (fun ls hl => ?_)
                                        refine lv_iinc (v := (nI ((64 * jb + k) + 1))) (lv' := [(10, .int (nI ((64 * jb + k) + 1))), (3, .long (((F ja (kM P N jb k)) / (F jb (kM P N jb k))) + 0)), (16, .long (((F ja (kM P N jb k)) / (F jb (kM P N jb k))) + 0)), (7, .int (nI 0)), (15, .int (nI 0)), (13, .long (F jb (kM P N jb k))), (11, .long (F ja (kM P N jb k))), (9, .int (nI jb)), (8, .int (nI 1)), (5, .long hi), (0, .ref (ad 43)), (1, .int (nI ja)), (2, .int (nI jb))]) hx hb d_Mod_into_280 hl (k := 6) rfl (nI_1 _) (by decide) rfl (fun ls hl => ?_)
                                        refine lv_goto (tgt := 59) hx hb d_Mod_into_283 (by decide) ?_
                                        exact ih59b (k + 1) (((F ja (kM P N jb k)) / (F jb (kM P N jb k))) + 0) hi (nI 0) _ _ _ (by omega) (by omega) (by first | exact inI_s hI (sB_s (b := kM P N jb)) (ca_1 h128) (hi_1 h149) (lo_1 h123) | exact inI_s hI (sB_s (b := kM P N jb)) (ca_1 h128) (hi_2 h149 h156) (lo_1 h123) | exact inI_s hI (sB_s (b := kM P N jb)) (ca_1 h128) (hi_3 h149 h156 h167) (lo_1 h123) | exact inI_s hI (sB_s (b := kM P N jb)) (ca_1 h128) (hi_4 h149 h156 h167) (lo_1 h123) | exact inI_s hI (sB_s (b := kM P N jb)) (ca_2 h135 h123) (hi_1 h149) (lo_1 h123) | exact inI_s hI (sB_s (b := kM P N jb)) (ca_2 h135 h123) (hi_2 h149 h156) (lo_1 h123) | exact inI_s hI (sB_s (b := kM P N jb)) (ca_2 h135 h123) (hi_3 h149 h156 h167) (lo_1 h123) | exact inI_s hI (sB_s (b := kM P N jb)) (ca_2 h135 h123) (hi_4 h149 h156 h167) (lo_1 h123) | exact inI_s hI (sB_s (b := kM P N jb)) (ca_3 h128 h135 h123) (hi_1 h149) (lo_1 h123) | exact inI_s hI (sB_s (b := kM P N jb)) (ca_3 h128 h135 h123) (hi_2 h149 h156) (lo_1 h123) | exact inI_s hI (sB_s (b := kM P N jb)) (ca_3 h128 h135 h123) (hi_3 h149 h156 h167) (lo_1 h123) | exact inI_s hI (sB_s (b := kM P N jb)) (ca_3 h128 h135 h123) (hi_4 h149 h156 h167) (lo_1 h123) | exact inI_s hI (sB_s (b := kM P N jb)) (ca_k hI h123 h189) (hi_n h123) (lo_2 h189) | exact inI_s hI (sB_s (b := kM P N jb)) (ca_1 h219) (hi_n h123) (lo_3 h189 h123 (fun y => h198 y.1) h255 h270) | exact inI_s hI (sB_s (b := kM P N jb)) (ca_1 h219) (hi_n h123) (lo_4 h189 h123 (fun y => h198 y.1) h255 h270) | exact inI_s hI (sB_s (b := kM P N jb)) (ca_1 h219) (hi_n h123) (lo_5 h189 h123 h255 h270) | exact inI_s hI (sB_s (b := kM P N jb)) (ca_1 h219) (hi_n h123) (lo_6 h189 h123 h255 h270) | exact inI_s hI (sB_s (b := kM P N jb)) (ca_4 h219 h123 (fun y => h198 y.1)) (hi_n h123) (lo_3 h189 h123 (fun y => h198 y.1) h255 h270) | exact inI_s hI (sB_s (b := kM P N jb)) (ca_4 h219 h123 (fun y => h198 y.1)) (hi_n h123) (lo_4 h189 h123 (fun y => h198 y.1) h255 h270) | exact inI_s hI (sB_s (b := kM P N jb)) (ca_4 h219 h123 (fun y => h198 y.1)) (hi_n h123) (lo_5 h189 h123 h255 h270) | exact inI_s hI (sB_s (b := kM P N jb)) (ca_4 h219 h123 (fun y => h198 y.1)) (hi_n h123) (lo_6 h189 h123 h255 h270) | exact inI_s hI (sB_s (b := kM P N jb)) (ca_1 h219) (hi_n h123) (lo_3 h189 h123 (fun y => h207 y.2) h255 h270) | exact inI_s hI (sB_s (b := kM P N jb)) (ca_1 h219) (hi_n h123) (lo_4 h189 h123 (fun y => h207 y.2) h255 h270) | exact inI_s hI (sB_s (b := kM P N jb)) (ca_1 h219) (hi_n h123) (lo_5 h189 h123 h255 h270) | exact inI_s hI (sB_s (b := kM P N jb)) (ca_1 h219) (hi_n h123) (lo_6 h189 h123 h255 h270) | exact inI_s hI (sB_s (b := kM P N jb)) (ca_4 h219 h123 (fun y => h207 y.2)) (hi_n h123) (lo_3 h189 h123 (fun y => h207 y.2) h255 h270) | exact inI_s hI (sB_s (b := kM P N jb)) (ca_4 h219 h123 (fun y => h207 y.2)) (hi_n h123) (lo_4 h189 h123 (fun y => h207 y.2) h255 h270) | exact inI_s hI (sB_s (b := kM P N jb)) (ca_4 h219 h123 (fun y => h207 y.2)) (hi_n h123) (lo_5 h189 h123 h255 h270) | exact inI_s hI (sB_s (b := kM P N jb)) (ca_4 h219 h123 (fun y => h207 y.2)) (hi_n h123) (lo_6 h189 h123 h255 h270) | exact inI_s hI (sB_s (b := kM P N jb)) (ca_1 h219) (hi_n h123) (lo_b h198 h207) | exact inI_s hI (sB_s (b := kM P N jb)) (ca_5 h198 h207) (hi_n h123) (lo_b h198 h207)) hZ (lv_sub hl [0, 7, 8, 1, 9, 3, 10, 11, 12] rfl)
                                    · skip
                                      rw [lg_cmp_eq] at h255
                                      refine lv_lconst (v := 1) hx hb d_Mod_into_258 rfl ?_
                                      refine lv_goto (tgt := 263) hx hb d_Mod_into_259 (by decide) ?_
                                      refine lv_ladd hx hb d_Mod_into_263 ?_
                                      refine lv_lstore (lv' := [(16, .long (((F ja (kM P N jb k)) / (F jb (kM P N jb k))) + 1)), (7, .int (nI 0)), (15, .int (nI 0)), (13, .long (F jb (kM P N jb k))), (11, .long (F ja (kM P N jb k))), (10, .int (nI (64 * jb + k))), (9, .int (nI jb)), (8, .int (nI 1)), (3, .long lo), (5, .long hi), (0, .ref (ad 43)), (1, .int (nI ja)), (2, .int (nI jb))]) hx hb d_Mod_into_264 hl (by decide) rfl (fun ls hl => ?_)
                                      refine lv_lload hx hb d_Mod_into_266 (lv_at hl 0 rfl) ?_
                                      refine lv_lload_n hx hb d_Mod_into_268 rfl (lv_at hl 8 rfl) ?_
                                      refine W.lcmp hx hb d_Mod_into_269 ?_
                                      refine lv_if_le (tgt := 278) hx hb d_Mod_into_270 (by decide) (fun h270 => ?_) (fun h270 => ?_)
                                      · skip
                                        rw [lg_cmp_le] at h270
                                        refine lv_lload_n hx hb d_Mod_into_278 rfl (lv_at hl 8 rfl) ?_
                                        refine lv_lstore_n (lv' := [(3, .long lo), (16, .long (((F ja (kM P N jb k)) / (F jb (kM P N jb k))) + 1)), (7, .int (nI 0)), (15, .int (nI 0)), (13, .long (F jb (kM P N jb k))), (11, .long (F ja (kM P N jb k))), (10, .int (nI (64 * jb + k))), (9, .int (nI jb)), (8, .int (nI 1)), (5, .long hi), (0, .ref (ad 43)), (1, .int (nI ja)), (2, .int (nI jb))]) hx hb d_Mod_into_279 rfl hl (by decide) rfl (fun ls hl => ?_)
                                        refine lv_iinc (v := (nI ((64 * jb + k) + 1))) (lv' := [(10, .int (nI ((64 * jb + k) + 1))), (3, .long lo), (16, .long (((F ja (kM P N jb k)) / (F jb (kM P N jb k))) + 1)), (7, .int (nI 0)), (15, .int (nI 0)), (13, .long (F jb (kM P N jb k))), (11, .long (F ja (kM P N jb k))), (9, .int (nI jb)), (8, .int (nI 1)), (5, .long hi), (0, .ref (ad 43)), (1, .int (nI ja)), (2, .int (nI jb))]) hx hb d_Mod_into_280 hl (k := 6) rfl (nI_1 _) (by decide) rfl (fun ls hl => ?_)
                                        refine lv_goto (tgt := 59) hx hb d_Mod_into_283 (by decide) ?_
                                        exact ih59b (k + 1) lo hi (nI 0) _ _ _ (by omega) (by omega) (by first | exact inI_s hI (sB_s (b := kM P N jb)) (ca_1 h128) (hi_1 h149) (lo_1 h123) | exact inI_s hI (sB_s (b := kM P N jb)) (ca_1 h128) (hi_2 h149 h156) (lo_1 h123) | exact inI_s hI (sB_s (b := kM P N jb)) (ca_1 h128) (hi_3 h149 h156 h167) (lo_1 h123) | exact inI_s hI (sB_s (b := kM P N jb)) (ca_1 h128) (hi_4 h149 h156 h167) (lo_1 h123) | exact inI_s hI (sB_s (b := kM P N jb)) (ca_2 h135 h123) (hi_1 h149) (lo_1 h123) | exact inI_s hI (sB_s (b := kM P N jb)) (ca_2 h135 h123) (hi_2 h149 h156) (lo_1 h123) | exact inI_s hI (sB_s (b := kM P N jb)) (ca_2 h135 h123) (hi_3 h149 h156 h167) (lo_1 h123) | exact inI_s hI (sB_s (b := kM P N jb)) (ca_2 h135 h123) (hi_4 h149 h156 h167) (lo_1 h123) | exact inI_s hI (sB_s (b := kM P N jb)) (ca_3 h128 h135 h123) (hi_1 h149) (lo_1 h123) | exact inI_s hI (sB_s (b := kM P N jb)) (ca_3 h128 h135 h123) (hi_2 h149 h156) (lo_1 h123) | exact inI_s hI (sB_s (b := kM P N jb)) (ca_3 h128 h135 h123) (hi_3 h149 h156 h167) (lo_1 h123) | exact inI_s hI (sB_s (b := kM P N jb)) (ca_3 h128 h135 h123) (hi_4 h149 h156 h167) (lo_1 h123) | exact inI_s hI (sB_s (b := kM P N jb)) (ca_k hI h123 h189) (hi_n h123) (lo_2 h189) | exact inI_s hI (sB_s (b := kM P N jb)) (ca_1 h219) (hi_n h123) (lo_3 h189 h123 (fun y => h198 y.1) h255 h270) | exact inI_s hI (sB_s (b := kM P N jb)) (ca_1 h219) (hi_n h123) (lo_4 h189 h123 (fun y => h198 y.1) h255 h270) | exact inI_s hI (sB_s (b := kM P N jb)) (ca_1 h219) (hi_n h123) (lo_5 h189 h123 h255 h270) | exact inI_s hI (sB_s (b := kM P N jb)) (ca_1 h219) (hi_n h123) (lo_6 h189 h123 h255 h270) | exact inI_s hI (sB_s (b := kM P N jb)) (ca_4 h219 h123 (fun y => h198 y.1)) (hi_n h123) (lo_3 h189 h123 (fun y => h198 y.1) h255 h270) | exact inI_s hI (sB_s (b := kM P N jb)) (ca_4 h219 h123 (fun y => h198 y.1)) (hi_n h123) (lo_4 h189 h123 (fun y => h198 y.1) h255 h270) | exact inI_s hI (sB_s (b := kM P N jb)) (ca_4 h219 h123 (fun y => h198 y.1)) (hi_n h123) (lo_5 h189 h123 h255 h270) | exact inI_s hI (sB_s (b := kM P N jb)) (ca_4 h219 h123 (fun y => h198 y.1)) (hi_n h123) (lo_6 h189 h123 h255 h270) | exact inI_s hI (sB_s (b := kM P N jb)) (ca_1 h219) (hi_n h123) (lo_3 h189 h123 (fun y => h207 y.2) h255 h270) | exact inI_s hI (sB_s (b := kM P N jb)) (ca_1 h219) (hi_n h123) (lo_4 h189 h123 (fun y => h207 y.2) h255 h270) | exact inI_s hI (sB_s (b := kM P N jb)) (ca_1 h219) (hi_n h123) (lo_5 h189 h123 h255 h270) | exact inI_s hI (sB_s (b := kM P N jb)) (ca_1 h219) (hi_n h123) (lo_6 h189 h123 h255 h270) | exact inI_s hI (sB_s (b := kM P N jb)) (ca_4 h219 h123 (fun y => h207 y.2)) (hi_n h123) (lo_3 h189 h123 (fun y => h207 y.2) h255 h270) | exact inI_s hI (sB_s (b := kM P N jb)) (ca_4 h219 h123 (fun y => h207 y.2)) (hi_n h123) (lo_4 h189 h123 (fun y => h207 y.2) h255 h270) | exact inI_s hI (sB_s (b := kM P N jb)) (ca_4 h219 h123 (fun y => h207 y.2)) (hi_n h123) (lo_5 h189 h123 h255 h270) | exact inI_s hI (sB_s (b := kM P N jb)) (ca_4 h219 h123 (fun y => h207 y.2)) (hi_n h123) (lo_6 h189 h123 h255 h270) | exact inI_s hI (sB_s (b := kM P N jb)) (ca_1 h219) (hi_n h123) (lo_b h198 h207) | exact inI_s hI (sB_s (b := kM P N jb)) (ca_5 h198 h207) (hi_n h123) (lo_b h198 h207)) hZ (lv_sub hl [0, 7, 8, 1, 9, 3, 10, 11, 12] rfl)
                                      · skip
                                        rw [lg_cmp_le] at h270
                                        refine lv_lload hx hb d_Mod_into_273 (lv_at hl 0 rfl) ?_
                                        refine lv_goto (tgt := 279) hx hb d_Mod_into_275 (by decide) ?_
                                        refine lv_lstore_n (lv' := [(3, .long (((F ja (kM P N jb k)) / (F jb (kM P N jb k))) + 1)), (16, .long (((F ja (kM P N jb k)) / (F jb (kM P N jb k))) + 1)), (7, .int (nI 0)), (15, .int (nI 0)), (13, .long (F jb (kM P N jb k))), (11, .long (F ja (kM P N jb k))), (10, .int (nI (64 * jb + k))), (9, .int (nI jb)), (8, .int (nI 1)), (5, .long hi), (0, .ref (ad 43)), (1, .int (nI ja)), (2, .int (nI jb))]) hx hb d_Mod_into_279 rfl hl (by decide) rfl (fun ls hl => ?_)
                                        refine lv_iinc (v := (nI ((64 * jb + k) + 1))) (lv' := [(10, .int (nI ((64 * jb + k) + 1))), (3, .long (((F ja (kM P N jb k)) / (F jb (kM P N jb k))) + 1)), (16, .long (((F ja (kM P N jb k)) / (F jb (kM P N jb k))) + 1)), (7, .int (nI 0)), (15, .int (nI 0)), (13, .long (F jb (kM P N jb k))), (11, .long (F ja (kM P N jb k))), (9, .int (nI jb)), (8, .int (nI 1)), (5, .long hi), (0, .ref (ad 43)), (1, .int (nI ja)), (2, .int (nI jb))]) hx hb d_Mod_into_280 hl (k := 6) rfl (nI_1 _) (by decide) rfl (fun ls hl => ?_)
                                        refine lv_goto (tgt := 59) hx hb d_Mod_into_283 (by decide) ?_
                                        exact ih59b (k + 1) (((F ja (kM P N jb k)) / (F jb (kM P N jb k))) + 1) hi (nI 0) _ _ _ (by omega) (by omega) (by first | exact inI_s hI (sB_s (b := kM P N jb)) (ca_1 h128) (hi_1 h149) (lo_1 h123) | exact inI_s hI (sB_s (b := kM P N jb)) (ca_1 h128) (hi_2 h149 h156) (lo_1 h123) | exact inI_s hI (sB_s (b := kM P N jb)) (ca_1 h128) (hi_3 h149 h156 h167) (lo_1 h123) | exact inI_s hI (sB_s (b := kM P N jb)) (ca_1 h128) (hi_4 h149 h156 h167) (lo_1 h123) | exact inI_s hI (sB_s (b := kM P N jb)) (ca_2 h135 h123) (hi_1 h149) (lo_1 h123) | exact inI_s hI (sB_s (b := kM P N jb)) (ca_2 h135 h123) (hi_2 h149 h156) (lo_1 h123) | exact inI_s hI (sB_s (b := kM P N jb)) (ca_2 h135 h123) (hi_3 h149 h156 h167) (lo_1 h123) | exact inI_s hI (sB_s (b := kM P N jb)) (ca_2 h135 h123) (hi_4 h149 h156 h167) (lo_1 h123) | exact inI_s hI (sB_s (b := kM P N jb)) (ca_3 h128 h135 h123) (hi_1 h149) (lo_1 h123) | exact inI_s hI (sB_s (b := kM P N jb)) (ca_3 h128 h135 h123) (hi_2 h149 h156) (lo_1 h123) | exact inI_s hI (sB_s (b := kM P N jb)) (ca_3 h128 h135 h123) (hi_3 h149 h156 h167) (lo_1 h123) | exact inI_s hI (sB_s (b := kM P N jb)) (ca_3 h128 h135 h123) (hi_4 h149 h156 h167) (lo_1 h123) | exact inI_s hI (sB_s (b := kM P N jb)) (ca_k hI h123 h189) (hi_n h123) (lo_2 h189) | exact inI_s hI (sB_s (b := kM P N jb)) (ca_1 h219) (hi_n h123) (lo_3 h189 h123 (fun y => h198 y.1) h255 h270) | exact inI_s hI (sB_s (b := kM P N jb)) (ca_1 h219) (hi_n h123) (lo_4 h189 h123 (fun y => h198 y.1) h255 h270) | exact inI_s hI (sB_s (b := kM P N jb)) (ca_1 h219) (hi_n h123) (lo_5 h189 h123 h255 h270) | exact inI_s hI (sB_s (b := kM P N jb)) (ca_1 h219) (hi_n h123) (lo_6 h189 h123 h255 h270) | exact inI_s hI (sB_s (b := kM P N jb)) (ca_4 h219 h123 (fun y => h198 y.1)) (hi_n h123) (lo_3 h189 h123 (fun y => h198 y.1) h255 h270) | exact inI_s hI (sB_s (b := kM P N jb)) (ca_4 h219 h123 (fun y => h198 y.1)) (hi_n h123) (lo_4 h189 h123 (fun y => h198 y.1) h255 h270) | exact inI_s hI (sB_s (b := kM P N jb)) (ca_4 h219 h123 (fun y => h198 y.1)) (hi_n h123) (lo_5 h189 h123 h255 h270) | exact inI_s hI (sB_s (b := kM P N jb)) (ca_4 h219 h123 (fun y => h198 y.1)) (hi_n h123) (lo_6 h189 h123 h255 h270) | exact inI_s hI (sB_s (b := kM P N jb)) (ca_1 h219) (hi_n h123) (lo_3 h189 h123 (fun y => h207 y.2) h255 h270) | exact inI_s hI (sB_s (b := kM P N jb)) (ca_1 h219) (hi_n h123) (lo_4 h189 h123 (fun y => h207 y.2) h255 h270) | exact inI_s hI (sB_s (b := kM P N jb)) (ca_1 h219) (hi_n h123) (lo_5 h189 h123 h255 h270) | exact inI_s hI (sB_s (b := kM P N jb)) (ca_1 h219) (hi_n h123) (lo_6 h189 h123 h255 h270) | exact inI_s hI (sB_s (b := kM P N jb)) (ca_4 h219 h123 (fun y => h207 y.2)) (hi_n h123) (lo_3 h189 h123 (fun y => h207 y.2) h255 h270) | exact inI_s hI (sB_s (b := kM P N jb)) (ca_4 h219 h123 (fun y => h207 y.2)) (hi_n h123) (lo_4 h189 h123 (fun y => h207 y.2) h255 h270) | exact inI_s hI (sB_s (b := kM P N jb)) (ca_4 h219 h123 (fun y => h207 y.2)) (hi_n h123) (lo_5 h189 h123 h255 h270) | exact inI_s hI (sB_s (b := kM P N jb)) (ca_4 h219 h123 (fun y => h207 y.2)) (hi_n h123) (lo_6 h189 h123 h255 h270) | exact inI_s hI (sB_s (b := kM P N jb)) (ca_1 h219) (hi_n h123) (lo_b h198 h207) | exact inI_s hI (sB_s (b := kM P N jb)) (ca_5 h198 h207) (hi_n h123) (lo_b h198 h207)) hZ (lv_sub hl [0, 7, 8, 1, 9, 3, 10, 11, 12] rfl)
                                  · skip
                                    have h236 : ¬ 0 = 0 := fun z9 => h236 ((nI_eq (a := 0) (b := 0) (by omega) (by omega)).mpr z9)
                                    exact absurd h236 (by decide)
                                · skip
                                  refine lv_iload hx hb d_Mod_into_222 (lv_at hl 0 rfl) ?_
                                  refine lv_if_ne (tgt := 231) hx hb d_Mod_into_224 (by decide) (fun h224 => ?_) (fun h224 => ?_)
                                  · skip
                                    have h224 : ¬ 0 = 0 := fun z9 => h224 ((nI_eq (a := 0) (b := 0) (by omega) (by omega)).mpr z9)
                                    exact absurd h224 (by decide)
                                  · skip
                                    have h224 : 0 = 0 := (nI_eq (a := 0) (b := 0) (by omega) (by omega)).mp h224
                                    refine lv_iconst (v := (nI 1)) hx hb d_Mod_into_227 rfl ?_
                                    refine lv_goto (tgt := 232) hx hb d_Mod_into_228 (by decide) ?_
                                    refine lv_istore (lv' := [(7, .int (nI 1)), (15, .int (nI 0)), (13, .long (F jb (kM P N jb k))), (11, .long (F ja (kM P N jb k))), (10, .int (nI (64 * jb + k))), (9, .int (nI jb)), (8, .int (nI 1)), (3, .long lo), (5, .long hi), (0, .ref (ad 43)), (1, .int (nI ja)), (2, .int (nI jb))]) hx hb d_Mod_into_232 hl (by decide) rfl (fun ls hl => ?_)
                                    refine lv_iload hx hb d_Mod_into_234 (lv_at hl 1 rfl) ?_
                                    refine lv_if_eq (tgt := 243) hx hb d_Mod_into_236 (by decide) (fun h236 => ?_) (fun h236 => ?_)
                                    · skip
                                      have h236 : 0 = 0 := (nI_eq (a := 0) (b := 0) (by omega) (by omega)).mp h236
                                      refine lv_lload hx hb d_Mod_into_243 (lv_at hl 3 rfl) ?_
                                      refine lv_lload hx hb d_Mod_into_245 (lv_at hl 2 rfl) ?_
                                      refine lv_ldiv hx hb d_Mod_into_247 (i64_l0 h123) ?_
                                      refine lv_lload hx hb d_Mod_into_248 (lv_at hl 3 rfl) ?_
                                      refine lv_lload hx hb d_Mod_into_250 (lv_at hl 2 rfl) ?_
                                      refine lv_lrem hx hb d_Mod_into_252 (i64_l0 h123) ?_
                                      refine lv_lconst (v := 0) hx hb d_Mod_into_253 rfl ?_
                                      refine W.lcmp hx hb d_Mod_into_254 ?_
                                      refine lv_if_eq (tgt := 262) hx hb d_Mod_into_255 (by decide) (fun h255 => ?_) (fun h255 => ?_)
                                      · skip
                                        rw [lg_cmp_eq] at h255
                                        refine lv_lconst (v := 0) hx hb d_Mod_into_262 rfl ?_
                                        refine lv_ladd hx hb d_Mod_into_263 ?_
                                        refine lv_lstore (lv' := [(16, .long (((F ja (kM P N jb k)) / (F jb (kM P N jb k))) + 0)), (7, .int (nI 1)), (15, .int (nI 0)), (13, .long (F jb (kM P N jb k))), (11, .long (F ja (kM P N jb k))), (10, .int (nI (64 * jb + k))), (9, .int (nI jb)), (8, .int (nI 1)), (3, .long lo), (5, .long hi), (0, .ref (ad 43)), (1, .int (nI ja)), (2, .int (nI jb))]) hx hb d_Mod_into_264 hl (by decide) rfl (fun ls hl => ?_)
                                        refine lv_lload hx hb d_Mod_into_266 (lv_at hl 0 rfl) ?_
                                        refine lv_lload_n hx hb d_Mod_into_268 rfl (lv_at hl 8 rfl) ?_
                                        refine W.lcmp hx hb d_Mod_into_269 ?_
                                        refine lv_if_le (tgt := 278) hx hb d_Mod_into_270 (by decide) (fun h270 => ?_) (fun h270 => ?_)
                                        · skip
                                          rw [lg_cmp_le] at h270
                                          refine lv_lload_n hx hb d_Mod_into_278 rfl (lv_at hl 8 rfl) ?_
                                          refine lv_lstore_n (lv' := [(3, .long lo), (16, .long (((F ja (kM P N jb k)) / (F jb (kM P N jb k))) + 0)), (7, .int (nI 1)), (15, .int (nI 0)), (13, .long (F jb (kM P N jb k))), (11, .long (F ja (kM P N jb k))), (10, .int (nI (64 * jb + k))), (9, .int (nI jb)), (8, .int (nI 1)), (5, .long hi), (0, .ref (ad 43)), (1, .int (nI ja)), (2, .int (nI jb))]) hx hb d_Mod_into_279 rfl hl (by decide) rfl (fun ls hl => ?_)
                                          refine lv_iinc (v := (nI ((64 * jb + k) + 1))) (lv' := [(10, .int (nI ((64 * jb + k) + 1))), (3, .long lo), (16, .long (((F ja (kM P N jb k)) / (F jb (kM P N jb k))) + 0)), (7, .int (nI 1)), (15, .int (nI 0)), (13, .long (F jb (kM P N jb k))), (11, .long (F ja (kM P N jb k))), (9, .int (nI jb)), (8, .int (nI 1)), (5, .long hi), (0, .ref (ad 43)), (1, .int (nI ja)), (2, .int (nI jb))]) hx hb d_Mod_into_280 hl (k := 6) rfl (nI_1 _) (by decide) rfl (fun ls hl => ?_)
                                          refine lv_goto (tgt := 59) hx hb d_Mod_into_283 (by decide) ?_
                                          exact ih59b (k + 1) lo hi (nI 1) _ _ _ (by omega) (by omega) (by first | exact inI_s hI (sB_s (b := kM P N jb)) (ca_1 h128) (hi_1 h149) (lo_1 h123) | exact inI_s hI (sB_s (b := kM P N jb)) (ca_1 h128) (hi_2 h149 h156) (lo_1 h123) | exact inI_s hI (sB_s (b := kM P N jb)) (ca_1 h128) (hi_3 h149 h156 h167) (lo_1 h123) | exact inI_s hI (sB_s (b := kM P N jb)) (ca_1 h128) (hi_4 h149 h156 h167) (lo_1 h123) | exact inI_s hI (sB_s (b := kM P N jb)) (ca_2 h135 h123) (hi_1 h149) (lo_1 h123) | exact inI_s hI (sB_s (b := kM P N jb)) (ca_2 h135 h123) (hi_2 h149 h156) (lo_1 h123) | exact inI_s hI (sB_s (b := kM P N jb)) (ca_2 h135 h123) (hi_3 h149 h156 h167) (lo_1 h123) | exact inI_s hI (sB_s (b := kM P N jb)) (ca_2 h135 h123) (hi_4 h149 h156 h167) (lo_1 h123) | exact inI_s hI (sB_s (b := kM P N jb)) (ca_3 h128 h135 h123) (hi_1 h149) (lo_1 h123) | exact inI_s hI (sB_s (b := kM P N jb)) (ca_3 h128 h135 h123) (hi_2 h149 h156) (lo_1 h123) | exact inI_s hI (sB_s (b := kM P N jb)) (ca_3 h128 h135 h123) (hi_3 h149 h156 h167) (lo_1 h123) | exact inI_s hI (sB_s (b := kM P N jb)) (ca_3 h128 h135 h123) (hi_4 h149 h156 h167) (lo_1 h123) | exact inI_s hI (sB_s (b := kM P N jb)) (ca_k hI h123 h189) (hi_n h123) (lo_2 h189) | exact inI_s hI (sB_s (b := kM P N jb)) (ca_1 h219) (hi_n h123) (lo_3 h189 h123 (fun y => h198 y.1) h255 h270) | exact inI_s hI (sB_s (b := kM P N jb)) (ca_1 h219) (hi_n h123) (lo_4 h189 h123 (fun y => h198 y.1) h255 h270) | exact inI_s hI (sB_s (b := kM P N jb)) (ca_1 h219) (hi_n h123) (lo_5 h189 h123 h255 h270) | exact inI_s hI (sB_s (b := kM P N jb)) (ca_1 h219) (hi_n h123) (lo_6 h189 h123 h255 h270) | exact inI_s hI (sB_s (b := kM P N jb)) (ca_4 h219 h123 (fun y => h198 y.1)) (hi_n h123) (lo_3 h189 h123 (fun y => h198 y.1) h255 h270) | exact inI_s hI (sB_s (b := kM P N jb)) (ca_4 h219 h123 (fun y => h198 y.1)) (hi_n h123) (lo_4 h189 h123 (fun y => h198 y.1) h255 h270) | exact inI_s hI (sB_s (b := kM P N jb)) (ca_4 h219 h123 (fun y => h198 y.1)) (hi_n h123) (lo_5 h189 h123 h255 h270) | exact inI_s hI (sB_s (b := kM P N jb)) (ca_4 h219 h123 (fun y => h198 y.1)) (hi_n h123) (lo_6 h189 h123 h255 h270) | exact inI_s hI (sB_s (b := kM P N jb)) (ca_1 h219) (hi_n h123) (lo_3 h189 h123 (fun y => h207 y.2) h255 h270) | exact inI_s hI (sB_s (b := kM P N jb)) (ca_1 h219) (hi_n h123) (lo_4 h189 h123 (fun y => h207 y.2) h255 h270) | exact inI_s hI (sB_s (b := kM P N jb)) (ca_1 h219) (hi_n h123) (lo_5 h189 h123 h255 h270) | exact inI_s hI (sB_s (b := kM P N jb)) (ca_1 h219) (hi_n h123) (lo_6 h189 h123 h255 h270) | exact inI_s hI (sB_s (b := kM P N jb)) (ca_4 h219 h123 (fun y => h207 y.2)) (hi_n h123) (lo_3 h189 h123 (fun y => h207 y.2) h255 h270) | exact inI_s hI (sB_s (b := kM P N jb)) (ca_4 h219 h123 (fun y => h207 y.2)) (hi_n h123) (lo_4 h189 h123 (fun y => h207 y.2) h255 h270) | exact inI_s hI (sB_s (b := kM P N jb)) (ca_4 h219 h123 (fun y => h207 y.2)) (hi_n h123) (lo_5 h189 h123 h255 h270) | exact inI_s hI (sB_s (b := kM P N jb)) (ca_4 h219 h123 (fun y => h207 y.2)) (hi_n h123) (lo_6 h189 h123 h255 h270) | exact inI_s hI (sB_s (b := kM P N jb)) (ca_1 h219) (hi_n h123) (lo_b h198 h207) | exact inI_s hI (sB_s (b := kM P N jb)) (ca_5 h198 h207) (hi_n h123) (lo_b h198 h207)) hZ (lv_sub hl [0, 7, 8, 1, 9, 3, 10, 11, 12] rfl)
                                        · skip
                                          rw [lg_cmp_le] at h270
                                          refine lv_lload hx hb d_Mod_into_273 (lv_at hl 0 rfl) ?_
                                          refine lv_goto (tgt := 279) hx hb d_Mod_into_275 (by decide) ?_
                                          refine lv_lstore_n (lv' := [(3, .long (((F ja (kM P N jb k)) / (F jb (kM P N jb k))) + 0)), (16, .long (((F ja (kM P N jb k)) / (F jb (kM P N jb k))) + 0)), (7, .int (nI 1)), (15, .int (nI 0)), (13, .long (F jb (kM P N jb k))), (11, .long (F ja (kM P N jb k))), (10, .int (nI (64 * jb + k))), (9, .int (nI jb)), (8, .int (nI 1)), (5, .long hi), (0, .ref (ad 43)), (1, .int (nI ja)), (2, .int (nI jb))]) hx hb d_Mod_into_279 rfl hl (by decide) rfl (fun ls hl => ?_)
                                          refine lv_iinc (v := (nI ((64 * jb + k) + 1))) (lv' := [(10, .int (nI ((64 * jb + k) + 1))), (3, .long (((F ja (kM P N jb k)) / (F jb (kM P N jb k))) + 0)), (16, .long (((F ja (kM P N jb k)) / (F jb (kM P N jb k))) + 0)), (7, .int (nI 1)), (15, .int (nI 0)), (13, .long (F jb (kM P N jb k))), (11, .long (F ja (kM P N jb k))), (9, .int (nI jb)), (8, .int (nI 1)), (5, .long hi), (0, .ref (ad 43)), (1, .int (nI ja)), (2, .int (nI jb))]) hx hb d_Mod_into_280 hl (k := 6) rfl (nI_1 _) (by decide) rfl (fun ls hl => ?_)
                                          refine lv_goto (tgt := 59) hx hb d_Mod_into_283 (by decide) ?_
                                          exact ih59b (k + 1) (((F ja (kM P N jb k)) / (F jb (kM P N jb k))) + 0) hi (nI 1) _ _ _ (by omega) (by omega) (by first | exact inI_s hI (sB_s (b := kM P N jb)) (ca_1 h128) (hi_1 h149) (lo_1 h123) | exact inI_s hI (sB_s (b := kM P N jb)) (ca_1 h128) (hi_2 h149 h156) (lo_1 h123) | exact inI_s hI (sB_s (b := kM P N jb)) (ca_1 h128) (hi_3 h149 h156 h167) (lo_1 h123) | exact inI_s hI (sB_s (b := kM P N jb)) (ca_1 h128) (hi_4 h149 h156 h167) (lo_1 h123) | exact inI_s hI (sB_s (b := kM P N jb)) (ca_2 h135 h123) (hi_1 h149) (lo_1 h123) | exact inI_s hI (sB_s (b := kM P N jb)) (ca_2 h135 h123) (hi_2 h149 h156) (lo_1 h123) | exact inI_s hI (sB_s (b := kM P N jb)) (ca_2 h135 h123) (hi_3 h149 h156 h167) (lo_1 h123) | exact inI_s hI (sB_s (b := kM P N jb)) (ca_2 h135 h123) (hi_4 h149 h156 h167) (lo_1 h123) | exact inI_s hI (sB_s (b := kM P N jb)) (ca_3 h128 h135 h123) (hi_1 h149) (lo_1 h123) | exact inI_s hI (sB_s (b := kM P N jb)) (ca_3 h128 h135 h123) (hi_2 h149 h156) (lo_1 h123) | exact inI_s hI (sB_s (b := kM P N jb)) (ca_3 h128 h135 h123) (hi_3 h149 h156 h167) (lo_1 h123) | exact inI_s hI (sB_s (b := kM P N jb)) (ca_3 h128 h135 h123) (hi_4 h149 h156 h167) (lo_1 h123) | exact inI_s hI (sB_s (b := kM P N jb)) (ca_k hI h123 h189) (hi_n h123) (lo_2 h189) | exact inI_s hI (sB_s (b := kM P N jb)) (ca_1 h219) (hi_n h123) (lo_3 h189 h123 (fun y => h198 y.1) h255 h270) | exact inI_s hI (sB_s (b := kM P N jb)) (ca_1 h219) (hi_n h123) (lo_4 h189 h123 (fun y => h198 y.1) h255 h270) | exact inI_s hI (sB_s (b := kM P N jb)) (ca_1 h219) (hi_n h123) (lo_5 h189 h123 h255 h270) | exact inI_s hI (sB_s (b := kM P N jb)) (ca_1 h219) (hi_n h123) (lo_6 h189 h123 h255 h270) | exact inI_s hI (sB_s (b := kM P N jb)) (ca_4 h219 h123 (fun y => h198 y.1)) (hi_n h123) (lo_3 h189 h123 (fun y => h198 y.1) h255 h270) | exact inI_s hI (sB_s (b := kM P N jb)) (ca_4 h219 h123 (fun y => h198 y.1)) (hi_n h123) (lo_4 h189 h123 (fun y => h198 y.1) h255 h270) | exact inI_s hI (sB_s (b := kM P N jb)) (ca_4 h219 h123 (fun y => h198 y.1)) (hi_n h123) (lo_5 h189 h123 h255 h270) | exact inI_s hI (sB_s (b := kM P N jb)) (ca_4 h219 h123 (fun y => h198 y.1)) (hi_n h123) (lo_6 h189 h123 h255 h270) | exact inI_s hI (sB_s (b := kM P N jb)) (ca_1 h219) (hi_n h123) (lo_3 h189 h123 (fun y => h207 y.2) h255 h270) | exact inI_s hI (sB_s (b := kM P N jb)) (ca_1 h219) (hi_n h123) (lo_4 h189 h123 (fun y => h207 y.2) h255 h270) | exact inI_s hI (sB_s (b := kM P N jb)) (ca_1 h219) (hi_n h123) (lo_5 h189 h123 h255 h270) | exact inI_s hI (sB_s (b := kM P N jb)) (ca_1 h219) (hi_n h123) (lo_6 h189 h123 h255 h270) | exact inI_s hI (sB_s (b := kM P N jb)) (ca_4 h219 h123 (fun y => h207 y.2)) (hi_n h123) (lo_3 h189 h123 (fun y => h207 y.2) h255 h270) | exact inI_s hI (sB_s (b := kM P N jb)) (ca_4 h219 h123 (fun y => h207 y.2)) (hi_n h123) (lo_4 h189 h123 (fun y => h207 y.2) h255 h270) | exact inI_s hI (sB_s (b := kM P N jb)) (ca_4 h219 h123 (fun y => h207 y.2)) (hi_n h123) (lo_5 h189 h123 h255 h270) | exact inI_s hI (sB_s (b := kM P N jb)) (ca_4 h219 h123 (fun y => h207 y.2)) (hi_n h123) (lo_6 h189 h123 h255 h270) | exact inI_s hI (sB_s (b := kM P N jb)) (ca_1 h219) (hi_n h123) (lo_b h198 h207) | exact inI_s hI (sB_s (b := kM P N jb)) (ca_5 h198 h207) (hi_n h123) (lo_b h198 h207)) hZ (lv_sub hl [0, 7, 8, 1, 9, 3, 10, 11, 12] rfl)
                                      · skip
                                        rw [lg_cmp_eq] at h255
                                        refine lv_lconst (v := 1) hx hb d_Mod_into_258 rfl ?_
                                        refine lv_goto (tgt := 263) hx hb d_Mod_into_259 (by decide) ?_
                                        refine lv_ladd hx hb d_Mod_into_263 ?_
                                        refine lv_lstore (lv' := [(16, .long (((F ja (kM P N jb k)) / (F jb (kM P N jb k))) + 1)), (7, .int (nI 1)), (15, .int (nI 0)), (13, .long (F jb (kM P N jb k))), (11, .long (F ja (kM P N jb k))), (10, .int (nI (64 * jb + k))), (9, .int (nI jb)), (8, .int (nI 1)), (3, .long lo), (5, .long hi), (0, .ref (ad 43)), (1, .int (nI ja)), (2, .int (nI jb))]) hx hb d_Mod_into_264 hl (by decide) rfl (fun ls hl => ?_)
                                        refine lv_lload hx hb d_Mod_into_266 (lv_at hl 0 rfl) ?_
                                        refine lv_lload_n hx hb d_Mod_into_268 rfl (lv_at hl 8 rfl) ?_
                                        refine W.lcmp hx hb d_Mod_into_269 ?_
                                        refine lv_if_le (tgt := 278) hx hb d_Mod_into_270 (by decide) (fun h270 => ?_) (fun h270 => ?_)
                                        · skip
                                          rw [lg_cmp_le] at h270
                                          refine lv_lload_n hx hb d_Mod_into_278 rfl (lv_at hl 8 rfl) ?_
                                          refine lv_lstore_n (lv' := [(3, .long lo), (16, .long (((F ja (kM P N jb k)) / (F jb (kM P N jb k))) + 1)), (7, .int (nI 1)), (15, .int (nI 0)), (13, .long (F jb (kM P N jb k))), (11, .long (F ja (kM P N jb k))), (10, .int (nI (64 * jb + k))), (9, .int (nI jb)), (8, .int (nI 1)), (5, .long hi), (0, .ref (ad 43)), (1, .int (nI ja)), (2, .int (nI jb))]) hx hb d_Mod_into_279 rfl hl (by decide) rfl (fun ls hl => ?_)
                                          refine lv_iinc (v := (nI ((64 * jb + k) + 1))) (lv' := [(10, .int (nI ((64 * jb + k) + 1))), (3, .long lo), (16, .long (((F ja (kM P N jb k)) / (F jb (kM P N jb k))) + 1)), (7, .int (nI 1)), (15, .int (nI 0)), (13, .long (F jb (kM P N jb k))), (11, .long (F ja (kM P N jb k))), (9, .int (nI jb)), (8, .int (nI 1)), (5, .long hi), (0, .ref (ad 43)), (1, .int (nI ja)), (2, .int (nI jb))]) hx hb d_Mod_into_280 hl (k := 6) rfl (nI_1 _) (by decide) rfl (fun ls hl => ?_)
                                          refine lv_goto (tgt := 59) hx hb d_Mod_into_283 (by decide) ?_
                                          exact ih59b (k + 1) lo hi (nI 1) _ _ _ (by omega) (by omega) (by first | exact inI_s hI (sB_s (b := kM P N jb)) (ca_1 h128) (hi_1 h149) (lo_1 h123) | exact inI_s hI (sB_s (b := kM P N jb)) (ca_1 h128) (hi_2 h149 h156) (lo_1 h123) | exact inI_s hI (sB_s (b := kM P N jb)) (ca_1 h128) (hi_3 h149 h156 h167) (lo_1 h123) | exact inI_s hI (sB_s (b := kM P N jb)) (ca_1 h128) (hi_4 h149 h156 h167) (lo_1 h123) | exact inI_s hI (sB_s (b := kM P N jb)) (ca_2 h135 h123) (hi_1 h149) (lo_1 h123) | exact inI_s hI (sB_s (b := kM P N jb)) (ca_2 h135 h123) (hi_2 h149 h156) (lo_1 h123) | exact inI_s hI (sB_s (b := kM P N jb)) (ca_2 h135 h123) (hi_3 h149 h156 h167) (lo_1 h123) | exact inI_s hI (sB_s (b := kM P N jb)) (ca_2 h135 h123) (hi_4 h149 h156 h167) (lo_1 h123) | exact inI_s hI (sB_s (b := kM P N jb)) (ca_3 h128 h135 h123) (hi_1 h149) (lo_1 h123) | exact inI_s hI (sB_s (b := kM P N jb)) (ca_3 h128 h135 h123) (hi_2 h149 h156) (lo_1 h123) | exact inI_s hI (sB_s (b := kM P N jb)) (ca_3 h128 h135 h123) (hi_3 h149 h156 h167) (lo_1 h123) | exact inI_s hI (sB_s (b := kM P N jb)) (ca_3 h128 h135 h123) (hi_4 h149 h156 h167) (lo_1 h123) | exact inI_s hI (sB_s (b := kM P N jb)) (ca_k hI h123 h189) (hi_n h123) (lo_2 h189) | exact inI_s hI (sB_s (b := kM P N jb)) (ca_1 h219) (hi_n h123) (lo_3 h189 h123 (fun y => h198 y.1) h255 h270) | exact inI_s hI (sB_s (b := kM P N jb)) (ca_1 h219) (hi_n h123) (lo_4 h189 h123 (fun y => h198 y.1) h255 h270) | exact inI_s hI (sB_s (b := kM P N jb)) (ca_1 h219) (hi_n h123) (lo_5 h189 h123 h255 h270) | exact inI_s hI (sB_s (b := kM P N jb)) (ca_1 h219) (hi_n h123) (lo_6 h189 h123 h255 h270) | exact inI_s hI (sB_s (b := kM P N jb)) (ca_4 h219 h123 (fun y => h198 y.1)) (hi_n h123) (lo_3 h189 h123 (fun y => h198 y.1) h255 h270) | exact inI_s hI (sB_s (b := kM P N jb)) (ca_4 h219 h123 (fun y => h198 y.1)) (hi_n h123) (lo_4 h189 h123 (fun y => h198 y.1) h255 h270) | exact inI_s hI (sB_s (b := kM P N jb)) (ca_4 h219 h123 (fun y => h198 y.1)) (hi_n h123) (lo_5 h189 h123 h255 h270) | exact inI_s hI (sB_s (b := kM P N jb)) (ca_4 h219 h123 (fun y => h198 y.1)) (hi_n h123) (lo_6 h189 h123 h255 h270) | exact inI_s hI (sB_s (b := kM P N jb)) (ca_1 h219) (hi_n h123) (lo_3 h189 h123 (fun y => h207 y.2) h255 h270) | exact inI_s hI (sB_s (b := kM P N jb)) (ca_1 h219) (hi_n h123) (lo_4 h189 h123 (fun y => h207 y.2) h255 h270) | exact inI_s hI (sB_s (b := kM P N jb)) (ca_1 h219) (hi_n h123) (lo_5 h189 h123 h255 h270) | exact inI_s hI (sB_s (b := kM P N jb)) (ca_1 h219) (hi_n h123) (lo_6 h189 h123 h255 h270) | exact inI_s hI (sB_s (b := kM P N jb)) (ca_4 h219 h123 (fun y => h207 y.2)) (hi_n h123) (lo_3 h189 h123 (fun y => h207 y.2) h255 h270) | exact inI_s hI (sB_s (b := kM P N jb)) (ca_4 h219 h123 (fun y => h207 y.2)) (hi_n h123) (lo_4 h189 h123 (fun y => h207 y.2) h255 h270) | exact inI_s hI (sB_s (b := kM P N jb)) (ca_4 h219 h123 (fun y => h207 y.2)) (hi_n h123) (lo_5 h189 h123 h255 h270) | exact inI_s hI (sB_s (b := kM P N jb)) (ca_4 h219 h123 (fun y => h207 y.2)) (hi_n h123) (lo_6 h189 h123 h255 h270) | exact inI_s hI (sB_s (b := kM P N jb)) (ca_1 h219) (hi_n h123) (lo_b h198 h207) | exact inI_s hI (sB_s (b := kM P N jb)) (ca_5 h198 h207) (hi_n h123) (lo_b h198 h207)) hZ (lv_sub hl [0, 7, 8, 1, 9, 3, 10, 11, 12] rfl)
                                        · skip
                                          rw [lg_cmp_le] at h270
                                          refine lv_lload hx hb d_Mod_into_273 (lv_at hl 0 rfl) ?_
                                          refine lv_goto (tgt := 279) hx hb d_Mod_into_275 (by decide) ?_
                                          refine lv_lstore_n (lv' := [(3, .long (((F ja (kM P N jb k)) / (F jb (kM P N jb k))) + 1)), (16, .long (((F ja (kM P N jb k)) / (F jb (kM P N jb k))) + 1)), (7, .int (nI 1)), (15, .int (nI 0)), (13, .long (F jb (kM P N jb k))), (11, .long (F ja (kM P N jb k))), (10, .int (nI (64 * jb + k))), (9, .int (nI jb)), (8, .int (nI 1)), (5, .long hi), (0, .ref (ad 43)), (1, .int (nI ja)), (2, .int (nI jb))]) hx hb d_Mod_into_279 rfl hl (by decide) rfl (fun ls hl => ?_)
                                          refine lv_iinc (v := (nI ((64 * jb + k) + 1))) (lv' := [(10, .int (nI ((64 * jb + k) + 1))), (3, .long (((F ja (kM P N jb k)) / (F jb (kM P N jb k))) + 1)), (16, .long (((F ja (kM P N jb k)) / (F jb (kM P N jb k))) + 1)), (7, .int (nI 1)), (15, .int (nI 0)), (13, .long (F jb (kM P N jb k))), (11, .long (F ja (kM P N jb k))), (9, .int (nI jb)), (8, .int (nI 1)), (5, .long hi), (0, .ref (ad 43)), (1, .int (nI ja)), (2, .int (nI jb))]) hx hb d_Mod_into_280 hl (k := 6) rfl (nI_1 _) (by decide) rfl (fun ls hl => ?_)
                                          refine lv_goto (tgt := 59) hx hb d_Mod_into_283 (by decide) ?_
                                          exact ih59b (k + 1) (((F ja (kM P N jb k)) / (F jb (kM P N jb k))) + 1) hi (nI 1) _ _ _ (by omega) (by omega) (by first | exact inI_s hI (sB_s (b := kM P N jb)) (ca_1 h128) (hi_1 h149) (lo_1 h123) | exact inI_s hI (sB_s (b := kM P N jb)) (ca_1 h128) (hi_2 h149 h156) (lo_1 h123) | exact inI_s hI (sB_s (b := kM P N jb)) (ca_1 h128) (hi_3 h149 h156 h167) (lo_1 h123) | exact inI_s hI (sB_s (b := kM P N jb)) (ca_1 h128) (hi_4 h149 h156 h167) (lo_1 h123) | exact inI_s hI (sB_s (b := kM P N jb)) (ca_2 h135 h123) (hi_1 h149) (lo_1 h123) | exact inI_s hI (sB_s (b := kM P N jb)) (ca_2 h135 h123) (hi_2 h149 h156) (lo_1 h123) | exact inI_s hI (sB_s (b := kM P N jb)) (ca_2 h135 h123) (hi_3 h149 h156 h167) (lo_1 h123) | exact inI_s hI (sB_s (b := kM P N jb)) (ca_2 h135 h123) (hi_4 h149 h156 h167) (lo_1 h123) | exact inI_s hI (sB_s (b := kM P N jb)) (ca_3 h128 h135 h123) (hi_1 h149) (lo_1 h123) | exact inI_s hI (sB_s (b := kM P N jb)) (ca_3 h128 h135 h123) (hi_2 h149 h156) (lo_1 h123) | exact inI_s hI (sB_s (b := kM P N jb)) (ca_3 h128 h135 h123) (hi_3 h149 h156 h167) (lo_1 h123) | exact inI_s hI (sB_s (b := kM P N jb)) (ca_3 h128 h135 h123) (hi_4 h149 h156 h167) (lo_1 h123) | exact inI_s hI (sB_s (b := kM P N jb)) (ca_k hI h123 h189) (hi_n h123) (lo_2 h189) | exact inI_s hI (sB_s (b := kM P N jb)) (ca_1 h219) (hi_n h123) (lo_3 h189 h123 (fun y => h198 y.1) h255 h270) | exact inI_s hI (sB_s (b := kM P N jb)) (ca_1 h219) (hi_n h123) (lo_4 h189 h123 (fun y => h198 y.1) h255 h270) | exact inI_s hI (sB_s (b := kM P N jb)) (ca_1 h219) (hi_n h123) (lo_5 h189 h123 h255 h270) | exact inI_s hI (sB_s (b := kM P N jb)) (ca_1 h219) (hi_n h123) (lo_6 h189 h123 h255 h270) | exact inI_s hI (sB_s (b := kM P N jb)) (ca_4 h219 h123 (fun y => h198 y.1)) (hi_n h123) (lo_3 h189 h123 (fun y => h198 y.1) h255 h270) | exact inI_s hI (sB_s (b := kM P N jb)) (ca_4 h219 h123 (fun y => h198 y.1)) (hi_n h123) (lo_4 h189 h123 (fun y => h198 y.1) h255 h270) | exact inI_s hI (sB_s (b := kM P N jb)) (ca_4 h219 h123 (fun y => h198 y.1)) (hi_n h123) (lo_5 h189 h123 h255 h270) | exact inI_s hI (sB_s (b := kM P N jb)) (ca_4 h219 h123 (fun y => h198 y.1)) (hi_n h123) (lo_6 h189 h123 h255 h270) | exact inI_s hI (sB_s (b := kM P N jb)) (ca_1 h219) (hi_n h123) (lo_3 h189 h123 (fun y => h207 y.2) h255 h270) | exact inI_s hI (sB_s (b := kM P N jb)) (ca_1 h219) (hi_n h123) (lo_4 h189 h123 (fun y => h207 y.2) h255 h270) | exact inI_s hI (sB_s (b := kM P N jb)) (ca_1 h219) (hi_n h123) (lo_5 h189 h123 h255 h270) | exact inI_s hI (sB_s (b := kM P N jb)) (ca_1 h219) (hi_n h123) (lo_6 h189 h123 h255 h270) | exact inI_s hI (sB_s (b := kM P N jb)) (ca_4 h219 h123 (fun y => h207 y.2)) (hi_n h123) (lo_3 h189 h123 (fun y => h207 y.2) h255 h270) | exact inI_s hI (sB_s (b := kM P N jb)) (ca_4 h219 h123 (fun y => h207 y.2)) (hi_n h123) (lo_4 h189 h123 (fun y => h207 y.2) h255 h270) | exact inI_s hI (sB_s (b := kM P N jb)) (ca_4 h219 h123 (fun y => h207 y.2)) (hi_n h123) (lo_5 h189 h123 h255 h270) | exact inI_s hI (sB_s (b := kM P N jb)) (ca_4 h219 h123 (fun y => h207 y.2)) (hi_n h123) (lo_6 h189 h123 h255 h270) | exact inI_s hI (sB_s (b := kM P N jb)) (ca_1 h219) (hi_n h123) (lo_b h198 h207) | exact inI_s hI (sB_s (b := kM P N jb)) (ca_5 h198 h207) (hi_n h123) (lo_b h198 h207)) hZ (lv_sub hl [0, 7, 8, 1, 9, 3, 10, 11, 12] rfl)
                                    · skip
                                      have h236 : ¬ 0 = 0 := fun z9 => h236 ((nI_eq (a := 0) (b := 0) (by omega) (by omega)).mpr z9)
                                      exact absurd h236 (by decide)
                              · skip
                                rw [lg_cmp_eq] at h207
                                refine lv_iconst (v := (nI 1)) hx hb d_Mod_into_210 rfl ?_
                                refine lv_goto (tgt := 215) hx hb d_Mod_into_211 (by decide) ?_
                                refine lv_istore (lv' := [(15, .int (nI 1)), (13, .long (F jb (kM P N jb k))), (11, .long (F ja (kM P N jb k))), (10, .int (nI (64 * jb + k))), (9, .int (nI jb)), (8, .int (nI 1)), (3, .long lo), (5, .long hi), (7, .int ca), (0, .ref (ad 43)), (1, .int (nI ja)), (2, .int (nI jb))]) hx hb d_Mod_into_215 hl (by decide) rfl (fun ls hl => ?_)
                                refine lv_iload hx hb d_Mod_into_217 (lv_at hl 8 rfl) ?_
                                refine lv_if_eq (tgt := 231) hx hb d_Mod_into_219 (by decide) (fun h219 => ?_) (fun h219 => ?_)
                                · skip
                                  refine lv_iconst (v := (nI 0)) hx hb d_Mod_into_231 rfl ?_
                                  refine lv_istore (lv' := [(7, .int (nI 0)), (15, .int (nI 1)), (13, .long (F jb (kM P N jb k))), (11, .long (F ja (kM P N jb k))), (10, .int (nI (64 * jb + k))), (9, .int (nI jb)), (8, .int (nI 1)), (3, .long lo), (5, .long hi), (0, .ref (ad 43)), (1, .int (nI ja)), (2, .int (nI jb))]) hx hb d_Mod_into_232 hl (by decide) rfl (fun ls hl => ?_)
                                  refine lv_iload hx hb d_Mod_into_234 (lv_at hl 1 rfl) ?_
                                  refine lv_if_eq (tgt := 243) hx hb d_Mod_into_236 (by decide) (fun h236 => ?_) (fun h236 => ?_)
                                  · skip
                                    have h236 : 1 = 0 := (nI_eq (a := 1) (b := 0) (by omega) (by omega)).mp h236
                                    exact absurd h236 (by decide)
                                  · skip
                                    have h236 : ¬ 1 = 0 := fun z9 => h236 ((nI_eq (a := 1) (b := 0) (by omega) (by omega)).mpr z9)
                                    refine lv_lconst (v := 0) hx hb d_Mod_into_239 rfl ?_
                                    refine lv_goto (tgt := 264) hx hb d_Mod_into_240 (by decide) ?_
                                    refine lv_lstore (lv' := [(16, .long 0), (7, .int (nI 0)), (15, .int (nI 1)), (13, .long (F jb (kM P N jb k))), (11, .long (F ja (kM P N jb k))), (10, .int (nI (64 * jb + k))), (9, .int (nI jb)), (8, .int (nI 1)), (3, .long lo), (5, .long hi), (0, .ref (ad 43)), (1, .int (nI ja)), (2, .int (nI jb))]) hx hb d_Mod_into_264 hl (by decide) rfl (fun ls hl => ?_)
                                    refine lv_lload hx hb d_Mod_into_266 (lv_at hl 0 rfl) ?_
                                    refine lv_lload_n hx hb d_Mod_into_268 rfl (lv_at hl 8 rfl) ?_
                                    refine W.lcmp hx hb d_Mod_into_269 ?_
                                    refine lv_if_le (tgt := 278) hx hb d_Mod_into_270 (by decide) (fun h270 => ?_) (fun h270 => ?_)
                                    · skip
                                      rw [lg_cmp_le] at h270
                                      refine lv_lload_n hx hb d_Mod_into_278 rfl (lv_at hl 8 rfl) ?_
                                      refine lv_lstore_n (lv' := [(3, .long lo), (16, .long 0), (7, .int (nI 0)), (15, .int (nI 1)), (13, .long (F jb (kM P N jb k))), (11, .long (F ja (kM P N jb k))), (10, .int (nI (64 * jb + k))), (9, .int (nI jb)), (8, .int (nI 1)), (5, .long hi), (0, .ref (ad 43)), (1, .int (nI ja)), (2, .int (nI jb))]) hx hb d_Mod_into_279 rfl hl (by decide) rfl (fun ls hl => ?_)
                                      refine lv_iinc (v := (nI ((64 * jb + k) + 1))) (lv' := [(10, .int (nI ((64 * jb + k) + 1))), (3, .long lo), (16, .long 0), (7, .int (nI 0)), (15, .int (nI 1)), (13, .long (F jb (kM P N jb k))), (11, .long (F ja (kM P N jb k))), (9, .int (nI jb)), (8, .int (nI 1)), (5, .long hi), (0, .ref (ad 43)), (1, .int (nI ja)), (2, .int (nI jb))]) hx hb d_Mod_into_280 hl (k := 6) rfl (nI_1 _) (by decide) rfl (fun ls hl => ?_)
                                      refine lv_goto (tgt := 59) hx hb d_Mod_into_283 (by decide) ?_
                                      exact ih59b (k + 1) lo hi (nI 0) _ _ _ (by omega) (by omega) (by first | exact inI_s hI (sB_s (b := kM P N jb)) (ca_1 h128) (hi_1 h149) (lo_1 h123) | exact inI_s hI (sB_s (b := kM P N jb)) (ca_1 h128) (hi_2 h149 h156) (lo_1 h123) | exact inI_s hI (sB_s (b := kM P N jb)) (ca_1 h128) (hi_3 h149 h156 h167) (lo_1 h123) | exact inI_s hI (sB_s (b := kM P N jb)) (ca_1 h128) (hi_4 h149 h156 h167) (lo_1 h123) | exact inI_s hI (sB_s (b := kM P N jb)) (ca_2 h135 h123) (hi_1 h149) (lo_1 h123) | exact inI_s hI (sB_s (b := kM P N jb)) (ca_2 h135 h123) (hi_2 h149 h156) (lo_1 h123) | exact inI_s hI (sB_s (b := kM P N jb)) (ca_2 h135 h123) (hi_3 h149 h156 h167) (lo_1 h123) | exact inI_s hI (sB_s (b := kM P N jb)) (ca_2 h135 h123) (hi_4 h149 h156 h167) (lo_1 h123) | exact inI_s hI (sB_s (b := kM P N jb)) (ca_3 h128 h135 h123) (hi_1 h149) (lo_1 h123) | exact inI_s hI (sB_s (b := kM P N jb)) (ca_3 h128 h135 h123) (hi_2 h149 h156) (lo_1 h123) | exact inI_s hI (sB_s (b := kM P N jb)) (ca_3 h128 h135 h123) (hi_3 h149 h156 h167) (lo_1 h123) | exact inI_s hI (sB_s (b := kM P N jb)) (ca_3 h128 h135 h123) (hi_4 h149 h156 h167) (lo_1 h123) | exact inI_s hI (sB_s (b := kM P N jb)) (ca_k hI h123 h189) (hi_n h123) (lo_2 h189) | exact inI_s hI (sB_s (b := kM P N jb)) (ca_1 h219) (hi_n h123) (lo_3 h189 h123 (fun y => h198 y.1) h255 h270) | exact inI_s hI (sB_s (b := kM P N jb)) (ca_1 h219) (hi_n h123) (lo_4 h189 h123 (fun y => h198 y.1) h255 h270) | exact inI_s hI (sB_s (b := kM P N jb)) (ca_1 h219) (hi_n h123) (lo_5 h189 h123 h255 h270) | exact inI_s hI (sB_s (b := kM P N jb)) (ca_1 h219) (hi_n h123) (lo_6 h189 h123 h255 h270) | exact inI_s hI (sB_s (b := kM P N jb)) (ca_4 h219 h123 (fun y => h198 y.1)) (hi_n h123) (lo_3 h189 h123 (fun y => h198 y.1) h255 h270) | exact inI_s hI (sB_s (b := kM P N jb)) (ca_4 h219 h123 (fun y => h198 y.1)) (hi_n h123) (lo_4 h189 h123 (fun y => h198 y.1) h255 h270) | exact inI_s hI (sB_s (b := kM P N jb)) (ca_4 h219 h123 (fun y => h198 y.1)) (hi_n h123) (lo_5 h189 h123 h255 h270) | exact inI_s hI (sB_s (b := kM P N jb)) (ca_4 h219 h123 (fun y => h198 y.1)) (hi_n h123) (lo_6 h189 h123 h255 h270) | exact inI_s hI (sB_s (b := kM P N jb)) (ca_1 h219) (hi_n h123) (lo_3 h189 h123 (fun y => h207 y.2) h255 h270) | exact inI_s hI (sB_s (b := kM P N jb)) (ca_1 h219) (hi_n h123) (lo_4 h189 h123 (fun y => h207 y.2) h255 h270) | exact inI_s hI (sB_s (b := kM P N jb)) (ca_1 h219) (hi_n h123) (lo_5 h189 h123 h255 h270) | exact inI_s hI (sB_s (b := kM P N jb)) (ca_1 h219) (hi_n h123) (lo_6 h189 h123 h255 h270) | exact inI_s hI (sB_s (b := kM P N jb)) (ca_4 h219 h123 (fun y => h207 y.2)) (hi_n h123) (lo_3 h189 h123 (fun y => h207 y.2) h255 h270) | exact inI_s hI (sB_s (b := kM P N jb)) (ca_4 h219 h123 (fun y => h207 y.2)) (hi_n h123) (lo_4 h189 h123 (fun y => h207 y.2) h255 h270) | exact inI_s hI (sB_s (b := kM P N jb)) (ca_4 h219 h123 (fun y => h207 y.2)) (hi_n h123) (lo_5 h189 h123 h255 h270) | exact inI_s hI (sB_s (b := kM P N jb)) (ca_4 h219 h123 (fun y => h207 y.2)) (hi_n h123) (lo_6 h189 h123 h255 h270) | exact inI_s hI (sB_s (b := kM P N jb)) (ca_1 h219) (hi_n h123) (lo_b h198 h207) | exact inI_s hI (sB_s (b := kM P N jb)) (ca_5 h198 h207) (hi_n h123) (lo_b h198 h207)) hZ (lv_sub hl [0, 7, 8, 1, 9, 3, 10, 11, 12] rfl)
                                    · skip
                                      rw [lg_cmp_le] at h270
                                      refine lv_lload hx hb d_Mod_into_273 (lv_at hl 0 rfl) ?_
                                      refine lv_goto (tgt := 279) hx hb d_Mod_into_275 (by decide) ?_
                                      refine lv_lstore_n (lv' := [(3, .long 0), (16, .long 0), (7, .int (nI 0)), (15, .int (nI 1)), (13, .long (F jb (kM P N jb k))), (11, .long (F ja (kM P N jb k))), (10, .int (nI (64 * jb + k))), (9, .int (nI jb)), (8, .int (nI 1)), (5, .long hi), (0, .ref (ad 43)), (1, .int (nI ja)), (2, .int (nI jb))]) hx hb d_Mod_into_279 rfl hl (by decide) rfl (fun ls hl => ?_)
                                      refine lv_iinc (v := (nI ((64 * jb + k) + 1))) (lv' := [(10, .int (nI ((64 * jb + k) + 1))), (3, .long 0), (16, .long 0), (7, .int (nI 0)), (15, .int (nI 1)), (13, .long (F jb (kM P N jb k))), (11, .long (F ja (kM P N jb k))), (9, .int (nI jb)), (8, .int (nI 1)), (5, .long hi), (0, .ref (ad 43)), (1, .int (nI ja)), (2, .int (nI jb))]) hx hb d_Mod_into_280 hl (k := 6) rfl (nI_1 _) (by decide) rfl (fun ls hl => ?_)
                                      refine lv_goto (tgt := 59) hx hb d_Mod_into_283 (by decide) ?_
                                      exact ih59b (k + 1) 0 hi (nI 0) _ _ _ (by omega) (by omega) (by first | exact inI_s hI (sB_s (b := kM P N jb)) (ca_1 h128) (hi_1 h149) (lo_1 h123) | exact inI_s hI (sB_s (b := kM P N jb)) (ca_1 h128) (hi_2 h149 h156) (lo_1 h123) | exact inI_s hI (sB_s (b := kM P N jb)) (ca_1 h128) (hi_3 h149 h156 h167) (lo_1 h123) | exact inI_s hI (sB_s (b := kM P N jb)) (ca_1 h128) (hi_4 h149 h156 h167) (lo_1 h123) | exact inI_s hI (sB_s (b := kM P N jb)) (ca_2 h135 h123) (hi_1 h149) (lo_1 h123) | exact inI_s hI (sB_s (b := kM P N jb)) (ca_2 h135 h123) (hi_2 h149 h156) (lo_1 h123) | exact inI_s hI (sB_s (b := kM P N jb)) (ca_2 h135 h123) (hi_3 h149 h156 h167) (lo_1 h123) | exact inI_s hI (sB_s (b := kM P N jb)) (ca_2 h135 h123) (hi_4 h149 h156 h167) (lo_1 h123) | exact inI_s hI (sB_s (b := kM P N jb)) (ca_3 h128 h135 h123) (hi_1 h149) (lo_1 h123) | exact inI_s hI (sB_s (b := kM P N jb)) (ca_3 h128 h135 h123) (hi_2 h149 h156) (lo_1 h123) | exact inI_s hI (sB_s (b := kM P N jb)) (ca_3 h128 h135 h123) (hi_3 h149 h156 h167) (lo_1 h123) | exact inI_s hI (sB_s (b := kM P N jb)) (ca_3 h128 h135 h123) (hi_4 h149 h156 h167) (lo_1 h123) | exact inI_s hI (sB_s (b := kM P N jb)) (ca_k hI h123 h189) (hi_n h123) (lo_2 h189) | exact inI_s hI (sB_s (b := kM P N jb)) (ca_1 h219) (hi_n h123) (lo_3 h189 h123 (fun y => h198 y.1) h255 h270) | exact inI_s hI (sB_s (b := kM P N jb)) (ca_1 h219) (hi_n h123) (lo_4 h189 h123 (fun y => h198 y.1) h255 h270) | exact inI_s hI (sB_s (b := kM P N jb)) (ca_1 h219) (hi_n h123) (lo_5 h189 h123 h255 h270) | exact inI_s hI (sB_s (b := kM P N jb)) (ca_1 h219) (hi_n h123) (lo_6 h189 h123 h255 h270) | exact inI_s hI (sB_s (b := kM P N jb)) (ca_4 h219 h123 (fun y => h198 y.1)) (hi_n h123) (lo_3 h189 h123 (fun y => h198 y.1) h255 h270) | exact inI_s hI (sB_s (b := kM P N jb)) (ca_4 h219 h123 (fun y => h198 y.1)) (hi_n h123) (lo_4 h189 h123 (fun y => h198 y.1) h255 h270) | exact inI_s hI (sB_s (b := kM P N jb)) (ca_4 h219 h123 (fun y => h198 y.1)) (hi_n h123) (lo_5 h189 h123 h255 h270) | exact inI_s hI (sB_s (b := kM P N jb)) (ca_4 h219 h123 (fun y => h198 y.1)) (hi_n h123) (lo_6 h189 h123 h255 h270) | exact inI_s hI (sB_s (b := kM P N jb)) (ca_1 h219) (hi_n h123) (lo_3 h189 h123 (fun y => h207 y.2) h255 h270) | exact inI_s hI (sB_s (b := kM P N jb)) (ca_1 h219) (hi_n h123) (lo_4 h189 h123 (fun y => h207 y.2) h255 h270) | exact inI_s hI (sB_s (b := kM P N jb)) (ca_1 h219) (hi_n h123) (lo_5 h189 h123 h255 h270) | exact inI_s hI (sB_s (b := kM P N jb)) (ca_1 h219) (hi_n h123) (lo_6 h189 h123 h255 h270) | exact inI_s hI (sB_s (b := kM P N jb)) (ca_4 h219 h123 (fun y => h207 y.2)) (hi_n h123) (lo_3 h189 h123 (fun y => h207 y.2) h255 h270) | exact inI_s hI (sB_s (b := kM P N jb)) (ca_4 h219 h123 (fun y => h207 y.2)) (hi_n h123) (lo_4 h189 h123 (fun y => h207 y.2) h255 h270) | exact inI_s hI (sB_s (b := kM P N jb)) (ca_4 h219 h123 (fun y => h207 y.2)) (hi_n h123) (lo_5 h189 h123 h255 h270) | exact inI_s hI (sB_s (b := kM P N jb)) (ca_4 h219 h123 (fun y => h207 y.2)) (hi_n h123) (lo_6 h189 h123 h255 h270) | exact inI_s hI (sB_s (b := kM P N jb)) (ca_1 h219) (hi_n h123) (lo_b h198 h207) | exact inI_s hI (sB_s (b := kM P N jb)) (ca_5 h198 h207) (hi_n h123) (lo_b h198 h207)) hZ (lv_sub hl [0, 7, 8, 1, 9, 3, 10, 11, 12] rfl)
                                · skip
                                  refine lv_iload hx hb d_Mod_into_222 (lv_at hl 0 rfl) ?_
                                  refine lv_if_ne (tgt := 231) hx hb d_Mod_into_224 (by decide) (fun h224 => ?_) (fun h224 => ?_)
                                  · skip
                                    have h224 : ¬ 1 = 0 := fun z9 => h224 ((nI_eq (a := 1) (b := 0) (by omega) (by omega)).mpr z9)
                                    refine lv_iconst (v := (nI 0)) hx hb d_Mod_into_231 rfl ?_
                                    refine lv_istore (lv' := [(7, .int (nI 0)), (15, .int (nI 1)), (13, .long (F jb (kM P N jb k))), (11, .long (F ja (kM P N jb k))), (10, .int (nI (64 * jb + k))), (9, .int (nI jb)), (8, .int (nI 1)), (3, .long lo), (5, .long hi), (0, .ref (ad 43)), (1, .int (nI ja)), (2, .int (nI jb))]) hx hb d_Mod_into_232 hl (by decide) rfl (fun ls hl => ?_)
                                    refine lv_iload hx hb d_Mod_into_234 (lv_at hl 1 rfl) ?_
                                    refine lv_if_eq (tgt := 243) hx hb d_Mod_into_236 (by decide) (fun h236 => ?_) (fun h236 => ?_)
                                    · skip
                                      have h236 : 1 = 0 := (nI_eq (a := 1) (b := 0) (by omega) (by omega)).mp h236
                                      exact absurd h236 (by decide)
                                    · skip
                                      have h236 : ¬ 1 = 0 := fun z9 => h236 ((nI_eq (a := 1) (b := 0) (by omega) (by omega)).mpr z9)
                                      refine lv_lconst (v := 0) hx hb d_Mod_into_239 rfl ?_
                                      refine lv_goto (tgt := 264) hx hb d_Mod_into_240 (by decide) ?_
                                      refine lv_lstore (lv' := [(16, .long 0), (7, .int (nI 0)), (15, .int (nI 1)), (13, .long (F jb (kM P N jb k))), (11, .long (F ja (kM P N jb k))), (10, .int (nI (64 * jb + k))), (9, .int (nI jb)), (8, .int (nI 1)), (3, .long lo), (5, .long hi), (0, .ref (ad 43)), (1, .int (nI ja)), (2, .int (nI jb))]) hx hb d_Mod_into_264 hl (by decide) rfl (fun ls hl => ?_)
                                      refine lv_lload hx hb d_Mod_into_266 (lv_at hl 0 rfl) ?_
                                      refine lv_lload_n hx hb d_Mod_into_268 rfl (lv_at hl 8 rfl) ?_
                                      refine W.lcmp hx hb d_Mod_into_269 ?_
                                      refine lv_if_le (tgt := 278) hx hb d_Mod_into_270 (by decide) (fun h270 => ?_) (fun h270 => ?_)
                                      · skip
                                        rw [lg_cmp_le] at h270
                                        refine lv_lload_n hx hb d_Mod_into_278 rfl (lv_at hl 8 rfl) ?_
                                        refine lv_lstore_n (lv' := [(3, .long lo), (16, .long 0), (7, .int (nI 0)), (15, .int (nI 1)), (13, .long (F jb (kM P N jb k))), (11, .long (F ja (kM P N jb k))), (10, .int (nI (64 * jb + k))), (9, .int (nI jb)), (8, .int (nI 1)), (5, .long hi), (0, .ref (ad 43)), (1, .int (nI ja)), (2, .int (nI jb))]) hx hb d_Mod_into_279 rfl hl (by decide) rfl (fun ls hl => ?_)
                                        refine lv_iinc (v := (nI ((64 * jb + k) + 1))) (lv' := [(10, .int (nI ((64 * jb + k) + 1))), (3, .long lo), (16, .long 0), (7, .int (nI 0)), (15, .int (nI 1)), (13, .long (F jb (kM P N jb k))), (11, .long (F ja (kM P N jb k))), (9, .int (nI jb)), (8, .int (nI 1)), (5, .long hi), (0, .ref (ad 43)), (1, .int (nI ja)), (2, .int (nI jb))]) hx hb d_Mod_into_280 hl (k := 6) rfl (nI_1 _) (by decide) rfl (fun ls hl => ?_)
                                        refine lv_goto (tgt := 59) hx hb d_Mod_into_283 (by decide) ?_
                                        exact ih59b (k + 1) lo hi (nI 0) _ _ _ (by omega) (by omega) (by first | exact inI_s hI (sB_s (b := kM P N jb)) (ca_1 h128) (hi_1 h149) (lo_1 h123) | exact inI_s hI (sB_s (b := kM P N jb)) (ca_1 h128) (hi_2 h149 h156) (lo_1 h123) | exact inI_s hI (sB_s (b := kM P N jb)) (ca_1 h128) (hi_3 h149 h156 h167) (lo_1 h123) | exact inI_s hI (sB_s (b := kM P N jb)) (ca_1 h128) (hi_4 h149 h156 h167) (lo_1 h123) | exact inI_s hI (sB_s (b := kM P N jb)) (ca_2 h135 h123) (hi_1 h149) (lo_1 h123) | exact inI_s hI (sB_s (b := kM P N jb)) (ca_2 h135 h123) (hi_2 h149 h156) (lo_1 h123) | exact inI_s hI (sB_s (b := kM P N jb)) (ca_2 h135 h123) (hi_3 h149 h156 h167) (lo_1 h123) | exact inI_s hI (sB_s (b := kM P N jb)) (ca_2 h135 h123) (hi_4 h149 h156 h167) (lo_1 h123) | exact inI_s hI (sB_s (b := kM P N jb)) (ca_3 h128 h135 h123) (hi_1 h149) (lo_1 h123) | exact inI_s hI (sB_s (b := kM P N jb)) (ca_3 h128 h135 h123) (hi_2 h149 h156) (lo_1 h123) | exact inI_s hI (sB_s (b := kM P N jb)) (ca_3 h128 h135 h123) (hi_3 h149 h156 h167) (lo_1 h123) | exact inI_s hI (sB_s (b := kM P N jb)) (ca_3 h128 h135 h123) (hi_4 h149 h156 h167) (lo_1 h123) | exact inI_s hI (sB_s (b := kM P N jb)) (ca_k hI h123 h189) (hi_n h123) (lo_2 h189) | exact inI_s hI (sB_s (b := kM P N jb)) (ca_1 h219) (hi_n h123) (lo_3 h189 h123 (fun y => h198 y.1) h255 h270) | exact inI_s hI (sB_s (b := kM P N jb)) (ca_1 h219) (hi_n h123) (lo_4 h189 h123 (fun y => h198 y.1) h255 h270) | exact inI_s hI (sB_s (b := kM P N jb)) (ca_1 h219) (hi_n h123) (lo_5 h189 h123 h255 h270) | exact inI_s hI (sB_s (b := kM P N jb)) (ca_1 h219) (hi_n h123) (lo_6 h189 h123 h255 h270) | exact inI_s hI (sB_s (b := kM P N jb)) (ca_4 h219 h123 (fun y => h198 y.1)) (hi_n h123) (lo_3 h189 h123 (fun y => h198 y.1) h255 h270) | exact inI_s hI (sB_s (b := kM P N jb)) (ca_4 h219 h123 (fun y => h198 y.1)) (hi_n h123) (lo_4 h189 h123 (fun y => h198 y.1) h255 h270) | exact inI_s hI (sB_s (b := kM P N jb)) (ca_4 h219 h123 (fun y => h198 y.1)) (hi_n h123) (lo_5 h189 h123 h255 h270) | exact inI_s hI (sB_s (b := kM P N jb)) (ca_4 h219 h123 (fun y => h198 y.1)) (hi_n h123) (lo_6 h189 h123 h255 h270) | exact inI_s hI (sB_s (b := kM P N jb)) (ca_1 h219) (hi_n h123) (lo_3 h189 h123 (fun y => h207 y.2) h255 h270) | exact inI_s hI (sB_s (b := kM P N jb)) (ca_1 h219) (hi_n h123) (lo_4 h189 h123 (fun y => h207 y.2) h255 h270) | exact inI_s hI (sB_s (b := kM P N jb)) (ca_1 h219) (hi_n h123) (lo_5 h189 h123 h255 h270) | exact inI_s hI (sB_s (b := kM P N jb)) (ca_1 h219) (hi_n h123) (lo_6 h189 h123 h255 h270) | exact inI_s hI (sB_s (b := kM P N jb)) (ca_4 h219 h123 (fun y => h207 y.2)) (hi_n h123) (lo_3 h189 h123 (fun y => h207 y.2) h255 h270) | exact inI_s hI (sB_s (b := kM P N jb)) (ca_4 h219 h123 (fun y => h207 y.2)) (hi_n h123) (lo_4 h189 h123 (fun y => h207 y.2) h255 h270) | exact inI_s hI (sB_s (b := kM P N jb)) (ca_4 h219 h123 (fun y => h207 y.2)) (hi_n h123) (lo_5 h189 h123 h255 h270) | exact inI_s hI (sB_s (b := kM P N jb)) (ca_4 h219 h123 (fun y => h207 y.2)) (hi_n h123) (lo_6 h189 h123 h255 h270) | exact inI_s hI (sB_s (b := kM P N jb)) (ca_1 h219) (hi_n h123) (lo_b h198 h207) | exact inI_s hI (sB_s (b := kM P N jb)) (ca_5 h198 h207) (hi_n h123) (lo_b h198 h207)) hZ (lv_sub hl [0, 7, 8, 1, 9, 3, 10, 11, 12] rfl)
                                      · skip
                                        rw [lg_cmp_le] at h270
                                        refine lv_lload hx hb d_Mod_into_273 (lv_at hl 0 rfl) ?_
                                        refine lv_goto (tgt := 279) hx hb d_Mod_into_275 (by decide) ?_
                                        refine lv_lstore_n (lv' := [(3, .long 0), (16, .long 0), (7, .int (nI 0)), (15, .int (nI 1)), (13, .long (F jb (kM P N jb k))), (11, .long (F ja (kM P N jb k))), (10, .int (nI (64 * jb + k))), (9, .int (nI jb)), (8, .int (nI 1)), (5, .long hi), (0, .ref (ad 43)), (1, .int (nI ja)), (2, .int (nI jb))]) hx hb d_Mod_into_279 rfl hl (by decide) rfl (fun ls hl => ?_)
                                        refine lv_iinc (v := (nI ((64 * jb + k) + 1))) (lv' := [(10, .int (nI ((64 * jb + k) + 1))), (3, .long 0), (16, .long 0), (7, .int (nI 0)), (15, .int (nI 1)), (13, .long (F jb (kM P N jb k))), (11, .long (F ja (kM P N jb k))), (9, .int (nI jb)), (8, .int (nI 1)), (5, .long hi), (0, .ref (ad 43)), (1, .int (nI ja)), (2, .int (nI jb))]) hx hb d_Mod_into_280 hl (k := 6) rfl (nI_1 _) (by decide) rfl (fun ls hl => ?_)
                                        refine lv_goto (tgt := 59) hx hb d_Mod_into_283 (by decide) ?_
                                        exact ih59b (k + 1) 0 hi (nI 0) _ _ _ (by omega) (by omega) (by first | exact inI_s hI (sB_s (b := kM P N jb)) (ca_1 h128) (hi_1 h149) (lo_1 h123) | exact inI_s hI (sB_s (b := kM P N jb)) (ca_1 h128) (hi_2 h149 h156) (lo_1 h123) | exact inI_s hI (sB_s (b := kM P N jb)) (ca_1 h128) (hi_3 h149 h156 h167) (lo_1 h123) | exact inI_s hI (sB_s (b := kM P N jb)) (ca_1 h128) (hi_4 h149 h156 h167) (lo_1 h123) | exact inI_s hI (sB_s (b := kM P N jb)) (ca_2 h135 h123) (hi_1 h149) (lo_1 h123) | exact inI_s hI (sB_s (b := kM P N jb)) (ca_2 h135 h123) (hi_2 h149 h156) (lo_1 h123) | exact inI_s hI (sB_s (b := kM P N jb)) (ca_2 h135 h123) (hi_3 h149 h156 h167) (lo_1 h123) | exact inI_s hI (sB_s (b := kM P N jb)) (ca_2 h135 h123) (hi_4 h149 h156 h167) (lo_1 h123) | exact inI_s hI (sB_s (b := kM P N jb)) (ca_3 h128 h135 h123) (hi_1 h149) (lo_1 h123) | exact inI_s hI (sB_s (b := kM P N jb)) (ca_3 h128 h135 h123) (hi_2 h149 h156) (lo_1 h123) | exact inI_s hI (sB_s (b := kM P N jb)) (ca_3 h128 h135 h123) (hi_3 h149 h156 h167) (lo_1 h123) | exact inI_s hI (sB_s (b := kM P N jb)) (ca_3 h128 h135 h123) (hi_4 h149 h156 h167) (lo_1 h123) | exact inI_s hI (sB_s (b := kM P N jb)) (ca_k hI h123 h189) (hi_n h123) (lo_2 h189) | exact inI_s hI (sB_s (b := kM P N jb)) (ca_1 h219) (hi_n h123) (lo_3 h189 h123 (fun y => h198 y.1) h255 h270) | exact inI_s hI (sB_s (b := kM P N jb)) (ca_1 h219) (hi_n h123) (lo_4 h189 h123 (fun y => h198 y.1) h255 h270) | exact inI_s hI (sB_s (b := kM P N jb)) (ca_1 h219) (hi_n h123) (lo_5 h189 h123 h255 h270) | exact inI_s hI (sB_s (b := kM P N jb)) (ca_1 h219) (hi_n h123) (lo_6 h189 h123 h255 h270) | exact inI_s hI (sB_s (b := kM P N jb)) (ca_4 h219 h123 (fun y => h198 y.1)) (hi_n h123) (lo_3 h189 h123 (fun y => h198 y.1) h255 h270) | exact inI_s hI (sB_s (b := kM P N jb)) (ca_4 h219 h123 (fun y => h198 y.1)) (hi_n h123) (lo_4 h189 h123 (fun y => h198 y.1) h255 h270) | exact inI_s hI (sB_s (b := kM P N jb)) (ca_4 h219 h123 (fun y => h198 y.1)) (hi_n h123) (lo_5 h189 h123 h255 h270) | exact inI_s hI (sB_s (b := kM P N jb)) (ca_4 h219 h123 (fun y => h198 y.1)) (hi_n h123) (lo_6 h189 h123 h255 h270) | exact inI_s hI (sB_s (b := kM P N jb)) (ca_1 h219) (hi_n h123) (lo_3 h189 h123 (fun y => h207 y.2) h255 h270) | exact inI_s hI (sB_s (b := kM P N jb)) (ca_1 h219) (hi_n h123) (lo_4 h189 h123 (fun y => h207 y.2) h255 h270) | exact inI_s hI (sB_s (b := kM P N jb)) (ca_1 h219) (hi_n h123) (lo_5 h189 h123 h255 h270) | exact inI_s hI (sB_s (b := kM P N jb)) (ca_1 h219) (hi_n h123) (lo_6 h189 h123 h255 h270) | exact inI_s hI (sB_s (b := kM P N jb)) (ca_4 h219 h123 (fun y => h207 y.2)) (hi_n h123) (lo_3 h189 h123 (fun y => h207 y.2) h255 h270) | exact inI_s hI (sB_s (b := kM P N jb)) (ca_4 h219 h123 (fun y => h207 y.2)) (hi_n h123) (lo_4 h189 h123 (fun y => h207 y.2) h255 h270) | exact inI_s hI (sB_s (b := kM P N jb)) (ca_4 h219 h123 (fun y => h207 y.2)) (hi_n h123) (lo_5 h189 h123 h255 h270) | exact inI_s hI (sB_s (b := kM P N jb)) (ca_4 h219 h123 (fun y => h207 y.2)) (hi_n h123) (lo_6 h189 h123 h255 h270) | exact inI_s hI (sB_s (b := kM P N jb)) (ca_1 h219) (hi_n h123) (lo_b h198 h207) | exact inI_s hI (sB_s (b := kM P N jb)) (ca_5 h198 h207) (hi_n h123) (lo_b h198 h207)) hZ (lv_sub hl [0, 7, 8, 1, 9, 3, 10, 11, 12] rfl)
                                  · skip
                                    have h224 : 1 = 0 := (nI_eq (a := 1) (b := 0) (by omega) (by omega)).mp h224
                                    exact absurd h224 (by decide)
                        · skip
                          rw [lg_cmp_lt] at h123
                          refine lv_iload hx hb d_Mod_into_126 (lv_at hl 7 rfl) ?_
                          refine lv_if_eq (tgt := 142) hx hb d_Mod_into_128 (by decide) (fun h128 => ?_) (fun h128 => ?_)
                          · skip
                            refine lv_iconst (v := (nI 0)) hx hb d_Mod_into_142 rfl ?_
                            refine lv_istore (lv' := [(7, .int (nI 0)), (13, .long (F jb (kM P N jb k))), (11, .long (F ja (kM P N jb k))), (10, .int (nI (64 * jb + k))), (9, .int (nI jb)), (8, .int (nI 1)), (3, .long lo), (5, .long hi), (0, .ref (ad 43)), (1, .int (nI ja)), (2, .int (nI jb))]) hx hb d_Mod_into_143 hl (by decide) rfl (fun ls hl => ?_)
                            refine lv_lload hx hb d_Mod_into_145 (lv_at hl 1 rfl) ?_
                            refine lv_lconst (v := 0) hx hb d_Mod_into_147 rfl ?_
                            refine W.lcmp hx hb d_Mod_into_148 ?_
                            refine lv_if_le (tgt := 178) hx hb d_Mod_into_149 (by decide) (fun h149 => ?_) (fun h149 => ?_)
                            · skip
                              rw [lg_cmp_le] at h149
                              refine lv_lload hx hb d_Mod_into_178 (lv_at hl 7 rfl) ?_
                              refine lv_lstore (lv' := [(5, .long hi), (7, .int (nI 0)), (13, .long (F jb (kM P N jb k))), (11, .long (F ja (kM P N jb k))), (10, .int (nI (64 * jb + k))), (9, .int (nI jb)), (8, .int (nI 1)), (3, .long lo), (0, .ref (ad 43)), (1, .int (nI ja)), (2, .int (nI jb))]) hx hb d_Mod_into_180 hl (by decide) rfl (fun ls hl => ?_)
                              refine lv_goto (tgt := 280) hx hb d_Mod_into_182 (by decide) ?_
                              refine lv_iinc (v := (nI ((64 * jb + k) + 1))) (lv' := [(10, .int (nI ((64 * jb + k) + 1))), (5, .long hi), (7, .int (nI 0)), (13, .long (F jb (kM P N jb k))), (11, .long (F ja (kM P N jb k))), (9, .int (nI jb)), (8, .int (nI 1)), (3, .long lo), (0, .ref (ad 43)), (1, .int (nI ja)), (2, .int (nI jb))]) hx hb d_Mod_into_280 hl (k := 4) rfl (nI_1 _) (by decide) rfl (fun ls hl => ?_)
                              refine lv_goto (tgt := 59) hx hb d_Mod_into_283 (by decide) ?_
                              exact ih59b (k + 1) lo hi (nI 0) _ _ _ (by omega) (by omega) (by first | exact inI_s hI (sB_s (b := kM P N jb)) (ca_1 h128) (hi_1 h149) (lo_1 h123) | exact inI_s hI (sB_s (b := kM P N jb)) (ca_1 h128) (hi_2 h149 h156) (lo_1 h123) | exact inI_s hI (sB_s (b := kM P N jb)) (ca_1 h128) (hi_3 h149 h156 h167) (lo_1 h123) | exact inI_s hI (sB_s (b := kM P N jb)) (ca_1 h128) (hi_4 h149 h156 h167) (lo_1 h123) | exact inI_s hI (sB_s (b := kM P N jb)) (ca_2 h135 h123) (hi_1 h149) (lo_1 h123) | exact inI_s hI (sB_s (b := kM P N jb)) (ca_2 h135 h123) (hi_2 h149 h156) (lo_1 h123) | exact inI_s hI (sB_s (b := kM P N jb)) (ca_2 h135 h123) (hi_3 h149 h156 h167) (lo_1 h123) | exact inI_s hI (sB_s (b := kM P N jb)) (ca_2 h135 h123) (hi_4 h149 h156 h167) (lo_1 h123) | exact inI_s hI (sB_s (b := kM P N jb)) (ca_3 h128 h135 h123) (hi_1 h149) (lo_1 h123) | exact inI_s hI (sB_s (b := kM P N jb)) (ca_3 h128 h135 h123) (hi_2 h149 h156) (lo_1 h123) | exact inI_s hI (sB_s (b := kM P N jb)) (ca_3 h128 h135 h123) (hi_3 h149 h156 h167) (lo_1 h123) | exact inI_s hI (sB_s (b := kM P N jb)) (ca_3 h128 h135 h123) (hi_4 h149 h156 h167) (lo_1 h123) | exact inI_s hI (sB_s (b := kM P N jb)) (ca_k hI h123 h189) (hi_n h123) (lo_2 h189) | exact inI_s hI (sB_s (b := kM P N jb)) (ca_1 h219) (hi_n h123) (lo_3 h189 h123 (fun y => h198 y.1) h255 h270) | exact inI_s hI (sB_s (b := kM P N jb)) (ca_1 h219) (hi_n h123) (lo_4 h189 h123 (fun y => h198 y.1) h255 h270) | exact inI_s hI (sB_s (b := kM P N jb)) (ca_1 h219) (hi_n h123) (lo_5 h189 h123 h255 h270) | exact inI_s hI (sB_s (b := kM P N jb)) (ca_1 h219) (hi_n h123) (lo_6 h189 h123 h255 h270) | exact inI_s hI (sB_s (b := kM P N jb)) (ca_4 h219 h123 (fun y => h198 y.1)) (hi_n h123) (lo_3 h189 h123 (fun y => h198 y.1) h255 h270) | exact inI_s hI (sB_s (b := kM P N jb)) (ca_4 h219 h123 (fun y => h198 y.1)) (hi_n h123) (lo_4 h189 h123 (fun y => h198 y.1) h255 h270) | exact inI_s hI (sB_s (b := kM P N jb)) (ca_4 h219 h123 (fun y => h198 y.1)) (hi_n h123) (lo_5 h189 h123 h255 h270) | exact inI_s hI (sB_s (b := kM P N jb)) (ca_4 h219 h123 (fun y => h198 y.1)) (hi_n h123) (lo_6 h189 h123 h255 h270) | exact inI_s hI (sB_s (b := kM P N jb)) (ca_1 h219) (hi_n h123) (lo_3 h189 h123 (fun y => h207 y.2) h255 h270) | exact inI_s hI (sB_s (b := kM P N jb)) (ca_1 h219) (hi_n h123) (lo_4 h189 h123 (fun y => h207 y.2) h255 h270) | exact inI_s hI (sB_s (b := kM P N jb)) (ca_1 h219) (hi_n h123) (lo_5 h189 h123 h255 h270) | exact inI_s hI (sB_s (b := kM P N jb)) (ca_1 h219) (hi_n h123) (lo_6 h189 h123 h255 h270) | exact inI_s hI (sB_s (b := kM P N jb)) (ca_4 h219 h123 (fun y => h207 y.2)) (hi_n h123) (lo_3 h189 h123 (fun y => h207 y.2) h255 h270) | exact inI_s hI (sB_s (b := kM P N jb)) (ca_4 h219 h123 (fun y => h207 y.2)) (hi_n h123) (lo_4 h189 h123 (fun y => h207 y.2) h255 h270) | exact inI_s hI (sB_s (b := kM P N jb)) (ca_4 h219 h123 (fun y => h207 y.2)) (hi_n h123) (lo_5 h189 h123 h255 h270) | exact inI_s hI (sB_s (b := kM P N jb)) (ca_4 h219 h123 (fun y => h207 y.2)) (hi_n h123) (lo_6 h189 h123 h255 h270) | exact inI_s hI (sB_s (b := kM P N jb)) (ca_1 h219) (hi_n h123) (lo_b h198 h207) | exact inI_s hI (sB_s (b := kM P N jb)) (ca_5 h198 h207) (hi_n h123) (lo_b h198 h207)) hZ (lv_sub hl [0, 5, 6, 7, 1, 2, 8, 9, 10] rfl)
                            · skip
                              rw [lg_cmp_le] at h149
                              refine lv_lload hx hb d_Mod_into_152 (lv_at hl 7 rfl) ?_
                              refine lv_lconst (v := 0) hx hb d_Mod_into_154 rfl ?_
                              refine W.lcmp hx hb d_Mod_into_155 ?_
                              refine lv_if_lt (tgt := 170) hx hb d_Mod_into_156 (by decide) (fun h156 => ?_) (fun h156 => ?_)
                              · skip
                                rw [lg_cmp_lt] at h156
                                refine lv_lload hx hb d_Mod_into_170 (lv_at hl 2 rfl) ?_
                                refine lv_lload hx hb d_Mod_into_172 (lv_at hl 1 rfl) ?_
                                refine lv_ldiv hx hb d_Mod_into_174 (i64_n0 h149) ?_
                                refine lv_goto (tgt := 180) hx hb d_Mod_into_175 (by decide) ?_
                                refine lv_lstore (lv' := [(5, .long ((F ja (kM P N jb k)) / (F jb (kM P N jb k)))), (7, .int (nI 0)), (13, .long (F jb (kM P N jb k))), (11, .long (F ja (kM P N jb k))), (10, .int (nI (64 * jb + k))), (9, .int (nI jb)), (8, .int (nI 1)), (3, .long lo), (0, .ref (ad 43)), (1, .int (nI ja)), (2, .int (nI jb))]) hx hb d_Mod_into_180 hl (by decide) rfl (fun ls hl => ?_)
                                refine lv_goto (tgt := 280) hx hb d_Mod_into_182 (by decide) ?_
                                refine lv_iinc (v := (nI ((64 * jb + k) + 1))) (lv' := [(10, .int (nI ((64 * jb + k) + 1))), (5, .long ((F ja (kM P N jb k)) / (F jb (kM P N jb k)))), (7, .int (nI 0)), (13, .long (F jb (kM P N jb k))), (11, .long (F ja (kM P N jb k))), (9, .int (nI jb)), (8, .int (nI 1)), (3, .long lo), (0, .ref (ad 43)), (1, .int (nI ja)), (2, .int (nI jb))]) hx hb d_Mod_into_280 hl (k := 4) rfl (nI_1 _) (by decide) rfl (fun ls hl => ?_)
                                refine lv_goto (tgt := 59) hx hb d_Mod_into_283 (by decide) ?_
                                exact ih59b (k + 1) lo ((F ja (kM P N jb k)) / (F jb (kM P N jb k))) (nI 0) _ _ _ (by omega) (by omega) (by first | exact inI_s hI (sB_s (b := kM P N jb)) (ca_1 h128) (hi_1 h149) (lo_1 h123) | exact inI_s hI (sB_s (b := kM P N jb)) (ca_1 h128) (hi_2 h149 h156) (lo_1 h123) | exact inI_s hI (sB_s (b := kM P N jb)) (ca_1 h128) (hi_3 h149 h156 h167) (lo_1 h123) | exact inI_s hI (sB_s (b := kM P N jb)) (ca_1 h128) (hi_4 h149 h156 h167) (lo_1 h123) | exact inI_s hI (sB_s (b := kM P N jb)) (ca_2 h135 h123) (hi_1 h149) (lo_1 h123) | exact inI_s hI (sB_s (b := kM P N jb)) (ca_2 h135 h123) (hi_2 h149 h156) (lo_1 h123) | exact inI_s hI (sB_s (b := kM P N jb)) (ca_2 h135 h123) (hi_3 h149 h156 h167) (lo_1 h123) | exact inI_s hI (sB_s (b := kM P N jb)) (ca_2 h135 h123) (hi_4 h149 h156 h167) (lo_1 h123) | exact inI_s hI (sB_s (b := kM P N jb)) (ca_3 h128 h135 h123) (hi_1 h149) (lo_1 h123) | exact inI_s hI (sB_s (b := kM P N jb)) (ca_3 h128 h135 h123) (hi_2 h149 h156) (lo_1 h123) | exact inI_s hI (sB_s (b := kM P N jb)) (ca_3 h128 h135 h123) (hi_3 h149 h156 h167) (lo_1 h123) | exact inI_s hI (sB_s (b := kM P N jb)) (ca_3 h128 h135 h123) (hi_4 h149 h156 h167) (lo_1 h123) | exact inI_s hI (sB_s (b := kM P N jb)) (ca_k hI h123 h189) (hi_n h123) (lo_2 h189) | exact inI_s hI (sB_s (b := kM P N jb)) (ca_1 h219) (hi_n h123) (lo_3 h189 h123 (fun y => h198 y.1) h255 h270) | exact inI_s hI (sB_s (b := kM P N jb)) (ca_1 h219) (hi_n h123) (lo_4 h189 h123 (fun y => h198 y.1) h255 h270) | exact inI_s hI (sB_s (b := kM P N jb)) (ca_1 h219) (hi_n h123) (lo_5 h189 h123 h255 h270) | exact inI_s hI (sB_s (b := kM P N jb)) (ca_1 h219) (hi_n h123) (lo_6 h189 h123 h255 h270) | exact inI_s hI (sB_s (b := kM P N jb)) (ca_4 h219 h123 (fun y => h198 y.1)) (hi_n h123) (lo_3 h189 h123 (fun y => h198 y.1) h255 h270) | exact inI_s hI (sB_s (b := kM P N jb)) (ca_4 h219 h123 (fun y => h198 y.1)) (hi_n h123) (lo_4 h189 h123 (fun y => h198 y.1) h255 h270) | exact inI_s hI (sB_s (b := kM P N jb)) (ca_4 h219 h123 (fun y => h198 y.1)) (hi_n h123) (lo_5 h189 h123 h255 h270) | exact inI_s hI (sB_s (b := kM P N jb)) (ca_4 h219 h123 (fun y => h198 y.1)) (hi_n h123) (lo_6 h189 h123 h255 h270) | exact inI_s hI (sB_s (b := kM P N jb)) (ca_1 h219) (hi_n h123) (lo_3 h189 h123 (fun y => h207 y.2) h255 h270) | exact inI_s hI (sB_s (b := kM P N jb)) (ca_1 h219) (hi_n h123) (lo_4 h189 h123 (fun y => h207 y.2) h255 h270) | exact inI_s hI (sB_s (b := kM P N jb)) (ca_1 h219) (hi_n h123) (lo_5 h189 h123 h255 h270) | exact inI_s hI (sB_s (b := kM P N jb)) (ca_1 h219) (hi_n h123) (lo_6 h189 h123 h255 h270) | exact inI_s hI (sB_s (b := kM P N jb)) (ca_4 h219 h123 (fun y => h207 y.2)) (hi_n h123) (lo_3 h189 h123 (fun y => h207 y.2) h255 h270) | exact inI_s hI (sB_s (b := kM P N jb)) (ca_4 h219 h123 (fun y => h207 y.2)) (hi_n h123) (lo_4 h189 h123 (fun y => h207 y.2) h255 h270) | exact inI_s hI (sB_s (b := kM P N jb)) (ca_4 h219 h123 (fun y => h207 y.2)) (hi_n h123) (lo_5 h189 h123 h255 h270) | exact inI_s hI (sB_s (b := kM P N jb)) (ca_4 h219 h123 (fun y => h207 y.2)) (hi_n h123) (lo_6 h189 h123 h255 h270) | exact inI_s hI (sB_s (b := kM P N jb)) (ca_1 h219) (hi_n h123) (lo_b h198 h207) | exact inI_s hI (sB_s (b := kM P N jb)) (ca_5 h198 h207) (hi_n h123) (lo_b h198 h207)) hZ (lv_sub hl [0, 5, 6, 7, 1, 2, 8, 9, 10] rfl)
                              · skip
                                rw [lg_cmp_lt] at h156
                                refine lv_lload hx hb d_Mod_into_159 (lv_at hl 2 rfl) ?_
                                refine lv_lload hx hb d_Mod_into_161 (lv_at hl 1 rfl) ?_
                                refine lv_ldiv hx hb d_Mod_into_163 (i64_n0 h149) ?_
                                refine lv_lload hx hb d_Mod_into_164 (lv_at hl 7 rfl) ?_
                                refine W.lcmp hx hb d_Mod_into_166 ?_
                                refine lv_if_ge (tgt := 178) hx hb d_Mod_into_167 (by decide) (fun h167 => ?_) (fun h167 => ?_)
                                · skip
                                  rw [lg_cmp_ge] at h167
                                  refine lv_lload hx hb d_Mod_into_178 (lv_at hl 7 rfl) ?_
                                  refine lv_lstore (lv' := [(5, .long hi), (7, .int (nI 0)), (13, .long (F jb (kM P N jb k))), (11, .long (F ja (kM P N jb k))), (10, .int (nI (64 * jb + k))), (9, .int (nI jb)), (8, .int (nI 1)), (3, .long lo), (0, .ref (ad 43)), (1, .int (nI ja)), (2, .int (nI jb))]) hx hb d_Mod_into_180 hl (by decide) rfl (fun ls hl => ?_)
                                  refine lv_goto (tgt := 280) hx hb d_Mod_into_182 (by decide) ?_
                                  refine lv_iinc (v := (nI ((64 * jb + k) + 1))) (lv' := [(10, .int (nI ((64 * jb + k) + 1))), (5, .long hi), (7, .int (nI 0)), (13, .long (F jb (kM P N jb k))), (11, .long (F ja (kM P N jb k))), (9, .int (nI jb)), (8, .int (nI 1)), (3, .long lo), (0, .ref (ad 43)), (1, .int (nI ja)), (2, .int (nI jb))]) hx hb d_Mod_into_280 hl (k := 4) rfl (nI_1 _) (by decide) rfl (fun ls hl => ?_)
                                  refine lv_goto (tgt := 59) hx hb d_Mod_into_283 (by decide) ?_
                                  exact ih59b (k + 1) lo hi (nI 0) _ _ _ (by omega) (by omega) (by first | exact inI_s hI (sB_s (b := kM P N jb)) (ca_1 h128) (hi_1 h149) (lo_1 h123) | exact inI_s hI (sB_s (b := kM P N jb)) (ca_1 h128) (hi_2 h149 h156) (lo_1 h123) | exact inI_s hI (sB_s (b := kM P N jb)) (ca_1 h128) (hi_3 h149 h156 h167) (lo_1 h123) | exact inI_s hI (sB_s (b := kM P N jb)) (ca_1 h128) (hi_4 h149 h156 h167) (lo_1 h123) | exact inI_s hI (sB_s (b := kM P N jb)) (ca_2 h135 h123) (hi_1 h149) (lo_1 h123) | exact inI_s hI (sB_s (b := kM P N jb)) (ca_2 h135 h123) (hi_2 h149 h156) (lo_1 h123) | exact inI_s hI (sB_s (b := kM P N jb)) (ca_2 h135 h123) (hi_3 h149 h156 h167) (lo_1 h123) | exact inI_s hI (sB_s (b := kM P N jb)) (ca_2 h135 h123) (hi_4 h149 h156 h167) (lo_1 h123) | exact inI_s hI (sB_s (b := kM P N jb)) (ca_3 h128 h135 h123) (hi_1 h149) (lo_1 h123) | exact inI_s hI (sB_s (b := kM P N jb)) (ca_3 h128 h135 h123) (hi_2 h149 h156) (lo_1 h123) | exact inI_s hI (sB_s (b := kM P N jb)) (ca_3 h128 h135 h123) (hi_3 h149 h156 h167) (lo_1 h123) | exact inI_s hI (sB_s (b := kM P N jb)) (ca_3 h128 h135 h123) (hi_4 h149 h156 h167) (lo_1 h123) | exact inI_s hI (sB_s (b := kM P N jb)) (ca_k hI h123 h189) (hi_n h123) (lo_2 h189) | exact inI_s hI (sB_s (b := kM P N jb)) (ca_1 h219) (hi_n h123) (lo_3 h189 h123 (fun y => h198 y.1) h255 h270) | exact inI_s hI (sB_s (b := kM P N jb)) (ca_1 h219) (hi_n h123) (lo_4 h189 h123 (fun y => h198 y.1) h255 h270) | exact inI_s hI (sB_s (b := kM P N jb)) (ca_1 h219) (hi_n h123) (lo_5 h189 h123 h255 h270) | exact inI_s hI (sB_s (b := kM P N jb)) (ca_1 h219) (hi_n h123) (lo_6 h189 h123 h255 h270) | exact inI_s hI (sB_s (b := kM P N jb)) (ca_4 h219 h123 (fun y => h198 y.1)) (hi_n h123) (lo_3 h189 h123 (fun y => h198 y.1) h255 h270) | exact inI_s hI (sB_s (b := kM P N jb)) (ca_4 h219 h123 (fun y => h198 y.1)) (hi_n h123) (lo_4 h189 h123 (fun y => h198 y.1) h255 h270) | exact inI_s hI (sB_s (b := kM P N jb)) (ca_4 h219 h123 (fun y => h198 y.1)) (hi_n h123) (lo_5 h189 h123 h255 h270) | exact inI_s hI (sB_s (b := kM P N jb)) (ca_4 h219 h123 (fun y => h198 y.1)) (hi_n h123) (lo_6 h189 h123 h255 h270) | exact inI_s hI (sB_s (b := kM P N jb)) (ca_1 h219) (hi_n h123) (lo_3 h189 h123 (fun y => h207 y.2) h255 h270) | exact inI_s hI (sB_s (b := kM P N jb)) (ca_1 h219) (hi_n h123) (lo_4 h189 h123 (fun y => h207 y.2) h255 h270) | exact inI_s hI (sB_s (b := kM P N jb)) (ca_1 h219) (hi_n h123) (lo_5 h189 h123 h255 h270) | exact inI_s hI (sB_s (b := kM P N jb)) (ca_1 h219) (hi_n h123) (lo_6 h189 h123 h255 h270) | exact inI_s hI (sB_s (b := kM P N jb)) (ca_4 h219 h123 (fun y => h207 y.2)) (hi_n h123) (lo_3 h189 h123 (fun y => h207 y.2) h255 h270) | exact inI_s hI (sB_s (b := kM P N jb)) (ca_4 h219 h123 (fun y => h207 y.2)) (hi_n h123) (lo_4 h189 h123 (fun y => h207 y.2) h255 h270) | exact inI_s hI (sB_s (b := kM P N jb)) (ca_4 h219 h123 (fun y => h207 y.2)) (hi_n h123) (lo_5 h189 h123 h255 h270) | exact inI_s hI (sB_s (b := kM P N jb)) (ca_4 h219 h123 (fun y => h207 y.2)) (hi_n h123) (lo_6 h189 h123 h255 h270) | exact inI_s hI (sB_s (b := kM P N jb)) (ca_1 h219) (hi_n h123) (lo_b h198 h207) | exact inI_s hI (sB_s (b := kM P N jb)) (ca_5 h198 h207) (hi_n h123) (lo_b h198 h207)) hZ (lv_sub hl [0, 5, 6, 7, 1, 2, 8, 9, 10] rfl)
                                · skip
                                  rw [lg_cmp_ge] at h167
                                  refine lv_lload hx hb d_Mod_into_170 (lv_at hl 2 rfl) ?_
                                  refine lv_lload hx hb d_Mod_into_172 (lv_at hl 1 rfl) ?_
                                  refine lv_ldiv hx hb d_Mod_into_174 (i64_n0 h149) ?_
                                  refine lv_goto (tgt := 180) hx hb d_Mod_into_175 (by decide) ?_
                                  refine lv_lstore (lv' := [(5, .long ((F ja (kM P N jb k)) / (F jb (kM P N jb k)))), (7, .int (nI 0)), (13, .long (F jb (kM P N jb k))), (11, .long (F ja (kM P N jb k))), (10, .int (nI (64 * jb + k))), (9, .int (nI jb)), (8, .int (nI 1)), (3, .long lo), (0, .ref (ad 43)), (1, .int (nI ja)), (2, .int (nI jb))]) hx hb d_Mod_into_180 hl (by decide) rfl (fun ls hl => ?_)
                                  refine lv_goto (tgt := 280) hx hb d_Mod_into_182 (by decide) ?_
                                  refine lv_iinc (v := (nI ((64 * jb + k) + 1))) (lv' := [(10, .int (nI ((64 * jb + k) + 1))), (5, .long ((F ja (kM P N jb k)) / (F jb (kM P N jb k)))), (7, .int (nI 0)), (13, .long (F jb (kM P N jb k))), (11, .long (F ja (kM P N jb k))), (9, .int (nI jb)), (8, .int (nI 1)), (3, .long lo), (0, .ref (ad 43)), (1, .int (nI ja)), (2, .int (nI jb))]) hx hb d_Mod_into_280 hl (k := 4) rfl (nI_1 _) (by decide) rfl (fun ls hl => ?_)
                                  refine lv_goto (tgt := 59) hx hb d_Mod_into_283 (by decide) ?_
                                  exact ih59b (k + 1) lo ((F ja (kM P N jb k)) / (F jb (kM P N jb k))) (nI 0) _ _ _ (by omega) (by omega) (by first | exact inI_s hI (sB_s (b := kM P N jb)) (ca_1 h128) (hi_1 h149) (lo_1 h123) | exact inI_s hI (sB_s (b := kM P N jb)) (ca_1 h128) (hi_2 h149 h156) (lo_1 h123) | exact inI_s hI (sB_s (b := kM P N jb)) (ca_1 h128) (hi_3 h149 h156 h167) (lo_1 h123) | exact inI_s hI (sB_s (b := kM P N jb)) (ca_1 h128) (hi_4 h149 h156 h167) (lo_1 h123) | exact inI_s hI (sB_s (b := kM P N jb)) (ca_2 h135 h123) (hi_1 h149) (lo_1 h123) | exact inI_s hI (sB_s (b := kM P N jb)) (ca_2 h135 h123) (hi_2 h149 h156) (lo_1 h123) | exact inI_s hI (sB_s (b := kM P N jb)) (ca_2 h135 h123) (hi_3 h149 h156 h167) (lo_1 h123) | exact inI_s hI (sB_s (b := kM P N jb)) (ca_2 h135 h123) (hi_4 h149 h156 h167) (lo_1 h123) | exact inI_s hI (sB_s (b := kM P N jb)) (ca_3 h128 h135 h123) (hi_1 h149) (lo_1 h123) | exact inI_s hI (sB_s (b := kM P N jb)) (ca_3 h128 h135 h123) (hi_2 h149 h156) (lo_1 h123) | exact inI_s hI (sB_s (b := kM P N jb)) (ca_3 h128 h135 h123) (hi_3 h149 h156 h167) (lo_1 h123) | exact inI_s hI (sB_s (b := kM P N jb)) (ca_3 h128 h135 h123) (hi_4 h149 h156 h167) (lo_1 h123) | exact inI_s hI (sB_s (b := kM P N jb)) (ca_k hI h123 h189) (hi_n h123) (lo_2 h189) | exact inI_s hI (sB_s (b := kM P N jb)) (ca_1 h219) (hi_n h123) (lo_3 h189 h123 (fun y => h198 y.1) h255 h270) | exact inI_s hI (sB_s (b := kM P N jb)) (ca_1 h219) (hi_n h123) (lo_4 h189 h123 (fun y => h198 y.1) h255 h270) | exact inI_s hI (sB_s (b := kM P N jb)) (ca_1 h219) (hi_n h123) (lo_5 h189 h123 h255 h270) | exact inI_s hI (sB_s (b := kM P N jb)) (ca_1 h219) (hi_n h123) (lo_6 h189 h123 h255 h270) | exact inI_s hI (sB_s (b := kM P N jb)) (ca_4 h219 h123 (fun y => h198 y.1)) (hi_n h123) (lo_3 h189 h123 (fun y => h198 y.1) h255 h270) | exact inI_s hI (sB_s (b := kM P N jb)) (ca_4 h219 h123 (fun y => h198 y.1)) (hi_n h123) (lo_4 h189 h123 (fun y => h198 y.1) h255 h270) | exact inI_s hI (sB_s (b := kM P N jb)) (ca_4 h219 h123 (fun y => h198 y.1)) (hi_n h123) (lo_5 h189 h123 h255 h270) | exact inI_s hI (sB_s (b := kM P N jb)) (ca_4 h219 h123 (fun y => h198 y.1)) (hi_n h123) (lo_6 h189 h123 h255 h270) | exact inI_s hI (sB_s (b := kM P N jb)) (ca_1 h219) (hi_n h123) (lo_3 h189 h123 (fun y => h207 y.2) h255 h270) | exact inI_s hI (sB_s (b := kM P N jb)) (ca_1 h219) (hi_n h123) (lo_4 h189 h123 (fun y => h207 y.2) h255 h270) | exact inI_s hI (sB_s (b := kM P N jb)) (ca_1 h219) (hi_n h123) (lo_5 h189 h123 h255 h270) | exact inI_s hI (sB_s (b := kM P N jb)) (ca_1 h219) (hi_n h123) (lo_6 h189 h123 h255 h270) | exact inI_s hI (sB_s (b := kM P N jb)) (ca_4 h219 h123 (fun y => h207 y.2)) (hi_n h123) (lo_3 h189 h123 (fun y => h207 y.2) h255 h270) | exact inI_s hI (sB_s (b := kM P N jb)) (ca_4 h219 h123 (fun y => h207 y.2)) (hi_n h123) (lo_4 h189 h123 (fun y => h207 y.2) h255 h270) | exact inI_s hI (sB_s (b := kM P N jb)) (ca_4 h219 h123 (fun y => h207 y.2)) (hi_n h123) (lo_5 h189 h123 h255 h270) | exact inI_s hI (sB_s (b := kM P N jb)) (ca_4 h219 h123 (fun y => h207 y.2)) (hi_n h123) (lo_6 h189 h123 h255 h270) | exact inI_s hI (sB_s (b := kM P N jb)) (ca_1 h219) (hi_n h123) (lo_b h198 h207) | exact inI_s hI (sB_s (b := kM P N jb)) (ca_5 h198 h207) (hi_n h123) (lo_b h198 h207)) hZ (lv_sub hl [0, 5, 6, 7, 1, 2, 8, 9, 10] rfl)
                          · skip
                            refine lv_lload hx hb d_Mod_into_131 (lv_at hl 1 rfl) ?_
                            refine lv_lconst (v := 0) hx hb d_Mod_into_133 rfl ?_
                            refine W.lcmp hx hb d_Mod_into_134 ?_
                            refine lv_if_lt (tgt := 142) hx hb d_Mod_into_135 (by decide) (fun h135 => ?_) (fun h135 => ?_)
                            · skip
                              rw [lg_cmp_lt] at h135
                              refine lv_iconst (v := (nI 0)) hx hb d_Mod_into_142 rfl ?_
                              refine lv_istore (lv' := [(7, .int (nI 0)), (13, .long (F jb (kM P N jb k))), (11, .long (F ja (kM P N jb k))), (10, .int (nI (64 * jb + k))), (9, .int (nI jb)), (8, .int (nI 1)), (3, .long lo), (5, .long hi), (0, .ref (ad 43)), (1, .int (nI ja)), (2, .int (nI jb))]) hx hb d_Mod_into_143 hl (by decide) rfl (fun ls hl => ?_)
                              refine lv_lload hx hb d_Mod_into_145 (lv_at hl 1 rfl) ?_
                              refine lv_lconst (v := 0) hx hb d_Mod_into_147 rfl ?_
                              refine W.lcmp hx hb d_Mod_into_148 ?_
                              refine lv_if_le (tgt := 178) hx hb d_Mod_into_149 (by decide) (fun h149 => ?_) (fun h149 => ?_)
                              · skip
                                rw [lg_cmp_le] at h149
                                refine lv_lload hx hb d_Mod_into_178 (lv_at hl 7 rfl) ?_
                                refine lv_lstore (lv' := [(5, .long hi), (7, .int (nI 0)), (13, .long (F jb (kM P N jb k))), (11, .long (F ja (kM P N jb k))), (10, .int (nI (64 * jb + k))), (9, .int (nI jb)), (8, .int (nI 1)), (3, .long lo), (0, .ref (ad 43)), (1, .int (nI ja)), (2, .int (nI jb))]) hx hb d_Mod_into_180 hl (by decide) rfl (fun ls hl => ?_)
                                refine lv_goto (tgt := 280) hx hb d_Mod_into_182 (by decide) ?_
                                refine lv_iinc (v := (nI ((64 * jb + k) + 1))) (lv' := [(10, .int (nI ((64 * jb + k) + 1))), (5, .long hi), (7, .int (nI 0)), (13, .long (F jb (kM P N jb k))), (11, .long (F ja (kM P N jb k))), (9, .int (nI jb)), (8, .int (nI 1)), (3, .long lo), (0, .ref (ad 43)), (1, .int (nI ja)), (2, .int (nI jb))]) hx hb d_Mod_into_280 hl (k := 4) rfl (nI_1 _) (by decide) rfl (fun ls hl => ?_)
                                refine lv_goto (tgt := 59) hx hb d_Mod_into_283 (by decide) ?_
                                exact ih59b (k + 1) lo hi (nI 0) _ _ _ (by omega) (by omega) (by first | exact inI_s hI (sB_s (b := kM P N jb)) (ca_1 h128) (hi_1 h149) (lo_1 h123) | exact inI_s hI (sB_s (b := kM P N jb)) (ca_1 h128) (hi_2 h149 h156) (lo_1 h123) | exact inI_s hI (sB_s (b := kM P N jb)) (ca_1 h128) (hi_3 h149 h156 h167) (lo_1 h123) | exact inI_s hI (sB_s (b := kM P N jb)) (ca_1 h128) (hi_4 h149 h156 h167) (lo_1 h123) | exact inI_s hI (sB_s (b := kM P N jb)) (ca_2 h135 h123) (hi_1 h149) (lo_1 h123) | exact inI_s hI (sB_s (b := kM P N jb)) (ca_2 h135 h123) (hi_2 h149 h156) (lo_1 h123) | exact inI_s hI (sB_s (b := kM P N jb)) (ca_2 h135 h123) (hi_3 h149 h156 h167) (lo_1 h123) | exact inI_s hI (sB_s (b := kM P N jb)) (ca_2 h135 h123) (hi_4 h149 h156 h167) (lo_1 h123) | exact inI_s hI (sB_s (b := kM P N jb)) (ca_3 h128 h135 h123) (hi_1 h149) (lo_1 h123) | exact inI_s hI (sB_s (b := kM P N jb)) (ca_3 h128 h135 h123) (hi_2 h149 h156) (lo_1 h123) | exact inI_s hI (sB_s (b := kM P N jb)) (ca_3 h128 h135 h123) (hi_3 h149 h156 h167) (lo_1 h123) | exact inI_s hI (sB_s (b := kM P N jb)) (ca_3 h128 h135 h123) (hi_4 h149 h156 h167) (lo_1 h123) | exact inI_s hI (sB_s (b := kM P N jb)) (ca_k hI h123 h189) (hi_n h123) (lo_2 h189) | exact inI_s hI (sB_s (b := kM P N jb)) (ca_1 h219) (hi_n h123) (lo_3 h189 h123 (fun y => h198 y.1) h255 h270) | exact inI_s hI (sB_s (b := kM P N jb)) (ca_1 h219) (hi_n h123) (lo_4 h189 h123 (fun y => h198 y.1) h255 h270) | exact inI_s hI (sB_s (b := kM P N jb)) (ca_1 h219) (hi_n h123) (lo_5 h189 h123 h255 h270) | exact inI_s hI (sB_s (b := kM P N jb)) (ca_1 h219) (hi_n h123) (lo_6 h189 h123 h255 h270) | exact inI_s hI (sB_s (b := kM P N jb)) (ca_4 h219 h123 (fun y => h198 y.1)) (hi_n h123) (lo_3 h189 h123 (fun y => h198 y.1) h255 h270) | exact inI_s hI (sB_s (b := kM P N jb)) (ca_4 h219 h123 (fun y => h198 y.1)) (hi_n h123) (lo_4 h189 h123 (fun y => h198 y.1) h255 h270) | exact inI_s hI (sB_s (b := kM P N jb)) (ca_4 h219 h123 (fun y => h198 y.1)) (hi_n h123) (lo_5 h189 h123 h255 h270) | exact inI_s hI (sB_s (b := kM P N jb)) (ca_4 h219 h123 (fun y => h198 y.1)) (hi_n h123) (lo_6 h189 h123 h255 h270) | exact inI_s hI (sB_s (b := kM P N jb)) (ca_1 h219) (hi_n h123) (lo_3 h189 h123 (fun y => h207 y.2) h255 h270) | exact inI_s hI (sB_s (b := kM P N jb)) (ca_1 h219) (hi_n h123) (lo_4 h189 h123 (fun y => h207 y.2) h255 h270) | exact inI_s hI (sB_s (b := kM P N jb)) (ca_1 h219) (hi_n h123) (lo_5 h189 h123 h255 h270) | exact inI_s hI (sB_s (b := kM P N jb)) (ca_1 h219) (hi_n h123) (lo_6 h189 h123 h255 h270) | exact inI_s hI (sB_s (b := kM P N jb)) (ca_4 h219 h123 (fun y => h207 y.2)) (hi_n h123) (lo_3 h189 h123 (fun y => h207 y.2) h255 h270) | exact inI_s hI (sB_s (b := kM P N jb)) (ca_4 h219 h123 (fun y => h207 y.2)) (hi_n h123) (lo_4 h189 h123 (fun y => h207 y.2) h255 h270) | exact inI_s hI (sB_s (b := kM P N jb)) (ca_4 h219 h123 (fun y => h207 y.2)) (hi_n h123) (lo_5 h189 h123 h255 h270) | exact inI_s hI (sB_s (b := kM P N jb)) (ca_4 h219 h123 (fun y => h207 y.2)) (hi_n h123) (lo_6 h189 h123 h255 h270) | exact inI_s hI (sB_s (b := kM P N jb)) (ca_1 h219) (hi_n h123) (lo_b h198 h207) | exact inI_s hI (sB_s (b := kM P N jb)) (ca_5 h198 h207) (hi_n h123) (lo_b h198 h207)) hZ (lv_sub hl [0, 5, 6, 7, 1, 2, 8, 9, 10] rfl)
                              · skip
                                rw [lg_cmp_le] at h149
                                refine lv_lload hx hb d_Mod_into_152 (lv_at hl 7 rfl) ?_
                                refine lv_lconst (v := 0) hx hb d_Mod_into_154 rfl ?_
                                refine W.lcmp hx hb d_Mod_into_155 ?_
                                refine lv_if_lt (tgt := 170) hx hb d_Mod_into_156 (by decide) (fun h156 => ?_) (fun h156 => ?_)
                                · skip
                                  rw [lg_cmp_lt] at h156
                                  refine lv_lload hx hb d_Mod_into_170 (lv_at hl 2 rfl) ?_
                                  refine lv_lload hx hb d_Mod_into_172 (lv_at hl 1 rfl) ?_
                                  refine lv_ldiv hx hb d_Mod_into_174 (i64_n0 h149) ?_
                                  refine lv_goto (tgt := 180) hx hb d_Mod_into_175 (by decide) ?_
                                  refine lv_lstore (lv' := [(5, .long ((F ja (kM P N jb k)) / (F jb (kM P N jb k)))), (7, .int (nI 0)), (13, .long (F jb (kM P N jb k))), (11, .long (F ja (kM P N jb k))), (10, .int (nI (64 * jb + k))), (9, .int (nI jb)), (8, .int (nI 1)), (3, .long lo), (0, .ref (ad 43)), (1, .int (nI ja)), (2, .int (nI jb))]) hx hb d_Mod_into_180 hl (by decide) rfl (fun ls hl => ?_)
                                  refine lv_goto (tgt := 280) hx hb d_Mod_into_182 (by decide) ?_
                                  refine lv_iinc (v := (nI ((64 * jb + k) + 1))) (lv' := [(10, .int (nI ((64 * jb + k) + 1))), (5, .long ((F ja (kM P N jb k)) / (F jb (kM P N jb k)))), (7, .int (nI 0)), (13, .long (F jb (kM P N jb k))), (11, .long (F ja (kM P N jb k))), (9, .int (nI jb)), (8, .int (nI 1)), (3, .long lo), (0, .ref (ad 43)), (1, .int (nI ja)), (2, .int (nI jb))]) hx hb d_Mod_into_280 hl (k := 4) rfl (nI_1 _) (by decide) rfl (fun ls hl => ?_)
                                  refine lv_goto (tgt := 59) hx hb d_Mod_into_283 (by decide) ?_
                                  exact ih59b (k + 1) lo ((F ja (kM P N jb k)) / (F jb (kM P N jb k))) (nI 0) _ _ _ (by omega) (by omega) (by first | exact inI_s hI (sB_s (b := kM P N jb)) (ca_1 h128) (hi_1 h149) (lo_1 h123) | exact inI_s hI (sB_s (b := kM P N jb)) (ca_1 h128) (hi_2 h149 h156) (lo_1 h123) | exact inI_s hI (sB_s (b := kM P N jb)) (ca_1 h128) (hi_3 h149 h156 h167) (lo_1 h123) | exact inI_s hI (sB_s (b := kM P N jb)) (ca_1 h128) (hi_4 h149 h156 h167) (lo_1 h123) | exact inI_s hI (sB_s (b := kM P N jb)) (ca_2 h135 h123) (hi_1 h149) (lo_1 h123) | exact inI_s hI (sB_s (b := kM P N jb)) (ca_2 h135 h123) (hi_2 h149 h156) (lo_1 h123) | exact inI_s hI (sB_s (b := kM P N jb)) (ca_2 h135 h123) (hi_3 h149 h156 h167) (lo_1 h123) | exact inI_s hI (sB_s (b := kM P N jb)) (ca_2 h135 h123) (hi_4 h149 h156 h167) (lo_1 h123) | exact inI_s hI (sB_s (b := kM P N jb)) (ca_3 h128 h135 h123) (hi_1 h149) (lo_1 h123) | exact inI_s hI (sB_s (b := kM P N jb)) (ca_3 h128 h135 h123) (hi_2 h149 h156) (lo_1 h123) | exact inI_s hI (sB_s (b := kM P N jb)) (ca_3 h128 h135 h123) (hi_3 h149 h156 h167) (lo_1 h123) | exact inI_s hI (sB_s (b := kM P N jb)) (ca_3 h128 h135 h123) (hi_4 h149 h156 h167) (lo_1 h123) | exact inI_s hI (sB_s (b := kM P N jb)) (ca_k hI h123 h189) (hi_n h123) (lo_2 h189) | exact inI_s hI (sB_s (b := kM P N jb)) (ca_1 h219) (hi_n h123) (lo_3 h189 h123 (fun y => h198 y.1) h255 h270) | exact inI_s hI (sB_s (b := kM P N jb)) (ca_1 h219) (hi_n h123) (lo_4 h189 h123 (fun y => h198 y.1) h255 h270) | exact inI_s hI (sB_s (b := kM P N jb)) (ca_1 h219) (hi_n h123) (lo_5 h189 h123 h255 h270) | exact inI_s hI (sB_s (b := kM P N jb)) (ca_1 h219) (hi_n h123) (lo_6 h189 h123 h255 h270) | exact inI_s hI (sB_s (b := kM P N jb)) (ca_4 h219 h123 (fun y => h198 y.1)) (hi_n h123) (lo_3 h189 h123 (fun y => h198 y.1) h255 h270) | exact inI_s hI (sB_s (b := kM P N jb)) (ca_4 h219 h123 (fun y => h198 y.1)) (hi_n h123) (lo_4 h189 h123 (fun y => h198 y.1) h255 h270) | exact inI_s hI (sB_s (b := kM P N jb)) (ca_4 h219 h123 (fun y => h198 y.1)) (hi_n h123) (lo_5 h189 h123 h255 h270) | exact inI_s hI (sB_s (b := kM P N jb)) (ca_4 h219 h123 (fun y => h198 y.1)) (hi_n h123) (lo_6 h189 h123 h255 h270) | exact inI_s hI (sB_s (b := kM P N jb)) (ca_1 h219) (hi_n h123) (lo_3 h189 h123 (fun y => h207 y.2) h255 h270) | exact inI_s hI (sB_s (b := kM P N jb)) (ca_1 h219) (hi_n h123) (lo_4 h189 h123 (fun y => h207 y.2) h255 h270) | exact inI_s hI (sB_s (b := kM P N jb)) (ca_1 h219) (hi_n h123) (lo_5 h189 h123 h255 h270) | exact inI_s hI (sB_s (b := kM P N jb)) (ca_1 h219) (hi_n h123) (lo_6 h189 h123 h255 h270) | exact inI_s hI (sB_s (b := kM P N jb)) (ca_4 h219 h123 (fun y => h207 y.2)) (hi_n h123) (lo_3 h189 h123 (fun y => h207 y.2) h255 h270) | exact inI_s hI (sB_s (b := kM P N jb)) (ca_4 h219 h123 (fun y => h207 y.2)) (hi_n h123) (lo_4 h189 h123 (fun y => h207 y.2) h255 h270) | exact inI_s hI (sB_s (b := kM P N jb)) (ca_4 h219 h123 (fun y => h207 y.2)) (hi_n h123) (lo_5 h189 h123 h255 h270) | exact inI_s hI (sB_s (b := kM P N jb)) (ca_4 h219 h123 (fun y => h207 y.2)) (hi_n h123) (lo_6 h189 h123 h255 h270) | exact inI_s hI (sB_s (b := kM P N jb)) (ca_1 h219) (hi_n h123) (lo_b h198 h207) | exact inI_s hI (sB_s (b := kM P N jb)) (ca_5 h198 h207) (hi_n h123) (lo_b h198 h207)) hZ (lv_sub hl [0, 5, 6, 7, 1, 2, 8, 9, 10] rfl)
                                · skip
                                  rw [lg_cmp_lt] at h156
                                  refine lv_lload hx hb d_Mod_into_159 (lv_at hl 2 rfl) ?_
                                  refine lv_lload hx hb d_Mod_into_161 (lv_at hl 1 rfl) ?_
                                  refine lv_ldiv hx hb d_Mod_into_163 (i64_n0 h149) ?_
                                  refine lv_lload hx hb d_Mod_into_164 (lv_at hl 7 rfl) ?_
                                  refine W.lcmp hx hb d_Mod_into_166 ?_
                                  refine lv_if_ge (tgt := 178) hx hb d_Mod_into_167 (by decide) (fun h167 => ?_) (fun h167 => ?_)
                                  · skip
                                    rw [lg_cmp_ge] at h167
                                    refine lv_lload hx hb d_Mod_into_178 (lv_at hl 7 rfl) ?_
                                    refine lv_lstore (lv' := [(5, .long hi), (7, .int (nI 0)), (13, .long (F jb (kM P N jb k))), (11, .long (F ja (kM P N jb k))), (10, .int (nI (64 * jb + k))), (9, .int (nI jb)), (8, .int (nI 1)), (3, .long lo), (0, .ref (ad 43)), (1, .int (nI ja)), (2, .int (nI jb))]) hx hb d_Mod_into_180 hl (by decide) rfl (fun ls hl => ?_)
                                    refine lv_goto (tgt := 280) hx hb d_Mod_into_182 (by decide) ?_
                                    refine lv_iinc (v := (nI ((64 * jb + k) + 1))) (lv' := [(10, .int (nI ((64 * jb + k) + 1))), (5, .long hi), (7, .int (nI 0)), (13, .long (F jb (kM P N jb k))), (11, .long (F ja (kM P N jb k))), (9, .int (nI jb)), (8, .int (nI 1)), (3, .long lo), (0, .ref (ad 43)), (1, .int (nI ja)), (2, .int (nI jb))]) hx hb d_Mod_into_280 hl (k := 4) rfl (nI_1 _) (by decide) rfl (fun ls hl => ?_)
                                    refine lv_goto (tgt := 59) hx hb d_Mod_into_283 (by decide) ?_
                                    exact ih59b (k + 1) lo hi (nI 0) _ _ _ (by omega) (by omega) (by first | exact inI_s hI (sB_s (b := kM P N jb)) (ca_1 h128) (hi_1 h149) (lo_1 h123) | exact inI_s hI (sB_s (b := kM P N jb)) (ca_1 h128) (hi_2 h149 h156) (lo_1 h123) | exact inI_s hI (sB_s (b := kM P N jb)) (ca_1 h128) (hi_3 h149 h156 h167) (lo_1 h123) | exact inI_s hI (sB_s (b := kM P N jb)) (ca_1 h128) (hi_4 h149 h156 h167) (lo_1 h123) | exact inI_s hI (sB_s (b := kM P N jb)) (ca_2 h135 h123) (hi_1 h149) (lo_1 h123) | exact inI_s hI (sB_s (b := kM P N jb)) (ca_2 h135 h123) (hi_2 h149 h156) (lo_1 h123) | exact inI_s hI (sB_s (b := kM P N jb)) (ca_2 h135 h123) (hi_3 h149 h156 h167) (lo_1 h123) | exact inI_s hI (sB_s (b := kM P N jb)) (ca_2 h135 h123) (hi_4 h149 h156 h167) (lo_1 h123) | exact inI_s hI (sB_s (b := kM P N jb)) (ca_3 h128 h135 h123) (hi_1 h149) (lo_1 h123) | exact inI_s hI (sB_s (b := kM P N jb)) (ca_3 h128 h135 h123) (hi_2 h149 h156) (lo_1 h123) | exact inI_s hI (sB_s (b := kM P N jb)) (ca_3 h128 h135 h123) (hi_3 h149 h156 h167) (lo_1 h123) | exact inI_s hI (sB_s (b := kM P N jb)) (ca_3 h128 h135 h123) (hi_4 h149 h156 h167) (lo_1 h123) | exact inI_s hI (sB_s (b := kM P N jb)) (ca_k hI h123 h189) (hi_n h123) (lo_2 h189) | exact inI_s hI (sB_s (b := kM P N jb)) (ca_1 h219) (hi_n h123) (lo_3 h189 h123 (fun y => h198 y.1) h255 h270) | exact inI_s hI (sB_s (b := kM P N jb)) (ca_1 h219) (hi_n h123) (lo_4 h189 h123 (fun y => h198 y.1) h255 h270) | exact inI_s hI (sB_s (b := kM P N jb)) (ca_1 h219) (hi_n h123) (lo_5 h189 h123 h255 h270) | exact inI_s hI (sB_s (b := kM P N jb)) (ca_1 h219) (hi_n h123) (lo_6 h189 h123 h255 h270) | exact inI_s hI (sB_s (b := kM P N jb)) (ca_4 h219 h123 (fun y => h198 y.1)) (hi_n h123) (lo_3 h189 h123 (fun y => h198 y.1) h255 h270) | exact inI_s hI (sB_s (b := kM P N jb)) (ca_4 h219 h123 (fun y => h198 y.1)) (hi_n h123) (lo_4 h189 h123 (fun y => h198 y.1) h255 h270) | exact inI_s hI (sB_s (b := kM P N jb)) (ca_4 h219 h123 (fun y => h198 y.1)) (hi_n h123) (lo_5 h189 h123 h255 h270) | exact inI_s hI (sB_s (b := kM P N jb)) (ca_4 h219 h123 (fun y => h198 y.1)) (hi_n h123) (lo_6 h189 h123 h255 h270) | exact inI_s hI (sB_s (b := kM P N jb)) (ca_1 h219) (hi_n h123) (lo_3 h189 h123 (fun y => h207 y.2) h255 h270) | exact inI_s hI (sB_s (b := kM P N jb)) (ca_1 h219) (hi_n h123) (lo_4 h189 h123 (fun y => h207 y.2) h255 h270) | exact inI_s hI (sB_s (b := kM P N jb)) (ca_1 h219) (hi_n h123) (lo_5 h189 h123 h255 h270) | exact inI_s hI (sB_s (b := kM P N jb)) (ca_1 h219) (hi_n h123) (lo_6 h189 h123 h255 h270) | exact inI_s hI (sB_s (b := kM P N jb)) (ca_4 h219 h123 (fun y => h207 y.2)) (hi_n h123) (lo_3 h189 h123 (fun y => h207 y.2) h255 h270) | exact inI_s hI (sB_s (b := kM P N jb)) (ca_4 h219 h123 (fun y => h207 y.2)) (hi_n h123) (lo_4 h189 h123 (fun y => h207 y.2) h255 h270) | exact inI_s hI (sB_s (b := kM P N jb)) (ca_4 h219 h123 (fun y => h207 y.2)) (hi_n h123) (lo_5 h189 h123 h255 h270) | exact inI_s hI (sB_s (b := kM P N jb)) (ca_4 h219 h123 (fun y => h207 y.2)) (hi_n h123) (lo_6 h189 h123 h255 h270) | exact inI_s hI (sB_s (b := kM P N jb)) (ca_1 h219) (hi_n h123) (lo_b h198 h207) | exact inI_s hI (sB_s (b := kM P N jb)) (ca_5 h198 h207) (hi_n h123) (lo_b h198 h207)) hZ (lv_sub hl [0, 5, 6, 7, 1, 2, 8, 9, 10] rfl)
                                  · skip
                                    rw [lg_cmp_ge] at h167
                                    refine lv_lload hx hb d_Mod_into_170 (lv_at hl 2 rfl) ?_
                                    refine lv_lload hx hb d_Mod_into_172 (lv_at hl 1 rfl) ?_
                                    refine lv_ldiv hx hb d_Mod_into_174 (i64_n0 h149) ?_
                                    refine lv_goto (tgt := 180) hx hb d_Mod_into_175 (by decide) ?_
                                    refine lv_lstore (lv' := [(5, .long ((F ja (kM P N jb k)) / (F jb (kM P N jb k)))), (7, .int (nI 0)), (13, .long (F jb (kM P N jb k))), (11, .long (F ja (kM P N jb k))), (10, .int (nI (64 * jb + k))), (9, .int (nI jb)), (8, .int (nI 1)), (3, .long lo), (0, .ref (ad 43)), (1, .int (nI ja)), (2, .int (nI jb))]) hx hb d_Mod_into_180 hl (by decide) rfl (fun ls hl => ?_)
                                    refine lv_goto (tgt := 280) hx hb d_Mod_into_182 (by decide) ?_
                                    refine lv_iinc (v := (nI ((64 * jb + k) + 1))) (lv' := [(10, .int (nI ((64 * jb + k) + 1))), (5, .long ((F ja (kM P N jb k)) / (F jb (kM P N jb k)))), (7, .int (nI 0)), (13, .long (F jb (kM P N jb k))), (11, .long (F ja (kM P N jb k))), (9, .int (nI jb)), (8, .int (nI 1)), (3, .long lo), (0, .ref (ad 43)), (1, .int (nI ja)), (2, .int (nI jb))]) hx hb d_Mod_into_280 hl (k := 4) rfl (nI_1 _) (by decide) rfl (fun ls hl => ?_)
                                    refine lv_goto (tgt := 59) hx hb d_Mod_into_283 (by decide) ?_
                                    exact ih59b (k + 1) lo ((F ja (kM P N jb k)) / (F jb (kM P N jb k))) (nI 0) _ _ _ (by omega) (by omega) (by first | exact inI_s hI (sB_s (b := kM P N jb)) (ca_1 h128) (hi_1 h149) (lo_1 h123) | exact inI_s hI (sB_s (b := kM P N jb)) (ca_1 h128) (hi_2 h149 h156) (lo_1 h123) | exact inI_s hI (sB_s (b := kM P N jb)) (ca_1 h128) (hi_3 h149 h156 h167) (lo_1 h123) | exact inI_s hI (sB_s (b := kM P N jb)) (ca_1 h128) (hi_4 h149 h156 h167) (lo_1 h123) | exact inI_s hI (sB_s (b := kM P N jb)) (ca_2 h135 h123) (hi_1 h149) (lo_1 h123) | exact inI_s hI (sB_s (b := kM P N jb)) (ca_2 h135 h123) (hi_2 h149 h156) (lo_1 h123) | exact inI_s hI (sB_s (b := kM P N jb)) (ca_2 h135 h123) (hi_3 h149 h156 h167) (lo_1 h123) | exact inI_s hI (sB_s (b := kM P N jb)) (ca_2 h135 h123) (hi_4 h149 h156 h167) (lo_1 h123) | exact inI_s hI (sB_s (b := kM P N jb)) (ca_3 h128 h135 h123) (hi_1 h149) (lo_1 h123) | exact inI_s hI (sB_s (b := kM P N jb)) (ca_3 h128 h135 h123) (hi_2 h149 h156) (lo_1 h123) | exact inI_s hI (sB_s (b := kM P N jb)) (ca_3 h128 h135 h123) (hi_3 h149 h156 h167) (lo_1 h123) | exact inI_s hI (sB_s (b := kM P N jb)) (ca_3 h128 h135 h123) (hi_4 h149 h156 h167) (lo_1 h123) | exact inI_s hI (sB_s (b := kM P N jb)) (ca_k hI h123 h189) (hi_n h123) (lo_2 h189) | exact inI_s hI (sB_s (b := kM P N jb)) (ca_1 h219) (hi_n h123) (lo_3 h189 h123 (fun y => h198 y.1) h255 h270) | exact inI_s hI (sB_s (b := kM P N jb)) (ca_1 h219) (hi_n h123) (lo_4 h189 h123 (fun y => h198 y.1) h255 h270) | exact inI_s hI (sB_s (b := kM P N jb)) (ca_1 h219) (hi_n h123) (lo_5 h189 h123 h255 h270) | exact inI_s hI (sB_s (b := kM P N jb)) (ca_1 h219) (hi_n h123) (lo_6 h189 h123 h255 h270) | exact inI_s hI (sB_s (b := kM P N jb)) (ca_4 h219 h123 (fun y => h198 y.1)) (hi_n h123) (lo_3 h189 h123 (fun y => h198 y.1) h255 h270) | exact inI_s hI (sB_s (b := kM P N jb)) (ca_4 h219 h123 (fun y => h198 y.1)) (hi_n h123) (lo_4 h189 h123 (fun y => h198 y.1) h255 h270) | exact inI_s hI (sB_s (b := kM P N jb)) (ca_4 h219 h123 (fun y => h198 y.1)) (hi_n h123) (lo_5 h189 h123 h255 h270) | exact inI_s hI (sB_s (b := kM P N jb)) (ca_4 h219 h123 (fun y => h198 y.1)) (hi_n h123) (lo_6 h189 h123 h255 h270) | exact inI_s hI (sB_s (b := kM P N jb)) (ca_1 h219) (hi_n h123) (lo_3 h189 h123 (fun y => h207 y.2) h255 h270) | exact inI_s hI (sB_s (b := kM P N jb)) (ca_1 h219) (hi_n h123) (lo_4 h189 h123 (fun y => h207 y.2) h255 h270) | exact inI_s hI (sB_s (b := kM P N jb)) (ca_1 h219) (hi_n h123) (lo_5 h189 h123 h255 h270) | exact inI_s hI (sB_s (b := kM P N jb)) (ca_1 h219) (hi_n h123) (lo_6 h189 h123 h255 h270) | exact inI_s hI (sB_s (b := kM P N jb)) (ca_4 h219 h123 (fun y => h207 y.2)) (hi_n h123) (lo_3 h189 h123 (fun y => h207 y.2) h255 h270) | exact inI_s hI (sB_s (b := kM P N jb)) (ca_4 h219 h123 (fun y => h207 y.2)) (hi_n h123) (lo_4 h189 h123 (fun y => h207 y.2) h255 h270) | exact inI_s hI (sB_s (b := kM P N jb)) (ca_4 h219 h123 (fun y => h207 y.2)) (hi_n h123) (lo_5 h189 h123 h255 h270) | exact inI_s hI (sB_s (b := kM P N jb)) (ca_4 h219 h123 (fun y => h207 y.2)) (hi_n h123) (lo_6 h189 h123 h255 h270) | exact inI_s hI (sB_s (b := kM P N jb)) (ca_1 h219) (hi_n h123) (lo_b h198 h207) | exact inI_s hI (sB_s (b := kM P N jb)) (ca_5 h198 h207) (hi_n h123) (lo_b h198 h207)) hZ (lv_sub hl [0, 5, 6, 7, 1, 2, 8, 9, 10] rfl)
                            · skip
                              rw [lg_cmp_lt] at h135
                              refine lv_iconst (v := (nI 1)) hx hb d_Mod_into_138 rfl ?_
                              refine lv_goto (tgt := 143) hx hb d_Mod_into_139 (by decide) ?_
                              refine lv_istore (lv' := [(7, .int (nI 1)), (13, .long (F jb (kM P N jb k))), (11, .long (F ja (kM P N jb k))), (10, .int (nI (64 * jb + k))), (9, .int (nI jb)), (8, .int (nI 1)), (3, .long lo), (5, .long hi), (0, .ref (ad 43)), (1, .int (nI ja)), (2, .int (nI jb))]) hx hb d_Mod_into_143 hl (by decide) rfl (fun ls hl => ?_)
                              refine lv_lload hx hb d_Mod_into_145 (lv_at hl 1 rfl) ?_
                              refine lv_lconst (v := 0) hx hb d_Mod_into_147 rfl ?_
                              refine W.lcmp hx hb d_Mod_into_148 ?_
                              refine lv_if_le (tgt := 178) hx hb d_Mod_into_149 (by decide) (fun h149 => ?_) (fun h149 => ?_)
                              · skip
                                rw [lg_cmp_le] at h149
                                refine lv_lload hx hb d_Mod_into_178 (lv_at hl 7 rfl) ?_
                                refine lv_lstore (lv' := [(5, .long hi), (7, .int (nI 1)), (13, .long (F jb (kM P N jb k))), (11, .long (F ja (kM P N jb k))), (10, .int (nI (64 * jb + k))), (9, .int (nI jb)), (8, .int (nI 1)), (3, .long lo), (0, .ref (ad 43)), (1, .int (nI ja)), (2, .int (nI jb))]) hx hb d_Mod_into_180 hl (by decide) rfl (fun ls hl => ?_)
                                refine lv_goto (tgt := 280) hx hb d_Mod_into_182 (by decide) ?_
                                refine lv_iinc (v := (nI ((64 * jb + k) + 1))) (lv' := [(10, .int (nI ((64 * jb + k) + 1))), (5, .long hi), (7, .int (nI 1)), (13, .long (F jb (kM P N jb k))), (11, .long (F ja (kM P N jb k))), (9, .int (nI jb)), (8, .int (nI 1)), (3, .long lo), (0, .ref (ad 43)), (1, .int (nI ja)), (2, .int (nI jb))]) hx hb d_Mod_into_280 hl (k := 4) rfl (nI_1 _) (by decide) rfl (fun ls hl => ?_)
                                refine lv_goto (tgt := 59) hx hb d_Mod_into_283 (by decide) ?_
                                exact ih59b (k + 1) lo hi (nI 1) _ _ _ (by omega) (by omega) (by first | exact inI_s hI (sB_s (b := kM P N jb)) (ca_1 h128) (hi_1 h149) (lo_1 h123) | exact inI_s hI (sB_s (b := kM P N jb)) (ca_1 h128) (hi_2 h149 h156) (lo_1 h123) | exact inI_s hI (sB_s (b := kM P N jb)) (ca_1 h128) (hi_3 h149 h156 h167) (lo_1 h123) | exact inI_s hI (sB_s (b := kM P N jb)) (ca_1 h128) (hi_4 h149 h156 h167) (lo_1 h123) | exact inI_s hI (sB_s (b := kM P N jb)) (ca_2 h135 h123) (hi_1 h149) (lo_1 h123) | exact inI_s hI (sB_s (b := kM P N jb)) (ca_2 h135 h123) (hi_2 h149 h156) (lo_1 h123) | exact inI_s hI (sB_s (b := kM P N jb)) (ca_2 h135 h123) (hi_3 h149 h156 h167) (lo_1 h123) | exact inI_s hI (sB_s (b := kM P N jb)) (ca_2 h135 h123) (hi_4 h149 h156 h167) (lo_1 h123) | exact inI_s hI (sB_s (b := kM P N jb)) (ca_3 h128 h135 h123) (hi_1 h149) (lo_1 h123) | exact inI_s hI (sB_s (b := kM P N jb)) (ca_3 h128 h135 h123) (hi_2 h149 h156) (lo_1 h123) | exact inI_s hI (sB_s (b := kM P N jb)) (ca_3 h128 h135 h123) (hi_3 h149 h156 h167) (lo_1 h123) | exact inI_s hI (sB_s (b := kM P N jb)) (ca_3 h128 h135 h123) (hi_4 h149 h156 h167) (lo_1 h123) | exact inI_s hI (sB_s (b := kM P N jb)) (ca_k hI h123 h189) (hi_n h123) (lo_2 h189) | exact inI_s hI (sB_s (b := kM P N jb)) (ca_1 h219) (hi_n h123) (lo_3 h189 h123 (fun y => h198 y.1) h255 h270) | exact inI_s hI (sB_s (b := kM P N jb)) (ca_1 h219) (hi_n h123) (lo_4 h189 h123 (fun y => h198 y.1) h255 h270) | exact inI_s hI (sB_s (b := kM P N jb)) (ca_1 h219) (hi_n h123) (lo_5 h189 h123 h255 h270) | exact inI_s hI (sB_s (b := kM P N jb)) (ca_1 h219) (hi_n h123) (lo_6 h189 h123 h255 h270) | exact inI_s hI (sB_s (b := kM P N jb)) (ca_4 h219 h123 (fun y => h198 y.1)) (hi_n h123) (lo_3 h189 h123 (fun y => h198 y.1) h255 h270) | exact inI_s hI (sB_s (b := kM P N jb)) (ca_4 h219 h123 (fun y => h198 y.1)) (hi_n h123) (lo_4 h189 h123 (fun y => h198 y.1) h255 h270) | exact inI_s hI (sB_s (b := kM P N jb)) (ca_4 h219 h123 (fun y => h198 y.1)) (hi_n h123) (lo_5 h189 h123 h255 h270) | exact inI_s hI (sB_s (b := kM P N jb)) (ca_4 h219 h123 (fun y => h198 y.1)) (hi_n h123) (lo_6 h189 h123 h255 h270) | exact inI_s hI (sB_s (b := kM P N jb)) (ca_1 h219) (hi_n h123) (lo_3 h189 h123 (fun y => h207 y.2) h255 h270) | exact inI_s hI (sB_s (b := kM P N jb)) (ca_1 h219) (hi_n h123) (lo_4 h189 h123 (fun y => h207 y.2) h255 h270) | exact inI_s hI (sB_s (b := kM P N jb)) (ca_1 h219) (hi_n h123) (lo_5 h189 h123 h255 h270) | exact inI_s hI (sB_s (b := kM P N jb)) (ca_1 h219) (hi_n h123) (lo_6 h189 h123 h255 h270) | exact inI_s hI (sB_s (b := kM P N jb)) (ca_4 h219 h123 (fun y => h207 y.2)) (hi_n h123) (lo_3 h189 h123 (fun y => h207 y.2) h255 h270) | exact inI_s hI (sB_s (b := kM P N jb)) (ca_4 h219 h123 (fun y => h207 y.2)) (hi_n h123) (lo_4 h189 h123 (fun y => h207 y.2) h255 h270) | exact inI_s hI (sB_s (b := kM P N jb)) (ca_4 h219 h123 (fun y => h207 y.2)) (hi_n h123) (lo_5 h189 h123 h255 h270) | exact inI_s hI (sB_s (b := kM P N jb)) (ca_4 h219 h123 (fun y => h207 y.2)) (hi_n h123) (lo_6 h189 h123 h255 h270) | exact inI_s hI (sB_s (b := kM P N jb)) (ca_1 h219) (hi_n h123) (lo_b h198 h207) | exact inI_s hI (sB_s (b := kM P N jb)) (ca_5 h198 h207) (hi_n h123) (lo_b h198 h207)) hZ (lv_sub hl [0, 5, 6, 7, 1, 2, 8, 9, 10] rfl)
                              · skip
                                rw [lg_cmp_le] at h149
                                refine lv_lload hx hb d_Mod_into_152 (lv_at hl 7 rfl) ?_
                                refine lv_lconst (v := 0) hx hb d_Mod_into_154 rfl ?_
                                refine W.lcmp hx hb d_Mod_into_155 ?_
                                refine lv_if_lt (tgt := 170) hx hb d_Mod_into_156 (by decide) (fun h156 => ?_) (fun h156 => ?_)
                                · skip
                                  rw [lg_cmp_lt] at h156
                                  refine lv_lload hx hb d_Mod_into_170 (lv_at hl 2 rfl) ?_
                                  refine lv_lload hx hb d_Mod_into_172 (lv_at hl 1 rfl) ?_
                                  refine lv_ldiv hx hb d_Mod_into_174 (i64_n0 h149) ?_
                                  refine lv_goto (tgt := 180) hx hb d_Mod_into_175 (by decide) ?_
                                  refine lv_lstore (lv' := [(5, .long ((F ja (kM P N jb k)) / (F jb (kM P N jb k)))), (7, .int (nI 1)), (13, .long (F jb (kM P N jb k))), (11, .long (F ja (kM P N jb k))), (10, .int (nI (64 * jb + k))), (9, .int (nI jb)), (8, .int (nI 1)), (3, .long lo), (0, .ref (ad 43)), (1, .int (nI ja)), (2, .int (nI jb))]) hx hb d_Mod_into_180 hl (by decide) rfl (fun ls hl => ?_)
                                  refine lv_goto (tgt := 280) hx hb d_Mod_into_182 (by decide) ?_
                                  refine lv_iinc (v := (nI ((64 * jb + k) + 1))) (lv' := [(10, .int (nI ((64 * jb + k) + 1))), (5, .long ((F ja (kM P N jb k)) / (F jb (kM P N jb k)))), (7, .int (nI 1)), (13, .long (F jb (kM P N jb k))), (11, .long (F ja (kM P N jb k))), (9, .int (nI jb)), (8, .int (nI 1)), (3, .long lo), (0, .ref (ad 43)), (1, .int (nI ja)), (2, .int (nI jb))]) hx hb d_Mod_into_280 hl (k := 4) rfl (nI_1 _) (by decide) rfl (fun ls hl => ?_)
                                  refine lv_goto (tgt := 59) hx hb d_Mod_into_283 (by decide) ?_
                                  exact ih59b (k + 1) lo ((F ja (kM P N jb k)) / (F jb (kM P N jb k))) (nI 1) _ _ _ (by omega) (by omega) (by first | exact inI_s hI (sB_s (b := kM P N jb)) (ca_1 h128) (hi_1 h149) (lo_1 h123) | exact inI_s hI (sB_s (b := kM P N jb)) (ca_1 h128) (hi_2 h149 h156) (lo_1 h123) | exact inI_s hI (sB_s (b := kM P N jb)) (ca_1 h128) (hi_3 h149 h156 h167) (lo_1 h123) | exact inI_s hI (sB_s (b := kM P N jb)) (ca_1 h128) (hi_4 h149 h156 h167) (lo_1 h123) | exact inI_s hI (sB_s (b := kM P N jb)) (ca_2 h135 h123) (hi_1 h149) (lo_1 h123) | exact inI_s hI (sB_s (b := kM P N jb)) (ca_2 h135 h123) (hi_2 h149 h156) (lo_1 h123) | exact inI_s hI (sB_s (b := kM P N jb)) (ca_2 h135 h123) (hi_3 h149 h156 h167) (lo_1 h123) | exact inI_s hI (sB_s (b := kM P N jb)) (ca_2 h135 h123) (hi_4 h149 h156 h167) (lo_1 h123) | exact inI_s hI (sB_s (b := kM P N jb)) (ca_3 h128 h135 h123) (hi_1 h149) (lo_1 h123) | exact inI_s hI (sB_s (b := kM P N jb)) (ca_3 h128 h135 h123) (hi_2 h149 h156) (lo_1 h123) | exact inI_s hI (sB_s (b := kM P N jb)) (ca_3 h128 h135 h123) (hi_3 h149 h156 h167) (lo_1 h123) | exact inI_s hI (sB_s (b := kM P N jb)) (ca_3 h128 h135 h123) (hi_4 h149 h156 h167) (lo_1 h123) | exact inI_s hI (sB_s (b := kM P N jb)) (ca_k hI h123 h189) (hi_n h123) (lo_2 h189) | exact inI_s hI (sB_s (b := kM P N jb)) (ca_1 h219) (hi_n h123) (lo_3 h189 h123 (fun y => h198 y.1) h255 h270) | exact inI_s hI (sB_s (b := kM P N jb)) (ca_1 h219) (hi_n h123) (lo_4 h189 h123 (fun y => h198 y.1) h255 h270) | exact inI_s hI (sB_s (b := kM P N jb)) (ca_1 h219) (hi_n h123) (lo_5 h189 h123 h255 h270) | exact inI_s hI (sB_s (b := kM P N jb)) (ca_1 h219) (hi_n h123) (lo_6 h189 h123 h255 h270) | exact inI_s hI (sB_s (b := kM P N jb)) (ca_4 h219 h123 (fun y => h198 y.1)) (hi_n h123) (lo_3 h189 h123 (fun y => h198 y.1) h255 h270) | exact inI_s hI (sB_s (b := kM P N jb)) (ca_4 h219 h123 (fun y => h198 y.1)) (hi_n h123) (lo_4 h189 h123 (fun y => h198 y.1) h255 h270) | exact inI_s hI (sB_s (b := kM P N jb)) (ca_4 h219 h123 (fun y => h198 y.1)) (hi_n h123) (lo_5 h189 h123 h255 h270) | exact inI_s hI (sB_s (b := kM P N jb)) (ca_4 h219 h123 (fun y => h198 y.1)) (hi_n h123) (lo_6 h189 h123 h255 h270) | exact inI_s hI (sB_s (b := kM P N jb)) (ca_1 h219) (hi_n h123) (lo_3 h189 h123 (fun y => h207 y.2) h255 h270) | exact inI_s hI (sB_s (b := kM P N jb)) (ca_1 h219) (hi_n h123) (lo_4 h189 h123 (fun y => h207 y.2) h255 h270) | exact inI_s hI (sB_s (b := kM P N jb)) (ca_1 h219) (hi_n h123) (lo_5 h189 h123 h255 h270) | exact inI_s hI (sB_s (b := kM P N jb)) (ca_1 h219) (hi_n h123) (lo_6 h189 h123 h255 h270) | exact inI_s hI (sB_s (b := kM P N jb)) (ca_4 h219 h123 (fun y => h207 y.2)) (hi_n h123) (lo_3 h189 h123 (fun y => h207 y.2) h255 h270) | exact inI_s hI (sB_s (b := kM P N jb)) (ca_4 h219 h123 (fun y => h207 y.2)) (hi_n h123) (lo_4 h189 h123 (fun y => h207 y.2) h255 h270) | exact inI_s hI (sB_s (b := kM P N jb)) (ca_4 h219 h123 (fun y => h207 y.2)) (hi_n h123) (lo_5 h189 h123 h255 h270) | exact inI_s hI (sB_s (b := kM P N jb)) (ca_4 h219 h123 (fun y => h207 y.2)) (hi_n h123) (lo_6 h189 h123 h255 h270) | exact inI_s hI (sB_s (b := kM P N jb)) (ca_1 h219) (hi_n h123) (lo_b h198 h207) | exact inI_s hI (sB_s (b := kM P N jb)) (ca_5 h198 h207) (hi_n h123) (lo_b h198 h207)) hZ (lv_sub hl [0, 5, 6, 7, 1, 2, 8, 9, 10] rfl)
                                · skip
                                  rw [lg_cmp_lt] at h156
                                  refine lv_lload hx hb d_Mod_into_159 (lv_at hl 2 rfl) ?_
                                  refine lv_lload hx hb d_Mod_into_161 (lv_at hl 1 rfl) ?_
                                  refine lv_ldiv hx hb d_Mod_into_163 (i64_n0 h149) ?_
                                  refine lv_lload hx hb d_Mod_into_164 (lv_at hl 7 rfl) ?_
                                  refine W.lcmp hx hb d_Mod_into_166 ?_
                                  refine lv_if_ge (tgt := 178) hx hb d_Mod_into_167 (by decide) (fun h167 => ?_) (fun h167 => ?_)
                                  · skip
                                    rw [lg_cmp_ge] at h167
                                    refine lv_lload hx hb d_Mod_into_178 (lv_at hl 7 rfl) ?_
                                    refine lv_lstore (lv' := [(5, .long hi), (7, .int (nI 1)), (13, .long (F jb (kM P N jb k))), (11, .long (F ja (kM P N jb k))), (10, .int (nI (64 * jb + k))), (9, .int (nI jb)), (8, .int (nI 1)), (3, .long lo), (0, .ref (ad 43)), (1, .int (nI ja)), (2, .int (nI jb))]) hx hb d_Mod_into_180 hl (by decide) rfl (fun ls hl => ?_)
                                    refine lv_goto (tgt := 280) hx hb d_Mod_into_182 (by decide) ?_
                                    refine lv_iinc (v := (nI ((64 * jb + k) + 1))) (lv' := [(10, .int (nI ((64 * jb + k) + 1))), (5, .long hi), (7, .int (nI 1)), (13, .long (F jb (kM P N jb k))), (11, .long (F ja (kM P N jb k))), (9, .int (nI jb)), (8, .int (nI 1)), (3, .long lo), (0, .ref (ad 43)), (1, .int (nI ja)), (2, .int (nI jb))]) hx hb d_Mod_into_280 hl (k := 4) rfl (nI_1 _) (by decide) rfl (fun ls hl => ?_)
                                    refine lv_goto (tgt := 59) hx hb d_Mod_into_283 (by decide) ?_
                                    exact ih59b (k + 1) lo hi (nI 1) _ _ _ (by omega) (by omega) (by first | exact inI_s hI (sB_s (b := kM P N jb)) (ca_1 h128) (hi_1 h149) (lo_1 h123) | exact inI_s hI (sB_s (b := kM P N jb)) (ca_1 h128) (hi_2 h149 h156) (lo_1 h123) | exact inI_s hI (sB_s (b := kM P N jb)) (ca_1 h128) (hi_3 h149 h156 h167) (lo_1 h123) | exact inI_s hI (sB_s (b := kM P N jb)) (ca_1 h128) (hi_4 h149 h156 h167) (lo_1 h123) | exact inI_s hI (sB_s (b := kM P N jb)) (ca_2 h135 h123) (hi_1 h149) (lo_1 h123) | exact inI_s hI (sB_s (b := kM P N jb)) (ca_2 h135 h123) (hi_2 h149 h156) (lo_1 h123) | exact inI_s hI (sB_s (b := kM P N jb)) (ca_2 h135 h123) (hi_3 h149 h156 h167) (lo_1 h123) | exact inI_s hI (sB_s (b := kM P N jb)) (ca_2 h135 h123) (hi_4 h149 h156 h167) (lo_1 h123) | exact inI_s hI (sB_s (b := kM P N jb)) (ca_3 h128 h135 h123) (hi_1 h149) (lo_1 h123) | exact inI_s hI (sB_s (b := kM P N jb)) (ca_3 h128 h135 h123) (hi_2 h149 h156) (lo_1 h123) | exact inI_s hI (sB_s (b := kM P N jb)) (ca_3 h128 h135 h123) (hi_3 h149 h156 h167) (lo_1 h123) | exact inI_s hI (sB_s (b := kM P N jb)) (ca_3 h128 h135 h123) (hi_4 h149 h156 h167) (lo_1 h123) | exact inI_s hI (sB_s (b := kM P N jb)) (ca_k hI h123 h189) (hi_n h123) (lo_2 h189) | exact inI_s hI (sB_s (b := kM P N jb)) (ca_1 h219) (hi_n h123) (lo_3 h189 h123 (fun y => h198 y.1) h255 h270) | exact inI_s hI (sB_s (b := kM P N jb)) (ca_1 h219) (hi_n h123) (lo_4 h189 h123 (fun y => h198 y.1) h255 h270) | exact inI_s hI (sB_s (b := kM P N jb)) (ca_1 h219) (hi_n h123) (lo_5 h189 h123 h255 h270) | exact inI_s hI (sB_s (b := kM P N jb)) (ca_1 h219) (hi_n h123) (lo_6 h189 h123 h255 h270) | exact inI_s hI (sB_s (b := kM P N jb)) (ca_4 h219 h123 (fun y => h198 y.1)) (hi_n h123) (lo_3 h189 h123 (fun y => h198 y.1) h255 h270) | exact inI_s hI (sB_s (b := kM P N jb)) (ca_4 h219 h123 (fun y => h198 y.1)) (hi_n h123) (lo_4 h189 h123 (fun y => h198 y.1) h255 h270) | exact inI_s hI (sB_s (b := kM P N jb)) (ca_4 h219 h123 (fun y => h198 y.1)) (hi_n h123) (lo_5 h189 h123 h255 h270) | exact inI_s hI (sB_s (b := kM P N jb)) (ca_4 h219 h123 (fun y => h198 y.1)) (hi_n h123) (lo_6 h189 h123 h255 h270) | exact inI_s hI (sB_s (b := kM P N jb)) (ca_1 h219) (hi_n h123) (lo_3 h189 h123 (fun y => h207 y.2) h255 h270) | exact inI_s hI (sB_s (b := kM P N jb)) (ca_1 h219) (hi_n h123) (lo_4 h189 h123 (fun y => h207 y.2) h255 h270) | exact inI_s hI (sB_s (b := kM P N jb)) (ca_1 h219) (hi_n h123) (lo_5 h189 h123 h255 h270) | exact inI_s hI (sB_s (b := kM P N jb)) (ca_1 h219) (hi_n h123) (lo_6 h189 h123 h255 h270) | exact inI_s hI (sB_s (b := kM P N jb)) (ca_4 h219 h123 (fun y => h207 y.2)) (hi_n h123) (lo_3 h189 h123 (fun y => h207 y.2) h255 h270) | exact inI_s hI (sB_s (b := kM P N jb)) (ca_4 h219 h123 (fun y => h207 y.2)) (hi_n h123) (lo_4 h189 h123 (fun y => h207 y.2) h255 h270) | exact inI_s hI (sB_s (b := kM P N jb)) (ca_4 h219 h123 (fun y => h207 y.2)) (hi_n h123) (lo_5 h189 h123 h255 h270) | exact inI_s hI (sB_s (b := kM P N jb)) (ca_4 h219 h123 (fun y => h207 y.2)) (hi_n h123) (lo_6 h189 h123 h255 h270) | exact inI_s hI (sB_s (b := kM P N jb)) (ca_1 h219) (hi_n h123) (lo_b h198 h207) | exact inI_s hI (sB_s (b := kM P N jb)) (ca_5 h198 h207) (hi_n h123) (lo_b h198 h207)) hZ (lv_sub hl [0, 5, 6, 7, 1, 2, 8, 9, 10] rfl)
                                  · skip
                                    rw [lg_cmp_ge] at h167
                                    refine lv_lload hx hb d_Mod_into_170 (lv_at hl 2 rfl) ?_
                                    refine lv_lload hx hb d_Mod_into_172 (lv_at hl 1 rfl) ?_
                                    refine lv_ldiv hx hb d_Mod_into_174 (i64_n0 h149) ?_
                                    refine lv_goto (tgt := 180) hx hb d_Mod_into_175 (by decide) ?_
                                    refine lv_lstore (lv' := [(5, .long ((F ja (kM P N jb k)) / (F jb (kM P N jb k)))), (7, .int (nI 1)), (13, .long (F jb (kM P N jb k))), (11, .long (F ja (kM P N jb k))), (10, .int (nI (64 * jb + k))), (9, .int (nI jb)), (8, .int (nI 1)), (3, .long lo), (0, .ref (ad 43)), (1, .int (nI ja)), (2, .int (nI jb))]) hx hb d_Mod_into_180 hl (by decide) rfl (fun ls hl => ?_)
                                    refine lv_goto (tgt := 280) hx hb d_Mod_into_182 (by decide) ?_
                                    refine lv_iinc (v := (nI ((64 * jb + k) + 1))) (lv' := [(10, .int (nI ((64 * jb + k) + 1))), (5, .long ((F ja (kM P N jb k)) / (F jb (kM P N jb k)))), (7, .int (nI 1)), (13, .long (F jb (kM P N jb k))), (11, .long (F ja (kM P N jb k))), (9, .int (nI jb)), (8, .int (nI 1)), (3, .long lo), (0, .ref (ad 43)), (1, .int (nI ja)), (2, .int (nI jb))]) hx hb d_Mod_into_280 hl (k := 4) rfl (nI_1 _) (by decide) rfl (fun ls hl => ?_)
                                    refine lv_goto (tgt := 59) hx hb d_Mod_into_283 (by decide) ?_
                                    exact ih59b (k + 1) lo ((F ja (kM P N jb k)) / (F jb (kM P N jb k))) (nI 1) _ _ _ (by omega) (by omega) (by first | exact inI_s hI (sB_s (b := kM P N jb)) (ca_1 h128) (hi_1 h149) (lo_1 h123) | exact inI_s hI (sB_s (b := kM P N jb)) (ca_1 h128) (hi_2 h149 h156) (lo_1 h123) | exact inI_s hI (sB_s (b := kM P N jb)) (ca_1 h128) (hi_3 h149 h156 h167) (lo_1 h123) | exact inI_s hI (sB_s (b := kM P N jb)) (ca_1 h128) (hi_4 h149 h156 h167) (lo_1 h123) | exact inI_s hI (sB_s (b := kM P N jb)) (ca_2 h135 h123) (hi_1 h149) (lo_1 h123) | exact inI_s hI (sB_s (b := kM P N jb)) (ca_2 h135 h123) (hi_2 h149 h156) (lo_1 h123) | exact inI_s hI (sB_s (b := kM P N jb)) (ca_2 h135 h123) (hi_3 h149 h156 h167) (lo_1 h123) | exact inI_s hI (sB_s (b := kM P N jb)) (ca_2 h135 h123) (hi_4 h149 h156 h167) (lo_1 h123) | exact inI_s hI (sB_s (b := kM P N jb)) (ca_3 h128 h135 h123) (hi_1 h149) (lo_1 h123) | exact inI_s hI (sB_s (b := kM P N jb)) (ca_3 h128 h135 h123) (hi_2 h149 h156) (lo_1 h123) | exact inI_s hI (sB_s (b := kM P N jb)) (ca_3 h128 h135 h123) (hi_3 h149 h156 h167) (lo_1 h123) | exact inI_s hI (sB_s (b := kM P N jb)) (ca_3 h128 h135 h123) (hi_4 h149 h156 h167) (lo_1 h123) | exact inI_s hI (sB_s (b := kM P N jb)) (ca_k hI h123 h189) (hi_n h123) (lo_2 h189) | exact inI_s hI (sB_s (b := kM P N jb)) (ca_1 h219) (hi_n h123) (lo_3 h189 h123 (fun y => h198 y.1) h255 h270) | exact inI_s hI (sB_s (b := kM P N jb)) (ca_1 h219) (hi_n h123) (lo_4 h189 h123 (fun y => h198 y.1) h255 h270) | exact inI_s hI (sB_s (b := kM P N jb)) (ca_1 h219) (hi_n h123) (lo_5 h189 h123 h255 h270) | exact inI_s hI (sB_s (b := kM P N jb)) (ca_1 h219) (hi_n h123) (lo_6 h189 h123 h255 h270) | exact inI_s hI (sB_s (b := kM P N jb)) (ca_4 h219 h123 (fun y => h198 y.1)) (hi_n h123) (lo_3 h189 h123 (fun y => h198 y.1) h255 h270) | exact inI_s hI (sB_s (b := kM P N jb)) (ca_4 h219 h123 (fun y => h198 y.1)) (hi_n h123) (lo_4 h189 h123 (fun y => h198 y.1) h255 h270) | exact inI_s hI (sB_s (b := kM P N jb)) (ca_4 h219 h123 (fun y => h198 y.1)) (hi_n h123) (lo_5 h189 h123 h255 h270) | exact inI_s hI (sB_s (b := kM P N jb)) (ca_4 h219 h123 (fun y => h198 y.1)) (hi_n h123) (lo_6 h189 h123 h255 h270) | exact inI_s hI (sB_s (b := kM P N jb)) (ca_1 h219) (hi_n h123) (lo_3 h189 h123 (fun y => h207 y.2) h255 h270) | exact inI_s hI (sB_s (b := kM P N jb)) (ca_1 h219) (hi_n h123) (lo_4 h189 h123 (fun y => h207 y.2) h255 h270) | exact inI_s hI (sB_s (b := kM P N jb)) (ca_1 h219) (hi_n h123) (lo_5 h189 h123 h255 h270) | exact inI_s hI (sB_s (b := kM P N jb)) (ca_1 h219) (hi_n h123) (lo_6 h189 h123 h255 h270) | exact inI_s hI (sB_s (b := kM P N jb)) (ca_4 h219 h123 (fun y => h207 y.2)) (hi_n h123) (lo_3 h189 h123 (fun y => h207 y.2) h255 h270) | exact inI_s hI (sB_s (b := kM P N jb)) (ca_4 h219 h123 (fun y => h207 y.2)) (hi_n h123) (lo_4 h189 h123 (fun y => h207 y.2) h255 h270) | exact inI_s hI (sB_s (b := kM P N jb)) (ca_4 h219 h123 (fun y => h207 y.2)) (hi_n h123) (lo_5 h189 h123 h255 h270) | exact inI_s hI (sB_s (b := kM P N jb)) (ca_4 h219 h123 (fun y => h207 y.2)) (hi_n h123) (lo_6 h189 h123 h255 h270) | exact inI_s hI (sB_s (b := kM P N jb)) (ca_1 h219) (hi_n h123) (lo_b h198 h207) | exact inI_s hI (sB_s (b := kM P N jb)) (ca_5 h198 h207) (hi_n h123) (lo_b h198 h207)) hZ (lv_sub hl [0, 5, 6, 7, 1, 2, 8, 9, 10] rfl)
                  exact loop59b (zb + 1) 0 lo hi ca _ _ _ (Nat.zero_le zb) (by omega) (inI_k hI sB_0) hZ (lv_sub hl [0, 1, 2, 3, 4, 5, 6, 7, 8] rfl)
                · skip
                  have h42 : 1 = 0 := (nI_eq (a := 1) (b := 0) (by omega) (by omega)).mp h42
                  exact absurd h42 (by decide)
            · skip
              have h74 : (64 * ja + k) < ((64 * ja) + za) := Nat.lt_of_not_le (fun z9 => h74 ((nI_leI (a := ((64 * ja) + za)) (b := (64 * ja + k)) (by omega) (by omega)).mpr z9))
              refine lv_aload_n hx hb d_Mod_into_77 rfl (lv_at hl 6 rfl) ?_
              refine lv_iload_n hx hb d_Mod_into_78 rfl (lv_at hl 7 rfl) ?_
              refine lv_aload_n hx hb d_Mod_into_79 rfl (lv_at hl 6 rfl) ?_
              refine q_get (C := R_Mod) (T := T_Mod) (N := 10) hx hb hts (fun w h => gm (inT_Mod w h)) hown hK hZ (43) (by decide) hM.1 rfl 2 (by decide) (hts _ (gm k_422)) (fun _ h9 => h9) rfl d_Mod_into_80 ?_
              refine lv_iload hx hb d_Mod_into_83 (lv_at hl 0 rfl) ?_
              refine q_iald hx hb hK hZ (45) 0 ((64 * ja + k)) (by decide) hM.2.2.1 rfl rfl (by omega) (by decide) d_Mod_into_85 ?_
              refine lv_aload_n hx hb d_Mod_into_86 rfl (lv_at hl 6 rfl) ?_
              refine q_get (C := R_Mod) (T := T_Mod) (N := 10) hx hb hts (fun w h => gm (inT_Mod w h)) hown hK hZ (43) (by decide) hM.1 rfl 3 (by decide) (hts _ (gm k_423)) (fun _ h9 => h9) rfl d_Mod_into_87 ?_
              refine lv_iload hx hb d_Mod_into_90 (lv_at hl 0 rfl) ?_
              refine q_lald hx hb hK hZ (46) 1 ((64 * ja + k)) (by decide) hM.2.2.2.1 rfl rfl (by omega) (by decide) d_Mod_into_92 ?_
              refine q_calll (va_runV (As := [.int (nI ja), .int (P (64 * ja + k)), .long (N (64 * ja + k))]) (rest := []) ⟨hx, hb, hml, hown, hts⟩ (c_Mod_valueOf l dC dI cI cL cB ad N0 w88 (nI 0) mn P N A rm rP rN rA bd ja za (F ja) (P (64 * ja + k)) (N (64 * ja + k)) hM hja hza hmna hRa) (cwV 3 hts (gI_V k_485 k_482 k_484 k_10 k_24) rfl rfl rfl (by decide +kernel) ⟨Nat.le_of_ble_eq_true rfl, Nat.le_of_ble_eq_true rfl⟩) (q_preV hK hAm hZ hN [.int (nI ja), .int (P (64 * ja + k)), .long (N (64 * ja + k))] (43) 3 (by decide) hM.1 rfl) rfl rfl hl.1 rfl (lv_room (Nat.le_of_ble_eq_true rfl)) d_Mod_into_93 ⟨Nat.zero_le _, Nat.zero_le _⟩) hZ (fun t9 u_t9 H locs h_t9 hZ => ?_)
              obtain ⟨e_t9, h_t9⟩ := h_t9
              rw [e_t9] at hZ
              refine q_topl (y := F ja (kM P N ja k)) h_t9 ?_
              refine lv_lstore (lv' := [(11, .long (F ja (kM P N ja k))), (10, .int (nI (64 * ja + k))), (9, .int (nI ja)), (8, .int (nI 0)), (3, .long lo), (5, .long hi), (7, .int ca), (0, .ref (ad 43)), (1, .int (nI ja)), (2, .int (nI jb))]) hx hb d_Mod_into_96 hl (by decide) rfl (fun ls hl => ?_)
              refine lv_aload_n hx hb d_Mod_into_98 rfl (lv_at hl 7 rfl) ?_
              refine lv_iload_n hx hb d_Mod_into_99 rfl (lv_at hl 9 rfl) ?_
              refine lv_aload_n hx hb d_Mod_into_100 rfl (lv_at hl 7 rfl) ?_
              refine q_get (C := R_Mod) (T := T_Mod) (N := 10) hx hb hts (fun w h => gm (inT_Mod w h)) hown hK hZ (43) (by decide) hM.1 rfl 2 (by decide) (hts _ (gm k_422)) (fun _ h9 => h9) rfl d_Mod_into_101 ?_
              refine lv_iload hx hb d_Mod_into_104 (lv_at hl 1 rfl) ?_
              refine q_iald hx hb hK hZ (45) 0 ((64 * ja + k)) (by decide) hM.2.2.1 rfl rfl (by omega) (by decide) d_Mod_into_106 ?_
              refine lv_aload_n hx hb d_Mod_into_107 rfl (lv_at hl 7 rfl) ?_
              refine q_get (C := R_Mod) (T := T_Mod) (N := 10) hx hb hts (fun w h => gm (inT_Mod w h)) hown hK hZ (43) (by decide) hM.1 rfl 3 (by decide) (hts _ (gm k_423)) (fun _ h9 => h9) rfl d_Mod_into_108 ?_
              refine lv_iload hx hb d_Mod_into_111 (lv_at hl 1 rfl) ?_
              refine q_lald hx hb hK hZ (46) 1 ((64 * ja + k)) (by decide) hM.2.2.2.1 rfl rfl (by omega) (by decide) d_Mod_into_113 ?_
              refine q_calll (va_runV (As := [.int (nI jb), .int (P (64 * ja + k)), .long (N (64 * ja + k))]) (rest := []) ⟨hx, hb, hml, hown, hts⟩ (c_Mod_valueOf l dC dI cI cL cB ad N0 w88 (nI 0) mn P N A rm rP rN rA bd jb zb (F jb) (P (64 * ja + k)) (N (64 * ja + k)) hM hjb hzb hmnb hRb) (cwV 3 hts (gI_V k_485 k_482 k_484 k_10 k_24) rfl rfl rfl (by decide +kernel) ⟨Nat.le_of_ble_eq_true rfl, Nat.le_of_ble_eq_true rfl⟩) (q_preV hK hAm hZ hN [.int (nI jb), .int (P (64 * ja + k)), .long (N (64 * ja + k))] (43) 3 (by decide) hM.1 rfl) rfl rfl hl.1 rfl (lv_room (Nat.le_of_ble_eq_true rfl)) d_Mod_into_114 ⟨Nat.zero_le _, Nat.zero_le _⟩) hZ (fun t9 u_t9 H locs h_t9 hZ => ?_)
              obtain ⟨e_t9, h_t9⟩ := h_t9
              rw [e_t9] at hZ
              refine q_topl (y := F jb (kM P N ja k)) h_t9 ?_
              refine lv_lstore (lv' := [(13, .long (F jb (kM P N ja k))), (11, .long (F ja (kM P N ja k))), (10, .int (nI (64 * ja + k))), (9, .int (nI ja)), (8, .int (nI 0)), (3, .long lo), (5, .long hi), (7, .int ca), (0, .ref (ad 43)), (1, .int (nI ja)), (2, .int (nI jb))]) hx hb d_Mod_into_117 hl (by decide) rfl (fun ls hl => ?_)
              refine lv_lload hx hb d_Mod_into_119 (lv_at hl 0 rfl) ?_
              refine lv_lconst (v := 0) hx hb d_Mod_into_121 rfl ?_
              refine W.lcmp hx hb d_Mod_into_122 ?_
              refine lv_if_lt (tgt := 185) hx hb d_Mod_into_123 (by decide) (fun h123 => ?_) (fun h123 => ?_)
              · skip
                rw [lg_cmp_lt] at h123
                refine lv_lload hx hb d_Mod_into_185 (lv_at hl 1 rfl) ?_
                refine lv_lconst (v := 0) hx hb d_Mod_into_187 rfl ?_
                refine W.lcmp hx hb d_Mod_into_188 ?_
                refine lv_if_ge (tgt := 280) hx hb d_Mod_into_189 (by decide) (fun h189 => ?_) (fun h189 => ?_)
                · skip
                  rw [lg_cmp_ge] at h189
                  refine lv_iinc (v := (nI ((64 * ja + k) + 1))) (lv' := [(10, .int (nI ((64 * ja + k) + 1))), (13, .long (F jb (kM P N ja k))), (11, .long (F ja (kM P N ja k))), (9, .int (nI ja)), (8, .int (nI 0)), (3, .long lo), (5, .long hi), (7, .int ca), (0, .ref (ad 43)), (1, .int (nI ja)), (2, .int (nI jb))]) hx hb d_Mod_into_280 hl (k := 2) rfl (nI_1 _) (by decide) rfl (fun ls hl => ?_)
                  refine lv_goto (tgt := 59) hx hb d_Mod_into_283 (by decide) ?_
                  exact ih59a (k + 1) lo hi ca _ _ _ (by omega) (by omega) (by first | exact inI_s hI (sU_s (k := kM P N ja)) (ca_1 h128) (hi_1 h149) (lo_1 h123) | exact inI_s hI (sU_s (k := kM P N ja)) (ca_1 h128) (hi_2 h149 h156) (lo_1 h123) | exact inI_s hI (sU_s (k := kM P N ja)) (ca_1 h128) (hi_3 h149 h156 h167) (lo_1 h123) | exact inI_s hI (sU_s (k := kM P N ja)) (ca_1 h128) (hi_4 h149 h156 h167) (lo_1 h123) | exact inI_s hI (sU_s (k := kM P N ja)) (ca_2 h135 h123) (hi_1 h149) (lo_1 h123) | exact inI_s hI (sU_s (k := kM P N ja)) (ca_2 h135 h123) (hi_2 h149 h156) (lo_1 h123) | exact inI_s hI (sU_s (k := kM P N ja)) (ca_2 h135 h123) (hi_3 h149 h156 h167) (lo_1 h123) | exact inI_s hI (sU_s (k := kM P N ja)) (ca_2 h135 h123) (hi_4 h149 h156 h167) (lo_1 h123) | exact inI_s hI (sU_s (k := kM P N ja)) (ca_3 h128 h135 h123) (hi_1 h149) (lo_1 h123) | exact inI_s hI (sU_s (k := kM P N ja)) (ca_3 h128 h135 h123) (hi_2 h149 h156) (lo_1 h123) | exact inI_s hI (sU_s (k := kM P N ja)) (ca_3 h128 h135 h123) (hi_3 h149 h156 h167) (lo_1 h123) | exact inI_s hI (sU_s (k := kM P N ja)) (ca_3 h128 h135 h123) (hi_4 h149 h156 h167) (lo_1 h123) | exact inI_s hI (sU_s (k := kM P N ja)) (ca_k hI h123 h189) (hi_n h123) (lo_2 h189) | exact inI_s hI (sU_s (k := kM P N ja)) (ca_1 h219) (hi_n h123) (lo_3 h189 h123 (fun y => h198 y.1) h255 h270) | exact inI_s hI (sU_s (k := kM P N ja)) (ca_1 h219) (hi_n h123) (lo_4 h189 h123 (fun y => h198 y.1) h255 h270) | exact inI_s hI (sU_s (k := kM P N ja)) (ca_1 h219) (hi_n h123) (lo_5 h189 h123 h255 h270) | exact inI_s hI (sU_s (k := kM P N ja)) (ca_1 h219) (hi_n h123) (lo_6 h189 h123 h255 h270) | exact inI_s hI (sU_s (k := kM P N ja)) (ca_4 h219 h123 (fun y => h198 y.1)) (hi_n h123) (lo_3 h189 h123 (fun y => h198 y.1) h255 h270) | exact inI_s hI (sU_s (k := kM P N ja)) (ca_4 h219 h123 (fun y => h198 y.1)) (hi_n h123) (lo_4 h189 h123 (fun y => h198 y.1) h255 h270) | exact inI_s hI (sU_s (k := kM P N ja)) (ca_4 h219 h123 (fun y => h198 y.1)) (hi_n h123) (lo_5 h189 h123 h255 h270) | exact inI_s hI (sU_s (k := kM P N ja)) (ca_4 h219 h123 (fun y => h198 y.1)) (hi_n h123) (lo_6 h189 h123 h255 h270) | exact inI_s hI (sU_s (k := kM P N ja)) (ca_1 h219) (hi_n h123) (lo_3 h189 h123 (fun y => h207 y.2) h255 h270) | exact inI_s hI (sU_s (k := kM P N ja)) (ca_1 h219) (hi_n h123) (lo_4 h189 h123 (fun y => h207 y.2) h255 h270) | exact inI_s hI (sU_s (k := kM P N ja)) (ca_1 h219) (hi_n h123) (lo_5 h189 h123 h255 h270) | exact inI_s hI (sU_s (k := kM P N ja)) (ca_1 h219) (hi_n h123) (lo_6 h189 h123 h255 h270) | exact inI_s hI (sU_s (k := kM P N ja)) (ca_4 h219 h123 (fun y => h207 y.2)) (hi_n h123) (lo_3 h189 h123 (fun y => h207 y.2) h255 h270) | exact inI_s hI (sU_s (k := kM P N ja)) (ca_4 h219 h123 (fun y => h207 y.2)) (hi_n h123) (lo_4 h189 h123 (fun y => h207 y.2) h255 h270) | exact inI_s hI (sU_s (k := kM P N ja)) (ca_4 h219 h123 (fun y => h207 y.2)) (hi_n h123) (lo_5 h189 h123 h255 h270) | exact inI_s hI (sU_s (k := kM P N ja)) (ca_4 h219 h123 (fun y => h207 y.2)) (hi_n h123) (lo_6 h189 h123 h255 h270) | exact inI_s hI (sU_s (k := kM P N ja)) (ca_1 h219) (hi_n h123) (lo_b h198 h207) | exact inI_s hI (sU_s (k := kM P N ja)) (ca_5 h198 h207) (hi_n h123) (lo_b h198 h207)) hZ (lv_sub hl [0, 3, 4, 5, 6, 7, 8, 9, 10] rfl)
                · skip
                  rw [lg_cmp_ge] at h189
                  refine lv_lload hx hb d_Mod_into_192 (lv_at hl 1 rfl) ?_
                  refine lv_ldc2 (v := (-9223372036854775808)) hx hb hown (hts _ (gm k_491)) d_Mod_into_194 ?_
                  refine W.lcmp hx hb d_Mod_into_197 ?_
                  refine lv_if_ne (tgt := 214) hx hb d_Mod_into_198 (by decide) (fun h198 => ?_) (fun h198 => ?_)
                  · skip
                    rw [lg_cmp_eq] at h198
                    refine lv_iconst (v := (nI 0)) hx hb d_Mod_into_214 rfl ?_
                    refine lv_istore (lv' := [(15, .int (nI 0)), (13, .long (F jb (kM P N ja k))), (11, .long (F ja (kM P N ja k))), (10, .int (nI (64 * ja + k))), (9, .int (nI ja)), (8, .int (nI 0)), (3, .long lo), (5, .long hi), (7, .int ca), (0, .ref (ad 43)), (1, .int (nI ja)), (2, .int (nI jb))]) hx hb d_Mod_into_215 hl (by decide) rfl (fun ls hl => ?_)
                    refine lv_iload hx hb d_Mod_into_217 (lv_at hl 8 rfl) ?_
                    refine lv_if_eq (tgt := 231) hx hb d_Mod_into_219 (by decide) (fun h219 => ?_) (fun h219 => ?_)
                    · skip
                      refine lv_iconst (v := (nI 0)) hx hb d_Mod_into_231 rfl ?_
                      refine lv_istore (lv' := [(7, .int (nI 0)), (15, .int (nI 0)), (13, .long (F jb (kM P N ja k))), (11, .long (F ja (kM P N ja k))), (10, .int (nI (64 * ja + k))), (9, .int (nI ja)), (8, .int (nI 0)), (3, .long lo), (5, .long hi), (0, .ref (ad 43)), (1, .int (nI ja)), (2, .int (nI jb))]) hx hb d_Mod_into_232 hl (by decide) rfl (fun ls hl => ?_)
                      refine lv_iload hx hb d_Mod_into_234 (lv_at hl 1 rfl) ?_
                      refine lv_if_eq (tgt := 243) hx hb d_Mod_into_236 (by decide) (fun h236 => ?_) (fun h236 => ?_)
                      · skip
                        have h236 : 0 = 0 := (nI_eq (a := 0) (b := 0) (by omega) (by omega)).mp h236
                        refine lv_lload hx hb d_Mod_into_243 (lv_at hl 3 rfl) ?_
                        refine lv_lload hx hb d_Mod_into_245 (lv_at hl 2 rfl) ?_
                        refine lv_ldiv hx hb d_Mod_into_247 (i64_l0 h123) ?_
                        refine lv_lload hx hb d_Mod_into_248 (lv_at hl 3 rfl) ?_
                        refine lv_lload hx hb d_Mod_into_250 (lv_at hl 2 rfl) ?_
                        refine lv_lrem hx hb d_Mod_into_252 (i64_l0 h123) ?_
                        refine lv_lconst (v := 0) hx hb d_Mod_into_253 rfl ?_
                        refine W.lcmp hx hb d_Mod_into_254 ?_
                        refine lv_if_eq (tgt := 262) hx hb d_Mod_into_255 (by decide) (fun h255 => ?_) (fun h255 => ?_)
                        · skip
                          rw [lg_cmp_eq] at h255
                          refine lv_lconst (v := 0) hx hb d_Mod_into_262 rfl ?_
                          refine lv_ladd hx hb d_Mod_into_263 ?_
                          refine lv_lstore (lv' := [(16, .long (((F ja (kM P N ja k)) / (F jb (kM P N ja k))) + 0)), (7, .int (nI 0)), (15, .int (nI 0)), (13, .long (F jb (kM P N ja k))), (11, .long (F ja (kM P N ja k))), (10, .int (nI (64 * ja + k))), (9, .int (nI ja)), (8, .int (nI 0)), (3, .long lo), (5, .long hi), (0, .ref (ad 43)), (1, .int (nI ja)), (2, .int (nI jb))]) hx hb d_Mod_into_264 hl (by decide) rfl (fun ls hl => ?_)
                          refine lv_lload hx hb d_Mod_into_266 (lv_at hl 0 rfl) ?_
                          refine lv_lload_n hx hb d_Mod_into_268 rfl (lv_at hl 8 rfl) ?_
                          refine W.lcmp hx hb d_Mod_into_269 ?_
                          refine lv_if_le (tgt := 278) hx hb d_Mod_into_270 (by decide) (fun h270 => ?_) (fun h270 => ?_)
                          · skip
                            rw [lg_cmp_le] at h270
                            refine lv_lload_n hx hb d_Mod_into_278 rfl (lv_at hl 8 rfl) ?_
                            refine lv_lstore_n (lv' := [(3, .long lo), (16, .long (((F ja (kM P N ja k)) / (F jb (kM P N ja k))) + 0)), (7, .int (nI 0)), (15, .int (nI 0)), (13, .long (F jb (kM P N ja k))), (11, .long (F ja (kM P N ja k))), (10, .int (nI (64 * ja + k))), (9, .int (nI ja)), (8, .int (nI 0)), (5, .long hi), (0, .ref (ad 43)), (1, .int (nI ja)), (2, .int (nI jb))]) hx hb d_Mod_into_279 rfl hl (by decide) rfl (fun ls hl => ?_)
                            refine lv_iinc (v := (nI ((64 * ja + k) + 1))) (lv' := [(10, .int (nI ((64 * ja + k) + 1))), (3, .long lo), (16, .long (((F ja (kM P N ja k)) / (F jb (kM P N ja k))) + 0)), (7, .int (nI 0)), (15, .int (nI 0)), (13, .long (F jb (kM P N ja k))), (11, .long (F ja (kM P N ja k))), (9, .int (nI ja)), (8, .int (nI 0)), (5, .long hi), (0, .ref (ad 43)), (1, .int (nI ja)), (2, .int (nI jb))]) hx hb d_Mod_into_280 hl (k := 6) rfl (nI_1 _) (by decide) rfl (fun ls hl => ?_)
                            refine lv_goto (tgt := 59) hx hb d_Mod_into_283 (by decide) ?_
                            exact ih59a (k + 1) lo hi (nI 0) _ _ _ (by omega) (by omega) (by first | exact inI_s hI (sU_s (k := kM P N ja)) (ca_1 h128) (hi_1 h149) (lo_1 h123) | exact inI_s hI (sU_s (k := kM P N ja)) (ca_1 h128) (hi_2 h149 h156) (lo_1 h123) | exact inI_s hI (sU_s (k := kM P N ja)) (ca_1 h128) (hi_3 h149 h156 h167) (lo_1 h123) | exact inI_s hI (sU_s (k := kM P N ja)) (ca_1 h128) (hi_4 h149 h156 h167) (lo_1 h123) | exact inI_s hI (sU_s (k := kM P N ja)) (ca_2 h135 h123) (hi_1 h149) (lo_1 h123) | exact inI_s hI (sU_s (k := kM P N ja)) (ca_2 h135 h123) (hi_2 h149 h156) (lo_1 h123) | exact inI_s hI (sU_s (k := kM P N ja)) (ca_2 h135 h123) (hi_3 h149 h156 h167) (lo_1 h123) | exact inI_s hI (sU_s (k := kM P N ja)) (ca_2 h135 h123) (hi_4 h149 h156 h167) (lo_1 h123) | exact inI_s hI (sU_s (k := kM P N ja)) (ca_3 h128 h135 h123) (hi_1 h149) (lo_1 h123) | exact inI_s hI (sU_s (k := kM P N ja)) (ca_3 h128 h135 h123) (hi_2 h149 h156) (lo_1 h123) | exact inI_s hI (sU_s (k := kM P N ja)) (ca_3 h128 h135 h123) (hi_3 h149 h156 h167) (lo_1 h123) | exact inI_s hI (sU_s (k := kM P N ja)) (ca_3 h128 h135 h123) (hi_4 h149 h156 h167) (lo_1 h123) | exact inI_s hI (sU_s (k := kM P N ja)) (ca_k hI h123 h189) (hi_n h123) (lo_2 h189) | exact inI_s hI (sU_s (k := kM P N ja)) (ca_1 h219) (hi_n h123) (lo_3 h189 h123 (fun y => h198 y.1) h255 h270) | exact inI_s hI (sU_s (k := kM P N ja)) (ca_1 h219) (hi_n h123) (lo_4 h189 h123 (fun y => h198 y.1) h255 h270) | exact inI_s hI (sU_s (k := kM P N ja)) (ca_1 h219) (hi_n h123) (lo_5 h189 h123 h255 h270) | exact inI_s hI (sU_s (k := kM P N ja)) (ca_1 h219) (hi_n h123) (lo_6 h189 h123 h255 h270) | exact inI_s hI (sU_s (k := kM P N ja)) (ca_4 h219 h123 (fun y => h198 y.1)) (hi_n h123) (lo_3 h189 h123 (fun y => h198 y.1) h255 h270) | exact inI_s hI (sU_s (k := kM P N ja)) (ca_4 h219 h123 (fun y => h198 y.1)) (hi_n h123) (lo_4 h189 h123 (fun y => h198 y.1) h255 h270) | exact inI_s hI (sU_s (k := kM P N ja)) (ca_4 h219 h123 (fun y => h198 y.1)) (hi_n h123) (lo_5 h189 h123 h255 h270) | exact inI_s hI (sU_s (k := kM P N ja)) (ca_4 h219 h123 (fun y => h198 y.1)) (hi_n h123) (lo_6 h189 h123 h255 h270) | exact inI_s hI (sU_s (k := kM P N ja)) (ca_1 h219) (hi_n h123) (lo_3 h189 h123 (fun y => h207 y.2) h255 h270) | exact inI_s hI (sU_s (k := kM P N ja)) (ca_1 h219) (hi_n h123) (lo_4 h189 h123 (fun y => h207 y.2) h255 h270) | exact inI_s hI (sU_s (k := kM P N ja)) (ca_1 h219) (hi_n h123) (lo_5 h189 h123 h255 h270) | exact inI_s hI (sU_s (k := kM P N ja)) (ca_1 h219) (hi_n h123) (lo_6 h189 h123 h255 h270) | exact inI_s hI (sU_s (k := kM P N ja)) (ca_4 h219 h123 (fun y => h207 y.2)) (hi_n h123) (lo_3 h189 h123 (fun y => h207 y.2) h255 h270) | exact inI_s hI (sU_s (k := kM P N ja)) (ca_4 h219 h123 (fun y => h207 y.2)) (hi_n h123) (lo_4 h189 h123 (fun y => h207 y.2) h255 h270) | exact inI_s hI (sU_s (k := kM P N ja)) (ca_4 h219 h123 (fun y => h207 y.2)) (hi_n h123) (lo_5 h189 h123 h255 h270) | exact inI_s hI (sU_s (k := kM P N ja)) (ca_4 h219 h123 (fun y => h207 y.2)) (hi_n h123) (lo_6 h189 h123 h255 h270) | exact inI_s hI (sU_s (k := kM P N ja)) (ca_1 h219) (hi_n h123) (lo_b h198 h207) | exact inI_s hI (sU_s (k := kM P N ja)) (ca_5 h198 h207) (hi_n h123) (lo_b h198 h207)) hZ (lv_sub hl [0, 7, 8, 1, 9, 3, 10, 11, 12] rfl)
                          · skip
                            rw [lg_cmp_le] at h270
                            refine lv_lload hx hb d_Mod_into_273 (lv_at hl 0 rfl) ?_
                            refine lv_goto (tgt := 279) hx hb d_Mod_into_275 (by decide) ?_
                            refine lv_lstore_n (lv' := [(3, .long (((F ja (kM P N ja k)) / (F jb (kM P N ja k))) + 0)), (16, .long (((F ja (kM P N ja k)) / (F jb (kM P N ja k))) + 0)), (7, .int (nI 0)), (15, .int (nI 0)), (13, .long (F jb (kM P N ja k))), (11, .long (F ja (kM P N ja k))), (10, .int (nI (64 * ja + k))), (9, .int (nI ja)), (8, .int (nI 0)), (5, .long hi), (0, .ref (ad 43)), (1, .int (nI ja)), (2, .int (nI jb))]) hx hb d_Mod_into_279 rfl hl (by decide) rfl (fun ls hl => ?_)
                            refine lv_iinc (v := (nI ((64 * ja + k) + 1))) (lv' := [(10, .int (nI ((64 * ja + k) + 1))), (3, .long (((F ja (kM P N ja k)) / (F jb (kM P N ja k))) + 0)), (16, .long (((F ja (kM P N ja k)) / (F jb (kM P N ja k))) + 0)), (7, .int (nI 0)), (15, .int (nI 0)), (13, .long (F jb (kM P N ja k))), (11, .long (F ja (kM P N ja k))), (9, .int (nI ja)), (8, .int (nI 0)), (5, .long hi), (0, .ref (ad 43)), (1, .int (nI ja)), (2, .int (nI jb))]) hx hb d_Mod_into_280 hl (k := 6) rfl (nI_1 _) (by decide) rfl (fun ls hl => ?_)
                            refine lv_goto (tgt := 59) hx hb d_Mod_into_283 (by decide) ?_
                            exact ih59a (k + 1) (((F ja (kM P N ja k)) / (F jb (kM P N ja k))) + 0) hi (nI 0) _ _ _ (by omega) (by omega) (by first | exact inI_s hI (sU_s (k := kM P N ja)) (ca_1 h128) (hi_1 h149) (lo_1 h123) | exact inI_s hI (sU_s (k := kM P N ja)) (ca_1 h128) (hi_2 h149 h156) (lo_1 h123) | exact inI_s hI (sU_s (k := kM P N ja)) (ca_1 h128) (hi_3 h149 h156 h167) (lo_1 h123) | exact inI_s hI (sU_s (k := kM P N ja)) (ca_1 h128) (hi_4 h149 h156 h167) (lo_1 h123) | exact inI_s hI (sU_s (k := kM P N ja)) (ca_2 h135 h123) (hi_1 h149) (lo_1 h123) | exact inI_s hI (sU_s (k := kM P N ja)) (ca_2 h135 h123) (hi_2 h149 h156) (lo_1 h123) | exact inI_s hI (sU_s (k := kM P N ja)) (ca_2 h135 h123) (hi_3 h149 h156 h167) (lo_1 h123) | exact inI_s hI (sU_s (k := kM P N ja)) (ca_2 h135 h123) (hi_4 h149 h156 h167) (lo_1 h123) | exact inI_s hI (sU_s (k := kM P N ja)) (ca_3 h128 h135 h123) (hi_1 h149) (lo_1 h123) | exact inI_s hI (sU_s (k := kM P N ja)) (ca_3 h128 h135 h123) (hi_2 h149 h156) (lo_1 h123) | exact inI_s hI (sU_s (k := kM P N ja)) (ca_3 h128 h135 h123) (hi_3 h149 h156 h167) (lo_1 h123) | exact inI_s hI (sU_s (k := kM P N ja)) (ca_3 h128 h135 h123) (hi_4 h149 h156 h167) (lo_1 h123) | exact inI_s hI (sU_s (k := kM P N ja)) (ca_k hI h123 h189) (hi_n h123) (lo_2 h189) | exact inI_s hI (sU_s (k := kM P N ja)) (ca_1 h219) (hi_n h123) (lo_3 h189 h123 (fun y => h198 y.1) h255 h270) | exact inI_s hI (sU_s (k := kM P N ja)) (ca_1 h219) (hi_n h123) (lo_4 h189 h123 (fun y => h198 y.1) h255 h270) | exact inI_s hI (sU_s (k := kM P N ja)) (ca_1 h219) (hi_n h123) (lo_5 h189 h123 h255 h270) | exact inI_s hI (sU_s (k := kM P N ja)) (ca_1 h219) (hi_n h123) (lo_6 h189 h123 h255 h270) | exact inI_s hI (sU_s (k := kM P N ja)) (ca_4 h219 h123 (fun y => h198 y.1)) (hi_n h123) (lo_3 h189 h123 (fun y => h198 y.1) h255 h270) | exact inI_s hI (sU_s (k := kM P N ja)) (ca_4 h219 h123 (fun y => h198 y.1)) (hi_n h123) (lo_4 h189 h123 (fun y => h198 y.1) h255 h270) | exact inI_s hI (sU_s (k := kM P N ja)) (ca_4 h219 h123 (fun y => h198 y.1)) (hi_n h123) (lo_5 h189 h123 h255 h270) | exact inI_s hI (sU_s (k := kM P N ja)) (ca_4 h219 h123 (fun y => h198 y.1)) (hi_n h123) (lo_6 h189 h123 h255 h270) | exact inI_s hI (sU_s (k := kM P N ja)) (ca_1 h219) (hi_n h123) (lo_3 h189 h123 (fun y => h207 y.2) h255 h270) | exact inI_s hI (sU_s (k := kM P N ja)) (ca_1 h219) (hi_n h123) (lo_4 h189 h123 (fun y => h207 y.2) h255 h270) | exact inI_s hI (sU_s (k := kM P N ja)) (ca_1 h219) (hi_n h123) (lo_5 h189 h123 h255 h270) | exact inI_s hI (sU_s (k := kM P N ja)) (ca_1 h219) (hi_n h123) (lo_6 h189 h123 h255 h270) | exact inI_s hI (sU_s (k := kM P N ja)) (ca_4 h219 h123 (fun y => h207 y.2)) (hi_n h123) (lo_3 h189 h123 (fun y => h207 y.2) h255 h270) | exact inI_s hI (sU_s (k := kM P N ja)) (ca_4 h219 h123 (fun y => h207 y.2)) (hi_n h123) (lo_4 h189 h123 (fun y => h207 y.2) h255 h270) | exact inI_s hI (sU_s (k := kM P N ja)) (ca_4 h219 h123 (fun y => h207 y.2)) (hi_n h123) (lo_5 h189 h123 h255 h270) | exact inI_s hI (sU_s (k := kM P N ja)) (ca_4 h219 h123 (fun y => h207 y.2)) (hi_n h123) (lo_6 h189 h123 h255 h270) | exact inI_s hI (sU_s (k := kM P N ja)) (ca_1 h219) (hi_n h123) (lo_b h198 h207) | exact inI_s hI (sU_s (k := kM P N ja)) (ca_5 h198 h207) (hi_n h123) (lo_b h198 h207)) hZ (lv_sub hl [0, 7, 8, 1, 9, 3, 10, 11, 12] rfl)
                        · skip
                          rw [lg_cmp_eq] at h255
                          refine lv_lconst (v := 1) hx hb d_Mod_into_258 rfl ?_
                          refine lv_goto (tgt := 263) hx hb d_Mod_into_259 (by decide) ?_
                          refine lv_ladd hx hb d_Mod_into_263 ?_
                          refine lv_lstore (lv' := [(16, .long (((F ja (kM P N ja k)) / (F jb (kM P N ja k))) + 1)), (7, .int (nI 0)), (15, .int (nI 0)), (13, .long (F jb (kM P N ja k))), (11, .long (F ja (kM P N ja k))), (10, .int (nI (64 * ja + k))), (9, .int (nI ja)), (8, .int (nI 0)), (3, .long lo), (5, .long hi), (0, .ref (ad 43)), (1, .int (nI ja)), (2, .int (nI jb))]) hx hb d_Mod_into_264 hl (by decide) rfl (fun ls hl => ?_)
                          refine lv_lload hx hb d_Mod_into_266 (lv_at hl 0 rfl) ?_
                          refine lv_lload_n hx hb d_Mod_into_268 rfl (lv_at hl 8 rfl) ?_
                          refine W.lcmp hx hb d_Mod_into_269 ?_
                          refine lv_if_le (tgt := 278) hx hb d_Mod_into_270 (by decide) (fun h270 => ?_) (fun h270 => ?_)
                          · skip
                            rw [lg_cmp_le] at h270
                            refine lv_lload_n hx hb d_Mod_into_278 rfl (lv_at hl 8 rfl) ?_
                            refine lv_lstore_n (lv' := [(3, .long lo), (16, .long (((F ja (kM P N ja k)) / (F jb (kM P N ja k))) + 1)), (7, .int (nI 0)), (15, .int (nI 0)), (13, .long (F jb (kM P N ja k))), (11, .long (F ja (kM P N ja k))), (10, .int (nI (64 * ja + k))), (9, .int (nI ja)), (8, .int (nI 0)), (5, .long hi), (0, .ref (ad 43)), (1, .int (nI ja)), (2, .int (nI jb))]) hx hb d_Mod_into_279 rfl hl (by decide) rfl (fun ls hl => ?_)
                            refine lv_iinc (v := (nI ((64 * ja + k) + 1))) (lv' := [(10, .int (nI ((64 * ja + k) + 1))), (3, .long lo), (16, .long (((F ja (kM P N ja k)) / (F jb (kM P N ja k))) + 1)), (7, .int (nI 0)), (15, .int (nI 0)), (13, .long (F jb (kM P N ja k))), (11, .long (F ja (kM P N ja k))), (9, .int (nI ja)), (8, .int (nI 0)), (5, .long hi), (0, .ref (ad 43)), (1, .int (nI ja)), (2, .int (nI jb))]) hx hb d_Mod_into_280 hl (k := 6) rfl (nI_1 _) (by decide) rfl (fun ls hl => ?_)
                            refine lv_goto (tgt := 59) hx hb d_Mod_into_283 (by decide) ?_
                            exact ih59a (k + 1) lo hi (nI 0) _ _ _ (by omega) (by omega) (by first | exact inI_s hI (sU_s (k := kM P N ja)) (ca_1 h128) (hi_1 h149) (lo_1 h123) | exact inI_s hI (sU_s (k := kM P N ja)) (ca_1 h128) (hi_2 h149 h156) (lo_1 h123) | exact inI_s hI (sU_s (k := kM P N ja)) (ca_1 h128) (hi_3 h149 h156 h167) (lo_1 h123) | exact inI_s hI (sU_s (k := kM P N ja)) (ca_1 h128) (hi_4 h149 h156 h167) (lo_1 h123) | exact inI_s hI (sU_s (k := kM P N ja)) (ca_2 h135 h123) (hi_1 h149) (lo_1 h123) | exact inI_s hI (sU_s (k := kM P N ja)) (ca_2 h135 h123) (hi_2 h149 h156) (lo_1 h123) | exact inI_s hI (sU_s (k := kM P N ja)) (ca_2 h135 h123) (hi_3 h149 h156 h167) (lo_1 h123) | exact inI_s hI (sU_s (k := kM P N ja)) (ca_2 h135 h123) (hi_4 h149 h156 h167) (lo_1 h123) | exact inI_s hI (sU_s (k := kM P N ja)) (ca_3 h128 h135 h123) (hi_1 h149) (lo_1 h123) | exact inI_s hI (sU_s (k := kM P N ja)) (ca_3 h128 h135 h123) (hi_2 h149 h156) (lo_1 h123) | exact inI_s hI (sU_s (k := kM P N ja)) (ca_3 h128 h135 h123) (hi_3 h149 h156 h167) (lo_1 h123) | exact inI_s hI (sU_s (k := kM P N ja)) (ca_3 h128 h135 h123) (hi_4 h149 h156 h167) (lo_1 h123) | exact inI_s hI (sU_s (k := kM P N ja)) (ca_k hI h123 h189) (hi_n h123) (lo_2 h189) | exact inI_s hI (sU_s (k := kM P N ja)) (ca_1 h219) (hi_n h123) (lo_3 h189 h123 (fun y => h198 y.1) h255 h270) | exact inI_s hI (sU_s (k := kM P N ja)) (ca_1 h219) (hi_n h123) (lo_4 h189 h123 (fun y => h198 y.1) h255 h270) | exact inI_s hI (sU_s (k := kM P N ja)) (ca_1 h219) (hi_n h123) (lo_5 h189 h123 h255 h270) | exact inI_s hI (sU_s (k := kM P N ja)) (ca_1 h219) (hi_n h123) (lo_6 h189 h123 h255 h270) | exact inI_s hI (sU_s (k := kM P N ja)) (ca_4 h219 h123 (fun y => h198 y.1)) (hi_n h123) (lo_3 h189 h123 (fun y => h198 y.1) h255 h270) | exact inI_s hI (sU_s (k := kM P N ja)) (ca_4 h219 h123 (fun y => h198 y.1)) (hi_n h123) (lo_4 h189 h123 (fun y => h198 y.1) h255 h270) | exact inI_s hI (sU_s (k := kM P N ja)) (ca_4 h219 h123 (fun y => h198 y.1)) (hi_n h123) (lo_5 h189 h123 h255 h270) | exact inI_s hI (sU_s (k := kM P N ja)) (ca_4 h219 h123 (fun y => h198 y.1)) (hi_n h123) (lo_6 h189 h123 h255 h270) | exact inI_s hI (sU_s (k := kM P N ja)) (ca_1 h219) (hi_n h123) (lo_3 h189 h123 (fun y => h207 y.2) h255 h270) | exact inI_s hI (sU_s (k := kM P N ja)) (ca_1 h219) (hi_n h123) (lo_4 h189 h123 (fun y => h207 y.2) h255 h270) | exact inI_s hI (sU_s (k := kM P N ja)) (ca_1 h219) (hi_n h123) (lo_5 h189 h123 h255 h270) | exact inI_s hI (sU_s (k := kM P N ja)) (ca_1 h219) (hi_n h123) (lo_6 h189 h123 h255 h270) | exact inI_s hI (sU_s (k := kM P N ja)) (ca_4 h219 h123 (fun y => h207 y.2)) (hi_n h123) (lo_3 h189 h123 (fun y => h207 y.2) h255 h270) | exact inI_s hI (sU_s (k := kM P N ja)) (ca_4 h219 h123 (fun y => h207 y.2)) (hi_n h123) (lo_4 h189 h123 (fun y => h207 y.2) h255 h270) | exact inI_s hI (sU_s (k := kM P N ja)) (ca_4 h219 h123 (fun y => h207 y.2)) (hi_n h123) (lo_5 h189 h123 h255 h270) | exact inI_s hI (sU_s (k := kM P N ja)) (ca_4 h219 h123 (fun y => h207 y.2)) (hi_n h123) (lo_6 h189 h123 h255 h270) | exact inI_s hI (sU_s (k := kM P N ja)) (ca_1 h219) (hi_n h123) (lo_b h198 h207) | exact inI_s hI (sU_s (k := kM P N ja)) (ca_5 h198 h207) (hi_n h123) (lo_b h198 h207)) hZ (lv_sub hl [0, 7, 8, 1, 9, 3, 10, 11, 12] rfl)
                          · skip
                            rw [lg_cmp_le] at h270
                            refine lv_lload hx hb d_Mod_into_273 (lv_at hl 0 rfl) ?_
                            refine lv_goto (tgt := 279) hx hb d_Mod_into_275 (by decide) ?_
                            refine lv_lstore_n (lv' := [(3, .long (((F ja (kM P N ja k)) / (F jb (kM P N ja k))) + 1)), (16, .long (((F ja (kM P N ja k)) / (F jb (kM P N ja k))) + 1)), (7, .int (nI 0)), (15, .int (nI 0)), (13, .long (F jb (kM P N ja k))), (11, .long (F ja (kM P N ja k))), (10, .int (nI (64 * ja + k))), (9, .int (nI ja)), (8, .int (nI 0)), (5, .long hi), (0, .ref (ad 43)), (1, .int (nI ja)), (2, .int (nI jb))]) hx hb d_Mod_into_279 rfl hl (by decide) rfl (fun ls hl => ?_)
                            refine lv_iinc (v := (nI ((64 * ja + k) + 1))) (lv' := [(10, .int (nI ((64 * ja + k) + 1))), (3, .long (((F ja (kM P N ja k)) / (F jb (kM P N ja k))) + 1)), (16, .long (((F ja (kM P N ja k)) / (F jb (kM P N ja k))) + 1)), (7, .int (nI 0)), (15, .int (nI 0)), (13, .long (F jb (kM P N ja k))), (11, .long (F ja (kM P N ja k))), (9, .int (nI ja)), (8, .int (nI 0)), (5, .long hi), (0, .ref (ad 43)), (1, .int (nI ja)), (2, .int (nI jb))]) hx hb d_Mod_into_280 hl (k := 6) rfl (nI_1 _) (by decide) rfl (fun ls hl => ?_)
                            refine lv_goto (tgt := 59) hx hb d_Mod_into_283 (by decide) ?_
                            exact ih59a (k + 1) (((F ja (kM P N ja k)) / (F jb (kM P N ja k))) + 1) hi (nI 0) _ _ _ (by omega) (by omega) (by first | exact inI_s hI (sU_s (k := kM P N ja)) (ca_1 h128) (hi_1 h149) (lo_1 h123) | exact inI_s hI (sU_s (k := kM P N ja)) (ca_1 h128) (hi_2 h149 h156) (lo_1 h123) | exact inI_s hI (sU_s (k := kM P N ja)) (ca_1 h128) (hi_3 h149 h156 h167) (lo_1 h123) | exact inI_s hI (sU_s (k := kM P N ja)) (ca_1 h128) (hi_4 h149 h156 h167) (lo_1 h123) | exact inI_s hI (sU_s (k := kM P N ja)) (ca_2 h135 h123) (hi_1 h149) (lo_1 h123) | exact inI_s hI (sU_s (k := kM P N ja)) (ca_2 h135 h123) (hi_2 h149 h156) (lo_1 h123) | exact inI_s hI (sU_s (k := kM P N ja)) (ca_2 h135 h123) (hi_3 h149 h156 h167) (lo_1 h123) | exact inI_s hI (sU_s (k := kM P N ja)) (ca_2 h135 h123) (hi_4 h149 h156 h167) (lo_1 h123) | exact inI_s hI (sU_s (k := kM P N ja)) (ca_3 h128 h135 h123) (hi_1 h149) (lo_1 h123) | exact inI_s hI (sU_s (k := kM P N ja)) (ca_3 h128 h135 h123) (hi_2 h149 h156) (lo_1 h123) | exact inI_s hI (sU_s (k := kM P N ja)) (ca_3 h128 h135 h123) (hi_3 h149 h156 h167) (lo_1 h123) | exact inI_s hI (sU_s (k := kM P N ja)) (ca_3 h128 h135 h123) (hi_4 h149 h156 h167) (lo_1 h123) | exact inI_s hI (sU_s (k := kM P N ja)) (ca_k hI h123 h189) (hi_n h123) (lo_2 h189) | exact inI_s hI (sU_s (k := kM P N ja)) (ca_1 h219) (hi_n h123) (lo_3 h189 h123 (fun y => h198 y.1) h255 h270) | exact inI_s hI (sU_s (k := kM P N ja)) (ca_1 h219) (hi_n h123) (lo_4 h189 h123 (fun y => h198 y.1) h255 h270) | exact inI_s hI (sU_s (k := kM P N ja)) (ca_1 h219) (hi_n h123) (lo_5 h189 h123 h255 h270) | exact inI_s hI (sU_s (k := kM P N ja)) (ca_1 h219) (hi_n h123) (lo_6 h189 h123 h255 h270) | exact inI_s hI (sU_s (k := kM P N ja)) (ca_4 h219 h123 (fun y => h198 y.1)) (hi_n h123) (lo_3 h189 h123 (fun y => h198 y.1) h255 h270) | exact inI_s hI (sU_s (k := kM P N ja)) (ca_4 h219 h123 (fun y => h198 y.1)) (hi_n h123) (lo_4 h189 h123 (fun y => h198 y.1) h255 h270) | exact inI_s hI (sU_s (k := kM P N ja)) (ca_4 h219 h123 (fun y => h198 y.1)) (hi_n h123) (lo_5 h189 h123 h255 h270) | exact inI_s hI (sU_s (k := kM P N ja)) (ca_4 h219 h123 (fun y => h198 y.1)) (hi_n h123) (lo_6 h189 h123 h255 h270) | exact inI_s hI (sU_s (k := kM P N ja)) (ca_1 h219) (hi_n h123) (lo_3 h189 h123 (fun y => h207 y.2) h255 h270) | exact inI_s hI (sU_s (k := kM P N ja)) (ca_1 h219) (hi_n h123) (lo_4 h189 h123 (fun y => h207 y.2) h255 h270) | exact inI_s hI (sU_s (k := kM P N ja)) (ca_1 h219) (hi_n h123) (lo_5 h189 h123 h255 h270) | exact inI_s hI (sU_s (k := kM P N ja)) (ca_1 h219) (hi_n h123) (lo_6 h189 h123 h255 h270) | exact inI_s hI (sU_s (k := kM P N ja)) (ca_4 h219 h123 (fun y => h207 y.2)) (hi_n h123) (lo_3 h189 h123 (fun y => h207 y.2) h255 h270) | exact inI_s hI (sU_s (k := kM P N ja)) (ca_4 h219 h123 (fun y => h207 y.2)) (hi_n h123) (lo_4 h189 h123 (fun y => h207 y.2) h255 h270) | exact inI_s hI (sU_s (k := kM P N ja)) (ca_4 h219 h123 (fun y => h207 y.2)) (hi_n h123) (lo_5 h189 h123 h255 h270) | exact inI_s hI (sU_s (k := kM P N ja)) (ca_4 h219 h123 (fun y => h207 y.2)) (hi_n h123) (lo_6 h189 h123 h255 h270) | exact inI_s hI (sU_s (k := kM P N ja)) (ca_1 h219) (hi_n h123) (lo_b h198 h207) | exact inI_s hI (sU_s (k := kM P N ja)) (ca_5 h198 h207) (hi_n h123) (lo_b h198 h207)) hZ (lv_sub hl [0, 7, 8, 1, 9, 3, 10, 11, 12] rfl)
                      · skip
                        have h236 : ¬ 0 = 0 := fun z9 => h236 ((nI_eq (a := 0) (b := 0) (by omega) (by omega)).mpr z9)
                        exact absurd h236 (by decide)
                    · skip
                      refine lv_iload hx hb d_Mod_into_222 (lv_at hl 0 rfl) ?_
                      refine lv_if_ne (tgt := 231) hx hb d_Mod_into_224 (by decide) (fun h224 => ?_) (fun h224 => ?_)
                      · skip
                        have h224 : ¬ 0 = 0 := fun z9 => h224 ((nI_eq (a := 0) (b := 0) (by omega) (by omega)).mpr z9)
                        exact absurd h224 (by decide)
                      · skip
                        have h224 : 0 = 0 := (nI_eq (a := 0) (b := 0) (by omega) (by omega)).mp h224
                        refine lv_iconst (v := (nI 1)) hx hb d_Mod_into_227 rfl ?_
                        refine lv_goto (tgt := 232) hx hb d_Mod_into_228 (by decide) ?_
                        refine lv_istore (lv' := [(7, .int (nI 1)), (15, .int (nI 0)), (13, .long (F jb (kM P N ja k))), (11, .long (F ja (kM P N ja k))), (10, .int (nI (64 * ja + k))), (9, .int (nI ja)), (8, .int (nI 0)), (3, .long lo), (5, .long hi), (0, .ref (ad 43)), (1, .int (nI ja)), (2, .int (nI jb))]) hx hb d_Mod_into_232 hl (by decide) rfl (fun ls hl => ?_)
                        refine lv_iload hx hb d_Mod_into_234 (lv_at hl 1 rfl) ?_
                        refine lv_if_eq (tgt := 243) hx hb d_Mod_into_236 (by decide) (fun h236 => ?_) (fun h236 => ?_)
                        · skip
                          have h236 : 0 = 0 := (nI_eq (a := 0) (b := 0) (by omega) (by omega)).mp h236
                          refine lv_lload hx hb d_Mod_into_243 (lv_at hl 3 rfl) ?_
                          refine lv_lload hx hb d_Mod_into_245 (lv_at hl 2 rfl) ?_
                          refine lv_ldiv hx hb d_Mod_into_247 (i64_l0 h123) ?_
                          refine lv_lload hx hb d_Mod_into_248 (lv_at hl 3 rfl) ?_
                          refine lv_lload hx hb d_Mod_into_250 (lv_at hl 2 rfl) ?_
                          refine lv_lrem hx hb d_Mod_into_252 (i64_l0 h123) ?_
                          refine lv_lconst (v := 0) hx hb d_Mod_into_253 rfl ?_
                          refine W.lcmp hx hb d_Mod_into_254 ?_
                          refine lv_if_eq (tgt := 262) hx hb d_Mod_into_255 (by decide) (fun h255 => ?_) (fun h255 => ?_)
                          · skip
                            rw [lg_cmp_eq] at h255
                            refine lv_lconst (v := 0) hx hb d_Mod_into_262 rfl ?_
                            refine lv_ladd hx hb d_Mod_into_263 ?_
                            refine lv_lstore (lv' := [(16, .long (((F ja (kM P N ja k)) / (F jb (kM P N ja k))) + 0)), (7, .int (nI 1)), (15, .int (nI 0)), (13, .long (F jb (kM P N ja k))), (11, .long (F ja (kM P N ja k))), (10, .int (nI (64 * ja + k))), (9, .int (nI ja)), (8, .int (nI 0)), (3, .long lo), (5, .long hi), (0, .ref (ad 43)), (1, .int (nI ja)), (2, .int (nI jb))]) hx hb d_Mod_into_264 hl (by decide) rfl (fun ls hl => ?_)
                            refine lv_lload hx hb d_Mod_into_266 (lv_at hl 0 rfl) ?_
                            refine lv_lload_n hx hb d_Mod_into_268 rfl (lv_at hl 8 rfl) ?_
                            refine W.lcmp hx hb d_Mod_into_269 ?_
                            refine lv_if_le (tgt := 278) hx hb d_Mod_into_270 (by decide) (fun h270 => ?_) (fun h270 => ?_)
                            · skip
                              rw [lg_cmp_le] at h270
                              refine lv_lload_n hx hb d_Mod_into_278 rfl (lv_at hl 8 rfl) ?_
                              refine lv_lstore_n (lv' := [(3, .long lo), (16, .long (((F ja (kM P N ja k)) / (F jb (kM P N ja k))) + 0)), (7, .int (nI 1)), (15, .int (nI 0)), (13, .long (F jb (kM P N ja k))), (11, .long (F ja (kM P N ja k))), (10, .int (nI (64 * ja + k))), (9, .int (nI ja)), (8, .int (nI 0)), (5, .long hi), (0, .ref (ad 43)), (1, .int (nI ja)), (2, .int (nI jb))]) hx hb d_Mod_into_279 rfl hl (by decide) rfl (fun ls hl => ?_)
                              refine lv_iinc (v := (nI ((64 * ja + k) + 1))) (lv' := [(10, .int (nI ((64 * ja + k) + 1))), (3, .long lo), (16, .long (((F ja (kM P N ja k)) / (F jb (kM P N ja k))) + 0)), (7, .int (nI 1)), (15, .int (nI 0)), (13, .long (F jb (kM P N ja k))), (11, .long (F ja (kM P N ja k))), (9, .int (nI ja)), (8, .int (nI 0)), (5, .long hi), (0, .ref (ad 43)), (1, .int (nI ja)), (2, .int (nI jb))]) hx hb d_Mod_into_280 hl (k := 6) rfl (nI_1 _) (by decide) rfl (fun ls hl => ?_)
                              refine lv_goto (tgt := 59) hx hb d_Mod_into_283 (by decide) ?_
                              exact ih59a (k + 1) lo hi (nI 1) _ _ _ (by omega) (by omega) (by first | exact inI_s hI (sU_s (k := kM P N ja)) (ca_1 h128) (hi_1 h149) (lo_1 h123) | exact inI_s hI (sU_s (k := kM P N ja)) (ca_1 h128) (hi_2 h149 h156) (lo_1 h123) | exact inI_s hI (sU_s (k := kM P N ja)) (ca_1 h128) (hi_3 h149 h156 h167) (lo_1 h123) | exact inI_s hI (sU_s (k := kM P N ja)) (ca_1 h128) (hi_4 h149 h156 h167) (lo_1 h123) | exact inI_s hI (sU_s (k := kM P N ja)) (ca_2 h135 h123) (hi_1 h149) (lo_1 h123) | exact inI_s hI (sU_s (k := kM P N ja)) (ca_2 h135 h123) (hi_2 h149 h156) (lo_1 h123) | exact inI_s hI (sU_s (k := kM P N ja)) (ca_2 h135 h123) (hi_3 h149 h156 h167) (lo_1 h123) | exact inI_s hI (sU_s (k := kM P N ja)) (ca_2 h135 h123) (hi_4 h149 h156 h167) (lo_1 h123) | exact inI_s hI (sU_s (k := kM P N ja)) (ca_3 h128 h135 h123) (hi_1 h149) (lo_1 h123) | exact inI_s hI (sU_s (k := kM P N ja)) (ca_3 h128 h135 h123) (hi_2 h149 h156) (lo_1 h123) | exact inI_s hI (sU_s (k := kM P N ja)) (ca_3 h128 h135 h123) (hi_3 h149 h156 h167) (lo_1 h123) | exact inI_s hI (sU_s (k := kM P N ja)) (ca_3 h128 h135 h123) (hi_4 h149 h156 h167) (lo_1 h123) | exact inI_s hI (sU_s (k := kM P N ja)) (ca_k hI h123 h189) (hi_n h123) (lo_2 h189) | exact inI_s hI (sU_s (k := kM P N ja)) (ca_1 h219) (hi_n h123) (lo_3 h189 h123 (fun y => h198 y.1) h255 h270) | exact inI_s hI (sU_s (k := kM P N ja)) (ca_1 h219) (hi_n h123) (lo_4 h189 h123 (fun y => h198 y.1) h255 h270) | exact inI_s hI (sU_s (k := kM P N ja)) (ca_1 h219) (hi_n h123) (lo_5 h189 h123 h255 h270) | exact inI_s hI (sU_s (k := kM P N ja)) (ca_1 h219) (hi_n h123) (lo_6 h189 h123 h255 h270) | exact inI_s hI (sU_s (k := kM P N ja)) (ca_4 h219 h123 (fun y => h198 y.1)) (hi_n h123) (lo_3 h189 h123 (fun y => h198 y.1) h255 h270) | exact inI_s hI (sU_s (k := kM P N ja)) (ca_4 h219 h123 (fun y => h198 y.1)) (hi_n h123) (lo_4 h189 h123 (fun y => h198 y.1) h255 h270) | exact inI_s hI (sU_s (k := kM P N ja)) (ca_4 h219 h123 (fun y => h198 y.1)) (hi_n h123) (lo_5 h189 h123 h255 h270) | exact inI_s hI (sU_s (k := kM P N ja)) (ca_4 h219 h123 (fun y => h198 y.1)) (hi_n h123) (lo_6 h189 h123 h255 h270) | exact inI_s hI (sU_s (k := kM P N ja)) (ca_1 h219) (hi_n h123) (lo_3 h189 h123 (fun y => h207 y.2) h255 h270) | exact inI_s hI (sU_s (k := kM P N ja)) (ca_1 h219) (hi_n h123) (lo_4 h189 h123 (fun y => h207 y.2) h255 h270) | exact inI_s hI (sU_s (k := kM P N ja)) (ca_1 h219) (hi_n h123) (lo_5 h189 h123 h255 h270) | exact inI_s hI (sU_s (k := kM P N ja)) (ca_1 h219) (hi_n h123) (lo_6 h189 h123 h255 h270) | exact inI_s hI (sU_s (k := kM P N ja)) (ca_4 h219 h123 (fun y => h207 y.2)) (hi_n h123) (lo_3 h189 h123 (fun y => h207 y.2) h255 h270) | exact inI_s hI (sU_s (k := kM P N ja)) (ca_4 h219 h123 (fun y => h207 y.2)) (hi_n h123) (lo_4 h189 h123 (fun y => h207 y.2) h255 h270) | exact inI_s hI (sU_s (k := kM P N ja)) (ca_4 h219 h123 (fun y => h207 y.2)) (hi_n h123) (lo_5 h189 h123 h255 h270) | exact inI_s hI (sU_s (k := kM P N ja)) (ca_4 h219 h123 (fun y => h207 y.2)) (hi_n h123) (lo_6 h189 h123 h255 h270) | exact inI_s hI (sU_s (k := kM P N ja)) (ca_1 h219) (hi_n h123) (lo_b h198 h207) | exact inI_s hI (sU_s (k := kM P N ja)) (ca_5 h198 h207) (hi_n h123) (lo_b h198 h207)) hZ (lv_sub hl [0, 7, 8, 1, 9, 3, 10, 11, 12] rfl)
                            · skip
                              rw [lg_cmp_le] at h270
                              refine lv_lload hx hb d_Mod_into_273 (lv_at hl 0 rfl) ?_
                              refine lv_goto (tgt := 279) hx hb d_Mod_into_275 (by decide) ?_
                              refine lv_lstore_n (lv' := [(3, .long (((F ja (kM P N ja k)) / (F jb (kM P N ja k))) + 0)), (16, .long (((F ja (kM P N ja k)) / (F jb (kM P N ja k))) + 0)), (7, .int (nI 1)), (15, .int (nI 0)), (13, .long (F jb (kM P N ja k))), (11, .long (F ja (kM P N ja k))), (10, .int (nI (64 * ja + k))), (9, .int (nI ja)), (8, .int (nI 0)), (5, .long hi), (0, .ref (ad 43)), (1, .int (nI ja)), (2, .int (nI jb))]) hx hb d_Mod_into_279 rfl hl (by decide) rfl (fun ls hl => ?_)
                              refine lv_iinc (v := (nI ((64 * ja + k) + 1))) (lv' := [(10, .int (nI ((64 * ja + k) + 1))), (3, .long (((F ja (kM P N ja k)) / (F jb (kM P N ja k))) + 0)), (16, .long (((F ja (kM P N ja k)) / (F jb (kM P N ja k))) + 0)), (7, .int (nI 1)), (15, .int (nI 0)), (13, .long (F jb (kM P N ja k))), (11, .long (F ja (kM P N ja k))), (9, .int (nI ja)), (8, .int (nI 0)), (5, .long hi), (0, .ref (ad 43)), (1, .int (nI ja)), (2, .int (nI jb))]) hx hb d_Mod_into_280 hl (k := 6) rfl (nI_1 _) (by decide) rfl (fun ls hl => ?_)
                              refine lv_goto (tgt := 59) hx hb d_Mod_into_283 (by decide) ?_
                              exact ih59a (k + 1) (((F ja (kM P N ja k)) / (F jb (kM P N ja k))) + 0) hi (nI 1) _ _ _ (by omega) (by omega) (by first | exact inI_s hI (sU_s (k := kM P N ja)) (ca_1 h128) (hi_1 h149) (lo_1 h123) | exact inI_s hI (sU_s (k := kM P N ja)) (ca_1 h128) (hi_2 h149 h156) (lo_1 h123) | exact inI_s hI (sU_s (k := kM P N ja)) (ca_1 h128) (hi_3 h149 h156 h167) (lo_1 h123) | exact inI_s hI (sU_s (k := kM P N ja)) (ca_1 h128) (hi_4 h149 h156 h167) (lo_1 h123) | exact inI_s hI (sU_s (k := kM P N ja)) (ca_2 h135 h123) (hi_1 h149) (lo_1 h123) | exact inI_s hI (sU_s (k := kM P N ja)) (ca_2 h135 h123) (hi_2 h149 h156) (lo_1 h123) | exact inI_s hI (sU_s (k := kM P N ja)) (ca_2 h135 h123) (hi_3 h149 h156 h167) (lo_1 h123) | exact inI_s hI (sU_s (k := kM P N ja)) (ca_2 h135 h123) (hi_4 h149 h156 h167) (lo_1 h123) | exact inI_s hI (sU_s (k := kM P N ja)) (ca_3 h128 h135 h123) (hi_1 h149) (lo_1 h123) | exact inI_s hI (sU_s (k := kM P N ja)) (ca_3 h128 h135 h123) (hi_2 h149 h156) (lo_1 h123) | exact inI_s hI (sU_s (k := kM P N ja)) (ca_3 h128 h135 h123) (hi_3 h149 h156 h167) (lo_1 h123) | exact inI_s hI (sU_s (k := kM P N ja)) (ca_3 h128 h135 h123) (hi_4 h149 h156 h167) (lo_1 h123) | exact inI_s hI (sU_s (k := kM P N ja)) (ca_k hI h123 h189) (hi_n h123) (lo_2 h189) | exact inI_s hI (sU_s (k := kM P N ja)) (ca_1 h219) (hi_n h123) (lo_3 h189 h123 (fun y => h198 y.1) h255 h270) | exact inI_s hI (sU_s (k := kM P N ja)) (ca_1 h219) (hi_n h123) (lo_4 h189 h123 (fun y => h198 y.1) h255 h270) | exact inI_s hI (sU_s (k := kM P N ja)) (ca_1 h219) (hi_n h123) (lo_5 h189 h123 h255 h270) | exact inI_s hI (sU_s (k := kM P N ja)) (ca_1 h219) (hi_n h123) (lo_6 h189 h123 h255 h270) | exact inI_s hI (sU_s (k := kM P N ja)) (ca_4 h219 h123 (fun y => h198 y.1)) (hi_n h123) (lo_3 h189 h123 (fun y => h198 y.1) h255 h270) | exact inI_s hI (sU_s (k := kM P N ja)) (ca_4 h219 h123 (fun y => h198 y.1)) (hi_n h123) (lo_4 h189 h123 (fun y => h198 y.1) h255 h270) | exact inI_s hI (sU_s (k := kM P N ja)) (ca_4 h219 h123 (fun y => h198 y.1)) (hi_n h123) (lo_5 h189 h123 h255 h270) | exact inI_s hI (sU_s (k := kM P N ja)) (ca_4 h219 h123 (fun y => h198 y.1)) (hi_n h123) (lo_6 h189 h123 h255 h270) | exact inI_s hI (sU_s (k := kM P N ja)) (ca_1 h219) (hi_n h123) (lo_3 h189 h123 (fun y => h207 y.2) h255 h270) | exact inI_s hI (sU_s (k := kM P N ja)) (ca_1 h219) (hi_n h123) (lo_4 h189 h123 (fun y => h207 y.2) h255 h270) | exact inI_s hI (sU_s (k := kM P N ja)) (ca_1 h219) (hi_n h123) (lo_5 h189 h123 h255 h270) | exact inI_s hI (sU_s (k := kM P N ja)) (ca_1 h219) (hi_n h123) (lo_6 h189 h123 h255 h270) | exact inI_s hI (sU_s (k := kM P N ja)) (ca_4 h219 h123 (fun y => h207 y.2)) (hi_n h123) (lo_3 h189 h123 (fun y => h207 y.2) h255 h270) | exact inI_s hI (sU_s (k := kM P N ja)) (ca_4 h219 h123 (fun y => h207 y.2)) (hi_n h123) (lo_4 h189 h123 (fun y => h207 y.2) h255 h270) | exact inI_s hI (sU_s (k := kM P N ja)) (ca_4 h219 h123 (fun y => h207 y.2)) (hi_n h123) (lo_5 h189 h123 h255 h270) | exact inI_s hI (sU_s (k := kM P N ja)) (ca_4 h219 h123 (fun y => h207 y.2)) (hi_n h123) (lo_6 h189 h123 h255 h270) | exact inI_s hI (sU_s (k := kM P N ja)) (ca_1 h219) (hi_n h123) (lo_b h198 h207) | exact inI_s hI (sU_s (k := kM P N ja)) (ca_5 h198 h207) (hi_n h123) (lo_b h198 h207)) hZ (lv_sub hl [0, 7, 8, 1, 9, 3, 10, 11, 12] rfl)
                          · skip
                            rw [lg_cmp_eq] at h255
                            refine lv_lconst (v := 1) hx hb d_Mod_into_258 rfl ?_
                            refine lv_goto (tgt := 263) hx hb d_Mod_into_259 (by decide) ?_
                            refine lv_ladd hx hb d_Mod_into_263 ?_
                            refine lv_lstore (lv' := [(16, .long (((F ja (kM P N ja k)) / (F jb (kM P N ja k))) + 1)), (7, .int (nI 1)), (15, .int (nI 0)), (13, .long (F jb (kM P N ja k))), (11, .long (F ja (kM P N ja k))), (10, .int (nI (64 * ja + k))), (9, .int (nI ja)), (8, .int (nI 0)), (3, .long lo), (5, .long hi), (0, .ref (ad 43)), (1, .int (nI ja)), (2, .int (nI jb))]) hx hb d_Mod_into_264 hl (by decide) rfl (fun ls hl => ?_)
                            refine lv_lload hx hb d_Mod_into_266 (lv_at hl 0 rfl) ?_
                            refine lv_lload_n hx hb d_Mod_into_268 rfl (lv_at hl 8 rfl) ?_
                            refine W.lcmp hx hb d_Mod_into_269 ?_
                            refine lv_if_le (tgt := 278) hx hb d_Mod_into_270 (by decide) (fun h270 => ?_) (fun h270 => ?_)
                            · skip
                              rw [lg_cmp_le] at h270
                              refine lv_lload_n hx hb d_Mod_into_278 rfl (lv_at hl 8 rfl) ?_
                              refine lv_lstore_n (lv' := [(3, .long lo), (16, .long (((F ja (kM P N ja k)) / (F jb (kM P N ja k))) + 1)), (7, .int (nI 1)), (15, .int (nI 0)), (13, .long (F jb (kM P N ja k))), (11, .long (F ja (kM P N ja k))), (10, .int (nI (64 * ja + k))), (9, .int (nI ja)), (8, .int (nI 0)), (5, .long hi), (0, .ref (ad 43)), (1, .int (nI ja)), (2, .int (nI jb))]) hx hb d_Mod_into_279 rfl hl (by decide) rfl (fun ls hl => ?_)
                              refine lv_iinc (v := (nI ((64 * ja + k) + 1))) (lv' := [(10, .int (nI ((64 * ja + k) + 1))), (3, .long lo), (16, .long (((F ja (kM P N ja k)) / (F jb (kM P N ja k))) + 1)), (7, .int (nI 1)), (15, .int (nI 0)), (13, .long (F jb (kM P N ja k))), (11, .long (F ja (kM P N ja k))), (9, .int (nI ja)), (8, .int (nI 0)), (5, .long hi), (0, .ref (ad 43)), (1, .int (nI ja)), (2, .int (nI jb))]) hx hb d_Mod_into_280 hl (k := 6) rfl (nI_1 _) (by decide) rfl (fun ls hl => ?_)
                              refine lv_goto (tgt := 59) hx hb d_Mod_into_283 (by decide) ?_
                              exact ih59a (k + 1) lo hi (nI 1) _ _ _ (by omega) (by omega) (by first | exact inI_s hI (sU_s (k := kM P N ja)) (ca_1 h128) (hi_1 h149) (lo_1 h123) | exact inI_s hI (sU_s (k := kM P N ja)) (ca_1 h128) (hi_2 h149 h156) (lo_1 h123) | exact inI_s hI (sU_s (k := kM P N ja)) (ca_1 h128) (hi_3 h149 h156 h167) (lo_1 h123) | exact inI_s hI (sU_s (k := kM P N ja)) (ca_1 h128) (hi_4 h149 h156 h167) (lo_1 h123) | exact inI_s hI (sU_s (k := kM P N ja)) (ca_2 h135 h123) (hi_1 h149) (lo_1 h123) | exact inI_s hI (sU_s (k := kM P N ja)) (ca_2 h135 h123) (hi_2 h149 h156) (lo_1 h123) | exact inI_s hI (sU_s (k := kM P N ja)) (ca_2 h135 h123) (hi_3 h149 h156 h167) (lo_1 h123) | exact inI_s hI (sU_s (k := kM P N ja)) (ca_2 h135 h123) (hi_4 h149 h156 h167) (lo_1 h123) | exact inI_s hI (sU_s (k := kM P N ja)) (ca_3 h128 h135 h123) (hi_1 h149) (lo_1 h123) | exact inI_s hI (sU_s (k := kM P N ja)) (ca_3 h128 h135 h123) (hi_2 h149 h156) (lo_1 h123) | exact inI_s hI (sU_s (k := kM P N ja)) (ca_3 h128 h135 h123) (hi_3 h149 h156 h167) (lo_1 h123) | exact inI_s hI (sU_s (k := kM P N ja)) (ca_3 h128 h135 h123) (hi_4 h149 h156 h167) (lo_1 h123) | exact inI_s hI (sU_s (k := kM P N ja)) (ca_k hI h123 h189) (hi_n h123) (lo_2 h189) | exact inI_s hI (sU_s (k := kM P N ja)) (ca_1 h219) (hi_n h123) (lo_3 h189 h123 (fun y => h198 y.1) h255 h270) | exact inI_s hI (sU_s (k := kM P N ja)) (ca_1 h219) (hi_n h123) (lo_4 h189 h123 (fun y => h198 y.1) h255 h270) | exact inI_s hI (sU_s (k := kM P N ja)) (ca_1 h219) (hi_n h123) (lo_5 h189 h123 h255 h270) | exact inI_s hI (sU_s (k := kM P N ja)) (ca_1 h219) (hi_n h123) (lo_6 h189 h123 h255 h270) | exact inI_s hI (sU_s (k := kM P N ja)) (ca_4 h219 h123 (fun y => h198 y.1)) (hi_n h123) (lo_3 h189 h123 (fun y => h198 y.1) h255 h270) | exact inI_s hI (sU_s (k := kM P N ja)) (ca_4 h219 h123 (fun y => h198 y.1)) (hi_n h123) (lo_4 h189 h123 (fun y => h198 y.1) h255 h270) | exact inI_s hI (sU_s (k := kM P N ja)) (ca_4 h219 h123 (fun y => h198 y.1)) (hi_n h123) (lo_5 h189 h123 h255 h270) | exact inI_s hI (sU_s (k := kM P N ja)) (ca_4 h219 h123 (fun y => h198 y.1)) (hi_n h123) (lo_6 h189 h123 h255 h270) | exact inI_s hI (sU_s (k := kM P N ja)) (ca_1 h219) (hi_n h123) (lo_3 h189 h123 (fun y => h207 y.2) h255 h270) | exact inI_s hI (sU_s (k := kM P N ja)) (ca_1 h219) (hi_n h123) (lo_4 h189 h123 (fun y => h207 y.2) h255 h270) | exact inI_s hI (sU_s (k := kM P N ja)) (ca_1 h219) (hi_n h123) (lo_5 h189 h123 h255 h270) | exact inI_s hI (sU_s (k := kM P N ja)) (ca_1 h219) (hi_n h123) (lo_6 h189 h123 h255 h270) | exact inI_s hI (sU_s (k := kM P N ja)) (ca_4 h219 h123 (fun y => h207 y.2)) (hi_n h123) (lo_3 h189 h123 (fun y => h207 y.2) h255 h270) | exact inI_s hI (sU_s (k := kM P N ja)) (ca_4 h219 h123 (fun y => h207 y.2)) (hi_n h123) (lo_4 h189 h123 (fun y => h207 y.2) h255 h270) | exact inI_s hI (sU_s (k := kM P N ja)) (ca_4 h219 h123 (fun y => h207 y.2)) (hi_n h123) (lo_5 h189 h123 h255 h270) | exact inI_s hI (sU_s (k := kM P N ja)) (ca_4 h219 h123 (fun y => h207 y.2)) (hi_n h123) (lo_6 h189 h123 h255 h270) | exact inI_s hI (sU_s (k := kM P N ja)) (ca_1 h219) (hi_n h123) (lo_b h198 h207) | exact inI_s hI (sU_s (k := kM P N ja)) (ca_5 h198 h207) (hi_n h123) (lo_b h198 h207)) hZ (lv_sub hl [0, 7, 8, 1, 9, 3, 10, 11, 12] rfl)
                            · skip
                              rw [lg_cmp_le] at h270
                              refine lv_lload hx hb d_Mod_into_273 (lv_at hl 0 rfl) ?_
                              refine lv_goto (tgt := 279) hx hb d_Mod_into_275 (by decide) ?_
                              refine lv_lstore_n (lv' := [(3, .long (((F ja (kM P N ja k)) / (F jb (kM P N ja k))) + 1)), (16, .long (((F ja (kM P N ja k)) / (F jb (kM P N ja k))) + 1)), (7, .int (nI 1)), (15, .int (nI 0)), (13, .long (F jb (kM P N ja k))), (11, .long (F ja (kM P N ja k))), (10, .int (nI (64 * ja + k))), (9, .int (nI ja)), (8, .int (nI 0)), (5, .long hi), (0, .ref (ad 43)), (1, .int (nI ja)), (2, .int (nI jb))]) hx hb d_Mod_into_279 rfl hl (by decide) rfl (fun ls hl => ?_)
                              refine lv_iinc (v := (nI ((64 * ja + k) + 1))) (lv' := [(10, .int (nI ((64 * ja + k) + 1))), (3, .long (((F ja (kM P N ja k)) / (F jb (kM P N ja k))) + 1)), (16, .long (((F ja (kM P N ja k)) / (F jb (kM P N ja k))) + 1)), (7, .int (nI 1)), (15, .int (nI 0)), (13, .long (F jb (kM P N ja k))), (11, .long (F ja (kM P N ja k))), (9, .int (nI ja)), (8, .int (nI 0)), (5, .long hi), (0, .ref (ad 43)), (1, .int (nI ja)), (2, .int (nI jb))]) hx hb d_Mod_into_280 hl (k := 6) rfl (nI_1 _) (by decide) rfl (fun ls hl => ?_)
                              refine lv_goto (tgt := 59) hx hb d_Mod_into_283 (by decide) ?_
                              exact ih59a (k + 1) (((F ja (kM P N ja k)) / (F jb (kM P N ja k))) + 1) hi (nI 1) _ _ _ (by omega) (by omega) (by first | exact inI_s hI (sU_s (k := kM P N ja)) (ca_1 h128) (hi_1 h149) (lo_1 h123) | exact inI_s hI (sU_s (k := kM P N ja)) (ca_1 h128) (hi_2 h149 h156) (lo_1 h123) | exact inI_s hI (sU_s (k := kM P N ja)) (ca_1 h128) (hi_3 h149 h156 h167) (lo_1 h123) | exact inI_s hI (sU_s (k := kM P N ja)) (ca_1 h128) (hi_4 h149 h156 h167) (lo_1 h123) | exact inI_s hI (sU_s (k := kM P N ja)) (ca_2 h135 h123) (hi_1 h149) (lo_1 h123) | exact inI_s hI (sU_s (k := kM P N ja)) (ca_2 h135 h123) (hi_2 h149 h156) (lo_1 h123) | exact inI_s hI (sU_s (k := kM P N ja)) (ca_2 h135 h123) (hi_3 h149 h156 h167) (lo_1 h123) | exact inI_s hI (sU_s (k := kM P N ja)) (ca_2 h135 h123) (hi_4 h149 h156 h167) (lo_1 h123) | exact inI_s hI (sU_s (k := kM P N ja)) (ca_3 h128 h135 h123) (hi_1 h149) (lo_1 h123) | exact inI_s hI (sU_s (k := kM P N ja)) (ca_3 h128 h135 h123) (hi_2 h149 h156) (lo_1 h123) | exact inI_s hI (sU_s (k := kM P N ja)) (ca_3 h128 h135 h123) (hi_3 h149 h156 h167) (lo_1 h123) | exact inI_s hI (sU_s (k := kM P N ja)) (ca_3 h128 h135 h123) (hi_4 h149 h156 h167) (lo_1 h123) | exact inI_s hI (sU_s (k := kM P N ja)) (ca_k hI h123 h189) (hi_n h123) (lo_2 h189) | exact inI_s hI (sU_s (k := kM P N ja)) (ca_1 h219) (hi_n h123) (lo_3 h189 h123 (fun y => h198 y.1) h255 h270) | exact inI_s hI (sU_s (k := kM P N ja)) (ca_1 h219) (hi_n h123) (lo_4 h189 h123 (fun y => h198 y.1) h255 h270) | exact inI_s hI (sU_s (k := kM P N ja)) (ca_1 h219) (hi_n h123) (lo_5 h189 h123 h255 h270) | exact inI_s hI (sU_s (k := kM P N ja)) (ca_1 h219) (hi_n h123) (lo_6 h189 h123 h255 h270) | exact inI_s hI (sU_s (k := kM P N ja)) (ca_4 h219 h123 (fun y => h198 y.1)) (hi_n h123) (lo_3 h189 h123 (fun y => h198 y.1) h255 h270) | exact inI_s hI (sU_s (k := kM P N ja)) (ca_4 h219 h123 (fun y => h198 y.1)) (hi_n h123) (lo_4 h189 h123 (fun y => h198 y.1) h255 h270) | exact inI_s hI (sU_s (k := kM P N ja)) (ca_4 h219 h123 (fun y => h198 y.1)) (hi_n h123) (lo_5 h189 h123 h255 h270) | exact inI_s hI (sU_s (k := kM P N ja)) (ca_4 h219 h123 (fun y => h198 y.1)) (hi_n h123) (lo_6 h189 h123 h255 h270) | exact inI_s hI (sU_s (k := kM P N ja)) (ca_1 h219) (hi_n h123) (lo_3 h189 h123 (fun y => h207 y.2) h255 h270) | exact inI_s hI (sU_s (k := kM P N ja)) (ca_1 h219) (hi_n h123) (lo_4 h189 h123 (fun y => h207 y.2) h255 h270) | exact inI_s hI (sU_s (k := kM P N ja)) (ca_1 h219) (hi_n h123) (lo_5 h189 h123 h255 h270) | exact inI_s hI (sU_s (k := kM P N ja)) (ca_1 h219) (hi_n h123) (lo_6 h189 h123 h255 h270) | exact inI_s hI (sU_s (k := kM P N ja)) (ca_4 h219 h123 (fun y => h207 y.2)) (hi_n h123) (lo_3 h189 h123 (fun y => h207 y.2) h255 h270) | exact inI_s hI (sU_s (k := kM P N ja)) (ca_4 h219 h123 (fun y => h207 y.2)) (hi_n h123) (lo_4 h189 h123 (fun y => h207 y.2) h255 h270) | exact inI_s hI (sU_s (k := kM P N ja)) (ca_4 h219 h123 (fun y => h207 y.2)) (hi_n h123) (lo_5 h189 h123 h255 h270) | exact inI_s hI (sU_s (k := kM P N ja)) (ca_4 h219 h123 (fun y => h207 y.2)) (hi_n h123) (lo_6 h189 h123 h255 h270) | exact inI_s hI (sU_s (k := kM P N ja)) (ca_1 h219) (hi_n h123) (lo_b h198 h207) | exact inI_s hI (sU_s (k := kM P N ja)) (ca_5 h198 h207) (hi_n h123) (lo_b h198 h207)) hZ (lv_sub hl [0, 7, 8, 1, 9, 3, 10, 11, 12] rfl)
                        · skip
                          have h236 : ¬ 0 = 0 := fun z9 => h236 ((nI_eq (a := 0) (b := 0) (by omega) (by omega)).mpr z9)
                          exact absurd h236 (by decide)
                  · skip
                    rw [lg_cmp_eq] at h198
                    refine lv_lload hx hb d_Mod_into_201 (lv_at hl 0 rfl) ?_
                    refine lv_ldc2 (v := (-1)) hx hb hown (hts _ (gm k_528)) d_Mod_into_203 ?_
                    refine W.lcmp hx hb d_Mod_into_206 ?_
                    refine lv_if_ne (tgt := 214) hx hb d_Mod_into_207 (by decide) (fun h207 => ?_) (fun h207 => ?_)
                    · skip
                      rw [lg_cmp_eq] at h207
                      refine lv_iconst (v := (nI 0)) hx hb d_Mod_into_214 rfl ?_
                      refine lv_istore (lv' := [(15, .int (nI 0)), (13, .long (F jb (kM P N ja k))), (11, .long (F ja (kM P N ja k))), (10, .int (nI (64 * ja + k))), (9, .int (nI ja)), (8, .int (nI 0)), (3, .long lo), (5, .long hi), (7, .int ca), (0, .ref (ad 43)), (1, .int (nI ja)), (2, .int (nI jb))]) hx hb d_Mod_into_215 hl (by decide) rfl (fun ls hl => ?_)
                      refine lv_iload hx hb d_Mod_into_217 (lv_at hl 8 rfl) ?_
                      refine lv_if_eq (tgt := 231) hx hb d_Mod_into_219 (by decide) (fun h219 => ?_) (fun h219 => ?_)
                      · skip
                        refine lv_iconst (v := (nI 0)) hx hb d_Mod_into_231 rfl ?_
                        refine lv_istore (lv' := [(7, .int (nI 0)), (15, .int (nI 0)), (13, .long (F jb (kM P N ja k))), (11, .long (F ja (kM P N ja k))), (10, .int (nI (64 * ja + k))), (9, .int (nI ja)), (8, .int (nI 0)), (3, .long lo), (5, .long hi), (0, .ref (ad 43)), (1, .int (nI ja)), (2, .int (nI jb))]) hx hb d_Mod_into_232 hl (by decide) rfl (fun ls hl => ?_)
                        refine lv_iload hx hb d_Mod_into_234 (lv_at hl 1 rfl) ?_
                        refine lv_if_eq (tgt := 243) hx hb d_Mod_into_236 (by decide) (fun h236 => ?_) (fun h236 => ?_)
                        · skip
                          have h236 : 0 = 0 := (nI_eq (a := 0) (b := 0) (by omega) (by omega)).mp h236
                          refine lv_lload hx hb d_Mod_into_243 (lv_at hl 3 rfl) ?_
                          refine lv_lload hx hb d_Mod_into_245 (lv_at hl 2 rfl) ?_
                          refine lv_ldiv hx hb d_Mod_into_247 (i64_l0 h123) ?_
                          refine lv_lload hx hb d_Mod_into_248 (lv_at hl 3 rfl) ?_
                          refine lv_lload hx hb d_Mod_into_250 (lv_at hl 2 rfl) ?_
                          refine lv_lrem hx hb d_Mod_into_252 (i64_l0 h123) ?_
                          refine lv_lconst (v := 0) hx hb d_Mod_into_253 rfl ?_
                          refine W.lcmp hx hb d_Mod_into_254 ?_
                          refine lv_if_eq (tgt := 262) hx hb d_Mod_into_255 (by decide) (fun h255 => ?_) (fun h255 => ?_)
                          · skip
                            rw [lg_cmp_eq] at h255
                            refine lv_lconst (v := 0) hx hb d_Mod_into_262 rfl ?_
                            refine lv_ladd hx hb d_Mod_into_263 ?_
                            refine lv_lstore (lv' := [(16, .long (((F ja (kM P N ja k)) / (F jb (kM P N ja k))) + 0)), (7, .int (nI 0)), (15, .int (nI 0)), (13, .long (F jb (kM P N ja k))), (11, .long (F ja (kM P N ja k))), (10, .int (nI (64 * ja + k))), (9, .int (nI ja)), (8, .int (nI 0)), (3, .long lo), (5, .long hi), (0, .ref (ad 43)), (1, .int (nI ja)), (2, .int (nI jb))]) hx hb d_Mod_into_264 hl (by decide) rfl (fun ls hl => ?_)
                            refine lv_lload hx hb d_Mod_into_266 (lv_at hl 0 rfl) ?_
                            refine lv_lload_n hx hb d_Mod_into_268 rfl (lv_at hl 8 rfl) ?_
                            refine W.lcmp hx hb d_Mod_into_269 ?_
                            refine lv_if_le (tgt := 278) hx hb d_Mod_into_270 (by decide) (fun h270 => ?_) (fun h270 => ?_)
                            · skip
                              rw [lg_cmp_le] at h270
                              refine lv_lload_n hx hb d_Mod_into_278 rfl (lv_at hl 8 rfl) ?_
                              refine lv_lstore_n (lv' := [(3, .long lo), (16, .long (((F ja (kM P N ja k)) / (F jb (kM P N ja k))) + 0)), (7, .int (nI 0)), (15, .int (nI 0)), (13, .long (F jb (kM P N ja k))), (11, .long (F ja (kM P N ja k))), (10, .int (nI (64 * ja + k))), (9, .int (nI ja)), (8, .int (nI 0)), (5, .long hi), (0, .ref (ad 43)), (1, .int (nI ja)), (2, .int (nI jb))]) hx hb d_Mod_into_279 rfl hl (by decide) rfl (fun ls hl => ?_)
                              refine lv_iinc (v := (nI ((64 * ja + k) + 1))) (lv' := [(10, .int (nI ((64 * ja + k) + 1))), (3, .long lo), (16, .long (((F ja (kM P N ja k)) / (F jb (kM P N ja k))) + 0)), (7, .int (nI 0)), (15, .int (nI 0)), (13, .long (F jb (kM P N ja k))), (11, .long (F ja (kM P N ja k))), (9, .int (nI ja)), (8, .int (nI 0)), (5, .long hi), (0, .ref (ad 43)), (1, .int (nI ja)), (2, .int (nI jb))]) hx hb d_Mod_into_280 hl (k := 6) rfl (nI_1 _) (by decide) rfl (fun ls hl => ?_)
                              refine lv_goto (tgt := 59) hx hb d_Mod_into_283 (by decide) ?_
                              exact ih59a (k + 1) lo hi (nI 0) _ _ _ (by omega) (by omega) (by first | exact inI_s hI (sU_s (k := kM P N ja)) (ca_1 h128) (hi_1 h149) (lo_1 h123) | exact inI_s hI (sU_s (k := kM P N ja)) (ca_1 h128) (hi_2 h149 h156) (lo_1 h123) | exact inI_s hI (sU_s (k := kM P N ja)) (ca_1 h128) (hi_3 h149 h156 h167) (lo_1 h123) | exact inI_s hI (sU_s (k := kM P N ja)) (ca_1 h128) (hi_4 h149 h156 h167) (lo_1 h123) | exact inI_s hI (sU_s (k := kM P N ja)) (ca_2 h135 h123) (hi_1 h149) (lo_1 h123) | exact inI_s hI (sU_s (k := kM P N ja)) (ca_2 h135 h123) (hi_2 h149 h156) (lo_1 h123) | exact inI_s hI (sU_s (k := kM P N ja)) (ca_2 h135 h123) (hi_3 h149 h156 h167) (lo_1 h123) | exact inI_s hI (sU_s (k := kM P N ja)) (ca_2 h135 h123) (hi_4 h149 h156 h167) (lo_1 h123) | exact inI_s hI (sU_s (k := kM P N ja)) (ca_3 h128 h135 h123) (hi_1 h149) (lo_1 h123) | exact inI_s hI (sU_s (k := kM P N ja)) (ca_3 h128 h135 h123) (hi_2 h149 h156) (lo_1 h123) | exact inI_s hI (sU_s (k := kM P N ja)) (ca_3 h128 h135 h123) (hi_3 h149 h156 h167) (lo_1 h123) | exact inI_s hI (sU_s (k := kM P N ja)) (ca_3 h128 h135 h123) (hi_4 h149 h156 h167) (lo_1 h123) | exact inI_s hI (sU_s (k := kM P N ja)) (ca_k hI h123 h189) (hi_n h123) (lo_2 h189) | exact inI_s hI (sU_s (k := kM P N ja)) (ca_1 h219) (hi_n h123) (lo_3 h189 h123 (fun y => h198 y.1) h255 h270) | exact inI_s hI (sU_s (k := kM P N ja)) (ca_1 h219) (hi_n h123) (lo_4 h189 h123 (fun y => h198 y.1) h255 h270) | exact inI_s hI (sU_s (k := kM P N ja)) (ca_1 h219) (hi_n h123) (lo_5 h189 h123 h255 h270) | exact inI_s hI (sU_s (k := kM P N ja)) (ca_1 h219) (hi_n h123) (lo_6 h189 h123 h255 h270) | exact inI_s hI (sU_s (k := kM P N ja)) (ca_4 h219 h123 (fun y => h198 y.1)) (hi_n h123) (lo_3 h189 h123 (fun y => h198 y.1) h255 h270) | exact inI_s hI (sU_s (k := kM P N ja)) (ca_4 h219 h123 (fun y => h198 y.1)) (hi_n h123) (lo_4 h189 h123 (fun y => h198 y.1) h255 h270) | exact inI_s hI (sU_s (k := kM P N ja)) (ca_4 h219 h123 (fun y => h198 y.1)) (hi_n h123) (lo_5 h189 h123 h255 h270) | exact inI_s hI (sU_s (k := kM P N ja)) (ca_4 h219 h123 (fun y => h198 y.1)) (hi_n h123) (lo_6 h189 h123 h255 h270) | exact inI_s hI (sU_s (k := kM P N ja)) (ca_1 h219) (hi_n h123) (lo_3 h189 h123 (fun y => h207 y.2) h255 h270) | exact inI_s hI (sU_s (k := kM P N ja)) (ca_1 h219) (hi_n h123) (lo_4 h189 h123 (fun y => h207 y.2) h255 h270) | exact inI_s hI (sU_s (k := kM P N ja)) (ca_1 h219) (hi_n h123) (lo_5 h189 h123 h255 h270) | exact inI_s hI (sU_s (k := kM P N ja)) (ca_1 h219) (hi_n h123) (lo_6 h189 h123 h255 h270) | exact inI_s hI (sU_s (k := kM P N ja)) (ca_4 h219 h123 (fun y => h207 y.2)) (hi_n h123) (lo_3 h189 h123 (fun y => h207 y.2) h255 h270) | exact inI_s hI (sU_s (k := kM P N ja)) (ca_4 h219 h123 (fun y => h207 y.2)) (hi_n h123) (lo_4 h189 h123 (fun y => h207 y.2) h255 h270) | exact inI_s hI (sU_s (k := kM P N ja)) (ca_4 h219 h123 (fun y => h207 y.2)) (hi_n h123) (lo_5 h189 h123 h255 h270) | exact inI_s hI (sU_s (k := kM P N ja)) (ca_4 h219 h123 (fun y => h207 y.2)) (hi_n h123) (lo_6 h189 h123 h255 h270) | exact inI_s hI (sU_s (k := kM P N ja)) (ca_1 h219) (hi_n h123) (lo_b h198 h207) | exact inI_s hI (sU_s (k := kM P N ja)) (ca_5 h198 h207) (hi_n h123) (lo_b h198 h207)) hZ (lv_sub hl [0, 7, 8, 1, 9, 3, 10, 11, 12] rfl)
                            · skip
                              rw [lg_cmp_le] at h270
                              refine lv_lload hx hb d_Mod_into_273 (lv_at hl 0 rfl) ?_
                              refine lv_goto (tgt := 279) hx hb d_Mod_into_275 (by decide) ?_
                              refine lv_lstore_n (lv' := [(3, .long (((F ja (kM P N ja k)) / (F jb (kM P N ja k))) + 0)), (16, .long (((F ja (kM P N ja k)) / (F jb (kM P N ja k))) + 0)), (7, .int (nI 0)), (15, .int (nI 0)), (13, .long (F jb (kM P N ja k))), (11, .long (F ja (kM P N ja k))), (10, .int (nI (64 * ja + k))), (9, .int (nI ja)), (8, .int (nI 0)), (5, .long hi), (0, .ref (ad 43)), (1, .int (nI ja)), (2, .int (nI jb))]) hx hb d_Mod_into_279 rfl hl (by decide) rfl (fun ls hl => ?_)
                              refine lv_iinc (v := (nI ((64 * ja + k) + 1))) (lv' := [(10, .int (nI ((64 * ja + k) + 1))), (3, .long (((F ja (kM P N ja k)) / (F jb (kM P N ja k))) + 0)), (16, .long (((F ja (kM P N ja k)) / (F jb (kM P N ja k))) + 0)), (7, .int (nI 0)), (15, .int (nI 0)), (13, .long (F jb (kM P N ja k))), (11, .long (F ja (kM P N ja k))), (9, .int (nI ja)), (8, .int (nI 0)), (5, .long hi), (0, .ref (ad 43)), (1, .int (nI ja)), (2, .int (nI jb))]) hx hb d_Mod_into_280 hl (k := 6) rfl (nI_1 _) (by decide) rfl (fun ls hl => ?_)
                              refine lv_goto (tgt := 59) hx hb d_Mod_into_283 (by decide) ?_
                              exact ih59a (k + 1) (((F ja (kM P N ja k)) / (F jb (kM P N ja k))) + 0) hi (nI 0) _ _ _ (by omega) (by omega) (by first | exact inI_s hI (sU_s (k := kM P N ja)) (ca_1 h128) (hi_1 h149) (lo_1 h123) | exact inI_s hI (sU_s (k := kM P N ja)) (ca_1 h128) (hi_2 h149 h156) (lo_1 h123) | exact inI_s hI (sU_s (k := kM P N ja)) (ca_1 h128) (hi_3 h149 h156 h167) (lo_1 h123) | exact inI_s hI (sU_s (k := kM P N ja)) (ca_1 h128) (hi_4 h149 h156 h167) (lo_1 h123) | exact inI_s hI (sU_s (k := kM P N ja)) (ca_2 h135 h123) (hi_1 h149) (lo_1 h123) | exact inI_s hI (sU_s (k := kM P N ja)) (ca_2 h135 h123) (hi_2 h149 h156) (lo_1 h123) | exact inI_s hI (sU_s (k := kM P N ja)) (ca_2 h135 h123) (hi_3 h149 h156 h167) (lo_1 h123) | exact inI_s hI (sU_s (k := kM P N ja)) (ca_2 h135 h123) (hi_4 h149 h156 h167) (lo_1 h123) | exact inI_s hI (sU_s (k := kM P N ja)) (ca_3 h128 h135 h123) (hi_1 h149) (lo_1 h123) | exact inI_s hI (sU_s (k := kM P N ja)) (ca_3 h128 h135 h123) (hi_2 h149 h156) (lo_1 h123) | exact inI_s hI (sU_s (k := kM P N ja)) (ca_3 h128 h135 h123) (hi_3 h149 h156 h167) (lo_1 h123) | exact inI_s hI (sU_s (k := kM P N ja)) (ca_3 h128 h135 h123) (hi_4 h149 h156 h167) (lo_1 h123) | exact inI_s hI (sU_s (k := kM P N ja)) (ca_k hI h123 h189) (hi_n h123) (lo_2 h189) | exact inI_s hI (sU_s (k := kM P N ja)) (ca_1 h219) (hi_n h123) (lo_3 h189 h123 (fun y => h198 y.1) h255 h270) | exact inI_s hI (sU_s (k := kM P N ja)) (ca_1 h219) (hi_n h123) (lo_4 h189 h123 (fun y => h198 y.1) h255 h270) | exact inI_s hI (sU_s (k := kM P N ja)) (ca_1 h219) (hi_n h123) (lo_5 h189 h123 h255 h270) | exact inI_s hI (sU_s (k := kM P N ja)) (ca_1 h219) (hi_n h123) (lo_6 h189 h123 h255 h270) | exact inI_s hI (sU_s (k := kM P N ja)) (ca_4 h219 h123 (fun y => h198 y.1)) (hi_n h123) (lo_3 h189 h123 (fun y => h198 y.1) h255 h270) | exact inI_s hI (sU_s (k := kM P N ja)) (ca_4 h219 h123 (fun y => h198 y.1)) (hi_n h123) (lo_4 h189 h123 (fun y => h198 y.1) h255 h270) | exact inI_s hI (sU_s (k := kM P N ja)) (ca_4 h219 h123 (fun y => h198 y.1)) (hi_n h123) (lo_5 h189 h123 h255 h270) | exact inI_s hI (sU_s (k := kM P N ja)) (ca_4 h219 h123 (fun y => h198 y.1)) (hi_n h123) (lo_6 h189 h123 h255 h270) | exact inI_s hI (sU_s (k := kM P N ja)) (ca_1 h219) (hi_n h123) (lo_3 h189 h123 (fun y => h207 y.2) h255 h270) | exact inI_s hI (sU_s (k := kM P N ja)) (ca_1 h219) (hi_n h123) (lo_4 h189 h123 (fun y => h207 y.2) h255 h270) | exact inI_s hI (sU_s (k := kM P N ja)) (ca_1 h219) (hi_n h123) (lo_5 h189 h123 h255 h270) | exact inI_s hI (sU_s (k := kM P N ja)) (ca_1 h219) (hi_n h123) (lo_6 h189 h123 h255 h270) | exact inI_s hI (sU_s (k := kM P N ja)) (ca_4 h219 h123 (fun y => h207 y.2)) (hi_n h123) (lo_3 h189 h123 (fun y => h207 y.2) h255 h270) | exact inI_s hI (sU_s (k := kM P N ja)) (ca_4 h219 h123 (fun y => h207 y.2)) (hi_n h123) (lo_4 h189 h123 (fun y => h207 y.2) h255 h270) | exact inI_s hI (sU_s (k := kM P N ja)) (ca_4 h219 h123 (fun y => h207 y.2)) (hi_n h123) (lo_5 h189 h123 h255 h270) | exact inI_s hI (sU_s (k := kM P N ja)) (ca_4 h219 h123 (fun y => h207 y.2)) (hi_n h123) (lo_6 h189 h123 h255 h270) | exact inI_s hI (sU_s (k := kM P N ja)) (ca_1 h219) (hi_n h123) (lo_b h198 h207) | exact inI_s hI (sU_s (k := kM P N ja)) (ca_5 h198 h207) (hi_n h123) (lo_b h198 h207)) hZ (lv_sub hl [0, 7, 8, 1, 9, 3, 10, 11, 12] rfl)
                          · skip
                            rw [lg_cmp_eq] at h255
                            refine lv_lconst (v := 1) hx hb d_Mod_into_258 rfl ?_
                            refine lv_goto (tgt := 263) hx hb d_Mod_into_259 (by decide) ?_
                            refine lv_ladd hx hb d_Mod_into_263 ?_
                            refine lv_lstore (lv' := [(16, .long (((F ja (kM P N ja k)) / (F jb (kM P N ja k))) + 1)), (7, .int (nI 0)), (15, .int (nI 0)), (13, .long (F jb (kM P N ja k))), (11, .long (F ja (kM P N ja k))), (10, .int (nI (64 * ja + k))), (9, .int (nI ja)), (8, .int (nI 0)), (3, .long lo), (5, .long hi), (0, .ref (ad 43)), (1, .int (nI ja)), (2, .int (nI jb))]) hx hb d_Mod_into_264 hl (by decide) rfl (fun ls hl => ?_)
                            refine lv_lload hx hb d_Mod_into_266 (lv_at hl 0 rfl) ?_
                            refine lv_lload_n hx hb d_Mod_into_268 rfl (lv_at hl 8 rfl) ?_
                            refine W.lcmp hx hb d_Mod_into_269 ?_
                            refine lv_if_le (tgt := 278) hx hb d_Mod_into_270 (by decide) (fun h270 => ?_) (fun h270 => ?_)
                            · skip
                              rw [lg_cmp_le] at h270
                              refine lv_lload_n hx hb d_Mod_into_278 rfl (lv_at hl 8 rfl) ?_
                              refine lv_lstore_n (lv' := [(3, .long lo), (16, .long (((F ja (kM P N ja k)) / (F jb (kM P N ja k))) + 1)), (7, .int (nI 0)), (15, .int (nI 0)), (13, .long (F jb (kM P N ja k))), (11, .long (F ja (kM P N ja k))), (10, .int (nI (64 * ja + k))), (9, .int (nI ja)), (8, .int (nI 0)), (5, .long hi), (0, .ref (ad 43)), (1, .int (nI ja)), (2, .int (nI jb))]) hx hb d_Mod_into_279 rfl hl (by decide) rfl (fun ls hl => ?_)
                              refine lv_iinc (v := (nI ((64 * ja + k) + 1))) (lv' := [(10, .int (nI ((64 * ja + k) + 1))), (3, .long lo), (16, .long (((F ja (kM P N ja k)) / (F jb (kM P N ja k))) + 1)), (7, .int (nI 0)), (15, .int (nI 0)), (13, .long (F jb (kM P N ja k))), (11, .long (F ja (kM P N ja k))), (9, .int (nI ja)), (8, .int (nI 0)), (5, .long hi), (0, .ref (ad 43)), (1, .int (nI ja)), (2, .int (nI jb))]) hx hb d_Mod_into_280 hl (k := 6) rfl (nI_1 _) (by decide) rfl (fun ls hl => ?_)
                              refine lv_goto (tgt := 59) hx hb d_Mod_into_283 (by decide) ?_
                              exact ih59a (k + 1) lo hi (nI 0) _ _ _ (by omega) (by omega) (by first | exact inI_s hI (sU_s (k := kM P N ja)) (ca_1 h128) (hi_1 h149) (lo_1 h123) | exact inI_s hI (sU_s (k := kM P N ja)) (ca_1 h128) (hi_2 h149 h156) (lo_1 h123) | exact inI_s hI (sU_s (k := kM P N ja)) (ca_1 h128) (hi_3 h149 h156 h167) (lo_1 h123) | exact inI_s hI (sU_s (k := kM P N ja)) (ca_1 h128) (hi_4 h149 h156 h167) (lo_1 h123) | exact inI_s hI (sU_s (k := kM P N ja)) (ca_2 h135 h123) (hi_1 h149) (lo_1 h123) | exact inI_s hI (sU_s (k := kM P N ja)) (ca_2 h135 h123) (hi_2 h149 h156) (lo_1 h123) | exact inI_s hI (sU_s (k := kM P N ja)) (ca_2 h135 h123) (hi_3 h149 h156 h167) (lo_1 h123) | exact inI_s hI (sU_s (k := kM P N ja)) (ca_2 h135 h123) (hi_4 h149 h156 h167) (lo_1 h123) | exact inI_s hI (sU_s (k := kM P N ja)) (ca_3 h128 h135 h123) (hi_1 h149) (lo_1 h123) | exact inI_s hI (sU_s (k := kM P N ja)) (ca_3 h128 h135 h123) (hi_2 h149 h156) (lo_1 h123) | exact inI_s hI (sU_s (k := kM P N ja)) (ca_3 h128 h135 h123) (hi_3 h149 h156 h167) (lo_1 h123) | exact inI_s hI (sU_s (k := kM P N ja)) (ca_3 h128 h135 h123) (hi_4 h149 h156 h167) (lo_1 h123) | exact inI_s hI (sU_s (k := kM P N ja)) (ca_k hI h123 h189) (hi_n h123) (lo_2 h189) | exact inI_s hI (sU_s (k := kM P N ja)) (ca_1 h219) (hi_n h123) (lo_3 h189 h123 (fun y => h198 y.1) h255 h270) | exact inI_s hI (sU_s (k := kM P N ja)) (ca_1 h219) (hi_n h123) (lo_4 h189 h123 (fun y => h198 y.1) h255 h270) | exact inI_s hI (sU_s (k := kM P N ja)) (ca_1 h219) (hi_n h123) (lo_5 h189 h123 h255 h270) | exact inI_s hI (sU_s (k := kM P N ja)) (ca_1 h219) (hi_n h123) (lo_6 h189 h123 h255 h270) | exact inI_s hI (sU_s (k := kM P N ja)) (ca_4 h219 h123 (fun y => h198 y.1)) (hi_n h123) (lo_3 h189 h123 (fun y => h198 y.1) h255 h270) | exact inI_s hI (sU_s (k := kM P N ja)) (ca_4 h219 h123 (fun y => h198 y.1)) (hi_n h123) (lo_4 h189 h123 (fun y => h198 y.1) h255 h270) | exact inI_s hI (sU_s (k := kM P N ja)) (ca_4 h219 h123 (fun y => h198 y.1)) (hi_n h123) (lo_5 h189 h123 h255 h270) | exact inI_s hI (sU_s (k := kM P N ja)) (ca_4 h219 h123 (fun y => h198 y.1)) (hi_n h123) (lo_6 h189 h123 h255 h270) | exact inI_s hI (sU_s (k := kM P N ja)) (ca_1 h219) (hi_n h123) (lo_3 h189 h123 (fun y => h207 y.2) h255 h270) | exact inI_s hI (sU_s (k := kM P N ja)) (ca_1 h219) (hi_n h123) (lo_4 h189 h123 (fun y => h207 y.2) h255 h270) | exact inI_s hI (sU_s (k := kM P N ja)) (ca_1 h219) (hi_n h123) (lo_5 h189 h123 h255 h270) | exact inI_s hI (sU_s (k := kM P N ja)) (ca_1 h219) (hi_n h123) (lo_6 h189 h123 h255 h270) | exact inI_s hI (sU_s (k := kM P N ja)) (ca_4 h219 h123 (fun y => h207 y.2)) (hi_n h123) (lo_3 h189 h123 (fun y => h207 y.2) h255 h270) | exact inI_s hI (sU_s (k := kM P N ja)) (ca_4 h219 h123 (fun y => h207 y.2)) (hi_n h123) (lo_4 h189 h123 (fun y => h207 y.2) h255 h270) | exact inI_s hI (sU_s (k := kM P N ja)) (ca_4 h219 h123 (fun y => h207 y.2)) (hi_n h123) (lo_5 h189 h123 h255 h270) | exact inI_s hI (sU_s (k := kM P N ja)) (ca_4 h219 h123 (fun y => h207 y.2)) (hi_n h123) (lo_6 h189 h123 h255 h270) | exact inI_s hI (sU_s (k := kM P N ja)) (ca_1 h219) (hi_n h123) (lo_b h198 h207) | exact inI_s hI (sU_s (k := kM P N ja)) (ca_5 h198 h207) (hi_n h123) (lo_b h198 h207)) hZ (lv_sub hl [0, 7, 8, 1, 9, 3, 10, 11, 12] rfl)
                            · skip
                              rw [lg_cmp_le] at h270
                              refine lv_lload hx hb d_Mod_into_273 (lv_at hl 0 rfl) ?_
                              refine lv_goto (tgt := 279) hx hb d_Mod_into_275 (by decide) ?_
                              refine lv_lstore_n (lv' := [(3, .long (((F ja (kM P N ja k)) / (F jb (kM P N ja k))) + 1)), (16, .long (((F ja (kM P N ja k)) / (F jb (kM P N ja k))) + 1)), (7, .int (nI 0)), (15, .int (nI 0)), (13, .long (F jb (kM P N ja k))), (11, .long (F ja (kM P N ja k))), (10, .int (nI (64 * ja + k))), (9, .int (nI ja)), (8, .int (nI 0)), (5, .long hi), (0, .ref (ad 43)), (1, .int (nI ja)), (2, .int (nI jb))]) hx hb d_Mod_into_279 rfl hl (by decide) rfl (fun ls hl => ?_)
                              refine lv_iinc (v := (nI ((64 * ja + k) + 1))) (lv' := [(10, .int (nI ((64 * ja + k) + 1))), (3, .long (((F ja (kM P N ja k)) / (F jb (kM P N ja k))) + 1)), (16, .long (((F ja (kM P N ja k)) / (F jb (kM P N ja k))) + 1)), (7, .int (nI 0)), (15, .int (nI 0)), (13, .long (F jb (kM P N ja k))), (11, .long (F ja (kM P N ja k))), (9, .int (nI ja)), (8, .int (nI 0)), (5, .long hi), (0, .ref (ad 43)), (1, .int (nI ja)), (2, .int (nI jb))]) hx hb d_Mod_into_280 hl (k := 6) rfl (nI_1 _) (by decide) rfl (fun ls hl => ?_)
                              refine lv_goto (tgt := 59) hx hb d_Mod_into_283 (by decide) ?_
                              exact ih59a (k + 1) (((F ja (kM P N ja k)) / (F jb (kM P N ja k))) + 1) hi (nI 0) _ _ _ (by omega) (by omega) (by first | exact inI_s hI (sU_s (k := kM P N ja)) (ca_1 h128) (hi_1 h149) (lo_1 h123) | exact inI_s hI (sU_s (k := kM P N ja)) (ca_1 h128) (hi_2 h149 h156) (lo_1 h123) | exact inI_s hI (sU_s (k := kM P N ja)) (ca_1 h128) (hi_3 h149 h156 h167) (lo_1 h123) | exact inI_s hI (sU_s (k := kM P N ja)) (ca_1 h128) (hi_4 h149 h156 h167) (lo_1 h123) | exact inI_s hI (sU_s (k := kM P N ja)) (ca_2 h135 h123) (hi_1 h149) (lo_1 h123) | exact inI_s hI (sU_s (k := kM P N ja)) (ca_2 h135 h123) (hi_2 h149 h156) (lo_1 h123) | exact inI_s hI (sU_s (k := kM P N ja)) (ca_2 h135 h123) (hi_3 h149 h156 h167) (lo_1 h123) | exact inI_s hI (sU_s (k := kM P N ja)) (ca_2 h135 h123) (hi_4 h149 h156 h167) (lo_1 h123) | exact inI_s hI (sU_s (k := kM P N ja)) (ca_3 h128 h135 h123) (hi_1 h149) (lo_1 h123) | exact inI_s hI (sU_s (k := kM P N ja)) (ca_3 h128 h135 h123) (hi_2 h149 h156) (lo_1 h123) | exact inI_s hI (sU_s (k := kM P N ja)) (ca_3 h128 h135 h123) (hi_3 h149 h156 h167) (lo_1 h123) | exact inI_s hI (sU_s (k := kM P N ja)) (ca_3 h128 h135 h123) (hi_4 h149 h156 h167) (lo_1 h123) | exact inI_s hI (sU_s (k := kM P N ja)) (ca_k hI h123 h189) (hi_n h123) (lo_2 h189) | exact inI_s hI (sU_s (k := kM P N ja)) (ca_1 h219) (hi_n h123) (lo_3 h189 h123 (fun y => h198 y.1) h255 h270) | exact inI_s hI (sU_s (k := kM P N ja)) (ca_1 h219) (hi_n h123) (lo_4 h189 h123 (fun y => h198 y.1) h255 h270) | exact inI_s hI (sU_s (k := kM P N ja)) (ca_1 h219) (hi_n h123) (lo_5 h189 h123 h255 h270) | exact inI_s hI (sU_s (k := kM P N ja)) (ca_1 h219) (hi_n h123) (lo_6 h189 h123 h255 h270) | exact inI_s hI (sU_s (k := kM P N ja)) (ca_4 h219 h123 (fun y => h198 y.1)) (hi_n h123) (lo_3 h189 h123 (fun y => h198 y.1) h255 h270) | exact inI_s hI (sU_s (k := kM P N ja)) (ca_4 h219 h123 (fun y => h198 y.1)) (hi_n h123) (lo_4 h189 h123 (fun y => h198 y.1) h255 h270) | exact inI_s hI (sU_s (k := kM P N ja)) (ca_4 h219 h123 (fun y => h198 y.1)) (hi_n h123) (lo_5 h189 h123 h255 h270) | exact inI_s hI (sU_s (k := kM P N ja)) (ca_4 h219 h123 (fun y => h198 y.1)) (hi_n h123) (lo_6 h189 h123 h255 h270) | exact inI_s hI (sU_s (k := kM P N ja)) (ca_1 h219) (hi_n h123) (lo_3 h189 h123 (fun y => h207 y.2) h255 h270) | exact inI_s hI (sU_s (k := kM P N ja)) (ca_1 h219) (hi_n h123) (lo_4 h189 h123 (fun y => h207 y.2) h255 h270) | exact inI_s hI (sU_s (k := kM P N ja)) (ca_1 h219) (hi_n h123) (lo_5 h189 h123 h255 h270) | exact inI_s hI (sU_s (k := kM P N ja)) (ca_1 h219) (hi_n h123) (lo_6 h189 h123 h255 h270) | exact inI_s hI (sU_s (k := kM P N ja)) (ca_4 h219 h123 (fun y => h207 y.2)) (hi_n h123) (lo_3 h189 h123 (fun y => h207 y.2) h255 h270) | exact inI_s hI (sU_s (k := kM P N ja)) (ca_4 h219 h123 (fun y => h207 y.2)) (hi_n h123) (lo_4 h189 h123 (fun y => h207 y.2) h255 h270) | exact inI_s hI (sU_s (k := kM P N ja)) (ca_4 h219 h123 (fun y => h207 y.2)) (hi_n h123) (lo_5 h189 h123 h255 h270) | exact inI_s hI (sU_s (k := kM P N ja)) (ca_4 h219 h123 (fun y => h207 y.2)) (hi_n h123) (lo_6 h189 h123 h255 h270) | exact inI_s hI (sU_s (k := kM P N ja)) (ca_1 h219) (hi_n h123) (lo_b h198 h207) | exact inI_s hI (sU_s (k := kM P N ja)) (ca_5 h198 h207) (hi_n h123) (lo_b h198 h207)) hZ (lv_sub hl [0, 7, 8, 1, 9, 3, 10, 11, 12] rfl)
                        · skip
                          have h236 : ¬ 0 = 0 := fun z9 => h236 ((nI_eq (a := 0) (b := 0) (by omega) (by omega)).mpr z9)
                          exact absurd h236 (by decide)
                      · skip
                        refine lv_iload hx hb d_Mod_into_222 (lv_at hl 0 rfl) ?_
                        refine lv_if_ne (tgt := 231) hx hb d_Mod_into_224 (by decide) (fun h224 => ?_) (fun h224 => ?_)
                        · skip
                          have h224 : ¬ 0 = 0 := fun z9 => h224 ((nI_eq (a := 0) (b := 0) (by omega) (by omega)).mpr z9)
                          exact absurd h224 (by decide)
                        · skip
                          have h224 : 0 = 0 := (nI_eq (a := 0) (b := 0) (by omega) (by omega)).mp h224
                          refine lv_iconst (v := (nI 1)) hx hb d_Mod_into_227 rfl ?_
                          refine lv_goto (tgt := 232) hx hb d_Mod_into_228 (by decide) ?_
                          refine lv_istore (lv' := [(7, .int (nI 1)), (15, .int (nI 0)), (13, .long (F jb (kM P N ja k))), (11, .long (F ja (kM P N ja k))), (10, .int (nI (64 * ja + k))), (9, .int (nI ja)), (8, .int (nI 0)), (3, .long lo), (5, .long hi), (0, .ref (ad 43)), (1, .int (nI ja)), (2, .int (nI jb))]) hx hb d_Mod_into_232 hl (by decide) rfl (fun ls hl => ?_)
                          refine lv_iload hx hb d_Mod_into_234 (lv_at hl 1 rfl) ?_
                          refine lv_if_eq (tgt := 243) hx hb d_Mod_into_236 (by decide) (fun h236 => ?_) (fun h236 => ?_)
                          · skip
                            have h236 : 0 = 0 := (nI_eq (a := 0) (b := 0) (by omega) (by omega)).mp h236
                            refine lv_lload hx hb d_Mod_into_243 (lv_at hl 3 rfl) ?_
                            refine lv_lload hx hb d_Mod_into_245 (lv_at hl 2 rfl) ?_
                            refine lv_ldiv hx hb d_Mod_into_247 (i64_l0 h123) ?_
                            refine lv_lload hx hb d_Mod_into_248 (lv_at hl 3 rfl) ?_
                            refine lv_lload hx hb d_Mod_into_250 (lv_at hl 2 rfl) ?_
                            refine lv_lrem hx hb d_Mod_into_252 (i64_l0 h123) ?_
                            refine lv_lconst (v := 0) hx hb d_Mod_into_253 rfl ?_
                            refine W.lcmp hx hb d_Mod_into_254 ?_
                            refine lv_if_eq (tgt := 262) hx hb d_Mod_into_255 (by decide) (fun h255 => ?_) (fun h255 => ?_)
                            · skip
                              rw [lg_cmp_eq] at h255
                              refine lv_lconst (v := 0) hx hb d_Mod_into_262 rfl ?_
                              refine lv_ladd hx hb d_Mod_into_263 ?_
                              refine lv_lstore (lv' := [(16, .long (((F ja (kM P N ja k)) / (F jb (kM P N ja k))) + 0)), (7, .int (nI 1)), (15, .int (nI 0)), (13, .long (F jb (kM P N ja k))), (11, .long (F ja (kM P N ja k))), (10, .int (nI (64 * ja + k))), (9, .int (nI ja)), (8, .int (nI 0)), (3, .long lo), (5, .long hi), (0, .ref (ad 43)), (1, .int (nI ja)), (2, .int (nI jb))]) hx hb d_Mod_into_264 hl (by decide) rfl (fun ls hl => ?_)
                              refine lv_lload hx hb d_Mod_into_266 (lv_at hl 0 rfl) ?_
                              refine lv_lload_n hx hb d_Mod_into_268 rfl (lv_at hl 8 rfl) ?_
                              refine W.lcmp hx hb d_Mod_into_269 ?_
                              refine lv_if_le (tgt := 278) hx hb d_Mod_into_270 (by decide) (fun h270 => ?_) (fun h270 => ?_)
                              · skip
                                rw [lg_cmp_le] at h270
                                refine lv_lload_n hx hb d_Mod_into_278 rfl (lv_at hl 8 rfl) ?_
                                refine lv_lstore_n (lv' := [(3, .long lo), (16, .long (((F ja (kM P N ja k)) / (F jb (kM P N ja k))) + 0)), (7, .int (nI 1)), (15, .int (nI 0)), (13, .long (F jb (kM P N ja k))), (11, .long (F ja (kM P N ja k))), (10, .int (nI (64 * ja + k))), (9, .int (nI ja)), (8, .int (nI 0)), (5, .long hi), (0, .ref (ad 43)), (1, .int (nI ja)), (2, .int (nI jb))]) hx hb d_Mod_into_279 rfl hl (by decide) rfl (fun ls hl => ?_)
                                refine lv_iinc (v := (nI ((64 * ja + k) + 1))) (lv' := [(10, .int (nI ((64 * ja + k) + 1))), (3, .long lo), (16, .long (((F ja (kM P N ja k)) / (F jb (kM P N ja k))) + 0)), (7, .int (nI 1)), (15, .int (nI 0)), (13, .long (F jb (kM P N ja k))), (11, .long (F ja (kM P N ja k))), (9, .int (nI ja)), (8, .int (nI 0)), (5, .long hi), (0, .ref (ad 43)), (1, .int (nI ja)), (2, .int (nI jb))]) hx hb d_Mod_into_280 hl (k := 6) rfl (nI_1 _) (by decide) rfl (fun ls hl => ?_)
                                refine lv_goto (tgt := 59) hx hb d_Mod_into_283 (by decide) ?_
                                exact ih59a (k + 1) lo hi (nI 1) _ _ _ (by omega) (by omega) (by first | exact inI_s hI (sU_s (k := kM P N ja)) (ca_1 h128) (hi_1 h149) (lo_1 h123) | exact inI_s hI (sU_s (k := kM P N ja)) (ca_1 h128) (hi_2 h149 h156) (lo_1 h123) | exact inI_s hI (sU_s (k := kM P N ja)) (ca_1 h128) (hi_3 h149 h156 h167) (lo_1 h123) | exact inI_s hI (sU_s (k := kM P N ja)) (ca_1 h128) (hi_4 h149 h156 h167) (lo_1 h123) | exact inI_s hI (sU_s (k := kM P N ja)) (ca_2 h135 h123) (hi_1 h149) (lo_1 h123) | exact inI_s hI (sU_s (k := kM P N ja)) (ca_2 h135 h123) (hi_2 h149 h156) (lo_1 h123) | exact inI_s hI (sU_s (k := kM P N ja)) (ca_2 h135 h123) (hi_3 h149 h156 h167) (lo_1 h123) | exact inI_s hI (sU_s (k := kM P N ja)) (ca_2 h135 h123) (hi_4 h149 h156 h167) (lo_1 h123) | exact inI_s hI (sU_s (k := kM P N ja)) (ca_3 h128 h135 h123) (hi_1 h149) (lo_1 h123) | exact inI_s hI (sU_s (k := kM P N ja)) (ca_3 h128 h135 h123) (hi_2 h149 h156) (lo_1 h123) | exact inI_s hI (sU_s (k := kM P N ja)) (ca_3 h128 h135 h123) (hi_3 h149 h156 h167) (lo_1 h123) | exact inI_s hI (sU_s (k := kM P N ja)) (ca_3 h128 h135 h123) (hi_4 h149 h156 h167) (lo_1 h123) | exact inI_s hI (sU_s (k := kM P N ja)) (ca_k hI h123 h189) (hi_n h123) (lo_2 h189) | exact inI_s hI (sU_s (k := kM P N ja)) (ca_1 h219) (hi_n h123) (lo_3 h189 h123 (fun y => h198 y.1) h255 h270) | exact inI_s hI (sU_s (k := kM P N ja)) (ca_1 h219) (hi_n h123) (lo_4 h189 h123 (fun y => h198 y.1) h255 h270) | exact inI_s hI (sU_s (k := kM P N ja)) (ca_1 h219) (hi_n h123) (lo_5 h189 h123 h255 h270) | exact inI_s hI (sU_s (k := kM P N ja)) (ca_1 h219) (hi_n h123) (lo_6 h189 h123 h255 h270) | exact inI_s hI (sU_s (k := kM P N ja)) (ca_4 h219 h123 (fun y => h198 y.1)) (hi_n h123) (lo_3 h189 h123 (fun y => h198 y.1) h255 h270) | exact inI_s hI (sU_s (k := kM P N ja)) (ca_4 h219 h123 (fun y => h198 y.1)) (hi_n h123) (lo_4 h189 h123 (fun y => h198 y.1) h255 h270) | exact inI_s hI (sU_s (k := kM P N ja)) (ca_4 h219 h123 (fun y => h198 y.1)) (hi_n h123) (lo_5 h189 h123 h255 h270) | exact inI_s hI (sU_s (k := kM P N ja)) (ca_4 h219 h123 (fun y => h198 y.1)) (hi_n h123) (lo_6 h189 h123 h255 h270) | exact inI_s hI (sU_s (k := kM P N ja)) (ca_1 h219) (hi_n h123) (lo_3 h189 h123 (fun y => h207 y.2) h255 h270) | exact inI_s hI (sU_s (k := kM P N ja)) (ca_1 h219) (hi_n h123) (lo_4 h189 h123 (fun y => h207 y.2) h255 h270) | exact inI_s hI (sU_s (k := kM P N ja)) (ca_1 h219) (hi_n h123) (lo_5 h189 h123 h255 h270) | exact inI_s hI (sU_s (k := kM P N ja)) (ca_1 h219) (hi_n h123) (lo_6 h189 h123 h255 h270) | exact inI_s hI (sU_s (k := kM P N ja)) (ca_4 h219 h123 (fun y => h207 y.2)) (hi_n h123) (lo_3 h189 h123 (fun y => h207 y.2) h255 h270) | exact inI_s hI (sU_s (k := kM P N ja)) (ca_4 h219 h123 (fun y => h207 y.2)) (hi_n h123) (lo_4 h189 h123 (fun y => h207 y.2) h255 h270) | exact inI_s hI (sU_s (k := kM P N ja)) (ca_4 h219 h123 (fun y => h207 y.2)) (hi_n h123) (lo_5 h189 h123 h255 h270) | exact inI_s hI (sU_s (k := kM P N ja)) (ca_4 h219 h123 (fun y => h207 y.2)) (hi_n h123) (lo_6 h189 h123 h255 h270) | exact inI_s hI (sU_s (k := kM P N ja)) (ca_1 h219) (hi_n h123) (lo_b h198 h207) | exact inI_s hI (sU_s (k := kM P N ja)) (ca_5 h198 h207) (hi_n h123) (lo_b h198 h207)) hZ (lv_sub hl [0, 7, 8, 1, 9, 3, 10, 11, 12] rfl)
                              · skip
                                rw [lg_cmp_le] at h270
                                refine lv_lload hx hb d_Mod_into_273 (lv_at hl 0 rfl) ?_
                                refine lv_goto (tgt := 279) hx hb d_Mod_into_275 (by decide) ?_
                                refine lv_lstore_n (lv' := [(3, .long (((F ja (kM P N ja k)) / (F jb (kM P N ja k))) + 0)), (16, .long (((F ja (kM P N ja k)) / (F jb (kM P N ja k))) + 0)), (7, .int (nI 1)), (15, .int (nI 0)), (13, .long (F jb (kM P N ja k))), (11, .long (F ja (kM P N ja k))), (10, .int (nI (64 * ja + k))), (9, .int (nI ja)), (8, .int (nI 0)), (5, .long hi), (0, .ref (ad 43)), (1, .int (nI ja)), (2, .int (nI jb))]) hx hb d_Mod_into_279 rfl hl (by decide) rfl (fun ls hl => ?_)
                                refine lv_iinc (v := (nI ((64 * ja + k) + 1))) (lv' := [(10, .int (nI ((64 * ja + k) + 1))), (3, .long (((F ja (kM P N ja k)) / (F jb (kM P N ja k))) + 0)), (16, .long (((F ja (kM P N ja k)) / (F jb (kM P N ja k))) + 0)), (7, .int (nI 1)), (15, .int (nI 0)), (13, .long (F jb (kM P N ja k))), (11, .long (F ja (kM P N ja k))), (9, .int (nI ja)), (8, .int (nI 0)), (5, .long hi), (0, .ref (ad 43)), (1, .int (nI ja)), (2, .int (nI jb))]) hx hb d_Mod_into_280 hl (k := 6) rfl (nI_1 _) (by decide) rfl (fun ls hl => ?_)
                                refine lv_goto (tgt := 59) hx hb d_Mod_into_283 (by decide) ?_
                                exact ih59a (k + 1) (((F ja (kM P N ja k)) / (F jb (kM P N ja k))) + 0) hi (nI 1) _ _ _ (by omega) (by omega) (by first | exact inI_s hI (sU_s (k := kM P N ja)) (ca_1 h128) (hi_1 h149) (lo_1 h123) | exact inI_s hI (sU_s (k := kM P N ja)) (ca_1 h128) (hi_2 h149 h156) (lo_1 h123) | exact inI_s hI (sU_s (k := kM P N ja)) (ca_1 h128) (hi_3 h149 h156 h167) (lo_1 h123) | exact inI_s hI (sU_s (k := kM P N ja)) (ca_1 h128) (hi_4 h149 h156 h167) (lo_1 h123) | exact inI_s hI (sU_s (k := kM P N ja)) (ca_2 h135 h123) (hi_1 h149) (lo_1 h123) | exact inI_s hI (sU_s (k := kM P N ja)) (ca_2 h135 h123) (hi_2 h149 h156) (lo_1 h123) | exact inI_s hI (sU_s (k := kM P N ja)) (ca_2 h135 h123) (hi_3 h149 h156 h167) (lo_1 h123) | exact inI_s hI (sU_s (k := kM P N ja)) (ca_2 h135 h123) (hi_4 h149 h156 h167) (lo_1 h123) | exact inI_s hI (sU_s (k := kM P N ja)) (ca_3 h128 h135 h123) (hi_1 h149) (lo_1 h123) | exact inI_s hI (sU_s (k := kM P N ja)) (ca_3 h128 h135 h123) (hi_2 h149 h156) (lo_1 h123) | exact inI_s hI (sU_s (k := kM P N ja)) (ca_3 h128 h135 h123) (hi_3 h149 h156 h167) (lo_1 h123) | exact inI_s hI (sU_s (k := kM P N ja)) (ca_3 h128 h135 h123) (hi_4 h149 h156 h167) (lo_1 h123) | exact inI_s hI (sU_s (k := kM P N ja)) (ca_k hI h123 h189) (hi_n h123) (lo_2 h189) | exact inI_s hI (sU_s (k := kM P N ja)) (ca_1 h219) (hi_n h123) (lo_3 h189 h123 (fun y => h198 y.1) h255 h270) | exact inI_s hI (sU_s (k := kM P N ja)) (ca_1 h219) (hi_n h123) (lo_4 h189 h123 (fun y => h198 y.1) h255 h270) | exact inI_s hI (sU_s (k := kM P N ja)) (ca_1 h219) (hi_n h123) (lo_5 h189 h123 h255 h270) | exact inI_s hI (sU_s (k := kM P N ja)) (ca_1 h219) (hi_n h123) (lo_6 h189 h123 h255 h270) | exact inI_s hI (sU_s (k := kM P N ja)) (ca_4 h219 h123 (fun y => h198 y.1)) (hi_n h123) (lo_3 h189 h123 (fun y => h198 y.1) h255 h270) | exact inI_s hI (sU_s (k := kM P N ja)) (ca_4 h219 h123 (fun y => h198 y.1)) (hi_n h123) (lo_4 h189 h123 (fun y => h198 y.1) h255 h270) | exact inI_s hI (sU_s (k := kM P N ja)) (ca_4 h219 h123 (fun y => h198 y.1)) (hi_n h123) (lo_5 h189 h123 h255 h270) | exact inI_s hI (sU_s (k := kM P N ja)) (ca_4 h219 h123 (fun y => h198 y.1)) (hi_n h123) (lo_6 h189 h123 h255 h270) | exact inI_s hI (sU_s (k := kM P N ja)) (ca_1 h219) (hi_n h123) (lo_3 h189 h123 (fun y => h207 y.2) h255 h270) | exact inI_s hI (sU_s (k := kM P N ja)) (ca_1 h219) (hi_n h123) (lo_4 h189 h123 (fun y => h207 y.2) h255 h270) | exact inI_s hI (sU_s (k := kM P N ja)) (ca_1 h219) (hi_n h123) (lo_5 h189 h123 h255 h270) | exact inI_s hI (sU_s (k := kM P N ja)) (ca_1 h219) (hi_n h123) (lo_6 h189 h123 h255 h270) | exact inI_s hI (sU_s (k := kM P N ja)) (ca_4 h219 h123 (fun y => h207 y.2)) (hi_n h123) (lo_3 h189 h123 (fun y => h207 y.2) h255 h270) | exact inI_s hI (sU_s (k := kM P N ja)) (ca_4 h219 h123 (fun y => h207 y.2)) (hi_n h123) (lo_4 h189 h123 (fun y => h207 y.2) h255 h270) | exact inI_s hI (sU_s (k := kM P N ja)) (ca_4 h219 h123 (fun y => h207 y.2)) (hi_n h123) (lo_5 h189 h123 h255 h270) | exact inI_s hI (sU_s (k := kM P N ja)) (ca_4 h219 h123 (fun y => h207 y.2)) (hi_n h123) (lo_6 h189 h123 h255 h270) | exact inI_s hI (sU_s (k := kM P N ja)) (ca_1 h219) (hi_n h123) (lo_b h198 h207) | exact inI_s hI (sU_s (k := kM P N ja)) (ca_5 h198 h207) (hi_n h123) (lo_b h198 h207)) hZ (lv_sub hl [0, 7, 8, 1, 9, 3, 10, 11, 12] rfl)
                            · skip
                              rw [lg_cmp_eq] at h255
                              refine lv_lconst (v := 1) hx hb d_Mod_into_258 rfl ?_
                              refine lv_goto (tgt := 263) hx hb d_Mod_into_259 (by decide) ?_
                              refine lv_ladd hx hb d_Mod_into_263 ?_
                              refine lv_lstore (lv' := [(16, .long (((F ja (kM P N ja k)) / (F jb (kM P N ja k))) + 1)), (7, .int (nI 1)), (15, .int (nI 0)), (13, .long (F jb (kM P N ja k))), (11, .long (F ja (kM P N ja k))), (10, .int (nI (64 * ja + k))), (9, .int (nI ja)), (8, .int (nI 0)), (3, .long lo), (5, .long hi), (0, .ref (ad 43)), (1, .int (nI ja)), (2, .int (nI jb))]) hx hb d_Mod_into_264 hl (by decide) rfl (fun ls hl => ?_)
                              refine lv_lload hx hb d_Mod_into_266 (lv_at hl 0 rfl) ?_
                              refine lv_lload_n hx hb d_Mod_into_268 rfl (lv_at hl 8 rfl) ?_
                              refine W.lcmp hx hb d_Mod_into_269 ?_
                              refine lv_if_le (tgt := 278) hx hb d_Mod_into_270 (by decide) (fun h270 => ?_) (fun h270 => ?_)
                              · skip
                                rw [lg_cmp_le] at h270
                                refine lv_lload_n hx hb d_Mod_into_278 rfl (lv_at hl 8 rfl) ?_
                                refine lv_lstore_n (lv' := [(3, .long lo), (16, .long (((F ja (kM P N ja k)) / (F jb (kM P N ja k))) + 1)), (7, .int (nI 1)), (15, .int (nI 0)), (13, .long (F jb (kM P N ja k))), (11, .long (F ja (kM P N ja k))), (10, .int (nI (64 * ja + k))), (9, .int (nI ja)), (8, .int (nI 0)), (5, .long hi), (0, .ref (ad 43)), (1, .int (nI ja)), (2, .int (nI jb))]) hx hb d_Mod_into_279 rfl hl (by decide) rfl (fun ls hl => ?_)
                                refine lv_iinc (v := (nI ((64 * ja + k) + 1))) (lv' := [(10, .int (nI ((64 * ja + k) + 1))), (3, .long lo), (16, .long (((F ja (kM P N ja k)) / (F jb (kM P N ja k))) + 1)), (7, .int (nI 1)), (15, .int (nI 0)), (13, .long (F jb (kM P N ja k))), (11, .long (F ja (kM P N ja k))), (9, .int (nI ja)), (8, .int (nI 0)), (5, .long hi), (0, .ref (ad 43)), (1, .int (nI ja)), (2, .int (nI jb))]) hx hb d_Mod_into_280 hl (k := 6) rfl (nI_1 _) (by decide) rfl (fun ls hl => ?_)
                                refine lv_goto (tgt := 59) hx hb d_Mod_into_283 (by decide) ?_
                                exact ih59a (k + 1) lo hi (nI 1) _ _ _ (by omega) (by omega) (by first | exact inI_s hI (sU_s (k := kM P N ja)) (ca_1 h128) (hi_1 h149) (lo_1 h123) | exact inI_s hI (sU_s (k := kM P N ja)) (ca_1 h128) (hi_2 h149 h156) (lo_1 h123) | exact inI_s hI (sU_s (k := kM P N ja)) (ca_1 h128) (hi_3 h149 h156 h167) (lo_1 h123) | exact inI_s hI (sU_s (k := kM P N ja)) (ca_1 h128) (hi_4 h149 h156 h167) (lo_1 h123) | exact inI_s hI (sU_s (k := kM P N ja)) (ca_2 h135 h123) (hi_1 h149) (lo_1 h123) | exact inI_s hI (sU_s (k := kM P N ja)) (ca_2 h135 h123) (hi_2 h149 h156) (lo_1 h123) | exact inI_s hI (sU_s (k := kM P N ja)) (ca_2 h135 h123) (hi_3 h149 h156 h167) (lo_1 h123) | exact inI_s hI (sU_s (k := kM P N ja)) (ca_2 h135 h123) (hi_4 h149 h156 h167) (lo_1 h123) | exact inI_s hI (sU_s (k := kM P N ja)) (ca_3 h128 h135 h123) (hi_1 h149) (lo_1 h123) | exact inI_s hI (sU_s (k := kM P N ja)) (ca_3 h128 h135 h123) (hi_2 h149 h156) (lo_1 h123) | exact inI_s hI (sU_s (k := kM P N ja)) (ca_3 h128 h135 h123) (hi_3 h149 h156 h167) (lo_1 h123) | exact inI_s hI (sU_s (k := kM P N ja)) (ca_3 h128 h135 h123) (hi_4 h149 h156 h167) (lo_1 h123) | exact inI_s hI (sU_s (k := kM P N ja)) (ca_k hI h123 h189) (hi_n h123) (lo_2 h189) | exact inI_s hI (sU_s (k := kM P N ja)) (ca_1 h219) (hi_n h123) (lo_3 h189 h123 (fun y => h198 y.1) h255 h270) | exact inI_s hI (sU_s (k := kM P N ja)) (ca_1 h219) (hi_n h123) (lo_4 h189 h123 (fun y => h198 y.1) h255 h270) | exact inI_s hI (sU_s (k := kM P N ja)) (ca_1 h219) (hi_n h123) (lo_5 h189 h123 h255 h270) | exact inI_s hI (sU_s (k := kM P N ja)) (ca_1 h219) (hi_n h123) (lo_6 h189 h123 h255 h270) | exact inI_s hI (sU_s (k := kM P N ja)) (ca_4 h219 h123 (fun y => h198 y.1)) (hi_n h123) (lo_3 h189 h123 (fun y => h198 y.1) h255 h270) | exact inI_s hI (sU_s (k := kM P N ja)) (ca_4 h219 h123 (fun y => h198 y.1)) (hi_n h123) (lo_4 h189 h123 (fun y => h198 y.1) h255 h270) | exact inI_s hI (sU_s (k := kM P N ja)) (ca_4 h219 h123 (fun y => h198 y.1)) (hi_n h123) (lo_5 h189 h123 h255 h270) | exact inI_s hI (sU_s (k := kM P N ja)) (ca_4 h219 h123 (fun y => h198 y.1)) (hi_n h123) (lo_6 h189 h123 h255 h270) | exact inI_s hI (sU_s (k := kM P N ja)) (ca_1 h219) (hi_n h123) (lo_3 h189 h123 (fun y => h207 y.2) h255 h270) | exact inI_s hI (sU_s (k := kM P N ja)) (ca_1 h219) (hi_n h123) (lo_4 h189 h123 (fun y => h207 y.2) h255 h270) | exact inI_s hI (sU_s (k := kM P N ja)) (ca_1 h219) (hi_n h123) (lo_5 h189 h123 h255 h270) | exact inI_s hI (sU_s (k := kM P N ja)) (ca_1 h219) (hi_n h123) (lo_6 h189 h123 h255 h270) | exact inI_s hI (sU_s (k := kM P N ja)) (ca_4 h219 h123 (fun y => h207 y.2)) (hi_n h123) (lo_3 h189 h123 (fun y => h207 y.2) h255 h270) | exact inI_s hI (sU_s (k := kM P N ja)) (ca_4 h219 h123 (fun y => h207 y.2)) (hi_n h123) (lo_4 h189 h123 (fun y => h207 y.2) h255 h270) | exact inI_s hI (sU_s (k := kM P N ja)) (ca_4 h219 h123 (fun y => h207 y.2)) (hi_n h123) (lo_5 h189 h123 h255 h270) | exact inI_s hI (sU_s (k := kM P N ja)) (ca_4 h219 h123 (fun y => h207 y.2)) (hi_n h123) (lo_6 h189 h123 h255 h270) | exact inI_s hI (sU_s (k := kM P N ja)) (ca_1 h219) (hi_n h123) (lo_b h198 h207) | exact inI_s hI (sU_s (k := kM P N ja)) (ca_5 h198 h207) (hi_n h123) (lo_b h198 h207)) hZ (lv_sub hl [0, 7, 8, 1, 9, 3, 10, 11, 12] rfl)
                              · skip
                                rw [lg_cmp_le] at h270
                                refine lv_lload hx hb d_Mod_into_273 (lv_at hl 0 rfl) ?_
                                refine lv_goto (tgt := 279) hx hb d_Mod_into_275 (by decide) ?_
                                refine lv_lstore_n (lv' := [(3, .long (((F ja (kM P N ja k)) / (F jb (kM P N ja k))) + 1)), (16, .long (((F ja (kM P N ja k)) / (F jb (kM P N ja k))) + 1)), (7, .int (nI 1)), (15, .int (nI 0)), (13, .long (F jb (kM P N ja k))), (11, .long (F ja (kM P N ja k))), (10, .int (nI (64 * ja + k))), (9, .int (nI ja)), (8, .int (nI 0)), (5, .long hi), (0, .ref (ad 43)), (1, .int (nI ja)), (2, .int (nI jb))]) hx hb d_Mod_into_279 rfl hl (by decide) rfl (fun ls hl => ?_)
                                refine lv_iinc (v := (nI ((64 * ja + k) + 1))) (lv' := [(10, .int (nI ((64 * ja + k) + 1))), (3, .long (((F ja (kM P N ja k)) / (F jb (kM P N ja k))) + 1)), (16, .long (((F ja (kM P N ja k)) / (F jb (kM P N ja k))) + 1)), (7, .int (nI 1)), (15, .int (nI 0)), (13, .long (F jb (kM P N ja k))), (11, .long (F ja (kM P N ja k))), (9, .int (nI ja)), (8, .int (nI 0)), (5, .long hi), (0, .ref (ad 43)), (1, .int (nI ja)), (2, .int (nI jb))]) hx hb d_Mod_into_280 hl (k := 6) rfl (nI_1 _) (by decide) rfl (fun ls hl => ?_)
                                refine lv_goto (tgt := 59) hx hb d_Mod_into_283 (by decide) ?_
                                exact ih59a (k + 1) (((F ja (kM P N ja k)) / (F jb (kM P N ja k))) + 1) hi (nI 1) _ _ _ (by omega) (by omega) (by first | exact inI_s hI (sU_s (k := kM P N ja)) (ca_1 h128) (hi_1 h149) (lo_1 h123) | exact inI_s hI (sU_s (k := kM P N ja)) (ca_1 h128) (hi_2 h149 h156) (lo_1 h123) | exact inI_s hI (sU_s (k := kM P N ja)) (ca_1 h128) (hi_3 h149 h156 h167) (lo_1 h123) | exact inI_s hI (sU_s (k := kM P N ja)) (ca_1 h128) (hi_4 h149 h156 h167) (lo_1 h123) | exact inI_s hI (sU_s (k := kM P N ja)) (ca_2 h135 h123) (hi_1 h149) (lo_1 h123) | exact inI_s hI (sU_s (k := kM P N ja)) (ca_2 h135 h123) (hi_2 h149 h156) (lo_1 h123) | exact inI_s hI (sU_s (k := kM P N ja)) (ca_2 h135 h123) (hi_3 h149 h156 h167) (lo_1 h123) | exact inI_s hI (sU_s (k := kM P N ja)) (ca_2 h135 h123) (hi_4 h149 h156 h167) (lo_1 h123) | exact inI_s hI (sU_s (k := kM P N ja)) (ca_3 h128 h135 h123) (hi_1 h149) (lo_1 h123) | exact inI_s hI (sU_s (k := kM P N ja)) (ca_3 h128 h135 h123) (hi_2 h149 h156) (lo_1 h123) | exact inI_s hI (sU_s (k := kM P N ja)) (ca_3 h128 h135 h123) (hi_3 h149 h156 h167) (lo_1 h123) | exact inI_s hI (sU_s (k := kM P N ja)) (ca_3 h128 h135 h123) (hi_4 h149 h156 h167) (lo_1 h123) | exact inI_s hI (sU_s (k := kM P N ja)) (ca_k hI h123 h189) (hi_n h123) (lo_2 h189) | exact inI_s hI (sU_s (k := kM P N ja)) (ca_1 h219) (hi_n h123) (lo_3 h189 h123 (fun y => h198 y.1) h255 h270) | exact inI_s hI (sU_s (k := kM P N ja)) (ca_1 h219) (hi_n h123) (lo_4 h189 h123 (fun y => h198 y.1) h255 h270) | exact inI_s hI (sU_s (k := kM P N ja)) (ca_1 h219) (hi_n h123) (lo_5 h189 h123 h255 h270) | exact inI_s hI (sU_s (k := kM P N ja)) (ca_1 h219) (hi_n h123) (lo_6 h189 h123 h255 h270) | exact inI_s hI (sU_s (k := kM P N ja)) (ca_4 h219 h123 (fun y => h198 y.1)) (hi_n h123) (lo_3 h189 h123 (fun y => h198 y.1) h255 h270) | exact inI_s hI (sU_s (k := kM P N ja)) (ca_4 h219 h123 (fun y => h198 y.1)) (hi_n h123) (lo_4 h189 h123 (fun y => h198 y.1) h255 h270) | exact inI_s hI (sU_s (k := kM P N ja)) (ca_4 h219 h123 (fun y => h198 y.1)) (hi_n h123) (lo_5 h189 h123 h255 h270) | exact inI_s hI (sU_s (k := kM P N ja)) (ca_4 h219 h123 (fun y => h198 y.1)) (hi_n h123) (lo_6 h189 h123 h255 h270) | exact inI_s hI (sU_s (k := kM P N ja)) (ca_1 h219) (hi_n h123) (lo_3 h189 h123 (fun y => h207 y.2) h255 h270) | exact inI_s hI (sU_s (k := kM P N ja)) (ca_1 h219) (hi_n h123) (lo_4 h189 h123 (fun y => h207 y.2) h255 h270) | exact inI_s hI (sU_s (k := kM P N ja)) (ca_1 h219) (hi_n h123) (lo_5 h189 h123 h255 h270) | exact inI_s hI (sU_s (k := kM P N ja)) (ca_1 h219) (hi_n h123) (lo_6 h189 h123 h255 h270) | exact inI_s hI (sU_s (k := kM P N ja)) (ca_4 h219 h123 (fun y => h207 y.2)) (hi_n h123) (lo_3 h189 h123 (fun y => h207 y.2) h255 h270) | exact inI_s hI (sU_s (k := kM P N ja)) (ca_4 h219 h123 (fun y => h207 y.2)) (hi_n h123) (lo_4 h189 h123 (fun y => h207 y.2) h255 h270) | exact inI_s hI (sU_s (k := kM P N ja)) (ca_4 h219 h123 (fun y => h207 y.2)) (hi_n h123) (lo_5 h189 h123 h255 h270) | exact inI_s hI (sU_s (k := kM P N ja)) (ca_4 h219 h123 (fun y => h207 y.2)) (hi_n h123) (lo_6 h189 h123 h255 h270) | exact inI_s hI (sU_s (k := kM P N ja)) (ca_1 h219) (hi_n h123) (lo_b h198 h207) | exact inI_s hI (sU_s (k := kM P N ja)) (ca_5 h198 h207) (hi_n h123) (lo_b h198 h207)) hZ (lv_sub hl [0, 7, 8, 1, 9, 3, 10, 11, 12] rfl)
                          · skip
                            have h236 : ¬ 0 = 0 := fun z9 => h236 ((nI_eq (a := 0) (b := 0) (by omega) (by omega)).mpr z9)
                            exact absurd h236 (by decide)
                    · skip
                      rw [lg_cmp_eq] at h207
                      refine lv_iconst (v := (nI 1)) hx hb d_Mod_into_210 rfl ?_
                      refine lv_goto (tgt := 215) hx hb d_Mod_into_211 (by decide) ?_
                      refine lv_istore (lv' := [(15, .int (nI 1)), (13, .long (F jb (kM P N ja k))), (11, .long (F ja (kM P N ja k))), (10, .int (nI (64 * ja + k))), (9, .int (nI ja)), (8, .int (nI 0)), (3, .long lo), (5, .long hi), (7, .int ca), (0, .ref (ad 43)), (1, .int (nI ja)), (2, .int (nI jb))]) hx hb d_Mod_into_215 hl (by decide) rfl (fun ls hl => ?_)
                      refine lv_iload hx hb d_Mod_into_217 (lv_at hl 8 rfl) ?_
                      refine lv_if_eq (tgt := 231) hx hb d_Mod_into_219 (by decide) (fun h219 => ?_) (fun h219 => ?_)
                      · skip
                        refine lv_iconst (v := (nI 0)) hx hb d_Mod_into_231 rfl ?_
                        refine lv_istore (lv' := [(7, .int (nI 0)), (15, .int (nI 1)), (13, .long (F jb (kM P N ja k))), (11, .long (F ja (kM P N ja k))), (10, .int (nI (64 * ja + k))), (9, .int (nI ja)), (8, .int (nI 0)), (3, .long lo), (5, .long hi), (0, .ref (ad 43)), (1, .int (nI ja)), (2, .int (nI jb))]) hx hb d_Mod_into_232 hl (by decide) rfl (fun ls hl => ?_)
                        refine lv_iload hx hb d_Mod_into_234 (lv_at hl 1 rfl) ?_
                        refine lv_if_eq (tgt := 243) hx hb d_Mod_into_236 (by decide) (fun h236 => ?_) (fun h236 => ?_)
                        · skip
                          have h236 : 1 = 0 := (nI_eq (a := 1) (b := 0) (by omega) (by omega)).mp h236
                          exact absurd h236 (by decide)
                        · skip
                          have h236 : ¬ 1 = 0 := fun z9 => h236 ((nI_eq (a := 1) (b := 0) (by omega) (by omega)).mpr z9)
                          refine lv_lconst (v := 0) hx hb d_Mod_into_239 rfl ?_
                          refine lv_goto (tgt := 264) hx hb d_Mod_into_240 (by decide) ?_
                          refine lv_lstore (lv' := [(16, .long 0), (7, .int (nI 0)), (15, .int (nI 1)), (13, .long (F jb (kM P N ja k))), (11, .long (F ja (kM P N ja k))), (10, .int (nI (64 * ja + k))), (9, .int (nI ja)), (8, .int (nI 0)), (3, .long lo), (5, .long hi), (0, .ref (ad 43)), (1, .int (nI ja)), (2, .int (nI jb))]) hx hb d_Mod_into_264 hl (by decide) rfl (fun ls hl => ?_)
                          refine lv_lload hx hb d_Mod_into_266 (lv_at hl 0 rfl) ?_
                          refine lv_lload_n hx hb d_Mod_into_268 rfl (lv_at hl 8 rfl) ?_
                          refine W.lcmp hx hb d_Mod_into_269 ?_
                          refine lv_if_le (tgt := 278) hx hb d_Mod_into_270 (by decide) (fun h270 => ?_) (fun h270 => ?_)
                          · skip
                            rw [lg_cmp_le] at h270
                            refine lv_lload_n hx hb d_Mod_into_278 rfl (lv_at hl 8 rfl) ?_
                            refine lv_lstore_n (lv' := [(3, .long lo), (16, .long 0), (7, .int (nI 0)), (15, .int (nI 1)), (13, .long (F jb (kM P N ja k))), (11, .long (F ja (kM P N ja k))), (10, .int (nI (64 * ja + k))), (9, .int (nI ja)), (8, .int (nI 0)), (5, .long hi), (0, .ref (ad 43)), (1, .int (nI ja)), (2, .int (nI jb))]) hx hb d_Mod_into_279 rfl hl (by decide) rfl (fun ls hl => ?_)
                            refine lv_iinc (v := (nI ((64 * ja + k) + 1))) (lv' := [(10, .int (nI ((64 * ja + k) + 1))), (3, .long lo), (16, .long 0), (7, .int (nI 0)), (15, .int (nI 1)), (13, .long (F jb (kM P N ja k))), (11, .long (F ja (kM P N ja k))), (9, .int (nI ja)), (8, .int (nI 0)), (5, .long hi), (0, .ref (ad 43)), (1, .int (nI ja)), (2, .int (nI jb))]) hx hb d_Mod_into_280 hl (k := 6) rfl (nI_1 _) (by decide) rfl (fun ls hl => ?_)
                            refine lv_goto (tgt := 59) hx hb d_Mod_into_283 (by decide) ?_
                            exact ih59a (k + 1) lo hi (nI 0) _ _ _ (by omega) (by omega) (by first | exact inI_s hI (sU_s (k := kM P N ja)) (ca_1 h128) (hi_1 h149) (lo_1 h123) | exact inI_s hI (sU_s (k := kM P N ja)) (ca_1 h128) (hi_2 h149 h156) (lo_1 h123) | exact inI_s hI (sU_s (k := kM P N ja)) (ca_1 h128) (hi_3 h149 h156 h167) (lo_1 h123) | exact inI_s hI (sU_s (k := kM P N ja)) (ca_1 h128) (hi_4 h149 h156 h167) (lo_1 h123) | exact inI_s hI (sU_s (k := kM P N ja)) (ca_2 h135 h123) (hi_1 h149) (lo_1 h123) | exact inI_s hI (sU_s (k := kM P N ja)) (ca_2 h135 h123) (hi_2 h149 h156) (lo_1 h123) | exact inI_s hI (sU_s (k := kM P N ja)) (ca_2 h135 h123) (hi_3 h149 h156 h167) (lo_1 h123) | exact inI_s hI (sU_s (k := kM P N ja)) (ca_2 h135 h123) (hi_4 h149 h156 h167) (lo_1 h123) | exact inI_s hI (sU_s (k := kM P N ja)) (ca_3 h128 h135 h123) (hi_1 h149) (lo_1 h123) | exact inI_s hI (sU_s (k := kM P N ja)) (ca_3 h128 h135 h123) (hi_2 h149 h156) (lo_1 h123) | exact inI_s hI (sU_s (k := kM P N ja)) (ca_3 h128 h135 h123) (hi_3 h149 h156 h167) (lo_1 h123) | exact inI_s hI (sU_s (k := kM P N ja)) (ca_3 h128 h135 h123) (hi_4 h149 h156 h167) (lo_1 h123) | exact inI_s hI (sU_s (k := kM P N ja)) (ca_k hI h123 h189) (hi_n h123) (lo_2 h189) | exact inI_s hI (sU_s (k := kM P N ja)) (ca_1 h219) (hi_n h123) (lo_3 h189 h123 (fun y => h198 y.1) h255 h270) | exact inI_s hI (sU_s (k := kM P N ja)) (ca_1 h219) (hi_n h123) (lo_4 h189 h123 (fun y => h198 y.1) h255 h270) | exact inI_s hI (sU_s (k := kM P N ja)) (ca_1 h219) (hi_n h123) (lo_5 h189 h123 h255 h270) | exact inI_s hI (sU_s (k := kM P N ja)) (ca_1 h219) (hi_n h123) (lo_6 h189 h123 h255 h270) | exact inI_s hI (sU_s (k := kM P N ja)) (ca_4 h219 h123 (fun y => h198 y.1)) (hi_n h123) (lo_3 h189 h123 (fun y => h198 y.1) h255 h270) | exact inI_s hI (sU_s (k := kM P N ja)) (ca_4 h219 h123 (fun y => h198 y.1)) (hi_n h123) (lo_4 h189 h123 (fun y => h198 y.1) h255 h270) | exact inI_s hI (sU_s (k := kM P N ja)) (ca_4 h219 h123 (fun y => h198 y.1)) (hi_n h123) (lo_5 h189 h123 h255 h270) | exact inI_s hI (sU_s (k := kM P N ja)) (ca_4 h219 h123 (fun y => h198 y.1)) (hi_n h123) (lo_6 h189 h123 h255 h270) | exact inI_s hI (sU_s (k := kM P N ja)) (ca_1 h219) (hi_n h123) (lo_3 h189 h123 (fun y => h207 y.2) h255 h270) | exact inI_s hI (sU_s (k := kM P N ja)) (ca_1 h219) (hi_n h123) (lo_4 h189 h123 (fun y => h207 y.2) h255 h270) | exact inI_s hI (sU_s (k := kM P N ja)) (ca_1 h219) (hi_n h123) (lo_5 h189 h123 h255 h270) | exact inI_s hI (sU_s (k := kM P N ja)) (ca_1 h219) (hi_n h123) (lo_6 h189 h123 h255 h270) | exact inI_s hI (sU_s (k := kM P N ja)) (ca_4 h219 h123 (fun y => h207 y.2)) (hi_n h123) (lo_3 h189 h123 (fun y => h207 y.2) h255 h270) | exact inI_s hI (sU_s (k := kM P N ja)) (ca_4 h219 h123 (fun y => h207 y.2)) (hi_n h123) (lo_4 h189 h123 (fun y => h207 y.2) h255 h270) | exact inI_s hI (sU_s (k := kM P N ja)) (ca_4 h219 h123 (fun y => h207 y.2)) (hi_n h123) (lo_5 h189 h123 h255 h270) | exact inI_s hI (sU_s (k := kM P N ja)) (ca_4 h219 h123 (fun y => h207 y.2)) (hi_n h123) (lo_6 h189 h123 h255 h270) | exact inI_s hI (sU_s (k := kM P N ja)) (ca_1 h219) (hi_n h123) (lo_b h198 h207) | exact inI_s hI (sU_s (k := kM P N ja)) (ca_5 h198 h207) (hi_n h123) (lo_b h198 h207)) hZ (lv_sub hl [0, 7, 8, 1, 9, 3, 10, 11, 12] rfl)
                          · skip
                            rw [lg_cmp_le] at h270
                            refine lv_lload hx hb d_Mod_into_273 (lv_at hl 0 rfl) ?_
                            refine lv_goto (tgt := 279) hx hb d_Mod_into_275 (by decide) ?_
                            refine lv_lstore_n (lv' := [(3, .long 0), (16, .long 0), (7, .int (nI 0)), (15, .int (nI 1)), (13, .long (F jb (kM P N ja k))), (11, .long (F ja (kM P N ja k))), (10, .int (nI (64 * ja + k))), (9, .int (nI ja)), (8, .int (nI 0)), (5, .long hi), (0, .ref (ad 43)), (1, .int (nI ja)), (2, .int (nI jb))]) hx hb d_Mod_into_279 rfl hl (by decide) rfl (fun ls hl => ?_)
                            refine lv_iinc (v := (nI ((64 * ja + k) + 1))) (lv' := [(10, .int (nI ((64 * ja + k) + 1))), (3, .long 0), (16, .long 0), (7, .int (nI 0)), (15, .int (nI 1)), (13, .long (F jb (kM P N ja k))), (11, .long (F ja (kM P N ja k))), (9, .int (nI ja)), (8, .int (nI 0)), (5, .long hi), (0, .ref (ad 43)), (1, .int (nI ja)), (2, .int (nI jb))]) hx hb d_Mod_into_280 hl (k := 6) rfl (nI_1 _) (by decide) rfl (fun ls hl => ?_)
                            refine lv_goto (tgt := 59) hx hb d_Mod_into_283 (by decide) ?_
                            exact ih59a (k + 1) 0 hi (nI 0) _ _ _ (by omega) (by omega) (by first | exact inI_s hI (sU_s (k := kM P N ja)) (ca_1 h128) (hi_1 h149) (lo_1 h123) | exact inI_s hI (sU_s (k := kM P N ja)) (ca_1 h128) (hi_2 h149 h156) (lo_1 h123) | exact inI_s hI (sU_s (k := kM P N ja)) (ca_1 h128) (hi_3 h149 h156 h167) (lo_1 h123) | exact inI_s hI (sU_s (k := kM P N ja)) (ca_1 h128) (hi_4 h149 h156 h167) (lo_1 h123) | exact inI_s hI (sU_s (k := kM P N ja)) (ca_2 h135 h123) (hi_1 h149) (lo_1 h123) | exact inI_s hI (sU_s (k := kM P N ja)) (ca_2 h135 h123) (hi_2 h149 h156) (lo_1 h123) | exact inI_s hI (sU_s (k := kM P N ja)) (ca_2 h135 h123) (hi_3 h149 h156 h167) (lo_1 h123) | exact inI_s hI (sU_s (k := kM P N ja)) (ca_2 h135 h123) (hi_4 h149 h156 h167) (lo_1 h123) | exact inI_s hI (sU_s (k := kM P N ja)) (ca_3 h128 h135 h123) (hi_1 h149) (lo_1 h123) | exact inI_s hI (sU_s (k := kM P N ja)) (ca_3 h128 h135 h123) (hi_2 h149 h156) (lo_1 h123) | exact inI_s hI (sU_s (k := kM P N ja)) (ca_3 h128 h135 h123) (hi_3 h149 h156 h167) (lo_1 h123) | exact inI_s hI (sU_s (k := kM P N ja)) (ca_3 h128 h135 h123) (hi_4 h149 h156 h167) (lo_1 h123) | exact inI_s hI (sU_s (k := kM P N ja)) (ca_k hI h123 h189) (hi_n h123) (lo_2 h189) | exact inI_s hI (sU_s (k := kM P N ja)) (ca_1 h219) (hi_n h123) (lo_3 h189 h123 (fun y => h198 y.1) h255 h270) | exact inI_s hI (sU_s (k := kM P N ja)) (ca_1 h219) (hi_n h123) (lo_4 h189 h123 (fun y => h198 y.1) h255 h270) | exact inI_s hI (sU_s (k := kM P N ja)) (ca_1 h219) (hi_n h123) (lo_5 h189 h123 h255 h270) | exact inI_s hI (sU_s (k := kM P N ja)) (ca_1 h219) (hi_n h123) (lo_6 h189 h123 h255 h270) | exact inI_s hI (sU_s (k := kM P N ja)) (ca_4 h219 h123 (fun y => h198 y.1)) (hi_n h123) (lo_3 h189 h123 (fun y => h198 y.1) h255 h270) | exact inI_s hI (sU_s (k := kM P N ja)) (ca_4 h219 h123 (fun y => h198 y.1)) (hi_n h123) (lo_4 h189 h123 (fun y => h198 y.1) h255 h270) | exact inI_s hI (sU_s (k := kM P N ja)) (ca_4 h219 h123 (fun y => h198 y.1)) (hi_n h123) (lo_5 h189 h123 h255 h270) | exact inI_s hI (sU_s (k := kM P N ja)) (ca_4 h219 h123 (fun y => h198 y.1)) (hi_n h123) (lo_6 h189 h123 h255 h270) | exact inI_s hI (sU_s (k := kM P N ja)) (ca_1 h219) (hi_n h123) (lo_3 h189 h123 (fun y => h207 y.2) h255 h270) | exact inI_s hI (sU_s (k := kM P N ja)) (ca_1 h219) (hi_n h123) (lo_4 h189 h123 (fun y => h207 y.2) h255 h270) | exact inI_s hI (sU_s (k := kM P N ja)) (ca_1 h219) (hi_n h123) (lo_5 h189 h123 h255 h270) | exact inI_s hI (sU_s (k := kM P N ja)) (ca_1 h219) (hi_n h123) (lo_6 h189 h123 h255 h270) | exact inI_s hI (sU_s (k := kM P N ja)) (ca_4 h219 h123 (fun y => h207 y.2)) (hi_n h123) (lo_3 h189 h123 (fun y => h207 y.2) h255 h270) | exact inI_s hI (sU_s (k := kM P N ja)) (ca_4 h219 h123 (fun y => h207 y.2)) (hi_n h123) (lo_4 h189 h123 (fun y => h207 y.2) h255 h270) | exact inI_s hI (sU_s (k := kM P N ja)) (ca_4 h219 h123 (fun y => h207 y.2)) (hi_n h123) (lo_5 h189 h123 h255 h270) | exact inI_s hI (sU_s (k := kM P N ja)) (ca_4 h219 h123 (fun y => h207 y.2)) (hi_n h123) (lo_6 h189 h123 h255 h270) | exact inI_s hI (sU_s (k := kM P N ja)) (ca_1 h219) (hi_n h123) (lo_b h198 h207) | exact inI_s hI (sU_s (k := kM P N ja)) (ca_5 h198 h207) (hi_n h123) (lo_b h198 h207)) hZ (lv_sub hl [0, 7, 8, 1, 9, 3, 10, 11, 12] rfl)
                      · skip
                        refine lv_iload hx hb d_Mod_into_222 (lv_at hl 0 rfl) ?_
                        refine lv_if_ne (tgt := 231) hx hb d_Mod_into_224 (by decide) (fun h224 => ?_) (fun h224 => ?_)
                        · skip
                          have h224 : ¬ 1 = 0 := fun z9 => h224 ((nI_eq (a := 1) (b := 0) (by omega) (by omega)).mpr z9)
                          refine lv_iconst (v := (nI 0)) hx hb d_Mod_into_231 rfl ?_
                          refine lv_istore (lv' := [(7, .int (nI 0)), (15, .int (nI 1)), (13, .long (F jb (kM P N ja k))), (11, .long (F ja (kM P N ja k))), (10, .int (nI (64 * ja + k))), (9, .int (nI ja)), (8, .int (nI 0)), (3, .long lo), (5, .long hi), (0, .ref (ad 43)), (1, .int (nI ja)), (2, .int (nI jb))]) hx hb d_Mod_into_232 hl (by decide) rfl (fun ls hl => ?_)
                          refine lv_iload hx hb d_Mod_into_234 (lv_at hl 1 rfl) ?_
                          refine lv_if_eq (tgt := 243) hx hb d_Mod_into_236 (by decide) (fun h236 => ?_) (fun h236 => ?_)
                          · skip
                            have h236 : 1 = 0 := (nI_eq (a := 1) (b := 0) (by omega) (by omega)).mp h236
                            exact absurd h236 (by decide)
                          · skip
                            have h236 : ¬ 1 = 0 := fun z9 => h236 ((nI_eq (a := 1) (b := 0) (by omega) (by omega)).mpr z9)
                            refine lv_lconst (v := 0) hx hb d_Mod_into_239 rfl ?_
                            refine lv_goto (tgt := 264) hx hb d_Mod_into_240 (by decide) ?_
                            refine lv_lstore (lv' := [(16, .long 0), (7, .int (nI 0)), (15, .int (nI 1)), (13, .long (F jb (kM P N ja k))), (11, .long (F ja (kM P N ja k))), (10, .int (nI (64 * ja + k))), (9, .int (nI ja)), (8, .int (nI 0)), (3, .long lo), (5, .long hi), (0, .ref (ad 43)), (1, .int (nI ja)), (2, .int (nI jb))]) hx hb d_Mod_into_264 hl (by decide) rfl (fun ls hl => ?_)
                            refine lv_lload hx hb d_Mod_into_266 (lv_at hl 0 rfl) ?_
                            refine lv_lload_n hx hb d_Mod_into_268 rfl (lv_at hl 8 rfl) ?_
                            refine W.lcmp hx hb d_Mod_into_269 ?_
                            refine lv_if_le (tgt := 278) hx hb d_Mod_into_270 (by decide) (fun h270 => ?_) (fun h270 => ?_)
                            · skip
                              rw [lg_cmp_le] at h270
                              refine lv_lload_n hx hb d_Mod_into_278 rfl (lv_at hl 8 rfl) ?_
                              refine lv_lstore_n (lv' := [(3, .long lo), (16, .long 0), (7, .int (nI 0)), (15, .int (nI 1)), (13, .long (F jb (kM P N ja k))), (11, .long (F ja (kM P N ja k))), (10, .int (nI (64 * ja + k))), (9, .int (nI ja)), (8, .int (nI 0)), (5, .long hi), (0, .ref (ad 43)), (1, .int (nI ja)), (2, .int (nI jb))]) hx hb d_Mod_into_279 rfl hl (by decide) rfl (fun ls hl => ?_)
                              refine lv_iinc (v := (nI ((64 * ja + k) + 1))) (lv' := [(10, .int (nI ((64 * ja + k) + 1))), (3, .long lo), (16, .long 0), (7, .int (nI 0)), (15, .int (nI 1)), (13, .long (F jb (kM P N ja k))), (11, .long (F ja (kM P N ja k))), (9, .int (nI ja)), (8, .int (nI 0)), (5, .long hi), (0, .ref (ad 43)), (1, .int (nI ja)), (2, .int (nI jb))]) hx hb d_Mod_into_280 hl (k := 6) rfl (nI_1 _) (by decide) rfl (fun ls hl => ?_)
                              refine lv_goto (tgt := 59) hx hb d_Mod_into_283 (by decide) ?_
                              exact ih59a (k + 1) lo hi (nI 0) _ _ _ (by omega) (by omega) (by first | exact inI_s hI (sU_s (k := kM P N ja)) (ca_1 h128) (hi_1 h149) (lo_1 h123) | exact inI_s hI (sU_s (k := kM P N ja)) (ca_1 h128) (hi_2 h149 h156) (lo_1 h123) | exact inI_s hI (sU_s (k := kM P N ja)) (ca_1 h128) (hi_3 h149 h156 h167) (lo_1 h123) | exact inI_s hI (sU_s (k := kM P N ja)) (ca_1 h128) (hi_4 h149 h156 h167) (lo_1 h123) | exact inI_s hI (sU_s (k := kM P N ja)) (ca_2 h135 h123) (hi_1 h149) (lo_1 h123) | exact inI_s hI (sU_s (k := kM P N ja)) (ca_2 h135 h123) (hi_2 h149 h156) (lo_1 h123) | exact inI_s hI (sU_s (k := kM P N ja)) (ca_2 h135 h123) (hi_3 h149 h156 h167) (lo_1 h123) | exact inI_s hI (sU_s (k := kM P N ja)) (ca_2 h135 h123) (hi_4 h149 h156 h167) (lo_1 h123) | exact inI_s hI (sU_s (k := kM P N ja)) (ca_3 h128 h135 h123) (hi_1 h149) (lo_1 h123) | exact inI_s hI (sU_s (k := kM P N ja)) (ca_3 h128 h135 h123) (hi_2 h149 h156) (lo_1 h123) | exact inI_s hI (sU_s (k := kM P N ja)) (ca_3 h128 h135 h123) (hi_3 h149 h156 h167) (lo_1 h123) | exact inI_s hI (sU_s (k := kM P N ja)) (ca_3 h128 h135 h123) (hi_4 h149 h156 h167) (lo_1 h123) | exact inI_s hI (sU_s (k := kM P N ja)) (ca_k hI h123 h189) (hi_n h123) (lo_2 h189) | exact inI_s hI (sU_s (k := kM P N ja)) (ca_1 h219) (hi_n h123) (lo_3 h189 h123 (fun y => h198 y.1) h255 h270) | exact inI_s hI (sU_s (k := kM P N ja)) (ca_1 h219) (hi_n h123) (lo_4 h189 h123 (fun y => h198 y.1) h255 h270) | exact inI_s hI (sU_s (k := kM P N ja)) (ca_1 h219) (hi_n h123) (lo_5 h189 h123 h255 h270) | exact inI_s hI (sU_s (k := kM P N ja)) (ca_1 h219) (hi_n h123) (lo_6 h189 h123 h255 h270) | exact inI_s hI (sU_s (k := kM P N ja)) (ca_4 h219 h123 (fun y => h198 y.1)) (hi_n h123) (lo_3 h189 h123 (fun y => h198 y.1) h255 h270) | exact inI_s hI (sU_s (k := kM P N ja)) (ca_4 h219 h123 (fun y => h198 y.1)) (hi_n h123) (lo_4 h189 h123 (fun y => h198 y.1) h255 h270) | exact inI_s hI (sU_s (k := kM P N ja)) (ca_4 h219 h123 (fun y => h198 y.1)) (hi_n h123) (lo_5 h189 h123 h255 h270) | exact inI_s hI (sU_s (k := kM P N ja)) (ca_4 h219 h123 (fun y => h198 y.1)) (hi_n h123) (lo_6 h189 h123 h255 h270) | exact inI_s hI (sU_s (k := kM P N ja)) (ca_1 h219) (hi_n h123) (lo_3 h189 h123 (fun y => h207 y.2) h255 h270) | exact inI_s hI (sU_s (k := kM P N ja)) (ca_1 h219) (hi_n h123) (lo_4 h189 h123 (fun y => h207 y.2) h255 h270) | exact inI_s hI (sU_s (k := kM P N ja)) (ca_1 h219) (hi_n h123) (lo_5 h189 h123 h255 h270) | exact inI_s hI (sU_s (k := kM P N ja)) (ca_1 h219) (hi_n h123) (lo_6 h189 h123 h255 h270) | exact inI_s hI (sU_s (k := kM P N ja)) (ca_4 h219 h123 (fun y => h207 y.2)) (hi_n h123) (lo_3 h189 h123 (fun y => h207 y.2) h255 h270) | exact inI_s hI (sU_s (k := kM P N ja)) (ca_4 h219 h123 (fun y => h207 y.2)) (hi_n h123) (lo_4 h189 h123 (fun y => h207 y.2) h255 h270) | exact inI_s hI (sU_s (k := kM P N ja)) (ca_4 h219 h123 (fun y => h207 y.2)) (hi_n h123) (lo_5 h189 h123 h255 h270) | exact inI_s hI (sU_s (k := kM P N ja)) (ca_4 h219 h123 (fun y => h207 y.2)) (hi_n h123) (lo_6 h189 h123 h255 h270) | exact inI_s hI (sU_s (k := kM P N ja)) (ca_1 h219) (hi_n h123) (lo_b h198 h207) | exact inI_s hI (sU_s (k := kM P N ja)) (ca_5 h198 h207) (hi_n h123) (lo_b h198 h207)) hZ (lv_sub hl [0, 7, 8, 1, 9, 3, 10, 11, 12] rfl)
                            · skip
                              rw [lg_cmp_le] at h270
                              refine lv_lload hx hb d_Mod_into_273 (lv_at hl 0 rfl) ?_
                              refine lv_goto (tgt := 279) hx hb d_Mod_into_275 (by decide) ?_
                              refine lv_lstore_n (lv' := [(3, .long 0), (16, .long 0), (7, .int (nI 0)), (15, .int (nI 1)), (13, .long (F jb (kM P N ja k))), (11, .long (F ja (kM P N ja k))), (10, .int (nI (64 * ja + k))), (9, .int (nI ja)), (8, .int (nI 0)), (5, .long hi), (0, .ref (ad 43)), (1, .int (nI ja)), (2, .int (nI jb))]) hx hb d_Mod_into_279 rfl hl (by decide) rfl (fun ls hl => ?_)
                              refine lv_iinc (v := (nI ((64 * ja + k) + 1))) (lv' := [(10, .int (nI ((64 * ja + k) + 1))), (3, .long 0), (16, .long 0), (7, .int (nI 0)), (15, .int (nI 1)), (13, .long (F jb (kM P N ja k))), (11, .long (F ja (kM P N ja k))), (9, .int (nI ja)), (8, .int (nI 0)), (5, .long hi), (0, .ref (ad 43)), (1, .int (nI ja)), (2, .int (nI jb))]) hx hb d_Mod_into_280 hl (k := 6) rfl (nI_1 _) (by decide) rfl (fun ls hl => ?_)
                              refine lv_goto (tgt := 59) hx hb d_Mod_into_283 (by decide) ?_
                              exact ih59a (k + 1) 0 hi (nI 0) _ _ _ (by omega) (by omega) (by first | exact inI_s hI (sU_s (k := kM P N ja)) (ca_1 h128) (hi_1 h149) (lo_1 h123) | exact inI_s hI (sU_s (k := kM P N ja)) (ca_1 h128) (hi_2 h149 h156) (lo_1 h123) | exact inI_s hI (sU_s (k := kM P N ja)) (ca_1 h128) (hi_3 h149 h156 h167) (lo_1 h123) | exact inI_s hI (sU_s (k := kM P N ja)) (ca_1 h128) (hi_4 h149 h156 h167) (lo_1 h123) | exact inI_s hI (sU_s (k := kM P N ja)) (ca_2 h135 h123) (hi_1 h149) (lo_1 h123) | exact inI_s hI (sU_s (k := kM P N ja)) (ca_2 h135 h123) (hi_2 h149 h156) (lo_1 h123) | exact inI_s hI (sU_s (k := kM P N ja)) (ca_2 h135 h123) (hi_3 h149 h156 h167) (lo_1 h123) | exact inI_s hI (sU_s (k := kM P N ja)) (ca_2 h135 h123) (hi_4 h149 h156 h167) (lo_1 h123) | exact inI_s hI (sU_s (k := kM P N ja)) (ca_3 h128 h135 h123) (hi_1 h149) (lo_1 h123) | exact inI_s hI (sU_s (k := kM P N ja)) (ca_3 h128 h135 h123) (hi_2 h149 h156) (lo_1 h123) | exact inI_s hI (sU_s (k := kM P N ja)) (ca_3 h128 h135 h123) (hi_3 h149 h156 h167) (lo_1 h123) | exact inI_s hI (sU_s (k := kM P N ja)) (ca_3 h128 h135 h123) (hi_4 h149 h156 h167) (lo_1 h123) | exact inI_s hI (sU_s (k := kM P N ja)) (ca_k hI h123 h189) (hi_n h123) (lo_2 h189) | exact inI_s hI (sU_s (k := kM P N ja)) (ca_1 h219) (hi_n h123) (lo_3 h189 h123 (fun y => h198 y.1) h255 h270) | exact inI_s hI (sU_s (k := kM P N ja)) (ca_1 h219) (hi_n h123) (lo_4 h189 h123 (fun y => h198 y.1) h255 h270) | exact inI_s hI (sU_s (k := kM P N ja)) (ca_1 h219) (hi_n h123) (lo_5 h189 h123 h255 h270) | exact inI_s hI (sU_s (k := kM P N ja)) (ca_1 h219) (hi_n h123) (lo_6 h189 h123 h255 h270) | exact inI_s hI (sU_s (k := kM P N ja)) (ca_4 h219 h123 (fun y => h198 y.1)) (hi_n h123) (lo_3 h189 h123 (fun y => h198 y.1) h255 h270) | exact inI_s hI (sU_s (k := kM P N ja)) (ca_4 h219 h123 (fun y => h198 y.1)) (hi_n h123) (lo_4 h189 h123 (fun y => h198 y.1) h255 h270) | exact inI_s hI (sU_s (k := kM P N ja)) (ca_4 h219 h123 (fun y => h198 y.1)) (hi_n h123) (lo_5 h189 h123 h255 h270) | exact inI_s hI (sU_s (k := kM P N ja)) (ca_4 h219 h123 (fun y => h198 y.1)) (hi_n h123) (lo_6 h189 h123 h255 h270) | exact inI_s hI (sU_s (k := kM P N ja)) (ca_1 h219) (hi_n h123) (lo_3 h189 h123 (fun y => h207 y.2) h255 h270) | exact inI_s hI (sU_s (k := kM P N ja)) (ca_1 h219) (hi_n h123) (lo_4 h189 h123 (fun y => h207 y.2) h255 h270) | exact inI_s hI (sU_s (k := kM P N ja)) (ca_1 h219) (hi_n h123) (lo_5 h189 h123 h255 h270) | exact inI_s hI (sU_s (k := kM P N ja)) (ca_1 h219) (hi_n h123) (lo_6 h189 h123 h255 h270) | exact inI_s hI (sU_s (k := kM P N ja)) (ca_4 h219 h123 (fun y => h207 y.2)) (hi_n h123) (lo_3 h189 h123 (fun y => h207 y.2) h255 h270) | exact inI_s hI (sU_s (k := kM P N ja)) (ca_4 h219 h123 (fun y => h207 y.2)) (hi_n h123) (lo_4 h189 h123 (fun y => h207 y.2) h255 h270) | exact inI_s hI (sU_s (k := kM P N ja)) (ca_4 h219 h123 (fun y => h207 y.2)) (hi_n h123) (lo_5 h189 h123 h255 h270) | exact inI_s hI (sU_s (k := kM P N ja)) (ca_4 h219 h123 (fun y => h207 y.2)) (hi_n h123) (lo_6 h189 h123 h255 h270) | exact inI_s hI (sU_s (k := kM P N ja)) (ca_1 h219) (hi_n h123) (lo_b h198 h207) | exact inI_s hI (sU_s (k := kM P N ja)) (ca_5 h198 h207) (hi_n h123) (lo_b h198 h207)) hZ (lv_sub hl [0, 7, 8, 1, 9, 3, 10, 11, 12] rfl)
                        · skip
                          have h224 : 1 = 0 := (nI_eq (a := 1) (b := 0) (by omega) (by omega)).mp h224
                          exact absurd h224 (by decide)
              · skip
                rw [lg_cmp_lt] at h123
                refine lv_iload hx hb d_Mod_into_126 (lv_at hl 7 rfl) ?_
                refine lv_if_eq (tgt := 142) hx hb d_Mod_into_128 (by decide) (fun h128 => ?_) (fun h128 => ?_)
                · skip
                  refine lv_iconst (v := (nI 0)) hx hb d_Mod_into_142 rfl ?_
                  refine lv_istore (lv' := [(7, .int (nI 0)), (13, .long (F jb (kM P N ja k))), (11, .long (F ja (kM P N ja k))), (10, .int (nI (64 * ja + k))), (9, .int (nI ja)), (8, .int (nI 0)), (3, .long lo), (5, .long hi), (0, .ref (ad 43)), (1, .int (nI ja)), (2, .int (nI jb))]) hx hb d_Mod_into_143 hl (by decide) rfl (fun ls hl => ?_)
                  refine lv_lload hx hb d_Mod_into_145 (lv_at hl 1 rfl) ?_
                  refine lv_lconst (v := 0) hx hb d_Mod_into_147 rfl ?_
                  refine W.lcmp hx hb d_Mod_into_148 ?_
                  refine lv_if_le (tgt := 178) hx hb d_Mod_into_149 (by decide) (fun h149 => ?_) (fun h149 => ?_)
                  · skip
                    rw [lg_cmp_le] at h149
                    refine lv_lload hx hb d_Mod_into_178 (lv_at hl 7 rfl) ?_
                    refine lv_lstore (lv' := [(5, .long hi), (7, .int (nI 0)), (13, .long (F jb (kM P N ja k))), (11, .long (F ja (kM P N ja k))), (10, .int (nI (64 * ja + k))), (9, .int (nI ja)), (8, .int (nI 0)), (3, .long lo), (0, .ref (ad 43)), (1, .int (nI ja)), (2, .int (nI jb))]) hx hb d_Mod_into_180 hl (by decide) rfl (fun ls hl => ?_)
                    refine lv_goto (tgt := 280) hx hb d_Mod_into_182 (by decide) ?_
                    refine lv_iinc (v := (nI ((64 * ja + k) + 1))) (lv' := [(10, .int (nI ((64 * ja + k) + 1))), (5, .long hi), (7, .int (nI 0)), (13, .long (F jb (kM P N ja k))), (11, .long (F ja (kM P N ja k))), (9, .int (nI ja)), (8, .int (nI 0)), (3, .long lo), (0, .ref (ad 43)), (1, .int (nI ja)), (2, .int (nI jb))]) hx hb d_Mod_into_280 hl (k := 4) rfl (nI_1 _) (by decide) rfl (fun ls hl => ?_)
                    refine lv_goto (tgt := 59) hx hb d_Mod_into_283 (by decide) ?_
                    exact ih59a (k + 1) lo hi (nI 0) _ _ _ (by omega) (by omega) (by first | exact inI_s hI (sU_s (k := kM P N ja)) (ca_1 h128) (hi_1 h149) (lo_1 h123) | exact inI_s hI (sU_s (k := kM P N ja)) (ca_1 h128) (hi_2 h149 h156) (lo_1 h123) | exact inI_s hI (sU_s (k := kM P N ja)) (ca_1 h128) (hi_3 h149 h156 h167) (lo_1 h123) | exact inI_s hI (sU_s (k := kM P N ja)) (ca_1 h128) (hi_4 h149 h156 h167) (lo_1 h123) | exact inI_s hI (sU_s (k := kM P N ja)) (ca_2 h135 h123) (hi_1 h149) (lo_1 h123) | exact inI_s hI (sU_s (k := kM P N ja)) (ca_2 h135 h123) (hi_2 h149 h156) (lo_1 h123) | exact inI_s hI (sU_s (k := kM P N ja)) (ca_2 h135 h123) (hi_3 h149 h156 h167) (lo_1 h123) | exact inI_s hI (sU_s (k := kM P N ja)) (ca_2 h135 h123) (hi_4 h149 h156 h167) (lo_1 h123) | exact inI_s hI (sU_s (k := kM P N ja)) (ca_3 h128 h135 h123) (hi_1 h149) (lo_1 h123) | exact inI_s hI (sU_s (k := kM P N ja)) (ca_3 h128 h135 h123) (hi_2 h149 h156) (lo_1 h123) | exact inI_s hI (sU_s (k := kM P N ja)) (ca_3 h128 h135 h123) (hi_3 h149 h156 h167) (lo_1 h123) | exact inI_s hI (sU_s (k := kM P N ja)) (ca_3 h128 h135 h123) (hi_4 h149 h156 h167) (lo_1 h123) | exact inI_s hI (sU_s (k := kM P N ja)) (ca_k hI h123 h189) (hi_n h123) (lo_2 h189) | exact inI_s hI (sU_s (k := kM P N ja)) (ca_1 h219) (hi_n h123) (lo_3 h189 h123 (fun y => h198 y.1) h255 h270) | exact inI_s hI (sU_s (k := kM P N ja)) (ca_1 h219) (hi_n h123) (lo_4 h189 h123 (fun y => h198 y.1) h255 h270) | exact inI_s hI (sU_s (k := kM P N ja)) (ca_1 h219) (hi_n h123) (lo_5 h189 h123 h255 h270) | exact inI_s hI (sU_s (k := kM P N ja)) (ca_1 h219) (hi_n h123) (lo_6 h189 h123 h255 h270) | exact inI_s hI (sU_s (k := kM P N ja)) (ca_4 h219 h123 (fun y => h198 y.1)) (hi_n h123) (lo_3 h189 h123 (fun y => h198 y.1) h255 h270) | exact inI_s hI (sU_s (k := kM P N ja)) (ca_4 h219 h123 (fun y => h198 y.1)) (hi_n h123) (lo_4 h189 h123 (fun y => h198 y.1) h255 h270) | exact inI_s hI (sU_s (k := kM P N ja)) (ca_4 h219 h123 (fun y => h198 y.1)) (hi_n h123) (lo_5 h189 h123 h255 h270) | exact inI_s hI (sU_s (k := kM P N ja)) (ca_4 h219 h123 (fun y => h198 y.1)) (hi_n h123) (lo_6 h189 h123 h255 h270) | exact inI_s hI (sU_s (k := kM P N ja)) (ca_1 h219) (hi_n h123) (lo_3 h189 h123 (fun y => h207 y.2) h255 h270) | exact inI_s hI (sU_s (k := kM P N ja)) (ca_1 h219) (hi_n h123) (lo_4 h189 h123 (fun y => h207 y.2) h255 h270) | exact inI_s hI (sU_s (k := kM P N ja)) (ca_1 h219) (hi_n h123) (lo_5 h189 h123 h255 h270) | exact inI_s hI (sU_s (k := kM P N ja)) (ca_1 h219) (hi_n h123) (lo_6 h189 h123 h255 h270) | exact inI_s hI (sU_s (k := kM P N ja)) (ca_4 h219 h123 (fun y => h207 y.2)) (hi_n h123) (lo_3 h189 h123 (fun y => h207 y.2) h255 h270) | exact inI_s hI (sU_s (k := kM P N ja)) (ca_4 h219 h123 (fun y => h207 y.2)) (hi_n h123) (lo_4 h189 h123 (fun y => h207 y.2) h255 h270) | exact inI_s hI (sU_s (k := kM P N ja)) (ca_4 h219 h123 (fun y => h207 y.2)) (hi_n h123) (lo_5 h189 h123 h255 h270) | exact inI_s hI (sU_s (k := kM P N ja)) (ca_4 h219 h123 (fun y => h207 y.2)) (hi_n h123) (lo_6 h189 h123 h255 h270) | exact inI_s hI (sU_s (k := kM P N ja)) (ca_1 h219) (hi_n h123) (lo_b h198 h207) | exact inI_s hI (sU_s (k := kM P N ja)) (ca_5 h198 h207) (hi_n h123) (lo_b h198 h207)) hZ (lv_sub hl [0, 5, 6, 7, 1, 2, 8, 9, 10] rfl)
                  · skip
                    rw [lg_cmp_le] at h149
                    refine lv_lload hx hb d_Mod_into_152 (lv_at hl 7 rfl) ?_
                    refine lv_lconst (v := 0) hx hb d_Mod_into_154 rfl ?_
                    refine W.lcmp hx hb d_Mod_into_155 ?_
                    refine lv_if_lt (tgt := 170) hx hb d_Mod_into_156 (by decide) (fun h156 => ?_) (fun h156 => ?_)
                    · skip
                      rw [lg_cmp_lt] at h156
                      refine lv_lload hx hb d_Mod_into_170 (lv_at hl 2 rfl) ?_
                      refine lv_lload hx hb d_Mod_into_172 (lv_at hl 1 rfl) ?_
                      refine lv_ldiv hx hb d_Mod_into_174 (i64_n0 h149) ?_
                      refine lv_goto (tgt := 180) hx hb d_Mod_into_175 (by decide) ?_
                      refine lv_lstore (lv' := [(5, .long ((F ja (kM P N ja k)) / (F jb (kM P N ja k)))), (7, .int (nI 0)), (13, .long (F jb (kM P N ja k))), (11, .long (F ja (kM P N ja k))), (10, .int (nI (64 * ja + k))), (9, .int (nI ja)), (8, .int (nI 0)), (3, .long lo), (0, .ref (ad 43)), (1, .int (nI ja)), (2, .int (nI jb))]) hx hb d_Mod_into_180 hl (by decide) rfl (fun ls hl => ?_)
                      refine lv_goto (tgt := 280) hx hb d_Mod_into_182 (by decide) ?_
                      refine lv_iinc (v := (nI ((64 * ja + k) + 1))) (lv' := [(10, .int (nI ((64 * ja + k) + 1))), (5, .long ((F ja (kM P N ja k)) / (F jb (kM P N ja k)))), (7, .int (nI 0)), (13, .long (F jb (kM P N ja k))), (11, .long (F ja (kM P N ja k))), (9, .int (nI ja)), (8, .int (nI 0)), (3, .long lo), (0, .ref (ad 43)), (1, .int (nI ja)), (2, .int (nI jb))]) hx hb d_Mod_into_280 hl (k := 4) rfl (nI_1 _) (by decide) rfl (fun ls hl => ?_)
                      refine lv_goto (tgt := 59) hx hb d_Mod_into_283 (by decide) ?_
                      exact ih59a (k + 1) lo ((F ja (kM P N ja k)) / (F jb (kM P N ja k))) (nI 0) _ _ _ (by omega) (by omega) (by first | exact inI_s hI (sU_s (k := kM P N ja)) (ca_1 h128) (hi_1 h149) (lo_1 h123) | exact inI_s hI (sU_s (k := kM P N ja)) (ca_1 h128) (hi_2 h149 h156) (lo_1 h123) | exact inI_s hI (sU_s (k := kM P N ja)) (ca_1 h128) (hi_3 h149 h156 h167) (lo_1 h123) | exact inI_s hI (sU_s (k := kM P N ja)) (ca_1 h128) (hi_4 h149 h156 h167) (lo_1 h123) | exact inI_s hI (sU_s (k := kM P N ja)) (ca_2 h135 h123) (hi_1 h149) (lo_1 h123) | exact inI_s hI (sU_s (k := kM P N ja)) (ca_2 h135 h123) (hi_2 h149 h156) (lo_1 h123) | exact inI_s hI (sU_s (k := kM P N ja)) (ca_2 h135 h123) (hi_3 h149 h156 h167) (lo_1 h123) | exact inI_s hI (sU_s (k := kM P N ja)) (ca_2 h135 h123) (hi_4 h149 h156 h167) (lo_1 h123) | exact inI_s hI (sU_s (k := kM P N ja)) (ca_3 h128 h135 h123) (hi_1 h149) (lo_1 h123) | exact inI_s hI (sU_s (k := kM P N ja)) (ca_3 h128 h135 h123) (hi_2 h149 h156) (lo_1 h123) | exact inI_s hI (sU_s (k := kM P N ja)) (ca_3 h128 h135 h123) (hi_3 h149 h156 h167) (lo_1 h123) | exact inI_s hI (sU_s (k := kM P N ja)) (ca_3 h128 h135 h123) (hi_4 h149 h156 h167) (lo_1 h123) | exact inI_s hI (sU_s (k := kM P N ja)) (ca_k hI h123 h189) (hi_n h123) (lo_2 h189) | exact inI_s hI (sU_s (k := kM P N ja)) (ca_1 h219) (hi_n h123) (lo_3 h189 h123 (fun y => h198 y.1) h255 h270) | exact inI_s hI (sU_s (k := kM P N ja)) (ca_1 h219) (hi_n h123) (lo_4 h189 h123 (fun y => h198 y.1) h255 h270) | exact inI_s hI (sU_s (k := kM P N ja)) (ca_1 h219) (hi_n h123) (lo_5 h189 h123 h255 h270) | exact inI_s hI (sU_s (k := kM P N ja)) (ca_1 h219) (hi_n h123) (lo_6 h189 h123 h255 h270) | exact inI_s hI (sU_s (k := kM P N ja)) (ca_4 h219 h123 (fun y => h198 y.1)) (hi_n h123) (lo_3 h189 h123 (fun y => h198 y.1) h255 h270) | exact inI_s hI (sU_s (k := kM P N ja)) (ca_4 h219 h123 (fun y => h198 y.1)) (hi_n h123) (lo_4 h189 h123 (fun y => h198 y.1) h255 h270) | exact inI_s hI (sU_s (k := kM P N ja)) (ca_4 h219 h123 (fun y => h198 y.1)) (hi_n h123) (lo_5 h189 h123 h255 h270) | exact inI_s hI (sU_s (k := kM P N ja)) (ca_4 h219 h123 (fun y => h198 y.1)) (hi_n h123) (lo_6 h189 h123 h255 h270) | exact inI_s hI (sU_s (k := kM P N ja)) (ca_1 h219) (hi_n h123) (lo_3 h189 h123 (fun y => h207 y.2) h255 h270) | exact inI_s hI (sU_s (k := kM P N ja)) (ca_1 h219) (hi_n h123) (lo_4 h189 h123 (fun y => h207 y.2) h255 h270) | exact inI_s hI (sU_s (k := kM P N ja)) (ca_1 h219) (hi_n h123) (lo_5 h189 h123 h255 h270) | exact inI_s hI (sU_s (k := kM P N ja)) (ca_1 h219) (hi_n h123) (lo_6 h189 h123 h255 h270) | exact inI_s hI (sU_s (k := kM P N ja)) (ca_4 h219 h123 (fun y => h207 y.2)) (hi_n h123) (lo_3 h189 h123 (fun y => h207 y.2) h255 h270) | exact inI_s hI (sU_s (k := kM P N ja)) (ca_4 h219 h123 (fun y => h207 y.2)) (hi_n h123) (lo_4 h189 h123 (fun y => h207 y.2) h255 h270) | exact inI_s hI (sU_s (k := kM P N ja)) (ca_4 h219 h123 (fun y => h207 y.2)) (hi_n h123) (lo_5 h189 h123 h255 h270) | exact inI_s hI (sU_s (k := kM P N ja)) (ca_4 h219 h123 (fun y => h207 y.2)) (hi_n h123) (lo_6 h189 h123 h255 h270) | exact inI_s hI (sU_s (k := kM P N ja)) (ca_1 h219) (hi_n h123) (lo_b h198 h207) | exact inI_s hI (sU_s (k := kM P N ja)) (ca_5 h198 h207) (hi_n h123) (lo_b h198 h207)) hZ (lv_sub hl [0, 5, 6, 7, 1, 2, 8, 9, 10] rfl)
                    · skip
                      rw [lg_cmp_lt] at h156
                      refine lv_lload hx hb d_Mod_into_159 (lv_at hl 2 rfl) ?_
                      refine lv_lload hx hb d_Mod_into_161 (lv_at hl 1 rfl) ?_
                      refine lv_ldiv hx hb d_Mod_into_163 (i64_n0 h149) ?_
                      refine lv_lload hx hb d_Mod_into_164 (lv_at hl 7 rfl) ?_
                      refine W.lcmp hx hb d_Mod_into_166 ?_
                      refine lv_if_ge (tgt := 178) hx hb d_Mod_into_167 (by decide) (fun h167 => ?_) (fun h167 => ?_)
                      · skip
                        rw [lg_cmp_ge] at h167
                        refine lv_lload hx hb d_Mod_into_178 (lv_at hl 7 rfl) ?_
                        refine lv_lstore (lv' := [(5, .long hi), (7, .int (nI 0)), (13, .long (F jb (kM P N ja k))), (11, .long (F ja (kM P N ja k))), (10, .int (nI (64 * ja + k))), (9, .int (nI ja)), (8, .int (nI 0)), (3, .long lo), (0, .ref (ad 43)), (1, .int (nI ja)), (2, .int (nI jb))]) hx hb d_Mod_into_180 hl (by decide) rfl (fun ls hl => ?_)
                        refine lv_goto (tgt := 280) hx hb d_Mod_into_182 (by decide) ?_
                        refine lv_iinc (v := (nI ((64 * ja + k) + 1))) (lv' := [(10, .int (nI ((64 * ja + k) + 1))), (5, .long hi), (7, .int (nI 0)), (13, .long (F jb (kM P N ja k))), (11, .long (F ja (kM P N ja k))), (9, .int (nI ja)), (8, .int (nI 0)), (3, .long lo), (0, .ref (ad 43)), (1, .int (nI ja)), (2, .int (nI jb))]) hx hb d_Mod_into_280 hl (k := 4) rfl (nI_1 _) (by decide) rfl (fun ls hl => ?_)
                        refine lv_goto (tgt := 59) hx hb d_Mod_into_283 (by decide) ?_
                        exact ih59a (k + 1) lo hi (nI 0) _ _ _ (by omega) (by omega) (by first | exact inI_s hI (sU_s (k := kM P N ja)) (ca_1 h128) (hi_1 h149) (lo_1 h123) | exact inI_s hI (sU_s (k := kM P N ja)) (ca_1 h128) (hi_2 h149 h156) (lo_1 h123) | exact inI_s hI (sU_s (k := kM P N ja)) (ca_1 h128) (hi_3 h149 h156 h167) (lo_1 h123) | exact inI_s hI (sU_s (k := kM P N ja)) (ca_1 h128) (hi_4 h149 h156 h167) (lo_1 h123) | exact inI_s hI (sU_s (k := kM P N ja)) (ca_2 h135 h123) (hi_1 h149) (lo_1 h123) | exact inI_s hI (sU_s (k := kM P N ja)) (ca_2 h135 h123) (hi_2 h149 h156) (lo_1 h123) | exact inI_s hI (sU_s (k := kM P N ja)) (ca_2 h135 h123) (hi_3 h149 h156 h167) (lo_1 h123) | exact inI_s hI (sU_s (k := kM P N ja)) (ca_2 h135 h123) (hi_4 h149 h156 h167) (lo_1 h123) | exact inI_s hI (sU_s (k := kM P N ja)) (ca_3 h128 h135 h123) (hi_1 h149) (lo_1 h123) | exact inI_s hI (sU_s (k := kM P N ja)) (ca_3 h128 h135 h123) (hi_2 h149 h156) (lo_1 h123) | exact inI_s hI (sU_s (k := kM P N ja)) (ca_3 h128 h135 h123) (hi_3 h149 h156 h167) (lo_1 h123) | exact inI_s hI (sU_s (k := kM P N ja)) (ca_3 h128 h135 h123) (hi_4 h149 h156 h167) (lo_1 h123) | exact inI_s hI (sU_s (k := kM P N ja)) (ca_k hI h123 h189) (hi_n h123) (lo_2 h189) | exact inI_s hI (sU_s (k := kM P N ja)) (ca_1 h219) (hi_n h123) (lo_3 h189 h123 (fun y => h198 y.1) h255 h270) | exact inI_s hI (sU_s (k := kM P N ja)) (ca_1 h219) (hi_n h123) (lo_4 h189 h123 (fun y => h198 y.1) h255 h270) | exact inI_s hI (sU_s (k := kM P N ja)) (ca_1 h219) (hi_n h123) (lo_5 h189 h123 h255 h270) | exact inI_s hI (sU_s (k := kM P N ja)) (ca_1 h219) (hi_n h123) (lo_6 h189 h123 h255 h270) | exact inI_s hI (sU_s (k := kM P N ja)) (ca_4 h219 h123 (fun y => h198 y.1)) (hi_n h123) (lo_3 h189 h123 (fun y => h198 y.1) h255 h270) | exact inI_s hI (sU_s (k := kM P N ja)) (ca_4 h219 h123 (fun y => h198 y.1)) (hi_n h123) (lo_4 h189 h123 (fun y => h198 y.1) h255 h270) | exact inI_s hI (sU_s (k := kM P N ja)) (ca_4 h219 h123 (fun y => h198 y.1)) (hi_n h123) (lo_5 h189 h123 h255 h270) | exact inI_s hI (sU_s (k := kM P N ja)) (ca_4 h219 h123 (fun y => h198 y.1)) (hi_n h123) (lo_6 h189 h123 h255 h270) | exact inI_s hI (sU_s (k := kM P N ja)) (ca_1 h219) (hi_n h123) (lo_3 h189 h123 (fun y => h207 y.2) h255 h270) | exact inI_s hI (sU_s (k := kM P N ja)) (ca_1 h219) (hi_n h123) (lo_4 h189 h123 (fun y => h207 y.2) h255 h270) | exact inI_s hI (sU_s (k := kM P N ja)) (ca_1 h219) (hi_n h123) (lo_5 h189 h123 h255 h270) | exact inI_s hI (sU_s (k := kM P N ja)) (ca_1 h219) (hi_n h123) (lo_6 h189 h123 h255 h270) | exact inI_s hI (sU_s (k := kM P N ja)) (ca_4 h219 h123 (fun y => h207 y.2)) (hi_n h123) (lo_3 h189 h123 (fun y => h207 y.2) h255 h270) | exact inI_s hI (sU_s (k := kM P N ja)) (ca_4 h219 h123 (fun y => h207 y.2)) (hi_n h123) (lo_4 h189 h123 (fun y => h207 y.2) h255 h270) | exact inI_s hI (sU_s (k := kM P N ja)) (ca_4 h219 h123 (fun y => h207 y.2)) (hi_n h123) (lo_5 h189 h123 h255 h270) | exact inI_s hI (sU_s (k := kM P N ja)) (ca_4 h219 h123 (fun y => h207 y.2)) (hi_n h123) (lo_6 h189 h123 h255 h270) | exact inI_s hI (sU_s (k := kM P N ja)) (ca_1 h219) (hi_n h123) (lo_b h198 h207) | exact inI_s hI (sU_s (k := kM P N ja)) (ca_5 h198 h207) (hi_n h123) (lo_b h198 h207)) hZ (lv_sub hl [0, 5, 6, 7, 1, 2, 8, 9, 10] rfl)
                      · skip
                        rw [lg_cmp_ge] at h167
                        refine lv_lload hx hb d_Mod_into_170 (lv_at hl 2 rfl) ?_
                        refine lv_lload hx hb d_Mod_into_172 (lv_at hl 1 rfl) ?_
                        refine lv_ldiv hx hb d_Mod_into_174 (i64_n0 h149) ?_
                        refine lv_goto (tgt := 180) hx hb d_Mod_into_175 (by decide) ?_
                        refine lv_lstore (lv' := [(5, .long ((F ja (kM P N ja k)) / (F jb (kM P N ja k)))), (7, .int (nI 0)), (13, .long (F jb (kM P N ja k))), (11, .long (F ja (kM P N ja k))), (10, .int (nI (64 * ja + k))), (9, .int (nI ja)), (8, .int (nI 0)), (3, .long lo), (0, .ref (ad 43)), (1, .int (nI ja)), (2, .int (nI jb))]) hx hb d_Mod_into_180 hl (by decide) rfl (fun ls hl => ?_)
                        refine lv_goto (tgt := 280) hx hb d_Mod_into_182 (by decide) ?_
                        refine lv_iinc (v := (nI ((64 * ja + k) + 1))) (lv' := [(10, .int (nI ((64 * ja + k) + 1))), (5, .long ((F ja (kM P N ja k)) / (F jb (kM P N ja k)))), (7, .int (nI 0)), (13, .long (F jb (kM P N ja k))), (11, .long (F ja (kM P N ja k))), (9, .int (nI ja)), (8, .int (nI 0)), (3, .long lo), (0, .ref (ad 43)), (1, .int (nI ja)), (2, .int (nI jb))]) hx hb d_Mod_into_280 hl (k := 4) rfl (nI_1 _) (by decide) rfl (fun ls hl => ?_)
                        refine lv_goto (tgt := 59) hx hb d_Mod_into_283 (by decide) ?_
                        exact ih59a (k + 1) lo ((F ja (kM P N ja k)) / (F jb (kM P N ja k))) (nI 0) _ _ _ (by omega) (by omega) (by first | exact inI_s hI (sU_s (k := kM P N ja)) (ca_1 h128) (hi_1 h149) (lo_1 h123) | exact inI_s hI (sU_s (k := kM P N ja)) (ca_1 h128) (hi_2 h149 h156) (lo_1 h123) | exact inI_s hI (sU_s (k := kM P N ja)) (ca_1 h128) (hi_3 h149 h156 h167) (lo_1 h123) | exact inI_s hI (sU_s (k := kM P N ja)) (ca_1 h128) (hi_4 h149 h156 h167) (lo_1 h123) | exact inI_s hI (sU_s (k := kM P N ja)) (ca_2 h135 h123) (hi_1 h149) (lo_1 h123) | exact inI_s hI (sU_s (k := kM P N ja)) (ca_2 h135 h123) (hi_2 h149 h156) (lo_1 h123) | exact inI_s hI (sU_s (k := kM P N ja)) (ca_2 h135 h123) (hi_3 h149 h156 h167) (lo_1 h123) | exact inI_s hI (sU_s (k := kM P N ja)) (ca_2 h135 h123) (hi_4 h149 h156 h167) (lo_1 h123) | exact inI_s hI (sU_s (k := kM P N ja)) (ca_3 h128 h135 h123) (hi_1 h149) (lo_1 h123) | exact inI_s hI (sU_s (k := kM P N ja)) (ca_3 h128 h135 h123) (hi_2 h149 h156) (lo_1 h123) | exact inI_s hI (sU_s (k := kM P N ja)) (ca_3 h128 h135 h123) (hi_3 h149 h156 h167) (lo_1 h123) | exact inI_s hI (sU_s (k := kM P N ja)) (ca_3 h128 h135 h123) (hi_4 h149 h156 h167) (lo_1 h123) | exact inI_s hI (sU_s (k := kM P N ja)) (ca_k hI h123 h189) (hi_n h123) (lo_2 h189) | exact inI_s hI (sU_s (k := kM P N ja)) (ca_1 h219) (hi_n h123) (lo_3 h189 h123 (fun y => h198 y.1) h255 h270) | exact inI_s hI (sU_s (k := kM P N ja)) (ca_1 h219) (hi_n h123) (lo_4 h189 h123 (fun y => h198 y.1) h255 h270) | exact inI_s hI (sU_s (k := kM P N ja)) (ca_1 h219) (hi_n h123) (lo_5 h189 h123 h255 h270) | exact inI_s hI (sU_s (k := kM P N ja)) (ca_1 h219) (hi_n h123) (lo_6 h189 h123 h255 h270) | exact inI_s hI (sU_s (k := kM P N ja)) (ca_4 h219 h123 (fun y => h198 y.1)) (hi_n h123) (lo_3 h189 h123 (fun y => h198 y.1) h255 h270) | exact inI_s hI (sU_s (k := kM P N ja)) (ca_4 h219 h123 (fun y => h198 y.1)) (hi_n h123) (lo_4 h189 h123 (fun y => h198 y.1) h255 h270) | exact inI_s hI (sU_s (k := kM P N ja)) (ca_4 h219 h123 (fun y => h198 y.1)) (hi_n h123) (lo_5 h189 h123 h255 h270) | exact inI_s hI (sU_s (k := kM P N ja)) (ca_4 h219 h123 (fun y => h198 y.1)) (hi_n h123) (lo_6 h189 h123 h255 h270) | exact inI_s hI (sU_s (k := kM P N ja)) (ca_1 h219) (hi_n h123) (lo_3 h189 h123 (fun y => h207 y.2) h255 h270) | exact inI_s hI (sU_s (k := kM P N ja)) (ca_1 h219) (hi_n h123) (lo_4 h189 h123 (fun y => h207 y.2) h255 h270) | exact inI_s hI (sU_s (k := kM P N ja)) (ca_1 h219) (hi_n h123) (lo_5 h189 h123 h255 h270) | exact inI_s hI (sU_s (k := kM P N ja)) (ca_1 h219) (hi_n h123) (lo_6 h189 h123 h255 h270) | exact inI_s hI (sU_s (k := kM P N ja)) (ca_4 h219 h123 (fun y => h207 y.2)) (hi_n h123) (lo_3 h189 h123 (fun y => h207 y.2) h255 h270) | exact inI_s hI (sU_s (k := kM P N ja)) (ca_4 h219 h123 (fun y => h207 y.2)) (hi_n h123) (lo_4 h189 h123 (fun y => h207 y.2) h255 h270) | exact inI_s hI (sU_s (k := kM P N ja)) (ca_4 h219 h123 (fun y => h207 y.2)) (hi_n h123) (lo_5 h189 h123 h255 h270) | exact inI_s hI (sU_s (k := kM P N ja)) (ca_4 h219 h123 (fun y => h207 y.2)) (hi_n h123) (lo_6 h189 h123 h255 h270) | exact inI_s hI (sU_s (k := kM P N ja)) (ca_1 h219) (hi_n h123) (lo_b h198 h207) | exact inI_s hI (sU_s (k := kM P N ja)) (ca_5 h198 h207) (hi_n h123) (lo_b h198 h207)) hZ (lv_sub hl [0, 5, 6, 7, 1, 2, 8, 9, 10] rfl)
                · skip
                  refine lv_lload hx hb d_Mod_into_131 (lv_at hl 1 rfl) ?_
                  refine lv_lconst (v := 0) hx hb d_Mod_into_133 rfl ?_
                  refine W.lcmp hx hb d_Mod_into_134 ?_
                  refine lv_if_lt (tgt := 142) hx hb d_Mod_into_135 (by decide) (fun h135 => ?_) (fun h135 => ?_)
                  · skip
                    rw [lg_cmp_lt] at h135
                    refine lv_iconst (v := (nI 0)) hx hb d_Mod_into_142 rfl ?_
                    refine lv_istore (lv' := [(7, .int (nI 0)), (13, .long (F jb (kM P N ja k))), (11, .long (F ja (kM P N ja k))), (10, .int (nI (64 * ja + k))), (9, .int (nI ja)), (8, .int (nI 0)), (3, .long lo), (5, .long hi), (0, .ref (ad 43)), (1, .int (nI ja)), (2, .int (nI jb))]) hx hb d_Mod_into_143 hl (by decide) rfl (fun ls hl => ?_)
                    refine lv_lload hx hb d_Mod_into_145 (lv_at hl 1 rfl) ?_
                    refine lv_lconst (v := 0) hx hb d_Mod_into_147 rfl ?_
                    refine W.lcmp hx hb d_Mod_into_148 ?_
                    refine lv_if_le (tgt := 178) hx hb d_Mod_into_149 (by decide) (fun h149 => ?_) (fun h149 => ?_)
                    · skip
                      rw [lg_cmp_le] at h149
                      refine lv_lload hx hb d_Mod_into_178 (lv_at hl 7 rfl) ?_
                      refine lv_lstore (lv' := [(5, .long hi), (7, .int (nI 0)), (13, .long (F jb (kM P N ja k))), (11, .long (F ja (kM P N ja k))), (10, .int (nI (64 * ja + k))), (9, .int (nI ja)), (8, .int (nI 0)), (3, .long lo), (0, .ref (ad 43)), (1, .int (nI ja)), (2, .int (nI jb))]) hx hb d_Mod_into_180 hl (by decide) rfl (fun ls hl => ?_)
                      refine lv_goto (tgt := 280) hx hb d_Mod_into_182 (by decide) ?_
                      refine lv_iinc (v := (nI ((64 * ja + k) + 1))) (lv' := [(10, .int (nI ((64 * ja + k) + 1))), (5, .long hi), (7, .int (nI 0)), (13, .long (F jb (kM P N ja k))), (11, .long (F ja (kM P N ja k))), (9, .int (nI ja)), (8, .int (nI 0)), (3, .long lo), (0, .ref (ad 43)), (1, .int (nI ja)), (2, .int (nI jb))]) hx hb d_Mod_into_280 hl (k := 4) rfl (nI_1 _) (by decide) rfl (fun ls hl => ?_)
                      refine lv_goto (tgt := 59) hx hb d_Mod_into_283 (by decide) ?_
                      exact ih59a (k + 1) lo hi (nI 0) _ _ _ (by omega) (by omega) (by first | exact inI_s hI (sU_s (k := kM P N ja)) (ca_1 h128) (hi_1 h149) (lo_1 h123) | exact inI_s hI (sU_s (k := kM P N ja)) (ca_1 h128) (hi_2 h149 h156) (lo_1 h123) | exact inI_s hI (sU_s (k := kM P N ja)) (ca_1 h128) (hi_3 h149 h156 h167) (lo_1 h123) | exact inI_s hI (sU_s (k := kM P N ja)) (ca_1 h128) (hi_4 h149 h156 h167) (lo_1 h123) | exact inI_s hI (sU_s (k := kM P N ja)) (ca_2 h135 h123) (hi_1 h149) (lo_1 h123) | exact inI_s hI (sU_s (k := kM P N ja)) (ca_2 h135 h123) (hi_2 h149 h156) (lo_1 h123) | exact inI_s hI (sU_s (k := kM P N ja)) (ca_2 h135 h123) (hi_3 h149 h156 h167) (lo_1 h123) | exact inI_s hI (sU_s (k := kM P N ja)) (ca_2 h135 h123) (hi_4 h149 h156 h167) (lo_1 h123) | exact inI_s hI (sU_s (k := kM P N ja)) (ca_3 h128 h135 h123) (hi_1 h149) (lo_1 h123) | exact inI_s hI (sU_s (k := kM P N ja)) (ca_3 h128 h135 h123) (hi_2 h149 h156) (lo_1 h123) | exact inI_s hI (sU_s (k := kM P N ja)) (ca_3 h128 h135 h123) (hi_3 h149 h156 h167) (lo_1 h123) | exact inI_s hI (sU_s (k := kM P N ja)) (ca_3 h128 h135 h123) (hi_4 h149 h156 h167) (lo_1 h123) | exact inI_s hI (sU_s (k := kM P N ja)) (ca_k hI h123 h189) (hi_n h123) (lo_2 h189) | exact inI_s hI (sU_s (k := kM P N ja)) (ca_1 h219) (hi_n h123) (lo_3 h189 h123 (fun y => h198 y.1) h255 h270) | exact inI_s hI (sU_s (k := kM P N ja)) (ca_1 h219) (hi_n h123) (lo_4 h189 h123 (fun y => h198 y.1) h255 h270) | exact inI_s hI (sU_s (k := kM P N ja)) (ca_1 h219) (hi_n h123) (lo_5 h189 h123 h255 h270) | exact inI_s hI (sU_s (k := kM P N ja)) (ca_1 h219) (hi_n h123) (lo_6 h189 h123 h255 h270) | exact inI_s hI (sU_s (k := kM P N ja)) (ca_4 h219 h123 (fun y => h198 y.1)) (hi_n h123) (lo_3 h189 h123 (fun y => h198 y.1) h255 h270) | exact inI_s hI (sU_s (k := kM P N ja)) (ca_4 h219 h123 (fun y => h198 y.1)) (hi_n h123) (lo_4 h189 h123 (fun y => h198 y.1) h255 h270) | exact inI_s hI (sU_s (k := kM P N ja)) (ca_4 h219 h123 (fun y => h198 y.1)) (hi_n h123) (lo_5 h189 h123 h255 h270) | exact inI_s hI (sU_s (k := kM P N ja)) (ca_4 h219 h123 (fun y => h198 y.1)) (hi_n h123) (lo_6 h189 h123 h255 h270) | exact inI_s hI (sU_s (k := kM P N ja)) (ca_1 h219) (hi_n h123) (lo_3 h189 h123 (fun y => h207 y.2) h255 h270) | exact inI_s hI (sU_s (k := kM P N ja)) (ca_1 h219) (hi_n h123) (lo_4 h189 h123 (fun y => h207 y.2) h255 h270) | exact inI_s hI (sU_s (k := kM P N ja)) (ca_1 h219) (hi_n h123) (lo_5 h189 h123 h255 h270) | exact inI_s hI (sU_s (k := kM P N ja)) (ca_1 h219) (hi_n h123) (lo_6 h189 h123 h255 h270) | exact inI_s hI (sU_s (k := kM P N ja)) (ca_4 h219 h123 (fun y => h207 y.2)) (hi_n h123) (lo_3 h189 h123 (fun y => h207 y.2) h255 h270) | exact inI_s hI (sU_s (k := kM P N ja)) (ca_4 h219 h123 (fun y => h207 y.2)) (hi_n h123) (lo_4 h189 h123 (fun y => h207 y.2) h255 h270) | exact inI_s hI (sU_s (k := kM P N ja)) (ca_4 h219 h123 (fun y => h207 y.2)) (hi_n h123) (lo_5 h189 h123 h255 h270) | exact inI_s hI (sU_s (k := kM P N ja)) (ca_4 h219 h123 (fun y => h207 y.2)) (hi_n h123) (lo_6 h189 h123 h255 h270) | exact inI_s hI (sU_s (k := kM P N ja)) (ca_1 h219) (hi_n h123) (lo_b h198 h207) | exact inI_s hI (sU_s (k := kM P N ja)) (ca_5 h198 h207) (hi_n h123) (lo_b h198 h207)) hZ (lv_sub hl [0, 5, 6, 7, 1, 2, 8, 9, 10] rfl)
                    · skip
                      rw [lg_cmp_le] at h149
                      refine lv_lload hx hb d_Mod_into_152 (lv_at hl 7 rfl) ?_
                      refine lv_lconst (v := 0) hx hb d_Mod_into_154 rfl ?_
                      refine W.lcmp hx hb d_Mod_into_155 ?_
                      refine lv_if_lt (tgt := 170) hx hb d_Mod_into_156 (by decide) (fun h156 => ?_) (fun h156 => ?_)
                      · skip
                        rw [lg_cmp_lt] at h156
                        refine lv_lload hx hb d_Mod_into_170 (lv_at hl 2 rfl) ?_
                        refine lv_lload hx hb d_Mod_into_172 (lv_at hl 1 rfl) ?_
                        refine lv_ldiv hx hb d_Mod_into_174 (i64_n0 h149) ?_
                        refine lv_goto (tgt := 180) hx hb d_Mod_into_175 (by decide) ?_
                        refine lv_lstore (lv' := [(5, .long ((F ja (kM P N ja k)) / (F jb (kM P N ja k)))), (7, .int (nI 0)), (13, .long (F jb (kM P N ja k))), (11, .long (F ja (kM P N ja k))), (10, .int (nI (64 * ja + k))), (9, .int (nI ja)), (8, .int (nI 0)), (3, .long lo), (0, .ref (ad 43)), (1, .int (nI ja)), (2, .int (nI jb))]) hx hb d_Mod_into_180 hl (by decide) rfl (fun ls hl => ?_)
                        refine lv_goto (tgt := 280) hx hb d_Mod_into_182 (by decide) ?_
                        refine lv_iinc (v := (nI ((64 * ja + k) + 1))) (lv' := [(10, .int (nI ((64 * ja + k) + 1))), (5, .long ((F ja (kM P N ja k)) / (F jb (kM P N ja k)))), (7, .int (nI 0)), (13, .long (F jb (kM P N ja k))), (11, .long (F ja (kM P N ja k))), (9, .int (nI ja)), (8, .int (nI 0)), (3, .long lo), (0, .ref (ad 43)), (1, .int (nI ja)), (2, .int (nI jb))]) hx hb d_Mod_into_280 hl (k := 4) rfl (nI_1 _) (by decide) rfl (fun ls hl => ?_)
                        refine lv_goto (tgt := 59) hx hb d_Mod_into_283 (by decide) ?_
                        exact ih59a (k + 1) lo ((F ja (kM P N ja k)) / (F jb (kM P N ja k))) (nI 0) _ _ _ (by omega) (by omega) (by first | exact inI_s hI (sU_s (k := kM P N ja)) (ca_1 h128) (hi_1 h149) (lo_1 h123) | exact inI_s hI (sU_s (k := kM P N ja)) (ca_1 h128) (hi_2 h149 h156) (lo_1 h123) | exact inI_s hI (sU_s (k := kM P N ja)) (ca_1 h128) (hi_3 h149 h156 h167) (lo_1 h123) | exact inI_s hI (sU_s (k := kM P N ja)) (ca_1 h128) (hi_4 h149 h156 h167) (lo_1 h123) | exact inI_s hI (sU_s (k := kM P N ja)) (ca_2 h135 h123) (hi_1 h149) (lo_1 h123) | exact inI_s hI (sU_s (k := kM P N ja)) (ca_2 h135 h123) (hi_2 h149 h156) (lo_1 h123) | exact inI_s hI (sU_s (k := kM P N ja)) (ca_2 h135 h123) (hi_3 h149 h156 h167) (lo_1 h123) | exact inI_s hI (sU_s (k := kM P N ja)) (ca_2 h135 h123) (hi_4 h149 h156 h167) (lo_1 h123) | exact inI_s hI (sU_s (k := kM P N ja)) (ca_3 h128 h135 h123) (hi_1 h149) (lo_1 h123) | exact inI_s hI (sU_s (k := kM P N ja)) (ca_3 h128 h135 h123) (hi_2 h149 h156) (lo_1 h123) | exact inI_s hI (sU_s (k := kM P N ja)) (ca_3 h128 h135 h123) (hi_3 h149 h156 h167) (lo_1 h123) | exact inI_s hI (sU_s (k := kM P N ja)) (ca_3 h128 h135 h123) (hi_4 h149 h156 h167) (lo_1 h123) | exact inI_s hI (sU_s (k := kM P N ja)) (ca_k hI h123 h189) (hi_n h123) (lo_2 h189) | exact inI_s hI (sU_s (k := kM P N ja)) (ca_1 h219) (hi_n h123) (lo_3 h189 h123 (fun y => h198 y.1) h255 h270) | exact inI_s hI (sU_s (k := kM P N ja)) (ca_1 h219) (hi_n h123) (lo_4 h189 h123 (fun y => h198 y.1) h255 h270) | exact inI_s hI (sU_s (k := kM P N ja)) (ca_1 h219) (hi_n h123) (lo_5 h189 h123 h255 h270) | exact inI_s hI (sU_s (k := kM P N ja)) (ca_1 h219) (hi_n h123) (lo_6 h189 h123 h255 h270) | exact inI_s hI (sU_s (k := kM P N ja)) (ca_4 h219 h123 (fun y => h198 y.1)) (hi_n h123) (lo_3 h189 h123 (fun y => h198 y.1) h255 h270) | exact inI_s hI (sU_s (k := kM P N ja)) (ca_4 h219 h123 (fun y => h198 y.1)) (hi_n h123) (lo_4 h189 h123 (fun y => h198 y.1) h255 h270) | exact inI_s hI (sU_s (k := kM P N ja)) (ca_4 h219 h123 (fun y => h198 y.1)) (hi_n h123) (lo_5 h189 h123 h255 h270) | exact inI_s hI (sU_s (k := kM P N ja)) (ca_4 h219 h123 (fun y => h198 y.1)) (hi_n h123) (lo_6 h189 h123 h255 h270) | exact inI_s hI (sU_s (k := kM P N ja)) (ca_1 h219) (hi_n h123) (lo_3 h189 h123 (fun y => h207 y.2) h255 h270) | exact inI_s hI (sU_s (k := kM P N ja)) (ca_1 h219) (hi_n h123) (lo_4 h189 h123 (fun y => h207 y.2) h255 h270) | exact inI_s hI (sU_s (k := kM P N ja)) (ca_1 h219) (hi_n h123) (lo_5 h189 h123 h255 h270) | exact inI_s hI (sU_s (k := kM P N ja)) (ca_1 h219) (hi_n h123) (lo_6 h189 h123 h255 h270) | exact inI_s hI (sU_s (k := kM P N ja)) (ca_4 h219 h123 (fun y => h207 y.2)) (hi_n h123) (lo_3 h189 h123 (fun y => h207 y.2) h255 h270) | exact inI_s hI (sU_s (k := kM P N ja)) (ca_4 h219 h123 (fun y => h207 y.2)) (hi_n h123) (lo_4 h189 h123 (fun y => h207 y.2) h255 h270) | exact inI_s hI (sU_s (k := kM P N ja)) (ca_4 h219 h123 (fun y => h207 y.2)) (hi_n h123) (lo_5 h189 h123 h255 h270) | exact inI_s hI (sU_s (k := kM P N ja)) (ca_4 h219 h123 (fun y => h207 y.2)) (hi_n h123) (lo_6 h189 h123 h255 h270) | exact inI_s hI (sU_s (k := kM P N ja)) (ca_1 h219) (hi_n h123) (lo_b h198 h207) | exact inI_s hI (sU_s (k := kM P N ja)) (ca_5 h198 h207) (hi_n h123) (lo_b h198 h207)) hZ (lv_sub hl [0, 5, 6, 7, 1, 2, 8, 9, 10] rfl)
                      · skip
                        rw [lg_cmp_lt] at h156
                        refine lv_lload hx hb d_Mod_into_159 (lv_at hl 2 rfl) ?_
                        refine lv_lload hx hb d_Mod_into_161 (lv_at hl 1 rfl) ?_
                        refine lv_ldiv hx hb d_Mod_into_163 (i64_n0 h149) ?_
                        refine lv_lload hx hb d_Mod_into_164 (lv_at hl 7 rfl) ?_
                        refine W.lcmp hx hb d_Mod_into_166 ?_
                        refine lv_if_ge (tgt := 178) hx hb d_Mod_into_167 (by decide) (fun h167 => ?_) (fun h167 => ?_)
                        · skip
                          rw [lg_cmp_ge] at h167
                          refine lv_lload hx hb d_Mod_into_178 (lv_at hl 7 rfl) ?_
                          refine lv_lstore (lv' := [(5, .long hi), (7, .int (nI 0)), (13, .long (F jb (kM P N ja k))), (11, .long (F ja (kM P N ja k))), (10, .int (nI (64 * ja + k))), (9, .int (nI ja)), (8, .int (nI 0)), (3, .long lo), (0, .ref (ad 43)), (1, .int (nI ja)), (2, .int (nI jb))]) hx hb d_Mod_into_180 hl (by decide) rfl (fun ls hl => ?_)
                          refine lv_goto (tgt := 280) hx hb d_Mod_into_182 (by decide) ?_
                          refine lv_iinc (v := (nI ((64 * ja + k) + 1))) (lv' := [(10, .int (nI ((64 * ja + k) + 1))), (5, .long hi), (7, .int (nI 0)), (13, .long (F jb (kM P N ja k))), (11, .long (F ja (kM P N ja k))), (9, .int (nI ja)), (8, .int (nI 0)), (3, .long lo), (0, .ref (ad 43)), (1, .int (nI ja)), (2, .int (nI jb))]) hx hb d_Mod_into_280 hl (k := 4) rfl (nI_1 _) (by decide) rfl (fun ls hl => ?_)
                          refine lv_goto (tgt := 59) hx hb d_Mod_into_283 (by decide) ?_
                          exact ih59a (k + 1) lo hi (nI 0) _ _ _ (by omega) (by omega) (by first | exact inI_s hI (sU_s (k := kM P N ja)) (ca_1 h128) (hi_1 h149) (lo_1 h123) | exact inI_s hI (sU_s (k := kM P N ja)) (ca_1 h128) (hi_2 h149 h156) (lo_1 h123) | exact inI_s hI (sU_s (k := kM P N ja)) (ca_1 h128) (hi_3 h149 h156 h167) (lo_1 h123) | exact inI_s hI (sU_s (k := kM P N ja)) (ca_1 h128) (hi_4 h149 h156 h167) (lo_1 h123) | exact inI_s hI (sU_s (k := kM P N ja)) (ca_2 h135 h123) (hi_1 h149) (lo_1 h123) | exact inI_s hI (sU_s (k := kM P N ja)) (ca_2 h135 h123) (hi_2 h149 h156) (lo_1 h123) | exact inI_s hI (sU_s (k := kM P N ja)) (ca_2 h135 h123) (hi_3 h149 h156 h167) (lo_1 h123) | exact inI_s hI (sU_s (k := kM P N ja)) (ca_2 h135 h123) (hi_4 h149 h156 h167) (lo_1 h123) | exact inI_s hI (sU_s (k := kM P N ja)) (ca_3 h128 h135 h123) (hi_1 h149) (lo_1 h123) | exact inI_s hI (sU_s (k := kM P N ja)) (ca_3 h128 h135 h123) (hi_2 h149 h156) (lo_1 h123) | exact inI_s hI (sU_s (k := kM P N ja)) (ca_3 h128 h135 h123) (hi_3 h149 h156 h167) (lo_1 h123) | exact inI_s hI (sU_s (k := kM P N ja)) (ca_3 h128 h135 h123) (hi_4 h149 h156 h167) (lo_1 h123) | exact inI_s hI (sU_s (k := kM P N ja)) (ca_k hI h123 h189) (hi_n h123) (lo_2 h189) | exact inI_s hI (sU_s (k := kM P N ja)) (ca_1 h219) (hi_n h123) (lo_3 h189 h123 (fun y => h198 y.1) h255 h270) | exact inI_s hI (sU_s (k := kM P N ja)) (ca_1 h219) (hi_n h123) (lo_4 h189 h123 (fun y => h198 y.1) h255 h270) | exact inI_s hI (sU_s (k := kM P N ja)) (ca_1 h219) (hi_n h123) (lo_5 h189 h123 h255 h270) | exact inI_s hI (sU_s (k := kM P N ja)) (ca_1 h219) (hi_n h123) (lo_6 h189 h123 h255 h270) | exact inI_s hI (sU_s (k := kM P N ja)) (ca_4 h219 h123 (fun y => h198 y.1)) (hi_n h123) (lo_3 h189 h123 (fun y => h198 y.1) h255 h270) | exact inI_s hI (sU_s (k := kM P N ja)) (ca_4 h219 h123 (fun y => h198 y.1)) (hi_n h123) (lo_4 h189 h123 (fun y => h198 y.1) h255 h270) | exact inI_s hI (sU_s (k := kM P N ja)) (ca_4 h219 h123 (fun y => h198 y.1)) (hi_n h123) (lo_5 h189 h123 h255 h270) | exact inI_s hI (sU_s (k := kM P N ja)) (ca_4 h219 h123 (fun y => h198 y.1)) (hi_n h123) (lo_6 h189 h123 h255 h270) | exact inI_s hI (sU_s (k := kM P N ja)) (ca_1 h219) (hi_n h123) (lo_3 h189 h123 (fun y => h207 y.2) h255 h270) | exact inI_s hI (sU_s (k := kM P N ja)) (ca_1 h219) (hi_n h123) (lo_4 h189 h123 (fun y => h207 y.2) h255 h270) | exact inI_s hI (sU_s (k := kM P N ja)) (ca_1 h219) (hi_n h123) (lo_5 h189 h123 h255 h270) | exact inI_s hI (sU_s (k := kM P N ja)) (ca_1 h219) (hi_n h123) (lo_6 h189 h123 h255 h270) | exact inI_s hI (sU_s (k := kM P N ja)) (ca_4 h219 h123 (fun y => h207 y.2)) (hi_n h123) (lo_3 h189 h123 (fun y => h207 y.2) h255 h270) | exact inI_s hI (sU_s (k := kM P N ja)) (ca_4 h219 h123 (fun y => h207 y.2)) (hi_n h123) (lo_4 h189 h123 (fun y => h207 y.2) h255 h270) | exact inI_s hI (sU_s (k := kM P N ja)) (ca_4 h219 h123 (fun y => h207 y.2)) (hi_n h123) (lo_5 h189 h123 h255 h270) | exact inI_s hI (sU_s (k := kM P N ja)) (ca_4 h219 h123 (fun y => h207 y.2)) (hi_n h123) (lo_6 h189 h123 h255 h270) | exact inI_s hI (sU_s (k := kM P N ja)) (ca_1 h219) (hi_n h123) (lo_b h198 h207) | exact inI_s hI (sU_s (k := kM P N ja)) (ca_5 h198 h207) (hi_n h123) (lo_b h198 h207)) hZ (lv_sub hl [0, 5, 6, 7, 1, 2, 8, 9, 10] rfl)
                        · skip
                          rw [lg_cmp_ge] at h167
                          refine lv_lload hx hb d_Mod_into_170 (lv_at hl 2 rfl) ?_
                          refine lv_lload hx hb d_Mod_into_172 (lv_at hl 1 rfl) ?_
                          refine lv_ldiv hx hb d_Mod_into_174 (i64_n0 h149) ?_
                          refine lv_goto (tgt := 180) hx hb d_Mod_into_175 (by decide) ?_
                          refine lv_lstore (lv' := [(5, .long ((F ja (kM P N ja k)) / (F jb (kM P N ja k)))), (7, .int (nI 0)), (13, .long (F jb (kM P N ja k))), (11, .long (F ja (kM P N ja k))), (10, .int (nI (64 * ja + k))), (9, .int (nI ja)), (8, .int (nI 0)), (3, .long lo), (0, .ref (ad 43)), (1, .int (nI ja)), (2, .int (nI jb))]) hx hb d_Mod_into_180 hl (by decide) rfl (fun ls hl => ?_)
                          refine lv_goto (tgt := 280) hx hb d_Mod_into_182 (by decide) ?_
                          refine lv_iinc (v := (nI ((64 * ja + k) + 1))) (lv' := [(10, .int (nI ((64 * ja + k) + 1))), (5, .long ((F ja (kM P N ja k)) / (F jb (kM P N ja k)))), (7, .int (nI 0)), (13, .long (F jb (kM P N ja k))), (11, .long (F ja (kM P N ja k))), (9, .int (nI ja)), (8, .int (nI 0)), (3, .long lo), (0, .ref (ad 43)), (1, .int (nI ja)), (2, .int (nI jb))]) hx hb d_Mod_into_280 hl (k := 4) rfl (nI_1 _) (by decide) rfl (fun ls hl => ?_)
                          refine lv_goto (tgt := 59) hx hb d_Mod_into_283 (by decide) ?_
                          exact ih59a (k + 1) lo ((F ja (kM P N ja k)) / (F jb (kM P N ja k))) (nI 0) _ _ _ (by omega) (by omega) (by first | exact inI_s hI (sU_s (k := kM P N ja)) (ca_1 h128) (hi_1 h149) (lo_1 h123) | exact inI_s hI (sU_s (k := kM P N ja)) (ca_1 h128) (hi_2 h149 h156) (lo_1 h123) | exact inI_s hI (sU_s (k := kM P N ja)) (ca_1 h128) (hi_3 h149 h156 h167) (lo_1 h123) | exact inI_s hI (sU_s (k := kM P N ja)) (ca_1 h128) (hi_4 h149 h156 h167) (lo_1 h123) | exact inI_s hI (sU_s (k := kM P N ja)) (ca_2 h135 h123) (hi_1 h149) (lo_1 h123) | exact inI_s hI (sU_s (k := kM P N ja)) (ca_2 h135 h123) (hi_2 h149 h156) (lo_1 h123) | exact inI_s hI (sU_s (k := kM P N ja)) (ca_2 h135 h123) (hi_3 h149 h156 h167) (lo_1 h123) | exact inI_s hI (sU_s (k := kM P N ja)) (ca_2 h135 h123) (hi_4 h149 h156 h167) (lo_1 h123) | exact inI_s hI (sU_s (k := kM P N ja)) (ca_3 h128 h135 h123) (hi_1 h149) (lo_1 h123) | exact inI_s hI (sU_s (k := kM P N ja)) (ca_3 h128 h135 h123) (hi_2 h149 h156) (lo_1 h123) | exact inI_s hI (sU_s (k := kM P N ja)) (ca_3 h128 h135 h123) (hi_3 h149 h156 h167) (lo_1 h123) | exact inI_s hI (sU_s (k := kM P N ja)) (ca_3 h128 h135 h123) (hi_4 h149 h156 h167) (lo_1 h123) | exact inI_s hI (sU_s (k := kM P N ja)) (ca_k hI h123 h189) (hi_n h123) (lo_2 h189) | exact inI_s hI (sU_s (k := kM P N ja)) (ca_1 h219) (hi_n h123) (lo_3 h189 h123 (fun y => h198 y.1) h255 h270) | exact inI_s hI (sU_s (k := kM P N ja)) (ca_1 h219) (hi_n h123) (lo_4 h189 h123 (fun y => h198 y.1) h255 h270) | exact inI_s hI (sU_s (k := kM P N ja)) (ca_1 h219) (hi_n h123) (lo_5 h189 h123 h255 h270) | exact inI_s hI (sU_s (k := kM P N ja)) (ca_1 h219) (hi_n h123) (lo_6 h189 h123 h255 h270) | exact inI_s hI (sU_s (k := kM P N ja)) (ca_4 h219 h123 (fun y => h198 y.1)) (hi_n h123) (lo_3 h189 h123 (fun y => h198 y.1) h255 h270) | exact inI_s hI (sU_s (k := kM P N ja)) (ca_4 h219 h123 (fun y => h198 y.1)) (hi_n h123) (lo_4 h189 h123 (fun y => h198 y.1) h255 h270) | exact inI_s hI (sU_s (k := kM P N ja)) (ca_4 h219 h123 (fun y => h198 y.1)) (hi_n h123) (lo_5 h189 h123 h255 h270) | exact inI_s hI (sU_s (k := kM P N ja)) (ca_4 h219 h123 (fun y => h198 y.1)) (hi_n h123) (lo_6 h189 h123 h255 h270) | exact inI_s hI (sU_s (k := kM P N ja)) (ca_1 h219) (hi_n h123) (lo_3 h189 h123 (fun y => h207 y.2) h255 h270) | exact inI_s hI (sU_s (k := kM P N ja)) (ca_1 h219) (hi_n h123) (lo_4 h189 h123 (fun y => h207 y.2) h255 h270) | exact inI_s hI (sU_s (k := kM P N ja)) (ca_1 h219) (hi_n h123) (lo_5 h189 h123 h255 h270) | exact inI_s hI (sU_s (k := kM P N ja)) (ca_1 h219) (hi_n h123) (lo_6 h189 h123 h255 h270) | exact inI_s hI (sU_s (k := kM P N ja)) (ca_4 h219 h123 (fun y => h207 y.2)) (hi_n h123) (lo_3 h189 h123 (fun y => h207 y.2) h255 h270) | exact inI_s hI (sU_s (k := kM P N ja)) (ca_4 h219 h123 (fun y => h207 y.2)) (hi_n h123) (lo_4 h189 h123 (fun y => h207 y.2) h255 h270) | exact inI_s hI (sU_s (k := kM P N ja)) (ca_4 h219 h123 (fun y => h207 y.2)) (hi_n h123) (lo_5 h189 h123 h255 h270) | exact inI_s hI (sU_s (k := kM P N ja)) (ca_4 h219 h123 (fun y => h207 y.2)) (hi_n h123) (lo_6 h189 h123 h255 h270) | exact inI_s hI (sU_s (k := kM P N ja)) (ca_1 h219) (hi_n h123) (lo_b h198 h207) | exact inI_s hI (sU_s (k := kM P N ja)) (ca_5 h198 h207) (hi_n h123) (lo_b h198 h207)) hZ (lv_sub hl [0, 5, 6, 7, 1, 2, 8, 9, 10] rfl)
                  · skip
                    rw [lg_cmp_lt] at h135
                    refine lv_iconst (v := (nI 1)) hx hb d_Mod_into_138 rfl ?_
                    refine lv_goto (tgt := 143) hx hb d_Mod_into_139 (by decide) ?_
                    refine lv_istore (lv' := [(7, .int (nI 1)), (13, .long (F jb (kM P N ja k))), (11, .long (F ja (kM P N ja k))), (10, .int (nI (64 * ja + k))), (9, .int (nI ja)), (8, .int (nI 0)), (3, .long lo), (5, .long hi), (0, .ref (ad 43)), (1, .int (nI ja)), (2, .int (nI jb))]) hx hb d_Mod_into_143 hl (by decide) rfl (fun ls hl => ?_)
                    refine lv_lload hx hb d_Mod_into_145 (lv_at hl 1 rfl) ?_
                    refine lv_lconst (v := 0) hx hb d_Mod_into_147 rfl ?_
                    refine W.lcmp hx hb d_Mod_into_148 ?_
                    refine lv_if_le (tgt := 178) hx hb d_Mod_into_149 (by decide) (fun h149 => ?_) (fun h149 => ?_)
                    · skip
                      rw [lg_cmp_le] at h149
                      refine lv_lload hx hb d_Mod_into_178 (lv_at hl 7 rfl) ?_
                      refine lv_lstore (lv' := [(5, .long hi), (7, .int (nI 1)), (13, .long (F jb (kM P N ja k))), (11, .long (F ja (kM P N ja k))), (10, .int (nI (64 * ja + k))), (9, .int (nI ja)), (8, .int (nI 0)), (3, .long lo), (0, .ref (ad 43)), (1, .int (nI ja)), (2, .int (nI jb))]) hx hb d_Mod_into_180 hl (by decide) rfl (fun ls hl => ?_)
                      refine lv_goto (tgt := 280) hx hb d_Mod_into_182 (by decide) ?_
                      refine lv_iinc (v := (nI ((64 * ja + k) + 1))) (lv' := [(10, .int (nI ((64 * ja + k) + 1))), (5, .long hi), (7, .int (nI 1)), (13, .long (F jb (kM P N ja k))), (11, .long (F ja (kM P N ja k))), (9, .int (nI ja)), (8, .int (nI 0)), (3, .long lo), (0, .ref (ad 43)), (1, .int (nI ja)), (2, .int (nI jb))]) hx hb d_Mod_into_280 hl (k := 4) rfl (nI_1 _) (by decide) rfl (fun ls hl => ?_)
                      refine lv_goto (tgt := 59) hx hb d_Mod_into_283 (by decide) ?_
                      exact ih59a (k + 1) lo hi (nI 1) _ _ _ (by omega) (by omega) (by first | exact inI_s hI (sU_s (k := kM P N ja)) (ca_1 h128) (hi_1 h149) (lo_1 h123) | exact inI_s hI (sU_s (k := kM P N ja)) (ca_1 h128) (hi_2 h149 h156) (lo_1 h123) | exact inI_s hI (sU_s (k := kM P N ja)) (ca_1 h128) (hi_3 h149 h156 h167) (lo_1 h123) | exact inI_s hI (sU_s (k := kM P N ja)) (ca_1 h128) (hi_4 h149 h156 h167) (lo_1 h123) | exact inI_s hI (sU_s (k := kM P N ja)) (ca_2 h135 h123) (hi_1 h149) (lo_1 h123) | exact inI_s hI (sU_s (k := kM P N ja)) (ca_2 h135 h123) (hi_2 h149 h156) (lo_1 h123) | exact inI_s hI (sU_s (k := kM P N ja)) (ca_2 h135 h123) (hi_3 h149 h156 h167) (lo_1 h123) | exact inI_s hI (sU_s (k := kM P N ja)) (ca_2 h135 h123) (hi_4 h149 h156 h167) (lo_1 h123) | exact inI_s hI (sU_s (k := kM P N ja)) (ca_3 h128 h135 h123) (hi_1 h149) (lo_1 h123) | exact inI_s hI (sU_s (k := kM P N ja)) (ca_3 h128 h135 h123) (hi_2 h149 h156) (lo_1 h123) | exact inI_s hI (sU_s (k := kM P N ja)) (ca_3 h128 h135 h123) (hi_3 h149 h156 h167) (lo_1 h123) | exact inI_s hI (sU_s (k := kM P N ja)) (ca_3 h128 h135 h123) (hi_4 h149 h156 h167) (lo_1 h123) | exact inI_s hI (sU_s (k := kM P N ja)) (ca_k hI h123 h189) (hi_n h123) (lo_2 h189) | exact inI_s hI (sU_s (k := kM P N ja)) (ca_1 h219) (hi_n h123) (lo_3 h189 h123 (fun y => h198 y.1) h255 h270) | exact inI_s hI (sU_s (k := kM P N ja)) (ca_1 h219) (hi_n h123) (lo_4 h189 h123 (fun y => h198 y.1) h255 h270) | exact inI_s hI (sU_s (k := kM P N ja)) (ca_1 h219) (hi_n h123) (lo_5 h189 h123 h255 h270) | exact inI_s hI (sU_s (k := kM P N ja)) (ca_1 h219) (hi_n h123) (lo_6 h189 h123 h255 h270) | exact inI_s hI (sU_s (k := kM P N ja)) (ca_4 h219 h123 (fun y => h198 y.1)) (hi_n h123) (lo_3 h189 h123 (fun y => h198 y.1) h255 h270) | exact inI_s hI (sU_s (k := kM P N ja)) (ca_4 h219 h123 (fun y => h198 y.1)) (hi_n h123) (lo_4 h189 h123 (fun y => h198 y.1) h255 h270) | exact inI_s hI (sU_s (k := kM P N ja)) (ca_4 h219 h123 (fun y => h198 y.1)) (hi_n h123) (lo_5 h189 h123 h255 h270) | exact inI_s hI (sU_s (k := kM P N ja)) (ca_4 h219 h123 (fun y => h198 y.1)) (hi_n h123) (lo_6 h189 h123 h255 h270) | exact inI_s hI (sU_s (k := kM P N ja)) (ca_1 h219) (hi_n h123) (lo_3 h189 h123 (fun y => h207 y.2) h255 h270) | exact inI_s hI (sU_s (k := kM P N ja)) (ca_1 h219) (hi_n h123) (lo_4 h189 h123 (fun y => h207 y.2) h255 h270) | exact inI_s hI (sU_s (k := kM P N ja)) (ca_1 h219) (hi_n h123) (lo_5 h189 h123 h255 h270) | exact inI_s hI (sU_s (k := kM P N ja)) (ca_1 h219) (hi_n h123) (lo_6 h189 h123 h255 h270) | exact inI_s hI (sU_s (k := kM P N ja)) (ca_4 h219 h123 (fun y => h207 y.2)) (hi_n h123) (lo_3 h189 h123 (fun y => h207 y.2) h255 h270) | exact inI_s hI (sU_s (k := kM P N ja)) (ca_4 h219 h123 (fun y => h207 y.2)) (hi_n h123) (lo_4 h189 h123 (fun y => h207 y.2) h255 h270) | exact inI_s hI (sU_s (k := kM P N ja)) (ca_4 h219 h123 (fun y => h207 y.2)) (hi_n h123) (lo_5 h189 h123 h255 h270) | exact inI_s hI (sU_s (k := kM P N ja)) (ca_4 h219 h123 (fun y => h207 y.2)) (hi_n h123) (lo_6 h189 h123 h255 h270) | exact inI_s hI (sU_s (k := kM P N ja)) (ca_1 h219) (hi_n h123) (lo_b h198 h207) | exact inI_s hI (sU_s (k := kM P N ja)) (ca_5 h198 h207) (hi_n h123) (lo_b h198 h207)) hZ (lv_sub hl [0, 5, 6, 7, 1, 2, 8, 9, 10] rfl)
                    · skip
                      rw [lg_cmp_le] at h149
                      refine lv_lload hx hb d_Mod_into_152 (lv_at hl 7 rfl) ?_
                      refine lv_lconst (v := 0) hx hb d_Mod_into_154 rfl ?_
                      refine W.lcmp hx hb d_Mod_into_155 ?_
                      refine lv_if_lt (tgt := 170) hx hb d_Mod_into_156 (by decide) (fun h156 => ?_) (fun h156 => ?_)
                      · skip
                        rw [lg_cmp_lt] at h156
                        refine lv_lload hx hb d_Mod_into_170 (lv_at hl 2 rfl) ?_
                        refine lv_lload hx hb d_Mod_into_172 (lv_at hl 1 rfl) ?_
                        refine lv_ldiv hx hb d_Mod_into_174 (i64_n0 h149) ?_
                        refine lv_goto (tgt := 180) hx hb d_Mod_into_175 (by decide) ?_
                        refine lv_lstore (lv' := [(5, .long ((F ja (kM P N ja k)) / (F jb (kM P N ja k)))), (7, .int (nI 1)), (13, .long (F jb (kM P N ja k))), (11, .long (F ja (kM P N ja k))), (10, .int (nI (64 * ja + k))), (9, .int (nI ja)), (8, .int (nI 0)), (3, .long lo), (0, .ref (ad 43)), (1, .int (nI ja)), (2, .int (nI jb))]) hx hb d_Mod_into_180 hl (by decide) rfl (fun ls hl => ?_)
                        refine lv_goto (tgt := 280) hx hb d_Mod_into_182 (by decide) ?_
                        refine lv_iinc (v := (nI ((64 * ja + k) + 1))) (lv' := [(10, .int (nI ((64 * ja + k) + 1))), (5, .long ((F ja (kM P N ja k)) / (F jb (kM P N ja k)))), (7, .int (nI 1)), (13, .long (F jb (kM P N ja k))), (11, .long (F ja (kM P N ja k))), (9, .int (nI ja)), (8, .int (nI 0)), (3, .long lo), (0, .ref (ad 43)), (1, .int (nI ja)), (2, .int (nI jb))]) hx hb d_Mod_into_280 hl (k := 4) rfl (nI_1 _) (by decide) rfl (fun ls hl => ?_)
                        refine lv_goto (tgt := 59) hx hb d_Mod_into_283 (by decide) ?_
                        exact ih59a (k + 1) lo ((F ja (kM P N ja k)) / (F jb (kM P N ja k))) (nI 1) _ _ _ (by omega) (by omega) (by first | exact inI_s hI (sU_s (k := kM P N ja)) (ca_1 h128) (hi_1 h149) (lo_1 h123) | exact inI_s hI (sU_s (k := kM P N ja)) (ca_1 h128) (hi_2 h149 h156) (lo_1 h123) | exact inI_s hI (sU_s (k := kM P N ja)) (ca_1 h128) (hi_3 h149 h156 h167) (lo_1 h123) | exact inI_s hI (sU_s (k := kM P N ja)) (ca_1 h128) (hi_4 h149 h156 h167) (lo_1 h123) | exact inI_s hI (sU_s (k := kM P N ja)) (ca_2 h135 h123) (hi_1 h149) (lo_1 h123) | exact inI_s hI (sU_s (k := kM P N ja)) (ca_2 h135 h123) (hi_2 h149 h156) (lo_1 h123) | exact inI_s hI (sU_s (k := kM P N ja)) (ca_2 h135 h123) (hi_3 h149 h156 h167) (lo_1 h123) | exact inI_s hI (sU_s (k := kM P N ja)) (ca_2 h135 h123) (hi_4 h149 h156 h167) (lo_1 h123) | exact inI_s hI (sU_s (k := kM P N ja)) (ca_3 h128 h135 h123) (hi_1 h149) (lo_1 h123) | exact inI_s hI (sU_s (k := kM P N ja)) (ca_3 h128 h135 h123) (hi_2 h149 h156) (lo_1 h123) | exact inI_s hI (sU_s (k := kM P N ja)) (ca_3 h128 h135 h123) (hi_3 h149 h156 h167) (lo_1 h123) | exact inI_s hI (sU_s (k := kM P N ja)) (ca_3 h128 h135 h123) (hi_4 h149 h156 h167) (lo_1 h123) | exact inI_s hI (sU_s (k := kM P N ja)) (ca_k hI h123 h189) (hi_n h123) (lo_2 h189) | exact inI_s hI (sU_s (k := kM P N ja)) (ca_1 h219) (hi_n h123) (lo_3 h189 h123 (fun y => h198 y.1) h255 h270) | exact inI_s hI (sU_s (k := kM P N ja)) (ca_1 h219) (hi_n h123) (lo_4 h189 h123 (fun y => h198 y.1) h255 h270) | exact inI_s hI (sU_s (k := kM P N ja)) (ca_1 h219) (hi_n h123) (lo_5 h189 h123 h255 h270) | exact inI_s hI (sU_s (k := kM P N ja)) (ca_1 h219) (hi_n h123) (lo_6 h189 h123 h255 h270) | exact inI_s hI (sU_s (k := kM P N ja)) (ca_4 h219 h123 (fun y => h198 y.1)) (hi_n h123) (lo_3 h189 h123 (fun y => h198 y.1) h255 h270) | exact inI_s hI (sU_s (k := kM P N ja)) (ca_4 h219 h123 (fun y => h198 y.1)) (hi_n h123) (lo_4 h189 h123 (fun y => h198 y.1) h255 h270) | exact inI_s hI (sU_s (k := kM P N ja)) (ca_4 h219 h123 (fun y => h198 y.1)) (hi_n h123) (lo_5 h189 h123 h255 h270) | exact inI_s hI (sU_s (k := kM P N ja)) (ca_4 h219 h123 (fun y => h198 y.1)) (hi_n h123) (lo_6 h189 h123 h255 h270) | exact inI_s hI (sU_s (k := kM P N ja)) (ca_1 h219) (hi_n h123) (lo_3 h189 h123 (fun y => h207 y.2) h255 h270) | exact inI_s hI (sU_s (k := kM P N ja)) (ca_1 h219) (hi_n h123) (lo_4 h189 h123 (fun y => h207 y.2) h255 h270) | exact inI_s hI (sU_s (k := kM P N ja)) (ca_1 h219) (hi_n h123) (lo_5 h189 h123 h255 h270) | exact inI_s hI (sU_s (k := kM P N ja)) (ca_1 h219) (hi_n h123) (lo_6 h189 h123 h255 h270) | exact inI_s hI (sU_s (k := kM P N ja)) (ca_4 h219 h123 (fun y => h207 y.2)) (hi_n h123) (lo_3 h189 h123 (fun y => h207 y.2) h255 h270) | exact inI_s hI (sU_s (k := kM P N ja)) (ca_4 h219 h123 (fun y => h207 y.2)) (hi_n h123) (lo_4 h189 h123 (fun y => h207 y.2) h255 h270) | exact inI_s hI (sU_s (k := kM P N ja)) (ca_4 h219 h123 (fun y => h207 y.2)) (hi_n h123) (lo_5 h189 h123 h255 h270) | exact inI_s hI (sU_s (k := kM P N ja)) (ca_4 h219 h123 (fun y => h207 y.2)) (hi_n h123) (lo_6 h189 h123 h255 h270) | exact inI_s hI (sU_s (k := kM P N ja)) (ca_1 h219) (hi_n h123) (lo_b h198 h207) | exact inI_s hI (sU_s (k := kM P N ja)) (ca_5 h198 h207) (hi_n h123) (lo_b h198 h207)) hZ (lv_sub hl [0, 5, 6, 7, 1, 2, 8, 9, 10] rfl)
                      · skip
                        rw [lg_cmp_lt] at h156
                        refine lv_lload hx hb d_Mod_into_159 (lv_at hl 2 rfl) ?_
                        refine lv_lload hx hb d_Mod_into_161 (lv_at hl 1 rfl) ?_
                        refine lv_ldiv hx hb d_Mod_into_163 (i64_n0 h149) ?_
                        refine lv_lload hx hb d_Mod_into_164 (lv_at hl 7 rfl) ?_
                        refine W.lcmp hx hb d_Mod_into_166 ?_
                        refine lv_if_ge (tgt := 178) hx hb d_Mod_into_167 (by decide) (fun h167 => ?_) (fun h167 => ?_)
                        · skip
                          rw [lg_cmp_ge] at h167
                          refine lv_lload hx hb d_Mod_into_178 (lv_at hl 7 rfl) ?_
                          refine lv_lstore (lv' := [(5, .long hi), (7, .int (nI 1)), (13, .long (F jb (kM P N ja k))), (11, .long (F ja (kM P N ja k))), (10, .int (nI (64 * ja + k))), (9, .int (nI ja)), (8, .int (nI 0)), (3, .long lo), (0, .ref (ad 43)), (1, .int (nI ja)), (2, .int (nI jb))]) hx hb d_Mod_into_180 hl (by decide) rfl (fun ls hl => ?_)
                          refine lv_goto (tgt := 280) hx hb d_Mod_into_182 (by decide) ?_
                          refine lv_iinc (v := (nI ((64 * ja + k) + 1))) (lv' := [(10, .int (nI ((64 * ja + k) + 1))), (5, .long hi), (7, .int (nI 1)), (13, .long (F jb (kM P N ja k))), (11, .long (F ja (kM P N ja k))), (9, .int (nI ja)), (8, .int (nI 0)), (3, .long lo), (0, .ref (ad 43)), (1, .int (nI ja)), (2, .int (nI jb))]) hx hb d_Mod_into_280 hl (k := 4) rfl (nI_1 _) (by decide) rfl (fun ls hl => ?_)
                          refine lv_goto (tgt := 59) hx hb d_Mod_into_283 (by decide) ?_
                          exact ih59a (k + 1) lo hi (nI 1) _ _ _ (by omega) (by omega) (by first | exact inI_s hI (sU_s (k := kM P N ja)) (ca_1 h128) (hi_1 h149) (lo_1 h123) | exact inI_s hI (sU_s (k := kM P N ja)) (ca_1 h128) (hi_2 h149 h156) (lo_1 h123) | exact inI_s hI (sU_s (k := kM P N ja)) (ca_1 h128) (hi_3 h149 h156 h167) (lo_1 h123) | exact inI_s hI (sU_s (k := kM P N ja)) (ca_1 h128) (hi_4 h149 h156 h167) (lo_1 h123) | exact inI_s hI (sU_s (k := kM P N ja)) (ca_2 h135 h123) (hi_1 h149) (lo_1 h123) | exact inI_s hI (sU_s (k := kM P N ja)) (ca_2 h135 h123) (hi_2 h149 h156) (lo_1 h123) | exact inI_s hI (sU_s (k := kM P N ja)) (ca_2 h135 h123) (hi_3 h149 h156 h167) (lo_1 h123) | exact inI_s hI (sU_s (k := kM P N ja)) (ca_2 h135 h123) (hi_4 h149 h156 h167) (lo_1 h123) | exact inI_s hI (sU_s (k := kM P N ja)) (ca_3 h128 h135 h123) (hi_1 h149) (lo_1 h123) | exact inI_s hI (sU_s (k := kM P N ja)) (ca_3 h128 h135 h123) (hi_2 h149 h156) (lo_1 h123) | exact inI_s hI (sU_s (k := kM P N ja)) (ca_3 h128 h135 h123) (hi_3 h149 h156 h167) (lo_1 h123) | exact inI_s hI (sU_s (k := kM P N ja)) (ca_3 h128 h135 h123) (hi_4 h149 h156 h167) (lo_1 h123) | exact inI_s hI (sU_s (k := kM P N ja)) (ca_k hI h123 h189) (hi_n h123) (lo_2 h189) | exact inI_s hI (sU_s (k := kM P N ja)) (ca_1 h219) (hi_n h123) (lo_3 h189 h123 (fun y => h198 y.1) h255 h270) | exact inI_s hI (sU_s (k := kM P N ja)) (ca_1 h219) (hi_n h123) (lo_4 h189 h123 (fun y => h198 y.1) h255 h270) | exact inI_s hI (sU_s (k := kM P N ja)) (ca_1 h219) (hi_n h123) (lo_5 h189 h123 h255 h270) | exact inI_s hI (sU_s (k := kM P N ja)) (ca_1 h219) (hi_n h123) (lo_6 h189 h123 h255 h270) | exact inI_s hI (sU_s (k := kM P N ja)) (ca_4 h219 h123 (fun y => h198 y.1)) (hi_n h123) (lo_3 h189 h123 (fun y => h198 y.1) h255 h270) | exact inI_s hI (sU_s (k := kM P N ja)) (ca_4 h219 h123 (fun y => h198 y.1)) (hi_n h123) (lo_4 h189 h123 (fun y => h198 y.1) h255 h270) | exact inI_s hI (sU_s (k := kM P N ja)) (ca_4 h219 h123 (fun y => h198 y.1)) (hi_n h123) (lo_5 h189 h123 h255 h270) | exact inI_s hI (sU_s (k := kM P N ja)) (ca_4 h219 h123 (fun y => h198 y.1)) (hi_n h123) (lo_6 h189 h123 h255 h270) | exact inI_s hI (sU_s (k := kM P N ja)) (ca_1 h219) (hi_n h123) (lo_3 h189 h123 (fun y => h207 y.2) h255 h270) | exact inI_s hI (sU_s (k := kM P N ja)) (ca_1 h219) (hi_n h123) (lo_4 h189 h123 (fun y => h207 y.2) h255 h270) | exact inI_s hI (sU_s (k := kM P N ja)) (ca_1 h219) (hi_n h123) (lo_5 h189 h123 h255 h270) | exact inI_s hI (sU_s (k := kM P N ja)) (ca_1 h219) (hi_n h123) (lo_6 h189 h123 h255 h270) | exact inI_s hI (sU_s (k := kM P N ja)) (ca_4 h219 h123 (fun y => h207 y.2)) (hi_n h123) (lo_3 h189 h123 (fun y => h207 y.2) h255 h270) | exact inI_s hI (sU_s (k := kM P N ja)) (ca_4 h219 h123 (fun y => h207 y.2)) (hi_n h123) (lo_4 h189 h123 (fun y => h207 y.2) h255 h270) | exact inI_s hI (sU_s (k := kM P N ja)) (ca_4 h219 h123 (fun y => h207 y.2)) (hi_n h123) (lo_5 h189 h123 h255 h270) | exact inI_s hI (sU_s (k := kM P N ja)) (ca_4 h219 h123 (fun y => h207 y.2)) (hi_n h123) (lo_6 h189 h123 h255 h270) | exact inI_s hI (sU_s (k := kM P N ja)) (ca_1 h219) (hi_n h123) (lo_b h198 h207) | exact inI_s hI (sU_s (k := kM P N ja)) (ca_5 h198 h207) (hi_n h123) (lo_b h198 h207)) hZ (lv_sub hl [0, 5, 6, 7, 1, 2, 8, 9, 10] rfl)
                        · skip
                          rw [lg_cmp_ge] at h167
                          refine lv_lload hx hb d_Mod_into_170 (lv_at hl 2 rfl) ?_
                          refine lv_lload hx hb d_Mod_into_172 (lv_at hl 1 rfl) ?_
                          refine lv_ldiv hx hb d_Mod_into_174 (i64_n0 h149) ?_
                          refine lv_goto (tgt := 180) hx hb d_Mod_into_175 (by decide) ?_
                          refine lv_lstore (lv' := [(5, .long ((F ja (kM P N ja k)) / (F jb (kM P N ja k)))), (7, .int (nI 1)), (13, .long (F jb (kM P N ja k))), (11, .long (F ja (kM P N ja k))), (10, .int (nI (64 * ja + k))), (9, .int (nI ja)), (8, .int (nI 0)), (3, .long lo), (0, .ref (ad 43)), (1, .int (nI ja)), (2, .int (nI jb))]) hx hb d_Mod_into_180 hl (by decide) rfl (fun ls hl => ?_)
                          refine lv_goto (tgt := 280) hx hb d_Mod_into_182 (by decide) ?_
                          refine lv_iinc (v := (nI ((64 * ja + k) + 1))) (lv' := [(10, .int (nI ((64 * ja + k) + 1))), (5, .long ((F ja (kM P N ja k)) / (F jb (kM P N ja k)))), (7, .int (nI 1)), (13, .long (F jb (kM P N ja k))), (11, .long (F ja (kM P N ja k))), (9, .int (nI ja)), (8, .int (nI 0)), (3, .long lo), (0, .ref (ad 43)), (1, .int (nI ja)), (2, .int (nI jb))]) hx hb d_Mod_into_280 hl (k := 4) rfl (nI_1 _) (by decide) rfl (fun ls hl => ?_)
                          refine lv_goto (tgt := 59) hx hb d_Mod_into_283 (by decide) ?_
                          exact ih59a (k + 1) lo ((F ja (kM P N ja k)) / (F jb (kM P N ja k))) (nI 1) _ _ _ (by omega) (by omega) (by first | exact inI_s hI (sU_s (k := kM P N ja)) (ca_1 h128) (hi_1 h149) (lo_1 h123) | exact inI_s hI (sU_s (k := kM P N ja)) (ca_1 h128) (hi_2 h149 h156) (lo_1 h123) | exact inI_s hI (sU_s (k := kM P N ja)) (ca_1 h128) (hi_3 h149 h156 h167) (lo_1 h123) | exact inI_s hI (sU_s (k := kM P N ja)) (ca_1 h128) (hi_4 h149 h156 h167) (lo_1 h123) | exact inI_s hI (sU_s (k := kM P N ja)) (ca_2 h135 h123) (hi_1 h149) (lo_1 h123) | exact inI_s hI (sU_s (k := kM P N ja)) (ca_2 h135 h123) (hi_2 h149 h156) (lo_1 h123) | exact inI_s hI (sU_s (k := kM P N ja)) (ca_2 h135 h123) (hi_3 h149 h156 h167) (lo_1 h123) | exact inI_s hI (sU_s (k := kM P N ja)) (ca_2 h135 h123) (hi_4 h149 h156 h167) (lo_1 h123) | exact inI_s hI (sU_s (k := kM P N ja)) (ca_3 h128 h135 h123) (hi_1 h149) (lo_1 h123) | exact inI_s hI (sU_s (k := kM P N ja)) (ca_3 h128 h135 h123) (hi_2 h149 h156) (lo_1 h123) | exact inI_s hI (sU_s (k := kM P N ja)) (ca_3 h128 h135 h123) (hi_3 h149 h156 h167) (lo_1 h123) | exact inI_s hI (sU_s (k := kM P N ja)) (ca_3 h128 h135 h123) (hi_4 h149 h156 h167) (lo_1 h123) | exact inI_s hI (sU_s (k := kM P N ja)) (ca_k hI h123 h189) (hi_n h123) (lo_2 h189) | exact inI_s hI (sU_s (k := kM P N ja)) (ca_1 h219) (hi_n h123) (lo_3 h189 h123 (fun y => h198 y.1) h255 h270) | exact inI_s hI (sU_s (k := kM P N ja)) (ca_1 h219) (hi_n h123) (lo_4 h189 h123 (fun y => h198 y.1) h255 h270) | exact inI_s hI (sU_s (k := kM P N ja)) (ca_1 h219) (hi_n h123) (lo_5 h189 h123 h255 h270) | exact inI_s hI (sU_s (k := kM P N ja)) (ca_1 h219) (hi_n h123) (lo_6 h189 h123 h255 h270) | exact inI_s hI (sU_s (k := kM P N ja)) (ca_4 h219 h123 (fun y => h198 y.1)) (hi_n h123) (lo_3 h189 h123 (fun y => h198 y.1) h255 h270) | exact inI_s hI (sU_s (k := kM P N ja)) (ca_4 h219 h123 (fun y => h198 y.1)) (hi_n h123) (lo_4 h189 h123 (fun y => h198 y.1) h255 h270) | exact inI_s hI (sU_s (k := kM P N ja)) (ca_4 h219 h123 (fun y => h198 y.1)) (hi_n h123) (lo_5 h189 h123 h255 h270) | exact inI_s hI (sU_s (k := kM P N ja)) (ca_4 h219 h123 (fun y => h198 y.1)) (hi_n h123) (lo_6 h189 h123 h255 h270) | exact inI_s hI (sU_s (k := kM P N ja)) (ca_1 h219) (hi_n h123) (lo_3 h189 h123 (fun y => h207 y.2) h255 h270) | exact inI_s hI (sU_s (k := kM P N ja)) (ca_1 h219) (hi_n h123) (lo_4 h189 h123 (fun y => h207 y.2) h255 h270) | exact inI_s hI (sU_s (k := kM P N ja)) (ca_1 h219) (hi_n h123) (lo_5 h189 h123 h255 h270) | exact inI_s hI (sU_s (k := kM P N ja)) (ca_1 h219) (hi_n h123) (lo_6 h189 h123 h255 h270) | exact inI_s hI (sU_s (k := kM P N ja)) (ca_4 h219 h123 (fun y => h207 y.2)) (hi_n h123) (lo_3 h189 h123 (fun y => h207 y.2) h255 h270) | exact inI_s hI (sU_s (k := kM P N ja)) (ca_4 h219 h123 (fun y => h207 y.2)) (hi_n h123) (lo_4 h189 h123 (fun y => h207 y.2) h255 h270) | exact inI_s hI (sU_s (k := kM P N ja)) (ca_4 h219 h123 (fun y => h207 y.2)) (hi_n h123) (lo_5 h189 h123 h255 h270) | exact inI_s hI (sU_s (k := kM P N ja)) (ca_4 h219 h123 (fun y => h207 y.2)) (hi_n h123) (lo_6 h189 h123 h255 h270) | exact inI_s hI (sU_s (k := kM P N ja)) (ca_1 h219) (hi_n h123) (lo_b h198 h207) | exact inI_s hI (sU_s (k := kM P N ja)) (ca_5 h198 h207) (hi_n h123) (lo_b h198 h207)) hZ (lv_sub hl [0, 5, 6, 7, 1, 2, 8, 9, 10] rfl)
        exact loop59a (za + 1) 0 0 (-1) (nI 1) _ _ _ (Nat.zero_le za) (by omega) (inI_0 sU_0) hZ (lv_sub hl [0, 1, 2, 5, 4, 3, 6, 7, 8] rfl)
  · skip
    have h16 : 0 < 0 := Nat.lt_of_not_le (fun z9 => h16 ((nI_leI (a := 0) (b := 0) (by omega) (by omega)).mpr z9))
    exact absurd h16 (by decide)
set_option maxHeartbeats 4000000 in
set_option maxRecDepth 100000 in
theorem x_Mod_into (l : Launch) (dC : Nat → ClassId) (dI : Nat → Nat → Nat) (cI cL cB : ClassId) (ad : Nat → Nat) (N0 : Nat) (w : Nat → va_E) (t0 : Int32) (F : Nat → Int → Int64) (a b : Int32) (cd : Int32) (hMM : sM ad cI cL w t0 F) (hbad : wX a b (nI 0) (nI 0) cd) : Met l y_Mod_into ws_Mod_into ({ frames := 2, cells := 0, slots := 0, locals := 44 } : Room) (va_Pc [.ref (ad 43), .int a, .int b] (sPr (dC, dI) vCl [(cI, .int), (cL, .long), (cB, .object "CoinBag$Bag")] 52 ad N0 w)) (va_Ql (fun r u => fr w u 43 50 ∧ sM ad cI cL u cd F) (sPr (dC, dI) vCl [(cI, .int), (cL, .long), (cB, .object "CoinBag$Bag")] 52 ad N0) (fun q => N0 ≤ q)) 0 0 (fun q => N0 ≤ q) := by
  refine Met.ofW (cc := b_Mod_into) (maxL := 18) (ret := (some .long)) (by decide) rfl ?_
  intro p e s m args below meth c s₁ B hml hv
  obtain ⟨rfl, hP, hK, hD, hN, hAm⟩ := hv
  have hx := B.exec
  have hb := B.bytes
  have hr := B.returns
  have hts := atoms_spec (ws := ws_Mod_into) B.pre
  have hown : s.vm.findClass "CoinBagModel" = some m.cls := findClass_of_methodNamed B.named
  have hlocks := B.notSynchronized
  have hZ : sZ (dC, dI) vCl 52 ad (fun q => N0 ≤ q) s.heap w s.heap [] := ⟨hP, hD, va_S.rf⟩
  have hl := lv_entry ([.ref (ad 43), .int a, .int b]) (n := 18) (Nat.le_of_ble_eq_true rfl)
  rw [lg_entry_eq]
  generalize (lg_sl ([.ref (ad 43), .int a, .int b]) ++ List.replicate (18 - (lg_sl ([.ref (ad 43), .int a, .int b])).length) Slot.unset).toArray = ls at hl ⊢
  have hl : lv_has ls 18 [(0, .ref (ad 43)), (1, .int a), (2, .int b)] := hl
  obtain ⟨mn, P, N, A, rm, rP, rN, rA, bd, hM, hB⟩ := hMM
  have hfr : fr w w 43 50 := fr_rf
  refine lv_aload_n hx hb d_Mod_into_0 rfl (lv_at hl 0 rfl) ?_
  refine lv_aload_n hx hb d_Mod_into_1 rfl (lv_at hl 0 rfl) ?_
  refine lv_iload_n hx hb d_Mod_into_2 rfl (lv_at hl 1 rfl) ?_
  refine lv_iload_n hx hb d_Mod_into_3 rfl (lv_at hl 2 rfl) ?_
  refine lv_iconst (v := (nI 0)) hx hb d_Mod_into_4 rfl ?_
  refine lv_iconst (v := (nI 0)) hx hb d_Mod_into_5 rfl ?_
  refine q_calli (va_runV (As := [.int a, .int b, .int (nI 0), .int (nI 0)]) (rest := [.ref (ad 43)]) ⟨hx, hb, hml, hown, hts⟩ (c_Mod_wrong l dC dI cI cL cB ad N0 w t0 mn P N A rm rP rN rA bd a b (nI 0) (nI 0) hM) (cwV 4 hts (gI_V k_462 k_459 k_461 k_7 k_24) rfl rfl rfl (by decide +kernel) ⟨Nat.le_of_ble_eq_true rfl, Nat.le_of_ble_eq_true rfl⟩) (q_preV hK hAm hZ hN [.int a, .int b, .int (nI 0), .int (nI 0)] (43) 3 (by decide) hM.1 rfl) rfl rfl hl.1 rfl (lv_room (Nat.le_of_ble_eq_true rfl)) d_Mod_into_6 ⟨Nat.zero_le _, Nat.zero_le _⟩) hZ (fun r u_r H locs h_r hZ => ?_)
  obtain ⟨e_r, h_r⟩ := h_r
  rw [e_r] at hZ
  refine q_topi (y := cd) (wr_x h_r hbad) ?_
  refine q_put (C := R_Mod) (T := T_Mod) (N := 10) (ty := .int) (v := .int cd) hx hb hts (fun w h => gm (inT_Mod w h)) ty_Mod tyo_Mod nm_Mod hown hK hZ (43) (by decide) hM.1 rfl 0 (by decide) (hts _ (gm k_420)) (fun _ h9 => h9) rfl (by decide +kernel) (rfl) (rfl) (Nat.le_of_ble_eq_true rfl) d_Mod_into_9 (fun H locs hZ => ?_)
  have hM := hM.up43 cd rm bd
  have hfr := fr_up (x := 43) (e := .inr (3, [.int cd, .ref (ad 44), .ref (ad 45), .ref (ad 46), .ref (ad 47), .int rm, .ref (ad 48), .ref (ad 49), .ref (ad 50), .int bd])) hfr (by omega) (by omega)
  have hZ : sZ (dC, dI) vCl 52 ad (fun q => N0 ≤ q) s.heap (va_up w 43 (.inr (3, [.int cd, .ref (ad 44), .ref (ad 45), .ref (ad 46), .ref (ad 47), .int rm, .ref (ad 48), .ref (ad 49), .ref (ad 50), .int bd]))) H locs := hZ
  generalize va_up w 43 (.inr (3, [.int cd, .ref (ad 44), .ref (ad 45), .ref (ad 46), .ref (ad 47), .int rm, .ref (ad 48), .ref (ad 49), .ref (ad 50), .int bd])) = w89 at hZ hM hfr
  refine lv_aload_n hx hb d_Mod_into_12 rfl (lv_at hl 0 rfl) ?_
  refine q_get (C := R_Mod) (T := T_Mod) (N := 10) hx hb hts (fun w h => gm (inT_Mod w h)) hown hK hZ (43) (by decide) hM.1 rfl 0 (by decide) (hts _ (gm k_420)) (fun _ h9 => h9) rfl d_Mod_into_13 ?_
  refine lv_if_le (tgt := 21) hx hb d_Mod_into_16 (by decide) (fun h16 => ?_) (fun h16 => ?_)
  · skip
    first | exact absurd h16 (wX_ne hbad) | exact absurd h16 (wX_le hbad) | exact absurd (wX_gt hbad) h16
  · skip
    refine lv_lconst (v := 0) hx hb d_Mod_into_19 rfl ?_
    exact q_lret hx hb hr hlocks hK hAm hZ hN (⟨hfr, ⟨_, _, _, _, _, _, _, _, _, hM, hB⟩⟩) d_Mod_into_20
set_option maxHeartbeats 4000000 in
set_option maxRecDepth 100000 in
theorem c_Mod_look (l : Launch) (dC : Nat → ClassId) (dI : Nat → Nat → Nat) (cI cL cB : ClassId) (ad : Nat → Nat) (N0 : Nat) (w : Nat → va_E) (t0 : Int32) (F : Nat → Int → Int64) (j : Nat) (q : Int32) (z2 : Nat) (P2 : Nat → Int32) (N2 A2 : Nat → Int64) (hMM : sM ad cI cL w t0 F) (hj : j < 8) (hRc : cRep z2 P2 N2 A2 (F j)) : Met l y_Mod_look ws_Mod_look ({ frames := 2, cells := 0, slots := 0, locals := 51 } : Room) (va_Pc [.ref (ad 43), .int (nI j), .int q] (sPr (dC, dI) vCl [(cI, .int), (cL, .long), (cB, .object "CoinBag$Bag")] 52 ad N0 w)) (va_Qi (fun r u => fr w u 43 50 ∧ sM ad cI cL u (nI 0) F ∧ lkR P2 A2 z2 q r) (sPr (dC, dI) vCl [(cI, .int), (cL, .long), (cB, .object "CoinBag$Bag")] 52 ad N0) (fun q => N0 ≤ q)) 0 0 (fun q => N0 ≤ q) := by
  refine Met.ofW (cc := b_Mod_look) (maxL := 9) (ret := (some .int)) (by decide) rfl ?_
  intro p e s m args below meth c s₁ B hml hv
  obtain ⟨rfl, hP, hK, hD, hN, hAm⟩ := hv
  have hx := B.exec
  have hb := B.bytes
  have hr := B.returns
  have hts := atoms_spec (ws := ws_Mod_look) B.pre
  have hown : s.vm.findClass "CoinBagModel" = some m.cls := findClass_of_methodNamed B.named
  have hlocks := B.notSynchronized
  have hZ : sZ (dC, dI) vCl 52 ad (fun q => N0 ≤ q) s.heap w s.heap [] := ⟨hP, hD, va_S.rf⟩
  have hl := lv_entry ([.ref (ad 43), .int (nI j), .int q]) (n := 9) (Nat.le_of_ble_eq_true rfl)
  rw [lg_entry_eq]
  generalize (lg_sl ([.ref (ad 43), .int (nI j), .int q]) ++ List.replicate (9 - (lg_sl ([.ref (ad 43), .int (nI j), .int q])).length) Slot.unset).toArray = ls at hl ⊢
  have hl : lv_has ls 9 [(0, .ref (ad 43)), (1, .int (nI j)), (2, .int q)] := hl
  obtain ⟨mn, P, N, A, rm, rP, rN, rA, bd, hM, hB⟩ := hMM
  have hfr : fr w w 43 50 := fr_rf
  obtain ⟨z, hz, hmn, hR⟩ := mB_at hB hj
  have ez : z2 = z := card_eq (eS_I hRc.2.1) hRc.2.2.1 hR.1 hR.2.1
  refine lv_aload_n hx hb d_Mod_look_0 rfl (lv_at hl 0 rfl) ?_
  refine lv_iload_n hx hb d_Mod_look_1 rfl (lv_at hl 1 rfl) ?_
  refine q_callSi (va_runS (As := [.int (nI j)]) (rest := [.ref (ad 43)]) ⟨hx, hb, hml, hown, hts⟩ (c_Mod_isBag l (nI j)) (va_cwS 1 hts (gI_S k_465 k_463 k_464 k_24) rfl rfl rfl (by decide +kernel) ⟨Nat.le_of_ble_eq_true rfl, Nat.le_of_ble_eq_true rfl⟩) ⟨fun _ _ _ _ q => q, fun _ _ _ => ⟨rfl, trivial⟩⟩ rfl rfl hl.1 rfl (lv_room (Nat.le_of_ble_eq_true rfl)) d_Mod_look_2 ⟨Nat.zero_le _, Nat.zero_le _⟩) (fun b9 h_b9 => ?_)
  have h_b9 := bY h_b9 (okB_nI hj)
  refine q_topi (y := nI 1) h_b9 ?_
  refine lv_if_eq (tgt := 12) hx hb d_Mod_look_5 (by decide) (fun h5 => ?_) (fun h5 => ?_)
  · skip
    have h5 : 1 = 0 := (nI_eq (a := 1) (b := 0) (by omega) (by omega)).mp h5
    exact absurd h5 (by decide)
  · skip
    have h5 : ¬ 1 = 0 := fun z9 => h5 ((nI_eq (a := 1) (b := 0) (by omega) (by omega)).mpr z9)
    refine lv_iconst (v := (nI 0)) hx hb d_Mod_look_8 rfl ?_
    refine lv_goto (tgt := 13) hx hb d_Mod_look_9 (by decide) ?_
    refine q_put (C := R_Mod) (T := T_Mod) (N := 10) (ty := .int) (v := .int (nI 0)) hx hb hts (fun w h => gm (inT_Mod w h)) ty_Mod tyo_Mod nm_Mod hown hK hZ (43) (by decide) hM.1 rfl 0 (by decide) (hts _ (gm k_420)) (fun _ h9 => h9) rfl (by decide +kernel) (rfl) (rfl) (Nat.le_of_ble_eq_true rfl) d_Mod_look_13 (fun H locs hZ => ?_)
    have hM := hM.up43 (nI 0) rm bd
    have hfr := fr_up (x := 43) (e := .inr (3, [.int (nI 0), .ref (ad 44), .ref (ad 45), .ref (ad 46), .ref (ad 47), .int rm, .ref (ad 48), .ref (ad 49), .ref (ad 50), .int bd])) hfr (by omega) (by omega)
    have hZ : sZ (dC, dI) vCl 52 ad (fun q => N0 ≤ q) s.heap (va_up w 43 (.inr (3, [.int (nI 0), .ref (ad 44), .ref (ad 45), .ref (ad 46), .ref (ad 47), .int rm, .ref (ad 48), .ref (ad 49), .ref (ad 50), .int bd]))) H locs := hZ
    generalize va_up w 43 (.inr (3, [.int (nI 0), .ref (ad 44), .ref (ad 45), .ref (ad 46), .ref (ad 47), .int rm, .ref (ad 48), .ref (ad 49), .ref (ad 50), .int bd])) = w90 at hZ hM hfr
    refine lv_aload_n hx hb d_Mod_look_16 rfl (lv_at hl 0 rfl) ?_
    refine q_get (C := R_Mod) (T := T_Mod) (N := 10) hx hb hts (fun w h => gm (inT_Mod w h)) hown hK hZ (43) (by decide) hM.1 rfl 0 (by decide) (hts _ (gm k_420)) (fun _ h9 => h9) rfl d_Mod_look_17 ?_
    refine lv_if_le (tgt := 25) hx hb d_Mod_look_20 (by decide) (fun h20 => ?_) (fun h20 => ?_)
    · skip
      have h20 : 0 ≤ 0 := (nI_leI (a := 0) (b := 0) (by omega) (by omega)).mp h20
      refine lv_iconst (v := (nI 0)) hx hb d_Mod_look_25 rfl ?_
      refine lv_istore_n (lv' := [(3, .int (nI 0)), (0, .ref (ad 43)), (1, .int (nI j)), (2, .int q)]) hx hb d_Mod_look_26 rfl hl (by decide) rfl (fun ls hl => ?_)
      refine lv_iconst (v := (nI 0)) hx hb d_Mod_look_27 rfl ?_
      refine lv_istore (lv' := [(4, .int (nI 0)), (3, .int (nI 0)), (0, .ref (ad 43)), (1, .int (nI j)), (2, .int q)]) hx hb d_Mod_look_28 hl (by decide) rfl (fun ls hl => ?_)
      refine lv_iconst (v := (-1)) hx hb d_Mod_look_30 rfl ?_
      refine lv_istore (lv' := [(5, .int (-1)), (4, .int (nI 0)), (3, .int (nI 0)), (0, .ref (ad 43)), (1, .int (nI j)), (2, .int q)]) hx hb d_Mod_look_31 hl (by decide) rfl (fun ls hl => ?_)
      refine lv_iconst (v := (nI 0)) hx hb d_Mod_look_33 rfl ?_
      refine lv_istore (lv' := [(6, .int (nI 0)), (5, .int (-1)), (4, .int (nI 0)), (3, .int (nI 0)), (0, .ref (ad 43)), (1, .int (nI j)), (2, .int q)]) hx hb d_Mod_look_34 hl (by decide) rfl (fun ls hl => ?_)
      have loop36 : ∀ (fu36 : Nat) (i : Nat) (H : Heap) (locs : List Loc) (ls : Array Slot), (i ≤ z) → (z + 1 ≤ i + fu36) → sZ (dC, dI) vCl 52 ad (fun q => N0 ≤ q) s.heap w90 H locs → lv_has ls 9 [(6, .int (nI i)), (3, .int (nI (cP P2 i))), (4, .int (nI (cN A2 i))), (5, .int (bI (cGr A2 i))), (0, .ref (ad 43)), (1, .int (nI j)), (2, .int q)] → W p l e (headSpec ws_Mod_look ({ frames := 2, cells := 0, slots := 0, locals := 51 } : Room)).room s m ([.ref (ad 43), .int (nI j), .int q]).toArray below meth c H locs 0 0 (MQ below (va_Qi (fun r u => fr w u 43 50 ∧ sM ad cI cL u (nI 0) F ∧ lkR P2 A2 z2 q r) (sPr (dC, dI) vCl [(cI, .int), (cL, .long), (cB, .object "CoinBag$Bag")] 52 ad N0) (fun q => N0 ≤ q)) ([.ref (ad 43), .int (nI j), .int q]).toArray s 0 0 (fun q => N0 ≤ q)) (F0 m 36 ls []) := by
        intro fu36
        induction fu36 with
        | zero =>
          intro i H locs ls hi hf9
          omega
        | succ fu36 ih36 =>
          intro i H locs ls hi hf9 hZ hl
          refine lv_iload hx hb d_Mod_look_36 (lv_at hl 0 rfl) ?_
          refine lv_aload_n hx hb d_Mod_look_38 rfl (lv_at hl 4 rfl) ?_
          refine q_get (C := R_Mod) (T := T_Mod) (N := 10) hx hb hts (fun w h => gm (inT_Mod w h)) hown hK hZ (43) (by decide) hM.1 rfl 1 (by decide) (hts _ (gm k_421)) (fun _ h9 => h9) rfl d_Mod_look_39 ?_
          refine lv_iload_n hx hb d_Mod_look_42 rfl (lv_at hl 5 rfl) ?_
          refine q_iald hx hb hK hZ (44) 0 (j) (by decide) hM.2.1 rfl rfl (by omega) (by decide) d_Mod_look_43 ?_
          refine q_topi (y := nI z) (hmn) ?_
          refine lv_icmp_ge (tgt := 195) hx hb d_Mod_look_44 (by decide) (fun h44 => ?_) (fun h44 => ?_)
          · skip
            have h44 : z ≤ i := (nI_leI (a := z) (b := i) (by omega) (by omega)).mp h44
            have ei : i = z2 := by omega
            refine lv_iload_n hx hb d_Mod_look_195 rfl (lv_at hl 6 rfl) ?_
            refine lv_if_ne (tgt := 203) hx hb d_Mod_look_196 (by decide) (fun h196 => ?_) (fun h196 => ?_)
            · skip
              refine lv_iload_n hx hb d_Mod_look_203 rfl (lv_at hl 6 rfl) ?_
              refine lv_iconst (v := (nI 1)) hx hb d_Mod_look_204 rfl ?_
              refine lv_icmp_ne (tgt := 213) hx hb d_Mod_look_205 (by decide) (fun h205 => ?_) (fun h205 => ?_)
              · skip
                refine lv_iload_n hx hb d_Mod_look_213 rfl (lv_at hl 6 rfl) ?_
                refine lv_iconst (v := (nI 2)) hx hb d_Mod_look_214 rfl ?_
                refine lv_icmp_ne (tgt := 223) hx hb d_Mod_look_215 (by decide) (fun h215 => ?_) (fun h215 => ?_)
                · skip
                  refine lv_iconst (v := (-1)) hx hb d_Mod_look_223 rfl ?_
                  exact q_iret hx hb hr hlocks hK hAm hZ hN (⟨hfr, ⟨_, _, _, _, _, _, _, _, _, hM, hB⟩, (by first | exact Or.inl ⟨h196, by rw [ei]⟩ | exact Or.inr (Or.inl ⟨h205, by rw [ei]⟩) | exact Or.inr (Or.inr (Or.inl ⟨h215, by rw [ei]⟩)) | exact Or.inr (Or.inr (Or.inr ⟨⟨h196, h205, h215⟩, rfl⟩)))⟩) d_Mod_look_224
                · skip
                  refine lv_iload hx hb d_Mod_look_218 (lv_at hl 3 rfl) ?_
                  refine lv_goto (tgt := 224) hx hb d_Mod_look_220 (by decide) ?_
                  exact q_iret hx hb hr hlocks hK hAm hZ hN (⟨hfr, ⟨_, _, _, _, _, _, _, _, _, hM, hB⟩, (by first | exact Or.inl ⟨h196, by rw [ei]⟩ | exact Or.inr (Or.inl ⟨h205, by rw [ei]⟩) | exact Or.inr (Or.inr (Or.inl ⟨h215, by rw [ei]⟩)) | exact Or.inr (Or.inr (Or.inr ⟨⟨h196, h205, h215⟩, rfl⟩)))⟩) d_Mod_look_224
              · skip
                refine lv_iload hx hb d_Mod_look_208 (lv_at hl 2 rfl) ?_
                refine lv_goto (tgt := 224) hx hb d_Mod_look_210 (by decide) ?_
                exact q_iret hx hb hr hlocks hK hAm hZ hN (⟨hfr, ⟨_, _, _, _, _, _, _, _, _, hM, hB⟩, (by first | exact Or.inl ⟨h196, by rw [ei]⟩ | exact Or.inr (Or.inl ⟨h205, by rw [ei]⟩) | exact Or.inr (Or.inr (Or.inl ⟨h215, by rw [ei]⟩)) | exact Or.inr (Or.inr (Or.inr ⟨⟨h196, h205, h215⟩, rfl⟩)))⟩) d_Mod_look_224
            · skip
              refine lv_iload_n hx hb d_Mod_look_199 rfl (lv_at hl 1 rfl) ?_
              refine lv_goto (tgt := 224) hx hb d_Mod_look_200 (by decide) ?_
              exact q_iret hx hb hr hlocks hK hAm hZ hN (⟨hfr, ⟨_, _, _, _, _, _, _, _, _, hM, hB⟩, (by first | exact Or.inl ⟨h196, by rw [ei]⟩ | exact Or.inr (Or.inl ⟨h205, by rw [ei]⟩) | exact Or.inr (Or.inr (Or.inl ⟨h215, by rw [ei]⟩)) | exact Or.inr (Or.inr (Or.inr ⟨⟨h196, h205, h215⟩, rfl⟩)))⟩) d_Mod_look_224
          · skip
            have h44 : i < z := Nat.lt_of_not_le (fun z9 => h44 ((nI_leI (a := z) (b := i) (by omega) (by omega)).mpr z9))
            refine lv_bipush (v := (nI 64)) hx hb d_Mod_look_47 rfl ?_
            refine lv_iload_n hx hb d_Mod_look_49 rfl (lv_at hl 5 rfl) ?_
            refine lv_imul hx hb d_Mod_look_50 ?_
            refine q_topi (y := nI (64 * j)) (pk_mul _ _) ?_
            refine lv_aload_n hx hb d_Mod_look_51 rfl (lv_at hl 4 rfl) ?_
            refine lv_iload_n hx hb d_Mod_look_52 rfl (lv_at hl 5 rfl) ?_
            refine lv_iload hx hb d_Mod_look_53 (lv_at hl 0 rfl) ?_
            refine q_calli (va_runV (As := [.int (nI j), .int (nI i)]) (rest := [.int (nI (64 * j))]) ⟨hx, hb, hml, hown, hts⟩ (c_Mod_inOrder l dC dI cI cL cB ad N0 w90 (nI 0) mn P N A rm rP rN rA bd j z i z2 P2 N2 A2 (F j) hM hj hz hmn hR hRc (by omega)) (cwV 2 hts (gI_V k_560 k_557 k_559 k_18 k_24) rfl rfl rfl (by decide +kernel) ⟨Nat.le_of_ble_eq_true rfl, Nat.le_of_ble_eq_true rfl⟩) (q_preV hK hAm hZ hN [.int (nI j), .int (nI i)] (43) 3 (by decide) hM.1 rfl) rfl rfl hl.1 rfl (lv_room (Nat.le_of_ble_eq_true rfl)) d_Mod_look_55 ⟨Nat.zero_le _, Nat.zero_le _⟩) hZ (fun o9 u_o9 H locs h_o9 hZ => ?_)
            obtain ⟨e_o9, h_o9⟩ := h_o9
            rw [e_o9] at hZ
            obtain ⟨kf, hk_kf, e_kf, p_kf, n_kf, a_kf⟩ := h_o9
            refine q_topi (y := nI kf) e_kf ?_
            refine lv_iadd hx hb d_Mod_look_58 ?_
            refine q_topi (y := nI ((64 * j) + kf)) (nI_add _ _) ?_
            refine lv_istore (lv' := [(7, .int (nI ((64 * j) + kf))), (6, .int (nI i)), (3, .int (nI (cP P2 i))), (4, .int (nI (cN A2 i))), (5, .int (bI (cGr A2 i))), (0, .ref (ad 43)), (1, .int (nI j)), (2, .int q)]) hx hb d_Mod_look_59 hl (by decide) rfl (fun ls hl => ?_)
            refine lv_iload hx hb d_Mod_look_61 (lv_at hl 1 rfl) ?_
            refine lv_if_ne (tgt := 70) hx hb d_Mod_look_63 (by decide) (fun h63 => ?_) (fun h63 => ?_)
            · skip
              have h63 : ¬ i = 0 := fun z9 => h63 ((nI_eq (a := i) (b := 0) (by omega) (by omega)).mpr z9)
              refine lv_bipush (v := (nI 64)) hx hb d_Mod_look_70 rfl ?_
              refine lv_iload_n hx hb d_Mod_look_72 rfl (lv_at hl 6 rfl) ?_
              refine lv_imul hx hb d_Mod_look_73 ?_
              refine q_topi (y := nI (64 * j)) (pk_mul _ _) ?_
              refine lv_aload_n hx hb d_Mod_look_74 rfl (lv_at hl 5 rfl) ?_
              refine lv_iload_n hx hb d_Mod_look_75 rfl (lv_at hl 6 rfl) ?_
              refine lv_iload hx hb d_Mod_look_76 (lv_at hl 1 rfl) ?_
              refine lv_iconst (v := (nI 1)) hx hb d_Mod_look_78 rfl ?_
              refine lv_isub hx hb d_Mod_look_79 ?_
              refine q_topi (y := nI (i - 1)) (pk_sub (by omega)) ?_
              refine q_calli (va_runV (As := [.int (nI j), .int (nI (i - 1))]) (rest := [.int (nI (64 * j))]) ⟨hx, hb, hml, hown, hts⟩ (c_Mod_inOrder l dC dI cI cL cB ad N0 w90 (nI 0) mn P N A rm rP rN rA bd j z (i - 1) z2 P2 N2 A2 (F j) hM hj hz hmn hR hRc (by omega)) (cwV 2 hts (gI_V k_560 k_557 k_559 k_18 k_24) rfl rfl rfl (by decide +kernel) ⟨Nat.le_of_ble_eq_true rfl, Nat.le_of_ble_eq_true rfl⟩) (q_preV hK hAm hZ hN [.int (nI j), .int (nI (i - 1))] (43) 3 (by decide) hM.1 rfl) rfl rfl hl.1 rfl (lv_room (Nat.le_of_ble_eq_true rfl)) d_Mod_look_80 ⟨Nat.zero_le _, Nat.zero_le _⟩) hZ (fun oh u_oh H locs h_oh hZ => ?_)
              obtain ⟨e_oh, h_oh⟩ := h_oh
              rw [e_oh] at hZ
              obtain ⟨kg, hk_kg, e_kg, p_kg, n_kg, a_kg⟩ := h_oh
              refine q_topi (y := nI kg) e_kg ?_
              refine lv_iadd hx hb d_Mod_look_83 ?_
              refine q_topi (y := nI ((64 * j) + kg)) (nI_add _ _) ?_
              refine lv_istore (lv' := [(8, .int (nI ((64 * j) + kg))), (7, .int (nI ((64 * j) + kf))), (6, .int (nI i)), (3, .int (nI (cP P2 i))), (4, .int (nI (cN A2 i))), (5, .int (bI (cGr A2 i))), (0, .ref (ad 43)), (1, .int (nI j)), (2, .int q)]) hx hb d_Mod_look_84 hl (by decide) rfl (fun ls hl => ?_)
              refine lv_iload_n hx hb d_Mod_look_86 rfl (lv_at hl 3 rfl) ?_
              refine lv_iload hx hb d_Mod_look_87 (lv_at hl 2 rfl) ?_
              refine lv_if_eq (tgt := 109) hx hb d_Mod_look_89 (by decide) (fun h89 => ?_) (fun h89 => ?_)
              · skip
                have h89 : i = 0 := (nI_eq (a := i) (b := 0) (by omega) (by omega)).mp h89
                refine lv_iconst (v := (nI 1)) hx hb d_Mod_look_109 rfl ?_
                refine lv_goto (tgt := 114) hx hb d_Mod_look_110 (by decide) ?_
                refine lv_iadd hx hb d_Mod_look_114 ?_
                refine q_topi (y := nI ((cP P2 i) + 1)) (nI_add _ _) ?_
                refine q_topi (y := nI (cP P2 (i + 1))) (congrArg nI ((cP_y (by first | exact Or.inl h89 | exact Or.inr (fun y => h106 (by rw [p_kf, p_kg]; exact y.symm)))))) ?_
                refine lv_istore_n (lv' := [(3, .int (nI (cP P2 (i + 1)))), (8, .int (nI ((64 * j) + kg))), (7, .int (nI ((64 * j) + kf))), (6, .int (nI i)), (4, .int (nI (cN A2 i))), (5, .int (bI (cGr A2 i))), (0, .ref (ad 43)), (1, .int (nI j)), (2, .int q)]) hx hb d_Mod_look_115 rfl hl (by decide) rfl (fun ls hl => ?_)
                refine lv_iload hx hb d_Mod_look_116 (lv_at hl 4 rfl) ?_
                refine lv_aload_n hx hb d_Mod_look_118 rfl (lv_at hl 6 rfl) ?_
                refine q_get (C := R_Mod) (T := T_Mod) (N := 10) hx hb hts (fun w h => gm (inT_Mod w h)) hown hK hZ (43) (by decide) hM.1 rfl 4 (by decide) (hts _ (gm k_424)) (fun _ h9 => h9) rfl d_Mod_look_119 ?_
                refine lv_iload hx hb d_Mod_look_122 (lv_at hl 2 rfl) ?_
                refine q_lald hx hb hK hZ (47) 1 (((64 * j) + kf)) (by decide) hM.2.2.2.2.1 rfl rfl (by omega) (by decide) d_Mod_look_124 ?_
                refine lv_lconst (v := 0) hx hb d_Mod_look_125 rfl ?_
                refine W.lcmp hx hb d_Mod_look_126 ?_
                refine lv_if_ge (tgt := 134) hx hb d_Mod_look_127 (by decide) (fun h127 => ?_) (fun h127 => ?_)
                · skip
                  rw [lg_cmp_ge] at h127
                  refine lv_iconst (v := (nI 0)) hx hb d_Mod_look_134 rfl ?_
                  refine lv_iadd hx hb d_Mod_look_135 ?_
                  refine q_topi (y := nI ((cN A2 i) + 0)) (nI_add _ _) ?_
                  refine q_topi (y := nI (cN A2 (i + 1))) (congrArg nI ((cN_n (by rw [← a_kf]; exact Int64.not_lt.mpr h127)))) ?_
                  refine lv_istore (lv' := [(4, .int (nI (cN A2 (i + 1)))), (3, .int (nI (cP P2 (i + 1)))), (8, .int (nI ((64 * j) + kg))), (7, .int (nI ((64 * j) + kf))), (6, .int (nI i)), (5, .int (bI (cGr A2 i))), (0, .ref (ad 43)), (1, .int (nI j)), (2, .int q)]) hx hb d_Mod_look_136 hl (by decide) rfl (fun ls hl => ?_)
                  have hcb := cGr_le A2 i
                  by_cases hb0 : cGr A2 i = 0
                  · skip
                    have e1 : bI (cGr A2 i) = (-1) := if_pos hb0
                    rw [e1] at hl
                    refine lv_iload hx hb d_Mod_look_138 (lv_at hl 5 rfl) ?_
                    refine lv_if_lt (tgt := 180) hx hb d_Mod_look_140 (by decide) (fun h140 => ?_) (fun h140 => ?_)
                    · skip
                      refine lv_iload hx hb d_Mod_look_180 (lv_at hl 4 rfl) ?_
                      refine lv_goto (tgt := 187) hx hb d_Mod_look_182 (by decide) ?_
                      refine lv_istore (lv' := [(5, .int (nI i)), (4, .int (nI (cN A2 (i + 1)))), (3, .int (nI (cP P2 (i + 1)))), (8, .int (nI ((64 * j) + kg))), (7, .int (nI ((64 * j) + kf))), (6, .int (nI i)), (0, .ref (ad 43)), (1, .int (nI j)), (2, .int q)]) hx hb d_Mod_look_187 hl (by decide) rfl (fun ls hl => ?_)
                      refine lv_iinc (v := (nI (i + 1))) (lv' := [(6, .int (nI (i + 1))), (5, .int (nI i)), (4, .int (nI (cN A2 (i + 1)))), (3, .int (nI (cP P2 (i + 1)))), (8, .int (nI ((64 * j) + kg))), (7, .int (nI ((64 * j) + kf))), (0, .ref (ad 43)), (1, .int (nI j)), (2, .int q)]) hx hb d_Mod_look_189 hl (k := 5) rfl (nI_1 _) (by decide) rfl (fun ls hl => ?_)
                      refine lv_goto (tgt := 36) hx hb d_Mod_look_192 (by decide) ?_
                      have e8 : cGr A2 (i + 1) = i + 1 := by
                        show (if cGr A2 i = 0 ∨ A2 (cGr A2 i - 1) < A2 i then i + 1 else cGr A2 i) = _
                        rw [if_pos (by first | exact Or.inl hb0 | exact Or.inr (by rw [← a_kf, ← a_kb]; exact Int64.not_le.mp h177))]
                      have e9 : bI (cGr A2 (i + 1)) = nI i := by rw [e8]; rfl
                      rw [← e9] at hl
                      exact ih36 (i + 1) _ _ _ (by omega) (by omega) hZ (lv_sub hl [0, 3, 2, 1, 6, 7, 8] rfl)
                    · skip
                      exact absurd (show (-1 : Int32) < 0 from by decide) h140
                  · skip
                    have e1 : bI (cGr A2 i) = (nI (cGr A2 i - 1)) := if_neg hb0
                    rw [e1] at hl
                    refine lv_iload hx hb d_Mod_look_138 (lv_at hl 5 rfl) ?_
                    refine lv_if_lt (tgt := 180) hx hb d_Mod_look_140 (by decide) (fun h140 => ?_) (fun h140 => ?_)
                    · skip
                      have h140 : (cGr A2 i - 1) < 0 := (nI_ltI (a := (cGr A2 i - 1)) (b := 0) (by omega) (by omega)).mp h140
                      exact absurd h140 (by omega)
                    · skip
                      have h140 : 0 ≤ (cGr A2 i - 1) := Nat.le_of_not_lt (fun z9 => h140 ((nI_ltI (a := (cGr A2 i - 1)) (b := 0) (by omega) (by omega)).mpr z9))
                      refine lv_aload_n hx hb d_Mod_look_143 rfl (lv_at hl 6 rfl) ?_
                      refine q_get (C := R_Mod) (T := T_Mod) (N := 10) hx hb hts (fun w h => gm (inT_Mod w h)) hown hK hZ (43) (by decide) hM.1 rfl 4 (by decide) (hts _ (gm k_424)) (fun _ h9 => h9) rfl d_Mod_look_144 ?_
                      refine lv_iload hx hb d_Mod_look_147 (lv_at hl 3 rfl) ?_
                      refine q_lald hx hb hK hZ (47) 1 (((64 * j) + kf)) (by decide) hM.2.2.2.2.1 rfl rfl (by omega) (by decide) d_Mod_look_149 ?_
                      refine lv_aload_n hx hb d_Mod_look_150 rfl (lv_at hl 6 rfl) ?_
                      refine q_get (C := R_Mod) (T := T_Mod) (N := 10) hx hb hts (fun w h => gm (inT_Mod w h)) hown hK hZ (43) (by decide) hM.1 rfl 4 (by decide) (hts _ (gm k_424)) (fun _ h9 => h9) rfl d_Mod_look_151 ?_
                      refine lv_bipush (v := (nI 64)) hx hb d_Mod_look_154 rfl ?_
                      refine lv_iload_n hx hb d_Mod_look_156 rfl (lv_at hl 7 rfl) ?_
                      refine lv_imul hx hb d_Mod_look_157 ?_
                      refine q_topi (y := nI (64 * j)) (pk_mul _ _) ?_
                      refine lv_aload_n hx hb d_Mod_look_158 rfl (lv_at hl 6 rfl) ?_
                      refine lv_iload_n hx hb d_Mod_look_159 rfl (lv_at hl 7 rfl) ?_
                      refine lv_iload hx hb d_Mod_look_160 (lv_at hl 5 rfl) ?_
                      refine lv_if_ge (tgt := 169) hx hb d_Mod_look_162 (by decide) (fun h162 => ?_) (fun h162 => ?_)
                      · skip
                        have h162 : 0 ≤ (cGr A2 i - 1) := (nI_leI (a := 0) (b := (cGr A2 i - 1)) (by omega) (by omega)).mp h162
                        refine lv_iload hx hb d_Mod_look_169 (lv_at hl 5 rfl) ?_
                        refine q_calli (va_runV (As := [.int (nI j), .int (nI (cGr A2 i - 1))]) (rest := [.int (nI (64 * j)), .ref (ad 47), .long (A ((64 * j) + kf))]) ⟨hx, hb, hml, hown, hts⟩ (c_Mod_inOrder l dC dI cI cL cB ad N0 w90 (nI 0) mn P N A rm rP rN rA bd j z (cGr A2 i - 1) z2 P2 N2 A2 (F j) hM hj hz hmn hR hRc (by omega)) (cwV 2 hts (gI_V k_560 k_557 k_559 k_18 k_24) rfl rfl rfl (by decide +kernel) ⟨Nat.le_of_ble_eq_true rfl, Nat.le_of_ble_eq_true rfl⟩) (q_preV hK hAm hZ hN [.int (nI j), .int (nI (cGr A2 i - 1))] (43) 3 (by decide) hM.1 rfl) rfl rfl hl.1 rfl (lv_room (Nat.le_of_ble_eq_true rfl)) d_Mod_look_171 ⟨Nat.zero_le _, Nat.zero_le _⟩) hZ (fun og u_og H locs h_og hZ => ?_)
                        obtain ⟨e_og, h_og⟩ := h_og
                        rw [e_og] at hZ
                        obtain ⟨kb, hk_kb, e_kb, p_kb, n_kb, a_kb⟩ := h_og
                        refine q_topi (y := nI kb) e_kb ?_
                        refine lv_iadd hx hb d_Mod_look_174 ?_
                        refine q_topi (y := nI ((64 * j) + kb)) (nI_add _ _) ?_
                        refine q_lald hx hb hK hZ (47) 1 (((64 * j) + kb)) (by decide) hM.2.2.2.2.1 rfl rfl (by omega) (by decide) d_Mod_look_175 ?_
                        refine W.lcmp hx hb d_Mod_look_176 ?_
                        refine lv_if_le (tgt := 185) hx hb d_Mod_look_177 (by decide) (fun h177 => ?_) (fun h177 => ?_)
                        · skip
                          rw [lg_cmp_le] at h177
                          refine lv_iload hx hb d_Mod_look_185 (lv_at hl 5 rfl) ?_
                          refine lv_istore (lv' := [(5, .int (nI (cGr A2 i - 1))), (4, .int (nI (cN A2 (i + 1)))), (3, .int (nI (cP P2 (i + 1)))), (8, .int (nI ((64 * j) + kg))), (7, .int (nI ((64 * j) + kf))), (6, .int (nI i)), (0, .ref (ad 43)), (1, .int (nI j)), (2, .int q)]) hx hb d_Mod_look_187 hl (by decide) rfl (fun ls hl => ?_)
                          refine lv_iinc (v := (nI (i + 1))) (lv' := [(6, .int (nI (i + 1))), (5, .int (nI (cGr A2 i - 1))), (4, .int (nI (cN A2 (i + 1)))), (3, .int (nI (cP P2 (i + 1)))), (8, .int (nI ((64 * j) + kg))), (7, .int (nI ((64 * j) + kf))), (0, .ref (ad 43)), (1, .int (nI j)), (2, .int q)]) hx hb d_Mod_look_189 hl (k := 5) rfl (nI_1 _) (by decide) rfl (fun ls hl => ?_)
                          refine lv_goto (tgt := 36) hx hb d_Mod_look_192 (by decide) ?_
                          have e8 : cGr A2 (i + 1) = cGr A2 i := by
                            show (if cGr A2 i = 0 ∨ A2 (cGr A2 i - 1) < A2 i then i + 1 else cGr A2 i) = _
                            rw [if_neg (fun y => y.elim hb0 (by rw [← a_kf, ← a_kb]; exact Int64.not_lt.mpr h177))]
                          have e9 : bI (cGr A2 (i + 1)) = nI (cGr A2 i - 1) := by rw [e8]; exact e1
                          rw [← e9] at hl
                          exact ih36 (i + 1) _ _ _ (by omega) (by omega) hZ (lv_sub hl [0, 3, 2, 1, 6, 7, 8] rfl)
                        · skip
                          rw [lg_cmp_le] at h177
                          refine lv_iload hx hb d_Mod_look_180 (lv_at hl 4 rfl) ?_
                          refine lv_goto (tgt := 187) hx hb d_Mod_look_182 (by decide) ?_
                          refine lv_istore (lv' := [(5, .int (nI i)), (4, .int (nI (cN A2 (i + 1)))), (3, .int (nI (cP P2 (i + 1)))), (8, .int (nI ((64 * j) + kg))), (7, .int (nI ((64 * j) + kf))), (6, .int (nI i)), (0, .ref (ad 43)), (1, .int (nI j)), (2, .int q)]) hx hb d_Mod_look_187 hl (by decide) rfl (fun ls hl => ?_)
                          refine lv_iinc (v := (nI (i + 1))) (lv' := [(6, .int (nI (i + 1))), (5, .int (nI i)), (4, .int (nI (cN A2 (i + 1)))), (3, .int (nI (cP P2 (i + 1)))), (8, .int (nI ((64 * j) + kg))), (7, .int (nI ((64 * j) + kf))), (0, .ref (ad 43)), (1, .int (nI j)), (2, .int q)]) hx hb d_Mod_look_189 hl (k := 5) rfl (nI_1 _) (by decide) rfl (fun ls hl => ?_)
                          refine lv_goto (tgt := 36) hx hb d_Mod_look_192 (by decide) ?_
                          have e8 : cGr A2 (i + 1) = i + 1 := by
                            show (if cGr A2 i = 0 ∨ A2 (cGr A2 i - 1) < A2 i then i + 1 else cGr A2 i) = _
                            rw [if_pos (by first | exact Or.inl hb0 | exact Or.inr (by rw [← a_kf, ← a_kb]; exact Int64.not_le.mp h177))]
                          have e9 : bI (cGr A2 (i + 1)) = nI i := by rw [e8]; rfl
                          rw [← e9] at hl
                          exact ih36 (i + 1) _ _ _ (by omega) (by omega) hZ (lv_sub hl [0, 3, 2, 1, 6, 7, 8] rfl)
                      · skip
                        have h162 : (cGr A2 i - 1) < 0 := Nat.lt_of_not_le (fun z9 => h162 ((nI_leI (a := 0) (b := (cGr A2 i - 1)) (by omega) (by omega)).mpr z9))
                        exact absurd h162 (by omega)
                · skip
                  rw [lg_cmp_ge] at h127
                  refine lv_iconst (v := (nI 1)) hx hb d_Mod_look_130 rfl ?_
                  refine lv_goto (tgt := 135) hx hb d_Mod_look_131 (by decide) ?_
                  refine lv_iadd hx hb d_Mod_look_135 ?_
                  refine q_topi (y := nI ((cN A2 i) + 1)) (nI_add _ _) ?_
                  refine q_topi (y := nI (cN A2 (i + 1))) (congrArg nI ((cN_y (by rw [← a_kf]; exact Int64.not_le.mp h127)))) ?_
                  refine lv_istore (lv' := [(4, .int (nI (cN A2 (i + 1)))), (3, .int (nI (cP P2 (i + 1)))), (8, .int (nI ((64 * j) + kg))), (7, .int (nI ((64 * j) + kf))), (6, .int (nI i)), (5, .int (bI (cGr A2 i))), (0, .ref (ad 43)), (1, .int (nI j)), (2, .int q)]) hx hb d_Mod_look_136 hl (by decide) rfl (fun ls hl => ?_)
                  have hcb := cGr_le A2 i
                  by_cases hb0 : cGr A2 i = 0
                  · skip
                    have e1 : bI (cGr A2 i) = (-1) := if_pos hb0
                    rw [e1] at hl
                    refine lv_iload hx hb d_Mod_look_138 (lv_at hl 5 rfl) ?_
                    refine lv_if_lt (tgt := 180) hx hb d_Mod_look_140 (by decide) (fun h140 => ?_) (fun h140 => ?_)
                    · skip
                      refine lv_iload hx hb d_Mod_look_180 (lv_at hl 4 rfl) ?_
                      refine lv_goto (tgt := 187) hx hb d_Mod_look_182 (by decide) ?_
                      refine lv_istore (lv' := [(5, .int (nI i)), (4, .int (nI (cN A2 (i + 1)))), (3, .int (nI (cP P2 (i + 1)))), (8, .int (nI ((64 * j) + kg))), (7, .int (nI ((64 * j) + kf))), (6, .int (nI i)), (0, .ref (ad 43)), (1, .int (nI j)), (2, .int q)]) hx hb d_Mod_look_187 hl (by decide) rfl (fun ls hl => ?_)
                      refine lv_iinc (v := (nI (i + 1))) (lv' := [(6, .int (nI (i + 1))), (5, .int (nI i)), (4, .int (nI (cN A2 (i + 1)))), (3, .int (nI (cP P2 (i + 1)))), (8, .int (nI ((64 * j) + kg))), (7, .int (nI ((64 * j) + kf))), (0, .ref (ad 43)), (1, .int (nI j)), (2, .int q)]) hx hb d_Mod_look_189 hl (k := 5) rfl (nI_1 _) (by decide) rfl (fun ls hl => ?_)
                      refine lv_goto (tgt := 36) hx hb d_Mod_look_192 (by decide) ?_
                      have e8 : cGr A2 (i + 1) = i + 1 := by
                        show (if cGr A2 i = 0 ∨ A2 (cGr A2 i - 1) < A2 i then i + 1 else cGr A2 i) = _
                        rw [if_pos (by first | exact Or.inl hb0 | exact Or.inr (by rw [← a_kf, ← a_kb]; exact Int64.not_le.mp h177))]
                      have e9 : bI (cGr A2 (i + 1)) = nI i := by rw [e8]; rfl
                      rw [← e9] at hl
                      exact ih36 (i + 1) _ _ _ (by omega) (by omega) hZ (lv_sub hl [0, 3, 2, 1, 6, 7, 8] rfl)
                    · skip
                      exact absurd (show (-1 : Int32) < 0 from by decide) h140
                  · skip
                    have e1 : bI (cGr A2 i) = (nI (cGr A2 i - 1)) := if_neg hb0
                    rw [e1] at hl
                    refine lv_iload hx hb d_Mod_look_138 (lv_at hl 5 rfl) ?_
                    refine lv_if_lt (tgt := 180) hx hb d_Mod_look_140 (by decide) (fun h140 => ?_) (fun h140 => ?_)
                    · skip
                      have h140 : (cGr A2 i - 1) < 0 := (nI_ltI (a := (cGr A2 i - 1)) (b := 0) (by omega) (by omega)).mp h140
                      exact absurd h140 (by omega)
                    · skip
                      have h140 : 0 ≤ (cGr A2 i - 1) := Nat.le_of_not_lt (fun z9 => h140 ((nI_ltI (a := (cGr A2 i - 1)) (b := 0) (by omega) (by omega)).mpr z9))
                      refine lv_aload_n hx hb d_Mod_look_143 rfl (lv_at hl 6 rfl) ?_
                      refine q_get (C := R_Mod) (T := T_Mod) (N := 10) hx hb hts (fun w h => gm (inT_Mod w h)) hown hK hZ (43) (by decide) hM.1 rfl 4 (by decide) (hts _ (gm k_424)) (fun _ h9 => h9) rfl d_Mod_look_144 ?_
                      refine lv_iload hx hb d_Mod_look_147 (lv_at hl 3 rfl) ?_
                      refine q_lald hx hb hK hZ (47) 1 (((64 * j) + kf)) (by decide) hM.2.2.2.2.1 rfl rfl (by omega) (by decide) d_Mod_look_149 ?_
                      refine lv_aload_n hx hb d_Mod_look_150 rfl (lv_at hl 6 rfl) ?_
                      refine q_get (C := R_Mod) (T := T_Mod) (N := 10) hx hb hts (fun w h => gm (inT_Mod w h)) hown hK hZ (43) (by decide) hM.1 rfl 4 (by decide) (hts _ (gm k_424)) (fun _ h9 => h9) rfl d_Mod_look_151 ?_
                      refine lv_bipush (v := (nI 64)) hx hb d_Mod_look_154 rfl ?_
                      refine lv_iload_n hx hb d_Mod_look_156 rfl (lv_at hl 7 rfl) ?_
                      refine lv_imul hx hb d_Mod_look_157 ?_
                      refine q_topi (y := nI (64 * j)) (pk_mul _ _) ?_
                      refine lv_aload_n hx hb d_Mod_look_158 rfl (lv_at hl 6 rfl) ?_
                      refine lv_iload_n hx hb d_Mod_look_159 rfl (lv_at hl 7 rfl) ?_
                      refine lv_iload hx hb d_Mod_look_160 (lv_at hl 5 rfl) ?_
                      refine lv_if_ge (tgt := 169) hx hb d_Mod_look_162 (by decide) (fun h162 => ?_) (fun h162 => ?_)
                      · skip
                        have h162 : 0 ≤ (cGr A2 i - 1) := (nI_leI (a := 0) (b := (cGr A2 i - 1)) (by omega) (by omega)).mp h162
                        refine lv_iload hx hb d_Mod_look_169 (lv_at hl 5 rfl) ?_
                        refine q_calli (va_runV (As := [.int (nI j), .int (nI (cGr A2 i - 1))]) (rest := [.int (nI (64 * j)), .ref (ad 47), .long (A ((64 * j) + kf))]) ⟨hx, hb, hml, hown, hts⟩ (c_Mod_inOrder l dC dI cI cL cB ad N0 w90 (nI 0) mn P N A rm rP rN rA bd j z (cGr A2 i - 1) z2 P2 N2 A2 (F j) hM hj hz hmn hR hRc (by omega)) (cwV 2 hts (gI_V k_560 k_557 k_559 k_18 k_24) rfl rfl rfl (by decide +kernel) ⟨Nat.le_of_ble_eq_true rfl, Nat.le_of_ble_eq_true rfl⟩) (q_preV hK hAm hZ hN [.int (nI j), .int (nI (cGr A2 i - 1))] (43) 3 (by decide) hM.1 rfl) rfl rfl hl.1 rfl (lv_room (Nat.le_of_ble_eq_true rfl)) d_Mod_look_171 ⟨Nat.zero_le _, Nat.zero_le _⟩) hZ (fun og u_og H locs h_og hZ => ?_)
                        obtain ⟨e_og, h_og⟩ := h_og
                        rw [e_og] at hZ
                        obtain ⟨kb, hk_kb, e_kb, p_kb, n_kb, a_kb⟩ := h_og
                        refine q_topi (y := nI kb) e_kb ?_
                        refine lv_iadd hx hb d_Mod_look_174 ?_
                        refine q_topi (y := nI ((64 * j) + kb)) (nI_add _ _) ?_
                        refine q_lald hx hb hK hZ (47) 1 (((64 * j) + kb)) (by decide) hM.2.2.2.2.1 rfl rfl (by omega) (by decide) d_Mod_look_175 ?_
                        refine W.lcmp hx hb d_Mod_look_176 ?_
                        refine lv_if_le (tgt := 185) hx hb d_Mod_look_177 (by decide) (fun h177 => ?_) (fun h177 => ?_)
                        · skip
                          rw [lg_cmp_le] at h177
                          refine lv_iload hx hb d_Mod_look_185 (lv_at hl 5 rfl) ?_
                          refine lv_istore (lv' := [(5, .int (nI (cGr A2 i - 1))), (4, .int (nI (cN A2 (i + 1)))), (3, .int (nI (cP P2 (i + 1)))), (8, .int (nI ((64 * j) + kg))), (7, .int (nI ((64 * j) + kf))), (6, .int (nI i)), (0, .ref (ad 43)), (1, .int (nI j)), (2, .int q)]) hx hb d_Mod_look_187 hl (by decide) rfl (fun ls hl => ?_)
                          refine lv_iinc (v := (nI (i + 1))) (lv' := [(6, .int (nI (i + 1))), (5, .int (nI (cGr A2 i - 1))), (4, .int (nI (cN A2 (i + 1)))), (3, .int (nI (cP P2 (i + 1)))), (8, .int (nI ((64 * j) + kg))), (7, .int (nI ((64 * j) + kf))), (0, .ref (ad 43)), (1, .int (nI j)), (2, .int q)]) hx hb d_Mod_look_189 hl (k := 5) rfl (nI_1 _) (by decide) rfl (fun ls hl => ?_)
                          refine lv_goto (tgt := 36) hx hb d_Mod_look_192 (by decide) ?_
                          have e8 : cGr A2 (i + 1) = cGr A2 i := by
                            show (if cGr A2 i = 0 ∨ A2 (cGr A2 i - 1) < A2 i then i + 1 else cGr A2 i) = _
                            rw [if_neg (fun y => y.elim hb0 (by rw [← a_kf, ← a_kb]; exact Int64.not_lt.mpr h177))]
                          have e9 : bI (cGr A2 (i + 1)) = nI (cGr A2 i - 1) := by rw [e8]; exact e1
                          rw [← e9] at hl
                          exact ih36 (i + 1) _ _ _ (by omega) (by omega) hZ (lv_sub hl [0, 3, 2, 1, 6, 7, 8] rfl)
                        · skip
                          rw [lg_cmp_le] at h177
                          refine lv_iload hx hb d_Mod_look_180 (lv_at hl 4 rfl) ?_
                          refine lv_goto (tgt := 187) hx hb d_Mod_look_182 (by decide) ?_
                          refine lv_istore (lv' := [(5, .int (nI i)), (4, .int (nI (cN A2 (i + 1)))), (3, .int (nI (cP P2 (i + 1)))), (8, .int (nI ((64 * j) + kg))), (7, .int (nI ((64 * j) + kf))), (6, .int (nI i)), (0, .ref (ad 43)), (1, .int (nI j)), (2, .int q)]) hx hb d_Mod_look_187 hl (by decide) rfl (fun ls hl => ?_)
                          refine lv_iinc (v := (nI (i + 1))) (lv' := [(6, .int (nI (i + 1))), (5, .int (nI i)), (4, .int (nI (cN A2 (i + 1)))), (3, .int (nI (cP P2 (i + 1)))), (8, .int (nI ((64 * j) + kg))), (7, .int (nI ((64 * j) + kf))), (0, .ref (ad 43)), (1, .int (nI j)), (2, .int q)]) hx hb d_Mod_look_189 hl (k := 5) rfl (nI_1 _) (by decide) rfl (fun ls hl => ?_)
                          refine lv_goto (tgt := 36) hx hb d_Mod_look_192 (by decide) ?_
                          have e8 : cGr A2 (i + 1) = i + 1 := by
                            show (if cGr A2 i = 0 ∨ A2 (cGr A2 i - 1) < A2 i then i + 1 else cGr A2 i) = _
                            rw [if_pos (by first | exact Or.inl hb0 | exact Or.inr (by rw [← a_kf, ← a_kb]; exact Int64.not_le.mp h177))]
                          have e9 : bI (cGr A2 (i + 1)) = nI i := by rw [e8]; rfl
                          rw [← e9] at hl
                          exact ih36 (i + 1) _ _ _ (by omega) (by omega) hZ (lv_sub hl [0, 3, 2, 1, 6, 7, 8] rfl)
                      · skip
                        have h162 : (cGr A2 i - 1) < 0 := Nat.lt_of_not_le (fun z9 => h162 ((nI_leI (a := 0) (b := (cGr A2 i - 1)) (by omega) (by omega)).mpr z9))
                        exact absurd h162 (by omega)
              · skip
                have h89 : ¬ i = 0 := fun z9 => h89 ((nI_eq (a := i) (b := 0) (by omega) (by omega)).mpr z9)
                refine lv_aload_n hx hb d_Mod_look_92 rfl (lv_at hl 6 rfl) ?_
                refine q_get (C := R_Mod) (T := T_Mod) (N := 10) hx hb hts (fun w h => gm (inT_Mod w h)) hown hK hZ (43) (by decide) hM.1 rfl 2 (by decide) (hts _ (gm k_422)) (fun _ h9 => h9) rfl d_Mod_look_93 ?_
                refine lv_iload hx hb d_Mod_look_96 (lv_at hl 0 rfl) ?_
                refine q_iald hx hb hK hZ (45) 0 (((64 * j) + kg)) (by decide) hM.2.2.1 rfl rfl (by omega) (by decide) d_Mod_look_98 ?_
                refine lv_aload_n hx hb d_Mod_look_99 rfl (lv_at hl 6 rfl) ?_
                refine q_get (C := R_Mod) (T := T_Mod) (N := 10) hx hb hts (fun w h => gm (inT_Mod w h)) hown hK hZ (43) (by decide) hM.1 rfl 2 (by decide) (hts _ (gm k_422)) (fun _ h9 => h9) rfl d_Mod_look_100 ?_
                refine lv_iload hx hb d_Mod_look_103 (lv_at hl 1 rfl) ?_
                refine q_iald hx hb hK hZ (45) 0 (((64 * j) + kf)) (by decide) hM.2.2.1 rfl rfl (by omega) (by decide) d_Mod_look_105 ?_
                refine lv_icmp_eq (tgt := 113) hx hb d_Mod_look_106 (by decide) (fun h106 => ?_) (fun h106 => ?_)
                · skip
                  refine lv_iconst (v := (nI 0)) hx hb d_Mod_look_113 rfl ?_
                  refine lv_iadd hx hb d_Mod_look_114 ?_
                  refine q_topi (y := nI ((cP P2 i) + 0)) (nI_add _ _) ?_
                  refine q_topi (y := nI (cP P2 (i + 1))) (congrArg nI ((cP_n (fun y => y.elim h89 (fun y => y (by rw [p_kf, p_kg] at h106; exact h106.symm)))))) ?_
                  refine lv_istore_n (lv' := [(3, .int (nI (cP P2 (i + 1)))), (8, .int (nI ((64 * j) + kg))), (7, .int (nI ((64 * j) + kf))), (6, .int (nI i)), (4, .int (nI (cN A2 i))), (5, .int (bI (cGr A2 i))), (0, .ref (ad 43)), (1, .int (nI j)), (2, .int q)]) hx hb d_Mod_look_115 rfl hl (by decide) rfl (fun ls hl => ?_)
                  refine lv_iload hx hb d_Mod_look_116 (lv_at hl 4 rfl) ?_
                  refine lv_aload_n hx hb d_Mod_look_118 rfl (lv_at hl 6 rfl) ?_
                  refine q_get (C := R_Mod) (T := T_Mod) (N := 10) hx hb hts (fun w h => gm (inT_Mod w h)) hown hK hZ (43) (by decide) hM.1 rfl 4 (by decide) (hts _ (gm k_424)) (fun _ h9 => h9) rfl d_Mod_look_119 ?_
                  refine lv_iload hx hb d_Mod_look_122 (lv_at hl 2 rfl) ?_
                  refine q_lald hx hb hK hZ (47) 1 (((64 * j) + kf)) (by decide) hM.2.2.2.2.1 rfl rfl (by omega) (by decide) d_Mod_look_124 ?_
                  refine lv_lconst (v := 0) hx hb d_Mod_look_125 rfl ?_
                  refine W.lcmp hx hb d_Mod_look_126 ?_
                  refine lv_if_ge (tgt := 134) hx hb d_Mod_look_127 (by decide) (fun h127 => ?_) (fun h127 => ?_)
                  · skip
                    rw [lg_cmp_ge] at h127
                    refine lv_iconst (v := (nI 0)) hx hb d_Mod_look_134 rfl ?_
                    refine lv_iadd hx hb d_Mod_look_135 ?_
                    refine q_topi (y := nI ((cN A2 i) + 0)) (nI_add _ _) ?_
                    refine q_topi (y := nI (cN A2 (i + 1))) (congrArg nI ((cN_n (by rw [← a_kf]; exact Int64.not_lt.mpr h127)))) ?_
                    refine lv_istore (lv' := [(4, .int (nI (cN A2 (i + 1)))), (3, .int (nI (cP P2 (i + 1)))), (8, .int (nI ((64 * j) + kg))), (7, .int (nI ((64 * j) + kf))), (6, .int (nI i)), (5, .int (bI (cGr A2 i))), (0, .ref (ad 43)), (1, .int (nI j)), (2, .int q)]) hx hb d_Mod_look_136 hl (by decide) rfl (fun ls hl => ?_)
                    have hcb := cGr_le A2 i
                    by_cases hb0 : cGr A2 i = 0
                    · skip
                      have e1 : bI (cGr A2 i) = (-1) := if_pos hb0
                      rw [e1] at hl
                      refine lv_iload hx hb d_Mod_look_138 (lv_at hl 5 rfl) ?_
                      refine lv_if_lt (tgt := 180) hx hb d_Mod_look_140 (by decide) (fun h140 => ?_) (fun h140 => ?_)
                      · skip
                        refine lv_iload hx hb d_Mod_look_180 (lv_at hl 4 rfl) ?_
                        refine lv_goto (tgt := 187) hx hb d_Mod_look_182 (by decide) ?_
                        refine lv_istore (lv' := [(5, .int (nI i)), (4, .int (nI (cN A2 (i + 1)))), (3, .int (nI (cP P2 (i + 1)))), (8, .int (nI ((64 * j) + kg))), (7, .int (nI ((64 * j) + kf))), (6, .int (nI i)), (0, .ref (ad 43)), (1, .int (nI j)), (2, .int q)]) hx hb d_Mod_look_187 hl (by decide) rfl (fun ls hl => ?_)
                        refine lv_iinc (v := (nI (i + 1))) (lv' := [(6, .int (nI (i + 1))), (5, .int (nI i)), (4, .int (nI (cN A2 (i + 1)))), (3, .int (nI (cP P2 (i + 1)))), (8, .int (nI ((64 * j) + kg))), (7, .int (nI ((64 * j) + kf))), (0, .ref (ad 43)), (1, .int (nI j)), (2, .int q)]) hx hb d_Mod_look_189 hl (k := 5) rfl (nI_1 _) (by decide) rfl (fun ls hl => ?_)
                        refine lv_goto (tgt := 36) hx hb d_Mod_look_192 (by decide) ?_
                        have e8 : cGr A2 (i + 1) = i + 1 := by
                          show (if cGr A2 i = 0 ∨ A2 (cGr A2 i - 1) < A2 i then i + 1 else cGr A2 i) = _
                          rw [if_pos (by first | exact Or.inl hb0 | exact Or.inr (by rw [← a_kf, ← a_kb]; exact Int64.not_le.mp h177))]
                        have e9 : bI (cGr A2 (i + 1)) = nI i := by rw [e8]; rfl
                        rw [← e9] at hl
                        exact ih36 (i + 1) _ _ _ (by omega) (by omega) hZ (lv_sub hl [0, 3, 2, 1, 6, 7, 8] rfl)
                      · skip
                        exact absurd (show (-1 : Int32) < 0 from by decide) h140
                    · skip
                      have e1 : bI (cGr A2 i) = (nI (cGr A2 i - 1)) := if_neg hb0
                      rw [e1] at hl
                      refine lv_iload hx hb d_Mod_look_138 (lv_at hl 5 rfl) ?_
                      refine lv_if_lt (tgt := 180) hx hb d_Mod_look_140 (by decide) (fun h140 => ?_) (fun h140 => ?_)
                      · skip
                        have h140 : (cGr A2 i - 1) < 0 := (nI_ltI (a := (cGr A2 i - 1)) (b := 0) (by omega) (by omega)).mp h140
                        exact absurd h140 (by omega)
                      · skip
                        have h140 : 0 ≤ (cGr A2 i - 1) := Nat.le_of_not_lt (fun z9 => h140 ((nI_ltI (a := (cGr A2 i - 1)) (b := 0) (by omega) (by omega)).mpr z9))
                        refine lv_aload_n hx hb d_Mod_look_143 rfl (lv_at hl 6 rfl) ?_
                        refine q_get (C := R_Mod) (T := T_Mod) (N := 10) hx hb hts (fun w h => gm (inT_Mod w h)) hown hK hZ (43) (by decide) hM.1 rfl 4 (by decide) (hts _ (gm k_424)) (fun _ h9 => h9) rfl d_Mod_look_144 ?_
                        refine lv_iload hx hb d_Mod_look_147 (lv_at hl 3 rfl) ?_
                        refine q_lald hx hb hK hZ (47) 1 (((64 * j) + kf)) (by decide) hM.2.2.2.2.1 rfl rfl (by omega) (by decide) d_Mod_look_149 ?_
                        refine lv_aload_n hx hb d_Mod_look_150 rfl (lv_at hl 6 rfl) ?_
                        refine q_get (C := R_Mod) (T := T_Mod) (N := 10) hx hb hts (fun w h => gm (inT_Mod w h)) hown hK hZ (43) (by decide) hM.1 rfl 4 (by decide) (hts _ (gm k_424)) (fun _ h9 => h9) rfl d_Mod_look_151 ?_
                        refine lv_bipush (v := (nI 64)) hx hb d_Mod_look_154 rfl ?_
                        refine lv_iload_n hx hb d_Mod_look_156 rfl (lv_at hl 7 rfl) ?_
                        refine lv_imul hx hb d_Mod_look_157 ?_
                        refine q_topi (y := nI (64 * j)) (pk_mul _ _) ?_
                        refine lv_aload_n hx hb d_Mod_look_158 rfl (lv_at hl 6 rfl) ?_
                        refine lv_iload_n hx hb d_Mod_look_159 rfl (lv_at hl 7 rfl) ?_
                        refine lv_iload hx hb d_Mod_look_160 (lv_at hl 5 rfl) ?_
                        refine lv_if_ge (tgt := 169) hx hb d_Mod_look_162 (by decide) (fun h162 => ?_) (fun h162 => ?_)
                        · skip
                          have h162 : 0 ≤ (cGr A2 i - 1) := (nI_leI (a := 0) (b := (cGr A2 i - 1)) (by omega) (by omega)).mp h162
                          refine lv_iload hx hb d_Mod_look_169 (lv_at hl 5 rfl) ?_
                          refine q_calli (va_runV (As := [.int (nI j), .int (nI (cGr A2 i - 1))]) (rest := [.int (nI (64 * j)), .ref (ad 47), .long (A ((64 * j) + kf))]) ⟨hx, hb, hml, hown, hts⟩ (c_Mod_inOrder l dC dI cI cL cB ad N0 w90 (nI 0) mn P N A rm rP rN rA bd j z (cGr A2 i - 1) z2 P2 N2 A2 (F j) hM hj hz hmn hR hRc (by omega)) (cwV 2 hts (gI_V k_560 k_557 k_559 k_18 k_24) rfl rfl rfl (by decide +kernel) ⟨Nat.le_of_ble_eq_true rfl, Nat.le_of_ble_eq_true rfl⟩) (q_preV hK hAm hZ hN [.int (nI j), .int (nI (cGr A2 i - 1))] (43) 3 (by decide) hM.1 rfl) rfl rfl hl.1 rfl (lv_room (Nat.le_of_ble_eq_true rfl)) d_Mod_look_171 ⟨Nat.zero_le _, Nat.zero_le _⟩) hZ (fun og u_og H locs h_og hZ => ?_)
                          obtain ⟨e_og, h_og⟩ := h_og
                          rw [e_og] at hZ
                          obtain ⟨kb, hk_kb, e_kb, p_kb, n_kb, a_kb⟩ := h_og
                          refine q_topi (y := nI kb) e_kb ?_
                          refine lv_iadd hx hb d_Mod_look_174 ?_
                          refine q_topi (y := nI ((64 * j) + kb)) (nI_add _ _) ?_
                          refine q_lald hx hb hK hZ (47) 1 (((64 * j) + kb)) (by decide) hM.2.2.2.2.1 rfl rfl (by omega) (by decide) d_Mod_look_175 ?_
                          refine W.lcmp hx hb d_Mod_look_176 ?_
                          refine lv_if_le (tgt := 185) hx hb d_Mod_look_177 (by decide) (fun h177 => ?_) (fun h177 => ?_)
                          · skip
                            rw [lg_cmp_le] at h177
                            refine lv_iload hx hb d_Mod_look_185 (lv_at hl 5 rfl) ?_
                            refine lv_istore (lv' := [(5, .int (nI (cGr A2 i - 1))), (4, .int (nI (cN A2 (i + 1)))), (3, .int (nI (cP P2 (i + 1)))), (8, .int (nI ((64 * j) + kg))), (7, .int (nI ((64 * j) + kf))), (6, .int (nI i)), (0, .ref (ad 43)), (1, .int (nI j)), (2, .int q)]) hx hb d_Mod_look_187 hl (by decide) rfl (fun ls hl => ?_)
                            refine lv_iinc (v := (nI (i + 1))) (lv' := [(6, .int (nI (i + 1))), (5, .int (nI (cGr A2 i - 1))), (4, .int (nI (cN A2 (i + 1)))), (3, .int (nI (cP P2 (i + 1)))), (8, .int (nI ((64 * j) + kg))), (7, .int (nI ((64 * j) + kf))), (0, .ref (ad 43)), (1, .int (nI j)), (2, .int q)]) hx hb d_Mod_look_189 hl (k := 5) rfl (nI_1 _) (by decide) rfl (fun ls hl => ?_)
                            refine lv_goto (tgt := 36) hx hb d_Mod_look_192 (by decide) ?_
                            have e8 : cGr A2 (i + 1) = cGr A2 i := by
                              show (if cGr A2 i = 0 ∨ A2 (cGr A2 i - 1) < A2 i then i + 1 else cGr A2 i) = _
                              rw [if_neg (fun y => y.elim hb0 (by rw [← a_kf, ← a_kb]; exact Int64.not_lt.mpr h177))]
                            have e9 : bI (cGr A2 (i + 1)) = nI (cGr A2 i - 1) := by rw [e8]; exact e1
                            rw [← e9] at hl
                            exact ih36 (i + 1) _ _ _ (by omega) (by omega) hZ (lv_sub hl [0, 3, 2, 1, 6, 7, 8] rfl)
                          · skip
                            rw [lg_cmp_le] at h177
                            refine lv_iload hx hb d_Mod_look_180 (lv_at hl 4 rfl) ?_
                            refine lv_goto (tgt := 187) hx hb d_Mod_look_182 (by decide) ?_
                            refine lv_istore (lv' := [(5, .int (nI i)), (4, .int (nI (cN A2 (i + 1)))), (3, .int (nI (cP P2 (i + 1)))), (8, .int (nI ((64 * j) + kg))), (7, .int (nI ((64 * j) + kf))), (6, .int (nI i)), (0, .ref (ad 43)), (1, .int (nI j)), (2, .int q)]) hx hb d_Mod_look_187 hl (by decide) rfl (fun ls hl => ?_)
                            refine lv_iinc (v := (nI (i + 1))) (lv' := [(6, .int (nI (i + 1))), (5, .int (nI i)), (4, .int (nI (cN A2 (i + 1)))), (3, .int (nI (cP P2 (i + 1)))), (8, .int (nI ((64 * j) + kg))), (7, .int (nI ((64 * j) + kf))), (0, .ref (ad 43)), (1, .int (nI j)), (2, .int q)]) hx hb d_Mod_look_189 hl (k := 5) rfl (nI_1 _) (by decide) rfl (fun ls hl => ?_)
                            refine lv_goto (tgt := 36) hx hb d_Mod_look_192 (by decide) ?_
                            have e8 : cGr A2 (i + 1) = i + 1 := by
                              show (if cGr A2 i = 0 ∨ A2 (cGr A2 i - 1) < A2 i then i + 1 else cGr A2 i) = _
                              rw [if_pos (by first | exact Or.inl hb0 | exact Or.inr (by rw [← a_kf, ← a_kb]; exact Int64.not_le.mp h177))]
                            have e9 : bI (cGr A2 (i + 1)) = nI i := by rw [e8]; rfl
                            rw [← e9] at hl
                            exact ih36 (i + 1) _ _ _ (by omega) (by omega) hZ (lv_sub hl [0, 3, 2, 1, 6, 7, 8] rfl)
                        · skip
                          have h162 : (cGr A2 i - 1) < 0 := Nat.lt_of_not_le (fun z9 => h162 ((nI_leI (a := 0) (b := (cGr A2 i - 1)) (by omega) (by omega)).mpr z9))
                          exact absurd h162 (by omega)
                  · skip
                    rw [lg_cmp_ge] at h127
                    refine lv_iconst (v := (nI 1)) hx hb d_Mod_look_130 rfl ?_
                    refine lv_goto (tgt := 135) hx hb d_Mod_look_131 (by decide) ?_
                    refine lv_iadd hx hb d_Mod_look_135 ?_
                    refine q_topi (y := nI ((cN A2 i) + 1)) (nI_add _ _) ?_
                    refine q_topi (y := nI (cN A2 (i + 1))) (congrArg nI ((cN_y (by rw [← a_kf]; exact Int64.not_le.mp h127)))) ?_
                    refine lv_istore (lv' := [(4, .int (nI (cN A2 (i + 1)))), (3, .int (nI (cP P2 (i + 1)))), (8, .int (nI ((64 * j) + kg))), (7, .int (nI ((64 * j) + kf))), (6, .int (nI i)), (5, .int (bI (cGr A2 i))), (0, .ref (ad 43)), (1, .int (nI j)), (2, .int q)]) hx hb d_Mod_look_136 hl (by decide) rfl (fun ls hl => ?_)
                    have hcb := cGr_le A2 i
                    by_cases hb0 : cGr A2 i = 0
                    · skip
                      have e1 : bI (cGr A2 i) = (-1) := if_pos hb0
                      rw [e1] at hl
                      refine lv_iload hx hb d_Mod_look_138 (lv_at hl 5 rfl) ?_
                      refine lv_if_lt (tgt := 180) hx hb d_Mod_look_140 (by decide) (fun h140 => ?_) (fun h140 => ?_)
                      · skip
                        refine lv_iload hx hb d_Mod_look_180 (lv_at hl 4 rfl) ?_
                        refine lv_goto (tgt := 187) hx hb d_Mod_look_182 (by decide) ?_
                        refine lv_istore (lv' := [(5, .int (nI i)), (4, .int (nI (cN A2 (i + 1)))), (3, .int (nI (cP P2 (i + 1)))), (8, .int (nI ((64 * j) + kg))), (7, .int (nI ((64 * j) + kf))), (6, .int (nI i)), (0, .ref (ad 43)), (1, .int (nI j)), (2, .int q)]) hx hb d_Mod_look_187 hl (by decide) rfl (fun ls hl => ?_)
                        refine lv_iinc (v := (nI (i + 1))) (lv' := [(6, .int (nI (i + 1))), (5, .int (nI i)), (4, .int (nI (cN A2 (i + 1)))), (3, .int (nI (cP P2 (i + 1)))), (8, .int (nI ((64 * j) + kg))), (7, .int (nI ((64 * j) + kf))), (0, .ref (ad 43)), (1, .int (nI j)), (2, .int q)]) hx hb d_Mod_look_189 hl (k := 5) rfl (nI_1 _) (by decide) rfl (fun ls hl => ?_)
                        refine lv_goto (tgt := 36) hx hb d_Mod_look_192 (by decide) ?_
                        have e8 : cGr A2 (i + 1) = i + 1 := by
                          show (if cGr A2 i = 0 ∨ A2 (cGr A2 i - 1) < A2 i then i + 1 else cGr A2 i) = _
                          rw [if_pos (by first | exact Or.inl hb0 | exact Or.inr (by rw [← a_kf, ← a_kb]; exact Int64.not_le.mp h177))]
                        have e9 : bI (cGr A2 (i + 1)) = nI i := by rw [e8]; rfl
                        rw [← e9] at hl
                        exact ih36 (i + 1) _ _ _ (by omega) (by omega) hZ (lv_sub hl [0, 3, 2, 1, 6, 7, 8] rfl)
                      · skip
                        exact absurd (show (-1 : Int32) < 0 from by decide) h140
                    · skip
                      have e1 : bI (cGr A2 i) = (nI (cGr A2 i - 1)) := if_neg hb0
                      rw [e1] at hl
                      refine lv_iload hx hb d_Mod_look_138 (lv_at hl 5 rfl) ?_
                      refine lv_if_lt (tgt := 180) hx hb d_Mod_look_140 (by decide) (fun h140 => ?_) (fun h140 => ?_)
                      · skip
                        have h140 : (cGr A2 i - 1) < 0 := (nI_ltI (a := (cGr A2 i - 1)) (b := 0) (by omega) (by omega)).mp h140
                        exact absurd h140 (by omega)
                      · skip
                        have h140 : 0 ≤ (cGr A2 i - 1) := Nat.le_of_not_lt (fun z9 => h140 ((nI_ltI (a := (cGr A2 i - 1)) (b := 0) (by omega) (by omega)).mpr z9))
                        refine lv_aload_n hx hb d_Mod_look_143 rfl (lv_at hl 6 rfl) ?_
                        refine q_get (C := R_Mod) (T := T_Mod) (N := 10) hx hb hts (fun w h => gm (inT_Mod w h)) hown hK hZ (43) (by decide) hM.1 rfl 4 (by decide) (hts _ (gm k_424)) (fun _ h9 => h9) rfl d_Mod_look_144 ?_
                        refine lv_iload hx hb d_Mod_look_147 (lv_at hl 3 rfl) ?_
                        refine q_lald hx hb hK hZ (47) 1 (((64 * j) + kf)) (by decide) hM.2.2.2.2.1 rfl rfl (by omega) (by decide) d_Mod_look_149 ?_
                        refine lv_aload_n hx hb d_Mod_look_150 rfl (lv_at hl 6 rfl) ?_
                        refine q_get (C := R_Mod) (T := T_Mod) (N := 10) hx hb hts (fun w h => gm (inT_Mod w h)) hown hK hZ (43) (by decide) hM.1 rfl 4 (by decide) (hts _ (gm k_424)) (fun _ h9 => h9) rfl d_Mod_look_151 ?_
                        refine lv_bipush (v := (nI 64)) hx hb d_Mod_look_154 rfl ?_
                        refine lv_iload_n hx hb d_Mod_look_156 rfl (lv_at hl 7 rfl) ?_
                        refine lv_imul hx hb d_Mod_look_157 ?_
                        refine q_topi (y := nI (64 * j)) (pk_mul _ _) ?_
                        refine lv_aload_n hx hb d_Mod_look_158 rfl (lv_at hl 6 rfl) ?_
                        refine lv_iload_n hx hb d_Mod_look_159 rfl (lv_at hl 7 rfl) ?_
                        refine lv_iload hx hb d_Mod_look_160 (lv_at hl 5 rfl) ?_
                        refine lv_if_ge (tgt := 169) hx hb d_Mod_look_162 (by decide) (fun h162 => ?_) (fun h162 => ?_)
                        · skip
                          have h162 : 0 ≤ (cGr A2 i - 1) := (nI_leI (a := 0) (b := (cGr A2 i - 1)) (by omega) (by omega)).mp h162
                          refine lv_iload hx hb d_Mod_look_169 (lv_at hl 5 rfl) ?_
                          refine q_calli (va_runV (As := [.int (nI j), .int (nI (cGr A2 i - 1))]) (rest := [.int (nI (64 * j)), .ref (ad 47), .long (A ((64 * j) + kf))]) ⟨hx, hb, hml, hown, hts⟩ (c_Mod_inOrder l dC dI cI cL cB ad N0 w90 (nI 0) mn P N A rm rP rN rA bd j z (cGr A2 i - 1) z2 P2 N2 A2 (F j) hM hj hz hmn hR hRc (by omega)) (cwV 2 hts (gI_V k_560 k_557 k_559 k_18 k_24) rfl rfl rfl (by decide +kernel) ⟨Nat.le_of_ble_eq_true rfl, Nat.le_of_ble_eq_true rfl⟩) (q_preV hK hAm hZ hN [.int (nI j), .int (nI (cGr A2 i - 1))] (43) 3 (by decide) hM.1 rfl) rfl rfl hl.1 rfl (lv_room (Nat.le_of_ble_eq_true rfl)) d_Mod_look_171 ⟨Nat.zero_le _, Nat.zero_le _⟩) hZ (fun og u_og H locs h_og hZ => ?_)
                          obtain ⟨e_og, h_og⟩ := h_og
                          rw [e_og] at hZ
                          obtain ⟨kb, hk_kb, e_kb, p_kb, n_kb, a_kb⟩ := h_og
                          refine q_topi (y := nI kb) e_kb ?_
                          refine lv_iadd hx hb d_Mod_look_174 ?_
                          refine q_topi (y := nI ((64 * j) + kb)) (nI_add _ _) ?_
                          refine q_lald hx hb hK hZ (47) 1 (((64 * j) + kb)) (by decide) hM.2.2.2.2.1 rfl rfl (by omega) (by decide) d_Mod_look_175 ?_
                          refine W.lcmp hx hb d_Mod_look_176 ?_
                          refine lv_if_le (tgt := 185) hx hb d_Mod_look_177 (by decide) (fun h177 => ?_) (fun h177 => ?_)
                          · skip
                            rw [lg_cmp_le] at h177
                            refine lv_iload hx hb d_Mod_look_185 (lv_at hl 5 rfl) ?_
                            refine lv_istore (lv' := [(5, .int (nI (cGr A2 i - 1))), (4, .int (nI (cN A2 (i + 1)))), (3, .int (nI (cP P2 (i + 1)))), (8, .int (nI ((64 * j) + kg))), (7, .int (nI ((64 * j) + kf))), (6, .int (nI i)), (0, .ref (ad 43)), (1, .int (nI j)), (2, .int q)]) hx hb d_Mod_look_187 hl (by decide) rfl (fun ls hl => ?_)
                            refine lv_iinc (v := (nI (i + 1))) (lv' := [(6, .int (nI (i + 1))), (5, .int (nI (cGr A2 i - 1))), (4, .int (nI (cN A2 (i + 1)))), (3, .int (nI (cP P2 (i + 1)))), (8, .int (nI ((64 * j) + kg))), (7, .int (nI ((64 * j) + kf))), (0, .ref (ad 43)), (1, .int (nI j)), (2, .int q)]) hx hb d_Mod_look_189 hl (k := 5) rfl (nI_1 _) (by decide) rfl (fun ls hl => ?_)
                            refine lv_goto (tgt := 36) hx hb d_Mod_look_192 (by decide) ?_
                            have e8 : cGr A2 (i + 1) = cGr A2 i := by
                              show (if cGr A2 i = 0 ∨ A2 (cGr A2 i - 1) < A2 i then i + 1 else cGr A2 i) = _
                              rw [if_neg (fun y => y.elim hb0 (by rw [← a_kf, ← a_kb]; exact Int64.not_lt.mpr h177))]
                            have e9 : bI (cGr A2 (i + 1)) = nI (cGr A2 i - 1) := by rw [e8]; exact e1
                            rw [← e9] at hl
                            exact ih36 (i + 1) _ _ _ (by omega) (by omega) hZ (lv_sub hl [0, 3, 2, 1, 6, 7, 8] rfl)
                          · skip
                            rw [lg_cmp_le] at h177
                            refine lv_iload hx hb d_Mod_look_180 (lv_at hl 4 rfl) ?_
                            refine lv_goto (tgt := 187) hx hb d_Mod_look_182 (by decide) ?_
                            refine lv_istore (lv' := [(5, .int (nI i)), (4, .int (nI (cN A2 (i + 1)))), (3, .int (nI (cP P2 (i + 1)))), (8, .int (nI ((64 * j) + kg))), (7, .int (nI ((64 * j) + kf))), (6, .int (nI i)), (0, .ref (ad 43)), (1, .int (nI j)), (2, .int q)]) hx hb d_Mod_look_187 hl (by decide) rfl (fun ls hl => ?_)
                            refine lv_iinc (v := (nI (i + 1))) (lv' := [(6, .int (nI (i + 1))), (5, .int (nI i)), (4, .int (nI (cN A2 (i + 1)))), (3, .int (nI (cP P2 (i + 1)))), (8, .int (nI ((64 * j) + kg))), (7, .int (nI ((64 * j) + kf))), (0, .ref (ad 43)), (1, .int (nI j)), (2, .int q)]) hx hb d_Mod_look_189 hl (k := 5) rfl (nI_1 _) (by decide) rfl (fun ls hl => ?_)
                            refine lv_goto (tgt := 36) hx hb d_Mod_look_192 (by decide) ?_
                            have e8 : cGr A2 (i + 1) = i + 1 := by
                              show (if cGr A2 i = 0 ∨ A2 (cGr A2 i - 1) < A2 i then i + 1 else cGr A2 i) = _
                              rw [if_pos (by first | exact Or.inl hb0 | exact Or.inr (by rw [← a_kf, ← a_kb]; exact Int64.not_le.mp h177))]
                            have e9 : bI (cGr A2 (i + 1)) = nI i := by rw [e8]; rfl
                            rw [← e9] at hl
                            exact ih36 (i + 1) _ _ _ (by omega) (by omega) hZ (lv_sub hl [0, 3, 2, 1, 6, 7, 8] rfl)
                        · skip
                          have h162 : (cGr A2 i - 1) < 0 := Nat.lt_of_not_le (fun z9 => h162 ((nI_leI (a := 0) (b := (cGr A2 i - 1)) (by omega) (by omega)).mpr z9))
                          exact absurd h162 (by omega)
                · skip
                  refine lv_iconst (v := (nI 1)) hx hb d_Mod_look_109 rfl ?_
                  refine lv_goto (tgt := 114) hx hb d_Mod_look_110 (by decide) ?_
                  refine lv_iadd hx hb d_Mod_look_114 ?_
                  refine q_topi (y := nI ((cP P2 i) + 1)) (nI_add _ _) ?_
                  refine q_topi (y := nI (cP P2 (i + 1))) (congrArg nI ((cP_y (by first | exact Or.inl h89 | exact Or.inr (fun y => h106 (by rw [p_kf, p_kg]; exact y.symm)))))) ?_
                  refine lv_istore_n (lv' := [(3, .int (nI (cP P2 (i + 1)))), (8, .int (nI ((64 * j) + kg))), (7, .int (nI ((64 * j) + kf))), (6, .int (nI i)), (4, .int (nI (cN A2 i))), (5, .int (bI (cGr A2 i))), (0, .ref (ad 43)), (1, .int (nI j)), (2, .int q)]) hx hb d_Mod_look_115 rfl hl (by decide) rfl (fun ls hl => ?_)
                  refine lv_iload hx hb d_Mod_look_116 (lv_at hl 4 rfl) ?_
                  refine lv_aload_n hx hb d_Mod_look_118 rfl (lv_at hl 6 rfl) ?_
                  refine q_get (C := R_Mod) (T := T_Mod) (N := 10) hx hb hts (fun w h => gm (inT_Mod w h)) hown hK hZ (43) (by decide) hM.1 rfl 4 (by decide) (hts _ (gm k_424)) (fun _ h9 => h9) rfl d_Mod_look_119 ?_
                  refine lv_iload hx hb d_Mod_look_122 (lv_at hl 2 rfl) ?_
                  refine q_lald hx hb hK hZ (47) 1 (((64 * j) + kf)) (by decide) hM.2.2.2.2.1 rfl rfl (by omega) (by decide) d_Mod_look_124 ?_
                  refine lv_lconst (v := 0) hx hb d_Mod_look_125 rfl ?_
                  refine W.lcmp hx hb d_Mod_look_126 ?_
                  refine lv_if_ge (tgt := 134) hx hb d_Mod_look_127 (by decide) (fun h127 => ?_) (fun h127 => ?_)
                  · skip
                    rw [lg_cmp_ge] at h127
                    refine lv_iconst (v := (nI 0)) hx hb d_Mod_look_134 rfl ?_
                    refine lv_iadd hx hb d_Mod_look_135 ?_
                    refine q_topi (y := nI ((cN A2 i) + 0)) (nI_add _ _) ?_
                    refine q_topi (y := nI (cN A2 (i + 1))) (congrArg nI ((cN_n (by rw [← a_kf]; exact Int64.not_lt.mpr h127)))) ?_
                    refine lv_istore (lv' := [(4, .int (nI (cN A2 (i + 1)))), (3, .int (nI (cP P2 (i + 1)))), (8, .int (nI ((64 * j) + kg))), (7, .int (nI ((64 * j) + kf))), (6, .int (nI i)), (5, .int (bI (cGr A2 i))), (0, .ref (ad 43)), (1, .int (nI j)), (2, .int q)]) hx hb d_Mod_look_136 hl (by decide) rfl (fun ls hl => ?_)
                    have hcb := cGr_le A2 i
                    by_cases hb0 : cGr A2 i = 0
                    · skip
                      have e1 : bI (cGr A2 i) = (-1) := if_pos hb0
                      rw [e1] at hl
                      refine lv_iload hx hb d_Mod_look_138 (lv_at hl 5 rfl) ?_
                      refine lv_if_lt (tgt := 180) hx hb d_Mod_look_140 (by decide) (fun h140 => ?_) (fun h140 => ?_)
                      · skip
                        refine lv_iload hx hb d_Mod_look_180 (lv_at hl 4 rfl) ?_
                        refine lv_goto (tgt := 187) hx hb d_Mod_look_182 (by decide) ?_
                        refine lv_istore (lv' := [(5, .int (nI i)), (4, .int (nI (cN A2 (i + 1)))), (3, .int (nI (cP P2 (i + 1)))), (8, .int (nI ((64 * j) + kg))), (7, .int (nI ((64 * j) + kf))), (6, .int (nI i)), (0, .ref (ad 43)), (1, .int (nI j)), (2, .int q)]) hx hb d_Mod_look_187 hl (by decide) rfl (fun ls hl => ?_)
                        refine lv_iinc (v := (nI (i + 1))) (lv' := [(6, .int (nI (i + 1))), (5, .int (nI i)), (4, .int (nI (cN A2 (i + 1)))), (3, .int (nI (cP P2 (i + 1)))), (8, .int (nI ((64 * j) + kg))), (7, .int (nI ((64 * j) + kf))), (0, .ref (ad 43)), (1, .int (nI j)), (2, .int q)]) hx hb d_Mod_look_189 hl (k := 5) rfl (nI_1 _) (by decide) rfl (fun ls hl => ?_)
                        refine lv_goto (tgt := 36) hx hb d_Mod_look_192 (by decide) ?_
                        have e8 : cGr A2 (i + 1) = i + 1 := by
                          show (if cGr A2 i = 0 ∨ A2 (cGr A2 i - 1) < A2 i then i + 1 else cGr A2 i) = _
                          rw [if_pos (by first | exact Or.inl hb0 | exact Or.inr (by rw [← a_kf, ← a_kb]; exact Int64.not_le.mp h177))]
                        have e9 : bI (cGr A2 (i + 1)) = nI i := by rw [e8]; rfl
                        rw [← e9] at hl
                        exact ih36 (i + 1) _ _ _ (by omega) (by omega) hZ (lv_sub hl [0, 3, 2, 1, 6, 7, 8] rfl)
                      · skip
                        exact absurd (show (-1 : Int32) < 0 from by decide) h140
                    · skip
                      have e1 : bI (cGr A2 i) = (nI (cGr A2 i - 1)) := if_neg hb0
                      rw [e1] at hl
                      refine lv_iload hx hb d_Mod_look_138 (lv_at hl 5 rfl) ?_
                      refine lv_if_lt (tgt := 180) hx hb d_Mod_look_140 (by decide) (fun h140 => ?_) (fun h140 => ?_)
                      · skip
                        have h140 : (cGr A2 i - 1) < 0 := (nI_ltI (a := (cGr A2 i - 1)) (b := 0) (by omega) (by omega)).mp h140
                        exact absurd h140 (by omega)
                      · skip
                        have h140 : 0 ≤ (cGr A2 i - 1) := Nat.le_of_not_lt (fun z9 => h140 ((nI_ltI (a := (cGr A2 i - 1)) (b := 0) (by omega) (by omega)).mpr z9))
                        refine lv_aload_n hx hb d_Mod_look_143 rfl (lv_at hl 6 rfl) ?_
                        refine q_get (C := R_Mod) (T := T_Mod) (N := 10) hx hb hts (fun w h => gm (inT_Mod w h)) hown hK hZ (43) (by decide) hM.1 rfl 4 (by decide) (hts _ (gm k_424)) (fun _ h9 => h9) rfl d_Mod_look_144 ?_
                        refine lv_iload hx hb d_Mod_look_147 (lv_at hl 3 rfl) ?_
                        refine q_lald hx hb hK hZ (47) 1 (((64 * j) + kf)) (by decide) hM.2.2.2.2.1 rfl rfl (by omega) (by decide) d_Mod_look_149 ?_
                        refine lv_aload_n hx hb d_Mod_look_150 rfl (lv_at hl 6 rfl) ?_
                        refine q_get (C := R_Mod) (T := T_Mod) (N := 10) hx hb hts (fun w h => gm (inT_Mod w h)) hown hK hZ (43) (by decide) hM.1 rfl 4 (by decide) (hts _ (gm k_424)) (fun _ h9 => h9) rfl d_Mod_look_151 ?_
                        refine lv_bipush (v := (nI 64)) hx hb d_Mod_look_154 rfl ?_
                        refine lv_iload_n hx hb d_Mod_look_156 rfl (lv_at hl 7 rfl) ?_
                        refine lv_imul hx hb d_Mod_look_157 ?_
                        refine q_topi (y := nI (64 * j)) (pk_mul _ _) ?_
                        refine lv_aload_n hx hb d_Mod_look_158 rfl (lv_at hl 6 rfl) ?_
                        refine lv_iload_n hx hb d_Mod_look_159 rfl (lv_at hl 7 rfl) ?_
                        refine lv_iload hx hb d_Mod_look_160 (lv_at hl 5 rfl) ?_
                        refine lv_if_ge (tgt := 169) hx hb d_Mod_look_162 (by decide) (fun h162 => ?_) (fun h162 => ?_)
                        · skip
                          have h162 : 0 ≤ (cGr A2 i - 1) := (nI_leI (a := 0) (b := (cGr A2 i - 1)) (by omega) (by omega)).mp h162
                          refine lv_iload hx hb d_Mod_look_169 (lv_at hl 5 rfl) ?_
                          refine q_calli (va_runV (As := [.int (nI j), .int (nI (cGr A2 i - 1))]) (rest := [.int (nI (64 * j)), .ref (ad 47), .long (A ((64 * j) + kf))]) ⟨hx, hb, hml, hown, hts⟩ (c_Mod_inOrder l dC dI cI cL cB ad N0 w90 (nI 0) mn P N A rm rP rN rA bd j z (cGr A2 i - 1) z2 P2 N2 A2 (F j) hM hj hz hmn hR hRc (by omega)) (cwV 2 hts (gI_V k_560 k_557 k_559 k_18 k_24) rfl rfl rfl (by decide +kernel) ⟨Nat.le_of_ble_eq_true rfl, Nat.le_of_ble_eq_true rfl⟩) (q_preV hK hAm hZ hN [.int (nI j), .int (nI (cGr A2 i - 1))] (43) 3 (by decide) hM.1 rfl) rfl rfl hl.1 rfl (lv_room (Nat.le_of_ble_eq_true rfl)) d_Mod_look_171 ⟨Nat.zero_le _, Nat.zero_le _⟩) hZ (fun og u_og H locs h_og hZ => ?_)
                          obtain ⟨e_og, h_og⟩ := h_og
                          rw [e_og] at hZ
                          obtain ⟨kb, hk_kb, e_kb, p_kb, n_kb, a_kb⟩ := h_og
                          refine q_topi (y := nI kb) e_kb ?_
                          refine lv_iadd hx hb d_Mod_look_174 ?_
                          refine q_topi (y := nI ((64 * j) + kb)) (nI_add _ _) ?_
                          refine q_lald hx hb hK hZ (47) 1 (((64 * j) + kb)) (by decide) hM.2.2.2.2.1 rfl rfl (by omega) (by decide) d_Mod_look_175 ?_
                          refine W.lcmp hx hb d_Mod_look_176 ?_
                          refine lv_if_le (tgt := 185) hx hb d_Mod_look_177 (by decide) (fun h177 => ?_) (fun h177 => ?_)
                          · skip
                            rw [lg_cmp_le] at h177
                            refine lv_iload hx hb d_Mod_look_185 (lv_at hl 5 rfl) ?_
                            refine lv_istore (lv' := [(5, .int (nI (cGr A2 i - 1))), (4, .int (nI (cN A2 (i + 1)))), (3, .int (nI (cP P2 (i + 1)))), (8, .int (nI ((64 * j) + kg))), (7, .int (nI ((64 * j) + kf))), (6, .int (nI i)), (0, .ref (ad 43)), (1, .int (nI j)), (2, .int q)]) hx hb d_Mod_look_187 hl (by decide) rfl (fun ls hl => ?_)
                            refine lv_iinc (v := (nI (i + 1))) (lv' := [(6, .int (nI (i + 1))), (5, .int (nI (cGr A2 i - 1))), (4, .int (nI (cN A2 (i + 1)))), (3, .int (nI (cP P2 (i + 1)))), (8, .int (nI ((64 * j) + kg))), (7, .int (nI ((64 * j) + kf))), (0, .ref (ad 43)), (1, .int (nI j)), (2, .int q)]) hx hb d_Mod_look_189 hl (k := 5) rfl (nI_1 _) (by decide) rfl (fun ls hl => ?_)
                            refine lv_goto (tgt := 36) hx hb d_Mod_look_192 (by decide) ?_
                            have e8 : cGr A2 (i + 1) = cGr A2 i := by
                              show (if cGr A2 i = 0 ∨ A2 (cGr A2 i - 1) < A2 i then i + 1 else cGr A2 i) = _
                              rw [if_neg (fun y => y.elim hb0 (by rw [← a_kf, ← a_kb]; exact Int64.not_lt.mpr h177))]
                            have e9 : bI (cGr A2 (i + 1)) = nI (cGr A2 i - 1) := by rw [e8]; exact e1
                            rw [← e9] at hl
                            exact ih36 (i + 1) _ _ _ (by omega) (by omega) hZ (lv_sub hl [0, 3, 2, 1, 6, 7, 8] rfl)
                          · skip
                            rw [lg_cmp_le] at h177
                            refine lv_iload hx hb d_Mod_look_180 (lv_at hl 4 rfl) ?_
                            refine lv_goto (tgt := 187) hx hb d_Mod_look_182 (by decide) ?_
                            refine lv_istore (lv' := [(5, .int (nI i)), (4, .int (nI (cN A2 (i + 1)))), (3, .int (nI (cP P2 (i + 1)))), (8, .int (nI ((64 * j) + kg))), (7, .int (nI ((64 * j) + kf))), (6, .int (nI i)), (0, .ref (ad 43)), (1, .int (nI j)), (2, .int q)]) hx hb d_Mod_look_187 hl (by decide) rfl (fun ls hl => ?_)
                            refine lv_iinc (v := (nI (i + 1))) (lv' := [(6, .int (nI (i + 1))), (5, .int (nI i)), (4, .int (nI (cN A2 (i + 1)))), (3, .int (nI (cP P2 (i + 1)))), (8, .int (nI ((64 * j) + kg))), (7, .int (nI ((64 * j) + kf))), (0, .ref (ad 43)), (1, .int (nI j)), (2, .int q)]) hx hb d_Mod_look_189 hl (k := 5) rfl (nI_1 _) (by decide) rfl (fun ls hl => ?_)
                            refine lv_goto (tgt := 36) hx hb d_Mod_look_192 (by decide) ?_
                            have e8 : cGr A2 (i + 1) = i + 1 := by
                              show (if cGr A2 i = 0 ∨ A2 (cGr A2 i - 1) < A2 i then i + 1 else cGr A2 i) = _
                              rw [if_pos (by first | exact Or.inl hb0 | exact Or.inr (by rw [← a_kf, ← a_kb]; exact Int64.not_le.mp h177))]
                            have e9 : bI (cGr A2 (i + 1)) = nI i := by rw [e8]; rfl
                            rw [← e9] at hl
                            exact ih36 (i + 1) _ _ _ (by omega) (by omega) hZ (lv_sub hl [0, 3, 2, 1, 6, 7, 8] rfl)
                        · skip
                          have h162 : (cGr A2 i - 1) < 0 := Nat.lt_of_not_le (fun z9 => h162 ((nI_leI (a := 0) (b := (cGr A2 i - 1)) (by omega) (by omega)).mpr z9))
                          exact absurd h162 (by omega)
                  · skip
                    rw [lg_cmp_ge] at h127
                    refine lv_iconst (v := (nI 1)) hx hb d_Mod_look_130 rfl ?_
                    refine lv_goto (tgt := 135) hx hb d_Mod_look_131 (by decide) ?_
                    refine lv_iadd hx hb d_Mod_look_135 ?_
                    refine q_topi (y := nI ((cN A2 i) + 1)) (nI_add _ _) ?_
                    refine q_topi (y := nI (cN A2 (i + 1))) (congrArg nI ((cN_y (by rw [← a_kf]; exact Int64.not_le.mp h127)))) ?_
                    refine lv_istore (lv' := [(4, .int (nI (cN A2 (i + 1)))), (3, .int (nI (cP P2 (i + 1)))), (8, .int (nI ((64 * j) + kg))), (7, .int (nI ((64 * j) + kf))), (6, .int (nI i)), (5, .int (bI (cGr A2 i))), (0, .ref (ad 43)), (1, .int (nI j)), (2, .int q)]) hx hb d_Mod_look_136 hl (by decide) rfl (fun ls hl => ?_)
                    have hcb := cGr_le A2 i
                    by_cases hb0 : cGr A2 i = 0
                    · skip
                      have e1 : bI (cGr A2 i) = (-1) := if_pos hb0
                      rw [e1] at hl
                      refine lv_iload hx hb d_Mod_look_138 (lv_at hl 5 rfl) ?_
                      refine lv_if_lt (tgt := 180) hx hb d_Mod_look_140 (by decide) (fun h140 => ?_) (fun h140 => ?_)
                      · skip
                        refine lv_iload hx hb d_Mod_look_180 (lv_at hl 4 rfl) ?_
                        refine lv_goto (tgt := 187) hx hb d_Mod_look_182 (by decide) ?_
                        refine lv_istore (lv' := [(5, .int (nI i)), (4, .int (nI (cN A2 (i + 1)))), (3, .int (nI (cP P2 (i + 1)))), (8, .int (nI ((64 * j) + kg))), (7, .int (nI ((64 * j) + kf))), (6, .int (nI i)), (0, .ref (ad 43)), (1, .int (nI j)), (2, .int q)]) hx hb d_Mod_look_187 hl (by decide) rfl (fun ls hl => ?_)
                        refine lv_iinc (v := (nI (i + 1))) (lv' := [(6, .int (nI (i + 1))), (5, .int (nI i)), (4, .int (nI (cN A2 (i + 1)))), (3, .int (nI (cP P2 (i + 1)))), (8, .int (nI ((64 * j) + kg))), (7, .int (nI ((64 * j) + kf))), (0, .ref (ad 43)), (1, .int (nI j)), (2, .int q)]) hx hb d_Mod_look_189 hl (k := 5) rfl (nI_1 _) (by decide) rfl (fun ls hl => ?_)
                        refine lv_goto (tgt := 36) hx hb d_Mod_look_192 (by decide) ?_
                        have e8 : cGr A2 (i + 1) = i + 1 := by
                          show (if cGr A2 i = 0 ∨ A2 (cGr A2 i - 1) < A2 i then i + 1 else cGr A2 i) = _
                          rw [if_pos (by first | exact Or.inl hb0 | exact Or.inr (by rw [← a_kf, ← a_kb]; exact Int64.not_le.mp h177))]
                        have e9 : bI (cGr A2 (i + 1)) = nI i := by rw [e8]; rfl
                        rw [← e9] at hl
                        exact ih36 (i + 1) _ _ _ (by omega) (by omega) hZ (lv_sub hl [0, 3, 2, 1, 6, 7, 8] rfl)
                      · skip
                        exact absurd (show (-1 : Int32) < 0 from by decide) h140
                    · skip
                      have e1 : bI (cGr A2 i) = (nI (cGr A2 i - 1)) := if_neg hb0
                      rw [e1] at hl
                      refine lv_iload hx hb d_Mod_look_138 (lv_at hl 5 rfl) ?_
                      refine lv_if_lt (tgt := 180) hx hb d_Mod_look_140 (by decide) (fun h140 => ?_) (fun h140 => ?_)
                      · skip
                        have h140 : (cGr A2 i - 1) < 0 := (nI_ltI (a := (cGr A2 i - 1)) (b := 0) (by omega) (by omega)).mp h140
                        exact absurd h140 (by omega)
                      · skip
                        have h140 : 0 ≤ (cGr A2 i - 1) := Nat.le_of_not_lt (fun z9 => h140 ((nI_ltI (a := (cGr A2 i - 1)) (b := 0) (by omega) (by omega)).mpr z9))
                        refine lv_aload_n hx hb d_Mod_look_143 rfl (lv_at hl 6 rfl) ?_
                        refine q_get (C := R_Mod) (T := T_Mod) (N := 10) hx hb hts (fun w h => gm (inT_Mod w h)) hown hK hZ (43) (by decide) hM.1 rfl 4 (by decide) (hts _ (gm k_424)) (fun _ h9 => h9) rfl d_Mod_look_144 ?_
                        refine lv_iload hx hb d_Mod_look_147 (lv_at hl 3 rfl) ?_
                        refine q_lald hx hb hK hZ (47) 1 (((64 * j) + kf)) (by decide) hM.2.2.2.2.1 rfl rfl (by omega) (by decide) d_Mod_look_149 ?_
                        refine lv_aload_n hx hb d_Mod_look_150 rfl (lv_at hl 6 rfl) ?_
                        refine q_get (C := R_Mod) (T := T_Mod) (N := 10) hx hb hts (fun w h => gm (inT_Mod w h)) hown hK hZ (43) (by decide) hM.1 rfl 4 (by decide) (hts _ (gm k_424)) (fun _ h9 => h9) rfl d_Mod_look_151 ?_
                        refine lv_bipush (v := (nI 64)) hx hb d_Mod_look_154 rfl ?_
                        refine lv_iload_n hx hb d_Mod_look_156 rfl (lv_at hl 7 rfl) ?_
                        refine lv_imul hx hb d_Mod_look_157 ?_
                        refine q_topi (y := nI (64 * j)) (pk_mul _ _) ?_
                        refine lv_aload_n hx hb d_Mod_look_158 rfl (lv_at hl 6 rfl) ?_
                        refine lv_iload_n hx hb d_Mod_look_159 rfl (lv_at hl 7 rfl) ?_
                        refine lv_iload hx hb d_Mod_look_160 (lv_at hl 5 rfl) ?_
                        refine lv_if_ge (tgt := 169) hx hb d_Mod_look_162 (by decide) (fun h162 => ?_) (fun h162 => ?_)
                        · skip
                          have h162 : 0 ≤ (cGr A2 i - 1) := (nI_leI (a := 0) (b := (cGr A2 i - 1)) (by omega) (by omega)).mp h162
                          refine lv_iload hx hb d_Mod_look_169 (lv_at hl 5 rfl) ?_
                          refine q_calli (va_runV (As := [.int (nI j), .int (nI (cGr A2 i - 1))]) (rest := [.int (nI (64 * j)), .ref (ad 47), .long (A ((64 * j) + kf))]) ⟨hx, hb, hml, hown, hts⟩ (c_Mod_inOrder l dC dI cI cL cB ad N0 w90 (nI 0) mn P N A rm rP rN rA bd j z (cGr A2 i - 1) z2 P2 N2 A2 (F j) hM hj hz hmn hR hRc (by omega)) (cwV 2 hts (gI_V k_560 k_557 k_559 k_18 k_24) rfl rfl rfl (by decide +kernel) ⟨Nat.le_of_ble_eq_true rfl, Nat.le_of_ble_eq_true rfl⟩) (q_preV hK hAm hZ hN [.int (nI j), .int (nI (cGr A2 i - 1))] (43) 3 (by decide) hM.1 rfl) rfl rfl hl.1 rfl (lv_room (Nat.le_of_ble_eq_true rfl)) d_Mod_look_171 ⟨Nat.zero_le _, Nat.zero_le _⟩) hZ (fun og u_og H locs h_og hZ => ?_)
                          obtain ⟨e_og, h_og⟩ := h_og
                          rw [e_og] at hZ
                          obtain ⟨kb, hk_kb, e_kb, p_kb, n_kb, a_kb⟩ := h_og
                          refine q_topi (y := nI kb) e_kb ?_
                          refine lv_iadd hx hb d_Mod_look_174 ?_
                          refine q_topi (y := nI ((64 * j) + kb)) (nI_add _ _) ?_
                          refine q_lald hx hb hK hZ (47) 1 (((64 * j) + kb)) (by decide) hM.2.2.2.2.1 rfl rfl (by omega) (by decide) d_Mod_look_175 ?_
                          refine W.lcmp hx hb d_Mod_look_176 ?_
                          refine lv_if_le (tgt := 185) hx hb d_Mod_look_177 (by decide) (fun h177 => ?_) (fun h177 => ?_)
                          · skip
                            rw [lg_cmp_le] at h177
                            refine lv_iload hx hb d_Mod_look_185 (lv_at hl 5 rfl) ?_
                            refine lv_istore (lv' := [(5, .int (nI (cGr A2 i - 1))), (4, .int (nI (cN A2 (i + 1)))), (3, .int (nI (cP P2 (i + 1)))), (8, .int (nI ((64 * j) + kg))), (7, .int (nI ((64 * j) + kf))), (6, .int (nI i)), (0, .ref (ad 43)), (1, .int (nI j)), (2, .int q)]) hx hb d_Mod_look_187 hl (by decide) rfl (fun ls hl => ?_)
                            refine lv_iinc (v := (nI (i + 1))) (lv' := [(6, .int (nI (i + 1))), (5, .int (nI (cGr A2 i - 1))), (4, .int (nI (cN A2 (i + 1)))), (3, .int (nI (cP P2 (i + 1)))), (8, .int (nI ((64 * j) + kg))), (7, .int (nI ((64 * j) + kf))), (0, .ref (ad 43)), (1, .int (nI j)), (2, .int q)]) hx hb d_Mod_look_189 hl (k := 5) rfl (nI_1 _) (by decide) rfl (fun ls hl => ?_)
                            refine lv_goto (tgt := 36) hx hb d_Mod_look_192 (by decide) ?_
                            have e8 : cGr A2 (i + 1) = cGr A2 i := by
                              show (if cGr A2 i = 0 ∨ A2 (cGr A2 i - 1) < A2 i then i + 1 else cGr A2 i) = _
                              rw [if_neg (fun y => y.elim hb0 (by rw [← a_kf, ← a_kb]; exact Int64.not_lt.mpr h177))]
                            have e9 : bI (cGr A2 (i + 1)) = nI (cGr A2 i - 1) := by rw [e8]; exact e1
                            rw [← e9] at hl
                            exact ih36 (i + 1) _ _ _ (by omega) (by omega) hZ (lv_sub hl [0, 3, 2, 1, 6, 7, 8] rfl)
                          · skip
                            rw [lg_cmp_le] at h177
                            refine lv_iload hx hb d_Mod_look_180 (lv_at hl 4 rfl) ?_
                            refine lv_goto (tgt := 187) hx hb d_Mod_look_182 (by decide) ?_
                            refine lv_istore (lv' := [(5, .int (nI i)), (4, .int (nI (cN A2 (i + 1)))), (3, .int (nI (cP P2 (i + 1)))), (8, .int (nI ((64 * j) + kg))), (7, .int (nI ((64 * j) + kf))), (6, .int (nI i)), (0, .ref (ad 43)), (1, .int (nI j)), (2, .int q)]) hx hb d_Mod_look_187 hl (by decide) rfl (fun ls hl => ?_)
                            refine lv_iinc (v := (nI (i + 1))) (lv' := [(6, .int (nI (i + 1))), (5, .int (nI i)), (4, .int (nI (cN A2 (i + 1)))), (3, .int (nI (cP P2 (i + 1)))), (8, .int (nI ((64 * j) + kg))), (7, .int (nI ((64 * j) + kf))), (0, .ref (ad 43)), (1, .int (nI j)), (2, .int q)]) hx hb d_Mod_look_189 hl (k := 5) rfl (nI_1 _) (by decide) rfl (fun ls hl => ?_)
                            refine lv_goto (tgt := 36) hx hb d_Mod_look_192 (by decide) ?_
                            have e8 : cGr A2 (i + 1) = i + 1 := by
                              show (if cGr A2 i = 0 ∨ A2 (cGr A2 i - 1) < A2 i then i + 1 else cGr A2 i) = _
                              rw [if_pos (by first | exact Or.inl hb0 | exact Or.inr (by rw [← a_kf, ← a_kb]; exact Int64.not_le.mp h177))]
                            have e9 : bI (cGr A2 (i + 1)) = nI i := by rw [e8]; rfl
                            rw [← e9] at hl
                            exact ih36 (i + 1) _ _ _ (by omega) (by omega) hZ (lv_sub hl [0, 3, 2, 1, 6, 7, 8] rfl)
                        · skip
                          have h162 : (cGr A2 i - 1) < 0 := Nat.lt_of_not_le (fun z9 => h162 ((nI_leI (a := 0) (b := (cGr A2 i - 1)) (by omega) (by omega)).mpr z9))
                          exact absurd h162 (by omega)
            · skip
              have h63 : i = 0 := (nI_eq (a := i) (b := 0) (by omega) (by omega)).mp h63
              refine lv_iconst (v := (nI 0)) hx hb d_Mod_look_66 rfl ?_
              refine lv_goto (tgt := 84) hx hb d_Mod_look_67 (by decide) ?_
              refine lv_istore (lv' := [(8, .int (nI 0)), (7, .int (nI ((64 * j) + kf))), (6, .int (nI i)), (3, .int (nI (cP P2 i))), (4, .int (nI (cN A2 i))), (5, .int (bI (cGr A2 i))), (0, .ref (ad 43)), (1, .int (nI j)), (2, .int q)]) hx hb d_Mod_look_84 hl (by decide) rfl (fun ls hl => ?_)
              refine lv_iload_n hx hb d_Mod_look_86 rfl (lv_at hl 3 rfl) ?_
              refine lv_iload hx hb d_Mod_look_87 (lv_at hl 2 rfl) ?_
              refine lv_if_eq (tgt := 109) hx hb d_Mod_look_89 (by decide) (fun h89 => ?_) (fun h89 => ?_)
              · skip
                have h89 : i = 0 := (nI_eq (a := i) (b := 0) (by omega) (by omega)).mp h89
                refine lv_iconst (v := (nI 1)) hx hb d_Mod_look_109 rfl ?_
                refine lv_goto (tgt := 114) hx hb d_Mod_look_110 (by decide) ?_
                refine lv_iadd hx hb d_Mod_look_114 ?_
                refine q_topi (y := nI ((cP P2 i) + 1)) (nI_add _ _) ?_
                refine q_topi (y := nI (cP P2 (i + 1))) (congrArg nI ((cP_y (by first | exact Or.inl h89 | exact Or.inr (fun y => h106 (by rw [p_kf, p_kg]; exact y.symm)))))) ?_
                refine lv_istore_n (lv' := [(3, .int (nI (cP P2 (i + 1)))), (8, .int (nI 0)), (7, .int (nI ((64 * j) + kf))), (6, .int (nI i)), (4, .int (nI (cN A2 i))), (5, .int (bI (cGr A2 i))), (0, .ref (ad 43)), (1, .int (nI j)), (2, .int q)]) hx hb d_Mod_look_115 rfl hl (by decide) rfl (fun ls hl => ?_)
                refine lv_iload hx hb d_Mod_look_116 (lv_at hl 4 rfl) ?_
                refine lv_aload_n hx hb d_Mod_look_118 rfl (lv_at hl 6 rfl) ?_
                refine q_get (C := R_Mod) (T := T_Mod) (N := 10) hx hb hts (fun w h => gm (inT_Mod w h)) hown hK hZ (43) (by decide) hM.1 rfl 4 (by decide) (hts _ (gm k_424)) (fun _ h9 => h9) rfl d_Mod_look_119 ?_
                refine lv_iload hx hb d_Mod_look_122 (lv_at hl 2 rfl) ?_
                refine q_lald hx hb hK hZ (47) 1 (((64 * j) + kf)) (by decide) hM.2.2.2.2.1 rfl rfl (by omega) (by decide) d_Mod_look_124 ?_
                refine lv_lconst (v := 0) hx hb d_Mod_look_125 rfl ?_
                refine W.lcmp hx hb d_Mod_look_126 ?_
                refine lv_if_ge (tgt := 134) hx hb d_Mod_look_127 (by decide) (fun h127 => ?_) (fun h127 => ?_)
                · skip
                  rw [lg_cmp_ge] at h127
                  refine lv_iconst (v := (nI 0)) hx hb d_Mod_look_134 rfl ?_
                  refine lv_iadd hx hb d_Mod_look_135 ?_
                  refine q_topi (y := nI ((cN A2 i) + 0)) (nI_add _ _) ?_
                  refine q_topi (y := nI (cN A2 (i + 1))) (congrArg nI ((cN_n (by rw [← a_kf]; exact Int64.not_lt.mpr h127)))) ?_
                  refine lv_istore (lv' := [(4, .int (nI (cN A2 (i + 1)))), (3, .int (nI (cP P2 (i + 1)))), (8, .int (nI 0)), (7, .int (nI ((64 * j) + kf))), (6, .int (nI i)), (5, .int (bI (cGr A2 i))), (0, .ref (ad 43)), (1, .int (nI j)), (2, .int q)]) hx hb d_Mod_look_136 hl (by decide) rfl (fun ls hl => ?_)
                  have hcb := cGr_le A2 i
                  by_cases hb0 : cGr A2 i = 0
                  · skip
                    have e1 : bI (cGr A2 i) = (-1) := if_pos hb0
                    rw [e1] at hl
                    refine lv_iload hx hb d_Mod_look_138 (lv_at hl 5 rfl) ?_
                    refine lv_if_lt (tgt := 180) hx hb d_Mod_look_140 (by decide) (fun h140 => ?_) (fun h140 => ?_)
                    · skip
                      refine lv_iload hx hb d_Mod_look_180 (lv_at hl 4 rfl) ?_
                      refine lv_goto (tgt := 187) hx hb d_Mod_look_182 (by decide) ?_
                      refine lv_istore (lv' := [(5, .int (nI i)), (4, .int (nI (cN A2 (i + 1)))), (3, .int (nI (cP P2 (i + 1)))), (8, .int (nI 0)), (7, .int (nI ((64 * j) + kf))), (6, .int (nI i)), (0, .ref (ad 43)), (1, .int (nI j)), (2, .int q)]) hx hb d_Mod_look_187 hl (by decide) rfl (fun ls hl => ?_)
                      refine lv_iinc (v := (nI (i + 1))) (lv' := [(6, .int (nI (i + 1))), (5, .int (nI i)), (4, .int (nI (cN A2 (i + 1)))), (3, .int (nI (cP P2 (i + 1)))), (8, .int (nI 0)), (7, .int (nI ((64 * j) + kf))), (0, .ref (ad 43)), (1, .int (nI j)), (2, .int q)]) hx hb d_Mod_look_189 hl (k := 5) rfl (nI_1 _) (by decide) rfl (fun ls hl => ?_)
                      refine lv_goto (tgt := 36) hx hb d_Mod_look_192 (by decide) ?_
                      have e8 : cGr A2 (i + 1) = i + 1 := by
                        show (if cGr A2 i = 0 ∨ A2 (cGr A2 i - 1) < A2 i then i + 1 else cGr A2 i) = _
                        rw [if_pos (by first | exact Or.inl hb0 | exact Or.inr (by rw [← a_kf, ← a_kb]; exact Int64.not_le.mp h177))]
                      have e9 : bI (cGr A2 (i + 1)) = nI i := by rw [e8]; rfl
                      rw [← e9] at hl
                      exact ih36 (i + 1) _ _ _ (by omega) (by omega) hZ (lv_sub hl [0, 3, 2, 1, 6, 7, 8] rfl)
                    · skip
                      exact absurd (show (-1 : Int32) < 0 from by decide) h140
                  · skip
                    have e1 : bI (cGr A2 i) = (nI (cGr A2 i - 1)) := if_neg hb0
                    rw [e1] at hl
                    refine lv_iload hx hb d_Mod_look_138 (lv_at hl 5 rfl) ?_
                    refine lv_if_lt (tgt := 180) hx hb d_Mod_look_140 (by decide) (fun h140 => ?_) (fun h140 => ?_)
                    · skip
                      have h140 : (cGr A2 i - 1) < 0 := (nI_ltI (a := (cGr A2 i - 1)) (b := 0) (by omega) (by omega)).mp h140
                      exact absurd h140 (by omega)
                    · skip
                      have h140 : 0 ≤ (cGr A2 i - 1) := Nat.le_of_not_lt (fun z9 => h140 ((nI_ltI (a := (cGr A2 i - 1)) (b := 0) (by omega) (by omega)).mpr z9))
                      refine lv_aload_n hx hb d_Mod_look_143 rfl (lv_at hl 6 rfl) ?_
                      refine q_get (C := R_Mod) (T := T_Mod) (N := 10) hx hb hts (fun w h => gm (inT_Mod w h)) hown hK hZ (43) (by decide) hM.1 rfl 4 (by decide) (hts _ (gm k_424)) (fun _ h9 => h9) rfl d_Mod_look_144 ?_
                      refine lv_iload hx hb d_Mod_look_147 (lv_at hl 3 rfl) ?_
                      refine q_lald hx hb hK hZ (47) 1 (((64 * j) + kf)) (by decide) hM.2.2.2.2.1 rfl rfl (by omega) (by decide) d_Mod_look_149 ?_
                      refine lv_aload_n hx hb d_Mod_look_150 rfl (lv_at hl 6 rfl) ?_
                      refine q_get (C := R_Mod) (T := T_Mod) (N := 10) hx hb hts (fun w h => gm (inT_Mod w h)) hown hK hZ (43) (by decide) hM.1 rfl 4 (by decide) (hts _ (gm k_424)) (fun _ h9 => h9) rfl d_Mod_look_151 ?_
                      refine lv_bipush (v := (nI 64)) hx hb d_Mod_look_154 rfl ?_
                      refine lv_iload_n hx hb d_Mod_look_156 rfl (lv_at hl 7 rfl) ?_
                      refine lv_imul hx hb d_Mod_look_157 ?_
                      refine q_topi (y := nI (64 * j)) (pk_mul _ _) ?_
                      refine lv_aload_n hx hb d_Mod_look_158 rfl (lv_at hl 6 rfl) ?_
                      refine lv_iload_n hx hb d_Mod_look_159 rfl (lv_at hl 7 rfl) ?_
                      refine lv_iload hx hb d_Mod_look_160 (lv_at hl 5 rfl) ?_
                      refine lv_if_ge (tgt := 169) hx hb d_Mod_look_162 (by decide) (fun h162 => ?_) (fun h162 => ?_)
                      · skip
                        have h162 : 0 ≤ (cGr A2 i - 1) := (nI_leI (a := 0) (b := (cGr A2 i - 1)) (by omega) (by omega)).mp h162
                        refine lv_iload hx hb d_Mod_look_169 (lv_at hl 5 rfl) ?_
                        refine q_calli (va_runV (As := [.int (nI j), .int (nI (cGr A2 i - 1))]) (rest := [.int (nI (64 * j)), .ref (ad 47), .long (A ((64 * j) + kf))]) ⟨hx, hb, hml, hown, hts⟩ (c_Mod_inOrder l dC dI cI cL cB ad N0 w90 (nI 0) mn P N A rm rP rN rA bd j z (cGr A2 i - 1) z2 P2 N2 A2 (F j) hM hj hz hmn hR hRc (by omega)) (cwV 2 hts (gI_V k_560 k_557 k_559 k_18 k_24) rfl rfl rfl (by decide +kernel) ⟨Nat.le_of_ble_eq_true rfl, Nat.le_of_ble_eq_true rfl⟩) (q_preV hK hAm hZ hN [.int (nI j), .int (nI (cGr A2 i - 1))] (43) 3 (by decide) hM.1 rfl) rfl rfl hl.1 rfl (lv_room (Nat.le_of_ble_eq_true rfl)) d_Mod_look_171 ⟨Nat.zero_le _, Nat.zero_le _⟩) hZ (fun og u_og H locs h_og hZ => ?_)
                        obtain ⟨e_og, h_og⟩ := h_og
                        rw [e_og] at hZ
                        obtain ⟨kb, hk_kb, e_kb, p_kb, n_kb, a_kb⟩ := h_og
                        refine q_topi (y := nI kb) e_kb ?_
                        refine lv_iadd hx hb d_Mod_look_174 ?_
                        refine q_topi (y := nI ((64 * j) + kb)) (nI_add _ _) ?_
                        refine q_lald hx hb hK hZ (47) 1 (((64 * j) + kb)) (by decide) hM.2.2.2.2.1 rfl rfl (by omega) (by decide) d_Mod_look_175 ?_
                        refine W.lcmp hx hb d_Mod_look_176 ?_
                        refine lv_if_le (tgt := 185) hx hb d_Mod_look_177 (by decide) (fun h177 => ?_) (fun h177 => ?_)
                        · skip
                          rw [lg_cmp_le] at h177
                          refine lv_iload hx hb d_Mod_look_185 (lv_at hl 5 rfl) ?_
                          refine lv_istore (lv' := [(5, .int (nI (cGr A2 i - 1))), (4, .int (nI (cN A2 (i + 1)))), (3, .int (nI (cP P2 (i + 1)))), (8, .int (nI 0)), (7, .int (nI ((64 * j) + kf))), (6, .int (nI i)), (0, .ref (ad 43)), (1, .int (nI j)), (2, .int q)]) hx hb d_Mod_look_187 hl (by decide) rfl (fun ls hl => ?_)
                          refine lv_iinc (v := (nI (i + 1))) (lv' := [(6, .int (nI (i + 1))), (5, .int (nI (cGr A2 i - 1))), (4, .int (nI (cN A2 (i + 1)))), (3, .int (nI (cP P2 (i + 1)))), (8, .int (nI 0)), (7, .int (nI ((64 * j) + kf))), (0, .ref (ad 43)), (1, .int (nI j)), (2, .int q)]) hx hb d_Mod_look_189 hl (k := 5) rfl (nI_1 _) (by decide) rfl (fun ls hl => ?_)
                          refine lv_goto (tgt := 36) hx hb d_Mod_look_192 (by decide) ?_
                          have e8 : cGr A2 (i + 1) = cGr A2 i := by
                            show (if cGr A2 i = 0 ∨ A2 (cGr A2 i - 1) < A2 i then i + 1 else cGr A2 i) = _
                            rw [if_neg (fun y => y.elim hb0 (by rw [← a_kf, ← a_kb]; exact Int64.not_lt.mpr h177))]
                          have e9 : bI (cGr A2 (i + 1)) = nI (cGr A2 i - 1) := by rw [e8]; exact e1
                          rw [← e9] at hl
                          exact ih36 (i + 1) _ _ _ (by omega) (by omega) hZ (lv_sub hl [0, 3, 2, 1, 6, 7, 8] rfl)
                        · skip
                          rw [lg_cmp_le] at h177
                          refine lv_iload hx hb d_Mod_look_180 (lv_at hl 4 rfl) ?_
                          refine lv_goto (tgt := 187) hx hb d_Mod_look_182 (by decide) ?_
                          refine lv_istore (lv' := [(5, .int (nI i)), (4, .int (nI (cN A2 (i + 1)))), (3, .int (nI (cP P2 (i + 1)))), (8, .int (nI 0)), (7, .int (nI ((64 * j) + kf))), (6, .int (nI i)), (0, .ref (ad 43)), (1, .int (nI j)), (2, .int q)]) hx hb d_Mod_look_187 hl (by decide) rfl (fun ls hl => ?_)
                          refine lv_iinc (v := (nI (i + 1))) (lv' := [(6, .int (nI (i + 1))), (5, .int (nI i)), (4, .int (nI (cN A2 (i + 1)))), (3, .int (nI (cP P2 (i + 1)))), (8, .int (nI 0)), (7, .int (nI ((64 * j) + kf))), (0, .ref (ad 43)), (1, .int (nI j)), (2, .int q)]) hx hb d_Mod_look_189 hl (k := 5) rfl (nI_1 _) (by decide) rfl (fun ls hl => ?_)
                          refine lv_goto (tgt := 36) hx hb d_Mod_look_192 (by decide) ?_
                          have e8 : cGr A2 (i + 1) = i + 1 := by
                            show (if cGr A2 i = 0 ∨ A2 (cGr A2 i - 1) < A2 i then i + 1 else cGr A2 i) = _
                            rw [if_pos (by first | exact Or.inl hb0 | exact Or.inr (by rw [← a_kf, ← a_kb]; exact Int64.not_le.mp h177))]
                          have e9 : bI (cGr A2 (i + 1)) = nI i := by rw [e8]; rfl
                          rw [← e9] at hl
                          exact ih36 (i + 1) _ _ _ (by omega) (by omega) hZ (lv_sub hl [0, 3, 2, 1, 6, 7, 8] rfl)
                      · skip
                        have h162 : (cGr A2 i - 1) < 0 := Nat.lt_of_not_le (fun z9 => h162 ((nI_leI (a := 0) (b := (cGr A2 i - 1)) (by omega) (by omega)).mpr z9))
                        exact absurd h162 (by omega)
                · skip
                  rw [lg_cmp_ge] at h127
                  refine lv_iconst (v := (nI 1)) hx hb d_Mod_look_130 rfl ?_
                  refine lv_goto (tgt := 135) hx hb d_Mod_look_131 (by decide) ?_
                  refine lv_iadd hx hb d_Mod_look_135 ?_
                  refine q_topi (y := nI ((cN A2 i) + 1)) (nI_add _ _) ?_
                  refine q_topi (y := nI (cN A2 (i + 1))) (congrArg nI ((cN_y (by rw [← a_kf]; exact Int64.not_le.mp h127)))) ?_
                  refine lv_istore (lv' := [(4, .int (nI (cN A2 (i + 1)))), (3, .int (nI (cP P2 (i + 1)))), (8, .int (nI 0)), (7, .int (nI ((64 * j) + kf))), (6, .int (nI i)), (5, .int (bI (cGr A2 i))), (0, .ref (ad 43)), (1, .int (nI j)), (2, .int q)]) hx hb d_Mod_look_136 hl (by decide) rfl (fun ls hl => ?_)
                  have hcb := cGr_le A2 i
                  by_cases hb0 : cGr A2 i = 0
                  · skip
                    have e1 : bI (cGr A2 i) = (-1) := if_pos hb0
                    rw [e1] at hl
                    refine lv_iload hx hb d_Mod_look_138 (lv_at hl 5 rfl) ?_
                    refine lv_if_lt (tgt := 180) hx hb d_Mod_look_140 (by decide) (fun h140 => ?_) (fun h140 => ?_)
                    · skip
                      refine lv_iload hx hb d_Mod_look_180 (lv_at hl 4 rfl) ?_
                      refine lv_goto (tgt := 187) hx hb d_Mod_look_182 (by decide) ?_
                      refine lv_istore (lv' := [(5, .int (nI i)), (4, .int (nI (cN A2 (i + 1)))), (3, .int (nI (cP P2 (i + 1)))), (8, .int (nI 0)), (7, .int (nI ((64 * j) + kf))), (6, .int (nI i)), (0, .ref (ad 43)), (1, .int (nI j)), (2, .int q)]) hx hb d_Mod_look_187 hl (by decide) rfl (fun ls hl => ?_)
                      refine lv_iinc (v := (nI (i + 1))) (lv' := [(6, .int (nI (i + 1))), (5, .int (nI i)), (4, .int (nI (cN A2 (i + 1)))), (3, .int (nI (cP P2 (i + 1)))), (8, .int (nI 0)), (7, .int (nI ((64 * j) + kf))), (0, .ref (ad 43)), (1, .int (nI j)), (2, .int q)]) hx hb d_Mod_look_189 hl (k := 5) rfl (nI_1 _) (by decide) rfl (fun ls hl => ?_)
                      refine lv_goto (tgt := 36) hx hb d_Mod_look_192 (by decide) ?_
                      have e8 : cGr A2 (i + 1) = i + 1 := by
                        show (if cGr A2 i = 0 ∨ A2 (cGr A2 i - 1) < A2 i then i + 1 else cGr A2 i) = _
                        rw [if_pos (by first | exact Or.inl hb0 | exact Or.inr (by rw [← a_kf, ← a_kb]; exact Int64.not_le.mp h177))]
                      have e9 : bI (cGr A2 (i + 1)) = nI i := by rw [e8]; rfl
                      rw [← e9] at hl
                      exact ih36 (i + 1) _ _ _ (by omega) (by omega) hZ (lv_sub hl [0, 3, 2, 1, 6, 7, 8] rfl)
                    · skip
                      exact absurd (show (-1 : Int32) < 0 from by decide) h140
                  · skip
                    have e1 : bI (cGr A2 i) = (nI (cGr A2 i - 1)) := if_neg hb0
                    rw [e1] at hl
                    refine lv_iload hx hb d_Mod_look_138 (lv_at hl 5 rfl) ?_
                    refine lv_if_lt (tgt := 180) hx hb d_Mod_look_140 (by decide) (fun h140 => ?_) (fun h140 => ?_)
                    · skip
                      have h140 : (cGr A2 i - 1) < 0 := (nI_ltI (a := (cGr A2 i - 1)) (b := 0) (by omega) (by omega)).mp h140
                      exact absurd h140 (by omega)
                    · skip
                      have h140 : 0 ≤ (cGr A2 i - 1) := Nat.le_of_not_lt (fun z9 => h140 ((nI_ltI (a := (cGr A2 i - 1)) (b := 0) (by omega) (by omega)).mpr z9))
                      refine lv_aload_n hx hb d_Mod_look_143 rfl (lv_at hl 6 rfl) ?_
                      refine q_get (C := R_Mod) (T := T_Mod) (N := 10) hx hb hts (fun w h => gm (inT_Mod w h)) hown hK hZ (43) (by decide) hM.1 rfl 4 (by decide) (hts _ (gm k_424)) (fun _ h9 => h9) rfl d_Mod_look_144 ?_
                      refine lv_iload hx hb d_Mod_look_147 (lv_at hl 3 rfl) ?_
                      refine q_lald hx hb hK hZ (47) 1 (((64 * j) + kf)) (by decide) hM.2.2.2.2.1 rfl rfl (by omega) (by decide) d_Mod_look_149 ?_
                      refine lv_aload_n hx hb d_Mod_look_150 rfl (lv_at hl 6 rfl) ?_
                      refine q_get (C := R_Mod) (T := T_Mod) (N := 10) hx hb hts (fun w h => gm (inT_Mod w h)) hown hK hZ (43) (by decide) hM.1 rfl 4 (by decide) (hts _ (gm k_424)) (fun _ h9 => h9) rfl d_Mod_look_151 ?_
                      refine lv_bipush (v := (nI 64)) hx hb d_Mod_look_154 rfl ?_
                      refine lv_iload_n hx hb d_Mod_look_156 rfl (lv_at hl 7 rfl) ?_
                      refine lv_imul hx hb d_Mod_look_157 ?_
                      refine q_topi (y := nI (64 * j)) (pk_mul _ _) ?_
                      refine lv_aload_n hx hb d_Mod_look_158 rfl (lv_at hl 6 rfl) ?_
                      refine lv_iload_n hx hb d_Mod_look_159 rfl (lv_at hl 7 rfl) ?_
                      refine lv_iload hx hb d_Mod_look_160 (lv_at hl 5 rfl) ?_
                      refine lv_if_ge (tgt := 169) hx hb d_Mod_look_162 (by decide) (fun h162 => ?_) (fun h162 => ?_)
                      · skip
                        have h162 : 0 ≤ (cGr A2 i - 1) := (nI_leI (a := 0) (b := (cGr A2 i - 1)) (by omega) (by omega)).mp h162
                        refine lv_iload hx hb d_Mod_look_169 (lv_at hl 5 rfl) ?_
                        refine q_calli (va_runV (As := [.int (nI j), .int (nI (cGr A2 i - 1))]) (rest := [.int (nI (64 * j)), .ref (ad 47), .long (A ((64 * j) + kf))]) ⟨hx, hb, hml, hown, hts⟩ (c_Mod_inOrder l dC dI cI cL cB ad N0 w90 (nI 0) mn P N A rm rP rN rA bd j z (cGr A2 i - 1) z2 P2 N2 A2 (F j) hM hj hz hmn hR hRc (by omega)) (cwV 2 hts (gI_V k_560 k_557 k_559 k_18 k_24) rfl rfl rfl (by decide +kernel) ⟨Nat.le_of_ble_eq_true rfl, Nat.le_of_ble_eq_true rfl⟩) (q_preV hK hAm hZ hN [.int (nI j), .int (nI (cGr A2 i - 1))] (43) 3 (by decide) hM.1 rfl) rfl rfl hl.1 rfl (lv_room (Nat.le_of_ble_eq_true rfl)) d_Mod_look_171 ⟨Nat.zero_le _, Nat.zero_le _⟩) hZ (fun og u_og H locs h_og hZ => ?_)
                        obtain ⟨e_og, h_og⟩ := h_og
                        rw [e_og] at hZ
                        obtain ⟨kb, hk_kb, e_kb, p_kb, n_kb, a_kb⟩ := h_og
                        refine q_topi (y := nI kb) e_kb ?_
                        refine lv_iadd hx hb d_Mod_look_174 ?_
                        refine q_topi (y := nI ((64 * j) + kb)) (nI_add _ _) ?_
                        refine q_lald hx hb hK hZ (47) 1 (((64 * j) + kb)) (by decide) hM.2.2.2.2.1 rfl rfl (by omega) (by decide) d_Mod_look_175 ?_
                        refine W.lcmp hx hb d_Mod_look_176 ?_
                        refine lv_if_le (tgt := 185) hx hb d_Mod_look_177 (by decide) (fun h177 => ?_) (fun h177 => ?_)
                        · skip
                          rw [lg_cmp_le] at h177
                          refine lv_iload hx hb d_Mod_look_185 (lv_at hl 5 rfl) ?_
                          refine lv_istore (lv' := [(5, .int (nI (cGr A2 i - 1))), (4, .int (nI (cN A2 (i + 1)))), (3, .int (nI (cP P2 (i + 1)))), (8, .int (nI 0)), (7, .int (nI ((64 * j) + kf))), (6, .int (nI i)), (0, .ref (ad 43)), (1, .int (nI j)), (2, .int q)]) hx hb d_Mod_look_187 hl (by decide) rfl (fun ls hl => ?_)
                          refine lv_iinc (v := (nI (i + 1))) (lv' := [(6, .int (nI (i + 1))), (5, .int (nI (cGr A2 i - 1))), (4, .int (nI (cN A2 (i + 1)))), (3, .int (nI (cP P2 (i + 1)))), (8, .int (nI 0)), (7, .int (nI ((64 * j) + kf))), (0, .ref (ad 43)), (1, .int (nI j)), (2, .int q)]) hx hb d_Mod_look_189 hl (k := 5) rfl (nI_1 _) (by decide) rfl (fun ls hl => ?_)
                          refine lv_goto (tgt := 36) hx hb d_Mod_look_192 (by decide) ?_
                          have e8 : cGr A2 (i + 1) = cGr A2 i := by
                            show (if cGr A2 i = 0 ∨ A2 (cGr A2 i - 1) < A2 i then i + 1 else cGr A2 i) = _
                            rw [if_neg (fun y => y.elim hb0 (by rw [← a_kf, ← a_kb]; exact Int64.not_lt.mpr h177))]
                          have e9 : bI (cGr A2 (i + 1)) = nI (cGr A2 i - 1) := by rw [e8]; exact e1
                          rw [← e9] at hl
                          exact ih36 (i + 1) _ _ _ (by omega) (by omega) hZ (lv_sub hl [0, 3, 2, 1, 6, 7, 8] rfl)
                        · skip
                          rw [lg_cmp_le] at h177
                          refine lv_iload hx hb d_Mod_look_180 (lv_at hl 4 rfl) ?_
                          refine lv_goto (tgt := 187) hx hb d_Mod_look_182 (by decide) ?_
                          refine lv_istore (lv' := [(5, .int (nI i)), (4, .int (nI (cN A2 (i + 1)))), (3, .int (nI (cP P2 (i + 1)))), (8, .int (nI 0)), (7, .int (nI ((64 * j) + kf))), (6, .int (nI i)), (0, .ref (ad 43)), (1, .int (nI j)), (2, .int q)]) hx hb d_Mod_look_187 hl (by decide) rfl (fun ls hl => ?_)
                          refine lv_iinc (v := (nI (i + 1))) (lv' := [(6, .int (nI (i + 1))), (5, .int (nI i)), (4, .int (nI (cN A2 (i + 1)))), (3, .int (nI (cP P2 (i + 1)))), (8, .int (nI 0)), (7, .int (nI ((64 * j) + kf))), (0, .ref (ad 43)), (1, .int (nI j)), (2, .int q)]) hx hb d_Mod_look_189 hl (k := 5) rfl (nI_1 _) (by decide) rfl (fun ls hl => ?_)
                          refine lv_goto (tgt := 36) hx hb d_Mod_look_192 (by decide) ?_
                          have e8 : cGr A2 (i + 1) = i + 1 := by
                            show (if cGr A2 i = 0 ∨ A2 (cGr A2 i - 1) < A2 i then i + 1 else cGr A2 i) = _
                            rw [if_pos (by first | exact Or.inl hb0 | exact Or.inr (by rw [← a_kf, ← a_kb]; exact Int64.not_le.mp h177))]
                          have e9 : bI (cGr A2 (i + 1)) = nI i := by rw [e8]; rfl
                          rw [← e9] at hl
                          exact ih36 (i + 1) _ _ _ (by omega) (by omega) hZ (lv_sub hl [0, 3, 2, 1, 6, 7, 8] rfl)
                      · skip
                        have h162 : (cGr A2 i - 1) < 0 := Nat.lt_of_not_le (fun z9 => h162 ((nI_leI (a := 0) (b := (cGr A2 i - 1)) (by omega) (by omega)).mpr z9))
                        exact absurd h162 (by omega)
              · skip
                have h89 : ¬ i = 0 := fun z9 => h89 ((nI_eq (a := i) (b := 0) (by omega) (by omega)).mpr z9)
                exact absurd h63 h89
      exact loop36 (z + 1) 0 _ _ _ (Nat.zero_le z) (by omega) hZ (lv_sub hl [0, 3, 2, 1, 4, 5, 6] rfl)
    · skip
      have h20 : 0 < 0 := Nat.lt_of_not_le (fun z9 => h20 ((nI_leI (a := 0) (b := 0) (by omega) (by omega)).mpr z9))
      exact absurd h20 (by decide)
set_option maxHeartbeats 4000000 in
set_option maxRecDepth 100000 in
theorem x_Mod_look (l : Launch) (dC : Nat → ClassId) (dI : Nat → Nat → Nat) (cI cL cB : ClassId) (ad : Nat → Nat) (N0 : Nat) (w : Nat → va_E) (t0 : Int32) (F : Nat → Int → Int64) (b q : Int32) (hMM : sM ad cI cL w t0 F) (hbad : ¬ okB b) : Met l y_Mod_look ws_Mod_look ({ frames := 1, cells := 0, slots := 0, locals := 20 } : Room) (va_Pc [.ref (ad 43), .int b, .int q] (sPr (dC, dI) vCl [(cI, .int), (cL, .long), (cB, .object "CoinBag$Bag")] 52 ad N0 w)) (va_Qi (fun r u => fr w u 43 50 ∧ sM ad cI cL u (nI 1) F) (sPr (dC, dI) vCl [(cI, .int), (cL, .long), (cB, .object "CoinBag$Bag")] 52 ad N0) (fun q => N0 ≤ q)) 0 0 (fun q => N0 ≤ q) := by
  refine Met.ofW (cc := b_Mod_look) (maxL := 9) (ret := (some .int)) (by decide) rfl ?_
  intro p e s m args below meth c s₁ B hml hv
  obtain ⟨rfl, hP, hK, hD, hN, hAm⟩ := hv
  have hx := B.exec
  have hb := B.bytes
  have hr := B.returns
  have hts := atoms_spec (ws := ws_Mod_look) B.pre
  have hown : s.vm.findClass "CoinBagModel" = some m.cls := findClass_of_methodNamed B.named
  have hlocks := B.notSynchronized
  have hZ : sZ (dC, dI) vCl 52 ad (fun q => N0 ≤ q) s.heap w s.heap [] := ⟨hP, hD, va_S.rf⟩
  have hl := lv_entry ([.ref (ad 43), .int b, .int q]) (n := 9) (Nat.le_of_ble_eq_true rfl)
  rw [lg_entry_eq]
  generalize (lg_sl ([.ref (ad 43), .int b, .int q]) ++ List.replicate (9 - (lg_sl ([.ref (ad 43), .int b, .int q])).length) Slot.unset).toArray = ls at hl ⊢
  have hl : lv_has ls 9 [(0, .ref (ad 43)), (1, .int b), (2, .int q)] := hl
  obtain ⟨mn, P, N, A, rm, rP, rN, rA, bd, hM, hB⟩ := hMM
  have hfr : fr w w 43 50 := fr_rf
  refine lv_aload_n hx hb d_Mod_look_0 rfl (lv_at hl 0 rfl) ?_
  refine lv_iload_n hx hb d_Mod_look_1 rfl (lv_at hl 1 rfl) ?_
  refine q_callSi (va_runS (As := [.int b]) (rest := [.ref (ad 43)]) ⟨hx, hb, hml, hown, hts⟩ (c_Mod_isBag l b) (va_cwS 1 hts (gI_S k_465 k_463 k_464 k_24) rfl rfl rfl (by decide +kernel) ⟨Nat.le_of_ble_eq_true rfl, Nat.le_of_ble_eq_true rfl⟩) ⟨fun _ _ _ _ q => q, fun _ _ _ => ⟨rfl, trivial⟩⟩ rfl rfl hl.1 rfl (lv_room (Nat.le_of_ble_eq_true rfl)) d_Mod_look_2 ⟨Nat.zero_le _, Nat.zero_le _⟩) (fun b9 h_b9 => ?_)
  have h_b9 := bN h_b9 hbad
  refine q_topi (y := nI 0) h_b9 ?_
  refine lv_if_eq (tgt := 12) hx hb d_Mod_look_5 (by decide) (fun h5 => ?_) (fun h5 => ?_)
  · skip
    have h5 : 0 = 0 := (nI_eq (a := 0) (b := 0) (by omega) (by omega)).mp h5
    refine lv_iconst (v := (nI 1)) hx hb d_Mod_look_12 rfl ?_
    refine q_put (C := R_Mod) (T := T_Mod) (N := 10) (ty := .int) (v := .int (nI 1)) hx hb hts (fun w h => gm (inT_Mod w h)) ty_Mod tyo_Mod nm_Mod hown hK hZ (43) (by decide) hM.1 rfl 0 (by decide) (hts _ (gm k_420)) (fun _ h9 => h9) rfl (by decide +kernel) (rfl) (rfl) (Nat.le_of_ble_eq_true rfl) d_Mod_look_13 (fun H locs hZ => ?_)
    have hM := hM.up43 (nI 1) rm bd
    have hfr := fr_up (x := 43) (e := .inr (3, [.int (nI 1), .ref (ad 44), .ref (ad 45), .ref (ad 46), .ref (ad 47), .int rm, .ref (ad 48), .ref (ad 49), .ref (ad 50), .int bd])) hfr (by omega) (by omega)
    have hZ : sZ (dC, dI) vCl 52 ad (fun q => N0 ≤ q) s.heap (va_up w 43 (.inr (3, [.int (nI 1), .ref (ad 44), .ref (ad 45), .ref (ad 46), .ref (ad 47), .int rm, .ref (ad 48), .ref (ad 49), .ref (ad 50), .int bd]))) H locs := hZ
    generalize va_up w 43 (.inr (3, [.int (nI 1), .ref (ad 44), .ref (ad 45), .ref (ad 46), .ref (ad 47), .int rm, .ref (ad 48), .ref (ad 49), .ref (ad 50), .int bd])) = w91 at hZ hM hfr
    refine lv_aload_n hx hb d_Mod_look_16 rfl (lv_at hl 0 rfl) ?_
    refine q_get (C := R_Mod) (T := T_Mod) (N := 10) hx hb hts (fun w h => gm (inT_Mod w h)) hown hK hZ (43) (by decide) hM.1 rfl 0 (by decide) (hts _ (gm k_420)) (fun _ h9 => h9) rfl d_Mod_look_17 ?_
    refine lv_if_le (tgt := 25) hx hb d_Mod_look_20 (by decide) (fun h20 => ?_) (fun h20 => ?_)
    · skip
      have h20 : 1 ≤ 0 := (nI_leI (a := 1) (b := 0) (by omega) (by omega)).mp h20
      exact absurd h20 (by decide)
    · skip
      have h20 : 0 < 1 := Nat.lt_of_not_le (fun z9 => h20 ((nI_leI (a := 1) (b := 0) (by omega) (by omega)).mpr z9))
      refine lv_iconst (v := (nI 0)) hx hb d_Mod_look_23 rfl ?_
      exact q_iret hx hb hr hlocks hK hAm hZ hN (⟨hfr, ⟨_, _, _, _, _, _, _, _, _, hM, hB⟩⟩) d_Mod_look_24
  · skip
    have h5 : ¬ 0 = 0 := fun z9 => h5 ((nI_eq (a := 0) (b := 0) (by omega) (by omega)).mpr z9)
    exact absurd h5 (by decide)
