/-! KINDS as numbers; enumerations of a BAG's KINDS; counting. Pure rows: no machine here. -/
def kv (p : Int32) (n : Int64) : Int := p.toInt * 18446744073709551616 + (n + (-9223372036854775808)).toInt
theorem kv_lt {p q : Int32} {n m : Int64} : kv p n < kv q m ↔ (p < q ∨ (p = q ∧ n + (-9223372036854775808) < m + (-9223372036854775808))) := by
  have a := (n + (-9223372036854775808)).toInt_lt
  have b := (n + (-9223372036854775808)).le_toInt
  have a' := (m + (-9223372036854775808)).toInt_lt
  have b' := (m + (-9223372036854775808)).le_toInt
  rw [Int32.lt_iff_toInt_lt, Int64.lt_iff_toInt_lt, ← Int32.toInt_inj]
  unfold kv
  omega
theorem kv_inj {p q : Int32} {n m : Int64} : kv p n = kv q m ↔ (p = q ∧ n = m) := by
  constructor
  · intro h
    have a := (n + (-9223372036854775808)).toInt_lt
    have b := (n + (-9223372036854775808)).le_toInt
    have a' := (m + (-9223372036854775808)).toInt_lt
    have b' := (m + (-9223372036854775808)).le_toInt
    have h1 : p.toInt = q.toInt := by unfold kv at h; omega
    have h2 : (n + (-9223372036854775808)).toInt = (m + (-9223372036854775808)).toInt := by unfold kv at h; omega
    exact ⟨Int32.toInt_inj.mp h1, (Int64.add_left_inj _).mp (Int64.toInt_inj.mp h2)⟩
  · rintro ⟨rfl, rfl⟩
    rfl
def eI (c : Nat) (k : Nat → Int) : Prop := ∀ i j, i < c → j < c → k i = k j → i = j
def eS (c : Nat) (k : Nat → Int) : Prop := ∀ i j, i < j → j < c → k i < k j
def eF (c : Nat) (k : Nat → Int) (F : Int → Int64) : Prop := (∀ i, i < c → ¬ F (k i) = 0) ∧ ∀ x, ¬ F x = 0 → ∃ i, i < c ∧ k i = x
/-- at most 64 KINDS -/
def eC (F : Int → Int64) : Prop := ∃ (c : Nat) (k : Nat → Int), c ≤ 64 ∧ ∀ x, ¬ F x = 0 → ∃ i, i < c ∧ k i = x
theorem eS_I {c : Nat} {k : Nat → Int} (h : eS c k) : eI c k := by
  intro i j hi hj e
  rcases Nat.lt_trichotomy i j with q | q | q
  · exact absurd (h i j q hj) (by omega)
  · exact q
  · exact absurd (h j i q hi) (by omega)
theorem eS_lt {c : Nat} {k : Nat → Int} (h : eS c k) {i j : Nat} (hi : i < c) (hj : j < c) (e : k i < k j) : i < j := by
  rcases Nat.lt_trichotomy i j with q | q | q
  · exact q
  · subst q
    omega
  · have := h j i q hi
    omega
theorem pig (d : Nat) : ∀ (c : Nat) (f g : Nat → Int), eI c f → (∀ i, i < c → ∃ j, j < d ∧ f i = g j) → c ≤ d := by
  induction d with
  | zero =>
    intro c f g _ h
    cases c with
    | zero => exact Nat.le_refl _
    | succ c =>
      obtain ⟨j, hj, -⟩ := h 0 (by omega)
      omega
  | succ d ih =>
    intro c f g hi h
    by_cases hx : ∃ a, a < c ∧ f a = g d
    · obtain ⟨a, ha, ea⟩ := hx
      obtain ⟨c', rfl⟩ : ∃ c', c = c' + 1 := ⟨c - 1, by omega⟩
      have key : c' ≤ d := by
        refine ih c' (fun i => if i = a then f c' else f i) g ?_ ?_
        · intro i j h1 h2 e
          have e : (if i = a then f c' else f i) = (if j = a then f c' else f j) := e
          by_cases p : i = a <;> by_cases q : j = a
          · omega
          · rw [if_pos p, if_neg q] at e
            have := hi c' j (by omega) (by omega) e
            omega
          · rw [if_neg p, if_pos q] at e
            have := hi i c' (by omega) (by omega) e
            omega
          · rw [if_neg p, if_neg q] at e
            exact hi i j (by omega) (by omega) e
        · intro i h1
          show ∃ j, j < d ∧ (if i = a then f c' else f i) = g j
          by_cases p : i = a
          · rw [if_pos p]
            obtain ⟨j, hj, ej⟩ := h c' (by omega)
            by_cases q : j = d
            · subst q
              have := hi c' a (by omega) ha (ej.trans ea.symm)
              omega
            · exact ⟨j, by omega, ej⟩
          · rw [if_neg p]
            obtain ⟨j, hj, ej⟩ := h i (by omega)
            by_cases q : j = d
            · subst q
              exact absurd (hi i a (by omega) ha (ej.trans ea.symm)) p
            · exact ⟨j, by omega, ej⟩
      omega
    · have := ih c f g hi (fun i h1 => by
        obtain ⟨j, hj, ej⟩ := h i h1
        by_cases q : j = d
        · subst q
          exact absurd ⟨i, h1, ej⟩ hx
        · exact ⟨j, by omega, ej⟩)
      omega
theorem card_le {c d : Nat} {k k' : Nat → Int} {F : Int → Int64} (h1 : eI c k) (h2 : ∀ i, i < c → ¬ F (k i) = 0) (h3 : ∀ x, ¬ F x = 0 → ∃ i, i < d ∧ k' i = x) : c ≤ d :=
  pig d c k k' h1 (fun i hi => by
    obtain ⟨j, hj, e⟩ := h3 (k i) (h2 i hi)
    exact ⟨j, hj, e.symm⟩)
theorem card_eq {c d : Nat} {k k' : Nat → Int} {F : Int → Int64} (h1 : eI c k) (h2 : eF c k F) (h3 : eI d k') (h4 : eF d k' F) : c = d := by
  have a := card_le h1 h2.1 h4.2
  have b := card_le h3 h4.1 h2.2
  omega
theorem eC_not {c : Nat} {k : Nat → Int} {F : Int → Int64} (h1 : eI c k) (h2 : ∀ i, i < c → ¬ F (k i) = 0) (hc : 64 < c) : ¬ eC F := by
  rintro ⟨d, k', hd, h3⟩
  have := card_le h1 h2 h3
  omega
theorem eC_of {c : Nat} {k : Nat → Int} {F : Int → Int64} (h : ∀ x, ¬ F x = 0 → ∃ i, i < c ∧ k i = x) (hc : c ≤ 64) : eC F := ⟨c, k, hc, h⟩
/-- two sorted enumerations of one BAG are one -/
theorem sort_eq {c : Nat} {k k' : Nat → Int} {F : Int → Int64} (h1 : eS c k) (h2 : eF c k F) (h3 : eS c k') (h4 : eF c k' F) : ∀ n i, i < n → i < c → k i = k' i := by
  intro n
  induction n with
  | zero => intro i h; omega
  | succ n ih =>
    intro i hn hi
    obtain ⟨a, ha, ea⟩ := h2.2 (k' i) (h4.1 i hi)
    obtain ⟨b, hb, eb⟩ := h4.2 (k i) (h2.1 i hi)
    have q1 : ¬ a < i := fun q => by
      have e1 := ih a (by omega) ha
      have := eS_I h3 a i ha hi (e1.symm.trans ea)
      omega
    have q2 : ¬ b < i := fun q => by
      have e1 := ih b (by omega) hb
      have := eS_I h1 b i hb hi (e1.trans eb)
      omega
    have r1 : k i ≤ k a := by
      by_cases z : i = a
      · subst z; omega
      · have := h1 i a (by omega) ha
        omega
    have r2 : k' i ≤ k' b := by
      by_cases z : i = b
      · subst z; omega
      · have := h3 i b (by omega) hb
        omega
    omega
/-- how many lie below x -/
def cLt (m : Nat → Int) (x : Int) : Nat → Nat
  | 0 => 0
  | c + 1 => cLt m x c + (if m c < x then 1 else 0)
theorem cLt_enum (m : Nat → Int) (x : Int) : ∀ c, eI c m → ∃ e : Nat → Int, eI (cLt m x c) e ∧ (∀ t, t < cLt m x c → ∃ j, j < c ∧ e t = m j ∧ m j < x) ∧ (∀ j, j < c → m j < x → ∃ t, t < cLt m x c ∧ e t = m j) := by
  intro c
  induction c with
  | zero =>
    intro _
    exact ⟨m, fun i j h => absurd h (Nat.not_lt_zero _), fun t h => absurd h (Nat.not_lt_zero _), fun j h => absurd h (Nat.not_lt_zero _)⟩
  | succ c ih =>
    intro h
    obtain ⟨e, h1, h2, h3⟩ := ih (fun i j a b => h i j (by omega) (by omega))
    by_cases q : m c < x
    · have ec : cLt m x (c + 1) = cLt m x c + 1 := by simp [cLt, q]
      rw [ec]
      refine ⟨fun t => if t = cLt m x c then m c else e t, ?_, ?_, ?_⟩
      · intro i j hi hj e1
        have e1 : (if i = cLt m x c then m c else e i) = (if j = cLt m x c then m c else e j) := e1
        by_cases u : i = cLt m x c <;> by_cases v : j = cLt m x c
        · omega
        · rw [if_pos u, if_neg v] at e1
          obtain ⟨a, ha, ea, -⟩ := h2 j (by omega)
          have := h c a (by omega) (by omega) (e1.trans ea)
          omega
        · rw [if_neg u, if_pos v] at e1
          obtain ⟨a, ha, ea, -⟩ := h2 i (by omega)
          have := h c a (by omega) (by omega) (e1.symm.trans ea)
          omega
        · rw [if_neg u, if_neg v] at e1
          exact h1 i j (by omega) (by omega) e1
      · intro t ht
        show ∃ j, j < c + 1 ∧ (if t = cLt m x c then m c else e t) = m j ∧ m j < x
        by_cases u : t = cLt m x c
        · rw [if_pos u]
          exact ⟨c, by omega, rfl, q⟩
        · rw [if_neg u]
          obtain ⟨j, hj, ej, hx⟩ := h2 t (by omega)
          exact ⟨j, by omega, ej, hx⟩
      · intro j hj hx
        show ∃ t, t < cLt m x c + 1 ∧ (if t = cLt m x c then m c else e t) = m j
        by_cases u : j = c
        · subst u
          exact ⟨cLt m x j, by omega, if_pos rfl⟩
        · obtain ⟨t, ht, et⟩ := h3 j (by omega) hx
          exact ⟨t, by omega, by rw [if_neg (by omega)]; exact et⟩
    · have ec : cLt m x (c + 1) = cLt m x c := by simp [cLt, q]
      rw [ec]
      refine ⟨e, h1, fun t ht => ?_, fun j hj hx => ?_⟩
      · obtain ⟨j, hj, ej, hx⟩ := h2 t ht
        exact ⟨j, by omega, ej, hx⟩
      · by_cases u : j = c
        · subst u
          exact absurd hx q
        · exact h3 j (by omega) hx
theorem cLt_le (m : Nat → Int) (x : Int) (c : Nat) : cLt m x c ≤ c := by
  induction c with
  | zero => exact Nat.le_refl _
  | succ c ih =>
    have : cLt m x (c + 1) = cLt m x c + (if m c < x then 1 else 0) := rfl
    rw [this]
    split <;> omega
/-- the i-th KIND has i KINDS ahead -/
theorem rank_eq {c : Nat} {m k : Nat → Int} {F : Int → Int64} (hm : eI c m) (hmF : eF c m F) (hk : eS c k) (hkF : eF c k F) {i : Nat} (hi : i < c) : cLt m (k i) c = i := by
  obtain ⟨e, h1, h2, h3⟩ := cLt_enum m (k i) c hm
  have a : cLt m (k i) c ≤ i := by
    refine pig i _ e k h1 (fun t ht => ?_)
    obtain ⟨j, hj, ej, hx⟩ := h2 t ht
    obtain ⟨b, hb, eb⟩ := hkF.2 (m j) (hmF.1 j hj)
    exact ⟨b, eS_lt hk hb hi (by omega), by omega⟩
  have b : i ≤ cLt m (k i) c := by
    refine pig _ i k e (fun x y hx hy => eS_I hk x y (by omega) (by omega)) (fun t ht => ?_)
    obtain ⟨j, hj, ej⟩ := hmF.2 (k t) (hkF.1 t (by omega))
    obtain ⟨u, hu, eu⟩ := h3 j hj (by rw [ej]; exact hk t i ht hi)
    exact ⟨u, hu, by omega⟩
  omega
theorem rank_at {c : Nat} {m k : Nat → Int} {F : Int → Int64} (hm : eI c m) (hmF : eF c m F) (hk : eS c k) (hkF : eF c k F) {i j : Nat} (hi : i < c) (hj : j < c) (h : cLt m (m j) c = i) : m j = k i := by
  obtain ⟨a, ha, ea⟩ := hkF.2 (m j) (hmF.1 j hj)
  have := rank_eq hm hmF hk hkF ha
  rw [ea, h] at this
  subst this
  exact ea.symm
/-! what look counts, over a sorted enumeration -/
def cP (p : Nat → Int32) : Nat → Nat
  | 0 => 0
  | i + 1 => cP p i + (if i = 0 ∨ ¬ p i = p (i - 1) then 1 else 0)
def cN (a : Nat → Int64) : Nat → Nat
  | 0 => 0
  | i + 1 => cN a i + (if a i < 0 then 1 else 0)
/-- the place of the first greatest, plus one; 0: there is none -/
def cGr (a : Nat → Int64) : Nat → Nat
  | 0 => 0
  | i + 1 => if cGr a i = 0 ∨ a (cGr a i - 1) < a i then i + 1 else cGr a i
theorem cP_le (p : Nat → Int32) (c : Nat) : cP p c ≤ c := by
  induction c with
  | zero => exact Nat.le_refl _
  | succ c ih =>
    have : cP p (c + 1) = cP p c + (if c = 0 ∨ ¬ p c = p (c - 1) then 1 else 0) := rfl
    rw [this]
    split <;> omega
theorem cN_le (a : Nat → Int64) (c : Nat) : cN a c ≤ c := by
  induction c with
  | zero => exact Nat.le_refl _
  | succ c ih =>
    have : cN a (c + 1) = cN a c + (if a c < 0 then 1 else 0) := rfl
    rw [this]
    split <;> omega
theorem cGr_le (a : Nat → Int64) (c : Nat) : cGr a c ≤ c := by
  induction c with
  | zero => exact Nat.le_refl _
  | succ c ih =>
    have : cGr a (c + 1) = if cGr a c = 0 ∨ a (cGr a c - 1) < a c then c + 1 else cGr a c := rfl
    rw [this]
    split <;> omega
/-! sums, differences, least, products: when they fit -/
def fH (how : Nat) (x y : Int64) : Prop := (how = 0 → -9223372036854775808 ≤ x.toInt + y.toInt ∧ x.toInt + y.toInt < 9223372036854775808) ∧ (how = 1 → -9223372036854775808 ≤ x.toInt - y.toInt ∧ x.toInt - y.toInt < 9223372036854775808)
def cH (how : Nat) (x y : Int64) : Int64 := if how = 0 then x + y else if how = 1 then x - y else if y < x then y else x
def fM (x n : Int64) : Prop := -9223372036854775808 ≤ x.toInt * n.toInt ∧ x.toInt * n.toInt < 9223372036854775808
theorem cH_00 (how : Nat) : cH how 0 0 = 0 := by
  unfold cH
  split
  · rfl
  · split
    · rfl
    · split <;> rfl
theorem fH_00 (how : Nat) : fH how 0 0 := by
  unfold fH
  simp
theorem fH_2 (how : Nat) (h0 : ¬ how = 0) (h1 : ¬ how = 1) (x y : Int64) : fH how x y := ⟨fun h => absurd h h0, fun h => absurd h h1⟩
/-! numbers: when a sum, a difference, a product is a long; how often one AMOUNT goes into another -/
theorem z_max : (9223372036854775807 : Int64).toInt = 9223372036854775807 := by decide +kernel
theorem z_min : (-9223372036854775808 : Int64).toInt = -9223372036854775808 := by decide +kernel
theorem z_0 : (0 : Int64).toInt = 0 := by decide +kernel
theorem z_1 : (1 : Int64).toInt = 1 := by decide +kernel
theorem z_m1 : (-1 : Int64).toInt = -1 := by decide +kernel
theorem z_ne {x y : Int64} (h : ¬ x = y) : x.toInt ≠ y.toInt := fun e => h (Int64.toInt_inj.mp e)
theorem sum_ge {x y : Int64} (hy : 0 ≤ y) : x ≤ 9223372036854775807 - y ↔ fH 0 x y := by
  have a := x.toInt_lt
  have b := x.le_toInt
  have a' := y.toInt_lt
  have hy' : 0 ≤ y.toInt := Jvm.Kit.i64_nonneg.mp hy
  have e : (9223372036854775807 - y : Int64).toInt = 9223372036854775807 - y.toInt := by
    rw [Jvm.Kit.i64_sub (by rw [z_max]; omega) (by rw [z_max]; omega), z_max]
  rw [Int64.le_iff_toInt_le, e]
  unfold fH
  constructor
  · intro h
    exact ⟨fun _ => by omega, fun h => absurd h (by decide)⟩
  · intro h
    have := h.1 rfl
    omega
theorem sum_lt {x y : Int64} (hy : ¬ 0 < y) : -9223372036854775808 - y ≤ x ↔ fH 0 x y := by
  have a := x.toInt_lt
  have b := x.le_toInt
  have a' := y.le_toInt
  have hy' : ¬ 0 < y.toInt := fun h => hy (Int64.lt_iff_toInt_lt.mpr (by rw [z_0]; exact h))
  have e : (-9223372036854775808 - y : Int64).toInt = -9223372036854775808 - y.toInt := by
    rw [Jvm.Kit.i64_sub (by rw [z_min]; omega) (by rw [z_min]; omega), z_min]
  rw [Int64.le_iff_toInt_le, e]
  unfold fH
  constructor
  · intro h
    exact ⟨fun _ => by omega, fun h => absurd h (by decide)⟩
  · intro h
    have := h.1 rfl
    omega
theorem dif_ge {x y : Int64} (hy : 0 ≤ y) : -9223372036854775808 + y ≤ x ↔ fH 1 x y := by
  have a := x.toInt_lt
  have b := x.le_toInt
  have a' := y.toInt_lt
  have hy' : 0 ≤ y.toInt := Jvm.Kit.i64_nonneg.mp hy
  have e : (-9223372036854775808 + y : Int64).toInt = -9223372036854775808 + y.toInt := by
    rw [Jvm.Kit.i64_add (by rw [z_min]; omega) (by rw [z_min]; omega), z_min]
  rw [Int64.le_iff_toInt_le, e]
  unfold fH
  constructor
  · intro h
    exact ⟨fun h => absurd h (by decide), fun _ => by omega⟩
  · intro h
    have := h.2 rfl
    omega
theorem dif_lt {x y : Int64} (hy : ¬ 0 ≤ y) : x ≤ 9223372036854775807 + y ↔ fH 1 x y := by
  have a := x.toInt_lt
  have b := x.le_toInt
  have a' := y.le_toInt
  have hy' : ¬ 0 ≤ y.toInt := fun h => hy (Jvm.Kit.i64_nonneg.mpr h)
  have e : (9223372036854775807 + y : Int64).toInt = 9223372036854775807 + y.toInt := by
    rw [Jvm.Kit.i64_add (by rw [z_max]; omega) (by rw [z_max]; omega), z_max]
  rw [Int64.le_iff_toInt_le, e]
  unfold fH
  constructor
  · intro h
    exact ⟨fun h => absurd h (by decide), fun _ => by omega⟩
  · intro h
    have := h.2 rfl
    omega
theorem mul_fits {x n : Int64} (h0 : ¬ n = 0) (h1 : ¬ n = -1) : x * n / n = x ↔ fM x n := by
  have hN0 : n.toInt ≠ 0 := by have := z_ne h0; rw [z_0] at this; exact this
  have hN1 : n.toInt ≠ -1 := by have := z_ne h1; rw [z_m1] at this; exact this
  have ed : (x * n / n).toInt = (x * n).toInt.tdiv n.toInt := Jvm.Kit.i64_div (fun h => hN1 h.2)
  have em : (x * n).toInt = (x.toInt * n.toInt).bmod (2 ^ 64) := Int64.toInt_mul x n
  have bn := n.toInt_lt
  have bn' := n.le_toInt
  have bw := (x * n).toInt_lt
  have bw' := (x * n).le_toInt
  rw [← Int64.toInt_inj, ed]
  unfold fM
  constructor
  · intro h
    have h2 := Int.tdiv_mul_add_tmod (x * n).toInt n.toInt
    rw [h] at h2
    have h3 : ((x * n).toInt.tmod n.toInt).natAbs < n.toInt.natAbs := by
      rw [Int.natAbs_tmod]
      exact Nat.mod_lt _ (by omega)
    generalize (x * n).toInt.tmod n.toInt = r at h2 h3
    rw [Int.bmod_def] at em
    generalize x.toInt * n.toInt = P at em h2 ⊢
    omega
  · intro h
    rw [em, Jvm.Kit.bmod64 (by omega) (by omega), Int.mul_tdiv_cancel _ hN0]
theorem fM_comm {x n : Int64} : fM x n ↔ fM n x := by
  unfold fM
  rw [Int.mul_comm]
theorem fM_0 (x : Int64) : fM x 0 := by
  unfold fM
  rw [z_0]
  omega
theorem fM_0l (x : Int64) : fM 0 x := fM_comm.mp (fM_0 x)
theorem fM_m1 {x : Int64} : fM x (-1) ↔ ¬ x = -9223372036854775808 := by
  have a := x.toInt_lt
  have b := x.le_toInt
  rw [← Int64.toInt_inj, z_min]
  unfold fM
  rw [z_m1]
  omega
theorem fM_1 (x : Int64) : fM x 1 := by
  have a := x.toInt_lt
  have b := x.le_toInt
  unfold fM
  rw [z_1]
  omega
theorem mul_fits2 {a b : Int64} (h0 : ¬ a = 0) (h1 : ¬ (a = -9223372036854775808 ∧ b = -1)) (h2 : ¬ (b = -9223372036854775808 ∧ a = -1)) : a * b / a = b ↔ fM a b := by
  by_cases h : a = -1
  · subst h
    have hb : ¬ b = -9223372036854775808 := fun e => h2 ⟨e, rfl⟩
    have f : fM (-1) b := fM_comm.mp (fM_m1.mpr hb)
    have x1 := b.toInt_lt
    have x2 := b.le_toInt
    have hb' : b.toInt ≠ -9223372036854775808 := by have := z_ne hb; rw [z_min] at this; exact this
    have e1 : (-1 * b : Int64).toInt = -b.toInt := by
      rw [Jvm.Kit.i64_mul (by rw [z_m1]; omega) (by rw [z_m1]; omega), z_m1]
      omega
    refine ⟨fun _ => f, fun _ => Int64.toInt_inj.mp ?_⟩
    rw [Jvm.Kit.i64_div (by rw [e1]; omega), e1, z_m1, Int.tdiv_neg, Int.tdiv_one]
    omega
  · rw [Int64.mul_comm, mul_fits h0 h, fM_comm]
theorem fM_bad1 {a b : Int64} (h : (a = -9223372036854775808 ∧ b = -1) ∨ (b = -9223372036854775808 ∧ a = -1)) : ¬ fM a b := by
  rcases h with ⟨rfl, rfl⟩ | ⟨rfl, rfl⟩ <;> (unfold fM; rw [z_m1, z_min]; omega)
/-! promise 15: x the AMOUNT in a, y the AMOUNT in b -/
/-- no n fits this KIND -/
def iB (x y : Int64) : Prop := (x < 0 ∧ 0 ≤ y) ∨ (x = -9223372036854775808 ∧ y = -1)
/-- the least n that fits this KIND where y is below 0 -/
def iN (x y : Int64) : Int := if x < 0 ∧ y < 0 then x.toInt.tdiv y.toInt + (if x.toInt.tmod y.toInt = 0 then 0 else 1) else 0
/-- the greatest n that fits this KIND where y is above 0 -/
def iQ (x y : Int64) : Int := x.toInt.tdiv y.toInt
def iR (Fa Fb : Int → Int64) (r : Int64) : Prop :=
  (r = -1 ∧ ((∃ k, iB (Fa k) (Fb k)) ∨ (∀ k, ¬ 0 < Fb k) ∨ ∃ k k', 0 < Fb k ∧ iQ (Fa k) (Fb k) < iN (Fa k') (Fb k'))) ∨
  ((∀ k, ¬ iB (Fa k) (Fb k)) ∧ (∃ k, 0 < Fb k ∧ r.toInt = iQ (Fa k) (Fb k)) ∧ (∀ k, 0 < Fb k → r.toInt ≤ iQ (Fa k) (Fb k)) ∧ ∀ k, iN (Fa k) (Fb k) ≤ r.toInt)
theorem iR_eq {Fa Fb : Int → Int64} {r r' : Int64} (h : iR Fa Fb r) (h' : iR Fa Fb r') : r = r' := by
  have key : ∀ {r r' : Int64}, (r = -1 ∧ ((∃ k, iB (Fa k) (Fb k)) ∨ (∀ k, ¬ 0 < Fb k) ∨ ∃ k k', 0 < Fb k ∧ iQ (Fa k) (Fb k) < iN (Fa k') (Fb k'))) →
      ((∀ k, ¬ iB (Fa k) (Fb k)) ∧ (∃ k, 0 < Fb k ∧ r'.toInt = iQ (Fa k) (Fb k)) ∧ (∀ k, 0 < Fb k → r'.toInt ≤ iQ (Fa k) (Fb k)) ∧ ∀ k, iN (Fa k) (Fb k) ≤ r'.toInt) → False := by
    intro r r' h1 h2
    rcases h1.2 with ⟨k, hk⟩ | hk | ⟨k, k', hk, hl⟩
    · exact h2.1 k hk
    · obtain ⟨k, h3, -⟩ := h2.2.1
      exact hk k h3
    · have a := h2.2.2.1 k hk
      have b := h2.2.2.2 k'
      omega
  rcases h with h | h <;> rcases h' with h' | h'
  · rw [h.1, h'.1]
  · exact (key h h').elim
  · exact (key h' h).elim
  · obtain ⟨k, hk, ek⟩ := h.2.1
    obtain ⟨k', hk', ek'⟩ := h'.2.1
    have a := h.2.2.1 k' hk'
    have b := h'.2.2.1 k hk
    exact Int64.toInt_inj.mp (by omega)
/-! division: floorDiv by a number above 0, the least n where both are below 0 -/
theorem z_msb (x : Int64) : x.toBitVec.msb = decide (x.toInt < 0) := BitVec.msb_eq_toInt
theorem z_xor (x y : Int64) : (x ^^^ y).toInt < 0 ↔ ¬ (x.toInt < 0 ↔ y.toInt < 0) := by
  have h := z_msb (x ^^^ y)
  rw [Int64.toBitVec_xor, BitVec.msb_xor, z_msb, z_msb] at h
  by_cases a : x.toInt < 0 <;> by_cases b : y.toInt < 0 <;> by_cases c : (x ^^^ y).toInt < 0 <;> simp_all <;> omega
theorem z_lt0 {x : Int64} : x < 0 ↔ x.toInt < 0 := by rw [Int64.lt_iff_toInt_lt, z_0]
theorem z_0lt {x : Int64} : 0 < x ↔ 0 < x.toInt := by rw [Int64.lt_iff_toInt_lt, z_0]
theorem z_tdiv_neg {X Y : Int} (hX : X < 0) (hY : 0 < Y) : X.tdiv Y ≤ 0 := by
  have e : X.tdiv Y = -((-X).tdiv Y) := by rw [Int.neg_tdiv, Int.neg_neg]
  rw [e, Int.tdiv_eq_ediv_of_nonneg (by omega)]
  have := Int.ediv_nonneg (a := -X) (b := Y) (by omega) (by omega)
  omega
theorem z_tdiv_nn {X Y : Int} (hX : X < 0) (hY : Y < 0) : 0 ≤ X.tdiv Y := by
  rw [← Int.neg_tdiv_neg, Int.tdiv_eq_ediv_of_nonneg (by omega)]
  exact Int.ediv_nonneg (by omega) (by omega)
theorem z_tdiv_pp {X Y : Int} (hX : 0 ≤ X) (hY : 0 ≤ Y) : 0 ≤ X.tdiv Y := by
  rw [Int.tdiv_eq_ediv_of_nonneg hX]
  exact Int.ediv_nonneg hX hY
theorem z_half {X Y : Int} (hY : 2 ≤ Y.natAbs) : (X.tdiv Y).natAbs ≤ X.natAbs / 2 := by
  rw [Int.natAbs_tdiv]
  exact Nat.div_le_div_left hY (by decide)
theorem fd_toInt {x y : Int64} (hy : 0 < y) : (x / y).toInt = x.toInt.tdiv y.toInt := by
  have := z_0lt.mp hy
  exact Jvm.Kit.i64_div (fun h => by omega)
theorem fd_exact {x y : Int64} (hx : x < 0) (hy : 0 < y) (e : x / y * y = x) : x / y < 0 := by
  have h1 := z_lt0.mp hx
  have h2 := z_0lt.mp hy
  have h3 := z_tdiv_neg h1 h2
  rw [← fd_toInt hy] at h3
  by_cases z : x / y = 0
  · rw [z, Int64.zero_mul] at e
    rw [← e] at h1
    rw [z_0] at h1
    omega
  · have := z_ne z
    rw [z_0] at this
    exact z_lt0.mpr (by omega)
theorem fd_down {x y : Int64} (hx : x < 0) (hy : 0 < y) (e : ¬ x / y * y = x) : x / y - 1 < 0 := by
  have h1 := z_lt0.mp hx
  have h2 := z_0lt.mp hy
  have b := x.le_toInt
  have h3 := z_tdiv_neg h1 h2
  have h4 : 2 ≤ y.toInt.natAbs := by
    by_cases z : y.toInt = 1
    · have y1 : y = 1 := Int64.toInt_inj.mp (by rw [z, z_1])
      exfalso
      apply e
      apply Int64.toInt_inj.mp
      rw [y1, Int64.mul_one, fd_toInt (by rw [← y1]; exact hy), z_1, Int.tdiv_one]
    · omega
  have h5 := z_half (X := x.toInt) h4
  rw [← fd_toInt hy] at h3 h5
  apply z_lt0.mpr
  rw [Jvm.Kit.i64_sub (by rw [z_1]; omega) (by rw [z_1]; omega), z_1]
  omega
theorem iN_0 (x y : Int64) : 0 ≤ iN x y := by
  unfold iN
  split
  · rename_i h
    have := z_tdiv_nn (z_lt0.mp h.1) (z_lt0.mp h.2)
    split <;> omega
  · omega
theorem iN_e0 {x y : Int64} (hx : x < 0) (hy : y < 0) (hb : ¬ (x = -9223372036854775808 ∧ y = -1)) (hr : x - x / y * y = 0) : (x / y).toInt = iN x y := by
  have h0 : x.toInt.tmod y.toInt = 0 := by rw [← Jvm.Kit.i64_rem, hr, z_0]
  unfold iN
  rw [if_pos (And.intro hx hy), if_pos h0, Jvm.Kit.i64_div (fun h => hb ⟨Int64.toInt_inj.mp (by have := h.1; rw [z_min]; omega), Int64.toInt_inj.mp (by rw [h.2, z_m1])⟩)]
  omega
theorem iN_e1 {x y : Int64} (hx : x < 0) (hy : y < 0) (hr : ¬ x - x / y * y = 0) : (x / y + 1).toInt = iN x y := by
  have h0 : ¬ x.toInt.tmod y.toInt = 0 := fun z => hr (Int64.toInt_inj.mp (by rw [Jvm.Kit.i64_rem, z, z_0]))
  have h1 := z_lt0.mp hx
  have h2 := z_lt0.mp hy
  have b := x.le_toInt
  have h4 : 2 ≤ y.toInt.natAbs := by
    by_cases z : y.toInt = -1
    · exfalso
      apply h0
      rw [z, Int.tmod_neg, Int.tmod_one]
    · omega
  have h5 := z_half (X := x.toInt) h4
  have h6 := z_tdiv_nn h1 h2
  have e : (x / y).toInt = x.toInt.tdiv y.toInt := Jvm.Kit.i64_div (fun h => by omega)
  unfold iN
  rw [if_pos (And.intro hx hy), if_neg h0, Jvm.Kit.i64_add (by rw [z_1]; omega) (by rw [z_1]; omega), z_1, e]
theorem iN_pos {x y : Int64} (h : ¬ (x < 0 ∧ y < 0)) : iN x y = 0 := by
  unfold iN
  rw [if_neg h]
/-! the compares and tests that the code makes, in its own forms -/
theorem sumHi {x y : Int64} (hy : ¬ y < 0) : (9223372036854775807 - y < x) ↔ ¬ fH 0 x y := Int64.not_le.symm.trans (not_congr (sum_ge (Int64.not_lt.mp hy)))
theorem sumLo {x y : Int64} (hy : ¬ 0 < y) : (x < -9223372036854775808 - y) ↔ ¬ fH 0 x y := Int64.not_le.symm.trans (not_congr (sum_lt hy))
theorem difLo {x y : Int64} (hy : ¬ y < 0) : (x < -9223372036854775808 + y) ↔ ¬ fH 1 x y := Int64.not_le.symm.trans (not_congr (dif_ge (Int64.not_lt.mp hy)))
theorem difHi {x y : Int64} (hy : y < 0) : (9223372036854775807 + y < x) ↔ ¬ fH 1 x y := Int64.not_le.symm.trans (not_congr (dif_lt (Int64.not_le.mpr hy)))
theorem sumHiN {x y : Int64} (hy : ¬ y < 0) : ¬ (9223372036854775807 - y < x) ↔ fH 0 x y := by rw [sumHi hy, Classical.not_not]
theorem sumLoN {x y : Int64} (hy : ¬ 0 < y) : ¬ (x < -9223372036854775808 - y) ↔ fH 0 x y := by rw [sumLo hy, Classical.not_not]
theorem difLoN {x y : Int64} (hy : ¬ y < 0) : ¬ (x < -9223372036854775808 + y) ↔ fH 1 x y := by rw [difLo hy, Classical.not_not]
theorem difHiN {x y : Int64} (hy : y < 0) : ¬ (9223372036854775807 + y < x) ↔ fH 1 x y := by rw [difHi hy, Classical.not_not]
theorem ltN0 {y : Int64} (hy : y < 0) : ¬ 0 < y := lg_lt_not hy
theorem gtN0 {y : Int64} (hy : 0 < y) : ¬ y < 0 := lg_lt_not hy
def c32 (x y : Int32) : Int32 := if x < y then -1 else if x = y then 0 else 1
def c64 (x y : Int64) : Int32 := if x < y then -1 else if x = y then 0 else 1
theorem ord_p {p q : Int32} {n m : Int64} (h : ¬ p = q) : (c32 p q < 0 ↔ kv p n < kv q m) ∧ (c32 p q = 0 ↔ kv p n = kv q m) := by
  rw [kv_lt, kv_inj]
  unfold c32
  by_cases a : p < q
  · rw [if_pos a]
    exact ⟨⟨fun _ => Or.inl a, fun _ => by decide⟩, ⟨fun z => absurd z (by decide), fun z => absurd z.1 h⟩⟩
  · rw [if_neg a, if_neg h]
    exact ⟨⟨fun z => absurd z (by decide), fun z => z.elim (fun z => absurd z a) (fun z => absurd z.1 h)⟩, ⟨fun z => absurd z (by decide), fun z => absurd z.1 h⟩⟩
theorem ord_n {p : Int32} {n m : Int64} : (c64 (n + (-9223372036854775808)) (m + (-9223372036854775808)) < 0 ↔ kv p n < kv p m) ∧ (c64 (n + (-9223372036854775808)) (m + (-9223372036854775808)) = 0 ↔ kv p n = kv p m) := by
  rw [kv_lt, kv_inj]
  unfold c64
  by_cases a : n + (-9223372036854775808) < m + (-9223372036854775808)
  · rw [if_pos a]
    exact ⟨⟨fun _ => Or.inr ⟨rfl, a⟩, fun _ => by decide⟩, ⟨fun z => absurd z (by decide), fun z => by rw [z.2] at a; exact absurd a Int64.lt_irrefl⟩⟩
  · rw [if_neg a]
    by_cases b : n + (-9223372036854775808) = m + (-9223372036854775808)
    · rw [if_pos b]
      exact ⟨⟨fun z => absurd z (by decide), fun z => z.elim (fun z => absurd z Int32.lt_irrefl) (fun z => absurd z.2 a)⟩, ⟨fun _ => ⟨rfl, (Int64.add_left_inj _).mp b⟩, fun _ => rfl⟩⟩
    · rw [if_neg b]
      exact ⟨⟨fun z => absurd z (by decide), fun z => z.elim (fun z => absurd z Int32.lt_irrefl) (fun z => absurd z.2 a)⟩, ⟨fun z => absurd z (by decide), fun z => absurd (by rw [z.2]) b⟩⟩
/-- the POLICY of a KIND -/
def pO (x : Int) : Int := (x + 9223372036854775808) / 18446744073709551616
theorem pO_kv (p : Int32) (n : Int64) : pO (kv p n) = p.toInt := by
  have a := (n + (-9223372036854775808)).toInt_lt
  have b := (n + (-9223372036854775808)).le_toInt
  unfold pO kv
  omega
theorem pO_iff {p q : Int32} {n : Int64} : p = q ↔ pO (kv p n) = q.toInt := by
  rw [pO_kv, Int32.toInt_inj]
