/-! what the rows of numbers stand for: the class's (sorted), the reference's (each KIND once) -/
def kk (p : Nat → Int32) (n : Nat → Int64) (i : Nat) : Int := kv (p i) (n i)
def cRep (c : Nat) (p : Nat → Int32) (n a : Nat → Int64) (F : Int → Int64) : Prop := c ≤ 64 ∧ eS c (kk p n) ∧ eF c (kk p n) F ∧ ∀ i, i < c → a i = F (kk p n i)
def mRep (c : Nat) (p : Nat → Int32) (n a : Nat → Int64) (F : Int → Int64) : Prop := eI c (kk p n) ∧ eF c (kk p n) F ∧ ∀ i, i < c → a i = F (kk p n i)
def fUp (F : Int → Int64) (x : Int) (v : Int64) : Int → Int64 := fun y => if y = x then v else F y
theorem fUp_s {F : Int → Int64} {x : Int} {v : Int64} : fUp F x v x = v := if_pos rfl
theorem fUp_n {F : Int → Int64} {x y : Int} {v : Int64} (h : ¬ y = x) : fUp F x v y = F y := if_neg h
theorem fUp_id {F : Int → Int64} {x : Int} : fUp F x (F x) = F := by
  funext y
  by_cases h : y = x
  · rw [h, fUp_s]
  · rw [fUp_n h]
/-- of G what lies in S -/
noncomputable def gS (G : Int → Int64) (S : Int → Prop) : Int → Int64 := fun x => @ite _ (S x) (Classical.propDecidable _) (G x) 0
theorem gS_y {G : Int → Int64} {S : Int → Prop} {x : Int} (h : S x) : gS G S x = G x := by
  unfold gS
  exact if_pos h
theorem gS_no {G : Int → Int64} {S : Int → Prop} {x : Int} (h : ¬ S x) : gS G S x = 0 := by
  unfold gS
  exact if_neg h
theorem gS_add {G : Int → Int64} {S : Int → Prop} {x : Int} : gS G (fun y => S y ∨ y = x) = fUp (gS G S) x (G x) := by
  funext y
  by_cases h : y = x
  · rw [h, fUp_s, gS_y (Or.inr rfl)]
  · rw [fUp_n h]
    by_cases q : S y
    · rw [gS_y (Or.inl q), gS_y q]
    · rw [gS_no (fun z => z.elim q h), gS_no q]
theorem gS_skip {G : Int → Int64} {S : Int → Prop} {x : Int} (h0 : G x = 0) : gS G (fun y => S y ∨ y = x) = gS G S := by
  funext y
  by_cases q : S y
  · rw [gS_y (Or.inl q), gS_y q]
  · rw [gS_no q]
    by_cases h : y = x
    · rw [gS_y (Or.inr h), h, h0]
    · rw [gS_no (fun z => z.elim q h)]
theorem gS_congr {G : Int → Int64} {S S' : Int → Prop} (h : ∀ y, S y ↔ S' y) : gS G S = gS G S' := by
  rw [show S = S' from funext fun y => propext (h y)]
theorem gS_all {G : Int → Int64} {S : Int → Prop} (h : ∀ x, ¬ G x = 0 → S x) : gS G S = G := by
  funext x
  by_cases q : S x
  · exact gS_y q
  · rw [gS_no q]
    by_cases z : G x = 0
    · exact z.symm
    · exact absurd (h x z) q
theorem gS_none {G : Int → Int64} {S : Int → Prop} (h : ∀ x, ¬ S x) : gS G S = fun _ => 0 := by
  funext x
  exact gS_no (h x)
/-- the first i of k -/
def sU (k : Nat → Int) (i : Nat) : Int → Prop := fun x => ∃ j, j < i ∧ k j = x
theorem sU_s {k : Nat → Int} {i : Nat} (y : Int) : sU k (i + 1) y ↔ (sU k i y ∨ y = k i) := by
  constructor
  · rintro ⟨j, hj, e⟩
    by_cases h : j = i
    · subst h
      exact Or.inr e.symm
    · exact Or.inl ⟨j, by omega, e⟩
  · rintro (⟨j, hj, e⟩ | h)
    · exact ⟨j, by omega, e⟩
    · exact ⟨i, by omega, h.symm⟩
theorem sU_0 {k : Nat → Int} (x : Int) : ¬ sU k 0 x := fun ⟨j, hj, _⟩ => absurd hj (Nat.not_lt_zero _)
theorem gS_step {G : Int → Int64} {k : Nat → Int} {i : Nat} : gS G (sU k (i + 1)) = fUp (gS G (sU k i)) (k i) (G (k i)) := (gS_congr sU_s).trans gS_add
theorem gS_step0 {G : Int → Int64} {k : Nat → Int} {i : Nat} (h : G (k i) = 0) : gS G (sU k (i + 1)) = gS G (sU k i) := (gS_congr sU_s).trans (gS_skip h)
theorem cRep_0 (p : Nat → Int32) (n a : Nat → Int64) : cRep 0 p n a (fun _ => 0) :=
  ⟨by omega, fun i j _ h => absurd h (Nat.not_lt_zero _), ⟨fun i h => absurd h (Nat.not_lt_zero _), fun x h => absurd rfl h⟩, fun i h => absurd h (Nat.not_lt_zero _)⟩
theorem mRep_0 (p : Nat → Int32) (n a : Nat → Int64) : mRep 0 p n a (fun _ => 0) :=
  ⟨fun i j h => absurd h (Nat.not_lt_zero _), ⟨fun i h => absurd h (Nat.not_lt_zero _), fun x h => absurd rfl h⟩, fun i h => absurd h (Nat.not_lt_zero _)⟩
theorem cRep_M {c : Nat} {p : Nat → Int32} {n a : Nat → Int64} {F : Int → Int64} (h : cRep c p n a F) : mRep c p n a F := ⟨eS_I h.2.1, h.2.2⟩
theorem cRep_C {c : Nat} {p : Nat → Int32} {n a : Nat → Int64} {F : Int → Int64} (h : cRep c p n a F) : eC F := eC_of h.2.2.1.2 h.1
/-- keys that agree as far as they count -/
theorem eS_cg {c : Nat} {k k' : Nat → Int} (h : eS c k) (e : ∀ i, i < c → k' i = k i) : eS c k' := fun i j hi hj => by rw [e i (by omega), e j hj]; exact h i j hi hj
/-- one behind all -/
theorem eF_app {c : Nat} {k k' : Nat → Int} {F : Int → Int64} {x : Int} {v : Int64} (h : eF c k F) (hx : ∀ i, i < c → ¬ k i = x) (hv : ¬ v = 0) (e : ∀ i, i < c → k' i = k i) (ex : k' c = x) : eF (c + 1) k' (fUp F x v) := by
  refine ⟨fun i hi => ?_, fun y hy => ?_⟩
  · by_cases q : i = c
    · rw [q, ex, fUp_s]
      exact hv
    · rw [e i (by omega), fUp_n (hx i (by omega))]
      exact h.1 i (by omega)
  · by_cases q : y = x
    · exact ⟨c, by omega, by rw [ex, q]⟩
    · rw [fUp_n q] at hy
      obtain ⟨i, hi, ei⟩ := h.2 y hy
      exact ⟨i, by omega, by rw [e i hi]; exact ei⟩
theorem kk_app_n {p : Nat → Int32} {n : Nat → Int64} {c i : Nat} {q : Int32} {m : Int64} (h : i < c) : kk (upd p c q) (vp_updL n c m) i = kk p n i := by
  unfold kk
  rw [pk_un (by omega), pk_uLn (by omega)]
theorem kk_app_s {p : Nat → Int32} {n : Nat → Int64} {c : Nat} {q : Int32} {m : Int64} : kk (upd p c q) (vp_updL n c m) c = kv q m := by
  unfold kk
  rw [pk_us, pk_uLs]
theorem am_app {p p' : Nat → Int32} {n n' a : Nat → Int64} {F : Int → Int64} {c : Nat} {x : Int} {v : Int64} (h : ∀ i, i < c → a i = F (kk p n i)) (hx : ∀ i, i < c → ¬ kk p n i = x) (e : ∀ i, i < c → kk p' n' i = kk p n i) (ex : kk p' n' c = x) : ∀ i, i < c + 1 → vp_updL a c v i = fUp F x v (kk p' n' i) := by
  intro i hi
  by_cases q : i = c
  · rw [q, pk_uLs, ex, fUp_s]
  · rw [pk_uLn q, e i (by omega), fUp_n (hx i (by omega))]
    exact h i (by omega)
theorem cRep_app {c : Nat} {p : Nat → Int32} {n a : Nat → Int64} {F : Int → Int64} {q : Int32} {m v : Int64} (h : cRep c p n a F) (hc : c < 64) (hl : ∀ i, i < c → kk p n i < kv q m) (hv : ¬ v = 0) : cRep (c + 1) (upd p c q) (vp_updL n c m) (vp_updL a c v) (fUp F (kv q m) v) := by
  obtain ⟨h1, h2, h3, h4⟩ := h
  have hx : ∀ i, i < c → ¬ kk p n i = kv q m := fun i hi e => by
    have := hl i hi
    omega
  refine ⟨by omega, fun i j hi hj => ?_, eF_app h3 hx hv (fun i hi => kk_app_n hi) kk_app_s, am_app h4 hx (fun i hi => kk_app_n hi) kk_app_s⟩
  by_cases z : j = c
  · rw [z, kk_app_s, kk_app_n (by omega)]
    exact hl i (by omega)
  · rw [kk_app_n (by omega), kk_app_n (by omega)]
    exact h2 i j hi (by omega)
theorem mRep_app {c : Nat} {p : Nat → Int32} {n a : Nat → Int64} {F : Int → Int64} {q : Int32} {m v : Int64} (h : mRep c p n a F) (h0 : F (kv q m) = 0) (hv : ¬ v = 0) : mRep (c + 1) (upd p c q) (vp_updL n c m) (vp_updL a c v) (fUp F (kv q m) v) := by
  obtain ⟨h2, h3, h4⟩ := h
  have hx : ∀ i, i < c → ¬ kk p n i = kv q m := fun i hi e => h3.1 i hi (by rw [e]; exact h0)
  refine ⟨fun i j hi hj e => ?_, eF_app h3 hx hv (fun i hi => kk_app_n hi) kk_app_s, am_app h4 hx (fun i hi => kk_app_n hi) kk_app_s⟩
  by_cases z : j = c <;> by_cases y : i = c
  · omega
  · rw [z, kk_app_s, kk_app_n (by omega)] at e
    exact absurd e (hx i (by omega))
  · rw [y, kk_app_s, kk_app_n (by omega)] at e
    exact absurd e.symm (hx j (by omega))
  · rw [kk_app_n (by omega), kk_app_n (by omega)] at e
    exact h2 i j (by omega) (by omega) e
/-- where a KIND is, or would have to be put -/
def cPl (c : Nat) (p : Nat → Int32) (n : Nat → Int64) (x : Int) (i : Nat) : Prop := i ≤ c ∧ (∀ j, j < i → kk p n j < x) ∧ (i < c → x ≤ kk p n i)
theorem look_y {c i : Nat} {p : Nat → Int32} {n a : Nat → Int64} {F : Int → Int64} {x : Int} (h : cRep c p n a F) (hi : i < c) (e : kk p n i = x) : F x = a i := by
  rw [h.2.2.2 i hi, e]
theorem look_n {c i : Nat} {p : Nat → Int32} {n a : Nat → Int64} {F : Int → Int64} {x : Int} (h : cRep c p n a F) (hp : cPl c p n x i) (hno : ¬ (i < c ∧ kk p n i = x)) : F x = 0 := by
  by_cases z : F x = 0
  · exact z
  · obtain ⟨j, hj, ej⟩ := h.2.2.1.2 x z
    have q1 : ¬ j < i := fun q => by
      have := hp.2.1 j q
      omega
    have hi : i < c := by omega
    have q2 := hp.2.2 hi
    have q3 : kk p n i ≤ kk p n j := by
      by_cases w : i = j
      · rw [w]
        omega
      · have := h.2.1 i j (by omega) hj
        omega
    exact absurd ⟨hi, by omega⟩ hno
theorem rep_set {c i : Nat} {p : Nat → Int32} {n a : Nat → Int64} {F : Int → Int64} {x : Int} {v : Int64} (h : cRep c p n a F) (hi : i < c) (e : kk p n i = x) (hv : ¬ v = 0) : cRep c p n (vp_updL a i v) (fUp F x v) := by
  obtain ⟨h1, h2, h3, h4⟩ := h
  refine ⟨h1, h2, ⟨fun j hj => ?_, fun y hy => ?_⟩, fun j hj => ?_⟩
  · by_cases z : kk p n j = x
    · rw [z, fUp_s]
      exact hv
    · rw [fUp_n z]
      exact h3.1 j hj
  · by_cases z : y = x
    · exact ⟨i, hi, by rw [e, z]⟩
    · rw [fUp_n z] at hy
      exact h3.2 y hy
  · by_cases z : j = i
    · rw [z, pk_uLs, e, fUp_s]
    · rw [pk_uLn z, fUp_n (fun q => z (eS_I h2 j i hj hi (q.trans e.symm)))]
      exact h4 j hj
/-- a row with one put in at place i -/
theorem ins_at {α : Type} {f f' : Nat → α} {c i : Nat} {v : α} (hi : i ≤ c) (e : ∀ j, f' j = if j = i then v else va_cpy f f i (i + 1) (c - i) j) : ∀ j, j < c + 1 → f' j = if j < i then f j else if j = i then v else f (j - 1) := by
  intro j hj
  rw [e]
  by_cases h1 : j < i
  · rw [if_pos h1, if_neg (by omega), pk_cpy_out (by omega)]
  · rw [if_neg h1]
    by_cases h2 : j = i
    · rw [if_pos h2, if_pos h2]
    · rw [if_neg h2, if_neg h2, pk_cpy_in (by omega) (by omega)]
      congr 1
      omega
theorem rep_ins {c i : Nat} {p p' : Nat → Int32} {n n' a a' : Nat → Int64} {F : Int → Int64} {x : Int} {q : Int32} {m v : Int64} (h : cRep c p n a F) (hc : c < 64) (hp : cPl c p n x i) (hno : ¬ (i < c ∧ kk p n i = x)) (ex : kv q m = x) (hv : ¬ v = 0)
    (ep : ∀ j, p' j = if j = i then q else va_cpy p p i (i + 1) (c - i) j) (en : ∀ j, n' j = if j = i then m else va_cpy n n i (i + 1) (c - i) j) (ea : ∀ j, a' j = if j = i then v else va_cpy a a i (i + 1) (c - i) j) : cRep (c + 1) p' n' a' (fUp F x v) := by
  obtain ⟨h1, h2, h3, h4⟩ := id h
  obtain ⟨p1, p2, p3⟩ := id hp
  have bp := ins_at p1 ep
  have bn := ins_at p1 en
  have ba := ins_at p1 ea
  have gt : ∀ j, i ≤ j → j < c → x < kk p n j := by
    intro j hj hjc
    have := p3 (by omega)
    by_cases z : i = j
    · subst z
      have : ¬ kk p n i = x := fun z => hno ⟨hjc, z⟩
      omega
    · have := h2 i j (by omega) hjc
      omega
  have key : ∀ j, j < c + 1 → kk p' n' j = if j < i then kk p n j else if j = i then x else kk p n (j - 1) := by
    intro j hj
    unfold kk
    rw [bp j hj, bn j hj]
    by_cases z1 : j < i
    · rw [if_pos z1, if_pos z1, if_pos z1]
    · rw [if_neg z1, if_neg z1, if_neg z1]
      by_cases z2 : j = i
      · rw [if_pos z2, if_pos z2, if_pos z2]
        exact ex
      · rw [if_neg z2, if_neg z2, if_neg z2]
  refine ⟨by omega, fun j1 j2 hj hjc => ?_, ⟨fun j hj => ?_, fun y hy => ?_⟩, fun j hj => ?_⟩
  · rw [key j1 (by omega), key j2 hjc]
    by_cases z1 : j1 < i <;> by_cases z2 : j2 < i
    · rw [if_pos z1, if_pos z2]
      exact h2 j1 j2 hj (by omega)
    · rw [if_pos z1, if_neg z2]
      by_cases z3 : j2 = i
      · rw [if_pos z3]
        exact p2 j1 z1
      · rw [if_neg z3]
        have := p2 j1 z1
        have := gt (j2 - 1) (by omega) (by omega)
        omega
    · omega
    · rw [if_neg z1, if_neg z2, if_neg (show ¬ j2 = i by omega)]
      by_cases z3 : j1 = i
      · rw [if_pos z3]
        exact gt (j2 - 1) (by omega) (by omega)
      · rw [if_neg z3]
        exact h2 (j1 - 1) (j2 - 1) (by omega) (by omega)
  · rw [key j hj]
    by_cases z1 : j < i
    · rw [if_pos z1, fUp_n (by have := p2 j z1; omega)]
      exact h3.1 j (by omega)
    · rw [if_neg z1]
      by_cases z2 : j = i
      · rw [if_pos z2, fUp_s]
        exact hv
      · rw [if_neg z2, fUp_n (by have := gt (j - 1) (by omega) (by omega); omega)]
        exact h3.1 (j - 1) (by omega)
  · by_cases z : y = x
    · exact ⟨i, by omega, by rw [key i (by omega), if_neg (by omega), if_pos rfl, z]⟩
    · rw [fUp_n z] at hy
      obtain ⟨j, hj, ej⟩ := h3.2 y hy
      by_cases z1 : j < i
      · exact ⟨j, by omega, by rw [key j (by omega), if_pos z1]; exact ej⟩
      · exact ⟨j + 1, by omega, by rw [key (j + 1) (by omega), if_neg (by omega), if_neg (by omega), Nat.add_sub_cancel]; exact ej⟩
  · rw [key j hj, ba j hj]
    by_cases z1 : j < i
    · rw [if_pos z1, if_pos z1, fUp_n (by have := p2 j z1; omega)]
      exact h4 j (by omega)
    · rw [if_neg z1, if_neg z1]
      by_cases z2 : j = i
      · rw [if_pos z2, if_pos z2, fUp_s]
      · rw [if_neg z2, if_neg z2, fUp_n (by have := gt (j - 1) (by omega) (by omega); omega)]
        exact h4 (j - 1) (by omega)
theorem del_at {α : Type} {f : Nat → α} {c i : Nat} (hi : i < c) : ∀ j, j < c - 1 → va_cpy f f (i + 1) i (c - i - 1) j = if j < i then f j else f (j + 1) := by
  intro j hj
  by_cases h1 : j < i
  · rw [if_pos h1, pk_cpy_out (by omega)]
  · rw [if_neg h1, pk_cpy_in (by omega) (by omega)]
    congr 1
    omega
theorem rep_del {c i : Nat} {p : Nat → Int32} {n a : Nat → Int64} {F : Int → Int64} {x : Int} (h : cRep c p n a F) (hi : i < c) (e : kk p n i = x) : cRep (c - 1) (va_cpy p p (i + 1) i (c - i - 1)) (va_cpy n n (i + 1) i (c - i - 1)) (va_cpy a a (i + 1) i (c - i - 1)) (fUp F x 0) := by
  obtain ⟨h1, h2, h3, h4⟩ := id h
  have key : ∀ j, j < c - 1 → kk (va_cpy p p (i + 1) i (c - i - 1)) (va_cpy n n (i + 1) i (c - i - 1)) j = if j < i then kk p n j else kk p n (j + 1) := by
    intro j hj
    unfold kk
    rw [del_at hi j hj, del_at hi j hj]
    by_cases z1 : j < i
    · rw [if_pos z1, if_pos z1, if_pos z1]
    · rw [if_neg z1, if_neg z1, if_neg z1]
  have nx : ∀ j, j < c → ¬ j = i → ¬ kk p n j = x := fun j hj z q => z (eS_I h2 j i hj hi (q.trans e.symm))
  refine ⟨by omega, fun j1 j2 hj hjc => ?_, ⟨fun j hj => ?_, fun y hy => ?_⟩, fun j hj => ?_⟩
  · rw [key j1 (by omega), key j2 hjc]
    by_cases z1 : j1 < i <;> by_cases z2 : j2 < i
    · rw [if_pos z1, if_pos z2]
      exact h2 j1 j2 hj (by omega)
    · rw [if_pos z1, if_neg z2]
      exact h2 j1 (j2 + 1) (by omega) (by omega)
    · omega
    · rw [if_neg z1, if_neg z2]
      exact h2 (j1 + 1) (j2 + 1) (by omega) (by omega)
  · rw [key j hj]
    by_cases z1 : j < i
    · rw [if_pos z1, fUp_n (nx j (by omega) (by omega))]
      exact h3.1 j (by omega)
    · rw [if_neg z1, fUp_n (nx (j + 1) (by omega) (by omega))]
      exact h3.1 (j + 1) (by omega)
  · have z : ¬ y = x := fun q => hy (by rw [q, fUp_s])
    rw [fUp_n z] at hy
    obtain ⟨j, hj, ej⟩ := h3.2 y hy
    have ji : ¬ j = i := fun q => z (by rw [← ej, q, e])
    by_cases z1 : j < i
    · exact ⟨j, by omega, by rw [key j (by omega), if_pos z1]; exact ej⟩
    · exact ⟨j - 1, by omega, by rw [key (j - 1) (by omega), if_neg (by omega), show j - 1 + 1 = j by omega]; exact ej⟩
  · rw [key j hj, del_at hi j hj]
    by_cases z1 : j < i
    · rw [if_pos z1, if_pos z1, fUp_n (nx j (by omega) (by omega))]
      exact h4 j (by omega)
    · rw [if_neg z1, if_neg z1, fUp_n (nx (j + 1) (by omega) (by omega))]
      exact h4 (j + 1) (by omega)
/-- a full BAG takes no further KIND -/
theorem full_not {c : Nat} {p : Nat → Int32} {n a : Nat → Int64} {F : Int → Int64} {x : Int} {v : Int64} (h : mRep c p n a F) (hc : 64 ≤ c) (h0 : F x = 0) (hv : ¬ v = 0) : ¬ eC (fUp F x v) := by
  obtain ⟨h2, h3, -⟩ := h
  have hx : ∀ i, i < c → ¬ kk p n i = x := fun i hi e => h3.1 i hi (by rw [e]; exact h0)
  refine eC_not (c := c + 1) (k := fun j => if j = c then x else kk p n j) (fun i j hi hj e => ?_) (fun i hi => ?_) (by omega)
  · have e : (if i = c then x else kk p n i) = (if j = c then x else kk p n j) := e
    by_cases z : i = c <;> by_cases y : j = c
    · omega
    · rw [if_pos z, if_neg y] at e
      exact absurd e.symm (hx j (by omega))
    · rw [if_neg z, if_pos y] at e
      exact absurd e (hx i (by omega))
    · rw [if_neg z, if_neg y] at e
      exact h2 i j (by omega) (by omega) e
  · show ¬ fUp F x v (if i = c then x else kk p n i) = 0
    by_cases z : i = c
    · rw [if_pos z, fUp_s]
      exact hv
    · rw [if_neg z, fUp_n (hx i (by omega))]
      exact h3.1 i (by omega)
theorem eC_sub {G : Int → Int64} {S : Int → Prop} (h : eC G) : eC (gS G S) := by
  obtain ⟨c, k, hc, h1⟩ := h
  refine ⟨c, k, hc, fun x hx => h1 x (fun z => hx ?_)⟩
  by_cases q : S x
  · rw [gS_y q, z]
  · exact gS_no q
/-- what has been laid so far lies ahead of the next KIND -/
theorem gS_lt {c c0 i : Nat} {p : Nat → Int32} {n a : Nat → Int64} {G : Int → Int64} {k : Nat → Int} (h : cRep c p n a (gS G (sU k i))) (hk : eS c0 k) (hi : i < c0) : ∀ t, t < c → kk p n t < k i := by
  intro t ht
  have h1 := h.2.2.1.1 t ht
  by_cases q : sU k i (kk p n t)
  · obtain ⟨j, hj, e⟩ := q
    rw [← e]
    exact hk j i hj hi
  · exact absurd (gS_no q) h1
theorem gS_fresh {c0 i : Nat} {G : Int → Int64} {k : Nat → Int} (hk : eI c0 k) (hi : i < c0) : gS G (sU k i) (k i) = 0 := by
  refine gS_no (fun ⟨j, hj, e⟩ => ?_)
  have := hk j i (by omega) hi e
  omega
/-- laid one more -/
theorem lay_y {c c0 i : Nat} {p : Nat → Int32} {n a : Nat → Int64} {G : Int → Int64} {k : Nat → Int} {q : Int32} {m : Int64} (h : cRep c p n a (gS G (sU k i))) (hk : eS c0 k) (hi : i < c0) (e : k i = kv q m) (hc : c < 64) (hv : ¬ G (k i) = 0) : cRep (c + 1) (upd p c q) (vp_updL n c m) (vp_updL a c (G (k i))) (gS G (sU k (i + 1))) := by
  rw [gS_step, e]
  rw [e] at hv
  exact cRep_app h hc (fun t ht => by rw [← e]; exact gS_lt h hk hi t ht) hv
theorem lay_n {c i : Nat} {p : Nat → Int32} {n a : Nat → Int64} {G : Int → Int64} {k : Nat → Int} (h : cRep c p n a (gS G (sU k i))) (hv : G (k i) = 0) : cRep c p n a (gS G (sU k (i + 1))) := by
  rw [gS_step0 hv]
  exact h
theorem lay_full {c c0 i : Nat} {p : Nat → Int32} {n a : Nat → Int64} {G : Int → Int64} {k : Nat → Int} (h : cRep c p n a (gS G (sU k i))) (hk : eS c0 k) (hi : i < c0) (hc : 64 ≤ c) (hv : ¬ G (k i) = 0) : ¬ eC G := fun z =>
  full_not (cRep_M h) hc (gS_fresh (eS_I hk) hi) hv (gS_step ▸ eC_sub (S := sU k (i + 1)) z)
theorem lay_0 {G : Int → Int64} {k : Nat → Int} (p : Nat → Int32) (n a : Nat → Int64) : cRep 0 p n a (gS G (sU k 0)) := by
  rw [gS_none sU_0]
  exact cRep_0 p n a
theorem lay_end {c c0 : Nat} {p : Nat → Int32} {n a : Nat → Int64} {G : Int → Int64} {k : Nat → Int} (h : cRep c p n a (gS G (sU k c0))) (hG : ∀ x, ¬ G x = 0 → ∃ j, j < c0 ∧ k j = x) : cRep c p n a G := by
  rw [gS_all (S := sU k c0) hG] at h
  exact h
/-! two sorted rows laid side by side -/
def pRep (c : Nat) (p : Nat → Int32) (n L R : Nat → Int64) (Fa Fb : Int → Int64) : Prop := eS c (kk p n) ∧ (∀ i, i < c → L i = Fa (kk p n i) ∧ R i = Fb (kk p n i)) ∧ ∀ x, (¬ Fa x = 0 ∨ ¬ Fb x = 0) → ∃ i, i < c ∧ kk p n i = x
/-- i of the first and j of the second have been laid: c rows -/
def mG (ca : Nat) (ka : Nat → Int) (Fa : Int → Int64) (cb : Nat) (kb : Nat → Int) (Fb : Int → Int64) (i j c : Nat) (p : Nat → Int32) (n L R : Nat → Int64) : Prop :=
  (i ≤ ca ∧ j ≤ cb ∧ c ≤ i + j) ∧ eS c (kk p n) ∧ (∀ t, t < c → L t = Fa (kk p n t) ∧ R t = Fb (kk p n t)) ∧ (∀ t, t < c → (i < ca → kk p n t < ka i) ∧ (j < cb → kk p n t < kb j)) ∧ (∀ t, t < i → ∃ u, u < c ∧ kk p n u = ka t) ∧ ∀ t, t < j → ∃ u, u < c ∧ kk p n u = kb t
theorem mG_0 {ca cb : Nat} {ka kb : Nat → Int} {Fa Fb : Int → Int64} (p : Nat → Int32) (n L R : Nat → Int64) : mG ca ka Fa cb kb Fb 0 0 0 p n L R :=
  ⟨⟨by omega, by omega, by omega⟩, fun i j _ h => absurd h (Nat.not_lt_zero _), fun i h => absurd h (Nat.not_lt_zero _), fun i h => absurd h (Nat.not_lt_zero _), fun i h => absurd h (Nat.not_lt_zero _), fun i h => absurd h (Nat.not_lt_zero _)⟩
theorem mG_step {ca cb : Nat} {ka kb : Nat → Int} {Fa Fb : Int → Int64} {i j i' j' c : Nat} {p : Nat → Int32} {n L R : Nat → Int64} {q : Int32} {m lv rv : Int64} (h : mG ca ka Fa cb kb Fb i j c p n L R) (hlt : ∀ t, t < c → kk p n t < kv q m) (eL : lv = Fa (kv q m)) (eR : rv = Fb (kv q m))
    (hi : i' = i ∨ (i' = i + 1 ∧ i < ca ∧ ka i = kv q m)) (hj : j' = j ∨ (j' = j + 1 ∧ j < cb ∧ kb j = kv q m)) (hne : i + j < i' + j') (ha : i' < ca → kv q m < ka i') (hb : j' < cb → kv q m < kb j') : mG ca ka Fa cb kb Fb i' j' (c + 1) (upd p c q) (vp_updL n c m) (vp_updL L c lv) (vp_updL R c rv) := by
  obtain ⟨⟨g1, g2, g3⟩, g4, g5, g6, g7, g8⟩ := h
  refine ⟨⟨by omega, by omega, by omega⟩, fun a b hab hbc => ?_, fun t ht => ?_, fun t ht => ?_, fun t ht => ?_, fun t ht => ?_⟩
  · by_cases z : b = c
    · rw [z, kk_app_s, kk_app_n (by omega)]
      exact hlt a (by omega)
    · rw [kk_app_n (by omega), kk_app_n (by omega)]
      exact g4 a b hab (by omega)
  · by_cases z : t = c
    · rw [z, kk_app_s, pk_uLs, pk_uLs]
      exact ⟨eL, eR⟩
    · rw [kk_app_n (by omega), pk_uLn z, pk_uLn z]
      exact g5 t (by omega)
  · by_cases z : t = c
    · rw [z, kk_app_s]
      exact ⟨ha, hb⟩
    · rw [kk_app_n (by omega)]
      have := hlt t (by omega)
      exact ⟨fun w => by have := ha w; omega, fun w => by have := hb w; omega⟩
  · rcases hi with e | ⟨e, hic, ek⟩
    · obtain ⟨u, hu, eu⟩ := g7 t (by omega)
      exact ⟨u, by omega, by rw [kk_app_n hu]; exact eu⟩
    · by_cases z : t = i
      · exact ⟨c, by omega, by rw [kk_app_s, z]; exact ek.symm⟩
      · obtain ⟨u, hu, eu⟩ := g7 t (by omega)
        exact ⟨u, by omega, by rw [kk_app_n hu]; exact eu⟩
  · rcases hj with e | ⟨e, hjc, ek⟩
    · obtain ⟨u, hu, eu⟩ := g8 t (by omega)
      exact ⟨u, by omega, by rw [kk_app_n hu]; exact eu⟩
    · by_cases z : t = j
      · exact ⟨c, by omega, by rw [kk_app_s, z]; exact ek.symm⟩
      · obtain ⟨u, hu, eu⟩ := g8 t (by omega)
        exact ⟨u, by omega, by rw [kk_app_n hu]; exact eu⟩
/-- a KIND that lies between the laid and the rest isn't there -/
theorem mG_no {cb j c : Nat} {kb k : Nat → Int} {Fb : Int → Int64} {x : Int} (hs : eS cb kb) (hF : eF cb kb Fb) (hcov : ∀ t, t < j → ∃ u, u < c ∧ k u = kb t) (hlt : ∀ u, u < c → k u < x) (hx : j < cb → x < kb j) : Fb x = 0 := by
  by_cases z : Fb x = 0
  · exact z
  · obtain ⟨t, ht, et⟩ := hF.2 x z
    by_cases q : t < j
    · obtain ⟨u, hu, eu⟩ := hcov t q
      have := hlt u hu
      omega
    · have h1 := hx (by omega)
      by_cases w : t = j
      · subst w
        omega
      · have := hs j t (by omega) ht
        omega
theorem mG_end {ca cb c : Nat} {ka kb : Nat → Int} {Fa Fb : Int → Int64} {p : Nat → Int32} {n L R : Nat → Int64} (hFa : eF ca ka Fa) (hFb : eF cb kb Fb) (h : mG ca ka Fa cb kb Fb ca cb c p n L R) : pRep c p n L R Fa Fb := by
  obtain ⟨-, g4, g5, -, g7, g8⟩ := h
  refine ⟨g4, g5, fun x hx => ?_⟩
  rcases hx with hx | hx
  · obtain ⟨t, ht, et⟩ := hFa.2 x hx
    obtain ⟨u, hu, eu⟩ := g7 t ht
    exact ⟨u, hu, eu.trans et⟩
  · obtain ⟨t, ht, et⟩ := hFb.2 x hx
    obtain ⟨u, hu, eu⟩ := g8 t ht
    exact ⟨u, hu, eu.trans et⟩
/-! promise 13 -/
theorem cmp_iff {c : Nat} {p : Nat → Int32} {n L R : Nat → Int64} {Fa Fb : Int → Int64} (h : pRep c p n L R Fa Fb) : ((∃ i, i < c ∧ R i < L i) ↔ ∃ x, Fb x < Fa x) ∧ ((∃ i, i < c ∧ L i < R i) ↔ ∃ x, Fa x < Fb x) := by
  obtain ⟨-, h2, h3⟩ := h
  have up : ∀ x, ¬ Fa x = Fb x → ∃ i, i < c ∧ kk p n i = x := fun x hx => h3 x (by
    by_cases z : Fa x = 0
    · exact Or.inr (fun y => hx (by rw [z, y]))
    · exact Or.inl z)
  constructor
  · constructor
    · rintro ⟨i, hi, h⟩
      exact ⟨kk p n i, by rw [← (h2 i hi).1, ← (h2 i hi).2]; exact h⟩
    · rintro ⟨x, hx⟩
      obtain ⟨i, hi, e⟩ := up x (fun z => by rw [z] at hx; exact absurd hx (Int64.lt_irrefl))
      exact ⟨i, hi, by rw [(h2 i hi).1, (h2 i hi).2, e]; exact hx⟩
  · constructor
    · rintro ⟨i, hi, h⟩
      exact ⟨kk p n i, by rw [← (h2 i hi).1, ← (h2 i hi).2]; exact h⟩
    · rintro ⟨x, hx⟩
      obtain ⟨i, hi, e⟩ := up x (fun z => by rw [z] at hx; exact absurd hx (Int64.lt_irrefl))
      exact ⟨i, hi, by rw [(h2 i hi).1, (h2 i hi).2, e]; exact hx⟩
/-! the reference's rows -/
theorem mlay_y {c : Nat} {p : Nat → Int32} {n a : Nat → Int64} {G : Int → Int64} {S : Int → Prop} {q : Int32} {m : Int64} (h : mRep c p n a (gS G S)) (hx : ¬ S (kv q m)) (hv : ¬ G (kv q m) = 0) : mRep (c + 1) (upd p c q) (vp_updL n c m) (vp_updL a c (G (kv q m))) (gS G (fun y => S y ∨ y = kv q m)) := by
  rw [gS_add]
  exact mRep_app h (gS_no hx) hv
theorem mlay_n {c : Nat} {p : Nat → Int32} {n a : Nat → Int64} {G : Int → Int64} {S : Int → Prop} {x : Int} (h : mRep c p n a (gS G S)) (hv : G x = 0) : mRep c p n a (gS G (fun y => S y ∨ y = x)) := by
  rw [gS_skip hv]
  exact h
theorem mRep_cg {c : Nat} {p p' : Nat → Int32} {n n' a a' : Nat → Int64} {F : Int → Int64} (h : mRep c p n a F) (e : ∀ i, i < c → p' i = p i ∧ n' i = n i ∧ a' i = a i) : mRep c p' n' a' F := by
  obtain ⟨h1, h2, h3⟩ := h
  have ek : ∀ i, i < c → kk p' n' i = kk p n i := fun i hi => by
    unfold kk
    rw [(e i hi).1, (e i hi).2.1]
  refine ⟨fun i j hi hj q => h1 i j hi hj (by rw [← ek i hi, ← ek j hj]; exact q), ⟨fun i hi => by rw [ek i hi]; exact h2.1 i hi, fun x hx => ?_⟩, fun i hi => by rw [(e i hi).2.2, ek i hi]; exact h3 i hi⟩
  obtain ⟨i, hi, q⟩ := h2.2 x hx
  exact ⟨i, hi, by rw [ek i hi]; exact q⟩
theorem mlook_y {c i : Nat} {p : Nat → Int32} {n a : Nat → Int64} {F : Int → Int64} {x : Int} (h : mRep c p n a F) (hi : i < c) (e : kk p n i = x) : F x = a i := by
  rw [h.2.2 i hi, e]
theorem mlook_n {c : Nat} {p : Nat → Int32} {n a : Nat → Int64} {F : Int → Int64} {x : Int} (h : mRep c p n a F) (hno : ∀ i, i < c → ¬ kk p n i = x) : F x = 0 := by
  by_cases z : F x = 0
  · exact z
  · obtain ⟨i, hi, e⟩ := h.2.1.2 x z
    exact absurd e (hno i hi)
theorem mRep_set {c i : Nat} {p : Nat → Int32} {n a a' : Nat → Int64} {F : Int → Int64} {x : Int} {v : Int64} (h : mRep c p n a F) (hi : i < c) (e : kk p n i = x) (hv : ¬ v = 0) (ea : ∀ j, j < c → a' j = if j = i then v else a j) : mRep c p n a' (fUp F x v) := by
  obtain ⟨h2, h3, h4⟩ := h
  refine ⟨h2, ⟨fun j hj => ?_, fun y hy => ?_⟩, fun j hj => ?_⟩
  · by_cases z : kk p n j = x
    · rw [z, fUp_s]
      exact hv
    · rw [fUp_n z]
      exact h3.1 j hj
  · by_cases z : y = x
    · exact ⟨i, hi, by rw [e, z]⟩
    · rw [fUp_n z] at hy
      exact h3.2 y hy
  · rw [ea j hj]
    by_cases z : j = i
    · rw [if_pos z, z, e, fUp_s]
    · rw [if_neg z, fUp_n (fun q => z (h2 j i hj hi (q.trans e.symm)))]
      exact h4 j hj
/-- the last one comes into the gap -/
theorem mRep_del {c i : Nat} {p p' : Nat → Int32} {n n' a a' : Nat → Int64} {F : Int → Int64} {x : Int} (h : mRep c p n a F) (hi : i < c) (e : kk p n i = x) (e' : ∀ j, j < c - 1 → p' j = (if j = i then p (c - 1) else p j) ∧ n' j = (if j = i then n (c - 1) else n j) ∧ a' j = (if j = i then a (c - 1) else a j)) : mRep (c - 1) p' n' a' (fUp F x 0) := by
  obtain ⟨h2, h3, h4⟩ := h
  have key : ∀ j, j < c - 1 → kk p' n' j = if j = i then kk p n (c - 1) else kk p n j := by
    intro j hj
    unfold kk
    rw [(e' j hj).1, (e' j hj).2.1]
    by_cases z : j = i
    · rw [if_pos z, if_pos z, if_pos z]
    · rw [if_neg z, if_neg z, if_neg z]
  have nx : ∀ j, j < c → ¬ j = i → ¬ kk p n j = x := fun j hj z q => z (h2 j i hj hi (q.trans e.symm))
  refine ⟨fun j1 j2 hj1 hj2 q => ?_, ⟨fun j hj => ?_, fun y hy => ?_⟩, fun j hj => ?_⟩
  · rw [key j1 hj1, key j2 hj2] at q
    by_cases z1 : j1 = i <;> by_cases z2 : j2 = i
    · omega
    · rw [if_pos z1, if_neg z2] at q
      have := h2 _ _ (by omega) (by omega) q
      omega
    · rw [if_neg z1, if_pos z2] at q
      have := h2 _ _ (by omega) (by omega) q
      omega
    · rw [if_neg z1, if_neg z2] at q
      exact h2 _ _ (by omega) (by omega) q
  · rw [key j hj]
    by_cases z : j = i
    · rw [if_pos z, fUp_n (nx (c - 1) (by omega) (by omega))]
      exact h3.1 _ (by omega)
    · rw [if_neg z, fUp_n (nx j (by omega) z)]
      exact h3.1 _ (by omega)
  · have z : ¬ y = x := fun q => hy (by rw [q, fUp_s])
    rw [fUp_n z] at hy
    obtain ⟨j, hj, ej⟩ := h3.2 y hy
    have ji : ¬ j = i := fun q => z (by rw [← ej, q, e])
    by_cases z1 : j = c - 1
    · exact ⟨i, by omega, by rw [key i (by omega), if_pos rfl, ← z1]; exact ej⟩
    · exact ⟨j, by omega, by rw [key j (by omega), if_neg ji]; exact ej⟩
  · rw [key j hj, (e' j hj).2.2]
    by_cases z : j = i
    · rw [if_pos z, if_pos z, fUp_n (nx (c - 1) (by omega) (by omega))]
      exact h4 _ (by omega)
    · rw [if_neg z, if_neg z, fUp_n (nx j (by omega) z)]
      exact h4 _ (by omega)
/-- a row of more than 64 KINDS is too many -/
theorem mRep_big {c : Nat} {p : Nat → Int32} {n a : Nat → Int64} {F : Int → Int64} (h : mRep c p n a F) (hc : 64 < c) : ¬ eC F := eC_not h.1 h.2.1.1 hc
theorem mRep_C {c : Nat} {p : Nat → Int32} {n a : Nat → Int64} {F : Int → Int64} (h : mRep c p n a F) (hc : c ≤ 64) : eC F := eC_of h.2.1.2 hc
/-- a setting to 0 or over what is there never is too much -/
theorem up_C0 {F : Int → Int64} {x : Int} {v : Int64} (h : eC F) (hv : v = 0 ∨ ¬ F x = 0) : eC (fUp F x v) := by
  obtain ⟨c, k, hc, h1⟩ := h
  refine ⟨c, k, hc, fun y hy => ?_⟩
  by_cases z : y = x
  · rw [z, fUp_s] at hy
    rw [z]
    exact h1 x (hv.resolve_left hy)
  · rw [fUp_n z] at hy
    exact h1 y hy
theorem fUp_0 {F : Int → Int64} {x : Int} (h : F x = 0) : fUp F x 0 = F := by
  funext y
  by_cases z : y = x
  · rw [z, fUp_s, h]
  · rw [fUp_n z]
/-- the class's way to promise 15: what its loop holds gives the answer -/
theorem into_c {c : Nat} {p : Nat → Int32} {n L R : Nat → Int64} {Fa Fb : Int → Int64} (h : pRep c p n L R Fa Fb) {most few : Int64}
    (h1 : ∀ j, j < c → 0 < R j → (0 ≤ (L j).toInt → most.toInt ≤ iQ (L j) (R j)) ∧ (L j < 0 → most < 0))
    (h2 : (most < 0 ∧ ∃ j, j < c ∧ 0 < R j ∧ L j < 0) ∨ (∃ j, j < c ∧ 0 < R j ∧ 0 ≤ (L j).toInt ∧ most.toInt = iQ (L j) (R j)))
    (h3 : ∀ j, j < c → ¬ 0 < R j → ¬ iB (L j) (R j) ∧ iN (L j) (R j) ≤ few.toInt) (h4 : few.toInt = 0 ∨ ∃ j, j < c ∧ ¬ 0 < R j ∧ few.toInt = iN (L j) (R j)) :
    (few ≤ most → iR Fa Fb most) ∧ (¬ few ≤ most → iR Fa Fb (-1)) := by
  obtain ⟨-, g2, g3⟩ := h
  have few0 : 0 ≤ few.toInt := by
    rcases h4 with e | ⟨j, -, -, e⟩
    · omega
    · rw [e]
      exact iN_0 _ _
  constructor
  · intro hle
    rw [Int64.le_iff_toInt_le] at hle
    have mn : ¬ most < 0 := fun z => by
      have := z_lt0.mp z
      omega
    have pos : ∀ j, j < c → 0 < R j → ¬ L j < 0 := fun j hj hR z => mn ((h1 j hj hR).2 z)
    rcases h2 with ⟨z, -⟩ | ⟨j0, hj0, hR0, hL0, e0⟩
    · exact absurd z mn
    · refine Or.inr ⟨fun x hb => ?_, ⟨kk p n j0, ?_, ?_⟩, fun x hx => ?_, fun x => ?_⟩
      · by_cases z : ¬ Fa x = 0 ∨ ¬ Fb x = 0
        · obtain ⟨j, hj, e⟩ := g3 x z
          rw [← e, ← (g2 j hj).1, ← (g2 j hj).2] at hb
          by_cases q : 0 < R j
          · rcases hb with ⟨b1, -⟩ | ⟨-, b2⟩
            · exact pos j hj q b1
            · rw [b2] at q
              exact absurd q (by decide)
          · exact (h3 j hj q).1 hb
        · have za : Fa x = 0 := Classical.byContradiction fun q => z (Or.inl q)
          rw [za] at hb
          rcases hb with ⟨b1, -⟩ | ⟨b1, -⟩
          · exact absurd b1 (by decide)
          · exact absurd b1 (by decide)
      · rw [← (g2 j0 hj0).2]
        exact hR0
      · rw [← (g2 j0 hj0).1, ← (g2 j0 hj0).2]
        exact e0
      · obtain ⟨j, hj, e⟩ := g3 x (Or.inr (fun z => by rw [z] at hx; exact absurd hx (by decide)))
        rw [← e, ← (g2 j hj).1, ← (g2 j hj).2]
        rw [← e, ← (g2 j hj).2] at hx
        have := pos j hj hx
        exact (h1 j hj hx).1 (Int.not_lt.mp (fun z => this (z_lt0.mpr z)))
      · by_cases z : ¬ Fa x = 0 ∨ ¬ Fb x = 0
        · obtain ⟨j, hj, e⟩ := g3 x z
          rw [← e, ← (g2 j hj).1, ← (g2 j hj).2]
          by_cases q : 0 < R j
          · rw [iN_pos (fun w => absurd (z_lt0.mp w.2) (by have := z_0lt.mp q; omega))]
            omega
          · have := (h3 j hj q).2
            omega
        · have za : Fa x = 0 := Classical.byContradiction fun q => z (Or.inl q)
          rw [za, iN_pos (fun w => absurd w.1 (by decide))]
          omega
  · intro hle
    refine Or.inl ⟨rfl, ?_⟩
    rw [Int64.le_iff_toInt_le] at hle
    rcases h2 with ⟨-, j, hj, hR, hL⟩ | ⟨j0, hj0, hR0, hL0, e0⟩
    · exact Or.inl ⟨kk p n j, by rw [← (g2 j hj).1, ← (g2 j hj).2]; exact Or.inl ⟨hL, Int64.le_iff_toInt_le.mpr (by rw [z_0]; have := z_0lt.mp hR; omega)⟩⟩
    · have q0 : 0 ≤ iQ (L j0) (R j0) := z_tdiv_pp hL0 (by have := z_0lt.mp hR0; omega)
      rcases h4 with e | ⟨j, hj, -, e⟩
      · omega
      · exact Or.inr (Or.inr ⟨kk p n j0, kk p n j, by rw [← (g2 j0 hj0).2]; exact hR0, by rw [← (g2 j0 hj0).1, ← (g2 j0 hj0).2, ← (g2 j hj).1, ← (g2 j hj).2]; omega⟩)
theorem into_no {c : Nat} {p : Nat → Int32} {n L R : Nat → Int64} {Fa Fb : Int → Int64} (h : pRep c p n L R Fa Fb) (h1 : ∀ j, j < c → ¬ 0 < R j) : iR Fa Fb (-1) := by
  obtain ⟨-, g2, g3⟩ := h
  refine Or.inl ⟨rfl, Or.inr (Or.inl fun x hx => ?_)⟩
  obtain ⟨j, hj, e⟩ := g3 x (Or.inr (fun z => by rw [z] at hx; exact absurd hx (by decide)))
  exact h1 j hj (by rw [(g2 j hj).2, e]; exact hx)
theorem into_bad {c j : Nat} {p : Nat → Int32} {n L R : Nat → Int64} {Fa Fb : Int → Int64} (h : pRep c p n L R Fa Fb) (hj : j < c) (h1 : iB (L j) (R j)) : iR Fa Fb (-1) := by
  obtain ⟨-, g2, -⟩ := h
  refine Or.inl ⟨rfl, Or.inl ⟨kk p n j, ?_⟩⟩
  rw [← (g2 j hj).1, ← (g2 j hj).2]
  exact h1
