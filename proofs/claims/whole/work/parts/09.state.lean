/-! the cells: 0 CoinBag, 1 its row of Bags, bb k .. bb k + 3 the k-th Bag (nine of them), 34 .. 38 Pairs, 43 .. 50 the reference, 51 the law's own row -/
def bb (k : Nat) : Nat := if k < 8 then 2 + 4 * k else 39
theorem bb_r {k : Nat} (h : k < 9) : 2 ≤ bb k ∧ bb k + 3 < 43 ∧ (bb k + 3 < 34 ∨ 39 ≤ bb k) := by
  unfold bb
  split <;> omega
theorem bb_a {k j : Nat} (hk : k < 9) (hj : j < 9) (h : ¬ k = j) : bb k + 3 < bb j ∨ bb j + 3 < bb k := by
  unfold bb
  split <;> split <;> omega
/-- the world changed in lo .. hi alone -/
def fr (w u : Nat → va_E) (lo hi : Nat) : Prop := ∀ j, (j < lo ∨ hi < j) → u j = w j
theorem fr_rf {w : Nat → va_E} {lo hi : Nat} : fr w w lo hi := fun _ _ => rfl
theorem fr_up {w u : Nat → va_E} {lo hi x : Nat} {e : va_E} (h : fr w u lo hi) (h1 : lo ≤ x) (h2 : x ≤ hi) : fr w (va_up u x e) lo hi := fun j hj => by
  rw [va_up_ne _ _ (by omega)]
  exact h j hj
theorem fr_tr {w u v : Nat → va_E} {lo hi a b : Nat} (h : fr w u lo hi) (h2 : fr u v a b) (h3 : lo ≤ a) (h4 : b ≤ hi) : fr w v lo hi := fun j hj => (h2 j (by omega)).trans (h j hj)
def isBag (ad : Nat → Nat) (cI cL : ClassId) (w : Nat → va_E) (k c : Nat) (p : Nat → Int32) (n a : Nat → Int64) : Prop :=
  w (bb k) = .inr (0, [.ref (ad (bb k + 1)), .ref (ad (bb k + 2)), .ref (ad (bb k + 3)), .int (nI c)]) ∧ w (bb k + 1) = .inl (cI, 64, .inl p) ∧ w (bb k + 2) = .inl (cL, 64, .inr (.inl n)) ∧ w (bb k + 3) = .inl (cL, 64, .inr (.inl a)) ∧ c ≤ 64
section ISB
variable {ad : Nat → Nat} {cI cL : ClassId} {w u : Nat → va_E} {k c : Nat} {p : Nat → Int32} {n a : Nat → Int64}
theorem isBag.keep (h : isBag ad cI cL w k c p n a) (hf : ∀ j, bb k ≤ j → j ≤ bb k + 3 → u j = w j) : isBag ad cI cL u k c p n a := by
  obtain ⟨h1, h2, h3, h4, h5⟩ := h
  exact ⟨(hf _ (by omega) (by omega)).trans h1, (hf _ (by omega) (by omega)).trans h2, (hf _ (by omega) (by omega)).trans h3, (hf _ (by omega) (by omega)).trans h4, h5⟩
theorem isBag.off (h : isBag ad cI cL w k c p n a) {x : Nat} {e : va_E} (hx : x < bb k ∨ bb k + 3 < x) : isBag ad cI cL (va_up w x e) k c p n a := h.keep (fun j h1 h2 => va_up_ne _ _ (by omega))
theorem isBag.fr (h : isBag ad cI cL w k c p n a) {lo hi : Nat} (hf : fr w u lo hi) (hx : hi < bb k ∨ bb k + 3 < lo) : isBag ad cI cL u k c p n a := h.keep (fun j h1 h2 => hf j (by omega))
theorem isBag.upP (h : isBag ad cI cL w k c p n a) (p' : Nat → Int32) : isBag ad cI cL (va_up w (bb k + 1) (.inl (cI, 64, .inl p'))) k c p' n a := by
  obtain ⟨h1, h2, h3, h4, h5⟩ := h
  exact ⟨(va_up_ne _ _ (by omega)).trans h1, va_up_self _ _ _, (va_up_ne _ _ (by omega)).trans h3, (va_up_ne _ _ (by omega)).trans h4, h5⟩
theorem isBag.upN (h : isBag ad cI cL w k c p n a) (n' : Nat → Int64) : isBag ad cI cL (va_up w (bb k + 2) (.inl (cL, 64, .inr (.inl n')))) k c p n' a := by
  obtain ⟨h1, h2, h3, h4, h5⟩ := h
  exact ⟨(va_up_ne _ _ (by omega)).trans h1, (va_up_ne _ _ (by omega)).trans h2, va_up_self _ _ _, (va_up_ne _ _ (by omega)).trans h4, h5⟩
theorem isBag.upA (h : isBag ad cI cL w k c p n a) (a' : Nat → Int64) : isBag ad cI cL (va_up w (bb k + 3) (.inl (cL, 64, .inr (.inl a')))) k c p n a' := by
  obtain ⟨h1, h2, h3, h4, h5⟩ := h
  exact ⟨(va_up_ne _ _ (by omega)).trans h1, (va_up_ne _ _ (by omega)).trans h2, (va_up_ne _ _ (by omega)).trans h3, va_up_self _ _ _, h5⟩
theorem isBag.upC (h : isBag ad cI cL w k c p n a) {c' : Nat} (hc : c' ≤ 64) : isBag ad cI cL (va_up w (bb k) (.inr (0, [.ref (ad (bb k + 1)), .ref (ad (bb k + 2)), .ref (ad (bb k + 3)), .int (nI c')]))) k c' p n a := by
  obtain ⟨h1, h2, h3, h4, h5⟩ := h
  exact ⟨va_up_self _ _ _, (va_up_ne _ _ (by omega)).trans h2, (va_up_ne _ _ (by omega)).trans h3, (va_up_ne _ _ (by omega)).trans h4, hc⟩
end ISB
def isPrs (ad : Nat → Nat) (cI cL : ClassId) (w : Nat → va_E) (c : Nat) (p : Nat → Int32) (n L R : Nat → Int64) : Prop :=
  w 34 = .inr (1, [.ref (ad 35), .ref (ad 36), .ref (ad 37), .ref (ad 38), .int (nI c)]) ∧ w 35 = .inl (cI, 128, .inl p) ∧ w 36 = .inl (cL, 128, .inr (.inl n)) ∧ w 37 = .inl (cL, 128, .inr (.inl L)) ∧ w 38 = .inl (cL, 128, .inr (.inl R)) ∧ c ≤ 128
section ISP
variable {ad : Nat → Nat} {cI cL : ClassId} {w u : Nat → va_E} {c : Nat} {p : Nat → Int32} {n L R : Nat → Int64}
theorem isPrs.keep (h : isPrs ad cI cL w c p n L R) (hf : ∀ j, 34 ≤ j → j ≤ 38 → u j = w j) : isPrs ad cI cL u c p n L R := by
  obtain ⟨h1, h2, h3, h4, h5, h6⟩ := h
  exact ⟨(hf _ (by omega) (by omega)).trans h1, (hf _ (by omega) (by omega)).trans h2, (hf _ (by omega) (by omega)).trans h3, (hf _ (by omega) (by omega)).trans h4, (hf _ (by omega) (by omega)).trans h5, h6⟩
theorem isPrs.off (h : isPrs ad cI cL w c p n L R) {x : Nat} {e : va_E} (hx : x < 34 ∨ 38 < x) : isPrs ad cI cL (va_up w x e) c p n L R := h.keep (fun j h1 h2 => va_up_ne _ _ (by omega))
theorem isPrs.fr (h : isPrs ad cI cL w c p n L R) {lo hi : Nat} (hf : fr w u lo hi) (hx : hi < 34 ∨ 38 < lo) : isPrs ad cI cL u c p n L R := h.keep (fun j h1 h2 => hf j (by omega))
theorem isPrs.upP (h : isPrs ad cI cL w c p n L R) (p' : Nat → Int32) : isPrs ad cI cL (va_up w 35 (.inl (cI, 128, .inl p'))) c p' n L R := by
  obtain ⟨h1, h2, h3, h4, h5, h6⟩ := h
  exact ⟨(va_up_ne _ _ (by omega)).trans h1, va_up_self _ _ _, (va_up_ne _ _ (by omega)).trans h3, (va_up_ne _ _ (by omega)).trans h4, (va_up_ne _ _ (by omega)).trans h5, h6⟩
theorem isPrs.upN (h : isPrs ad cI cL w c p n L R) (n' : Nat → Int64) : isPrs ad cI cL (va_up w 36 (.inl (cL, 128, .inr (.inl n')))) c p n' L R := by
  obtain ⟨h1, h2, h3, h4, h5, h6⟩ := h
  exact ⟨(va_up_ne _ _ (by omega)).trans h1, (va_up_ne _ _ (by omega)).trans h2, va_up_self _ _ _, (va_up_ne _ _ (by omega)).trans h4, (va_up_ne _ _ (by omega)).trans h5, h6⟩
theorem isPrs.upL (h : isPrs ad cI cL w c p n L R) (L' : Nat → Int64) : isPrs ad cI cL (va_up w 37 (.inl (cL, 128, .inr (.inl L')))) c p n L' R := by
  obtain ⟨h1, h2, h3, h4, h5, h6⟩ := h
  exact ⟨(va_up_ne _ _ (by omega)).trans h1, (va_up_ne _ _ (by omega)).trans h2, (va_up_ne _ _ (by omega)).trans h3, va_up_self _ _ _, (va_up_ne _ _ (by omega)).trans h5, h6⟩
theorem isPrs.upR (h : isPrs ad cI cL w c p n L R) (R' : Nat → Int64) : isPrs ad cI cL (va_up w 38 (.inl (cL, 128, .inr (.inl R')))) c p n L R' := by
  obtain ⟨h1, h2, h3, h4, h5, h6⟩ := h
  exact ⟨(va_up_ne _ _ (by omega)).trans h1, (va_up_ne _ _ (by omega)).trans h2, (va_up_ne _ _ (by omega)).trans h3, (va_up_ne _ _ (by omega)).trans h4, va_up_self _ _ _, h6⟩
theorem isPrs.upC (h : isPrs ad cI cL w c p n L R) {c' : Nat} (hc : c' ≤ 128) : isPrs ad cI cL (va_up w 34 (.inr (1, [.ref (ad 35), .ref (ad 36), .ref (ad 37), .ref (ad 38), .int (nI c')]))) c' p n L R := by
  obtain ⟨h1, h2, h3, h4, h5, h6⟩ := h
  exact ⟨va_up_self _ _ _, (va_up_ne _ _ (by omega)).trans h2, (va_up_ne _ _ (by omega)).trans h3, (va_up_ne _ _ (by omega)).trans h4, (va_up_ne _ _ (by omega)).trans h5, hc⟩
end ISP
/-- the class's state: BAG j stands for F j -/
def sC (ad : Nat → Nat) (cI cL cB : ClassId) (w : Nat → va_E) (F : Nat → Int → Int64) : Prop := ∃ (f : Nat → Option Nat) (pi : Nat → Nat) (sp : Nat),
  w 0 = .inr (2, [.ref (ad 1), .ref (ad 34), .ref (ad (bb sp))]) ∧ w 1 = .inl (cB, 8, .inr (.inr (.inr (.inr f)))) ∧ (∀ j, j < 8 → f j = some (ad (bb (pi j)))) ∧ (∀ j, j < 8 → pi j < 9 ∧ ¬ pi j = sp) ∧ (∀ i j, i < 8 → j < 8 → pi i = pi j → i = j) ∧ sp < 9 ∧
  (∀ j, j < 8 → ∃ (c : Nat) (p : Nat → Int32) (n a : Nat → Int64), isBag ad cI cL w (pi j) c p n a ∧ cRep c p n a (F j)) ∧ (∃ (c : Nat) (p : Nat → Int32) (n a : Nat → Int64), isBag ad cI cL w sp c p n a) ∧ ∃ (c : Nat) (p : Nat → Int32) (n L R : Nat → Int64), isPrs ad cI cL w c p n L R
/-- the reference's cells -/
def isMod (ad : Nat → Nat) (cI cL : ClassId) (w : Nat → va_E) (t : Int32) (mn P : Nat → Int32) (N A : Nat → Int64) (rm : Int32) (rP : Nat → Int32) (rN rA : Nat → Int64) (bd : Int32) : Prop :=
  w 43 = .inr (3, [.int t, .ref (ad 44), .ref (ad 45), .ref (ad 46), .ref (ad 47), .int rm, .ref (ad 48), .ref (ad 49), .ref (ad 50), .int bd]) ∧ w 44 = .inl (cI, 8, .inl mn) ∧ w 45 = .inl (cI, 512, .inl P) ∧ w 46 = .inl (cL, 512, .inr (.inl N)) ∧ w 47 = .inl (cL, 512, .inr (.inl A)) ∧ w 48 = .inl (cI, 130, .inl rP) ∧ w 49 = .inl (cL, 130, .inr (.inl rN)) ∧ w 50 = .inl (cL, 130, .inr (.inl rA))
/-- BAG j of the reference stands for F j -/
def mBag (mn P : Nat → Int32) (N A : Nat → Int64) (F : Nat → Int → Int64) : Prop := ∀ j, j < 8 → ∃ c, c ≤ 64 ∧ mn j = nI c ∧ mRep c (fun i => P (64 * j + i)) (fun i => N (64 * j + i)) (fun i => A (64 * j + i)) (F j)
