/-! the class's state: how it is kept and changed -/
def qSv : Array Value → State → Outcome → State → Prop := fun _ st o t => o = .returned none ∧ t.heap = st.heap
section QSV
variable {p : Program} {l : Launch} {e : Env} {R : Room} {s : State} {m : MethodId} {args : Array Value} {below : List Frame} {meth : Method} {c : Code} {H : Heap} {locs : List Loc} {cells slots : Nat} {Q : State → Prop}
variable {pc : Nat} {ls : Array Slot} {rest : List Value}
theorem q_callSv {a : Array Value} {st0 : List Value} (hr : va_Run p l e R s m args below meth c H locs cells slots 0 0 (F0 m pc ls st0) rest (qSv a) (fun _ => False))
    (kk : W p l e R s m args below meth c H locs cells slots Q (F0 m (pc + 3) ls rest)) : W p l e R s m args below meth c H locs cells slots Q (F0 m pc ls st0) := by
  intro T hT X
  obtain ⟨v, st₀, t, T', L, h0, X', hL, e1, e2, ⟨hv, hh⟩, st⟩ := hr T hT X
  cases hv
  obtain ⟨t2, a1, b1⟩ := kk T' (by rw [e1, hh, h0]) (Stand.forget X' (fun q h => (hL q h).elim))
  exact ⟨t2, st t2 a1, b1⟩
end QSV
/-- changed: Pairs and the spare Bag alone -/
def ch2 (w u : Nat → va_E) (sp : Nat) : Prop := ∀ x, (x < 34 ∨ 38 < x) → (x < bb sp ∨ bb sp + 3 < x) → u x = w x
theorem ch2_rf {w : Nat → va_E} {sp : Nat} : ch2 w w sp := fun _ _ _ => rfl
theorem ch2_b {w u v : Nat → va_E} {sp : Nat} (h : ch2 w u sp) (f : fr u v (bb sp) (bb sp + 3)) : ch2 w v sp := fun x h1 h2 => (f x h2).trans (h x h1 h2)
theorem ch2_p {w u v : Nat → va_E} {sp : Nat} (h : ch2 w u sp) (f : fr u v 34 38) : ch2 w v sp := fun x h1 h2 => (f x h1).trans (h x h1 h2)
def sCx (ad : Nat → Nat) (cI cL cB : ClassId) (w : Nat → va_E) (F : Nat → Int → Int64) (f : Nat → Option Nat) (pi : Nat → Nat) (sp : Nat) : Prop :=
  w 0 = .inr (2, [.ref (ad 1), .ref (ad 34), .ref (ad (bb sp))]) ∧ w 1 = .inl (cB, 8, .inr (.inr (.inr (.inr f)))) ∧ (∀ j, j < 8 → f j = some (ad (bb (pi j)))) ∧ (∀ j, j < 8 → pi j < 9 ∧ ¬ pi j = sp) ∧ (∀ i j, i < 8 → j < 8 → pi i = pi j → i = j) ∧ sp < 9 ∧
  (∀ j, j < 8 → ∃ (c : Nat) (p : Nat → Int32) (n a : Nat → Int64), isBag ad cI cL w (pi j) c p n a ∧ cRep c p n a (F j)) ∧ (∃ (c : Nat) (p : Nat → Int32) (n a : Nat → Int64), isBag ad cI cL w sp c p n a) ∧ ∃ (c : Nat) (p : Nat → Int32) (n L R : Nat → Int64), isPrs ad cI cL w c p n L R
section SC
variable {ad : Nat → Nat} {cI cL cB : ClassId} {w u v : Nat → va_E} {F : Nat → Int → Int64} {f : Nat → Option Nat} {pi : Nat → Nat} {sp j : Nat} {G : Int → Int64}
theorem sC_of (h : sCx ad cI cL cB w F f pi sp) : sC ad cI cL cB w F := ⟨f, pi, sp, h⟩
/-- a Bag that isn't the spare one is as it was -/
theorem ch2_bag (h : sCx ad cI cL cB w F f pi sp) (hc : ch2 w u sp) (hj : j < 8) {z : Nat} {P : Nat → Int32} {N A : Nat → Int64} (hB : isBag ad cI cL w (pi j) z P N A) : isBag ad cI cL u (pi j) z P N A := by
  obtain ⟨-, -, -, h4, -, h6, -⟩ := h
  have a := bb_r (h4 j hj).1
  have b := bb_a (h4 j hj).1 h6 (h4 j hj).2
  exact hB.keep (fun x h1 h2 => hc x (by omega) (by omega))
theorem ch2_0 (h : sCx ad cI cL cB w F f pi sp) (hc : ch2 w u sp) : u 0 = .inr (2, [.ref (ad 1), .ref (ad 34), .ref (ad (bb sp))]) := by
  have a := bb_r h.2.2.2.2.2.1
  exact (hc 0 (by omega) (by omega)).trans h.1
theorem ch2_1 (h : sCx ad cI cL cB w F f pi sp) (hc : ch2 w u sp) : u 1 = .inl (cB, 8, .inr (.inr (.inr (.inr f)))) := by
  have a := bb_r h.2.2.2.2.2.1
  exact (hc 1 (by omega) (by omega)).trans h.2.1
theorem sC_spare (h : sCx ad cI cL cB w F f pi sp) (hc : ch2 w u sp) (hS : ∃ (c : Nat) (p : Nat → Int32) (n a : Nat → Int64), isBag ad cI cL u sp c p n a) (hP : ∃ (c : Nat) (p : Nat → Int32) (n L R : Nat → Int64), isPrs ad cI cL u c p n L R) : sC ad cI cL cB u F := by
  refine ⟨f, pi, sp, ch2_0 h hc, ch2_1 h hc, h.2.2.1, h.2.2.2.1, h.2.2.2.2.1, h.2.2.2.2.2.1, fun i hi => ?_, hS, hP⟩
  obtain ⟨z, P, N, A, h1, h2⟩ := h.2.2.2.2.2.2.1 i hi
  exact ⟨z, P, N, A, ch2_bag h hc hi h1, h2⟩
theorem sC_swap (h : sCx ad cI cL cB w F f pi sp) (hc : ch2 w u sp) (hj : j < 8) {z : Nat} {P : Nat → Int32} {N A : Nat → Int64} (hS : isBag ad cI cL u sp z P N A) (hR : cRep z P N A G) (hP : ∃ (c : Nat) (p : Nat → Int32) (n L R : Nat → Int64), isPrs ad cI cL u c p n L R)
    (h0 : v 0 = .inr (2, [.ref (ad 1), .ref (ad 34), .ref (ad (bb (pi j)))])) (h1 : v 1 = .inl (cB, 8, .inr (.inr (.inr (.inr (va_up f j (some (ad (bb sp))))))))) (hv : ∀ x, 2 ≤ x → v x = u x) : sC ad cI cL cB v (va_up F j G) := by
  obtain ⟨-, -, g3, g4, g5, g6, g7, -, -⟩ := id h
  have bsp := bb_r g6
  refine ⟨va_up f j (some (ad (bb sp))), va_up pi j sp, pi j, h0, h1, fun i hi => ?_, fun i hi => ?_, fun i k hi hk e => ?_, (g4 j hj).1, fun i hi => ?_, ?_, ?_⟩
  · by_cases q : i = j
    · rw [q, va_up_self, va_up_self]
    · rw [va_up_ne _ _ q, va_up_ne _ _ q]
      exact g3 i hi
  · by_cases q : i = j
    · rw [q, va_up_self]
      exact ⟨g6, fun y => (g4 j hj).2 y.symm⟩
    · rw [va_up_ne _ _ q]
      exact ⟨(g4 i hi).1, fun y => q (g5 i j hi hj y)⟩
  · by_cases q : i = j <;> by_cases r : k = j
    · rw [q, r]
    · rw [q, va_up_self, va_up_ne _ _ r] at e
      exact absurd e.symm (g4 k hk).2
    · rw [r, va_up_self, va_up_ne _ _ q] at e
      exact absurd e (g4 i hi).2
    · rw [va_up_ne _ _ q, va_up_ne _ _ r] at e
      exact g5 i k hi hk e
  · by_cases q : i = j
    · rw [q, va_up_self, va_up_self]
      exact ⟨z, P, N, A, hS.keep (fun x h1 h2 => hv x (by omega)), hR⟩
    · rw [va_up_ne _ _ q, va_up_ne _ _ q]
      obtain ⟨z', P', N', A', q1, q2⟩ := g7 i hi
      have := bb_r (g4 i hi).1
      exact ⟨z', P', N', A', (ch2_bag h hc hi q1).keep (fun x h1 h2 => hv x (by omega)), q2⟩
  · obtain ⟨z', P', N', A', q1, q2⟩ := g7 j hj
    have := bb_r (g4 j hj).1
    exact ⟨z', P', N', A', (ch2_bag h hc hj q1).keep (fun x h1 h2 => hv x (by omega))⟩
  · obtain ⟨z', P', N', L', R', q1⟩ := hP
    exact ⟨z', P', N', L', R', q1.keep (fun x h1 h2 => hv x (by omega))⟩
/-- one BAG has changed in its place -/
theorem sC_bag (h : sCx ad cI cL cB w F f pi sp) (hj : j < 8) (hf : fr w u (bb (pi j)) (bb (pi j) + 3)) {z : Nat} {P : Nat → Int32} {N A : Nat → Int64} (hB : isBag ad cI cL u (pi j) z P N A) (hR : cRep z P N A G) : sC ad cI cL cB u (va_up F j G) := by
  obtain ⟨g1, g2, g3, g4, g5, g6, g7, ⟨z8, P8, N8, A8, g8⟩, ⟨z9, P9, N9, L9, R9, g9⟩⟩ := id h
  have bj := bb_r (g4 j hj).1
  refine ⟨f, pi, sp, (hf 0 (by omega)).trans g1, (hf 1 (by omega)).trans g2, g3, g4, g5, g6, fun i hi => ?_, ⟨z8, P8, N8, A8, ?_⟩, ⟨z9, P9, N9, L9, R9, ?_⟩⟩
  · by_cases q : i = j
    · rw [q, va_up_self]
      exact ⟨z, P, N, A, hB, hR⟩
    · rw [va_up_ne _ _ q]
      obtain ⟨z', P', N', A', q1, q2⟩ := g7 i hi
      have := bb_a (g4 i hi).1 (g4 j hj).1 (fun y => q (g5 i j hi hj y))
      exact ⟨z', P', N', A', q1.fr hf (by omega), q2⟩
  · have := bb_a (g4 j hj).1 g6 (g4 j hj).2
    exact g8.fr hf (by omega)
  · exact g9.fr hf (by omega)
theorem va_up_id {α : Type} {F : Nat → α} {j : Nat} : va_up F j (F j) = F := by
  funext i
  by_cases q : i = j
  · rw [q, va_up_self]
  · rw [va_up_ne _ _ q]
theorem sC_fr (h : sC ad cI cL cB w F) (hf : ∀ x, x < 43 → u x = w x) : sC ad cI cL cB u F := by
  obtain ⟨f, pi, sp, g1, g2, g3, g4, g5, g6, g7, ⟨z8, P8, N8, A8, g8⟩, ⟨z9, P9, N9, L9, R9, g9⟩⟩ := h
  have bs := bb_r g6
  refine ⟨f, pi, sp, (hf 0 (by omega)).trans g1, (hf 1 (by omega)).trans g2, g3, g4, g5, g6, fun i hi => ?_, ⟨z8, P8, N8, A8, g8.keep (fun x h1 h2 => hf x (by omega))⟩, ⟨z9, P9, N9, L9, R9, g9.keep (fun x h1 h2 => hf x (by omega))⟩⟩
  obtain ⟨z', P', N', A', q1, q2⟩ := g7 i hi
  have := bb_r (g4 i hi).1
  exact ⟨z', P', N', A', q1.keep (fun x h1 h2 => hf x (by omega)), q2⟩
end SC
/-- what sum, less, least make -/
def gH (how : Nat) (Fa Fb : Int → Int64) : Int → Int64 := fun x => cH how (Fa x) (Fb x)
theorem gH_cov {how c : Nat} {P : Nat → Int32} {N L R : Nat → Int64} {Fa Fb : Int → Int64} (h : pRep c P N L R Fa Fb) : ∀ x, ¬ gH how Fa Fb x = 0 → ∃ j, j < c ∧ kk P N j = x := fun x hx => h.2.2 x (by
  by_cases a : Fa x = 0
  · by_cases b : Fb x = 0
    · exfalso
      apply hx
      unfold gH
      rw [a, b]
      exact cH_00 how
    · exact Or.inr b
  · exact Or.inl a)
theorem fH_all {how c : Nat} {P : Nat → Int32} {N L R : Nat → Int64} {Fa Fb : Int → Int64} (h : pRep c P N L R Fa Fb) (hk : ∀ i, i < c → fH how (L i) (R i)) : ∀ x, fH how (Fa x) (Fb x) := fun x => by
  by_cases a : Fa x = 0
  · by_cases b : Fb x = 0
    · rw [a, b]
      exact fH_00 how
    · obtain ⟨i, hi, e⟩ := h.2.2 x (Or.inr b)
      have := hk i hi
      rw [(h.2.1 i hi).1, (h.2.1 i hi).2, e] at this
      exact this
  · obtain ⟨i, hi, e⟩ := h.2.2 x (Or.inl a)
    have := hk i hi
    rw [(h.2.1 i hi).1, (h.2.1 i hi).2, e] at this
    exact this
