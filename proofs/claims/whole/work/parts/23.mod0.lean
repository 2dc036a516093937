/-! the reference's state: how it is kept and changed -/
def sM (ad : Nat → Nat) (cI cL : ClassId) (w : Nat → va_E) (t : Int32) (F : Nat → Int → Int64) : Prop := ∃ (mn P : Nat → Int32) (N A : Nat → Int64) (rm : Int32) (rP : Nat → Int32) (rN rA : Nat → Int64) (bd : Int32), isMod ad cI cL w t mn P N A rm rP rN rA bd ∧ mBag mn P N A F
section ISM
variable {ad : Nat → Nat} {cI cL : ClassId} {w u : Nat → va_E} {t rm bd : Int32} {mn P rP : Nat → Int32} {N A rN rA : Nat → Int64}
theorem isMod.keep (h : isMod ad cI cL w t mn P N A rm rP rN rA bd) (hf : ∀ j, 43 ≤ j → j ≤ 50 → u j = w j) : isMod ad cI cL u t mn P N A rm rP rN rA bd := by
  obtain ⟨h1, h2, h3, h4, h5, h6, h7, h8⟩ := h
  exact ⟨(hf _ (by omega) (by omega)).trans h1, (hf _ (by omega) (by omega)).trans h2, (hf _ (by omega) (by omega)).trans h3, (hf _ (by omega) (by omega)).trans h4, (hf _ (by omega) (by omega)).trans h5, (hf _ (by omega) (by omega)).trans h6, (hf _ (by omega) (by omega)).trans h7, (hf _ (by omega) (by omega)).trans h8⟩
theorem isMod.up43 (h : isMod ad cI cL w t mn P N A rm rP rN rA bd) (t' rm' bd' : Int32) : isMod ad cI cL (va_up w 43 (.inr (3, [.int t', .ref (ad 44), .ref (ad 45), .ref (ad 46), .ref (ad 47), .int rm', .ref (ad 48), .ref (ad 49), .ref (ad 50), .int bd']))) t' mn P N A rm' rP rN rA bd' := by
  obtain ⟨h1, h2, h3, h4, h5, h6, h7, h8⟩ := h
  exact ⟨va_up_self _ _ _, (va_up_ne _ _ (by omega)).trans h2, (va_up_ne _ _ (by omega)).trans h3, (va_up_ne _ _ (by omega)).trans h4, (va_up_ne _ _ (by omega)).trans h5, (va_up_ne _ _ (by omega)).trans h6, (va_up_ne _ _ (by omega)).trans h7, (va_up_ne _ _ (by omega)).trans h8⟩
theorem isMod.up44 (h : isMod ad cI cL w t mn P N A rm rP rN rA bd) (f : Nat → Int32) : isMod ad cI cL (va_up w 44 (.inl (cI, 8, .inl f))) t f P N A rm rP rN rA bd := by
  obtain ⟨h1, h2, h3, h4, h5, h6, h7, h8⟩ := h
  exact ⟨(va_up_ne _ _ (by omega)).trans h1, va_up_self _ _ _, (va_up_ne _ _ (by omega)).trans h3, (va_up_ne _ _ (by omega)).trans h4, (va_up_ne _ _ (by omega)).trans h5, (va_up_ne _ _ (by omega)).trans h6, (va_up_ne _ _ (by omega)).trans h7, (va_up_ne _ _ (by omega)).trans h8⟩
theorem isMod.up45 (h : isMod ad cI cL w t mn P N A rm rP rN rA bd) (f : Nat → Int32) : isMod ad cI cL (va_up w 45 (.inl (cI, 512, .inl f))) t mn f N A rm rP rN rA bd := by
  obtain ⟨h1, h2, h3, h4, h5, h6, h7, h8⟩ := h
  exact ⟨(va_up_ne _ _ (by omega)).trans h1, (va_up_ne _ _ (by omega)).trans h2, va_up_self _ _ _, (va_up_ne _ _ (by omega)).trans h4, (va_up_ne _ _ (by omega)).trans h5, (va_up_ne _ _ (by omega)).trans h6, (va_up_ne _ _ (by omega)).trans h7, (va_up_ne _ _ (by omega)).trans h8⟩
theorem isMod.up46 (h : isMod ad cI cL w t mn P N A rm rP rN rA bd) (f : Nat → Int64) : isMod ad cI cL (va_up w 46 (.inl (cL, 512, .inr (.inl f)))) t mn P f A rm rP rN rA bd := by
  obtain ⟨h1, h2, h3, h4, h5, h6, h7, h8⟩ := h
  exact ⟨(va_up_ne _ _ (by omega)).trans h1, (va_up_ne _ _ (by omega)).trans h2, (va_up_ne _ _ (by omega)).trans h3, va_up_self _ _ _, (va_up_ne _ _ (by omega)).trans h5, (va_up_ne _ _ (by omega)).trans h6, (va_up_ne _ _ (by omega)).trans h7, (va_up_ne _ _ (by omega)).trans h8⟩
theorem isMod.up47 (h : isMod ad cI cL w t mn P N A rm rP rN rA bd) (f : Nat → Int64) : isMod ad cI cL (va_up w 47 (.inl (cL, 512, .inr (.inl f)))) t mn P N f rm rP rN rA bd := by
  obtain ⟨h1, h2, h3, h4, h5, h6, h7, h8⟩ := h
  exact ⟨(va_up_ne _ _ (by omega)).trans h1, (va_up_ne _ _ (by omega)).trans h2, (va_up_ne _ _ (by omega)).trans h3, (va_up_ne _ _ (by omega)).trans h4, va_up_self _ _ _, (va_up_ne _ _ (by omega)).trans h6, (va_up_ne _ _ (by omega)).trans h7, (va_up_ne _ _ (by omega)).trans h8⟩
theorem isMod.up48 (h : isMod ad cI cL w t mn P N A rm rP rN rA bd) (f : Nat → Int32) : isMod ad cI cL (va_up w 48 (.inl (cI, 130, .inl f))) t mn P N A rm f rN rA bd := by
  obtain ⟨h1, h2, h3, h4, h5, h6, h7, h8⟩ := h
  exact ⟨(va_up_ne _ _ (by omega)).trans h1, (va_up_ne _ _ (by omega)).trans h2, (va_up_ne _ _ (by omega)).trans h3, (va_up_ne _ _ (by omega)).trans h4, (va_up_ne _ _ (by omega)).trans h5, va_up_self _ _ _, (va_up_ne _ _ (by omega)).trans h7, (va_up_ne _ _ (by omega)).trans h8⟩
theorem isMod.up49 (h : isMod ad cI cL w t mn P N A rm rP rN rA bd) (f : Nat → Int64) : isMod ad cI cL (va_up w 49 (.inl (cL, 130, .inr (.inl f)))) t mn P N A rm rP f rA bd := by
  obtain ⟨h1, h2, h3, h4, h5, h6, h7, h8⟩ := h
  exact ⟨(va_up_ne _ _ (by omega)).trans h1, (va_up_ne _ _ (by omega)).trans h2, (va_up_ne _ _ (by omega)).trans h3, (va_up_ne _ _ (by omega)).trans h4, (va_up_ne _ _ (by omega)).trans h5, (va_up_ne _ _ (by omega)).trans h6, va_up_self _ _ _, (va_up_ne _ _ (by omega)).trans h8⟩
theorem isMod.up50 (h : isMod ad cI cL w t mn P N A rm rP rN rA bd) (f : Nat → Int64) : isMod ad cI cL (va_up w 50 (.inl (cL, 130, .inr (.inl f)))) t mn P N A rm rP rN f bd := by
  obtain ⟨h1, h2, h3, h4, h5, h6, h7, h8⟩ := h
  exact ⟨(va_up_ne _ _ (by omega)).trans h1, (va_up_ne _ _ (by omega)).trans h2, (va_up_ne _ _ (by omega)).trans h3, (va_up_ne _ _ (by omega)).trans h4, (va_up_ne _ _ (by omega)).trans h5, (va_up_ne _ _ (by omega)).trans h6, (va_up_ne _ _ (by omega)).trans h7, va_up_self _ _ _⟩
theorem sM_fr {F : Nat → Int → Int64} (h : sM ad cI cL w t F) (hf : ∀ x, 43 ≤ x → x ≤ 50 → u x = w x) : sM ad cI cL u t F := by
  obtain ⟨mn, P, N, A, rm, rP, rN, rA, bd, h1, h2⟩ := h
  exact ⟨mn, P, N, A, rm, rP, rN, rA, bd, h1.keep hf, h2⟩
end ISM
/-- the key at place i of BAG j -/
def kM (P : Nat → Int32) (N : Nat → Int64) (j i : Nat) : Int := kv (P (64 * j + i)) (N (64 * j + i))
section MB
variable {mn mn' P P' : Nat → Int32} {N N' A A' : Nat → Int64} {F : Nat → Int → Int64} {j c : Nat} {G : Int → Int64}
theorem mBag_up (h : mBag mn P N A F) (hmn : ∀ i, ¬ i = j → mn' i = mn i) (hP : ∀ y, (y < 64 * j ∨ 64 * j + 64 ≤ y) → P' y = P y) (hN : ∀ y, (y < 64 * j ∨ 64 * j + 64 ≤ y) → N' y = N y) (hA : ∀ y, (y < 64 * j ∨ 64 * j + 64 ≤ y) → A' y = A y)
    (hc : c ≤ 64) (e : mn' j = nI c) (hR : mRep c (fun i => P' (64 * j + i)) (fun i => N' (64 * j + i)) (fun i => A' (64 * j + i)) G) : mBag mn' P' N' A' (va_up F j G) := by
  intro i hi
  by_cases q : i = j
  · subst q
    rw [va_up_self]
    exact ⟨c, hc, e, hR⟩
  · rw [va_up_ne _ _ q]
    obtain ⟨d, h1, h2, h3⟩ := h i hi
    exact ⟨d, h1, (hmn i q).trans h2, mRep_cg h3 (fun x hx => ⟨hP _ (by omega), hN _ (by omega), hA _ (by omega)⟩)⟩
theorem upd_s {f : Nat → Int32} {k : Nat} {x : Int32} : upd f k x k = x := if_pos rfl
theorem upd_n {f : Nat → Int32} {k j : Nat} {x : Int32} (h : ¬ j = k) : upd f k x j = f j := if_neg h
theorem updL_s {f : Nat → Int64} {k : Nat} {x : Int64} : vp_updL f k x k = x := if_pos rfl
theorem updL_n {f : Nat → Int64} {k j : Nat} {x : Int64} (h : ¬ j = k) : vp_updL f k x j = f j := if_neg h
/-- how the reference stores: over what is there -/
theorem mS_set {k : Nat} {q : Int32} {x v : Int64} (h : mBag mn P N A F) (hj : j < 8) (hc : c ≤ 64) (e : mn j = nI c) (hk : k < c) (ek : kM P N j k = kv q x) (hv : ¬ v = 0) : mBag mn (upd P (64 * j + k) q) (vp_updL N (64 * j + k) x) (vp_updL A (64 * j + k) v) (va_up F j (fUp (F j) (kv q x) v)) := by
  obtain ⟨d, h1, h2, h3⟩ := h j hj
  have ed : d = c := (nI_eq (by omega) (by omega)).mp (h2.symm.trans e)
  subst ed
  obtain ⟨e1, e2⟩ := kv_inj.mp ek
  refine mBag_up h (fun i _ => rfl) (fun y hy => upd_n (by omega)) (fun y hy => updL_n (by omega)) (fun y hy => updL_n (by omega)) hc e ?_
  refine mRep_cg (mRep_set (a' := fun i => vp_updL A (64 * j + k) v (64 * j + i)) h3 hk ek hv (fun i hi => ?_)) (fun i hi => ⟨?_, ?_, rfl⟩)
  · show vp_updL A (64 * j + k) v (64 * j + i) = if i = k then v else A (64 * j + i)
    by_cases z : i = k
    · rw [if_pos z, z, updL_s]
    · rw [if_neg z, updL_n (by omega)]
  · by_cases z : i = k
    · rw [z, upd_s, e1]
    · rw [upd_n (by omega)]
  · by_cases z : i = k
    · rw [z, updL_s, e2]
    · rw [updL_n (by omega)]
/-- .. behind the last -/
theorem mS_app {q : Int32} {x v : Int64} (h : mBag mn P N A F) (hj : j < 8) (hc : c < 64) (e : mn j = nI c) (h0 : F j (kv q x) = 0) (hv : ¬ v = 0) : mBag (upd mn j (nI (c + 1))) (upd P (64 * j + c) q) (vp_updL N (64 * j + c) x) (vp_updL A (64 * j + c) v) (va_up F j (fUp (F j) (kv q x) v)) := by
  obtain ⟨d, h1, h2, h3⟩ := h j hj
  have ed : d = c := (nI_eq (by omega) (by omega)).mp (h2.symm.trans e)
  subst ed
  refine mBag_up (c := d + 1) h (fun i hi => upd_n hi) (fun y hy => upd_n (by omega)) (fun y hy => updL_n (by omega)) (fun y hy => updL_n (by omega)) (by omega) upd_s ?_
  refine mRep_cg (mRep_app h3 h0 hv) (fun i hi => ⟨?_, ?_, ?_⟩)
  · by_cases z : i = d
    · rw [z, upd_s, upd_s]
    · rw [upd_n (by omega), upd_n z]
  · by_cases z : i = d
    · rw [z, updL_s, updL_s]
    · rw [updL_n (by omega), updL_n z]
  · by_cases z : i = d
    · rw [z, updL_s, updL_s]
    · rw [updL_n (by omega), updL_n z]
/-- .. 0: the last comes into the gap -/
theorem mS_del {k : Nat} {q : Int32} {x : Int64} (h : mBag mn P N A F) (hj : j < 8) (hc : c ≤ 64) (e : mn j = nI c) (hk : k < c) (ek : kM P N j k = kv q x) :
    mBag (upd mn j (nI (c - 1))) (upd (upd P (64 * j + k) q) (64 * j + k) (upd P (64 * j + k) q (64 * j + (c - 1)))) (vp_updL (vp_updL N (64 * j + k) x) (64 * j + k) (vp_updL N (64 * j + k) x (64 * j + (c - 1)))) (vp_updL (vp_updL A (64 * j + k) 0) (64 * j + k) (vp_updL A (64 * j + k) 0 (64 * j + (c - 1)))) (va_up F j (fUp (F j) (kv q x) 0)) := by
  obtain ⟨d, h1, h2, h3⟩ := h j hj
  have ed : d = c := (nI_eq (by omega) (by omega)).mp (h2.symm.trans e)
  subst ed
  refine mBag_up (c := d - 1) h (fun i hi => upd_n hi) (fun y hy => by rw [upd_n (by omega), upd_n (by omega)]) (fun y hy => by rw [updL_n (by omega), updL_n (by omega)]) (fun y hy => by rw [updL_n (by omega), updL_n (by omega)]) (by omega) upd_s ?_
  refine mRep_del h3 hk ek (fun i hi => ⟨?_, ?_, ?_⟩)
  · by_cases z : i = k
    · rw [if_pos z, z, upd_s, upd_n (by omega)]
    · rw [if_neg z, upd_n (by omega), upd_n (by omega)]
  · by_cases z : i = k
    · rw [if_pos z, z, updL_s, updL_n (by omega)]
    · rw [if_neg z, updL_n (by omega), updL_n (by omega)]
  · by_cases z : i = k
    · rw [if_pos z, z, updL_s, updL_n (by omega)]
    · rw [if_neg z, updL_n (by omega), updL_n (by omega)]
/-- the row becomes BAG j -/
theorem mS_row {rm : Nat} {rP : Nat → Int32} {rN rA : Nat → Int64} (h : mBag mn P N A F) (hr : rm ≤ 64) (hR : mRep rm rP rN rA G) (hP : (∀ i, i < rm → P' (64 * j + i) = rP i) ∧ ∀ y, (y < 64 * j ∨ 64 * j + 64 ≤ y) → P' y = P y) (hN : (∀ i, i < rm → N' (64 * j + i) = rN i) ∧ ∀ y, (y < 64 * j ∨ 64 * j + 64 ≤ y) → N' y = N y) (hA : (∀ i, i < rm → A' (64 * j + i) = rA i) ∧ ∀ y, (y < 64 * j ∨ 64 * j + 64 ≤ y) → A' y = A y) :
    mBag (upd mn j (nI rm)) P' N' A' (va_up F j G) :=
  mBag_up h (fun i hi => upd_n hi) hP.2 hN.2 hA.2 hr upd_s (mRep_cg hR (fun i hi => ⟨hP.1 i hi, hN.1 i hi, hA.1 i hi⟩))
theorem cpI_s {rP : Nat → Int32} {k : Nat} (h : (∀ i, i < k → P' (64 * j + i) = rP i) ∧ ∀ y, (y < 64 * j ∨ 64 * j + 64 ≤ y) → P' y = P y) (hk : k < 64) : (∀ i, i < k + 1 → upd P' (64 * j + k) (rP k) (64 * j + i) = rP i) ∧ ∀ y, (y < 64 * j ∨ 64 * j + 64 ≤ y) → upd P' (64 * j + k) (rP k) y = P y := by
  refine ⟨fun i hi => ?_, fun y hy => ?_⟩
  · by_cases z : i = k
    · rw [z, upd_s]
    · rw [upd_n (by omega)]
      exact h.1 i (by omega)
  · rw [upd_n (by omega)]
    exact h.2 y hy
theorem cpL_s {rN : Nat → Int64} {k : Nat} (h : (∀ i, i < k → N' (64 * j + i) = rN i) ∧ ∀ y, (y < 64 * j ∨ 64 * j + 64 ≤ y) → N' y = N y) (hk : k < 64) : (∀ i, i < k + 1 → vp_updL N' (64 * j + k) (rN k) (64 * j + i) = rN i) ∧ ∀ y, (y < 64 * j ∨ 64 * j + 64 ≤ y) → vp_updL N' (64 * j + k) (rN k) y = N y := by
  refine ⟨fun i hi => ?_, fun y hy => ?_⟩
  · by_cases z : i = k
    · rw [z, updL_s]
    · rw [updL_n (by omega)]
      exact h.1 i (by omega)
  · rw [updL_n (by omega)]
    exact h.2 y hy
theorem mB_at (h : mBag mn P N A F) (hj : j < 8) : ∃ c, c ≤ 64 ∧ mn j = nI c ∧ mRep c (fun i => P (64 * j + i)) (fun i => N (64 * j + i)) (fun i => A (64 * j + i)) (F j) := h j hj
theorem mB_no (h : mRep c (fun i => P (64 * j + i)) (fun i => N (64 * j + i)) (fun i => A (64 * j + i)) G) {x : Int} (hno : ∀ k, k < c → ¬ kM P N j k = x) : G x = 0 := mlook_n h hno
theorem mB_yes (h : mRep c (fun i => P (64 * j + i)) (fun i => N (64 * j + i)) (fun i => A (64 * j + i)) G) {x : Int} {k : Nat} (hk : k < c) (e : kM P N j k = x) : G x = A (64 * j + k) ∧ ¬ G x = 0 := ⟨by have e9 := mlook_y h hk e; exact e9, by rw [← e]; exact h.2.1.1 k hk⟩
end MB
/-- a flag that is 0 just where Q holds -/
def bZ (b : Int32) (Q : Prop) : Prop := b = 0 ↔ Q
theorem bZ_1 {Q : Prop} (h : ¬ Q) : bZ (nI 1) Q := ⟨fun z => absurd z (by decide), fun z => absurd z h⟩
theorem bZ_0 {Q : Prop} (h : Q) : bZ (nI 0) Q := ⟨fun _ => h, fun _ => by decide⟩
/-- the keys of a row that inOrder has looked at -/
theorem io_no {P : Nat → Int32} {N : Nat → Int64} {j c i z : Nat} {P2 : Nat → Int32} {N2 A A2 : Nat → Int64} {G : Int → Int64} (hm : mRep c (fun i => P (64 * j + i)) (fun i => N (64 * j + i)) (fun i => A (64 * j + i)) G) (hR : cRep z P2 N2 A2 G) (hi : i < z) (hno : ∀ k, k < c → ¬ cLt (kM P N j) (kM P N j k) c = i) : False := by
  have ez : z = c := card_eq (eS_I hR.2.1) hR.2.2.1 hm.1 hm.2.1
  subst ez
  obtain ⟨k, hk, e⟩ := hm.2.1.2 _ (hR.2.2.1.1 i hi)
  refine hno k hk ?_
  show cLt (kM P N j) (kk (fun i => P (64 * j + i)) (fun i => N (64 * j + i)) k) z = i
  rw [e]
  exact rank_eq (m := kM P N j) hm.1 hm.2.1 hR.2.1 hR.2.2.1 hi
theorem io_yes {P : Nat → Int32} {N : Nat → Int64} {j c i z k : Nat} {P2 : Nat → Int32} {N2 A A2 : Nat → Int64} {G : Int → Int64} (hm : mRep c (fun i => P (64 * j + i)) (fun i => N (64 * j + i)) (fun i => A (64 * j + i)) G) (hR : cRep z P2 N2 A2 G) (hi : i < z) (hk : k < c) (e : cLt (kM P N j) (kM P N j k) c = i) : P (64 * j + k) = P2 i ∧ N (64 * j + k) = N2 i ∧ A (64 * j + k) = A2 i := by
  have ez : z = c := card_eq (eS_I hR.2.1) hR.2.2.1 hm.1 hm.2.1
  subst ez
  have q : kM P N j k = kk P2 N2 i := rank_at (m := kM P N j) hm.1 hm.2.1 hR.2.1 hR.2.2.1 hi hk e
  obtain ⟨q1, q2⟩ := kv_inj.mp q
  refine ⟨q1, q2, ?_⟩
  rw [hR.2.2.2 i hi, ← q]
  exact hm.2.2 k hk
