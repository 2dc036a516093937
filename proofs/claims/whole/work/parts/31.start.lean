/-! THE CLAIM OUT OF ONE WALK OF THE LAW'S BODY. Your part is whole_start (and what it stands on); all else here is the same for every law, but numbers. -/
def R_law : String := "CoinBagLaw"
def lw_P (b : Addr) (xs : List Int32) (args : Array Value) (s : State) : Prop := args = #[.ref b] ∧ s.IntsAt b xs ∧ xs.length ≤ 3584 ∧ (Jvm.Cond.and given_1 narrow_1).before args s = true
def lw_Q (_ : Array Value) (s : State) (o : Outcome) (t : State) : Prop := o = .returned (some (.int 1)) ∧ Framed s o t [] 601024 7293034
def lw_Z (below : List Frame) (a : Array Value) (s : State) : State → Prop := fun t => ∃ o, t.status = .running ∧ Ended t below o ∧ lw_Q a s o t
/-- the law's own end, with 1 on the stack, nothing written that was there before, its room as the claim has it -/
theorem lw_ret {p : Program} {l : Launch} {e : Env} {s : State} {m : MethodId} {below : List Frame} {meth : Method} {c : Code} {b : Nat} (hx : p.tables.exec = Jvm.exec) (hb : c.code = code) (hr : meth.sig.returnType = ret) (hlocks : meth.locks = false) {pc : Nat} {H : Heap} {ls : Array Slot} (hdg : decode code pc = .ok (.ireturn, 1)) : W p l e room_1 s m #[Value.ref b] below meth c H [] 601024 7293034 (lw_Z below #[Value.ref b] s) (F0 m pc ls [.int 1]) := by
  intro T hT X
  obtain ⟨fs, hret, hrun, hended, hW, hframe⟩ := X.leave (v := some (.int 1)) (hlocks := hlocks) (fun h => by rw [hr] at h; cases h)
  have hmeth' : T.vm.method? m = some meth := X.method'
  refine ⟨T.setFrames fs, ?_, .returned (some (.int 1)), hrun, hended, rfl, ⟨_, rfl⟩, hW, hframe⟩
  jvm_step X.here [X.here.top, hx, hb, hdg, hmeth', hr, ret, narrow_b1]
  (try refine ⟨rfl, ?_⟩); (try refine ⟨rfl, ?_⟩)
  first | (intro acts; rw [hret _ acts rfl rfl rfl]) | rw [hret _ _ rfl rfl rfl]
  exact Steps.refl _
/-- what holds at the law's entry: the machine, the code, the tables' words (any of lw_tbl by 'hts w (by decide +kernel)'), the script of L ints xs at the cell b, what the Statement gives of the start (any of its parts by flat_of_before) -/
def lw_At (p : Program) (s : State) (m : MethodId) (meth : Method) (c : Code) (b L : Nat) (xs : Nat → Int32) : Prop :=
  p.tables.exec = Jvm.exec ∧ c.code = code ∧ meth.sig.returnType = ret ∧ c.maxLocals = 8 ∧ s.vm.findClass R_law = some m.cls ∧ (∀ w ∈ lw_tbl, w.before #[Value.ref b] s = true) ∧ va_X b L xs s s.heap ∧ b < s.heap.size ∧ meth.locks = false ∧ (Jvm.Cond.and given_1 narrow_1).before #[Value.ref b] s = true
/-! what the law's walk stands on -/
def lj (a b : Int32) : Int64 := (a.toInt64 <<< ((nI 32).toInt64 &&& 63)) ||| (b.toInt64 &&& 4294967295)
theorem law_hts {b : Nat} {s : State} (h : ∀ w ∈ lw_tbl, w.before #[Value.ref b] s = true) : ∀ w ∈ (Cond.initialized "CoinBag") :: gW, w.before #[Value.ref b] s = true := fun w hw => by
  rcases List.mem_cons.mp hw with e | e
  · rw [e]
    exact h _ (by decide +kernel)
  · exact h w (List.mem_filter.mp e).1
section QL
variable {p : Program} {l : Launch} {e : Env} {R : Room} {s : State} {m : MethodId} {args : Array Value} {below : List Frame} {meth : Method} {c : Code} {H : Heap} {locs : List Loc} {cells slots : Nat} {Q : State → Prop}
variable {cc : ByteArray} {pc : Nat} {ls : Array Slot} {rest st0 : List Value} {D : va_G} {cl : List vw_C} {tys : List (ClassId × FieldType)} {n N0 : Nat} {ad : Nat → Nat} {w : Nat → va_E} {H0 : Heap} {A : Nat → Prop}
theorem q_sld (hx : p.tables.exec = Jvm.exec) (hb : c.code = cc) {b L : Nat} {xs : Nat → Int32} (hX : va_X b L xs s H0) (hbl : b < H0.size) (hbA : ¬ A b) (hS : va_S A H0 H locs) (j : Nat) {x : Int32} (he : x = nI j) (hj : j < L) (hL : L < 2 ^ 31) (hdg : decode cc pc = .ok (.iaload, 1))
    (kk : W p l e R s m args below meth c H locs cells slots Q (F0 m (pc + 1) ls (.int (xs j) :: rest))) : W p l e R s m args below meth c H locs cells slots Q (F0 m pc ls (.int x :: .ref b :: rest)) := by
  subst he
  refine va_sld hx hb hX hbl hbA hS (vp_in_nI hj hL) hdg ?_
  rw [nI_clamp (Nat.lt_trans hj hL)]
  exact kk
theorem q_calliX {a : Array Value} {post : Int32 → (Nat → va_E) → Prop} (hr : va_Run p l e R s m args below meth c H locs cells slots 1 6 (F0 m pc ls st0) rest (va_Qi post (sPr D cl tys n ad N0) (fun q => N0 ≤ q) a) (fun q => N0 ≤ q)) (hZ : sZ D cl n ad (fun q => N0 ≤ q) H0 w H locs)
    (kk : ∀ (r : Int32) (u : Nat → va_E) (H1 : Heap) (locs1 : List Loc), post r u → sZ D cl n ad (fun q => N0 ≤ q) H0 u H1 locs1 → W p l e R s m args below meth c H1 locs1 (cells + 1) (slots + 6) Q (F0 m (pc + 3) ls (.int r :: rest))) : W p l e R s m args below meth c H locs cells slots Q (F0 m pc ls st0) :=
  va_calli hr hZ.2.2 (fun _ _ h => h) (fun _ h => h) (fun r u t H1 locs1 ht _ hp hB _ _ hS => kk r u H1 locs1 hp (q_back hB ht hS))
end QL
section ST
variable {ad : Nat → Nat} {cI cL : ClassId} {w : Nat → va_E} {t : Int32} {F : Nat → Int → Int64} {j : Nat}
theorem sM_43 (h : sM ad cI cL w t F) : ∃ fs : List Value, w 43 = .inr (3, fs) := by
  obtain ⟨mn, P, N, A, rm, rP, rN, rA, bd, h1, -⟩ := h
  exact ⟨_, h1.1⟩
theorem sM_n (h : sM ad cI cL w t F) (hj : j < 8) : ∃ (n : Nat) (kn : Nat → Int), n ≤ 64 ∧ eI n kn ∧ eF n kn (F j) := by
  obtain ⟨mn, P, N, A, rm, rP, rN, rA, bd, -, h1⟩ := h
  obtain ⟨z, a, -, d⟩ := h1 j hj
  exact ⟨z, _, a, d.1, d.2.1⟩
end ST
theorem atR_eq {P : Nat → Int32} {N A : Nat → Int64} {i wh : Nat} {r r' : Int64} (h : atR P N A i wh r) (h' : atR P N A i wh r') : r = r' := by
  rcases h with ⟨a, b⟩ | ⟨a, b⟩ | ⟨a, b⟩ <;> rcases h' with ⟨a', b'⟩ | ⟨a', b'⟩ | ⟨a', b'⟩ <;> first | (rw [b, b']; done) | omega
theorem cmR_eq {M W : Prop} {r r' : Int32} (h : cmR M W r) (h' : cmR M W r') : r = r' := by
  rcases h with ⟨a, b, d⟩ | ⟨a, b, d⟩ | ⟨a, b, d⟩ | ⟨a, b, d⟩ <;> rcases h' with ⟨a', b', d'⟩ | ⟨a', b', d'⟩ | ⟨a', b', d'⟩ | ⟨a', b', d'⟩ <;> first | (rw [d, d']; done) | exact absurd a a' | exact absurd a' a | exact absurd b b' | exact absurd b' b
theorem lkR_eq {P : Nat → Int32} {A : Nat → Int64} {z : Nat} {q r r' : Int32} (h : lkR P A z q r) (h' : lkR P A z q r') : r = r' := by
  rcases h with ⟨a, b⟩ | ⟨a, b⟩ | ⟨a, b⟩ | ⟨a, b⟩ <;> rcases h' with ⟨a', b'⟩ | ⟨a', b'⟩ | ⟨a', b'⟩ | ⟨a', b'⟩ <;> first
    | (rw [b, b']; done)
    | exact absurd (a.symm.trans a') (by decide)
    | exact absurd a a'.1
    | exact absurd a a'.2.1
    | exact absurd a a'.2.2
    | exact absurd a' a.1
    | exact absurd a' a.2.1
    | exact absurd a' a.2.2
theorem wh_of {q : Int32} (h : q = 0 ∨ q = 1 ∨ q = 2) : ∃ wh : Nat, wh ≤ 2 ∧ q = nI wh := by
  rcases h with h | h | h
  · exact ⟨0, by decide, h⟩
  · exact ⟨1, by decide, h⟩
  · exact ⟨2, by decide, h⟩
/-- the law's loop goes on -/
def lawK (p : Program) (l : Launch) (e : Env) (s : State) (m : MethodId) (below : List Frame) (meth : Method) (c : Code) (b : Nat) (dC : Nat → ClassId) (dI : Nat → Nat → Nat) (cI cL cB : ClassId) (ad : Nat → Nat) (i cells slots : Nat) : Prop :=
  ∀ (w : Nat → va_E) (F : Nat → Int → Int64) (o : Nat → Int64) (t : Int32) (H : Heap) (locs : List Loc) (ls : Array Slot), sC ad cI cL cB w F → sM ad cI cL w t F → w 51 = .inl (cL, 1, .inr (.inl o)) → sZ (dC, dI) vCl 52 ad (fun q => s.heap.size ≤ q) s.heap w H locs →
    lv_has ls 8 [(4, .int (nI i)), (0, .ref b), (1, .ref (ad 0)), (2, .ref (ad 43)), (3, .ref (ad 51))] → W p l e room_1 s m #[Value.ref b] below meth c H locs cells slots (lw_Z below #[Value.ref b] s) (F0 m 1486 ls [])
section LS
variable {p : Program} {s : State} {m : MethodId} {meth : Method} {c : Code} {b L : Nat} {xs : Nat → Int32}
theorem st_R {b : Nat} {s : State} {k : Nat} {tx : String} (h1 : (Cond.stringRef "CoinBag" k tx).before #[Value.ref b] s = true) (h2 : (Cond.exactly (.string "CoinBag" k) "java/lang/String").before #[Value.ref b] s = true) : ∃ a, vk_R "CoinBag" k tx a s := by
  obtain ⟨a, -, -, -, q1, -⟩ := Cond.exactly_spec (args := #[Value.ref b]) (first := s) (o := none) (s := s) (idx := []) (t := .string "CoinBag" k) (cls := "java/lang/String") h2
  exact ⟨a, vk_R.of h1 q1⟩
theorem law_Am (C0 : lw_At p s m meth c b L xs) : sAm s.heap.size s := by
  obtain ⟨-, -, -, -, -, hts, -, -, -, hgv⟩ := C0
  have hf := flat_of_before _ hgv
  have hA : ∀ a : Nat, a < s.heap.size → ¬ (fun q => s.heap.size ≤ q) a := fun a h => Nat.not_le.mpr h
  refine ⟨fun w hw => ?_, va_Nw.of rfl (hts _ (by decide +kernel)), va_Nw.of rfl (hts _ (by decide +kernel)), va_Nw.of rfl (hts _ (by decide +kernel)), va_Nw.of rfl (hts _ (by decide +kernel)), vx_Zqof (hts _ (by decide +kernel)) (hts _ (by decide +kernel)) (hf _ (by decide +kernel)) hA, vx_Zqof (hts _ (by decide +kernel)) (hts _ (by decide +kernel)) (hf _ (by decide +kernel)) hA,
    st_R (hts _ (by decide +kernel)) (hf _ (by decide +kernel)), st_R (hts _ (by decide +kernel)) (hf _ (by decide +kernel)), st_R (hts _ (by decide +kernel)) (hf _ (by decide +kernel)), st_R (hts _ (by decide +kernel)) (hf _ (by decide +kernel)), va_Nc.of (hf _ (by decide +kernel))⟩
  have h9 := List.mem_filter.mp hw
  have h8 := h9.2
  simp only [Bool.and_eq_true] at h8
  exact va_Nw.of h8.1 (hts w h9.1)
theorem ar_of {ty : FieldType} {b : Nat} {s : State} (h : (Cond.arrayClass ty).before #[Value.ref b] s = true) : ∃ cA : ClassId, ArrOfT s cA ty ∧ s.vm.findClass ("[" ++ ty.toString) = some cA := by
  obtain ⟨cA, kA, comp, h1, h2, h3⟩ := Cond.arrayClass_spec h
  exact ⟨cA, fun n z => ⟨fun k h => (by cases h), kA, h2, comp, h3⟩, h1⟩
theorem law_K (C0 : lw_At p s m meth c b L xs) : va_AO "CoinBag$Bag" s ∧ ∃ (dC : Nat → ClassId) (dI : Nat → Nat → Nat) (cI cL cB : ClassId), va_K (dC, dI) vCl [(cI, .int), (cL, .long), (cB, .object "CoinBag$Bag")] s := by
  obtain ⟨-, -, -, -, -, hts, -, -, -, hgv⟩ := C0
  have hAO : va_AO "CoinBag$Bag" s := va_AO.of (hts _ (by decide +kernel))
  refine ⟨hAO, ?_⟩
  have hg : ∀ w ∈ gW, w ∈ lw_tbl := fun w hw => (List.mem_filter.mp hw).1
  obtain ⟨c0, i0, k0⟩ := u_known (C := R_Bag) (T := T_Bag) (N := 4) (n := 4) hts (fun w h => hg w (inT_Bag w h)) (hts _ (by decide +kernel))
  obtain ⟨c1, i1, k1⟩ := u_known (C := R_Prs) (T := T_Prs) (N := 5) (n := 5) hts (fun w h => hg w (inT_Prs w h)) (hts _ (by decide +kernel))
  obtain ⟨c2, i2, k2⟩ := u_known (C := R_CB) (T := T_CB) (N := 3) (n := 3) hts (fun w h => hg w (inT_CB w h)) (hts _ (by decide +kernel))
  obtain ⟨c3, i3, k3⟩ := u_known (C := R_Mod) (T := T_Mod) (N := 10) (n := 10) hts (fun w h => hg w (inT_Mod w h)) (hts _ (by decide +kernel))
  obtain ⟨cI, a1, a2⟩ := ar_of (ty := .int) (hts _ (by decide +kernel))
  obtain ⟨cL, b1, b2⟩ := ar_of (ty := .long) (hts _ (by decide +kernel))
  obtain ⟨comp, cB, kB, h1, h2, h3, h4, h5⟩ := Cond.arrayOver_spec hAO
  refine ⟨fun k => if k = 0 then c0 else if k = 1 then c1 else if k = 2 then c2 else c3, fun k => if k = 0 then i0 else if k = 1 then i1 else if k = 2 then i2 else i3, cI, cL, cB, fun k q hq => ?_, fun k q hq => ?_⟩
  · match k, hq with
    | 0, hq => cases hq; exact k0
    | 1, hq => cases hq; exact k1
    | 2, hq => cases hq; exact k2
    | 3, hq => cases hq; exact k3
    | k + 4, hq => simp [vCl] at hq
  · match k, hq with
    | 0, hq => cases hq; exact ⟨a1, a2⟩
    | 1, hq => cases hq; exact ⟨b1, b2⟩
    | 2, hq => cases hq; exact ⟨fun n z => ⟨fun k h => (by cases h), kB, h3, comp, h4⟩, kB, comp, h3, h4, h1, h5⟩
    | k + 3, hq => simp at hq
end LS
