/-! One world for all: the cells at the addresses ad 0 .. ad (n - 1), the k-th holding w k. -/
def wsW (n : Nat) (ad : Nat → Nat) (w : Nat → va_E) : va_W := (List.range n).map (fun k => (ad k, w k))
theorem wsW_len (n : Nat) (ad : Nat → Nat) (w : Nat → va_E) : (wsW n ad w).length = n := by
  rw [wsW, List.length_map, List.length_range]
theorem wsW_get {n : Nat} {ad : Nat → Nat} {w : Nat → va_E} {k : Nat} (h : k < n) : (wsW n ad w)[k]? = some (ad k, w k) := by
  rw [wsW, List.getElem?_map, List.getElem?_range h]
  rfl
theorem wsW_at {n : Nat} {ad : Nat → Nat} {w : Nat → va_E} {k : Nat} {e : va_E} (h : k < n) (hw : w k = e) : (wsW n ad w)[k]? = some (ad k, e) := by
  rw [wsW_get h, hw]
theorem wsW_set {n : Nat} {ad : Nat → Nat} {w : Nat → va_E} {k : Nat} {e : va_E} (h : k < n) : (wsW n ad w).set k (ad k, e) = wsW n ad (va_up w k e) := by
  apply List.ext_getElem?
  intro j
  by_cases hj : j = k
  · subst hj
    rw [List.getElem?_set_self (by rw [wsW_len]; exact h), wsW_get h, va_up_self]
  · rw [List.getElem?_set_ne (Ne.symm hj)]
    by_cases hn : j < n
    · rw [wsW_get hn, wsW_get hn, va_up_ne _ _ hj]
    · rw [List.getElem?_eq_none (by rw [wsW_len]; omega), List.getElem?_eq_none (by rw [wsW_len]; omega)]
theorem wsW_push {n : Nat} {ad : Nat → Nat} {w : Nat → va_E} {q : Nat} {e : va_E} : wsW n ad w ++ [(q, e)] = wsW (n + 1) (va_up ad n q) (va_up w n e) := by
  rw [wsW, wsW, List.range_succ, List.map_append]
  congr 1
  · apply List.map_congr_left
    intro k hk
    have : k ≠ n := by
      have := List.mem_range.mp hk
      omega
    rw [va_up_ne _ _ this, va_up_ne _ _ this]
  · show [(q, e)] = [(va_up ad n q n, va_up w n e n)]
    rw [va_up_self, va_up_self]
/-- the world, and that nothing else of the old has changed -/
def sZ (D : va_G) (cl : List vw_C) (n : Nat) (ad : Nat → Nat) (A : Nat → Prop) (H0 : Heap) (w : Nat → va_E) (H : Heap) (locs : List Loc) : Prop := va_P D cl (wsW n ad w) H ∧ va_D A (wsW n ad w) ∧ va_S A H0 H locs
/-! what holds of the start and stays: words that aren't kept by the list, the statics and the texts that a throw uses -/
def fW : List Cond := lw_tbl.filter (fun w => w.onTables && w.keepsFace)
def sAm (N0 : Nat) (U : State) : Prop :=
  (∀ w ∈ fW, va_Nw w U) ∧ va_Nw (.methodLinkNest "CoinBag" 15 y_Bag_init "CoinBag") U ∧ va_Nw (.methodLinkNest "CoinBag" 18 y_Prs_init "CoinBag") U ∧ va_Nw (.methodLinkNest "CoinBag$Bag" 41 y_CB_orderOf "CoinBag") U ∧ va_Nw (.methodLinkNest "CoinBag$Pairs" 41 y_CB_orderOf "CoinBag") U ∧
  vx_Zq Bundle.tN "UNASSIGNED_STACK" Bundle.steD (fun q => N0 ≤ q) U U.heap ∧ vx_Zq Bundle.tN "SUPPRESSED_SENTINEL" Bundle.listD (fun q => N0 ≤ q) U U.heap ∧
  (∃ a, vk_R "CoinBag" 128 "there is no such BAG" a U) ∧ (∃ a, vk_R "CoinBag" 133 "there is no such POLICY" a U) ∧ (∃ a, vk_R "CoinBag" 79 "there is no such KIND" a U) ∧ (∃ a, vk_R "CoinBag" 84 "there is no such what" a U) ∧
  va_Nc "java/lang/IllegalArgumentException" "java/lang/IndexOutOfBoundsException" U
theorem nw_mv {w : Cond} {s U : State} (h1 : w.onTables = true) (h2 : w.keepsFace = true) (hW : s.WarmedH U.vm) (h : va_Nw w s) : va_Nw w U := va_tabs h1 (rfl : (s.setVm U.vm).vm = U.vm) (Cond.before_shiftedFace (State.Shifted.of_warmed hW) _ h2 h)
theorem sAm_mv {N0 : Nat} {s t : State} {H : Heap} {locs : List Loc} (h : sAm N0 s) (hS : va_S (fun q => N0 ≤ q) s.heap H locs) (ht : t.heap = H) (hW : s.WarmedH t.vm) : sAm N0 t := by
  obtain ⟨h0, h1, h2, h3, h4, h5, h6, ⟨a7, h7⟩, ⟨a8, h8⟩, ⟨a9, h9⟩, ⟨a10, h10⟩, h11⟩ := h
  refine ⟨fun w hw => ?_, va_Nw.warmM hW h1, va_Nw.warmM hW h2, va_Nw.warmM hW h3, va_Nw.warmM hW h4, ?_, ?_, ⟨a7, vk_R.warm hW h7⟩, ⟨a8, vk_R.warm hW h8⟩, ⟨a9, vk_R.warm hW h9⟩, ⟨a10, vk_R.warm hW h10⟩, h11.moved hW.alike⟩
  · have hw' := (List.mem_filter.mp hw).2
    simp only [Bool.and_eq_true] at hw'
    exact nw_mv hw'.1 hw'.2 hW (h0 w hw)
  · rw [ht]
    exact vx_Zq.moved hW.alike (h5.kept hS.2.1)
  · rw [ht]
    exact vx_Zq.moved hW.alike (h6.kept hS.2.1)
theorem sAm_call {N0 : Nat} {U : State} {g : JFrame} {mk : MethodId} {a : Array Value} (h : sAm N0 U) : sAm N0 (U.calling g mk a) :=
  sAm_mv (H := U.heap) (locs := []) h va_S.rf rfl (State.WarmedH.refl U)
/-- what a method finds, and leaves: the world w -/
def sPr (D : va_G) (cl : List vw_C) (tys : List (ClassId × FieldType)) (n : Nat) (ad : Nat → Nat) (N0 : Nat) (w : Nat → va_E) (U : State) : Prop := va_P D cl (wsW n ad w) U.heap ∧ va_K D cl tys U ∧ va_D (fun q => N0 ≤ q) (wsW n ad w) ∧ N0 ≤ U.heap.size ∧ sAm N0 U
theorem sPr.blind {D : va_G} {cl : List vw_C} {tys : List (ClassId × FieldType)} {n : Nat} {ad : Nat → Nat} {N0 : Nat} {w : Nat → va_E} {av : List Value} : FrameBlind (va_Pc av (sPr D cl tys n ad N0 w)) := by
  intro a U g mk q
  obtain ⟨q0, qP, qK, qD, qN, qA⟩ := q
  exact ⟨q0, qP, va_K.moved (u := U) (U := U.calling g mk a) (Vm.Alike.refl U.vm) qK, qD, qN, sAm_call qA⟩
/-! words of the one list -/
theorem gm {c w : Cond} (h : w ∈ gW) : w ∈ c :: gW := List.mem_cons_of_mem _ h
theorem gI {c c2 : Cond} (h : c2 ∈ gW) : GoodIn (c :: gW) (c2 :: gW) := fun w hw => by
  rcases List.mem_cons.mp hw with e | e
  · rw [e]
    exact ⟨gm h, good_of_word (gW_good h)⟩
  · exact ⟨gm e, good_of_word (gW_good e)⟩
theorem gI_S {c c2 : Cond} {own : String} {idx : Nat} {y : MethodName} (h : c2 ∈ gW) (h1 : .methodLink own idx y ∈ gW) (h2 : .static y ∈ gW) (h3 : .initialized y.cls ∈ gW) : GoodIn (c :: gW) (va_wsS own idx y (c2 :: gW)) := fun w hw => by
  unfold va_wsS at hw
  rcases List.mem_append.mp hw with e | e
  · have : w ∈ gW := by
      simp only [List.mem_cons, List.not_mem_nil, or_false] at e
      rcases e with e | e | e <;> (rw [e]; assumption)
    exact ⟨gm this, good_of_word (gW_good this)⟩
  · exact gI h w e
theorem gI_V {c c2 : Cond} {own C : String} {idx : Nat} {y : MethodName} (h : c2 ∈ gW) (h1 : .methodLink own idx y ∈ gW) (h2 : .instanceMethod y ∈ gW) (h3 : .selects C y y ∈ gW) (h4 : .initialized C ∈ gW) : GoodIn (c :: gW) (wsV own idx C y (c2 :: gW)) := fun w hw => by
  unfold wsV at hw
  rcases List.mem_append.mp hw with e | e
  · have : w ∈ gW := by
      simp only [List.mem_cons, List.not_mem_nil, or_false] at e
      rcases e with e | e | e | e <;> (rw [e]; assumption)
    exact ⟨gm this, good_of_word (gW_good this)⟩
  · exact gI h w e
section QW
variable {p : Program} {l : Launch} {e : Env} {R : Room} {s : State} {m : MethodId} {args : Array Value} {below : List Frame} {meth : Method} {c : Code} {H : Heap} {locs : List Loc} {cells slots : Nat} {Q : State → Prop}
variable {cc : ByteArray} {pc : Nat} {ls : Array Slot} {rest : List Value} {D : va_G} {cl : List vw_C} {A : Nat → Prop} {tys : List (ClassId × FieldType)} {n N0 : Nat} {ad : Nat → Nat} {w : Nat → va_E} {H0 : Heap}
theorem q_topi {x y : Int32} (h : x = y) (k : W p l e R s m args below meth c H locs cells slots Q (F0 m pc ls (.int y :: rest))) : W p l e R s m args below meth c H locs cells slots Q (F0 m pc ls (.int x :: rest)) := h ▸ k
theorem q_topl {x y : Int64} (h : x = y) (k : W p l e R s m args below meth c H locs cells slots Q (F0 m pc ls (.long y :: rest))) : W p l e R s m args below meth c H locs cells slots Q (F0 m pc ls (.long x :: rest)) := h ▸ k
theorem q_topv {x y : Value} (h : x = y) (k : W p l e R s m args below meth c H locs cells slots Q (F0 m pc ls (y :: rest))) : W p l e R s m args below meth c H locs cells slots Q (F0 m pc ls (x :: rest)) := h ▸ k
theorem q_iald (hx : p.tables.exec = Jvm.exec) (hb : c.code = cc) (hK : va_K D cl tys s) (hZ : sZ D cl n ad A H0 w H locs) (k t0 j : Nat) (hk : k < n) {cA : ClassId} {N : Nat} {f : Nat → Int32} (hw : w k = .inl (cA, N, .inl f)) (ht : tys[t0]? = some (cA, .int)) {i : Int32} (hi : i = nI j) (hj : j < N) (hN : N < 2 ^ 31) (hdg : decode cc pc = .ok (.iaload, 1))
    (kk : W p l e R s m args below meth c H locs cells slots Q (F0 m (pc + 1) ls (.int (f j) :: rest))) : W p l e R s m args below meth c H locs cells slots Q (F0 m pc ls (.int i :: .ref (ad k) :: rest)) := by
  subst hi
  refine va_iald hx hb hK hZ.1 k t0 (wsW_at hk hw) ht (vp_in_nI hj hN) hdg ?_
  rw [nI_clamp (Nat.lt_trans hj hN)]
  exact kk
theorem q_lald (hx : p.tables.exec = Jvm.exec) (hb : c.code = cc) (hK : va_K D cl tys s) (hZ : sZ D cl n ad A H0 w H locs) (k t0 j : Nat) (hk : k < n) {cA : ClassId} {N : Nat} {f : Nat → Int64} (hw : w k = .inl (cA, N, .inr (.inl f))) (ht : tys[t0]? = some (cA, .long)) {i : Int32} (hi : i = nI j) (hj : j < N) (hN : N < 2 ^ 31) (hdg : decode cc pc = .ok (.laload, 1))
    (kk : W p l e R s m args below meth c H locs cells slots Q (F0 m (pc + 1) ls (.long (f j) :: rest))) : W p l e R s m args below meth c H locs cells slots Q (F0 m pc ls (.int i :: .ref (ad k) :: rest)) := by
  subst hi
  refine va_lald hx hb hK hZ.1 k t0 (wsW_at hk hw) ht (vp_in_nI hj hN) hdg ?_
  rw [nI_clamp (Nat.lt_trans hj hN)]
  exact kk
theorem q_aald (hx : p.tables.exec = Jvm.exec) (hb : c.code = cc) (hK : va_K D cl tys s) (hZ : sZ D cl n ad A H0 w H locs) (k t0 j : Nat) (hk : k < n) {cA : ClassId} {C : String} {N : Nat} {f : Nat → Option Nat} (hw : w k = .inl (cA, N, .inr (.inr (.inr (.inr f))))) (ht : tys[t0]? = some (cA, .object C)) {i : Int32} (hi : i = nI j) (hj : j < N) (hN : N < 2 ^ 31) {y : Nat} (hf : f j = some y) (hdg : decode cc pc = .ok (.aaload, 1))
    (kk : W p l e R s m args below meth c H locs cells slots Q (F0 m (pc + 1) ls (.ref y :: rest))) : W p l e R s m args below meth c H locs cells slots Q (F0 m pc ls (.int i :: .ref (ad k) :: rest)) := by
  subst hi
  refine va_aldq hx hb hK hZ.1 k t0 (wsW_at hk hw) ht (vp_in_nI hj hN) hdg ?_
  rw [nI_clamp (Nat.lt_trans hj hN), hf]
  exact kk
theorem q_iast (hx : p.tables.exec = Jvm.exec) (hb : c.code = cc) (hK : va_K D cl tys s) (hZ : sZ D cl n ad A H0 w H locs) (k t0 j : Nat) (hk : k < n) {cA : ClassId} {N : Nat} {f : Nat → Int32} (hw : w k = .inl (cA, N, .inl f)) (ht : tys[t0]? = some (cA, .int)) {i x : Int32} (hi : i = nI j) (hj : j < N) (hN : N < 2 ^ 31) (hdg : decode cc pc = .ok (.iastore, 1))
    (kk : ∀ (H1 : Heap) (locs1 : List Loc), sZ D cl n ad A H0 (va_up w k (.inl (cA, N, .inl (upd f j x)))) H1 locs1 → W p l e R s m args below meth c H1 locs1 cells slots Q (F0 m (pc + 1) ls rest)) : W p l e R s m args below meth c H locs cells slots Q (F0 m pc ls (.int x :: .int i :: .ref (ad k) :: rest)) := by
  subst hi
  refine va_iast hx hb hK hZ.1 hZ.2.1 hZ.2.2 k t0 (wsW_at hk hw) ht (vp_in_nI hj hN) hdg (fun H1 locs1 h1 h2 h3 => kk H1 locs1 ?_)
  rw [nI_clamp (Nat.lt_trans hj hN), wsW_set hk] at h1 h2
  exact ⟨h1, h2, h3⟩
theorem q_last (hx : p.tables.exec = Jvm.exec) (hb : c.code = cc) (hK : va_K D cl tys s) (hZ : sZ D cl n ad A H0 w H locs) (k t0 j : Nat) (hk : k < n) {cA : ClassId} {N : Nat} {f : Nat → Int64} (hw : w k = .inl (cA, N, .inr (.inl f))) (ht : tys[t0]? = some (cA, .long)) {i : Int32} {x : Int64} (hi : i = nI j) (hj : j < N) (hN : N < 2 ^ 31) (hdg : decode cc pc = .ok (.lastore, 1))
    (kk : ∀ (H1 : Heap) (locs1 : List Loc), sZ D cl n ad A H0 (va_up w k (.inl (cA, N, .inr (.inl (vp_updL f j x))))) H1 locs1 → W p l e R s m args below meth c H1 locs1 cells slots Q (F0 m (pc + 1) ls rest)) : W p l e R s m args below meth c H locs cells slots Q (F0 m pc ls (.long x :: .int i :: .ref (ad k) :: rest)) := by
  subst hi
  refine va_last hx hb hK hZ.1 hZ.2.1 hZ.2.2 k t0 (wsW_at hk hw) ht (vp_in_nI hj hN) hdg (fun H1 locs1 h1 h2 h3 => kk H1 locs1 ?_)
  rw [nI_clamp (Nat.lt_trans hj hN), wsW_set hk] at h1 h2
  exact ⟨h1, h2, h3⟩
theorem q_aast (hx : p.tables.exec = Jvm.exec) (hb : c.code = cc) (hK : va_K D cl tys s) (hZ : sZ D cl n ad A H0 w H locs) (k t0 j kq ci : Nat) (hk : k < n) (hkq : kq < n) {cA : ClassId} {r : vw_C} {N : Nat} {vs : List Value} {f : Nat → Option Nat} (hw : w k = .inl (cA, N, .inr (.inr (.inr (.inr f))))) (ht : tys[t0]? = some (cA, .object r.1)) (hv : w kq = .inr (ci, vs)) (hc : cl[ci]? = some r) {i : Int32} (hi : i = nI j) (hj : j < N) (hN : N < 2 ^ 31) (hdg : decode cc pc = .ok (.aastore, 1))
    (kk : ∀ (H1 : Heap) (locs1 : List Loc), sZ D cl n ad A H0 (va_up w k (.inl (cA, N, .inr (.inr (.inr (.inr (va_up f j (some (ad kq)))))))) ) H1 locs1 → W p l e R s m args below meth c H1 locs1 cells slots Q (F0 m (pc + 1) ls rest)) : W p l e R s m args below meth c H locs cells slots Q (F0 m pc ls (.ref (ad kq) :: .int i :: .ref (ad k) :: rest)) := by
  subst hi
  refine va_astq hx hb hK hZ.1 hZ.2.1 hZ.2.2 k t0 kq ci (wsW_at hk hw) ht (wsW_at hkq hv) hc (vp_in_nI hj hN) hdg (fun H1 locs1 h1 h2 h3 => kk H1 locs1 ?_)
  rw [nI_clamp (Nat.lt_trans hj hN), wsW_set hk] at h1 h2
  exact ⟨h1, h2, h3⟩
theorem q_get {own ref C : String} {T : u_T} {N ci index : Nat} {Ts : List Cond} (hx : p.tables.exec = Jvm.exec) (hb : c.code = cc) (hts : ∀ w ∈ Ts, w.before args s = true) (hin : ∀ w ∈ u_ws C T N, w ∈ Ts) (hown : s.vm.findClass own = some m.cls) (hK : va_K D cl tys s) (hZ : sZ D cl n ad A H0 w H locs) (k0 : Nat) (hk0 : k0 < n) {fs : List Value} (hw : w k0 = .inr (ci, fs)) (hc : cl[ci]? = some (C, T, N)) (k : Nat) (hk : k < N) (hlink : (Cond.fieldLink own index ref (T k).2.1 (T k).2.2.1).before args s = true) (hsame : ∀ x, s.fieldFound? (T k).1 (T k).2.1 (T k).2.2.1 = some x → s.fieldFound? ref (T k).2.1 (T k).2.2.1 = some x) {v : Value} (hv : fs[k]? = some v) (hdg : decode cc pc = .ok (.getfield index, 3))
    (kk : W p l e R s m args below meth c H locs cells slots Q (F0 m (pc + 3) ls (v :: rest))) : W p l e R s m args below meth c H locs cells slots Q (F0 m pc ls (.ref (ad k0) :: rest)) :=
  va_get hx hb hts hin hown hK hZ.1 k0 (wsW_at hk0 hw) hc k hk hlink hsame hv hdg kk
theorem q_getN {own ref C host : String} {T : u_T} {N ci index : Nat} {Ts : List Cond} (hx : p.tables.exec = Jvm.exec) (hb : c.code = cc) (hts : ∀ w ∈ Ts, w.before args s = true) (hin : ∀ w ∈ u_ws C T N, w ∈ Ts) (hown : s.vm.findClass own = some m.cls) (hK : va_K D cl tys s) (hZ : sZ D cl n ad A H0 w H locs) (k0 : Nat) (hk0 : k0 < n) {fs : List Value} (hw : w k0 = .inr (ci, fs)) (hc : cl[ci]? = some (C, T, N)) (k : Nat) (hk : k < N) (hlink : (Cond.fieldLinkNest own index ref (T k).2.1 (T k).2.2.1 host).before args s = true) (hsame : ∀ x, s.fieldFound? (T k).1 (T k).2.1 (T k).2.2.1 = some x → s.fieldFound? ref (T k).2.1 (T k).2.2.1 = some x) {v : Value} (hv : fs[k]? = some v) (hdg : decode cc pc = .ok (.getfield index, 3))
    (kk : W p l e R s m args below meth c H locs cells slots Q (F0 m (pc + 3) ls (v :: rest))) : W p l e R s m args below meth c H locs cells slots Q (F0 m pc ls (.ref (ad k0) :: rest)) :=
  va_getN hx hb hts hin hown hK hZ.1 k0 (wsW_at hk0 hw) hc k hk hlink hsame hv hdg kk
theorem q_put {own ref C : String} {T : u_T} {N ci index : Nat} {Ts : List Cond} (hx : p.tables.exec = Jvm.exec) (hb : c.code = cc) (hts : ∀ w ∈ Ts, w.before args s = true) (hin : ∀ w ∈ u_ws C T N, w ∈ Ts) (ty0 : Nat → FieldType) (hty : ∀ k, k < N → parseFieldDescriptor (T k).2.2.1 = some (ty0 k)) (hnm : ∀ a, a < N → ∀ b, b < N → a ≠ b → (T a).2.1 ≠ (T b).2.1) (hown : s.vm.findClass own = some m.cls) (hK : va_K D cl tys s) (hZ : sZ D cl n ad A H0 w H locs) (k0 : Nat) (hk0 : k0 < n) {fs : List Value} (hw : w k0 = .inr (ci, fs)) (hc : cl[ci]? = some (C, T, N)) (k : Nat) (hk : k < N) (hlink : (Cond.fieldLink own index ref (T k).2.1 (T k).2.2.1).before args s = true) (hsame : ∀ x, s.fieldFound? (T k).1 (T k).2.1 (T k).2.2.1 = some x → s.fieldFound? ref (T k).2.1 (T k).2.2.1 = some x) (hfin : (T k).2.2.2 = false) {ty : FieldType} {v : Value} (hd : parseFieldDescriptor (T k).2.2.1 = some ty) (hn : narrow ty v = v) (hfit : fits ty v = true) (hl : k < fs.length)
    (hdg : decode cc pc = .ok (.putfield index, 3)) (kk : ∀ (H1 : Heap) (locs1 : List Loc), sZ D cl n ad A H0 (va_up w k0 (.inr (ci, fs.set k v))) H1 locs1 → W p l e R s m args below meth c H1 locs1 cells slots Q (F0 m (pc + 3) ls rest)) : W p l e R s m args below meth c H locs cells slots Q (F0 m pc ls (v :: .ref (ad k0) :: rest)) := by
  refine va_put hx hb hts hin ty0 hty hnm hown hK hZ.1 hZ.2.1 hZ.2.2 k0 (wsW_at hk0 hw) hc k hk hlink hsame hfin hd hn hfit hl hdg (fun H1 locs1 h1 h2 h3 => kk H1 locs1 ?_)
  rw [wsW_set hk0] at h1 h2
  exact ⟨h1, h2, h3⟩
theorem q_end (hK : va_K D cl tys s) (hAm : sAm N0 s) (hZ : sZ D cl n ad (fun q => N0 ≤ q) s.heap w H locs) (hN : N0 ≤ s.heap.size) (t : State) (ht : t.heap = H) (hW : s.WarmedH t.vm) : sPr D cl tys n ad N0 w t :=
  ⟨by rw [ht]; exact hZ.1, va_K.moved hW.alike hK, hZ.2.1, by rw [ht]; exact Nat.le_trans hN hZ.2.2.1, sAm_mv hAm hZ.2.2 ht hW⟩
theorem q_iret {post : Int32 → (Nat → va_E) → Prop} {v : Int32} (hx : p.tables.exec = Jvm.exec) (hb : c.code = cc) (hr : meth.sig.returnType = some .int) (hlocks : meth.locks = false) (hK : va_K D cl tys s) (hAm : sAm N0 s) (hZ : sZ D cl n ad (fun q => N0 ≤ q) s.heap w H locs) (hN : N0 ≤ s.heap.size) (hp : post v w) (hdg : decode cc pc = .ok (.ireturn, 1)) :
    W p l e R s m args below meth c H locs cells slots (MQ below (va_Qi post (sPr D cl tys n ad N0) (fun q => N0 ≤ q)) args s cells slots (fun q => N0 ≤ q)) (F0 m pc ls [.int v]) :=
  W.iret hx hb hr (fun t ht hW => ⟨⟨v, w, rfl, hp, q_end hK hAm hZ hN t ht hW⟩, hZ.2.2.F ht⟩) hZ.2.2.2.2 hdg hlocks
theorem q_zret {post : Int32 → (Nat → va_E) → Prop} {v : Int32} {ty : FieldType} (hx : p.tables.exec = Jvm.exec) (hb : c.code = cc) (hr : meth.sig.returnType = some ty) (hn : narrow ty (.int v) = .int v) (hlocks : meth.locks = false) (hK : va_K D cl tys s) (hAm : sAm N0 s) (hZ : sZ D cl n ad (fun q => N0 ≤ q) s.heap w H locs) (hN : N0 ≤ s.heap.size) (hp : post v w) (hdg : decode cc pc = .ok (.ireturn, 1)) :
    W p l e R s m args below meth c H locs cells slots (MQ below (va_Qi post (sPr D cl tys n ad N0) (fun q => N0 ≤ q)) args s cells slots (fun q => N0 ≤ q)) (F0 m pc ls [.int v]) :=
  W.zret hx hb hr hn (fun t ht hW => ⟨⟨v, w, rfl, hp, q_end hK hAm hZ hN t ht hW⟩, hZ.2.2.F ht⟩) hZ.2.2.2.2 hdg hlocks
theorem q_lret {post : Int64 → (Nat → va_E) → Prop} {v : Int64} (hx : p.tables.exec = Jvm.exec) (hb : c.code = cc) (hr : meth.sig.returnType = some .long) (hlocks : meth.locks = false) (hK : va_K D cl tys s) (hAm : sAm N0 s) (hZ : sZ D cl n ad (fun q => N0 ≤ q) s.heap w H locs) (hN : N0 ≤ s.heap.size) (hp : post v w) (hdg : decode cc pc = .ok (.lreturn, 1)) :
    W p l e R s m args below meth c H locs cells slots (MQ below (va_Ql post (sPr D cl tys n ad N0) (fun q => N0 ≤ q)) args s cells slots (fun q => N0 ≤ q)) (F0 m pc ls [.long v]) :=
  W.lret hx hb hr (fun t ht hW => ⟨⟨v, w, rfl, hp, q_end hK hAm hZ hN t ht hW⟩, hZ.2.2.F ht⟩) hZ.2.2.2.2 hdg hlocks
theorem q_vret {post : (Nat → va_E) → Prop} (hx : p.tables.exec = Jvm.exec) (hb : c.code = cc) (hr : meth.sig.returnType = none) (hlocks : meth.locks = false) (hK : va_K D cl tys s) (hAm : sAm N0 s) (hZ : sZ D cl n ad (fun q => N0 ≤ q) s.heap w H locs) (hN : N0 ≤ s.heap.size) (hp : post w) (hdg : decode cc pc = .ok (.return_, 1)) :
    W p l e R s m args below meth c H locs cells slots (MQ below (va_Qv post (sPr D cl tys n ad N0) (fun q => N0 ≤ q)) args s cells slots (fun q => N0 ≤ q)) (F0 m pc ls []) :=
  W.vret hx hb hr (fun t ht hW => ⟨⟨w, rfl, hp, q_end hK hAm hZ hN t ht hW⟩, hZ.2.2.F ht⟩) hZ.2.2.2.2 hdg hlocks
theorem q_pre (hK : va_K D cl tys s) (hAm : sAm N0 s) (hZ : sZ D cl n ad (fun q => N0 ≤ q) s.heap w H locs) (hN : N0 ≤ s.heap.size) (As : List Value) : PreS s H (va_Pc As (sPr D cl tys n ad N0 w)) As :=
  ⟨sPr.blind, fun U hU hW => ⟨rfl, q_end hK hAm hZ hN U hU hW⟩⟩
theorem q_preV (hK : va_K D cl tys s) (hAm : sAm N0 s) (hZ : sZ D cl n ad (fun q => N0 ≤ q) s.heap w H locs) (hN : N0 ≤ s.heap.size) (As : List Value) (k ci : Nat) (hk : k < n) {r : vw_C} {fs : List Value} (hw : w k = .inr (ci, fs)) (hc : cl[ci]? = some r) : PreV s H r.1 (ad k) (va_Pc (.ref (ad k) :: As) (sPr D cl tys n ad N0 w)) As :=
  ⟨sPr.blind, va_recv hK hZ.1 hc (wsW_at hk hw), fun U hU hW => ⟨rfl, q_end hK hAm hZ hN U hU hW⟩⟩
theorem q_back {t : State} {H1 : Heap} {u : Nat → va_E} (hB : sPr D cl tys n ad N0 u t) (ht : t.heap = H1) (hS : va_S (fun q => N0 ≤ q) H0 H1 locs) : sZ D cl n ad (fun q => N0 ≤ q) H0 u H1 locs :=
  ⟨by rw [← ht]; exact hB.1, hB.2.2.1, hS⟩
theorem q_calli {a : Array Value} {st0 : List Value} {post : Int32 → (Nat → va_E) → Prop} (hr : va_Run p l e R s m args below meth c H locs cells slots 0 0 (F0 m pc ls st0) rest (va_Qi post (sPr D cl tys n ad N0) (fun q => N0 ≤ q) a) (fun q => N0 ≤ q)) (hZ : sZ D cl n ad (fun q => N0 ≤ q) H0 w H locs)
    (kk : ∀ (r : Int32) (u : Nat → va_E) (H1 : Heap) (locs1 : List Loc), post r u → sZ D cl n ad (fun q => N0 ≤ q) H0 u H1 locs1 → W p l e R s m args below meth c H1 locs1 cells slots Q (F0 m (pc + 3) ls (.int r :: rest))) : W p l e R s m args below meth c H locs cells slots Q (F0 m pc ls st0) :=
  va_calli hr hZ.2.2 (fun _ _ h => h) (fun _ h => h) (fun r u t H1 locs1 ht _ hp hB _ _ hS => kk r u H1 locs1 hp (q_back hB ht hS))
theorem q_calll {a : Array Value} {st0 : List Value} {post : Int64 → (Nat → va_E) → Prop} (hr : va_Run p l e R s m args below meth c H locs cells slots 0 0 (F0 m pc ls st0) rest (va_Ql post (sPr D cl tys n ad N0) (fun q => N0 ≤ q) a) (fun q => N0 ≤ q)) (hZ : sZ D cl n ad (fun q => N0 ≤ q) H0 w H locs)
    (kk : ∀ (r : Int64) (u : Nat → va_E) (H1 : Heap) (locs1 : List Loc), post r u → sZ D cl n ad (fun q => N0 ≤ q) H0 u H1 locs1 → W p l e R s m args below meth c H1 locs1 cells slots Q (F0 m (pc + 3) ls (.long r :: rest))) : W p l e R s m args below meth c H locs cells slots Q (F0 m pc ls st0) :=
  va_calll hr hZ.2.2 (fun _ _ h => h) (fun _ h => h) (fun r u t H1 locs1 ht _ hp hB _ _ hS => kk r u H1 locs1 hp (q_back hB ht hS))
theorem q_callv {a : Array Value} {st0 : List Value} {post : (Nat → va_E) → Prop} (hr : va_Run p l e R s m args below meth c H locs cells slots 0 0 (F0 m pc ls st0) rest (va_Qv post (sPr D cl tys n ad N0) (fun q => N0 ≤ q) a) (fun q => N0 ≤ q)) (hZ : sZ D cl n ad (fun q => N0 ≤ q) H0 w H locs)
    (kk : ∀ (u : Nat → va_E) (H1 : Heap) (locs1 : List Loc), post u → sZ D cl n ad (fun q => N0 ≤ q) H0 u H1 locs1 → W p l e R s m args below meth c H1 locs1 cells slots Q (F0 m (pc + 3) ls rest)) : W p l e R s m args below meth c H locs cells slots Q (F0 m pc ls st0) :=
  va_callv hr hZ.2.2 (fun _ _ h => h) (fun _ h => h) (fun u t H1 locs1 ht _ hp hB _ _ hS => kk u H1 locs1 hp (q_back hB ht hS))
/-- a callee that touches no cell -/
theorem q_callSi {a : Array Value} {st0 : List Value} {post : Int32 → Prop} (hr : va_Run p l e R s m args below meth c H locs cells slots 0 0 (F0 m pc ls st0) rest (vp_Si post a) (fun _ => False))
    (kk : ∀ r : Int32, post r → W p l e R s m args below meth c H locs cells slots Q (F0 m (pc + 3) ls (.int r :: rest))) : W p l e R s m args below meth c H locs cells slots Q (F0 m pc ls st0) := by
  intro T hT X
  obtain ⟨v, st₀, t, T', L, h0, X', hL, e1, e2, ⟨r, hv, hp, hh⟩, st⟩ := hr T hT X
  cases hv
  obtain ⟨t2, a1, b1⟩ := kk r hp T' (by rw [e1, hh, h0]) (Stand.forget X' (fun q h => (hL q h).elim))
  exact ⟨t2, st t2 a1, b1⟩
theorem q_callSl {a : Array Value} {st0 : List Value} {post : Int64 → Prop} (hr : va_Run p l e R s m args below meth c H locs cells slots 0 0 (F0 m pc ls st0) rest (vp_Sl post a) (fun _ => False))
    (kk : ∀ r : Int64, post r → W p l e R s m args below meth c H locs cells slots Q (F0 m (pc + 3) ls (.long r :: rest))) : W p l e R s m args below meth c H locs cells slots Q (F0 m pc ls st0) := by
  intro T hT X
  obtain ⟨v, st₀, t, T', L, h0, X', hL, e1, e2, ⟨r, hv, hp, hh⟩, st⟩ := hr T hT X
  cases hv
  obtain ⟨t2, a1, b1⟩ := kk r hp T' (by rw [e1, hh, h0]) (Stand.forget X' (fun q h => (hL q h).elim))
  exact ⟨t2, st t2 a1, b1⟩
end QW
