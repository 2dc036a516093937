/-! cells that are made: the k-th of the world lies at ad k = N0 + k -/
theorem wsW_app {n : Nat} {ad : Nat → Nat} {w : Nat → va_E} {e : va_E} : wsW n ad w ++ [(ad n, e)] = wsW (n + 1) ad (va_up w n e) := by
  rw [wsW_push, va_up_id]
section QG
variable {p : Program} {l : Launch} {e : Env} {R : Room} {s : State} {m : MethodId} {args : Array Value} {below : List Frame} {meth : Method} {c : Code} {H : Heap} {locs : List Loc} {cells slots : Nat} {Q : State → Prop}
variable {cc : ByteArray} {pc : Nat} {ls : Array Slot} {rest st0 : List Value} {D : va_G} {cl : List vw_C} {tys : List (ClassId × FieldType)} {n N0 : Nat} {ad : Nat → Nat} {w : Nat → va_E} {H0 : Heap} {g : JFrame}
theorem q_up {P : Prop} (h : H.size ≤ s.heap.size + cells → W p l e R s m args below meth c H locs cells slots Q g) : W p l e R s m args below meth c H locs cells slots Q g := by
  intro T hT X
  refine h ?_ T hT X
  have h9 := X.same.2.2.1
  rw [← hT]
  exact h9
theorem q_sz (had : ∀ k, ad k = N0 + k) (hn : 0 < n) (hsz : s.heap.size + cells = N0 + n) (hZ : sZ D cl n ad (fun q => N0 ≤ q) H0 w H locs) (kk : H.size = N0 + n → W p l e R s m args below meth c H locs cells slots Q g) : W p l e R s m args below meth c H locs cells slots Q g := by
  refine q_up (P := True) (fun h => kk ?_)
  have h1 := (hZ.1 (n - 1) _ (wsW_get (by omega))).lt
  have h2 : ad (n - 1) < H.size := h1
  rw [had] at h2
  omega
theorem q_pin {q : Nat} {e0 : va_E} (had : ∀ k, ad k = N0 + k) (hsz : s.heap.size + cells = N0 + (n + 1)) (hP : va_P D cl (wsW n ad w ++ [(q, e0)]) H) (hD : va_D (fun q => N0 ≤ q) (wsW n ad w ++ [(q, e0)])) (hS : va_S (fun q => N0 ≤ q) H0 H locs)
    (kk : q = ad n → sZ D cl (n + 1) ad (fun q => N0 ≤ q) H0 (va_up w n e0) H locs → W p l e R s m args below meth c H locs cells slots Q g) : W p l e R s m args below meth c H locs cells slots Q g := by
  refine q_up (P := True) (fun h => ?_)
  have hlast : (wsW n ad w ++ [(q, e0)])[n]? = some (q, e0) := by
    rw [List.getElem?_append_right (by rw [wsW_len]; exact Nat.le_refl _), wsW_len, Nat.sub_self]
    rfl
  have h1 : q < H.size := (hP n _ hlast).lt
  have h2 : N0 ≤ q := hD.2 n _ hlast
  have h3 : q = ad n := by
    rw [had]
    by_cases z : q = N0 + n
    · exact z
    · exfalso
      have hk : (wsW n ad w ++ [(q, e0)])[q - N0]? = some (ad (q - N0), w (q - N0)) := by
        rw [List.getElem?_append_left (by rw [wsW_len]; omega), wsW_get (by omega)]
      have := hD.1 (q - N0) n _ _ hk hlast (by show ad (q - N0) = q; rw [had]; omega)
      omega
  refine kk h3 ?_
  rw [h3, wsW_app] at hP hD
  exact ⟨hP, hD, hS⟩
theorem q_new {own C : String} {T : u_T} {N ci index : Nat} {Ts : List Cond} (had : ∀ k, ad k = N0 + k) (hx : p.tables.exec = Jvm.exec) (hb : c.code = cc) (hts : ∀ w ∈ Ts, w.before args s = true) (hin : ∀ w ∈ u_ws C T N, w ∈ Ts) (ty : Nat → FieldType) (hty : ∀ k, k < N → parseFieldDescriptor (T k).2.2.1 = some (ty k)) (hown : s.vm.findClass own = some m.cls) (hcl : (Cond.classLink own index C).before args s = true) (hinst : (Cond.instantiable C N).before args s = true) (hini : (Cond.initialized C).before args s = true)
    (hK : va_K D cl tys s) (hZ : sZ D cl n ad (fun q => N0 ≤ q) H0 w H locs) (hN : N0 ≤ H0.size) (hc : cl[ci]? = some (C, T, N)) {fs : List Value} (hfs : ∀ j, j < N → defaultValue (ty j) = vp_V fs j) (hcells : cells + 1 ≤ R.cells) (hslots : slots + N ≤ R.slots) (hsz : s.heap.size + (cells + 1) = N0 + (n + 1)) (hdg : decode cc pc = .ok (.new index, 3))
    (kk : ∀ (H1 : Heap), sZ D cl (n + 1) ad (fun q => N0 ≤ q) H0 (va_up w n (.inr (ci, fs))) H1 locs → W p l e R s m args below meth c H1 locs (cells + 1) (slots + N) Q (F0 m (pc + 3) ls (.ref (ad n) :: rest))) : W p l e R s m args below meth c H locs cells slots Q (F0 m pc ls rest) := by
  refine va_new hx hb hts hin ty hty hown hcl hinst hini hK hZ.1 hZ.2.1 hZ.2.2 (fun q h => Nat.le_trans hN h) hc hfs hcells hslots hdg (fun q H1 hP hD hS => ?_)
  refine q_pin had hsz hP hD hS (fun eq hZ1 => ?_)
  rw [eq]
  exact kk H1 hZ1
theorem q_newA {atype : ArrayType} {ty : FieldType} {cA : ClassId} (had : ∀ k, ad k = N0 + k) (hx : p.tables.exec = Jvm.exec) (hb : c.code = cc) (harr : (Cond.arrayClass (newarray.typeOf atype)).before args s = true) (hty : newarray.typeOf atype = ty) (hil : ty = .int ∨ ty = .long) (hK : va_K D cl tys s) (hZ : sZ D cl n ad (fun q => N0 ≤ q) H0 w H locs) (hN : N0 ≤ H0.size) (t0 : Nat) (ht : tys[t0]? = some (cA, ty))
    {x : Int32} {N' : Nat} {a0 : vp_A} (ha : ∀ cA : ClassId, vp_cell cA a0 = arrV cA N' (fun _ => defaultValue ty)) (hn : ¬ x < 0) (hN' : x.toNatClampNeg = N') (hbytes : N' * componentBytes ty ≤ 536870912) (hcells : cells + 1 ≤ R.cells) (hslots : slots + N' ≤ R.slots) (hsz : s.heap.size + (cells + 1) = N0 + (n + 1)) (hdg : decode cc pc = .ok (.newarray atype, 2))
    (kk : ∀ (H1 : Heap), sZ D cl (n + 1) ad (fun q => N0 ≤ q) H0 (va_up w n (.inl (cA, a0))) H1 locs → W p l e R s m args below meth c H1 locs (cells + 1) (slots + N') Q (F0 m (pc + 2) ls (.ref (ad n) :: rest))) : W p l e R s m args below meth c H locs cells slots Q (F0 m pc ls (.int x :: rest)) := by
  refine va_newa hx hb harr hty hK hZ.1 hZ.2.1 hZ.2.2 (fun q h => Nat.le_trans hN h) ha hn hN' hbytes hcells hslots hdg (fun q cB H1 hK1 hP hD hS => ?_)
  have e1 : cB = cA := by
    have r1 := (hK1.2 tys.length (cB, ty) (by rw [List.getElem?_append_right (Nat.le_refl _), Nat.sub_self]; rfl)).2
    have r2 := (hK.2 t0 (cA, ty) ht).2
    rcases hil with h | h <;> subst h
    · exact Option.some.inj (r1.symm.trans r2)
    · exact Option.some.inj (r1.symm.trans r2)
  rw [e1] at hP hD
  refine q_pin had hsz hP hD hS (fun eq hZ1 => ?_)
  rw [eq]
  exact kk H1 hZ1
theorem q_newB {own C : String} {index : Nat} {cA : ClassId} (had : ∀ k, ad k = N0 + k) (hx : p.tables.exec = Jvm.exec) (hb : c.code = cc) (hown : s.vm.findClass own = some m.cls) (hclink : (Cond.classLink own index C).before args s = true) (hover : va_AO C s) (hK : va_K D cl tys s) (hZ : sZ D cl n ad (fun q => N0 ≤ q) H0 w H locs) (hN : N0 ≤ H0.size) (t0 : Nat) (ht : tys[t0]? = some (cA, .object C))
    {x : Int32} {N' : Nat} (hn : ¬ x < 0) (hN' : x.toNatClampNeg = N') (hbytes : N' * 4 ≤ 536870912) (hcells : cells + 1 ≤ R.cells) (hslots : slots + N' ≤ R.slots) (hsz : s.heap.size + (cells + 1) = N0 + (n + 1)) (hdg : decode cc pc = .ok (.anewarray index, 3))
    (kk : ∀ (H1 : Heap), sZ D cl (n + 1) ad (fun q => N0 ≤ q) H0 (va_up w n (.inl (cA, N', .inr (.inr (.inr (.inr (fun _ => none))))))) H1 locs → W p l e R s m args below meth c H1 locs (cells + 1) (slots + N') Q (F0 m (pc + 3) ls (.ref (ad n) :: rest))) : W p l e R s m args below meth c H locs cells slots Q (F0 m pc ls (.int x :: rest)) := by
  refine va_newq hx hb hown hclink hover hK hZ.1 hZ.2.1 hZ.2.2 (fun q h => Nat.le_trans hN h) hn hN' hbytes hcells hslots hdg (fun q cB H1 hK1 hP hD hS => ?_)
  have e1 : cB = cA := by
    have r1 := (hK1.2 tys.length (cB, .object C) (by rw [List.getElem?_append_right (Nat.le_refl _), Nat.sub_self]; rfl)).2
    have r2 := (hK.2 t0 (cA, .object C) ht).2
    obtain ⟨_, _, -, -, -, a1⟩ := r1
    obtain ⟨_, _, -, -, -, a2⟩ := r2
    exact Option.some.inj (a1.symm.trans a2)
  rw [e1] at hP hD
  refine q_pin had hsz hP hD hS (fun eq hZ1 => ?_)
  rw [eq]
  exact kk H1 hZ1
theorem q_putF {own ref C : String} {T : u_T} {N ci index : Nat} {Ts : List Cond} (hx : p.tables.exec = Jvm.exec) (hb : c.code = cc) (hts : ∀ w ∈ Ts, w.before args s = true) (hin : ∀ w ∈ u_ws C T N, w ∈ Ts) (ty0 : Nat → FieldType) (hty : ∀ k, k < N → parseFieldDescriptor (T k).2.2.1 = some (ty0 k)) (hnm : ∀ a, a < N → ∀ b, b < N → a ≠ b → (T a).2.1 ≠ (T b).2.1) (hown : s.vm.findClass own = some m.cls) (hK : va_K D cl tys s) {A : Nat → Prop} (hZ : sZ D cl n ad A H0 w H locs) (k0 : Nat) (hk0 : k0 < n) {fs : List Value} (hw : w k0 = .inr (ci, fs)) (hc : cl[ci]? = some (C, T, N)) (k : Nat) (hk : k < N) (hlink : (Cond.fieldLink own index ref (T k).2.1 (T k).2.2.1).before args s = true) (hsame : ∀ x, s.fieldFound? (T k).1 (T k).2.1 (T k).2.2.1 = some x → s.fieldFound? ref (T k).2.1 (T k).2.2.1 = some x) (hfin : (T k).2.2.2 = true) (hin2 : meth.name = "<init>") (hdecl : (T k).1 = own) {ty : FieldType} {v : Value} (hd : parseFieldDescriptor (T k).2.2.1 = some ty) (hn : narrow ty v = v) (hfit : fits ty v = true) (hl : k < fs.length) (hdg : decode cc pc = .ok (.putfield index, 3))
    (kk : ∀ (H1 : Heap) (locs1 : List Loc), sZ D cl n ad A H0 (va_up w k0 (.inr (ci, fs.set k v))) H1 locs1 → W p l e R s m args below meth c H1 locs1 cells slots Q (F0 m (pc + 3) ls rest)) : W p l e R s m args below meth c H locs cells slots Q (F0 m pc ls (v :: .ref (ad k0) :: rest)) := by
  refine va_putF hx hb hts hin ty0 hty hnm hown hK hZ.1 hZ.2.1 hZ.2.2 k0 (wsW_at hk0 hw) hc k hk hlink hsame hfin hin2 hdecl hd hn hfit hl hdg (fun H1 locs1 h1 h2 h3 => kk H1 locs1 ?_)
  rw [wsW_set hk0] at h1 h2
  exact ⟨h1, h2, h3⟩
/-- a world of n cells, and no cell more -/
def sG (D : va_G) (cl : List vw_C) (tys : List (ClassId × FieldType)) (n : Nat) (ad : Nat → Nat) (N0 : Nat) (w : Nat → va_E) (U : State) : Prop := sPr D cl tys n ad N0 w U ∧ U.heap.size = N0 + n
theorem sG.blind {av : List Value} : FrameBlind (va_Pc av (sG D cl tys n ad N0 w)) := by
  intro a U g mk q
  obtain ⟨q0, q1, q2⟩ := q
  exact ⟨q0, (sPr.blind (av := av) a U g mk ⟨q0, q1⟩).2, q2⟩
theorem q_preG (hK : va_K D cl tys s) (hAm : sAm N0 s) (hZ : sZ D cl n ad (fun q => N0 ≤ q) s.heap w H locs) (hN : N0 ≤ s.heap.size) (hs : H.size = N0 + n) (As : List Value) : PreS s H (va_Pc As (sG D cl tys n ad N0 w)) As :=
  ⟨sG.blind, fun U hU hW => ⟨rfl, q_end hK hAm hZ hN U hU hW, by rw [hU]; exact hs⟩⟩
theorem q_callG {a : Array Value} {n' mc ms : Nat} {post : (Nat → va_E) → Prop} (hr : va_Run p l e R s m args below meth c H locs cells slots mc ms (F0 m pc ls st0) rest (va_Qv post (sG D cl tys n' ad N0) (fun q => N0 ≤ q) a) (fun q => N0 ≤ q)) (hZ : sZ D cl n ad (fun q => N0 ≤ q) H0 w H locs)
    (kk : ∀ (u : Nat → va_E) (H1 : Heap) (locs1 : List Loc), post u → sZ D cl n' ad (fun q => N0 ≤ q) H0 u H1 locs1 → W p l e R s m args below meth c H1 locs1 (cells + mc) (slots + ms) Q (F0 m (pc + 3) ls rest)) : W p l e R s m args below meth c H locs cells slots Q (F0 m pc ls st0) :=
  va_callv hr hZ.2.2 (fun _ _ h => h) (fun _ h => h) (fun u t H1 locs1 ht _ hp hB _ _ hS => kk u H1 locs1 hp (q_back hB.1 ht hS))
theorem q_vretG {post : (Nat → va_E) → Prop} (hx : p.tables.exec = Jvm.exec) (hb : c.code = cc) (hr : meth.sig.returnType = none) (hlocks : meth.locks = false) (hK : va_K D cl tys s) (hAm : sAm N0 s) (hZ : sZ D cl n ad (fun q => N0 ≤ q) s.heap w H locs) (hN : N0 ≤ s.heap.size) (hs : H.size = N0 + n) (hp : post w) (hdg : decode cc pc = .ok (.return_, 1)) :
    W p l e R s m args below meth c H locs cells slots (MQ below (va_Qv post (sG D cl tys n ad N0) (fun q => N0 ≤ q)) args s cells slots (fun q => N0 ≤ q)) (F0 m pc ls []) :=
  W.vret hx hb hr (fun t ht hW => ⟨⟨w, rfl, hp, q_end hK hAm hZ hN t ht hW, by rw [ht]; exact hs⟩, hZ.2.2.F ht⟩) hZ.2.2.2.2 hdg hlocks
end QG
