section
-- ===== PART A: goes FIRST, ahead of the names: the tables' words, and 'selects' of the private methods out of them =====
/-- a private method of a class that the tables say can be made, by its rows of tables_1 -/
def lw_okq (q : MethodName × Nat) : Prop := (q.1.cls ≠ "java/lang/invoke/MethodHandle" ∧ q.1.cls ≠ "java/lang/invoke/VarHandle") ∧ Cond.instantiable q.1.cls q.2 ∈ tables_1 ∧ Cond.privateMethod q.1 ∈ tables_1 ∧ Cond.instanceMethod q.1 ∈ tables_1
theorem lw_p0 : lw_okq (⟨"java/lang/Throwable", "fillInStackTrace", "(I)Ljava/lang/Throwable;"⟩, 6) := ⟨⟨by decide +kernel, by decide +kernel⟩, List.mem_of_getElem? (i := 139) (by decide +kernel), List.mem_of_getElem? (i := 137) (by decide +kernel), List.mem_of_getElem? (i := 138) (by decide +kernel)⟩
theorem lw_p1 : lw_okq (⟨"CoinBag$Bag", "placeFor", "(IJ)I"⟩, 4) := ⟨⟨by decide +kernel, by decide +kernel⟩, List.mem_of_getElem? (i := 24) (by decide +kernel), List.mem_of_getElem? (i := 193) (by decide +kernel), List.mem_of_getElem? (i := 194) (by decide +kernel)⟩
theorem lw_p2 : lw_okq (⟨"CoinBag$Bag", "holdsAt", "(IIJ)Z"⟩, 4) := ⟨⟨by decide +kernel, by decide +kernel⟩, List.mem_of_getElem? (i := 24) (by decide +kernel), List.mem_of_getElem? (i := 210) (by decide +kernel), List.mem_of_getElem? (i := 211) (by decide +kernel)⟩
theorem lw_p3 : lw_okq (⟨"CoinBag$Bag", "removeAt", "(I)V"⟩, 4) := ⟨⟨by decide +kernel, by decide +kernel⟩, List.mem_of_getElem? (i := 24) (by decide +kernel), List.mem_of_getElem? (i := 214) (by decide +kernel), List.mem_of_getElem? (i := 215) (by decide +kernel)⟩
theorem lw_p4 : lw_okq (⟨"CoinBag$Bag", "makeRoomAt", "(I)V"⟩, 4) := ⟨⟨by decide +kernel, by decide +kernel⟩, List.mem_of_getElem? (i := 24) (by decide +kernel), List.mem_of_getElem? (i := 221) (by decide +kernel), List.mem_of_getElem? (i := 222) (by decide +kernel)⟩
theorem lw_p5 : lw_okq (⟨"CoinBag", "combine", "(IIII)Z"⟩, 3) := ⟨⟨by decide +kernel, by decide +kernel⟩, List.mem_of_getElem? (i := 15) (by decide +kernel), List.mem_of_getElem? (i := 248) (by decide +kernel), List.mem_of_getElem? (i := 249) (by decide +kernel)⟩
theorem lw_p6 : lw_okq (⟨"CoinBag", "exchangeSpare", "(I)V"⟩, 3) := ⟨⟨by decide +kernel, by decide +kernel⟩, List.mem_of_getElem? (i := 15) (by decide +kernel), List.mem_of_getElem? (i := 280) (by decide +kernel), List.mem_of_getElem? (i := 281) (by decide +kernel)⟩
theorem lw_p7 : lw_okq (⟨"CoinBagModel", "wrong", "(IIII)I"⟩, 10) := ⟨⟨by decide +kernel, by decide +kernel⟩, List.mem_of_getElem? (i := 395) (by decide +kernel), List.mem_of_getElem? (i := 440) (by decide +kernel), List.mem_of_getElem? (i := 441) (by decide +kernel)⟩
theorem lw_p8 : lw_okq (⟨"CoinBagModel", "store", "(IIJJ)Z"⟩, 10) := ⟨⟨by decide +kernel, by decide +kernel⟩, List.mem_of_getElem? (i := 395) (by decide +kernel), List.mem_of_getElem? (i := 451) (by decide +kernel), List.mem_of_getElem? (i := 452) (by decide +kernel)⟩
theorem lw_p9 : lw_okq (⟨"CoinBagModel", "find", "(IIJ)I"⟩, 10) := ⟨⟨by decide +kernel, by decide +kernel⟩, List.mem_of_getElem? (i := 395) (by decide +kernel), List.mem_of_getElem? (i := 455) (by decide +kernel), List.mem_of_getElem? (i := 456) (by decide +kernel)⟩
theorem lw_p10 : lw_okq (⟨"CoinBagModel", "valueOf", "(IIJ)J"⟩, 10) := ⟨⟨by decide +kernel, by decide +kernel⟩, List.mem_of_getElem? (i := 395) (by decide +kernel), List.mem_of_getElem? (i := 463) (by decide +kernel), List.mem_of_getElem? (i := 464) (by decide +kernel)⟩
theorem lw_p11 : lw_okq (⟨"CoinBagModel", "added", "(JJ)J"⟩, 10) := ⟨⟨by decide +kernel, by decide +kernel⟩, List.mem_of_getElem? (i := 395) (by decide +kernel), List.mem_of_getElem? (i := 467) (by decide +kernel), List.mem_of_getElem? (i := 468) (by decide +kernel)⟩
theorem lw_p12 : lw_okq (⟨"CoinBagModel", "both", "(III)V"⟩, 10) := ⟨⟨by decide +kernel, by decide +kernel⟩, List.mem_of_getElem? (i := 395) (by decide +kernel), List.mem_of_getElem? (i := 477) (by decide +kernel), List.mem_of_getElem? (i := 478) (by decide +kernel)⟩
theorem lw_p13 : lw_okq (⟨"CoinBagModel", "begin", "()V"⟩, 10) := ⟨⟨by decide +kernel, by decide +kernel⟩, List.mem_of_getElem? (i := 395) (by decide +kernel), List.mem_of_getElem? (i := 481) (by decide +kernel), List.mem_of_getElem? (i := 482) (by decide +kernel)⟩
theorem lw_p14 : lw_okq (⟨"CoinBagModel", "subtracted", "(JJ)J"⟩, 10) := ⟨⟨by decide +kernel, by decide +kernel⟩, List.mem_of_getElem? (i := 395) (by decide +kernel), List.mem_of_getElem? (i := 485) (by decide +kernel), List.mem_of_getElem? (i := 486) (by decide +kernel)⟩
theorem lw_p15 : lw_okq (⟨"CoinBagModel", "lay", "(IJJ)V"⟩, 10) := ⟨⟨by decide +kernel, by decide +kernel⟩, List.mem_of_getElem? (i := 395) (by decide +kernel), List.mem_of_getElem? (i := 489) (by decide +kernel), List.mem_of_getElem? (i := 490) (by decide +kernel)⟩
def lw_privs_1 : List (MethodName × Nat) := [(⟨"java/lang/Throwable", "fillInStackTrace", "(I)Ljava/lang/Throwable;"⟩, 6), (⟨"CoinBag$Bag", "placeFor", "(IJ)I"⟩, 4), (⟨"CoinBag$Bag", "holdsAt", "(IIJ)Z"⟩, 4), (⟨"CoinBag$Bag", "removeAt", "(I)V"⟩, 4), (⟨"CoinBag$Bag", "makeRoomAt", "(I)V"⟩, 4), (⟨"CoinBag", "combine", "(IIII)Z"⟩, 3), (⟨"CoinBag", "exchangeSpare", "(I)V"⟩, 3), (⟨"CoinBagModel", "wrong", "(IIII)I"⟩, 10), (⟨"CoinBagModel", "store", "(IIJJ)Z"⟩, 10), (⟨"CoinBagModel", "find", "(IIJ)I"⟩, 10), (⟨"CoinBagModel", "valueOf", "(IIJ)J"⟩, 10), (⟨"CoinBagModel", "added", "(JJ)J"⟩, 10), (⟨"CoinBagModel", "both", "(III)V"⟩, 10), (⟨"CoinBagModel", "begin", "()V"⟩, 10), (⟨"CoinBagModel", "subtracted", "(JJ)J"⟩, 10), (⟨"CoinBagModel", "lay", "(IJJ)V"⟩, 10)]
theorem lw_r1 : ∀ q ∈ lw_privs_1, lw_okq q := List.forall_mem_cons.mpr ⟨lw_p0, List.forall_mem_cons.mpr ⟨lw_p1, List.forall_mem_cons.mpr ⟨lw_p2, List.forall_mem_cons.mpr ⟨lw_p3, List.forall_mem_cons.mpr ⟨lw_p4, List.forall_mem_cons.mpr ⟨lw_p5, List.forall_mem_cons.mpr ⟨lw_p6, List.forall_mem_cons.mpr ⟨lw_p7, List.forall_mem_cons.mpr ⟨lw_p8, List.forall_mem_cons.mpr ⟨lw_p9, List.forall_mem_cons.mpr ⟨lw_p10, List.forall_mem_cons.mpr ⟨lw_p11, List.forall_mem_cons.mpr ⟨lw_p12, List.forall_mem_cons.mpr ⟨lw_p13, List.forall_mem_cons.mpr ⟨lw_p14, List.forall_mem_cons.mpr ⟨lw_p15, fun _ h => absurd h List.not_mem_nil⟩⟩⟩⟩⟩⟩⟩⟩⟩⟩⟩⟩⟩⟩⟩⟩
theorem lw_p16 : lw_okq (⟨"CoinBagModel", "becomes", "(I)Z"⟩, 10) := ⟨⟨by decide +kernel, by decide +kernel⟩, List.mem_of_getElem? (i := 395) (by decide +kernel), List.mem_of_getElem? (i := 493) (by decide +kernel), List.mem_of_getElem? (i := 494) (by decide +kernel)⟩
theorem lw_p17 : lw_okq (⟨"CoinBagModel", "multiplied", "(JJ)J"⟩, 10) := ⟨⟨by decide +kernel, by decide +kernel⟩, List.mem_of_getElem? (i := 395) (by decide +kernel), List.mem_of_getElem? (i := 505) (by decide +kernel), List.mem_of_getElem? (i := 506) (by decide +kernel)⟩
theorem lw_p18 : lw_okq (⟨"CoinBagModel", "inOrder", "(II)I"⟩, 10) := ⟨⟨by decide +kernel, by decide +kernel⟩, List.mem_of_getElem? (i := 395) (by decide +kernel), List.mem_of_getElem? (i := 538) (by decide +kernel), List.mem_of_getElem? (i := 539) (by decide +kernel)⟩
theorem lw_p19 : lw_okq (⟨"CoinBagModel", "isBefore", "(III)Z"⟩, 10) := ⟨⟨by decide +kernel, by decide +kernel⟩, List.mem_of_getElem? (i := 395) (by decide +kernel), List.mem_of_getElem? (i := 542) (by decide +kernel), List.mem_of_getElem? (i := 543) (by decide +kernel)⟩
def lw_privs_2 : List (MethodName × Nat) := [(⟨"CoinBagModel", "becomes", "(I)Z"⟩, 10), (⟨"CoinBagModel", "multiplied", "(JJ)J"⟩, 10), (⟨"CoinBagModel", "inOrder", "(II)I"⟩, 10), (⟨"CoinBagModel", "isBefore", "(III)Z"⟩, 10)]
theorem lw_r2 : ∀ q ∈ lw_privs_2, lw_okq q := List.forall_mem_cons.mpr ⟨lw_p16, List.forall_mem_cons.mpr ⟨lw_p17, List.forall_mem_cons.mpr ⟨lw_p18, List.forall_mem_cons.mpr ⟨lw_p19, fun _ h => absurd h List.not_mem_nil⟩⟩⟩⟩
def lw_privs : List (MethodName × Nat) := lw_privs_1 ++ (lw_privs_2)
def lw_tbl : List Cond := k2_sels lw_privs ++ tables_1
theorem lw_privs_ok : ∀ q ∈ lw_privs, lw_okq q := by
  show ∀ q ∈ lw_privs_1 ++ (lw_privs_2), lw_okq q
  exact List.forall_mem_append.mpr ⟨lw_r1, lw_r2⟩
end
section
/-! ===== BEGIN words of one list among another's, by their places ===== -/
theorem goodIn_r {big : List Cond} (ws : List Cond) (ps : List Nat) (hp : ws = ps.filterMap (fun i => big[i]?)) (h : ws.all goodWord = true) : GoodIn big ws := by
  intro w hw
  have h1 := List.all_eq_true.mp h w hw
  rw [hp] at hw
  obtain ⟨i, -, hi⟩ := List.mem_filterMap.mp hw
  have hm : w ∈ big := by first | exact List.mem_of_getElem? hi | exact List.getElem?_mem hi
  exact ⟨hm, good_of_word h1⟩
theorem goodIn_app {big a b : List Cond} (ha : GoodIn big a) (hb : GoodIn big b) : GoodIn big (a ++ b) := fun w h => (List.mem_append.mp h).elim (ha w) (hb w)
theorem goodIn_ca {big a b : List Cond} {c : Cond} (ha : GoodIn big (c :: a)) (hb : GoodIn big b) : GoodIn big (c :: (a ++ b)) := fun w h => (List.mem_cons.mp h).elim (fun e => ha w (List.mem_cons.mpr (Or.inl e))) (fun h => (List.mem_append.mp h).elim (fun h => ha w (List.mem_cons.mpr (Or.inr h))) (hb w))
theorem goodIn_sub {big ws : List Cond} (hm : ∀ w ∈ ws, w ∈ big) (h : ws.all goodWord = true) : GoodIn big ws := fun w hw => ⟨hm w hw, good_of_word (List.all_eq_true.mp h w hw)⟩
/-! ===== END ===== -/

/-! ===== BEGIN exceptions that leave a method, and their catching by the caller (launches without stack traces) ===== -/
section VXA
/-! The laws vx_back, vx_callV, vx_callS, vx_callSW, vx_throw0, vx_throwS follow proofs of the library, with one case more: JvmDerived/Free/Laws.lean (Back.of_free), Shelf42/LK1.lean (callV, callS), Shelf/KitTraced.lean (throwNew0V, throwNewS). -/
/-- where a method has thrown q: the class by its name, the cell, what was written, the world -/
def vx_T (XC : String → State → State → Prop) (st : State) (q : Addr) (t : State) (mc ms : Nat) (free : Addr → Prop) : Prop :=
  ∃ (E : String) (ce : Cell) (L : List Loc), XC E st t ∧ t.heap[q]? = some ce ∧ ce.vm = .none ∧ st.vm.findClass E = some ce.cls ∧ st.WarmedH t.vm ∧ st.sameButNew ({ t with vm := st.vm } : State) L mc ms ∧ ∀ z ∈ L, free z.base
def vx_Q (Qc : Array Value → State → Outcome → State → Prop) (XC : String → State → State → Prop) (mc ms : Nat) (free : Addr → Prop) : Array Value → State → Outcome → State → Prop := fun a st o t =>
  (Qc a st o t ∧ ∃ L, FrameEnd st o t L mc ms ∧ ∀ q ∈ L, free q.base) ∨ ∃ q, o = .threw q ∧ vx_T XC st q t mc ms free
/-- a callee that returns or throws -/
def vx_Met (l : Launch) (y : MethodName) (ws : List Cond) (rm : Room) (Pc : Array Value → State → Prop) (Qc : Array Value → State → Outcome → State → Prop) (XC : String → State → State → Prop) (mc ms : Nat) (free : Addr → Prop) : Prop :=
  MetFree l y (headSpec ws rm) Pc (fun _ _ _ _ _ => True) (vx_Q Qc XC mc ms free)
def vx_Post (XC : String → State → State → Prop) (mc ms : Nat) (free : Addr → Prop) : Pt → Array Value → Addr → Pt → Prop := fun A a q B =>
  ∃ (g : JFrame) (mk : MethodId) (t : State) (L : List Loc) (E : String) (ce : Cell), B.U.heap = t.heap ∧ B.U.vm = t.vm ∧ XC E (A.U.calling g mk a) t ∧ t.heap[q]? = some ce ∧ ce.vm = .none ∧ A.U.vm.findClass E = some ce.cls ∧ B.locs = A.locs ++ L ∧ (∀ z ∈ L, free z.base) ∧ B.cells = A.cells + mc ∧ B.slots = A.slots + ms
def vx_Back (l : Launch) (R : Room) (p : Program) (e : Env) (below : List Frame) (s : State) (sargs : Array Value) (y : MethodName) (len W9 : Nat)
    (Pre : Pt → Array Value → Prop) (Post : Pt → Array Value → Option Value → Pt → Prop) (PostX : Pt → Array Value → Addr → Pt → Prop) : Prop :=
  ∀ (m : MethodId) (meth : Method) (c : Code) (A : Pt) (g : JFrame) (ig : Instr) (mk : MethodId) (a : Array Value),
    Stand p l e R s m sargs below meth c A.U A.locs A.cells A.slots → g.method = m → g.locals.size = c.maxLocals → decode c.code g.pc = .ok (ig, len) →
    2 * g.monitorRoom + (g.stack.map fun v => v.category).sum ≤ W9 → A.U.methodNamed? y = some mk → Pre A a →
    (∃ (v : Option Value) (B : Pt), Stand p l e R s m sargs below meth c B.U B.locs B.cells B.slots ∧ Post A a v B ∧
      Steps p.tables e below (doInvoke e (A.U.setTop g) [] mk a).1 (B.U.setTop { g with pc := g.pc + len, stack := v.toList ++ g.stack })) ∨
    (∃ (q : Addr) (B : Pt), Stand p l e R s m sargs below meth c B.U B.locs B.cells B.slots ∧ PostX A a q B ∧
      Steps p.tables e below (doInvoke e (A.U.setTop g) [] mk a).1 ((B.U.setTop g).pushFrame (.throwing q)))
section Payer
variable {l : Launch} {R : Room} {p : Program} {e : Env} {below : List Frame} {s : State} {sargs : Array Value} {y : MethodName} {len W9 : Nat}
theorem vx_back {ws : List Cond} {rm : Room} {Pc : Array Value → State → Prop} {Qc : Array Value → State → Outcome → State → Prop} {XC : String → State → State → Prop} {mc ms : Nat} {free : Addr → Prop} {bytes : ByteArray} {maxL : Nat} {ret : Option FieldType}
    (hM : vx_Met l y ws rm Pc Qc XC mc ms free) (hblind : FrameBlind Pc) (hrc : rm.cells = mc) (hrs : rm.slots = ms)
    (hframes : rm.frames + 1 ≤ R.frames) (hlocals : W9 + (maxL + 11) + rm.locals ≤ R.locals)
    (hws : ∀ w ∈ ws, ∀ a' U, s.WarmedH U.vm → w.before a' U = true) (hcode : Cond.code y bytes maxL ret ∈ ws) (hinit : ∀ a' U, s.WarmedH U.vm → (Cond.initialized y.cls).before a' U = true) :
    vx_Back l R p e below s sargs y len W9 (PreOf R mc ms Pc) (PostOf Qc mc ms free) (vx_Post XC mc ms free) := by
  intro m meth c A g ig mk a X hg hsize hdg hW hn hp
  have h1 : (headSpec ws rm).pre.before a A.U = true := atoms_intro fun w hw => hws w hw _ _ X.warmed
  have h2 : (Cond.code y bytes maxL ret).before a A.U = true := hws _ hcode _ _ X.warmed
  have h3 : (Cond.initialized y.cls).before a A.U = true := hinit _ _ X.warmed
  have h4 : A.cells + (headSpec ws rm).room.cells ≤ R.cells := by rw [show (headSpec ws rm).room.cells = mc from hrc]; exact hp.1
  have h5 : A.slots + (headSpec ws rm).room.slots ≤ R.slots := by rw [show (headSpec ws rm).room.slots = ms from hrs]; exact hp.2.1
  have hPc : Pc a (A.U.calling g mk a) := hblind _ _ _ _ hp.2.2
  obtain ⟨U, Ls, c0, s0⟩ := A
  dsimp only [Pt.U, Pt.locs, Pt.cells, Pt.slots] at h1 h2 h3 h4 h5 X hn hPc ⊢
  obtain ⟨methY, cY, hmY, hcY, -, hlY, -, -, -, -⟩ := Cond.code_spec hn h2
  obtain ⟨kY, hkY, -⟩ := className_of_methodNamed hn
  have hinitY : kY.init = .initialized := Cond.initialized_spec (findClass_of_methodNamed hn) hkY h3
  have h : At U g.method c below := by rw [hg]; exact X.here
  have hlocals9 : W9 + (maxL + 11) + (headSpec ws rm).room.locals ≤ R.locals := hlocals
  have happ : (headSpec ws rm).appliesLoose y e.platform (U.calling g mk a) = true :=
    Spec.appliesLoose_calling (g := g) h hdg hn hkY hinitY
      (X.room_calling (g := g) (R' := (headSpec ws rm).room) hsize hmY hcY hframes (by rw [hlY]; omega) h4 h5) h1
  obtain ⟨mid, hmid⟩ := h.above
  have hfr : (U.setTop g).frames = (.java g :: mid) ++ below := by rw [State.frames_setTop' g h.top, hmid]; rfl
  obtain ⟨o, s₂, hsteps, -, hend, hq⟩ := Steps.callFree hM p X.admits X.cas X.clock (acts := []) hfr happ hPc trivial
  have hq' : vx_Q Qc XC mc ms free a (U.calling g mk a) o s₂ := hq
  rw [State.frames_setTop' g h.top] at hend
  obtain ⟨g₀, hg0⟩ := Option.isSome_iff_exists.mp h.top
  obtain ⟨r, hr⟩ := State.topJava?_eq_some.mp hg0
  have hr' : (({ U with heap := s₂.heap, slotsUsed := s₂.slotsUsed } : State).setVm s₂.vm).frames = .java g₀ :: r := hr
  rcases hq' with ⟨hqc, L, hfe, hL⟩ | ⟨q, rfl, E, ce, L, hx, hce, hcv, hcl, hW₂, hsm, hL⟩
  · obtain ⟨⟨v, rfl⟩, hW₂, e2, q2, q3, q4, q5, q6⟩ := id hfe
    have e3 : s₂ = ({ (U.calling g mk a).setFrames s₂.frames with heap := s₂.heap, slotsUsed := s₂.slotsUsed } : State).setVm s₂.vm := by
      have : s₂ = ({ s₂ with vm := (U.calling g mk a).vm } : State).setVm s₂.vm := rfl
      rw [e2] at this
      exact this
    obtain ⟨c₂, i₂, len₂, hc₂, hd₂, hf₂⟩ := hend
    have hW' : U.WarmedH s₂.vm := hW₂
    have hcc : c₂ = c := by
      have h1 : s₂.code? g.method = U.code? g.method := by
        rw [State.code?_eq, State.code?_eq, hW'.alike.method?]
      exact Option.some.inj (hc₂.symm.trans (h1.trans h.code))
    subst hcc
    have hlen : len₂ = len := by rw [hdg] at hd₂; cases hd₂; rfl
    subst hlen
    have hs₂ : s₂ = (({ U with heap := s₂.heap, slotsUsed := s₂.slotsUsed } : State).setVm s₂.vm).setTop { g with pc := g.pc + len₂, stack := v.toList ++ g.stack } := by
      refine e3.trans ?_
      rw [hf₂, State.calling_eq h.top, State.setFrames_setFrames, State.setTop_of_frames _ hr', hr]
      rfl
    have hsame : U.sameButNew ({ U with heap := s₂.heap, slotsUsed := s₂.slotsUsed } : State) L mc ms := by
      refine ⟨?_, q2, q3, q4, q5, q6⟩
      obtain ⟨t, ht, -⟩ := State.frames_cons hr
      show ({ U with heap := s₂.heap, slotsUsed := s₂.slotsUsed } : State) = { U.setFrames U.frames with heap := s₂.heap, slotsUsed := s₂.slotsUsed }
      rw [State.setFrames_self ht]
    subst hg
    refine Or.inl ⟨v, ⟨(({ U with heap := s₂.heap, slotsUsed := s₂.slotsUsed } : State).setVm s₂.vm), Ls ++ L, c0 + mc, s0 + ms⟩,
      ⟨X.admits, X.cas, X.clock, X.frames, X.room, X.hears, X.method, X.code, (X.here.setHeapUsed s₂.heap s₂.slotsUsed).setVm hW'.alike, X.tail, State.WarmedH.trans X.warmed hW', X.limits, X.bytes, X.same.trans (hsame.setVm s.vm)⟩,
      ⟨g, mk, s₂, L, rfl, rfl, hqc, rfl, hL, rfl, rfl⟩, ?_⟩
    show Steps p.tables e below _ ((({ U with heap := s₂.heap, slotsUsed := s₂.slotsUsed } : State).setVm s₂.vm).setTop { g with pc := g.pc + len₂, stack := v.toList ++ g.stack })
    rw [← hs₂]
    exact hsteps
  · obtain ⟨e2, q2, q3, q4, q5, q6⟩ := id hsm
    have e3 : s₂ = ({ (U.calling g mk a).setFrames s₂.frames with heap := s₂.heap, slotsUsed := s₂.slotsUsed } : State).setVm s₂.vm := by
      have : s₂ = ({ s₂ with vm := (U.calling g mk a).vm } : State).setVm s₂.vm := rfl
      rw [e2] at this
      exact this
    have hf₂ : s₂.frames = .throwing q :: .java g :: U.frames.tail := hend
    have hW' : U.WarmedH s₂.vm := hW₂
    have hs₂ : s₂ = ((({ U with heap := s₂.heap, slotsUsed := s₂.slotsUsed } : State).setVm s₂.vm).setTop g).pushFrame (.throwing q) := by
      refine e3.trans ?_
      rw [hf₂, State.calling_eq h.top, State.setFrames_setFrames, State.pushFrame, State.frames_setTop _ hr', State.setTop_of_frames _ hr', State.setFrames_setFrames, hr]
      rfl
    have hsame : U.sameButNew ({ U with heap := s₂.heap, slotsUsed := s₂.slotsUsed } : State) L mc ms := by
      refine ⟨?_, q2, q3, q4, q5, q6⟩
      obtain ⟨t, ht, -⟩ := State.frames_cons hr
      show ({ U with heap := s₂.heap, slotsUsed := s₂.slotsUsed } : State) = { U.setFrames U.frames with heap := s₂.heap, slotsUsed := s₂.slotsUsed }
      rw [State.setFrames_self ht]
    subst hg
    refine Or.inr ⟨q, ⟨(({ U with heap := s₂.heap, slotsUsed := s₂.slotsUsed } : State).setVm s₂.vm), Ls ++ L, c0 + mc, s0 + ms⟩,
      ⟨X.admits, X.cas, X.clock, X.frames, X.room, X.hears, X.method, X.code, (X.here.setHeapUsed s₂.heap s₂.slotsUsed).setVm hW'.alike, X.tail, State.WarmedH.trans X.warmed hW', X.limits, X.bytes, X.same.trans (hsame.setVm s.vm)⟩,
      ⟨g, mk, s₂, L, E, ce, rfl, rfl, hx, hce, hcv, hcl, rfl, hL, rfl, rfl⟩, ?_⟩
    show Steps p.tables e below _ (((({ U with heap := s₂.heap, slotsUsed := s₂.slotsUsed } : State).setVm s₂.vm).setTop g).pushFrame (.throwing q))
    rw [← hs₂]
    exact hsteps
end Payer
section Calls
variable {p : Program} {l : Launch} {e : Env} {R : Room} {s : State} {m : MethodId} {args : Array Value} {below : List Frame} {meth : Method} {c : Code} {T : State} {locs : List Loc} {cells slots : Nat}
theorem vx_callV (X : Stand p l e R s m args below meth c T locs cells slots) (hexec : p.tables.exec = Jvm.exec) {own C : String} {index : Nat} {y : MethodName} {bytes : ByteArray} {maxL : Nat} {ret : Option FieldType}
    (hown : s.vm.findClass own = some m.cls) (hlink : (Cond.methodLink own index y).before args s = true) (hinst : (Cond.instanceMethod y).before args s = true) (hsel : (Cond.selects C y y).before args s = true)
    (hcode : (Cond.code y bytes maxL ret).before args s = true) (hy : y.cls ≠ "java/lang/invoke/MethodHandle" ∧ y.cls ≠ "java/lang/invoke/VarHandle")
    {W9 : Nat} {Pre : Pt → Array Value → Prop} {Post : Pt → Array Value → Option Value → Pt → Prop} {PostX : Pt → Array Value → Addr → Pt → Prop} (hK : vx_Back l R p e below s args y 3 W9 Pre Post PostX)
    {b : Addr} {cellB : Cell} (hcell : T.heap[b]? = some cellB) (hobj : cellB.vm.isStatics = false) (hcls : s.vm.findClass C = some cellB.cls)
    {g : JFrame} (hg : g.method = m) (hsize : g.locals.size = c.maxLocals) {argsL rest : List Value} (hlen : ∀ sig, parseMethodDescriptor y.desc = some sig → argsL.length = sig.parameters.length)
    (hstack : g.stack = argsL.reverse ++ .ref b :: rest) (hW : 2 * g.monitorRoom + (rest.map fun v => v.category).sum ≤ W9) (hdg : decode c.code g.pc = .ok (.invokevirtual index, 3))
    (hpre : ∀ vm₁, s.WarmedH vm₁ → Pre ⟨T.setVm vm₁, locs, cells, slots⟩ (Value.ref b :: argsL).toArray) :
    (∃ (v : Option Value) (vm₁ : Vm) (B : Pt), s.WarmedH vm₁ ∧ Stand p l e R s m args below meth c B.U B.locs B.cells B.slots ∧ Post ⟨T.setVm vm₁, locs, cells, slots⟩ (Value.ref b :: argsL).toArray v B ∧
      ∀ target, Steps p.tables e below (B.U.setTop { g with pc := g.pc + 3, stack := v.toList ++ rest }) target → Steps p.tables e below (T.setTop g) target) ∨
    (∃ (q : Addr) (vm₁ : Vm) (B : Pt), s.WarmedH vm₁ ∧ Stand p l e R s m args below meth c B.U B.locs B.cells B.slots ∧ PostX ⟨T.setVm vm₁, locs, cells, slots⟩ (Value.ref b :: argsL).toArray q B ∧
      Steps p.tables e below (T.setTop g) ((B.U.setTop { g with stack := rest }).pushFrame (.throwing q))) := by
  obtain ⟨mk, methM, hnamed, hmethM, hstM, habM⟩ := Cond.instanceMethod_spec hinst
  obtain ⟨methM', cM, hmethM', -, -, -, -, -, -, hsigM⟩ := Cond.code_spec hnamed hcode
  cases hmethM.symm.trans hmethM'
  obtain ⟨c2, r2, m2, q1, q2, q3, q4, kP, hkP, hkPi⟩ := Cond.selects_spec hsel
  cases hcls.symm.trans q1
  cases (State.methodFound?_of_named hnamed hy).symm.trans q2
  cases hnamed.symm.trans q3
  have hselP : selectMethod e.platform s.vm cellB.cls mk = .method mk := by rw [Launch.admits_selectMethod X.admits]; exact q4
  obtain ⟨vm₁, X₁, hstep₁⟩ := X.invokevirtual hexec hown hlink hnamed hmethM hstM hkP hkPi hy (a := b) (cell := cellB) hcell
    (fun z h => by rw [h] at hobj; cases hobj) hselP hmethM habM hkP hkPi (g := g) hg (argsL := argsL) (rest := rest) (hlen _ hsigM) hstack hdg
  rcases hK m meth c ⟨T.setVm vm₁, locs, cells, slots⟩ { g with stack := rest } (.invokevirtual index) mk (Value.ref b :: argsL).toArray X₁ hg hsize hdg hW (X₁.named hnamed) (hpre vm₁ X₁.warmed) with ⟨v, B, X', hpost, hsteps⟩ | ⟨q, B, X', hpost, hsteps⟩
  · exact Or.inl ⟨v, vm₁, B, X₁.warmed, X', hpost, fun target h => hstep₁ _ fun acts => by rw [doInvoke_state]; exact hsteps.trans h⟩
  · exact Or.inr ⟨q, vm₁, B, X₁.warmed, X', hpost, hstep₁ _ fun acts => by rw [doInvoke_state]; exact hsteps⟩
theorem vx_callS (X : Stand p l e R s m args below meth c T locs cells slots) (hexec : p.tables.exec = Jvm.exec) {own : String} {index : Nat} {y : MethodName} {bytes : ByteArray} {maxL : Nat} {ret : Option FieldType}
    (hown : s.vm.findClass own = some m.cls) (hlink : (Cond.methodLink own index y).before args s = true) (hstat : (Cond.static y).before args s = true) (hinit : (Cond.initialized y.cls).before args s = true)
    (hcode : (Cond.code y bytes maxL ret).before args s = true) (hy : y.cls ≠ "java/lang/invoke/MethodHandle" ∧ y.cls ≠ "java/lang/invoke/VarHandle")
    {W9 : Nat} {Pre : Pt → Array Value → Prop} {Post : Pt → Array Value → Option Value → Pt → Prop} {PostX : Pt → Array Value → Addr → Pt → Prop} (hK : vx_Back l R p e below s args y 3 W9 Pre Post PostX)
    {g : JFrame} (hg : g.method = m) (hsize : g.locals.size = c.maxLocals) {argsL rest : List Value} (hlen : ∀ sig, parseMethodDescriptor y.desc = some sig → argsL.length = sig.parameters.length)
    (hstack : g.stack = argsL.reverse ++ rest) (hW : 2 * g.monitorRoom + (rest.map fun v => v.category).sum ≤ W9) (hdg : decode c.code g.pc = .ok (.invokestatic index, 3))
    (hpre : ∀ vm₁, s.WarmedH vm₁ → Pre ⟨T.setVm vm₁, locs, cells, slots⟩ argsL.toArray) :
    (∃ (v : Option Value) (vm₁ : Vm) (B : Pt), s.WarmedH vm₁ ∧ Stand p l e R s m args below meth c B.U B.locs B.cells B.slots ∧ Post ⟨T.setVm vm₁, locs, cells, slots⟩ argsL.toArray v B ∧
      ∀ target, Steps p.tables e below (B.U.setTop { g with pc := g.pc + 3, stack := v.toList ++ rest }) target → Steps p.tables e below (T.setTop g) target) ∨
    (∃ (q : Addr) (vm₁ : Vm) (B : Pt), s.WarmedH vm₁ ∧ Stand p l e R s m args below meth c B.U B.locs B.cells B.slots ∧ PostX ⟨T.setVm vm₁, locs, cells, slots⟩ argsL.toArray q B ∧
      Steps p.tables e below (T.setTop g) ((B.U.setTop { g with stack := rest }).pushFrame (.throwing q))) := by
  obtain ⟨mk, hnamed⟩ := Cond.code_named hcode
  obtain ⟨methM, cM, hmethM, -, -, -, -, -, -, hsigM⟩ := Cond.code_spec hnamed hcode
  have hstatic : methM.isStatic = true := Cond.static_spec hnamed hmethM hstat
  obtain ⟨kP, hkP, -⟩ := className_of_methodNamed hnamed
  have hinitP : kP.init = .initialized := Cond.initialized_spec (findClass_of_methodNamed hnamed) hkP hinit
  obtain ⟨vm₁, X₁, hstep₁⟩ := X.invokestatic hexec hown hlink hnamed hmethM hstatic hkP hinitP hy (g := g) hg (argsL := argsL) (rest := rest) (hlen _ hsigM) hstack hdg
  rcases hK m meth c ⟨T.setVm vm₁, locs, cells, slots⟩ { g with stack := rest } (.invokestatic index) mk argsL.toArray X₁ hg hsize hdg hW (X₁.named hnamed) (hpre vm₁ X₁.warmed) with ⟨v, B, X', hpost, hsteps⟩ | ⟨q, B, X', hpost, hsteps⟩
  · exact Or.inl ⟨v, vm₁, B, X₁.warmed, X', hpost, fun target h => hstep₁ _ fun acts => by rw [doInvoke_state]; exact hsteps.trans h⟩
  · exact Or.inr ⟨q, vm₁, B, X₁.warmed, X', hpost, hstep₁ _ fun acts => by rw [doInvoke_state]; exact hsteps⟩
end Calls
theorem vx_cls {s : State} {T : State} {vm₁ : Vm} {E : String} {k : ClassId} (hW : s.WarmedH vm₁) (h : (T.setVm vm₁).vm.findClass E = some k) : s.vm.findClass E = some k := by
  have h1 : vm₁.findClass E = some k := h
  rw [hW.alike.findClass] at h1
  exact h1
/-- the method's frame g, with q thrown over it -/
def vx_W (p : Program) (l : Launch) (e : Env) (R : Room) (s : State) (m : MethodId) (args : Array Value) (below : List Frame) (meth : Method) (c : Code) (H : Heap) (locs : List Loc) (cells slots : Nat) (Q : State → Prop) (g : JFrame) (q : Addr) : Prop :=
  ∀ T : State, T.heap = H → Stand p l e R s m args below meth c T locs cells slots → ∃ t, Steps p.tables e below ((T.setTop g).pushFrame (.throwing q)) t ∧ Q t
def vx_Run (p : Program) (l : Launch) (e : Env) (R : Room) (s : State) (m : MethodId) (args : Array Value) (below : List Frame) (meth : Method) (c : Code) (H : Heap) (locs : List Loc) (cells slots mc ms : Nat) (g : JFrame) (rest : List Value) (Qa : State → Outcome → State → Prop) (XC : String → State → State → Prop) (free : Addr → Prop) : Prop :=
  ∀ T : State, T.heap = H → Stand p l e R s m args below meth c T locs cells slots →
    (∃ (v : Option Value) (st₀ t T' : State) (L : List Loc), st₀.heap = H ∧ Stand p l e R s m args below meth c T' (locs ++ L) (cells + mc) (slots + ms) ∧ (∀ q ∈ L, free q.base) ∧ T'.heap = t.heap ∧ T'.vm = t.vm ∧ Qa st₀ (.returned v) t ∧
      Goes p e below T g T' { g with pc := g.pc + 3, stack := v.toList ++ rest }) ∨
    (∃ (q : Addr) (st₀ t T' : State) (L : List Loc) (E : String) (ce : Cell), st₀.heap = H ∧ Stand p l e R s m args below meth c T' (locs ++ L) (cells + mc) (slots + ms) ∧ (∀ z ∈ L, free z.base) ∧ T'.heap = t.heap ∧ T'.vm = t.vm ∧ XC E st₀ t ∧ t.heap[q]? = some ce ∧ ce.vm = .none ∧ s.vm.findClass E = some ce.cls ∧
      Steps p.tables e below (T.setTop g) ((T'.setTop { g with stack := rest }).pushFrame (.throwing q)))
def vx_X {S : Type} (px : S → Prop) (B : String → S → State → Prop) (A : Nat → Prop) : String → State → State → Prop := fun E st t => ∃ u : S, px u ∧ B E u t ∧ va_F A st t
section Runs
variable {p : Program} {l : Launch} {e : Env} {R : Room} {s : State} {m : MethodId} {args : Array Value} {below : List Frame} {meth : Method} {c : Code} {H : Heap} {locs : List Loc} {cells slots : Nat}
variable {y : MethodName} {bytes cc : ByteArray} {maxL nL mc ms n index : Nat} {ret : Option FieldType} {ws : List Cond} {rm : Room} {Pc : Array Value → State → Prop} {Qc : Array Value → State → Outcome → State → Prop} {XC : String → State → State → Prop} {free : Addr → Prop} {Ts : List Cond} {own C : String} {b : Addr} {As rest : List Value} {g : JFrame}
theorem vx_callBack (cb : CallB R s args own index y bytes maxL ret ws rm mc ms n) (hM : vx_Met l y ws rm Pc Qc XC mc ms free) (hbl : FrameBlind Pc) : vx_Back l R p e below s args y 3 8 (PreOf R mc ms Pc) (PostOf Qc mc ms free) (vx_Post XC mc ms free) := by
  obtain ⟨hrc, hrs, hfr, hlo, hws, hcw, -, hini, -⟩ := cb
  exact vx_back (bytes := bytes) (maxL := maxL) (ret := ret) hM hbl hrc hrs hfr hlo hws hcw (fun a' U hW => word_at hW (Or.inl (by first | rfl | simp [Cond.onTables, Cond.keeps, Cond.steady])) hini)
theorem vx_runV (S : CallFix p m c cc nL s args Ts own) (hM : vx_Met l y ws rm Pc Qc XC mc ms free) (cw : CallW R s args own C index y bytes maxL ret ws rm mc ms n) (hp : PreV s H C b Pc As)
    (hg : g.method = m) (hn : As.length = n) (hsize : g.locals.size = nL) (hstack : g.stack = As.reverse ++ .ref b :: rest) (hW : 2 * g.monitorRoom + (rest.map fun v => v.category).sum ≤ 8) (hdg : decode cc g.pc = .ok (.invokevirtual index, 3)) (hf : cells + mc ≤ R.cells ∧ slots + ms ≤ R.slots) :
    vx_Run p l e R s m args below meth c H locs cells slots mc ms g rest (Qc (Value.ref b :: As).toArray) XC free := by
  have hK : vx_Back l R p e below s args y 3 8 (PreOf R mc ms Pc) (PostOf Qc mc ms free) (vx_Post XC mc ms free) := vx_callBack cw.1 hM hp.1
  obtain ⟨⟨-, -, -, -, -, -, hcode, -, hy, hlen, hl⟩, hin, hse⟩ := cw
  obtain ⟨hx, hb, hml, ho, -⟩ := S
  obtain ⟨-, ⟨cellB, hcB, hoB, hclB⟩, hPc⟩ := hp
  intro T hT X
  rcases vx_callV X hx (C := C) (bytes := bytes) (maxL := maxL) (ret := ret) ho hl hin hse hcode hy hK (by rw [hT]; exact hcB) hoB hclB hg (hsize.trans hml.symm) (argsL := As) (rest := rest) (fun sig h => hn.trans (hlen sig h)) hstack hW (by rw [hb]; exact hdg)
    (fun vm₁ hW₁ => ⟨hf.1, hf.2, hPc (T.setVm vm₁) hT hW₁⟩) with ⟨v, vm₁, ⟨U', l2, c2, s2⟩, hW₁, X', ⟨g', mk, t, L, e1, e2, hq, h1, hL, h2, h3⟩, st⟩ | ⟨q, vm₁, ⟨U', l2, c2, s2⟩, hW₁, X', ⟨g', mk, t, L, E, ce, e1, e2, hq, hce, hcv, hcl, h1, hL, h2, h3⟩, st⟩
  · dsimp only [Pt.U, Pt.locs, Pt.cells, Pt.slots] at X' e1 e2 h1 h2 h3 st
    subst h1; subst h2; subst h3
    exact Or.inl ⟨v, (T.setVm vm₁).calling g' mk (Value.ref b :: As).toArray, t, U', L, hT, X', hL, e1, e2, hq, st⟩
  · dsimp only [Pt.U, Pt.locs, Pt.cells, Pt.slots] at X' e1 e2 h1 h2 h3 st hcl
    subst h1; subst h2; subst h3
    exact Or.inr ⟨q, (T.setVm vm₁).calling g' mk (Value.ref b :: As).toArray, t, U', L, E, ce, hT, X', hL, e1, e2, hq, hce, hcv, vx_cls hW₁ hcl, st⟩
theorem vx_runS (S : CallFix p m c cc nL s args Ts own) (hM : vx_Met l y ws rm Pc Qc XC mc ms free) (cw : CallB R s args own index y bytes maxL ret ws rm mc ms n ∧ (Cond.static y).before args s = true) (hp : PreS s H Pc As)
    (hg : g.method = m) (hn : As.length = n) (hsize : g.locals.size = nL) (hstack : g.stack = As.reverse ++ rest) (hW : 2 * g.monitorRoom + (rest.map fun v => v.category).sum ≤ 8) (hdg : decode cc g.pc = .ok (.invokestatic index, 3)) (hf : cells + mc ≤ R.cells ∧ slots + ms ≤ R.slots) :
    vx_Run p l e R s m args below meth c H locs cells slots mc ms g rest (Qc As.toArray) XC free := by
  have hK : vx_Back l R p e below s args y 3 8 (PreOf R mc ms Pc) (PostOf Qc mc ms free) (vx_Post XC mc ms free) := vx_callBack cw.1 hM hp.1
  obtain ⟨⟨-, -, -, -, -, -, hcode, hini, hy, hlen, hl⟩, hstt⟩ := cw
  obtain ⟨hx, hb, hml, ho, -⟩ := S
  intro T hT X
  rcases vx_callS X hx (bytes := bytes) (maxL := maxL) (ret := ret) ho hl hstt hini hcode hy hK hg (hsize.trans hml.symm) (argsL := As) (rest := rest) (fun sig h => hn.trans (hlen sig h)) hstack hW (by rw [hb]; exact hdg)
    (fun vm₁ hW₁ => ⟨hf.1, hf.2, hp.2 (T.setVm vm₁) hT hW₁⟩) with ⟨v, vm₁, ⟨U', l2, c2, s2⟩, hW₁, X', ⟨g', mk, t, L, e1, e2, hq, h1, hL, h2, h3⟩, st⟩ | ⟨q, vm₁, ⟨U', l2, c2, s2⟩, hW₁, X', ⟨g', mk, t, L, E, ce, e1, e2, hq, hce, hcv, hcl, h1, hL, h2, h3⟩, st⟩
  · dsimp only [Pt.U, Pt.locs, Pt.cells, Pt.slots] at X' e1 e2 h1 h2 h3 st
    subst h1; subst h2; subst h3
    exact Or.inl ⟨v, (T.setVm vm₁).calling g' mk As.toArray, t, U', L, hT, X', hL, e1, e2, hq, st⟩
  · dsimp only [Pt.U, Pt.locs, Pt.cells, Pt.slots] at X' e1 e2 h1 h2 h3 st hcl
    subst h1; subst h2; subst h3
    exact Or.inr ⟨q, (T.setVm vm₁).calling g' mk As.toArray, t, U', L, E, ce, hT, X', hL, e1, e2, hq, hce, hcv, vx_cls hW₁ hcl, st⟩
end Runs
section Rows
variable {p : Program} {l : Launch} {e : Env} {R : Room} {s : State} {m : MethodId} {args : Array Value} {below : List Frame} {meth : Method} {c : Code} {H : Heap} {locs : List Loc} {cells slots : Nat} {Q : State → Prop}
variable {mc ms : Nat} {free : Addr → Prop} {A0 A1 : Nat → Prop} {H0 : Heap} {a : Array Value} {pc : Nat} {ls : Array Slot} {st0 rest : List Value}
theorem vx_keep {st₀ t T' : State} {L : List Loc} (h0 : st₀.heap = H) (e1 : T'.heap = t.heap) (hS : va_S A0 H0 H locs) (hA : ∀ q, q < H.size → A1 q → A0 q) (hf : ∀ q, free q → A0 q) (hL : ∀ q ∈ L, free q.base) (hF : va_F A1 st₀ t) :
    H.size ≤ T'.heap.size ∧ (∀ q : Nat, q < H.size → ¬ A1 q → T'.heap[q]? = H[q]?) ∧ va_S A0 H0 T'.heap (locs ++ L) := by
  obtain ⟨hz, hk⟩ := hF
  rw [h0] at hz hk
  exact ⟨by rw [e1]; exact hz, fun q h1 h2 => by rw [e1]; exact hk q h1 h2,
    ⟨Nat.le_trans hS.1 (by rw [e1]; exact hz), fun q h1 h2 => by rw [e1, hk q (Nat.lt_of_lt_of_le h1 hS.1) (fun z => h2 (hA q (Nat.lt_of_lt_of_le h1 hS.1) z))]; exact hS.2.1 q h1 h2, fun q hq => by
      rcases List.mem_append.mp hq with h | h
      · exact hS.2.2 q h
      · exact hf _ (hL q h)⟩⟩
theorem vx_calli {S SX : Type} {post : Int32 → S → Prop} {px : SX → Prop} {B : S → State → Prop} {BX : String → SX → State → Prop} {AX : Nat → Prop} (hr : vx_Run p l e R s m args below meth c H locs cells slots mc ms (F0 m pc ls st0) rest (va_Qi post B A1 a) (vx_X px BX AX) free) (hS : va_S A0 H0 H locs) (hA : ∀ q, q < H.size → A1 q → A0 q) (hf : ∀ q, free q → A0 q) (hAX : ∀ q, q < H.size → AX q → A0 q)
    (kx : ∀ (E : String) (ce : Cell) (q9 : Addr) (u : SX) (t : State) (H1 : Heap) (locs1 : List Loc), t.heap = H1 → s.vm.Alike t.vm → px u → BX E u t → H.size ≤ H1.size → (∀ q : Nat, q < H.size → ¬ AX q → H1[q]? = H[q]?) → va_S A0 H0 H1 locs1 → H1[q9]? = some ce → ce.vm = .none → s.vm.findClass E = some ce.cls → vx_W p l e R s m args below meth c H1 locs1 (cells + mc) (slots + ms) Q (F0 m pc ls rest) q9)
    (kk : ∀ (r : Int32) (u : S) (t : State) (H1 : Heap) (locs1 : List Loc), t.heap = H1 → s.vm.Alike t.vm → post r u → B u t → H.size ≤ H1.size → (∀ q : Nat, q < H.size → ¬ A1 q → H1[q]? = H[q]?) → va_S A0 H0 H1 locs1 → W p l e R s m args below meth c H1 locs1 (cells + mc) (slots + ms) Q (F0 m (pc + 3) ls (.int r :: rest))) : W p l e R s m args below meth c H locs cells slots Q (F0 m pc ls st0) := by
  intro T hT X
  rcases hr T hT X with ⟨v, st₀, t, T', L, h0, X', hL, e1, e2, ⟨⟨r, u, hv, hp, hb⟩, hF⟩, st⟩ | ⟨q, st₀, t, T', L, E, ce, h0, X', hL, e1, e2, ⟨u, hp, hb, hF⟩, hce, hcv, hcl, st⟩
  · cases hv
    obtain ⟨k1, k2, k3⟩ := vx_keep h0 e1 hS hA hf hL hF
    obtain ⟨t2, a1, b1⟩ := kk r u t T'.heap (locs ++ L) e1.symm (by rw [← e2]; exact X'.warmed.alike) hp hb k1 k2 k3 T' rfl X'
    exact ⟨t2, st t2 a1, b1⟩
  · obtain ⟨k1, k2, k3⟩ := vx_keep h0 e1 hS hAX hf hL hF
    obtain ⟨t2, a1, b1⟩ := kx E ce q u t T'.heap (locs ++ L) e1.symm (by rw [← e2]; exact X'.warmed.alike) hp hb k1 k2 k3 (by rw [e1]; exact hce) hcv hcl T' rfl X'
    exact ⟨t2, st.trans a1, b1⟩
theorem vx_calll {S SX : Type} {post : Int64 → S → Prop} {px : SX → Prop} {B : S → State → Prop} {BX : String → SX → State → Prop} {AX : Nat → Prop} (hr : vx_Run p l e R s m args below meth c H locs cells slots mc ms (F0 m pc ls st0) rest (va_Ql post B A1 a) (vx_X px BX AX) free) (hS : va_S A0 H0 H locs) (hA : ∀ q, q < H.size → A1 q → A0 q) (hf : ∀ q, free q → A0 q) (hAX : ∀ q, q < H.size → AX q → A0 q)
    (kx : ∀ (E : String) (ce : Cell) (q9 : Addr) (u : SX) (t : State) (H1 : Heap) (locs1 : List Loc), t.heap = H1 → s.vm.Alike t.vm → px u → BX E u t → H.size ≤ H1.size → (∀ q : Nat, q < H.size → ¬ AX q → H1[q]? = H[q]?) → va_S A0 H0 H1 locs1 → H1[q9]? = some ce → ce.vm = .none → s.vm.findClass E = some ce.cls → vx_W p l e R s m args below meth c H1 locs1 (cells + mc) (slots + ms) Q (F0 m pc ls rest) q9)
    (kk : ∀ (r : Int64) (u : S) (t : State) (H1 : Heap) (locs1 : List Loc), t.heap = H1 → s.vm.Alike t.vm → post r u → B u t → H.size ≤ H1.size → (∀ q : Nat, q < H.size → ¬ A1 q → H1[q]? = H[q]?) → va_S A0 H0 H1 locs1 → W p l e R s m args below meth c H1 locs1 (cells + mc) (slots + ms) Q (F0 m (pc + 3) ls (.long r :: rest))) : W p l e R s m args below meth c H locs cells slots Q (F0 m pc ls st0) := by
  intro T hT X
  rcases hr T hT X with ⟨v, st₀, t, T', L, h0, X', hL, e1, e2, ⟨⟨r, u, hv, hp, hb⟩, hF⟩, st⟩ | ⟨q, st₀, t, T', L, E, ce, h0, X', hL, e1, e2, ⟨u, hp, hb, hF⟩, hce, hcv, hcl, st⟩
  · cases hv
    obtain ⟨k1, k2, k3⟩ := vx_keep h0 e1 hS hA hf hL hF
    obtain ⟨t2, a1, b1⟩ := kk r u t T'.heap (locs ++ L) e1.symm (by rw [← e2]; exact X'.warmed.alike) hp hb k1 k2 k3 T' rfl X'
    exact ⟨t2, st t2 a1, b1⟩
  · obtain ⟨k1, k2, k3⟩ := vx_keep h0 e1 hS hAX hf hL hF
    obtain ⟨t2, a1, b1⟩ := kx E ce q u t T'.heap (locs ++ L) e1.symm (by rw [← e2]; exact X'.warmed.alike) hp hb k1 k2 k3 (by rw [e1]; exact hce) hcv hcl T' rfl X'
    exact ⟨t2, st.trans a1, b1⟩
theorem vx_callf {S SX : Type} {post : UInt32 → S → Prop} {px : SX → Prop} {B : S → State → Prop} {BX : String → SX → State → Prop} {AX : Nat → Prop} (hr : vx_Run p l e R s m args below meth c H locs cells slots mc ms (F0 m pc ls st0) rest (va_Qf post B A1 a) (vx_X px BX AX) free) (hS : va_S A0 H0 H locs) (hA : ∀ q, q < H.size → A1 q → A0 q) (hf : ∀ q, free q → A0 q) (hAX : ∀ q, q < H.size → AX q → A0 q)
    (kx : ∀ (E : String) (ce : Cell) (q9 : Addr) (u : SX) (t : State) (H1 : Heap) (locs1 : List Loc), t.heap = H1 → s.vm.Alike t.vm → px u → BX E u t → H.size ≤ H1.size → (∀ q : Nat, q < H.size → ¬ AX q → H1[q]? = H[q]?) → va_S A0 H0 H1 locs1 → H1[q9]? = some ce → ce.vm = .none → s.vm.findClass E = some ce.cls → vx_W p l e R s m args below meth c H1 locs1 (cells + mc) (slots + ms) Q (F0 m pc ls rest) q9)
    (kk : ∀ (r : UInt32) (u : S) (t : State) (H1 : Heap) (locs1 : List Loc), t.heap = H1 → s.vm.Alike t.vm → post r u → B u t → H.size ≤ H1.size → (∀ q : Nat, q < H.size → ¬ A1 q → H1[q]? = H[q]?) → va_S A0 H0 H1 locs1 → W p l e R s m args below meth c H1 locs1 (cells + mc) (slots + ms) Q (F0 m (pc + 3) ls (.float r :: rest))) : W p l e R s m args below meth c H locs cells slots Q (F0 m pc ls st0) := by
  intro T hT X
  rcases hr T hT X with ⟨v, st₀, t, T', L, h0, X', hL, e1, e2, ⟨⟨r, u, hv, hp, hb⟩, hF⟩, st⟩ | ⟨q, st₀, t, T', L, E, ce, h0, X', hL, e1, e2, ⟨u, hp, hb, hF⟩, hce, hcv, hcl, st⟩
  · cases hv
    obtain ⟨k1, k2, k3⟩ := vx_keep h0 e1 hS hA hf hL hF
    obtain ⟨t2, a1, b1⟩ := kk r u t T'.heap (locs ++ L) e1.symm (by rw [← e2]; exact X'.warmed.alike) hp hb k1 k2 k3 T' rfl X'
    exact ⟨t2, st t2 a1, b1⟩
  · obtain ⟨k1, k2, k3⟩ := vx_keep h0 e1 hS hAX hf hL hF
    obtain ⟨t2, a1, b1⟩ := kx E ce q u t T'.heap (locs ++ L) e1.symm (by rw [← e2]; exact X'.warmed.alike) hp hb k1 k2 k3 (by rw [e1]; exact hce) hcv hcl T' rfl X'
    exact ⟨t2, st.trans a1, b1⟩
theorem vx_calld {S SX : Type} {post : UInt64 → S → Prop} {px : SX → Prop} {B : S → State → Prop} {BX : String → SX → State → Prop} {AX : Nat → Prop} (hr : vx_Run p l e R s m args below meth c H locs cells slots mc ms (F0 m pc ls st0) rest (va_Qd post B A1 a) (vx_X px BX AX) free) (hS : va_S A0 H0 H locs) (hA : ∀ q, q < H.size → A1 q → A0 q) (hf : ∀ q, free q → A0 q) (hAX : ∀ q, q < H.size → AX q → A0 q)
    (kx : ∀ (E : String) (ce : Cell) (q9 : Addr) (u : SX) (t : State) (H1 : Heap) (locs1 : List Loc), t.heap = H1 → s.vm.Alike t.vm → px u → BX E u t → H.size ≤ H1.size → (∀ q : Nat, q < H.size → ¬ AX q → H1[q]? = H[q]?) → va_S A0 H0 H1 locs1 → H1[q9]? = some ce → ce.vm = .none → s.vm.findClass E = some ce.cls → vx_W p l e R s m args below meth c H1 locs1 (cells + mc) (slots + ms) Q (F0 m pc ls rest) q9)
    (kk : ∀ (r : UInt64) (u : S) (t : State) (H1 : Heap) (locs1 : List Loc), t.heap = H1 → s.vm.Alike t.vm → post r u → B u t → H.size ≤ H1.size → (∀ q : Nat, q < H.size → ¬ A1 q → H1[q]? = H[q]?) → va_S A0 H0 H1 locs1 → W p l e R s m args below meth c H1 locs1 (cells + mc) (slots + ms) Q (F0 m (pc + 3) ls (.double r :: rest))) : W p l e R s m args below meth c H locs cells slots Q (F0 m pc ls st0) := by
  intro T hT X
  rcases hr T hT X with ⟨v, st₀, t, T', L, h0, X', hL, e1, e2, ⟨⟨r, u, hv, hp, hb⟩, hF⟩, st⟩ | ⟨q, st₀, t, T', L, E, ce, h0, X', hL, e1, e2, ⟨u, hp, hb, hF⟩, hce, hcv, hcl, st⟩
  · cases hv
    obtain ⟨k1, k2, k3⟩ := vx_keep h0 e1 hS hA hf hL hF
    obtain ⟨t2, a1, b1⟩ := kk r u t T'.heap (locs ++ L) e1.symm (by rw [← e2]; exact X'.warmed.alike) hp hb k1 k2 k3 T' rfl X'
    exact ⟨t2, st t2 a1, b1⟩
  · obtain ⟨k1, k2, k3⟩ := vx_keep h0 e1 hS hAX hf hL hF
    obtain ⟨t2, a1, b1⟩ := kx E ce q u t T'.heap (locs ++ L) e1.symm (by rw [← e2]; exact X'.warmed.alike) hp hb k1 k2 k3 (by rw [e1]; exact hce) hcv hcl T' rfl X'
    exact ⟨t2, st.trans a1, b1⟩
theorem vx_callv {S SX : Type} {post : S → Prop} {px : SX → Prop} {B : S → State → Prop} {BX : String → SX → State → Prop} {AX : Nat → Prop} (hr : vx_Run p l e R s m args below meth c H locs cells slots mc ms (F0 m pc ls st0) rest (va_Qv post B A1 a) (vx_X px BX AX) free) (hS : va_S A0 H0 H locs) (hA : ∀ q, q < H.size → A1 q → A0 q) (hf : ∀ q, free q → A0 q) (hAX : ∀ q, q < H.size → AX q → A0 q)
    (kx : ∀ (E : String) (ce : Cell) (q9 : Addr) (u : SX) (t : State) (H1 : Heap) (locs1 : List Loc), t.heap = H1 → s.vm.Alike t.vm → px u → BX E u t → H.size ≤ H1.size → (∀ q : Nat, q < H.size → ¬ AX q → H1[q]? = H[q]?) → va_S A0 H0 H1 locs1 → H1[q9]? = some ce → ce.vm = .none → s.vm.findClass E = some ce.cls → vx_W p l e R s m args below meth c H1 locs1 (cells + mc) (slots + ms) Q (F0 m pc ls rest) q9)
    (kk : ∀ (u : S) (t : State) (H1 : Heap) (locs1 : List Loc), t.heap = H1 → s.vm.Alike t.vm → post u → B u t → H.size ≤ H1.size → (∀ q : Nat, q < H.size → ¬ A1 q → H1[q]? = H[q]?) → va_S A0 H0 H1 locs1 → W p l e R s m args below meth c H1 locs1 (cells + mc) (slots + ms) Q (F0 m (pc + 3) ls (rest))) : W p l e R s m args below meth c H locs cells slots Q (F0 m pc ls st0) := by
  intro T hT X
  rcases hr T hT X with ⟨v, st₀, t, T', L, h0, X', hL, e1, e2, ⟨⟨u, hv, hp, hb⟩, hF⟩, st⟩ | ⟨q, st₀, t, T', L, E, ce, h0, X', hL, e1, e2, ⟨u, hp, hb, hF⟩, hce, hcv, hcl, st⟩
  · cases hv
    obtain ⟨k1, k2, k3⟩ := vx_keep h0 e1 hS hA hf hL hF
    obtain ⟨t2, a1, b1⟩ := kk u t T'.heap (locs ++ L) e1.symm (by rw [← e2]; exact X'.warmed.alike) hp hb k1 k2 k3 T' rfl X'
    exact ⟨t2, st t2 a1, b1⟩
  · obtain ⟨k1, k2, k3⟩ := vx_keep h0 e1 hS hAX hf hL hF
    obtain ⟨t2, a1, b1⟩ := kx E ce q u t T'.heap (locs ++ L) e1.symm (by rw [← e2]; exact X'.warmed.alike) hp hb k1 k2 k3 (by rw [e1]; exact hce) hcv hcl T' rfl X'
    exact ⟨t2, st.trans a1, b1⟩
/-- caught by the row x of this method's table; the rows ahead don't take it -/
theorem vx_catch {own name : String} {E : String} {ce : Cell} {q : Addr} (hown : s.vm.findClass own = some m.cls) (pre : List ExceptionTableEntry) (x : ExceptionTableEntry) (suf : List ExceptionTableEntry) (hsplit : c.exceptionTable.toList = pre ++ x :: suf)
    (hpass : ∀ z ∈ pre, covers z pc = false ∨ (z.catchType ≠ 0 ∧ ∃ nm : String, (Cond.classLink own z.catchType nm).before args s = true ∧ va_Nc E nm s)) (hx : covers x pc = true) (h0 : x.catchType ≠ 0)
    (hlink : (Cond.classLink own x.catchType name).before args s = true) (hcast : (Cond.castable E name).before args s = true) (hcell : H[q]? = some ce) (hv : ce.vm = .none) (hcl : s.vm.findClass E = some ce.cls)
    (kk : W p l e R s m args below meth c H locs cells slots Q (F0 m x.handlerPc ls [.ref q])) : vx_W p l e R s m args below meth c H locs cells slots Q (F0 m pc ls rest) q := by
  intro T hT X
  have hpl : e.platform.magicAccessors = ({} : Platform).magicAccessors := by rw [X.admits.platform]
  obtain ⟨c3, c4, hc3, hc4, hasg⟩ := Cond.castable_spec hcast
  cases Option.some.inj (hc3.symm.trans hcl)
  obtain ⟨c5, hc5, hcl5⟩ := Cond.classLink_spec hown hlink e.platform hpl
  cases Option.some.inj (hc4.symm.trans hc5)
  obtain ⟨vm', X', st⟩ := X.thenCaughtThrough q (g := F0 m pc ls rest) rfl (Steps.refl _) (by rw [hT]; exact hcell) (by rw [hv]; rfl) (by obtain ⟨k9, h9, -⟩ := Vm.findClass_spec hcl; exact ⟨k9, h9⟩) pre x suf hsplit
    (fun z hz => by
      rcases hpass z hz with h | ⟨hz0, nm, hl1, hn1⟩
      · exact Or.inl h
      · obtain ⟨c6, hc6, hcl6⟩ := Cond.classLink_spec hown hl1 e.platform hpl
        obtain ⟨a8, b8, h1, h2, h3⟩ := hn1
        cases Option.some.inj (h1.symm.trans hcl)
        cases Option.some.inj (h2.symm.trans hc6)
        exact Or.inr ⟨hz0, _, hcl6, h3⟩) hx (Or.inr ⟨h0, c4, hcl5, hasg⟩)
  obtain ⟨t, a1, b1⟩ := kk (T.setVm vm') hT X'
  exact ⟨t, st.trans a1, b1⟩
end Rows
section Ends
variable {p : Program} {l : Launch} {e : Env} {R : Room} {s : State} {m : MethodId} {args : Array Value} {below : List Frame} {meth : Method} {c : Code} {H : Heap} {locs : List Loc} {cells slots : Nat} {Q : State → Prop}
variable {mc ms : Nat} {free : Addr → Prop} {A0 A1 : Nat → Prop} {H0 : Heap} {a : Array Value} {ls : Array Slot} {st0 rest : List Value}
variable {Qc : Array Value → State → Outcome → State → Prop} {XC : String → State → State → Prop}
/-- what a body that may throw owes at its end -/
def vx_MQ (below : List Frame) (Qc : Array Value → State → Outcome → State → Prop) (XC : String → State → State → Prop) (a : Array Value) (s : State) (mc ms : Nat) (free : Addr → Prop) : State → Prop := fun t =>
  ∃ o, t.status = .running ∧ Ended t below o ∧ vx_Q Qc XC mc ms free a s o t
theorem vx_ret {g : JFrame} {mc ms : Nat} (k : W p l e R s m args below meth c H locs cells slots (MQ below Qc args s mc ms free) g) : W p l e R s m args below meth c H locs cells slots (vx_MQ below Qc XC args s mc ms free) g := by
  intro T hT X
  obtain ⟨t, a1, o, b1, b2, b3, b4⟩ := k T hT X
  exact ⟨t, a1, o, b1, b2, Or.inl ⟨b3, b4⟩⟩
/-- not caught here: it goes on to the caller -/
theorem vx_widen {g : JFrame} {q : Addr} {k n : Nat} (h1 : cells ≤ k) (h2 : slots ≤ n) (kk : vx_W p l e R s m args below meth c H locs k n Q g q) : vx_W p l e R s m args below meth c H locs cells slots Q g q := fun T hT X => kk T hT (stand_widen X h1 h2)
theorem vx_out {pc : Nat} {E : String} {ce : Cell} {q : Addr} {mc ms : Nat} (hout : ∀ x ∈ c.exceptionTable.toList, covers x pc = false) (hlocks : meth.locks = false) (hcell : H[q]? = some ce) (hv : ce.vm = .none) (hcl : s.vm.findClass E = some ce.cls)
    (hx : ∀ t : State, t.heap = H → s.vm.Alike t.vm → XC E s t) (hf : ∀ z ∈ locs, free z.base) (hc : cells ≤ mc) (hs : slots ≤ ms) :
    vx_W p l e R s m args below meth c H locs cells slots (vx_MQ below Qc XC args s mc ms free) (F0 m pc ls rest) q := by
  intro T hT X
  obtain ⟨st1, hrun, hend, hW, hsm⟩ := X.leaveThrown q (g := F0 m pc ls rest) rfl rfl rfl hout hlocks
  have hcell9 : (T.setFrames (.throwing q :: below)).heap[q]? = some ce := by
    show T.heap[q]? = some ce
    rw [hT]; exact hcell
  exact ⟨_, st1, .threw q, hrun, hend, Or.inr ⟨q, rfl, E, ce, locs, hx _ hT hW.alike, hcell9, hv, hcl, hW, hsm.mono hc hs, hf⟩⟩
theorem vx_frame {U : State} {k n : Nat} (h : s.sameButNew ({ U with vm := s.vm } : State) locs k n) : s.heap.size ≤ U.heap.size ∧ ∀ q : Nat, q < s.heap.size → (∀ z ∈ locs, z.base ≠ q) → U.heap[q]? = s.heap[q]? := by
  obtain ⟨-, h2, -, -, -, h6⟩ := h
  refine ⟨h2, fun q hq hz => ?_⟩
  obtain ⟨c9, e1, e2, e3, e4⟩ := h6 q _ (Array.getElem?_eq_getElem hq)
  have hs : c9.slots = (s.heap[q]).slots := Array.ext_getElem? fun i => e4 i fun hm => hz _ hm rfl
  have h9 : c9 = s.heap[q] := by
    rw [hs] at e2
    exact e2
  have e5 : U.heap[q]? = some c9 := e1
  rw [e5, h9, Array.getElem?_eq_getElem hq]
/-- the words of a throw but the four that speak of the heap -/
def vx_no (w : Cond) : Bool := decide (w ≠ .isRef (.static Bundle.tN "UNASSIGNED_STACK" Bundle.steD)) && decide (w ≠ .isRef (.static Bundle.tN "SUPPRESSED_SENTINEL" Bundle.listD)) && decide (w ≠ .laysStatic Bundle.tN "UNASSIGNED_STACK" Bundle.steD) && decide (w ≠ .laysStatic Bundle.tN "SUPPRESSED_SENTINEL" Bundle.listD)
def vx_at0 (own : String) (ic : Nat) (X : String) (names : List String) : List Cond := (Bundle.ownAtoms0 own ic X names).filter vx_no
def vx_atS (own : String) (ic : Nat) (X : String) (names : List String) : List Cond := (Bundle.ownAtoms own ic X names).filter vx_no
/-- a word that the tables alone decide, or a good one -/
def vx_ot (w : Cond) : Bool := w.onTables || goodWord w
theorem vx_ot_at {args a' : Array Value} {s U : State} {w : Cond} (hW : s.WarmedH U.vm) (hvm : s.vm = U.vm) (hg : vx_ot w = true) (h : w.before args s = true) : w.before a' U = true := by
  simp only [vx_ot, Bool.or_eq_true] at hg
  rcases hg with hg | hg
  · exact va_tabs hg hvm h
  · exact word_at hW (good_of_word hg) h
/-- a list's words: the good ones out of the method's own list, the others by premises of their own -/
theorem vx_hat {args : Array Value} {s : State} {L B : List Cond} (h1 : ∀ w ∈ L.filter goodWord, w.before args s = true) (h2 : ∀ w ∈ L.filter (fun w => !goodWord w), w ∈ B) (h3 : ∀ w ∈ B, w.before args s = true) : ∀ w ∈ L, w.before args s = true := by
  intro w hw
  by_cases g : goodWord w = true
  · exact h1 w (List.mem_filter.mpr ⟨hw, g⟩)
  · refine h3 w (h2 w (List.mem_filter.mpr ⟨hw, ?_⟩))
    show (!goodWord w) = true
    cases hgw : goodWord w
    · rfl
    · exact absurd hgw g
theorem vx_c {args : Array Value} {s : State} {w : Cond} {B : List Cond} (h : w.before args s = true) (t : ∀ w ∈ B, w.before args s = true) : ∀ w' ∈ w :: B, w'.before args s = true := fun w' h' => (List.mem_cons.mp h').elim (fun e => by rw [e]; exact h) (t w')
theorem vx_n {args : Array Value} {s : State} : ∀ w ∈ ([] : List Cond), w.before args s = true := fun _ h => nomatch h
theorem vx_own {args : Array Value} {s : State} {L : List Cond} (h1 : ∀ w ∈ L.filter vx_no, w.before args s = true)
    (hU : (Cond.isRef (.static Bundle.tN "UNASSIGNED_STACK" Bundle.steD)).before args s = true) (hN : (Cond.isRef (.static Bundle.tN "SUPPRESSED_SENTINEL" Bundle.listD)).before args s = true)
    (lU : (Cond.laysStatic Bundle.tN "UNASSIGNED_STACK" Bundle.steD).before args s = true) (lN : (Cond.laysStatic Bundle.tN "SUPPRESSED_SENTINEL" Bundle.listD).before args s = true) : ∀ w ∈ L, w.before args s = true := by
  intro w hw
  by_cases e1 : w = .isRef (.static Bundle.tN "UNASSIGNED_STACK" Bundle.steD)
  · rw [e1]; exact hU
  · by_cases e2 : w = .isRef (.static Bundle.tN "SUPPRESSED_SENTINEL" Bundle.listD)
    · rw [e2]; exact hN
    · by_cases e3 : w = .laysStatic Bundle.tN "UNASSIGNED_STACK" Bundle.steD
      · rw [e3]; exact lU
      · by_cases e4 : w = .laysStatic Bundle.tN "SUPPRESSED_SENTINEL" Bundle.listD
        · rw [e4]; exact lN
        · exact h1 w (List.mem_filter.mpr ⟨hw, by unfold vx_no; rw [decide_eq_true e1, decide_eq_true e2, decide_eq_true e3, decide_eq_true e4]; rfl⟩)
/-- where a static field lies, its class's statics cell in H -/
def vx_L (C n d : String) (A : Nat → Prop) (U : State) (H : Heap) : Prop := ∃ (c : ClassId) (k : Class) (i : Nat) (f : Field) (a : Nat) (cell : Cell), U.vm.findClass C = some c ∧ U.fieldFound? C n d = some (c, k, i, f) ∧ f.isStatic = true ∧ k.statics = some a ∧ H[a]? = some cell ∧ cell.vm.isStatics = true ∧ cell.cls = c ∧ f.slot < cell.slots.size ∧ k.staticTypes[f.slot]? = some f.type ∧ ¬ A a
theorem vx_L.moved {C n d : String} {A : Nat → Prop} {u U : State} {H : Heap} (hvm : u.vm.Alike U.vm) (h : vx_L C n d A u H) : vx_L C n d A U H := by
  obtain ⟨c, k, i, f, a, cell, h1, h2, h3, h4, h5, h6, h7, h8, h9, h10⟩ := h
  obtain ⟨k', hi', he⟩ := State.fieldFound?_setVm hvm h2
  exact ⟨c, k', i, f, a, cell, by rw [hvm.findClass]; exact h1, hi', h3, by rw [he]; exact h4, h5, h6, h7, h8, by rw [he]; exact h9, h10⟩
theorem vx_L.kept {C n d : String} {A : Nat → Prop} {U : State} {H H1 : Heap} (h : vx_L C n d A U H) (hq : ∀ a : Nat, a < H.size → ¬ A a → H1[a]? = H[a]?) : vx_L C n d A U H1 := by
  obtain ⟨c, k, i, f, a, cell, h1, h2, h3, h4, h5, h6, h7, h8, h9, h10⟩ := h
  exact ⟨c, k, i, f, a, cell, h1, h2, h3, h4, by rw [hq a (Array.getElem?_eq_some_iff.mp h5).1 h10]; exact h5, h6, h7, h8, h9, h10⟩
theorem vx_L.narrow {C n d : String} {A B : Nat → Prop} {U : State} {H : Heap} (h : vx_L C n d A U H) (hAB : ∀ q, B q → A q) : vx_L C n d B U H := by
  obtain ⟨c, k, i, f, a, cell, h1, h2, h3, h4, h5, h6, h7, h8, h9, h10⟩ := h
  exact ⟨c, k, i, f, a, cell, h1, h2, h3, h4, h5, h6, h7, h8, h9, fun z => h10 (hAB _ z)⟩
theorem vx_L.word {C n d : String} {A : Nat → Prop} {s : State} {args : Array Value} (h : vx_L C n d A s s.heap) : (Cond.laysStatic C n d).before args s = true := by
  obtain ⟨c, k, i, f, a, cell, h1, h2, h3, h4, h5, h6, h7, h8, h9, -⟩ := h
  show (Cond.laysStatic C n d).holds args s none s [] = true
  exact Cond.laysStatic_of h1 h2 h3 h4 h5 h6 h7 h8 h9
/-- .. and what it holds: null or some reference -/
def vx_Zq (C n d : String) (A : Nat → Prop) (U : State) (H : Heap) : Prop := va_Zq C n d A U H ∧ vx_L C n d A U H
theorem vx_Zq.moved {C n d : String} {A : Nat → Prop} {u U : State} {H : Heap} (hvm : u.vm.Alike U.vm) (h : vx_Zq C n d A u H) : vx_Zq C n d A U H := ⟨va_Zq.moved hvm h.1, vx_L.moved hvm h.2⟩
theorem vx_Zq.kept {C n d : String} {A : Nat → Prop} {U : State} {H H1 : Heap} (h : vx_Zq C n d A U H) (hq : ∀ a : Nat, a < H.size → ¬ A a → H1[a]? = H[a]?) : vx_Zq C n d A U H1 := ⟨va_Zq.kept h.1 hq, vx_L.kept h.2 hq⟩
theorem vx_Zq.narrow {C n d : String} {A B : Nat → Prop} {U : State} {H : Heap} (h : vx_Zq C n d A U H) (hAB : ∀ q, B q → A q) : vx_Zq C n d B U H := ⟨va_Zq.narrow h.1 hAB, vx_L.narrow h.2 hAB⟩
theorem vx_Zqof {args : Array Value} {s : State} {C n d : String} {A : Nat → Prop} (hl : (Cond.laysStatic C n d).before args s = true) (hini : (Cond.initialized C).before args s = true) (h : (Cond.isRef (.static C n d)).before args s = true) (hA : ∀ a : Nat, a < s.heap.size → ¬ A a) : vx_Zq C n d A s s.heap := by
  refine ⟨va_Zqof hl hini h hA, ?_⟩
  obtain ⟨c, k, i, f, a, cell, h1, h2, h3, h4, h5, h6, h7, h8, h9⟩ := Cond.laysStatic_spec hl
  exact ⟨c, k, i, f, a, cell, h1, h2, h3, h4, h5, h6, h7, h8, h9, hA a (Array.getElem?_eq_some_iff.mp h5).1⟩
theorem vx_isRef {C n d : String} {v : Value} {A : Nat → Prop} {s : State} {args : Array Value} (h : va_Z C n d v A s s.heap) (hv : v.isRef = true) : (Cond.isRef (.static C n d)).before args s = true := by
  obtain ⟨cf, kf, fi, f, a, cell, h1, h2, h3, h4, h5, h6, h7, -⟩ := h
  have he : (Term.static C n d).eval args s none [] s = some v := by
    simp [Term.eval, State.fieldNamed?, h1, h2, h4, h5, h6, h7]
  simp only [Cond.before, Cond.holds, Cond.value, he]
  cases v <;> simp_all [Value.isRef]
theorem vx_isRefq {C n d : String} {A : Nat → Prop} {s : State} {args : Array Value} (h : va_Zq C n d A s s.heap) : (Cond.isRef (.static C n d)).before args s = true := by
  rcases h with h | ⟨t, h⟩
  · exact vx_isRef h rfl
  · exact vx_isRef h rfl
/-- the same frame, seen from here: as if the method were called anew in this heap -/
theorem vx_rebase {T : State} (X : Stand p l e R s m args below meth c T locs cells slots) {R' : Room} (hf : R'.frames ≤ R.frames) (hl : R'.locals ≤ R.locals) (hc : cells + R'.cells ≤ R.cells) (hs : slots + R'.slots ≤ R.slots) :
    Stand p l e R' ((T.setVm s.vm).setFrames (.invoking m args :: below)) m args below meth c T [] 0 0 := by
  have htop : (T.setVm s.vm).topJava?.isSome := X.here.top
  have hF : ((T.setVm s.vm).setFrames (.invoking m args :: below)).frames = .invoking m args :: below := State.frames_setFrames _ (State.cur_lt_of_top htop)
  obtain ⟨g₀, hg0⟩ := Option.isSome_iff_exists.mp htop
  obtain ⟨r, hr⟩ := State.topJava?_eq_some.mp hg0
  have hl9 : e.platform.stackLimits (T.setVm s.vm).me = e.platform.stackLimits s.me := X.limits
  have hb9 : (T.setVm s.vm).me.stackBytes = s.me.stackBytes := X.bytes
  refine ⟨X.admits, X.cas, X.clock, hF, ?_, X.hears, X.method, X.code, X.here, X.tail, X.warmed, ?_, ?_, ?_⟩
  · have h := X.room
    have hU : ((T.setVm s.vm).setFrames (.invoking m args :: below)).localsInUse = s.localsInUse := by
      rw [State.localsInUse_invoking hF (meth := meth) (c := c) X.method X.code, State.localsInUse_invoking X.frames X.method X.code]
    simp only [State.hasRoom, Bool.and_eq_true, decide_eq_true_eq] at h ⊢
    obtain ⟨⟨⟨⟨h1, h2, h3, h4, h5, h6⟩, h7⟩, h8⟩, h9⟩ := h
    rw [X.frames, List.length_cons] at h2 h3
    have q1 := X.heapSize
    have q2 := X.used
    simp only [hF, hU, List.length_cons, State.stackLimits_setFrames, State.stackBytes_setFrames, hl9, hb9]
    refine ⟨⟨⟨⟨by omega, by omega, by omega, by omega, by omega, h6⟩, ?_⟩, ?_⟩, X.book⟩
    · show T.heap.size + R'.cells ≤ e.platform.maxCells
      omega
    · show T.slotsUsed + R'.slots ≤ e.platform.maxSlots
      omega
  · rw [State.stackLimits_setFrames]; rfl
  · rw [State.stackBytes_setFrames]; rfl
  · refine ⟨?_, Nat.le_refl _, Nat.le_refl _, ?_, ?_, fun a c9 h9 => ⟨c9, h9, rfl, rfl, fun _ _ => rfl⟩⟩
    · obtain ⟨t, ht, -⟩ := State.frames_cons hr
      show T.setVm s.vm = { ((T.setVm s.vm).setFrames (.invoking m args :: below)).setFrames (T.setVm s.vm).frames with heap := T.heap, slotsUsed := T.slotsUsed }
      rw [State.setFrames_setFrames, State.setFrames_self ht]
      rfl
    · show T.slotsUsed = T.slotsUsed + ((T.heap.toList.drop T.heap.size).map (·.slots.size)).sum
      rw [List.drop_eq_nil_of_le (Nat.le_of_eq Array.length_toList)]
      rfl
    · show ((T.heap.toList.drop T.heap.size).map (·.slots.size)).sum ≤ 0
      rw [List.drop_eq_nil_of_le (Nat.le_of_eq Array.length_toList)]
      exact Nat.le_refl _
/-- 'throw new E()': new; dup; invokespecial; athrow -/
theorem vx_throw0 {cc : ByteArray} {pc : Nat} (hexec : p.tables.exec = Jvm.exec) (hb : c.code = cc) (hl : l.stackTraces = false) {own cls : String} {names : List String} {ik ic mc ms : Nat} {A : Nat → Prop}
    (hown : s.vm.findClass own = some m.cls) (hcls : Bundle.fit cls = true) (hnames : ∀ n ∈ names, Bundle.fit n = true)
    (hk : (Cond.classLink own ik cls).before args s = true) (hini : (Cond.initialized cls).before args s = true) (hat : ∀ w ∈ vx_at0 own ic cls names, w.before args s = true)
    (hgood : ∀ w ∈ Cond.classLink own ik cls :: Cond.initialized cls :: vx_at0 own ic cls names, vx_ot w = true)
    (hU : vx_Zq Bundle.tN "UNASSIGNED_STACK" Bundle.steD A s s.heap) (hN : vx_Zq Bundle.tN "SUPPRESSED_SENTINEL" Bundle.listD A s s.heap) (hS : va_S A s.heap H locs) (hsize : ls.size = c.maxLocals)
    (d0 : decode cc pc = .ok (.new ik, 3)) (d3 : decode cc (pc + 3) = .ok (.dup, 1)) (d4 : decode cc (pc + 4) = .ok (.invokespecial ic, 3)) (d7 : decode cc (pc + 7) = .ok (.athrow, 1))
    (hout : ∀ x ∈ c.exceptionTable.toList, covers x (pc + 7) = false)
    (hRframes : names.length + 3 < R.frames) (hRlocals : (rest.map fun v => v.category).sum + (13 * (names.length + 1) + 42) ≤ R.locals) (hRcells : cells + 1 ≤ R.cells) (hRslots : slots + 6 ≤ R.slots) (hlocks : meth.locks = false)
    (hx : ∀ t : State, s.vm.Alike t.vm → H.size ≤ t.heap.size → (∀ q : Nat, q < H.size → t.heap[q]? = H[q]?) → XC cls s t)
    (hf : ∀ z ∈ locs, free z.base) (hc : cells + 1 ≤ mc) (hs : slots + 6 ≤ ms) :
    W p l e R s m args below meth c H locs cells slots (vx_MQ below Qc XC args s mc ms free) (F0 m pc ls rest) := by
  intro T hT X
  have htr : e.platform.stackTraces = false := (show e.platform.stackTraces = l.stackTraces by rw [X.admits.platform]).trans hl
  have Y := vx_rebase X (R' := { frames := R.frames, locals := R.locals, cells := 1, slots := 6 }) (Nat.le_refl _) (Nat.le_refl _) hRcells hRslots
  obtain ⟨s', hA⟩ : ∃ z, z = (T.setVm s.vm).setFrames (.invoking m args :: below) := ⟨_, rfl⟩
  rw [← hA] at Y
  have hvm : s'.vm = s.vm := by rw [hA]; rfl
  have hhp : s'.heap = H := by rw [hA]; exact hT
  have hW0 : s.WarmedH s'.vm := by rw [hvm]; exact State.WarmedH.refl s
  have hat' : ∀ w ∈ vx_at0 own ic cls names, w.before args s' = true := fun w hw => vx_ot_at hW0 hvm.symm (hgood w (List.mem_cons_of_mem _ (List.mem_cons_of_mem _ hw))) (hat w hw)
  have hk' : (Cond.classLink own ik cls).before args s' = true := vx_ot_at hW0 hvm.symm (hgood _ List.mem_cons_self) hk
  have hini' : (Cond.initialized cls).before args s' = true := vx_ot_at hW0 hvm.symm (hgood _ (List.mem_cons_of_mem _ List.mem_cons_self)) hini
  have hU' : vx_Zq Bundle.tN "UNASSIGNED_STACK" Bundle.steD A s' s'.heap := by rw [hhp]; exact vx_Zq.moved hW0.alike (hU.kept hS.2.1)
  have hN' : vx_Zq Bundle.tN "SUPPRESSED_SENTINEL" Bundle.listD A s' s'.heap := by rw [hhp]; exact vx_Zq.moved hW0.alike (hN.kept hS.2.1)
  have h : ∀ w ∈ Bundle.ownAtoms0 own ic cls names, w.before args s' = true := vx_own hat' (vx_isRefq hU'.1) (vx_isRefq hN'.1) hU'.2.word hN'.2.word
  have hown' : s'.vm.findClass own = some m.cls := by rw [hvm]; exact hown
  have hins : (Cond.instantiable cls 6).before args s' = true := h _ (by simp [Bundle.ownAtoms0])
  obtain ⟨vm₁, cX, kX, hfX, hkX, -, -, X₁, st1⟩ := Y.newCold hexec (own := own) (C := cls) (index := ik) (n := 6) hown' hk' hins hini'
    (g := F0 m pc ls rest) rfl (by rw [hb]; exact d0) (Nat.le_refl _) (Nat.le_refl _)
  generalize hT1 : (T.setVm vm₁).pushCell { cls := cX, slots := kX.instanceTypes.map defaultValue, vm := .none } = T1 at X₁ st1
  have hcat : (Value.ref T.heap.size).category = 1 := rfl
  have hcellA : T1.heap[T.heap.size]? = some (freshCell cX kX) := by rw [← hT1]; exact State.heap_pushCell_size _ _
  have d3' : decode c.code (pc + 3) = .ok (.dup, 1) := by rw [hb]; exact d3
  obtain ⟨U, hsteps, hrun, hend, hW, hsame, ce, hce, hO⟩ := X₁.ctorThrow0 hexec htr (own := own) (cls := cls) (names := names) (ic := ic) hown' hcls hnames h (fun x hx => nomatch hx) hfX hkX hcellA (by rw [hhp, hT]; exact Nat.le_refl _)
    (g := { method := m, pc := pc + 4, locals := ls, stack := .ref T.heap.size :: .ref T.heap.size :: rest, locked := none }) rfl hsize rfl rfl (rest := rest) rfl
    (by rw [hb]; exact d4) (by rw [hb]; exact d7) hout hRframes (by simp only [List.map_cons, List.sum_cons, hcat]; omega) hlocks
  obtain ⟨f1, f2⟩ := vx_frame hsame
  rw [hhp] at f1 f2
  have hWs : s.WarmedH U.vm := State.WarmedH.trans hW0 hW
  have hcl : s.vm.findClass cls = some ce.cls := by
    have h9 := hO.cls
    rw [hvm] at h9
    exact h9
  have hall : s.sameButNew ({ U with vm := s.vm } : State) locs mc ms := by
    subst hA
    obtain ⟨e1, e2⟩ := hsame
    rw [State.setFrames_setFrames] at e1
    have h2 : (T.setVm s.vm).sameButNew ({ U with vm := s.vm } : State) [] (0 + 1) (0 + 6) := ⟨e1, e2⟩
    have h3 := X.same.trans h2
    rw [List.append_nil] at h3
    exact h3.mono hc hs
  refine ⟨U, ?_, .threw T.heap.size, hrun, hend, Or.inr ⟨T.heap.size, rfl, cls, ce, locs, hx U hWs.alike f1 (fun q hq => f2 q hq (fun z hz => nomatch hz)), hce, hO.vm, hcl, hWs, hall, hf⟩⟩
  refine st1 _ ?_
  show Steps p.tables e below (T1.setTop { method := m, pc := pc + 3, locals := ls, stack := .ref T.heap.size :: rest, locked := none }) _
  jvm_step X₁.here [X₁.here.top, hexec, d3', Value.category]
  exact hsteps
/-- 'throw new E("text")': new; dup; ldc; invokespecial; athrow -/
theorem vx_throwS {cc : ByteArray} {pc : Nat} (hexec : p.tables.exec = Jvm.exec) (hb : c.code = cc) (hl : l.stackTraces = false) {own cls text : String} {names : List String} {ik is ic mc ms sa : Nat} {A : Nat → Prop}
    (hown : s.vm.findClass own = some m.cls) (hcls : Bundle.fit cls = true) (hnames : ∀ n ∈ names, Bundle.fit n = true)
    (hk : (Cond.classLink own ik cls).before args s = true) (hini : (Cond.initialized cls).before args s = true) (hstr : vk_R own is text sa s) (hat : ∀ w ∈ vx_atS own ic cls names, w.before args s = true)
    (hgood : ∀ w ∈ Cond.classLink own ik cls :: Cond.initialized cls :: vx_atS own ic cls names, vx_ot w = true)
    (hU : vx_Zq Bundle.tN "UNASSIGNED_STACK" Bundle.steD A s s.heap) (hN : vx_Zq Bundle.tN "SUPPRESSED_SENTINEL" Bundle.listD A s s.heap) (hS : va_S A s.heap H locs) (hsize : ls.size = c.maxLocals)
    (d0 : decode cc pc = .ok (.new ik, 3)) (d3 : decode cc (pc + 3) = .ok (.dup, 1)) (d4 : decode cc (pc + 4) = .ok (.ldc is, 2)) (d6 : decode cc (pc + 6) = .ok (.invokespecial ic, 3)) (d9 : decode cc (pc + 9) = .ok (.athrow, 1))
    (hout : ∀ x ∈ c.exceptionTable.toList, covers x (pc + 9) = false)
    (hRframes : names.length + 3 < R.frames) (hRlocals : (rest.map fun v => v.category).sum + (13 * (names.length + 1) + 43) ≤ R.locals) (hRcells : cells + 1 ≤ R.cells) (hRslots : slots + 6 ≤ R.slots) (hlocks : meth.locks = false)
    (hx : ∀ t : State, s.vm.Alike t.vm → H.size ≤ t.heap.size → (∀ q : Nat, q < H.size → t.heap[q]? = H[q]?) → XC cls s t)
    (hf : ∀ z ∈ locs, free z.base) (hc : cells + 1 ≤ mc) (hs : slots + 6 ≤ ms) :
    W p l e R s m args below meth c H locs cells slots (vx_MQ below Qc XC args s mc ms free) (F0 m pc ls rest) := by
  intro T hT X
  have htr : e.platform.stackTraces = false := (show e.platform.stackTraces = l.stackTraces by rw [X.admits.platform]).trans hl
  have Y := vx_rebase X (R' := { frames := R.frames, locals := R.locals, cells := 1, slots := 6 }) (Nat.le_refl _) (Nat.le_refl _) hRcells hRslots
  obtain ⟨s', hA⟩ : ∃ z, z = (T.setVm s.vm).setFrames (.invoking m args :: below) := ⟨_, rfl⟩
  rw [← hA] at Y
  have hvm : s'.vm = s.vm := by rw [hA]; rfl
  have hhp : s'.heap = H := by rw [hA]; exact hT
  have hW0 : s.WarmedH s'.vm := by rw [hvm]; exact State.WarmedH.refl s
  have hat' : ∀ w ∈ vx_atS own ic cls names, w.before args s' = true := fun w hw => vx_ot_at hW0 hvm.symm (hgood w (List.mem_cons_of_mem _ (List.mem_cons_of_mem _ hw))) (hat w hw)
  have hk' : (Cond.classLink own ik cls).before args s' = true := vx_ot_at hW0 hvm.symm (hgood _ List.mem_cons_self) hk
  have hini' : (Cond.initialized cls).before args s' = true := vx_ot_at hW0 hvm.symm (hgood _ (List.mem_cons_of_mem _ List.mem_cons_self)) hini
  have hU' : vx_Zq Bundle.tN "UNASSIGNED_STACK" Bundle.steD A s' s'.heap := by rw [hhp]; exact vx_Zq.moved hW0.alike (hU.kept hS.2.1)
  have hN' : vx_Zq Bundle.tN "SUPPRESSED_SENTINEL" Bundle.listD A s' s'.heap := by rw [hhp]; exact vx_Zq.moved hW0.alike (hN.kept hS.2.1)
  have h : ∀ w ∈ Bundle.ownAtoms own ic cls names, w.before args s' = true := vx_own hat' (vx_isRefq hU'.1) (vx_isRefq hN'.1) hU'.2.word hN'.2.word
  have hown' : s'.vm.findClass own = some m.cls := by rw [hvm]; exact hown
  have hins : (Cond.instantiable cls 6).before args s' = true := h _ (by simp [Bundle.ownAtoms])
  obtain ⟨vm₁, cX, kX, hfX, hkX, -, -, X₁, st1⟩ := Y.newCold hexec (own := own) (C := cls) (index := ik) (n := 6) hown' hk' hins hini'
    (g := F0 m pc ls rest) rfl (by rw [hb]; exact d0) (Nat.le_refl _) (Nat.le_refl _)
  generalize hT1 : (T.setVm vm₁).pushCell { cls := cX, slots := kX.instanceTypes.map defaultValue, vm := .none } = T1 at X₁ st1
  have hcat : (Value.ref T.heap.size).category = 1 := rfl
  have hcellA : T1.heap[T.heap.size]? = some (freshCell cX kX) := by rw [← hT1]; exact State.heap_pushCell_size _ _
  have d3' : decode c.code (pc + 3) = .ok (.dup, 1) := by rw [hb]; exact d3
  have d4' : decode c.code (pc + 4) = .ok (.ldc is, 2) := by rw [hb]; exact d4
  have hstr' : vk_R own is text sa s' := vk_R.warm hW0 hstr
  obtain ⟨U, hsteps, hrun, hend, hW, hsame, ce, hce, hO⟩ := X₁.ctorThrowS hexec htr (own := own) (cls := cls) (names := names) (ic := ic) hown' hcls hnames h (fun x hx => nomatch hx) hfX hkX hcellA (by rw [hhp, hT]; exact Nat.le_refl _) (msg := .ref sa) rfl
    (g := { method := m, pc := pc + 6, locals := ls, stack := .ref sa :: .ref T.heap.size :: .ref T.heap.size :: rest, locked := none }) rfl hsize rfl rfl (rest := rest) rfl
    (by rw [hb]; exact d6) (by rw [hb]; exact d9) hout hRframes (by simp only [List.map_cons, List.sum_cons, hcat]; omega) hlocks
  obtain ⟨f1, f2⟩ := vx_frame hsame
  rw [hhp] at f1 f2
  have hWs : s.WarmedH U.vm := State.WarmedH.trans hW0 hW
  have hcl : s.vm.findClass cls = some ce.cls := by
    have h9 := hO.cls
    rw [hvm] at h9
    exact h9
  have hall : s.sameButNew ({ U with vm := s.vm } : State) locs mc ms := by
    subst hA
    obtain ⟨e1, e2⟩ := hsame
    rw [State.setFrames_setFrames] at e1
    have h2 : (T.setVm s.vm).sameButNew ({ U with vm := s.vm } : State) [] (0 + 1) (0 + 6) := ⟨e1, e2⟩
    have h3 := X.same.trans h2
    rw [List.append_nil] at h3
    exact h3.mono hc hs
  refine ⟨U, ?_, .threw T.heap.size, hrun, hend, Or.inr ⟨T.heap.size, rfl, cls, ce, locs, hx U hWs.alike f1 (fun q hq => f2 q hq (fun z hz => nomatch hz)), hce, hO.vm, hcl, hWs, hall, hf⟩⟩
  refine st1 _ ?_
  show Steps p.tables e below (T1.setTop { method := m, pc := pc + 3, locals := ls, stack := .ref T.heap.size :: rest, locked := none }) _
  jvm_step X₁.here [X₁.here.top, hexec, d3', Value.category]
  exact X₁.ldcString hexec (own := own) (text := text) (index := is) (a := sa) hown' hstr'.1 hstr'.2
    (g := { method := m, pc := pc + 4, locals := ls, stack := .ref T.heap.size :: .ref T.heap.size :: rest, locked := none }) rfl d4' _ hsteps
/-- 'throw new E("text")', the text by a wide index -/
theorem vx_throwSW {cc : ByteArray} {pc : Nat} (hexec : p.tables.exec = Jvm.exec) (hb : c.code = cc) (hl : l.stackTraces = false) {own cls text : String} {names : List String} {ik is ic mc ms sa : Nat} {A : Nat → Prop}
    (hown : s.vm.findClass own = some m.cls) (hcls : Bundle.fit cls = true) (hnames : ∀ n ∈ names, Bundle.fit n = true)
    (hk : (Cond.classLink own ik cls).before args s = true) (hini : (Cond.initialized cls).before args s = true) (hstr : vk_R own is text sa s) (hat : ∀ w ∈ vx_atS own ic cls names, w.before args s = true)
    (hgood : ∀ w ∈ Cond.classLink own ik cls :: Cond.initialized cls :: vx_atS own ic cls names, vx_ot w = true)
    (hU : vx_Zq Bundle.tN "UNASSIGNED_STACK" Bundle.steD A s s.heap) (hN : vx_Zq Bundle.tN "SUPPRESSED_SENTINEL" Bundle.listD A s s.heap) (hS : va_S A s.heap H locs) (hsize : ls.size = c.maxLocals)
    (d0 : decode cc pc = .ok (.new ik, 3)) (d3 : decode cc (pc + 3) = .ok (.dup, 1)) (d4 : decode cc (pc + 4) = .ok (.ldc_w is, 3)) (d7 : decode cc (pc + 7) = .ok (.invokespecial ic, 3)) (d10 : decode cc (pc + 10) = .ok (.athrow, 1))
    (hout : ∀ x ∈ c.exceptionTable.toList, covers x (pc + 10) = false)
    (hRframes : names.length + 3 < R.frames) (hRlocals : (rest.map fun v => v.category).sum + (13 * (names.length + 1) + 43) ≤ R.locals) (hRcells : cells + 1 ≤ R.cells) (hRslots : slots + 6 ≤ R.slots) (hlocks : meth.locks = false)
    (hx : ∀ t : State, s.vm.Alike t.vm → H.size ≤ t.heap.size → (∀ q : Nat, q < H.size → t.heap[q]? = H[q]?) → XC cls s t)
    (hf : ∀ z ∈ locs, free z.base) (hc : cells + 1 ≤ mc) (hs : slots + 6 ≤ ms) :
    W p l e R s m args below meth c H locs cells slots (vx_MQ below Qc XC args s mc ms free) (F0 m pc ls rest) := by
  intro T hT X
  have htr : e.platform.stackTraces = false := (show e.platform.stackTraces = l.stackTraces by rw [X.admits.platform]).trans hl
  have Y := vx_rebase X (R' := { frames := R.frames, locals := R.locals, cells := 1, slots := 6 }) (Nat.le_refl _) (Nat.le_refl _) hRcells hRslots
  obtain ⟨s', hA⟩ : ∃ z, z = (T.setVm s.vm).setFrames (.invoking m args :: below) := ⟨_, rfl⟩
  rw [← hA] at Y
  have hvm : s'.vm = s.vm := by rw [hA]; rfl
  have hhp : s'.heap = H := by rw [hA]; exact hT
  have hW0 : s.WarmedH s'.vm := by rw [hvm]; exact State.WarmedH.refl s
  have hat' : ∀ w ∈ vx_atS own ic cls names, w.before args s' = true := fun w hw => vx_ot_at hW0 hvm.symm (hgood w (List.mem_cons_of_mem _ (List.mem_cons_of_mem _ hw))) (hat w hw)
  have hk' : (Cond.classLink own ik cls).before args s' = true := vx_ot_at hW0 hvm.symm (hgood _ List.mem_cons_self) hk
  have hini' : (Cond.initialized cls).before args s' = true := vx_ot_at hW0 hvm.symm (hgood _ (List.mem_cons_of_mem _ List.mem_cons_self)) hini
  have hU' : vx_Zq Bundle.tN "UNASSIGNED_STACK" Bundle.steD A s' s'.heap := by rw [hhp]; exact vx_Zq.moved hW0.alike (hU.kept hS.2.1)
  have hN' : vx_Zq Bundle.tN "SUPPRESSED_SENTINEL" Bundle.listD A s' s'.heap := by rw [hhp]; exact vx_Zq.moved hW0.alike (hN.kept hS.2.1)
  have h : ∀ w ∈ Bundle.ownAtoms own ic cls names, w.before args s' = true := vx_own hat' (vx_isRefq hU'.1) (vx_isRefq hN'.1) hU'.2.word hN'.2.word
  have hown' : s'.vm.findClass own = some m.cls := by rw [hvm]; exact hown
  have hins : (Cond.instantiable cls 6).before args s' = true := h _ (by simp [Bundle.ownAtoms])
  obtain ⟨vm₁, cX, kX, hfX, hkX, -, -, X₁, st1⟩ := Y.newCold hexec (own := own) (C := cls) (index := ik) (n := 6) hown' hk' hins hini'
    (g := F0 m pc ls rest) rfl (by rw [hb]; exact d0) (Nat.le_refl _) (Nat.le_refl _)
  generalize hT1 : (T.setVm vm₁).pushCell { cls := cX, slots := kX.instanceTypes.map defaultValue, vm := .none } = T1 at X₁ st1
  have hcat : (Value.ref T.heap.size).category = 1 := rfl
  have hcellA : T1.heap[T.heap.size]? = some (freshCell cX kX) := by rw [← hT1]; exact State.heap_pushCell_size _ _
  have d3' : decode c.code (pc + 3) = .ok (.dup, 1) := by rw [hb]; exact d3
  have d4' : decode c.code (pc + 4) = .ok (.ldc_w is, 3) := by rw [hb]; exact d4
  have hstr' : vk_R own is text sa s' := vk_R.warm hW0 hstr
  obtain ⟨U, hsteps, hrun, hend, hW, hsame, ce, hce, hO⟩ := X₁.ctorThrowS hexec htr (own := own) (cls := cls) (names := names) (ic := ic) hown' hcls hnames h (fun x hx => nomatch hx) hfX hkX hcellA (by rw [hhp, hT]; exact Nat.le_refl _) (msg := .ref sa) rfl
    (g := { method := m, pc := pc + 7, locals := ls, stack := .ref sa :: .ref T.heap.size :: .ref T.heap.size :: rest, locked := none }) rfl hsize rfl rfl (rest := rest) rfl
    (by rw [hb]; exact d7) (by rw [hb]; exact d10) hout hRframes (by simp only [List.map_cons, List.sum_cons, hcat]; omega) hlocks
  obtain ⟨f1, f2⟩ := vx_frame hsame
  rw [hhp] at f1 f2
  have hWs : s.WarmedH U.vm := State.WarmedH.trans hW0 hW
  have hcl : s.vm.findClass cls = some ce.cls := by
    have h9 := hO.cls
    rw [hvm] at h9
    exact h9
  have hall : s.sameButNew ({ U with vm := s.vm } : State) locs mc ms := by
    subst hA
    obtain ⟨e1, e2⟩ := hsame
    rw [State.setFrames_setFrames] at e1
    have h2 : (T.setVm s.vm).sameButNew ({ U with vm := s.vm } : State) [] (0 + 1) (0 + 6) := ⟨e1, e2⟩
    have h3 := X.same.trans h2
    rw [List.append_nil] at h3
    exact h3.mono hc hs
  refine ⟨U, ?_, .threw T.heap.size, hrun, hend, Or.inr ⟨T.heap.size, rfl, cls, ce, locs, hx U hWs.alike f1 (fun q hq => f2 q hq (fun z hz => nomatch hz)), hce, hO.vm, hcl, hWs, hall, hf⟩⟩
  refine st1 _ ?_
  show Steps p.tables e below (T1.setTop { method := m, pc := pc + 3, locals := ls, stack := .ref T.heap.size :: rest, locked := none }) _
  jvm_step X₁.here [X₁.here.top, hexec, d3', Value.category]
  exact X₁.ldcStringW hexec (own := own) (text := text) (index := is) (a := sa) hown' hstr'.1 hstr'.2
    (g := { method := m, pc := pc + 4, locals := ls, stack := .ref T.heap.size :: .ref T.heap.size :: rest, locked := none }) rfl d4' _ hsteps
end Ends
section Bodies
variable {l : Launch}
theorem vx_ofW {y : MethodName} {ws ws' : List Cond} {rm : Room} {Pc : Array Value → State → Prop} {Qc : Array Value → State → Outcome → State → Prop} {XC : String → State → State → Prop} {mc ms : Nat} {free : Addr → Prop} {cc : ByteArray} {maxL : Nat} {ret : Option FieldType}
    (hy : plainName y.cls = true) (hw : ws = Cond.code y cc maxL ret :: ws')
    (body : ∀ p e s m args below meth c s₁, BodyLoose p l y (headSpec ws rm) cc maxL ret e s m args below meth c s₁ → c.maxLocals = maxL → (∀ x ∈ c.exceptionTable.toList, False) → Pc args s →
      W p l e (headSpec ws rm).room s m args below meth c s.heap [] 0 0 (vx_MQ below Qc XC args s mc ms free) (entryFrame m args maxL)) : vx_Met l y ws rm Pc Qc XC mc ms free := by
  refine MetFree.of_bodyS (code := cc) (maxLocals := maxL) (ret := ret) hy ?_ ?_
  · intro args s m h hn
    obtain ⟨meth, c, h1, h2, h3, h4, h5, h6, -, -⟩ := Cond.code_spec hn (atoms_spec (ws := ws) h _ (by rw [hw]; exact List.mem_cons_self))
    exact ⟨meth, c, h1, h2, h3, h4, h5, h6⟩
  · intro p e s m args below meth c s₁ B hml hP _
    have hh0 : s₁.heap = s.heap := by rw [B.state]; rfl
    have ht : ∀ x ∈ c.exceptionTable.toList, False := by
      obtain ⟨meth9, c9, h1, h2, -, -, -, -, h7, -⟩ := Cond.code_spec B.named (atoms_spec (ws := ws) B.pre _ (by rw [hw]; exact List.mem_cons_self))
      cases Option.some.inj (h1.symm.trans B.method)
      cases Option.some.inj (h2.symm.trans (Stand.of_body B).code)
      intro x hx
      rw [Array.isEmpty_iff.mp h7] at hx
      cases hx
    obtain ⟨t, a1, o, b1, b2, b3⟩ := body p e s m args below meth c s₁ B hml ht hP s₁ hh0 (Stand.of_body B)
    exact ⟨t, o, a1, b1, b2, b3⟩
/-- the table of a body with handlers -/
theorem vx_table {p : Program} {x y : MethodName} {S : Spec} {cc bytes : ByteArray} {maxL maxL' : Nat} {ret ret' : Option FieldType} {e : Env} {s s₁ : State} {m : MethodId} {args : Array Value} {below : List Frame} {meth : Method} {c : Code} {hh : List (Nat × Nat × Nat × Nat)}
    (B : BodyLoose p l y S cc maxL ret e s m args below meth c s₁) (h : (Cond.codeWith y bytes maxL' ret' hh).before args s = true) : c.exceptionTable.toList = tableOf hh := by
  obtain ⟨m9, meth9, c9, hn9, h1, h2, -, -, h6, -⟩ := Cond.codeWith_spec h
  cases Option.some.inj (hn9.symm.trans B.named)
  cases Option.some.inj (h1.symm.trans B.method)
  cases Option.some.inj (h2.symm.trans (Stand.of_body B).code)
  rw [← h6, table_eq]
end Bodies
end VXA
/-! ===== END ===== -/
/-! ===== BEGIN a static call of a method with an exception table ===== -/
section VXS
variable {p : Program} {l : Launch} {e : Env} {R : Room} {s : State} {m : MethodId} {args : Array Value} {below : List Frame} {meth : Method} {c : Code} {T : State} {H : Heap} {locs : List Loc} {cells slots : Nat}
abbrev vx_CSW (R : Room) (s : State) (args : Array Value) (own : String) (index : Nat) (y : MethodName) (bytes : ByteArray) (maxL : Nat) (ret : Option FieldType) (hh : List (Nat × Nat × Nat × Nat)) (ws : List Cond) (rm : Room) (mc ms n : Nat) : Prop :=
  (rm.cells = mc ∧ rm.slots = ms ∧ rm.frames + 1 ≤ R.frames ∧ 8 + (maxL + 11) + rm.locals ≤ R.locals ∧ (∀ w ∈ ws, ∀ (a' : Array Value) (U : State), s.WarmedH U.vm → w.before a' U = true) ∧ Cond.codeWith y bytes maxL ret hh ∈ ws) ∧
  (Cond.codeWith y bytes maxL ret hh).before args s = true ∧ (Cond.initialized y.cls).before args s = true ∧ (y.cls ≠ "java/lang/invoke/MethodHandle" ∧ y.cls ≠ "java/lang/invoke/VarHandle") ∧
  (∀ sig, parseMethodDescriptor y.desc = some sig → n = sig.parameters.length) ∧ (Cond.methodLink own index y).before args s = true ∧ (Cond.static y).before args s = true
theorem vx_cwSW {own : String} {index maxL mc ms : Nat} {y : MethodName} {bytes : ByteArray} {ret : Option FieldType} {hh : List (Nat × Nat × Nat × Nat)} {Ts ws ws' : List Cond} {rm : Room} (n : Nat) (ht : ∀ w ∈ Ts, w.before args s = true) (hT : GoodIn Ts (va_wsS own index y ws)) (hw : ws = Cond.codeWith y bytes maxL ret hh :: ws') (hrc : rm.cells = mc) (hrs : rm.slots = ms)
    (hd : y.cls ≠ "java/lang/invoke/MethodHandle" ∧ y.cls ≠ "java/lang/invoke/VarHandle" ∧ (parseMethodDescriptor y.desc).map (fun d => d.parameters.length) = some n) (hR : rm.frames + 1 ≤ R.frames ∧ 8 + (maxL + 11) + rm.locals ≤ R.locals) :
    vx_CSW R s args own index y bytes maxL ret hh ws rm mc ms n := by
  have ok : ∀ w ∈ va_wsS own index y ws, w.before args s = true := fun w h => ht w (hT w h).1
  have hG : GoodIn Ts ws := fun w h => hT w (by unfold va_wsS; exact List.mem_append_right _ h)
  have hc : Cond.codeWith y bytes maxL ret hh ∈ ws := by rw [hw]; exact List.mem_cons_self
  refine ⟨⟨hrc, hrs, hR.1, hR.2, pay_in ht hG, hc⟩, ht _ (hG _ hc).1, ok _ (by simp [va_wsS]), ⟨hd.1, hd.2.1⟩, fun sig h => ?_, ok _ (by simp [va_wsS]), ok _ (by simp [va_wsS])⟩
  have h2 := hd.2.2
  rw [h] at h2
  exact (Option.some.inj h2).symm
theorem vx_callSW (X : Stand p l e R s m args below meth c T locs cells slots) (hexec : p.tables.exec = Jvm.exec) {own : String} {index : Nat} {y : MethodName} {bytes : ByteArray} {maxL : Nat} {ret : Option FieldType} {hh : List (Nat × Nat × Nat × Nat)}
    (hown : s.vm.findClass own = some m.cls) (hlink : (Cond.methodLink own index y).before args s = true) (hstat : (Cond.static y).before args s = true) (hinit : (Cond.initialized y.cls).before args s = true)
    (hcode : (Cond.codeWith y bytes maxL ret hh).before args s = true) (hy : y.cls ≠ "java/lang/invoke/MethodHandle" ∧ y.cls ≠ "java/lang/invoke/VarHandle")
    {W9 : Nat} {Pre : Pt → Array Value → Prop} {Post : Pt → Array Value → Option Value → Pt → Prop} (hK : Back l R p e below s args y 3 W9 Pre Post)
    {g : JFrame} (hg : g.method = m) (hsize : g.locals.size = c.maxLocals) {argsL rest : List Value} (hlen : ∀ sig, parseMethodDescriptor y.desc = some sig → argsL.length = sig.parameters.length)
    (hstack : g.stack = argsL.reverse ++ rest) (hW : 2 * g.monitorRoom + (rest.map fun v => v.category).sum ≤ W9) (hdg : decode c.code g.pc = .ok (.invokestatic index, 3))
    (hpre : ∀ vm₁, s.WarmedH vm₁ → Pre ⟨T.setVm vm₁, locs, cells, slots⟩ argsL.toArray) :
    ∃ (v : Option Value) (vm₁ : Vm) (B : Pt), s.WarmedH vm₁ ∧ Stand p l e R s m args below meth c B.U B.locs B.cells B.slots ∧ Post ⟨T.setVm vm₁, locs, cells, slots⟩ argsL.toArray v B ∧
      ∀ target, Steps p.tables e below (B.U.setTop { g with pc := g.pc + 3, stack := v.toList ++ rest }) target → Steps p.tables e below (T.setTop g) target := by
  obtain ⟨mk, methM, cM, hnamed, hmethM, -, -, -, -, -, -, hsigM⟩ := Cond.codeWith_spec hcode
  have hstatic : methM.isStatic = true := Cond.static_spec hnamed hmethM hstat
  obtain ⟨kP, hkP, -⟩ := className_of_methodNamed hnamed
  have hinitP : kP.init = .initialized := Cond.initialized_spec (findClass_of_methodNamed hnamed) hkP hinit
  obtain ⟨vm₁, X₁, hstep₁⟩ := X.invokestatic hexec hown hlink hnamed hmethM hstatic hkP hinitP hy (g := g) hg (argsL := argsL) (rest := rest) (hlen _ hsigM) hstack hdg
  obtain ⟨v, B, X', hpost, hsteps⟩ := hK m meth c ⟨T.setVm vm₁, locs, cells, slots⟩ { g with stack := rest } (.invokestatic index) mk argsL.toArray X₁ hg hsize hdg hW (X₁.named hnamed) (hpre vm₁ X₁.warmed)
  exact ⟨v, vm₁, B, X₁.warmed, X', hpost, fun target h => hstep₁ _ fun acts => by rw [doInvoke_state]; exact hsteps.trans h⟩
theorem vx_runSW {y : MethodName} {bytes cc : ByteArray} {maxL nL mc ms n index : Nat} {ret : Option FieldType} {hh : List (Nat × Nat × Nat × Nat)} {ws : List Cond} {rm : Room} {Pc : Array Value → State → Prop} {Qc : Array Value → State → Outcome → State → Prop} {free : Addr → Prop} {Ts : List Cond} {own : String} {As rest : List Value} {g : JFrame}
    (S : CallFix p m c cc nL s args Ts own) (hM : Met l y ws rm Pc Qc mc ms free) (cw : vx_CSW R s args own index y bytes maxL ret hh ws rm mc ms n) (hp : PreS s H Pc As)
    (hg : g.method = m) (hn : As.length = n) (hsize : g.locals.size = nL) (hstack : g.stack = As.reverse ++ rest) (hW : 2 * g.monitorRoom + (rest.map fun v => v.category).sum ≤ 8) (hdg : decode cc g.pc = .ok (.invokestatic index, 3)) (hf : cells + mc ≤ R.cells ∧ slots + ms ≤ R.slots) :
    va_Run p l e R s m args below meth c H locs cells slots mc ms g rest (Qc As.toArray) (free) := by
  obtain ⟨⟨hrc, hrs, hfr, hlo, hws, hcw⟩, hcode, hini, hy, hlen, hl, hstt⟩ := cw
  have hK : Back l R p e below s args y 3 8 (PreOf R mc ms Pc) (PostOf Qc mc ms free) := va_backW (hh := hh) (bytes := bytes) (maxL := maxL) (ret := ret) hM hp.1 hrc hrs hfr hlo hws hcw (fun a' U hW => word_at hW (Or.inl (by first | rfl | simp [Cond.onTables, Cond.keeps, Cond.steady])) hini)
  obtain ⟨hx, hb, hml, ho, -⟩ := S
  intro T hT X
  obtain ⟨v, vm₁, ⟨U', l2, c2, s2⟩, hW₁, X', ⟨g', mk, t, L, e1, e2, hq, h1, hL, h2, h3⟩, st⟩ := vx_callSW X hx (hh := hh) (bytes := bytes) (maxL := maxL) (ret := ret) ho hl hstt hini hcode hy hK hg (hsize.trans hml.symm) (argsL := As) (rest := rest) (fun sig h => hn.trans (hlen sig h)) hstack hW (by rw [hb]; exact hdg)
    (fun vm₁ hW₁ => ⟨hf.1, hf.2, hp.2 (T.setVm vm₁) hT hW₁⟩)
  dsimp only [Pt.U, Pt.locs, Pt.cells, Pt.slots] at X' e1 e2 h1 h2 h3 st
  subst h1; subst h2; subst h3
  exact ⟨v, (T.setVm vm₁).calling g' mk As.toArray, t, U', L, hT, X', hL, e1, e2, hq, st⟩
/-- not caught here, past rows that name other classes: it goes on to the caller -/
theorem vx_outP {p : Program} {l : Launch} {e : Env} {R : Room} {s : State} {m : MethodId} {args : Array Value} {below : List Frame} {meth : Method} {c : Code} {H : Heap} {locs : List Loc} {cells slots : Nat} {free : Addr → Prop} {ls : Array Slot} {rest : List Value} {Qc : Array Value → State → Outcome → State → Prop} {XC : String → State → State → Prop}
    {pc : Nat} {own E : String} {ce : Cell} {q : Addr} {mc ms : Nat} (hown : s.vm.findClass own = some m.cls) (hlocks : meth.locks = false)
    (hpass : ∀ z ∈ c.exceptionTable.toList, covers z pc = false ∨ (z.catchType ≠ 0 ∧ ∃ nm : String, (Cond.classLink own z.catchType nm).before args s = true ∧ va_Nc E nm s)) (hcell : H[q]? = some ce) (hv : ce.vm = .none) (hcl : s.vm.findClass E = some ce.cls)
    (hx : ∀ t : State, t.heap = H → s.vm.Alike t.vm → XC E s t) (hf : ∀ z ∈ locs, free z.base) (hc : cells ≤ mc) (hs : slots ≤ ms) :
    vx_W p l e R s m args below meth c H locs cells slots (vx_MQ below Qc XC args s mc ms free) (F0 m pc ls rest) q := by
  intro T hT X
  have hpl : e.platform.magicAccessors = ({} : Platform).magicAccessors := by rw [X.admits.platform]
  obtain ⟨vm', hW', X', st⟩ := X.outThrough hlocks q (g := F0 m pc ls rest) rfl rfl rfl (cell := ce) (by rw [hT]; exact hcell) (by rw [hv]; rfl)
    (by obtain ⟨k9, h9, -⟩ := Vm.findClass_spec hcl; exact ⟨k9, h9⟩) (fun z hz => by
      rcases hpass z hz with h | ⟨hz0, nm, hl1, hn1⟩
      · exact Or.inl h
      · obtain ⟨c6, hc6, hcl6⟩ := Cond.classLink_spec hown hl1 e.platform hpl
        obtain ⟨a8, b8, h1, h2, h3⟩ := hn1
        cases Option.some.inj (h1.symm.trans hcl)
        cases Option.some.inj (h2.symm.trans hc6)
        exact Or.inr ⟨hz0, _, hcl6, h3⟩)
  obtain ⟨g₀, hfr⟩ := X'.frames_eq
  have hcell9 : ((T.setVm vm').setFrames (.throwing q :: below)).heap[q]? = some ce := by
    show T.heap[q]? = some ce
    rw [hT]; exact hcell
  have hend : Ended ((T.setVm vm').setFrames (.throwing q :: below)) below (.threw q) := State.frames_setFrames _ (State.cur_lt_of_frames hfr)
  refine ⟨(T.setVm vm').setFrames (.throwing q :: below), ?_, .threw q, X'.here.running, hend, Or.inr ⟨q, rfl, E, ce, locs, hx _ hT (X'.ends _).1.alike, hcell9, hv, hcl, (X'.ends _).1, (X'.ends _).2.mono hc hs, hf⟩⟩
  rw [X.pushThrowing_eq]
  exact st
/-- a thing of a world lies in the heap -/
theorem vx_lt {D : va_G} {cl : List vw_C} {ws : va_W} {H1 : Heap} (h : va_P D cl ws H1) {k : Nat} {q : Nat × va_E} (hk : ws[k]? = some q) : q.1 < H1.size := (h k q hk).lt
end VXS
/-! ===== END ===== -/
/-! ===== BEGIN methods with a table of their own: called by a name, returning or throwing ===== -/
section VXH
/-! vx_backW, vx_callVX, vx_callSX, vx_callVW, vx_runVW, vx_runVX, vx_runSX, vx_ofWH follow the same proofs as their sisters above (Free/Laws.lean, Shelf42/LK1.lean); vx_outP calls Shelf42/NT130.lean (outThrough). -/
section
variable {l : Launch} {R : Room} {p : Program} {e : Env} {below : List Frame} {s : State} {sargs : Array Value} {y : MethodName} {len W9 : Nat}
theorem vx_backW {ws : List Cond} {rm : Room} {Pc : Array Value → State → Prop} {Qc : Array Value → State → Outcome → State → Prop} {XC : String → State → State → Prop} {mc ms : Nat} {free : Addr → Prop} {bytes : ByteArray} {maxL : Nat} {ret : Option FieldType} {hh : List (Nat × Nat × Nat × Nat)}
    (hM : vx_Met l y ws rm Pc Qc XC mc ms free) (hblind : FrameBlind Pc) (hrc : rm.cells = mc) (hrs : rm.slots = ms)
    (hframes : rm.frames + 1 ≤ R.frames) (hlocals : W9 + (maxL + 11) + rm.locals ≤ R.locals)
    (hws : ∀ w ∈ ws, ∀ a' U, s.WarmedH U.vm → w.before a' U = true) (hcode : Cond.codeWith y bytes maxL ret hh ∈ ws) (hinit : ∀ a' U, s.WarmedH U.vm → (Cond.initialized y.cls).before a' U = true) :
    vx_Back l R p e below s sargs y len W9 (PreOf R mc ms Pc) (PostOf Qc mc ms free) (vx_Post XC mc ms free) := by
  intro m meth c A g ig mk a X hg hsize hdg hW hn hp
  have h1 : (headSpec ws rm).pre.before a A.U = true := atoms_intro fun w hw => hws w hw _ _ X.warmed
  have h2 : (Cond.codeWith y bytes maxL ret hh).before a A.U = true := hws _ hcode _ _ X.warmed
  have h3 : (Cond.initialized y.cls).before a A.U = true := hinit _ _ X.warmed
  have h4 : A.cells + (headSpec ws rm).room.cells ≤ R.cells := by rw [show (headSpec ws rm).room.cells = mc from hrc]; exact hp.1
  have h5 : A.slots + (headSpec ws rm).room.slots ≤ R.slots := by rw [show (headSpec ws rm).room.slots = ms from hrs]; exact hp.2.1
  have hPc : Pc a (A.U.calling g mk a) := hblind _ _ _ _ hp.2.2
  obtain ⟨U, Ls, c0, s0⟩ := A
  dsimp only [Pt.U, Pt.locs, Pt.cells, Pt.slots] at h1 h2 h3 h4 h5 X hn hPc ⊢
  obtain ⟨m9, methY, cY, hn9, hmY, hcY, -, hlY, -⟩ := Cond.codeWith_spec h2
  cases Option.some.inj (hn9.symm.trans hn)
  obtain ⟨kY, hkY, -⟩ := className_of_methodNamed hn
  have hinitY : kY.init = .initialized := Cond.initialized_spec (findClass_of_methodNamed hn) hkY h3
  have h : At U g.method c below := by rw [hg]; exact X.here
  have hlocals9 : W9 + (maxL + 11) + (headSpec ws rm).room.locals ≤ R.locals := hlocals
  have happ : (headSpec ws rm).appliesLoose y e.platform (U.calling g mk a) = true :=
    Spec.appliesLoose_calling (g := g) h hdg hn hkY hinitY
      (X.room_calling (g := g) (R' := (headSpec ws rm).room) hsize hmY hcY hframes (by rw [hlY]; omega) h4 h5) h1
  obtain ⟨mid, hmid⟩ := h.above
  have hfr : (U.setTop g).frames = (.java g :: mid) ++ below := by rw [State.frames_setTop' g h.top, hmid]; rfl
  obtain ⟨o, s₂, hsteps, -, hend, hq⟩ := Steps.callFree hM p X.admits X.cas X.clock (acts := []) hfr happ hPc trivial
  have hq' : vx_Q Qc XC mc ms free a (U.calling g mk a) o s₂ := hq
  rw [State.frames_setTop' g h.top] at hend
  obtain ⟨g₀, hg0⟩ := Option.isSome_iff_exists.mp h.top
  obtain ⟨r, hr⟩ := State.topJava?_eq_some.mp hg0
  have hr' : (({ U with heap := s₂.heap, slotsUsed := s₂.slotsUsed } : State).setVm s₂.vm).frames = .java g₀ :: r := hr
  rcases hq' with ⟨hqc, L, hfe, hL⟩ | ⟨q, rfl, E, ce, L, hx, hce, hcv, hcl, hW₂, hsm, hL⟩
  · obtain ⟨⟨v, rfl⟩, hW₂, e2, q2, q3, q4, q5, q6⟩ := id hfe
    have e3 : s₂ = ({ (U.calling g mk a).setFrames s₂.frames with heap := s₂.heap, slotsUsed := s₂.slotsUsed } : State).setVm s₂.vm := by
      have : s₂ = ({ s₂ with vm := (U.calling g mk a).vm } : State).setVm s₂.vm := rfl
      rw [e2] at this
      exact this
    obtain ⟨c₂, i₂, len₂, hc₂, hd₂, hf₂⟩ := hend
    have hW' : U.WarmedH s₂.vm := hW₂
    have hcc : c₂ = c := by
      have h1 : s₂.code? g.method = U.code? g.method := by
        rw [State.code?_eq, State.code?_eq, hW'.alike.method?]
      exact Option.some.inj (hc₂.symm.trans (h1.trans h.code))
    subst hcc
    have hlen : len₂ = len := by rw [hdg] at hd₂; cases hd₂; rfl
    subst hlen
    have hs₂ : s₂ = (({ U with heap := s₂.heap, slotsUsed := s₂.slotsUsed } : State).setVm s₂.vm).setTop { g with pc := g.pc + len₂, stack := v.toList ++ g.stack } := by
      refine e3.trans ?_
      rw [hf₂, State.calling_eq h.top, State.setFrames_setFrames, State.setTop_of_frames _ hr', hr]
      rfl
    have hsame : U.sameButNew ({ U with heap := s₂.heap, slotsUsed := s₂.slotsUsed } : State) L mc ms := by
      refine ⟨?_, q2, q3, q4, q5, q6⟩
      obtain ⟨t, ht, -⟩ := State.frames_cons hr
      show ({ U with heap := s₂.heap, slotsUsed := s₂.slotsUsed } : State) = { U.setFrames U.frames with heap := s₂.heap, slotsUsed := s₂.slotsUsed }
      rw [State.setFrames_self ht]
    subst hg
    refine Or.inl ⟨v, ⟨(({ U with heap := s₂.heap, slotsUsed := s₂.slotsUsed } : State).setVm s₂.vm), Ls ++ L, c0 + mc, s0 + ms⟩,
      ⟨X.admits, X.cas, X.clock, X.frames, X.room, X.hears, X.method, X.code, (X.here.setHeapUsed s₂.heap s₂.slotsUsed).setVm hW'.alike, X.tail, State.WarmedH.trans X.warmed hW', X.limits, X.bytes, X.same.trans (hsame.setVm s.vm)⟩,
      ⟨g, mk, s₂, L, rfl, rfl, hqc, rfl, hL, rfl, rfl⟩, ?_⟩
    show Steps p.tables e below _ ((({ U with heap := s₂.heap, slotsUsed := s₂.slotsUsed } : State).setVm s₂.vm).setTop { g with pc := g.pc + len₂, stack := v.toList ++ g.stack })
    rw [← hs₂]
    exact hsteps
  · obtain ⟨e2, q2, q3, q4, q5, q6⟩ := id hsm
    have e3 : s₂ = ({ (U.calling g mk a).setFrames s₂.frames with heap := s₂.heap, slotsUsed := s₂.slotsUsed } : State).setVm s₂.vm := by
      have : s₂ = ({ s₂ with vm := (U.calling g mk a).vm } : State).setVm s₂.vm := rfl
      rw [e2] at this
      exact this
    have hf₂ : s₂.frames = .throwing q :: .java g :: U.frames.tail := hend
    have hW' : U.WarmedH s₂.vm := hW₂
    have hs₂ : s₂ = ((({ U with heap := s₂.heap, slotsUsed := s₂.slotsUsed } : State).setVm s₂.vm).setTop g).pushFrame (.throwing q) := by
      refine e3.trans ?_
      rw [hf₂, State.calling_eq h.top, State.setFrames_setFrames, State.pushFrame, State.frames_setTop _ hr', State.setTop_of_frames _ hr', State.setFrames_setFrames, hr]
      rfl
    have hsame : U.sameButNew ({ U with heap := s₂.heap, slotsUsed := s₂.slotsUsed } : State) L mc ms := by
      refine ⟨?_, q2, q3, q4, q5, q6⟩
      obtain ⟨t, ht, -⟩ := State.frames_cons hr
      show ({ U with heap := s₂.heap, slotsUsed := s₂.slotsUsed } : State) = { U.setFrames U.frames with heap := s₂.heap, slotsUsed := s₂.slotsUsed }
      rw [State.setFrames_self ht]
    subst hg
    refine Or.inr ⟨q, ⟨(({ U with heap := s₂.heap, slotsUsed := s₂.slotsUsed } : State).setVm s₂.vm), Ls ++ L, c0 + mc, s0 + ms⟩,
      ⟨X.admits, X.cas, X.clock, X.frames, X.room, X.hears, X.method, X.code, (X.here.setHeapUsed s₂.heap s₂.slotsUsed).setVm hW'.alike, X.tail, State.WarmedH.trans X.warmed hW', X.limits, X.bytes, X.same.trans (hsame.setVm s.vm)⟩,
      ⟨g, mk, s₂, L, E, ce, rfl, rfl, hx, hce, hcv, hcl, rfl, hL, rfl, rfl⟩, ?_⟩
    show Steps p.tables e below _ (((({ U with heap := s₂.heap, slotsUsed := s₂.slotsUsed } : State).setVm s₂.vm).setTop g).pushFrame (.throwing q))
    rw [← hs₂]
    exact hsteps
end
variable {p : Program} {l : Launch} {e : Env} {R : Room} {s : State} {m : MethodId} {args : Array Value} {below : List Frame} {meth : Method} {c : Code} {T : State} {H : Heap} {locs : List Loc} {cells slots : Nat}
theorem vx_callVX (X : Stand p l e R s m args below meth c T locs cells slots) (hexec : p.tables.exec = Jvm.exec) {own C : String} {index : Nat} {y : MethodName} {bytes : ByteArray} {maxL : Nat} {ret : Option FieldType} {hh : List (Nat × Nat × Nat × Nat)}
    (hown : s.vm.findClass own = some m.cls) (hlink : (Cond.methodLink own index y).before args s = true) (hinst : (Cond.instanceMethod y).before args s = true) (hsel : (Cond.selects C y y).before args s = true)
    (hcode : (Cond.codeWith y bytes maxL ret hh).before args s = true) (hy : y.cls ≠ "java/lang/invoke/MethodHandle" ∧ y.cls ≠ "java/lang/invoke/VarHandle")
    {W9 : Nat} {Pre : Pt → Array Value → Prop} {Post : Pt → Array Value → Option Value → Pt → Prop} {PostX : Pt → Array Value → Addr → Pt → Prop} (hK : vx_Back l R p e below s args y 3 W9 Pre Post PostX)
    {b : Addr} {cellB : Cell} (hcell : T.heap[b]? = some cellB) (hobj : cellB.vm.isStatics = false) (hcls : s.vm.findClass C = some cellB.cls)
    {g : JFrame} (hg : g.method = m) (hsize : g.locals.size = c.maxLocals) {argsL rest : List Value} (hlen : ∀ sig, parseMethodDescriptor y.desc = some sig → argsL.length = sig.parameters.length)
    (hstack : g.stack = argsL.reverse ++ .ref b :: rest) (hW : 2 * g.monitorRoom + (rest.map fun v => v.category).sum ≤ W9) (hdg : decode c.code g.pc = .ok (.invokevirtual index, 3))
    (hpre : ∀ vm₁, s.WarmedH vm₁ → Pre ⟨T.setVm vm₁, locs, cells, slots⟩ (Value.ref b :: argsL).toArray) :
    (∃ (v : Option Value) (vm₁ : Vm) (B : Pt), s.WarmedH vm₁ ∧ Stand p l e R s m args below meth c B.U B.locs B.cells B.slots ∧ Post ⟨T.setVm vm₁, locs, cells, slots⟩ (Value.ref b :: argsL).toArray v B ∧
      ∀ target, Steps p.tables e below (B.U.setTop { g with pc := g.pc + 3, stack := v.toList ++ rest }) target → Steps p.tables e below (T.setTop g) target) ∨
    (∃ (q : Addr) (vm₁ : Vm) (B : Pt), s.WarmedH vm₁ ∧ Stand p l e R s m args below meth c B.U B.locs B.cells B.slots ∧ PostX ⟨T.setVm vm₁, locs, cells, slots⟩ (Value.ref b :: argsL).toArray q B ∧
      Steps p.tables e below (T.setTop g) ((B.U.setTop { g with stack := rest }).pushFrame (.throwing q))) := by
  obtain ⟨mk, methM, hnamed, hmethM, hstM, habM⟩ := Cond.instanceMethod_spec hinst
  obtain ⟨m8, methM', cM, hn8, hmethM', -, -, -, -, -, -, hsigM⟩ := Cond.codeWith_spec hcode
  cases Option.some.inj (hn8.symm.trans hnamed)
  cases hmethM.symm.trans hmethM'
  obtain ⟨c2, r2, m2, q1, q2, q3, q4, kP, hkP, hkPi⟩ := Cond.selects_spec hsel
  cases hcls.symm.trans q1
  cases (State.methodFound?_of_named hnamed hy).symm.trans q2
  cases hnamed.symm.trans q3
  have hselP : selectMethod e.platform s.vm cellB.cls mk = .method mk := by rw [Launch.admits_selectMethod X.admits]; exact q4
  obtain ⟨vm₁, X₁, hstep₁⟩ := X.invokevirtual hexec hown hlink hnamed hmethM hstM hkP hkPi hy (a := b) (cell := cellB) hcell
    (fun z h => by rw [h] at hobj; cases hobj) hselP hmethM habM hkP hkPi (g := g) hg (argsL := argsL) (rest := rest) (hlen _ hsigM) hstack hdg
  rcases hK m meth c ⟨T.setVm vm₁, locs, cells, slots⟩ { g with stack := rest } (.invokevirtual index) mk (Value.ref b :: argsL).toArray X₁ hg hsize hdg hW (X₁.named hnamed) (hpre vm₁ X₁.warmed) with ⟨v, B, X', hpost, hsteps⟩ | ⟨q, B, X', hpost, hsteps⟩
  · exact Or.inl ⟨v, vm₁, B, X₁.warmed, X', hpost, fun target h => hstep₁ _ fun acts => by rw [doInvoke_state]; exact hsteps.trans h⟩
  · exact Or.inr ⟨q, vm₁, B, X₁.warmed, X', hpost, hstep₁ _ fun acts => by rw [doInvoke_state]; exact hsteps⟩
theorem vx_callSX (X : Stand p l e R s m args below meth c T locs cells slots) (hexec : p.tables.exec = Jvm.exec) {own : String} {index : Nat} {y : MethodName} {bytes : ByteArray} {maxL : Nat} {ret : Option FieldType} {hh : List (Nat × Nat × Nat × Nat)}
    (hown : s.vm.findClass own = some m.cls) (hlink : (Cond.methodLink own index y).before args s = true) (hstat : (Cond.static y).before args s = true) (hinit : (Cond.initialized y.cls).before args s = true)
    (hcode : (Cond.codeWith y bytes maxL ret hh).before args s = true) (hy : y.cls ≠ "java/lang/invoke/MethodHandle" ∧ y.cls ≠ "java/lang/invoke/VarHandle")
    {W9 : Nat} {Pre : Pt → Array Value → Prop} {Post : Pt → Array Value → Option Value → Pt → Prop} {PostX : Pt → Array Value → Addr → Pt → Prop} (hK : vx_Back l R p e below s args y 3 W9 Pre Post PostX)
    {g : JFrame} (hg : g.method = m) (hsize : g.locals.size = c.maxLocals) {argsL rest : List Value} (hlen : ∀ sig, parseMethodDescriptor y.desc = some sig → argsL.length = sig.parameters.length)
    (hstack : g.stack = argsL.reverse ++ rest) (hW : 2 * g.monitorRoom + (rest.map fun v => v.category).sum ≤ W9) (hdg : decode c.code g.pc = .ok (.invokestatic index, 3))
    (hpre : ∀ vm₁, s.WarmedH vm₁ → Pre ⟨T.setVm vm₁, locs, cells, slots⟩ argsL.toArray) :
    (∃ (v : Option Value) (vm₁ : Vm) (B : Pt), s.WarmedH vm₁ ∧ Stand p l e R s m args below meth c B.U B.locs B.cells B.slots ∧ Post ⟨T.setVm vm₁, locs, cells, slots⟩ argsL.toArray v B ∧
      ∀ target, Steps p.tables e below (B.U.setTop { g with pc := g.pc + 3, stack := v.toList ++ rest }) target → Steps p.tables e below (T.setTop g) target) ∨
    (∃ (q : Addr) (vm₁ : Vm) (B : Pt), s.WarmedH vm₁ ∧ Stand p l e R s m args below meth c B.U B.locs B.cells B.slots ∧ PostX ⟨T.setVm vm₁, locs, cells, slots⟩ argsL.toArray q B ∧
      Steps p.tables e below (T.setTop g) ((B.U.setTop { g with stack := rest }).pushFrame (.throwing q))) := by
  obtain ⟨mk, methM, cM, hnamed, hmethM, -, -, -, -, -, -, hsigM⟩ := Cond.codeWith_spec hcode
  have hstatic : methM.isStatic = true := Cond.static_spec hnamed hmethM hstat
  obtain ⟨kP, hkP, -⟩ := className_of_methodNamed hnamed
  have hinitP : kP.init = .initialized := Cond.initialized_spec (findClass_of_methodNamed hnamed) hkP hinit
  obtain ⟨vm₁, X₁, hstep₁⟩ := X.invokestatic hexec hown hlink hnamed hmethM hstatic hkP hinitP hy (g := g) hg (argsL := argsL) (rest := rest) (hlen _ hsigM) hstack hdg
  rcases hK m meth c ⟨T.setVm vm₁, locs, cells, slots⟩ { g with stack := rest } (.invokestatic index) mk argsL.toArray X₁ hg hsize hdg hW (X₁.named hnamed) (hpre vm₁ X₁.warmed) with ⟨v, B, X', hpost, hsteps⟩ | ⟨q, B, X', hpost, hsteps⟩
  · exact Or.inl ⟨v, vm₁, B, X₁.warmed, X', hpost, fun target h => hstep₁ _ fun acts => by rw [doInvoke_state]; exact hsteps.trans h⟩
  · exact Or.inr ⟨q, vm₁, B, X₁.warmed, X', hpost, hstep₁ _ fun acts => by rw [doInvoke_state]; exact hsteps⟩
theorem vx_callVW (X : Stand p l e R s m args below meth c T locs cells slots) (hexec : p.tables.exec = Jvm.exec) {own C : String} {index : Nat} {y : MethodName} {bytes : ByteArray} {maxL : Nat} {ret : Option FieldType} {hh : List (Nat × Nat × Nat × Nat)}
    (hown : s.vm.findClass own = some m.cls) (hlink : (Cond.methodLink own index y).before args s = true) (hinst : (Cond.instanceMethod y).before args s = true) (hsel : (Cond.selects C y y).before args s = true)
    (hcode : (Cond.codeWith y bytes maxL ret hh).before args s = true) (hy : y.cls ≠ "java/lang/invoke/MethodHandle" ∧ y.cls ≠ "java/lang/invoke/VarHandle")
    {W9 : Nat} {Pre : Pt → Array Value → Prop} {Post : Pt → Array Value → Option Value → Pt → Prop} (hK : Back l R p e below s args y 3 W9 Pre Post)
    {b : Addr} {cellB : Cell} (hcell : T.heap[b]? = some cellB) (hobj : cellB.vm.isStatics = false) (hcls : s.vm.findClass C = some cellB.cls)
    {g : JFrame} (hg : g.method = m) (hsize : g.locals.size = c.maxLocals) {argsL rest : List Value} (hlen : ∀ sig, parseMethodDescriptor y.desc = some sig → argsL.length = sig.parameters.length)
    (hstack : g.stack = argsL.reverse ++ .ref b :: rest) (hW : 2 * g.monitorRoom + (rest.map fun v => v.category).sum ≤ W9) (hdg : decode c.code g.pc = .ok (.invokevirtual index, 3))
    (hpre : ∀ vm₁, s.WarmedH vm₁ → Pre ⟨T.setVm vm₁, locs, cells, slots⟩ (Value.ref b :: argsL).toArray) :
    ∃ (v : Option Value) (vm₁ : Vm) (B : Pt), s.WarmedH vm₁ ∧ Stand p l e R s m args below meth c B.U B.locs B.cells B.slots ∧ Post ⟨T.setVm vm₁, locs, cells, slots⟩ (Value.ref b :: argsL).toArray v B ∧
      ∀ target, Steps p.tables e below (B.U.setTop { g with pc := g.pc + 3, stack := v.toList ++ rest }) target → Steps p.tables e below (T.setTop g) target := by
  obtain ⟨mk, methM, hnamed, hmethM, hstM, habM⟩ := Cond.instanceMethod_spec hinst
  obtain ⟨m8, methM', cM, hn8, hmethM', -, -, -, -, -, -, hsigM⟩ := Cond.codeWith_spec hcode
  cases Option.some.inj (hn8.symm.trans hnamed)
  cases hmethM.symm.trans hmethM'
  obtain ⟨c2, r2, m2, q1, q2, q3, q4, kP, hkP, hkPi⟩ := Cond.selects_spec hsel
  cases hcls.symm.trans q1
  cases (State.methodFound?_of_named hnamed hy).symm.trans q2
  cases hnamed.symm.trans q3
  have hselP : selectMethod e.platform s.vm cellB.cls mk = .method mk := by rw [Launch.admits_selectMethod X.admits]; exact q4
  obtain ⟨vm₁, X₁, hstep₁⟩ := X.invokevirtual hexec hown hlink hnamed hmethM hstM hkP hkPi hy (a := b) (cell := cellB) hcell
    (fun z h => by rw [h] at hobj; cases hobj) hselP hmethM habM hkP hkPi (g := g) hg (argsL := argsL) (rest := rest) (hlen _ hsigM) hstack hdg
  obtain ⟨v, B, X', hpost, hsteps⟩ := hK m meth c ⟨T.setVm vm₁, locs, cells, slots⟩ { g with stack := rest } (.invokevirtual index) mk (Value.ref b :: argsL).toArray X₁ hg hsize hdg hW (X₁.named hnamed) (hpre vm₁ X₁.warmed)
  exact ⟨v, vm₁, B, X₁.warmed, X', hpost, fun target h => hstep₁ _ fun acts => by rw [doInvoke_state]; exact hsteps.trans h⟩
abbrev vx_CVW (R : Room) (s : State) (args : Array Value) (own C : String) (index : Nat) (y : MethodName) (bytes : ByteArray) (maxL : Nat) (ret : Option FieldType) (hh : List (Nat × Nat × Nat × Nat)) (ws : List Cond) (rm : Room) (mc ms n : Nat) : Prop :=
  (rm.cells = mc ∧ rm.slots = ms ∧ rm.frames + 1 ≤ R.frames ∧ 8 + (maxL + 11) + rm.locals ≤ R.locals ∧ (∀ w ∈ ws, ∀ (a' : Array Value) (U : State), s.WarmedH U.vm → w.before a' U = true) ∧ Cond.codeWith y bytes maxL ret hh ∈ ws) ∧
  (Cond.codeWith y bytes maxL ret hh).before args s = true ∧ (Cond.initialized y.cls).before args s = true ∧ (y.cls ≠ "java/lang/invoke/MethodHandle" ∧ y.cls ≠ "java/lang/invoke/VarHandle") ∧
  (∀ sig, parseMethodDescriptor y.desc = some sig → n = sig.parameters.length) ∧ (Cond.methodLink own index y).before args s = true ∧ (Cond.instanceMethod y).before args s = true ∧ (Cond.selects C y y).before args s = true
theorem vx_cwVW {own C : String} {index maxL mc ms : Nat} {y : MethodName} {bytes : ByteArray} {ret : Option FieldType} {hh : List (Nat × Nat × Nat × Nat)} {Ts ws ws' : List Cond} {rm : Room} (n : Nat) (ht : ∀ w ∈ Ts, w.before args s = true) (hT : GoodIn Ts (wsV own index C y ws)) (hw : ws = Cond.codeWith y bytes maxL ret hh :: ws') (hrc : rm.cells = mc) (hrs : rm.slots = ms)
    (hd : y.cls = C ∧ y.cls ≠ "java/lang/invoke/MethodHandle" ∧ y.cls ≠ "java/lang/invoke/VarHandle" ∧ (parseMethodDescriptor y.desc).map (fun d => d.parameters.length) = some n) (hR : rm.frames + 1 ≤ R.frames ∧ 8 + (maxL + 11) + rm.locals ≤ R.locals) :
    vx_CVW R s args own C index y bytes maxL ret hh ws rm mc ms n := by
  obtain ⟨hC, hd⟩ := hd
  subst hC
  have ok : ∀ w ∈ wsV own index y.cls y ws, w.before args s = true := fun w h => ht w (hT w h).1
  have hG : GoodIn Ts ws := fun w h => hT w (by unfold wsV; exact List.mem_append_right _ h)
  have hc : Cond.codeWith y bytes maxL ret hh ∈ ws := by rw [hw]; exact List.mem_cons_self
  refine ⟨⟨hrc, hrs, hR.1, hR.2, pay_in ht hG, hc⟩, ht _ (hG _ hc).1, ok _ (by simp [wsV]), ⟨hd.1, hd.2.1⟩, fun sig h => ?_, ok _ (by simp [wsV]), ok _ (by simp [wsV]), ok _ (by simp [wsV])⟩
  have h2 := hd.2.2
  rw [h] at h2
  exact (Option.some.inj h2).symm
theorem vx_runVW {y : MethodName} {bytes cc : ByteArray} {maxL nL mc ms n index : Nat} {ret : Option FieldType} {hh : List (Nat × Nat × Nat × Nat)} {ws : List Cond} {rm : Room} {Pc : Array Value → State → Prop} {Qc : Array Value → State → Outcome → State → Prop} {free : Addr → Prop} {Ts : List Cond} {own C : String} {b : Addr} {As rest : List Value} {g : JFrame}
    (S : CallFix p m c cc nL s args Ts own) (hM : Met l y ws rm Pc Qc mc ms free) (cw : vx_CVW R s args own C index y bytes maxL ret hh ws rm mc ms n) (hp : PreV s H C b Pc As)
    (hg : g.method = m) (hn : As.length = n) (hsize : g.locals.size = nL) (hstack : g.stack = As.reverse ++ .ref b :: rest) (hW : 2 * g.monitorRoom + (rest.map fun v => v.category).sum ≤ 8) (hdg : decode cc g.pc = .ok (.invokevirtual index, 3)) (hf : cells + mc ≤ R.cells ∧ slots + ms ≤ R.slots) :
    va_Run p l e R s m args below meth c H locs cells slots mc ms g rest (Qc (Value.ref b :: As).toArray) free := by
  obtain ⟨⟨hrc, hrs, hfr, hlo, hws, hcw⟩, hcode, hini, hy, hlen, hl, hin, hse⟩ := cw
  have hK : Back l R p e below s args y 3 8 (PreOf R mc ms Pc) (PostOf Qc mc ms free) := va_backW (hh := hh) (bytes := bytes) (maxL := maxL) (ret := ret) hM hp.1 hrc hrs hfr hlo hws hcw (fun a' U hW => word_at hW (Or.inl (by first | rfl | simp [Cond.onTables, Cond.keeps, Cond.steady])) hini)
  obtain ⟨hx, hb, hml, ho, -⟩ := S
  obtain ⟨-, ⟨cellB, hcB, hoB, hclB⟩, hPc⟩ := hp
  intro T hT X
  obtain ⟨v, vm₁, ⟨U', l2, c2, s2⟩, hW₁, X', ⟨g', mk, t, L, e1, e2, hq, h1, hL, h2, h3⟩, st⟩ := vx_callVW X hx (C := C) (hh := hh) (bytes := bytes) (maxL := maxL) (ret := ret) ho hl hin hse hcode hy hK (by rw [hT]; exact hcB) hoB hclB hg (hsize.trans hml.symm) (argsL := As) (rest := rest) (fun sig h => hn.trans (hlen sig h)) hstack hW (by rw [hb]; exact hdg)
    (fun vm₁ hW₁ => ⟨hf.1, hf.2, hPc (T.setVm vm₁) hT hW₁⟩)
  dsimp only [Pt.U, Pt.locs, Pt.cells, Pt.slots] at X' e1 e2 h1 h2 h3 st
  subst h1; subst h2; subst h3
  exact ⟨v, (T.setVm vm₁).calling g' mk (Value.ref b :: As).toArray, t, U', L, hT, X', hL, e1, e2, hq, st⟩
section
variable {y : MethodName} {bytes cc : ByteArray} {maxL nL mc ms n index : Nat} {ret : Option FieldType} {ws : List Cond} {rm : Room} {Pc : Array Value → State → Prop} {Qc : Array Value → State → Outcome → State → Prop} {XC : String → State → State → Prop} {free : Addr → Prop} {Ts : List Cond} {own C : String} {b : Addr} {As rest : List Value} {g : JFrame}
theorem vx_runVX {hh : List (Nat × Nat × Nat × Nat)} (S : CallFix p m c cc nL s args Ts own) (hM : vx_Met l y ws rm Pc Qc XC mc ms free) (cw : vx_CVW R s args own C index y bytes maxL ret hh ws rm mc ms n) (hp : PreV s H C b Pc As)
    (hg : g.method = m) (hn : As.length = n) (hsize : g.locals.size = nL) (hstack : g.stack = As.reverse ++ .ref b :: rest) (hW : 2 * g.monitorRoom + (rest.map fun v => v.category).sum ≤ 8) (hdg : decode cc g.pc = .ok (.invokevirtual index, 3)) (hf : cells + mc ≤ R.cells ∧ slots + ms ≤ R.slots) :
    vx_Run p l e R s m args below meth c H locs cells slots mc ms g rest (Qc (Value.ref b :: As).toArray) XC free := by
  obtain ⟨⟨hrc, hrs, hfr, hlo, hws, hcw⟩, hcode, hini, hy, hlen, hl, hin, hse⟩ := cw
  have hK : vx_Back l R p e below s args y 3 8 (PreOf R mc ms Pc) (PostOf Qc mc ms free) (vx_Post XC mc ms free) := vx_backW (hh := hh) (bytes := bytes) (maxL := maxL) (ret := ret) hM hp.1 hrc hrs hfr hlo hws hcw (fun a' U hW => word_at hW (Or.inl (by first | rfl | simp [Cond.onTables, Cond.keeps, Cond.steady])) hini)
  obtain ⟨hx, hb, hml, ho, -⟩ := S
  obtain ⟨-, ⟨cellB, hcB, hoB, hclB⟩, hPc⟩ := hp
  intro T hT X
  rcases vx_callVX X hx (C := C) (hh := hh) (bytes := bytes) (maxL := maxL) (ret := ret) ho hl hin hse hcode hy hK (by rw [hT]; exact hcB) hoB hclB hg (hsize.trans hml.symm) (argsL := As) (rest := rest) (fun sig h => hn.trans (hlen sig h)) hstack hW (by rw [hb]; exact hdg)
    (fun vm₁ hW₁ => ⟨hf.1, hf.2, hPc (T.setVm vm₁) hT hW₁⟩) with ⟨v, vm₁, ⟨U', l2, c2, s2⟩, hW₁, X', ⟨g', mk, t, L, e1, e2, hq, h1, hL, h2, h3⟩, st⟩ | ⟨q, vm₁, ⟨U', l2, c2, s2⟩, hW₁, X', ⟨g', mk, t, L, E, ce, e1, e2, hq, hce, hcv, hcl, h1, hL, h2, h3⟩, st⟩
  · dsimp only [Pt.U, Pt.locs, Pt.cells, Pt.slots] at X' e1 e2 h1 h2 h3 st
    subst h1; subst h2; subst h3
    exact Or.inl ⟨v, (T.setVm vm₁).calling g' mk (Value.ref b :: As).toArray, t, U', L, hT, X', hL, e1, e2, hq, st⟩
  · dsimp only [Pt.U, Pt.locs, Pt.cells, Pt.slots] at X' e1 e2 h1 h2 h3 st hcl
    subst h1; subst h2; subst h3
    exact Or.inr ⟨q, (T.setVm vm₁).calling g' mk (Value.ref b :: As).toArray, t, U', L, E, ce, hT, X', hL, e1, e2, hq, hce, hcv, vx_cls hW₁ hcl, st⟩
theorem vx_runSX {hh : List (Nat × Nat × Nat × Nat)} (S : CallFix p m c cc nL s args Ts own) (hM : vx_Met l y ws rm Pc Qc XC mc ms free) (cw : vx_CSW R s args own index y bytes maxL ret hh ws rm mc ms n) (hp : PreS s H Pc As)
    (hg : g.method = m) (hn : As.length = n) (hsize : g.locals.size = nL) (hstack : g.stack = As.reverse ++ rest) (hW : 2 * g.monitorRoom + (rest.map fun v => v.category).sum ≤ 8) (hdg : decode cc g.pc = .ok (.invokestatic index, 3)) (hf : cells + mc ≤ R.cells ∧ slots + ms ≤ R.slots) :
    vx_Run p l e R s m args below meth c H locs cells slots mc ms g rest (Qc As.toArray) XC free := by
  obtain ⟨⟨hrc, hrs, hfr, hlo, hws, hcw⟩, hcode, hini, hy, hlen, hl, hstt⟩ := cw
  have hK : vx_Back l R p e below s args y 3 8 (PreOf R mc ms Pc) (PostOf Qc mc ms free) (vx_Post XC mc ms free) := vx_backW (hh := hh) (bytes := bytes) (maxL := maxL) (ret := ret) hM hp.1 hrc hrs hfr hlo hws hcw (fun a' U hW => word_at hW (Or.inl (by first | rfl | simp [Cond.onTables, Cond.keeps, Cond.steady])) hini)
  obtain ⟨hx, hb, hml, ho, -⟩ := S
  intro T hT X
  rcases vx_callSX X hx (hh := hh) (bytes := bytes) (maxL := maxL) (ret := ret) ho hl hstt hini hcode hy hK hg (hsize.trans hml.symm) (argsL := As) (rest := rest) (fun sig h => hn.trans (hlen sig h)) hstack hW (by rw [hb]; exact hdg)
    (fun vm₁ hW₁ => ⟨hf.1, hf.2, hp.2 (T.setVm vm₁) hT hW₁⟩) with ⟨v, vm₁, ⟨U', l2, c2, s2⟩, hW₁, X', ⟨g', mk, t, L, e1, e2, hq, h1, hL, h2, h3⟩, st⟩ | ⟨q, vm₁, ⟨U', l2, c2, s2⟩, hW₁, X', ⟨g', mk, t, L, E, ce, e1, e2, hq, hce, hcv, hcl, h1, hL, h2, h3⟩, st⟩
  · dsimp only [Pt.U, Pt.locs, Pt.cells, Pt.slots] at X' e1 e2 h1 h2 h3 st
    subst h1; subst h2; subst h3
    exact Or.inl ⟨v, (T.setVm vm₁).calling g' mk As.toArray, t, U', L, hT, X', hL, e1, e2, hq, st⟩
  · dsimp only [Pt.U, Pt.locs, Pt.cells, Pt.slots] at X' e1 e2 h1 h2 h3 st hcl
    subst h1; subst h2; subst h3
    exact Or.inr ⟨q, (T.setVm vm₁).calling g' mk As.toArray, t, U', L, E, ce, hT, X', hL, e1, e2, hq, hce, hcv, vx_cls hW₁ hcl, st⟩
end
end VXH
theorem vx_ofWH {l : Launch} {y : MethodName} {ws ws' : List Cond} {rm : Room} {Pc : Array Value → State → Prop} {Qc : Array Value → State → Outcome → State → Prop} {XC : String → State → State → Prop} {mc ms : Nat} {free : Addr → Prop} {cc : ByteArray} {maxL : Nat} {ret : Option FieldType} {hh : List (Nat × Nat × Nat × Nat)}
    (hy : plainName y.cls = true) (hw : ws = Cond.codeWith y cc maxL ret hh :: ws')
    (body : ∀ p e s m args below meth c s₁, BodyLoose p l y (headSpec ws rm) cc maxL ret e s m args below meth c s₁ → c.maxLocals = maxL → Pc args s →
      W p l e (headSpec ws rm).room s m args below meth c s.heap [] 0 0 (vx_MQ below Qc XC args s mc ms free) (entryFrame m args maxL)) : vx_Met l y ws rm Pc Qc XC mc ms free := by
  refine MetFree.of_bodyS (code := cc) (maxLocals := maxL) (ret := ret) hy ?_ ?_
  · intro args s m h hn
    obtain ⟨m9, meth, c, hn9, h1, h2, h3, h4, -, h5, h6, -⟩ := Cond.codeWith_spec (atoms_spec (ws := ws) h _ (by rw [hw]; exact List.mem_cons_self))
    cases hn.symm.trans hn9
    exact ⟨meth, c, h1, h2, h3, h4, h5, h6⟩
  · intro p e s m args below meth c s₁ B hml hP _
    have hh0 : s₁.heap = s.heap := by rw [B.state]; rfl
    obtain ⟨t, a1, o, b1, b2, b3⟩ := body p e s m args below meth c s₁ B hml hP s₁ hh0 (Stand.of_body B)
    exact ⟨t, o, a1, b1, b2, b3⟩
/-! ===== END ===== -/
end
section
/-- the words that stay: every method carries them all -/
def gW : List Cond := lw_tbl.filter goodWord
theorem gW_of {w : Cond} (i : Nat) (h : lw_tbl[i]? = some w) (g : goodWord w = true) : w ∈ gW := List.mem_filter.mpr ⟨List.mem_of_getElem? h, g⟩
theorem gW_good {w : Cond} (h : w ∈ gW) : goodWord w = true := (List.mem_filter.mp h).2
def R_CB : String := "CoinBag"
def R_Bag : String := "CoinBag$Bag"
def R_Prs : String := "CoinBag$Pairs"
def R_Mod : String := "CoinBagModel"
def R_Law : String := "CoinBagLaw"
def R_JI : String := "java/lang/Integer"
def R_JL : String := "java/lang/Long"
def R_JM : String := "java/lang/Math"
def T_Bag : u_T := fun k => match k with
  | 0 => ("CoinBag$Bag", "policies", "[I", true)
  | 1 => ("CoinBag$Bag", "names", "[J", true)
  | 2 => ("CoinBag$Bag", "amounts", "[J", true)
  | _ => ("CoinBag$Bag", "count", "I", false)
def ty_Bag : Nat → FieldType := fun k => match k with
  | 0 => .array .int
  | 1 => .array .long
  | 2 => .array .long
  | _ => .int
theorem nm_Bag : ∀ a, a < 4 → ∀ b, b < 4 → a ≠ b → (T_Bag a).2.1 ≠ (T_Bag b).2.1 := by decide +kernel
theorem tyo_Bag : ∀ k, k < 4 → parseFieldDescriptor (T_Bag k).2.2.1 = some (ty_Bag k) := by decide +kernel
def T_Prs : u_T := fun k => match k with
  | 0 => ("CoinBag$Pairs", "policies", "[I", true)
  | 1 => ("CoinBag$Pairs", "names", "[J", true)
  | 2 => ("CoinBag$Pairs", "left", "[J", true)
  | 3 => ("CoinBag$Pairs", "right", "[J", true)
  | _ => ("CoinBag$Pairs", "count", "I", false)
def ty_Prs : Nat → FieldType := fun k => match k with
  | 0 => .array .int
  | 1 => .array .long
  | 2 => .array .long
  | 3 => .array .long
  | _ => .int
theorem nm_Prs : ∀ a, a < 5 → ∀ b, b < 5 → a ≠ b → (T_Prs a).2.1 ≠ (T_Prs b).2.1 := by decide +kernel
theorem tyo_Prs : ∀ k, k < 5 → parseFieldDescriptor (T_Prs k).2.2.1 = some (ty_Prs k) := by decide +kernel
def T_CB : u_T := fun k => match k with
  | 0 => ("CoinBag", "bags", "[LCoinBag$Bag;", true)
  | 1 => ("CoinBag", "pairs", "LCoinBag$Pairs;", true)
  | _ => ("CoinBag", "spare", "LCoinBag$Bag;", false)
def ty_CB : Nat → FieldType := fun k => match k with
  | 0 => .array (.object "CoinBag$Bag")
  | 1 => .object "CoinBag$Pairs"
  | _ => .object "CoinBag$Bag"
theorem nm_CB : ∀ a, a < 3 → ∀ b, b < 3 → a ≠ b → (T_CB a).2.1 ≠ (T_CB b).2.1 := by decide +kernel
theorem tyo_CB : ∀ k, k < 3 → parseFieldDescriptor (T_CB k).2.2.1 = some (ty_CB k) := by decide +kernel
def T_Mod : u_T := fun k => match k with
  | 0 => ("CoinBagModel", "thrown", "I", false)
  | 1 => ("CoinBagModel", "many", "[I", true)
  | 2 => ("CoinBagModel", "policies", "[I", true)
  | 3 => ("CoinBagModel", "names", "[J", true)
  | 4 => ("CoinBagModel", "amounts", "[J", true)
  | 5 => ("CoinBagModel", "rowMany", "I", false)
  | 6 => ("CoinBagModel", "rowPolicies", "[I", true)
  | 7 => ("CoinBagModel", "rowNames", "[J", true)
  | 8 => ("CoinBagModel", "rowAmounts", "[J", true)
  | _ => ("CoinBagModel", "bad", "Z", false)
def ty_Mod : Nat → FieldType := fun k => match k with
  | 0 => .int
  | 1 => .array .int
  | 2 => .array .int
  | 3 => .array .long
  | 4 => .array .long
  | 5 => .int
  | 6 => .array .int
  | 7 => .array .long
  | 8 => .array .long
  | _ => .boolean
theorem nm_Mod : ∀ a, a < 10 → ∀ b, b < 10 → a ≠ b → (T_Mod a).2.1 ≠ (T_Mod b).2.1 := by decide +kernel
theorem tyo_Mod : ∀ k, k < 10 → parseFieldDescriptor (T_Mod k).2.2.1 = some (ty_Mod k) := by decide +kernel
abbrev vCl : List vw_C := [(R_Bag, T_Bag, 4), (R_Prs, T_Prs, 5), (R_CB, T_CB, 3), (R_Mod, T_Mod, 10)]
set_option maxRecDepth 20000 in
theorem inT_Bag : ∀ w ∈ u_ws R_Bag T_Bag 4, w ∈ gW := fun w h => List.mem_filter.mpr ⟨(show ∀ w ∈ u_ws R_Bag T_Bag 4, w ∈ lw_tbl by decide +kernel) w h, (show ∀ w ∈ u_ws R_Bag T_Bag 4, goodWord w = true by decide +kernel) w h⟩
set_option maxRecDepth 20000 in
theorem inT_Prs : ∀ w ∈ u_ws R_Prs T_Prs 5, w ∈ gW := fun w h => List.mem_filter.mpr ⟨(show ∀ w ∈ u_ws R_Prs T_Prs 5, w ∈ lw_tbl by decide +kernel) w h, (show ∀ w ∈ u_ws R_Prs T_Prs 5, goodWord w = true by decide +kernel) w h⟩
set_option maxRecDepth 20000 in
theorem inT_CB : ∀ w ∈ u_ws R_CB T_CB 3, w ∈ gW := fun w h => List.mem_filter.mpr ⟨(show ∀ w ∈ u_ws R_CB T_CB 3, w ∈ lw_tbl by decide +kernel) w h, (show ∀ w ∈ u_ws R_CB T_CB 3, goodWord w = true by decide +kernel) w h⟩
set_option maxRecDepth 20000 in
theorem inT_Mod : ∀ w ∈ u_ws R_Mod T_Mod 10, w ∈ gW := fun w h => List.mem_filter.mpr ⟨(show ∀ w ∈ u_ws R_Mod T_Mod 10, w ∈ lw_tbl by decide +kernel) w h, (show ∀ w ∈ u_ws R_Mod T_Mod 10, goodWord w = true by decide +kernel) w h⟩
abbrev b_CB_init : ByteArray := prog_1_method_1_code
def y_CB_init : MethodName := ⟨"CoinBag", "<init>", "()V"⟩
def ws_CB_init : List Cond := .code y_CB_init b_CB_init 2 none :: gW
abbrev b_Bag_init : ByteArray := prog_2_method_1_code
def y_Bag_init : MethodName := ⟨"CoinBag$Bag", "<init>", "()V"⟩
def ws_Bag_init : List Cond := .code y_Bag_init b_Bag_init 1 none :: gW
abbrev b_Prs_init : ByteArray := prog_3_method_1_code
def y_Prs_init : MethodName := ⟨"CoinBag$Pairs", "<init>", "()V"⟩
def ws_Prs_init : List Cond := .code y_Prs_init b_Prs_init 1 none :: gW
abbrev b_Law_set : ByteArray := method_3_code
def y_Law_set : MethodName := ⟨"CoinBagLaw", "set", "(LCoinBag;IIJJ[J)I"⟩
def ws_Law_set : List Cond := .codeWith y_Law_set b_Law_set 9 (some .int) [(0, 21, 24, 13), (0, 21, 28, 15)] :: gW
abbrev b_CB_set : ByteArray := prog_1_method_2_code
def y_CB_set : MethodName := ⟨"CoinBag", "set", "(IIJJ)Z"⟩
def ws_CB_set : List Cond := .code y_CB_set b_CB_set 7 (some .boolean) :: gW
abbrev b_CB_requireBag : ByteArray := prog_1_method_17_code
def y_CB_requireBag : MethodName := ⟨"CoinBag", "requireBag", "(I)V"⟩
def ws_CB_requireBag : List Cond := .code y_CB_requireBag b_CB_requireBag 1 none :: gW
abbrev b_CB_requirePolicy : ByteArray := prog_1_method_18_code
def y_CB_requirePolicy : MethodName := ⟨"CoinBag", "requirePolicy", "(I)V"⟩
def ws_CB_requirePolicy : List Cond := .code y_CB_requirePolicy b_CB_requirePolicy 1 none :: gW
abbrev b_Bag_store : ByteArray := prog_2_method_5_code
def y_Bag_store : MethodName := ⟨"CoinBag$Bag", "store", "(IJJ)Z"⟩
def ws_Bag_store : List Cond := .code y_Bag_store b_Bag_store 8 (some .boolean) :: gW
abbrev b_Bag_placeFor : ByteArray := prog_2_method_9_code
def y_Bag_placeFor : MethodName := ⟨"CoinBag$Bag", "placeFor", "(IJ)I"⟩
def ws_Bag_placeFor : List Cond := .code y_Bag_placeFor b_Bag_placeFor 5 (some .int) :: gW
abbrev b_CB_orderOf : ByteArray := prog_1_method_27_code
def y_CB_orderOf : MethodName := ⟨"CoinBag", "orderOf", "(IJIJ)I"⟩
def ws_CB_orderOf : List Cond := .code y_CB_orderOf b_CB_orderOf 6 (some .int) :: gW
abbrev b_JI_compare : ByteArray := prog_9_method_40_code
def y_JI_compare : MethodName := ⟨"java/lang/Integer", "compare", "(II)I"⟩
def ws_JI_compare : List Cond := .code y_JI_compare b_JI_compare 2 (some .int) :: gW
abbrev b_JL_compareUnsigned : ByteArray := prog_10_method_43_code
def y_JL_compareUnsigned : MethodName := ⟨"java/lang/Long", "compareUnsigned", "(JJ)I"⟩
def ws_JL_compareUnsigned : List Cond := .code y_JL_compareUnsigned b_JL_compareUnsigned 4 (some .int) :: gW
abbrev b_JL_compare : ByteArray := prog_10_method_42_code
def y_JL_compare : MethodName := ⟨"java/lang/Long", "compare", "(JJ)I"⟩
def ws_JL_compare : List Cond := .code y_JL_compare b_JL_compare 4 (some .int) :: gW
abbrev b_Bag_holdsAt : ByteArray := prog_2_method_10_code
def y_Bag_holdsAt : MethodName := ⟨"CoinBag$Bag", "holdsAt", "(IIJ)Z"⟩
def ws_Bag_holdsAt : List Cond := .code y_Bag_holdsAt b_Bag_holdsAt 5 (some .boolean) :: gW
abbrev b_Bag_removeAt : ByteArray := prog_2_method_11_code
def y_Bag_removeAt : MethodName := ⟨"CoinBag$Bag", "removeAt", "(I)V"⟩
def ws_Bag_removeAt : List Cond := .code y_Bag_removeAt b_Bag_removeAt 3 none :: gW
abbrev b_Bag_makeRoomAt : ByteArray := prog_2_method_12_code
def y_Bag_makeRoomAt : MethodName := ⟨"CoinBag$Bag", "makeRoomAt", "(I)V"⟩
def ws_Bag_makeRoomAt : List Cond := .code y_Bag_makeRoomAt b_Bag_makeRoomAt 3 none :: gW
abbrev b_Law_put : ByteArray := method_4_code
def y_Law_put : MethodName := ⟨"CoinBagLaw", "put", "(LCoinBag;IIJJ[J)I"⟩
def ws_Law_put : List Cond := .codeWith y_Law_put b_Law_put 9 (some .int) [(0, 21, 24, 13), (0, 21, 28, 15)] :: gW
abbrev b_CB_put : ByteArray := prog_1_method_3_code
def y_CB_put : MethodName := ⟨"CoinBag", "put", "(IIJJ)Z"⟩
def ws_CB_put : List Cond := .code y_CB_put b_CB_put 9 (some .boolean) :: gW
abbrev b_Bag_amountOf : ByteArray := prog_2_method_4_code
def y_Bag_amountOf : MethodName := ⟨"CoinBag$Bag", "amountOf", "(IJ)J"⟩
def ws_Bag_amountOf : List Cond := .code y_Bag_amountOf b_Bag_amountOf 5 (some .long) :: gW
abbrev b_CB_sumFits : ByteArray := prog_1_method_23_code
def y_CB_sumFits : MethodName := ⟨"CoinBag", "sumFits", "(JJ)Z"⟩
def ws_CB_sumFits : List Cond := .code y_CB_sumFits b_CB_sumFits 4 (some .boolean) :: gW
abbrev b_Law_sum : ByteArray := method_5_code
def y_Law_sum : MethodName := ⟨"CoinBagLaw", "sum", "(LCoinBag;III[J)I"⟩
def ws_Law_sum : List Cond := .codeWith y_Law_sum b_Law_sum 6 (some .int) [(0, 19, 22, 13)] :: gW
abbrev b_CB_sum : ByteArray := prog_1_method_4_code
def y_CB_sum : MethodName := ⟨"CoinBag", "sum", "(III)Z"⟩
def ws_CB_sum : List Cond := .code y_CB_sum b_CB_sum 4 (some .boolean) :: gW
abbrev b_CB_combine : ByteArray := prog_1_method_20_code
def y_CB_combine : MethodName := ⟨"CoinBag", "combine", "(IIII)Z"⟩
def ws_CB_combine : List Cond := .code y_CB_combine b_CB_combine 10 (some .boolean) :: gW
abbrev b_Prs_align : ByteArray := prog_3_method_2_code
def y_Prs_align : MethodName := ⟨"CoinBag$Pairs", "align", "(LCoinBag$Bag;LCoinBag$Bag;)V"⟩
def ws_Prs_align : List Cond := .code y_Prs_align b_Prs_align 8 none :: gW
abbrev b_Prs_orderOfNext : ByteArray := prog_3_method_3_code
def y_Prs_orderOfNext : MethodName := ⟨"CoinBag$Pairs", "orderOfNext", "(LCoinBag$Bag;ILCoinBag$Bag;I)I"⟩
def ws_Prs_orderOfNext : List Cond := .code y_Prs_orderOfNext b_Prs_orderOfNext 4 (some .int) :: gW
abbrev b_Bag_empty : ByteArray := prog_2_method_2_code
def y_Bag_empty : MethodName := ⟨"CoinBag$Bag", "empty", "()V"⟩
def ws_Bag_empty : List Cond := .code y_Bag_empty b_Bag_empty 1 none :: gW
abbrev b_CB_fits : ByteArray := prog_1_method_21_code
def y_CB_fits : MethodName := ⟨"CoinBag", "fits", "(IJJ)Z"⟩
def ws_CB_fits : List Cond := .code y_CB_fits b_CB_fits 5 (some .boolean) :: gW
abbrev b_CB_differenceFits : ByteArray := prog_1_method_24_code
def y_CB_differenceFits : MethodName := ⟨"CoinBag", "differenceFits", "(JJ)Z"⟩
def ws_CB_differenceFits : List Cond := .code y_CB_differenceFits b_CB_differenceFits 4 (some .boolean) :: gW
abbrev b_CB_combined : ByteArray := prog_1_method_22_code
def y_CB_combined : MethodName := ⟨"CoinBag", "combined", "(IJJ)J"⟩
def ws_CB_combined : List Cond := .code y_CB_combined b_CB_combined 5 (some .long) :: gW
abbrev b_JM_min : ByteArray := prog_11_method_70_code
def y_JM_min : MethodName := ⟨"java/lang/Math", "min", "(JJ)J"⟩
def ws_JM_min : List Cond := .code y_JM_min b_JM_min 4 (some .long) :: gW
abbrev b_Bag_append : ByteArray := prog_2_method_3_code
def y_Bag_append : MethodName := ⟨"CoinBag$Bag", "append", "(IJJ)Z"⟩
def ws_Bag_append : List Cond := .code y_Bag_append b_Bag_append 6 (some .boolean) :: gW
abbrev b_CB_exchangeSpare : ByteArray := prog_1_method_19_code
def y_CB_exchangeSpare : MethodName := ⟨"CoinBag", "exchangeSpare", "(I)V"⟩
def ws_CB_exchangeSpare : List Cond := .code y_CB_exchangeSpare b_CB_exchangeSpare 3 none :: gW
abbrev b_Law_less : ByteArray := method_6_code
def y_Law_less : MethodName := ⟨"CoinBagLaw", "less", "(LCoinBag;III[J)I"⟩
def ws_Law_less : List Cond := .codeWith y_Law_less b_Law_less 6 (some .int) [(0, 19, 22, 13)] :: gW
abbrev b_CB_less : ByteArray := prog_1_method_5_code
def y_CB_less : MethodName := ⟨"CoinBag", "less", "(III)Z"⟩
def ws_CB_less : List Cond := .code y_CB_less b_CB_less 4 (some .boolean) :: gW
abbrev b_Law_times : ByteArray := method_7_code
def y_Law_times : MethodName := ⟨"CoinBagLaw", "times", "(LCoinBag;IJI[J)I"⟩
def ws_Law_times : List Cond := .codeWith y_Law_times b_Law_times 7 (some .int) [(0, 20, 23, 13)] :: gW
abbrev b_CB_times : ByteArray := prog_1_method_6_code
def y_CB_times : MethodName := ⟨"CoinBag", "times", "(IJI)Z"⟩
def ws_CB_times : List Cond := .code y_CB_times b_CB_times 7 (some .boolean) :: gW
abbrev b_CB_productFits : ByteArray := prog_1_method_25_code
def y_CB_productFits : MethodName := ⟨"CoinBag", "productFits", "(JJ)Z"⟩
def ws_CB_productFits : List Cond := .code y_CB_productFits b_CB_productFits 4 (some .boolean) :: gW
abbrev b_Law_only : ByteArray := method_8_code
def y_Law_only : MethodName := ⟨"CoinBagLaw", "only", "(LCoinBag;IIZI)I"⟩
def ws_Law_only : List Cond := .codeWith y_Law_only b_Law_only 6 (some .int) [(0, 9, 12, 13), (0, 9, 16, 15)] :: gW
abbrev b_CB_only : ByteArray := prog_1_method_7_code
def y_CB_only : MethodName := ⟨"CoinBag", "only", "(IIZI)V"⟩
def ws_CB_only : List Cond := .code y_CB_only b_CB_only 7 none :: gW
abbrev b_Law_part : ByteArray := method_9_code
def y_Law_part : MethodName := ⟨"CoinBagLaw", "part", "(LCoinBag;III[J)I"⟩
def ws_Law_part : List Cond := .codeWith y_Law_part b_Law_part 6 (some .int) [(0, 19, 22, 13)] :: gW
abbrev b_CB_part : ByteArray := prog_1_method_8_code
def y_CB_part : MethodName := ⟨"CoinBag", "part", "(III)Z"⟩
def ws_CB_part : List Cond := .code y_CB_part b_CB_part 8 (some .boolean) :: gW
abbrev b_Law_clear : ByteArray := method_10_code
def y_Law_clear : MethodName := ⟨"CoinBagLaw", "clear", "(LCoinBag;I)I"⟩
def ws_Law_clear : List Cond := .codeWith y_Law_clear b_Law_clear 3 (some .int) [(0, 5, 8, 13)] :: gW
abbrev b_CB_clear : ByteArray := prog_1_method_9_code
def y_CB_clear : MethodName := ⟨"CoinBag", "clear", "(I)V"⟩
def ws_CB_clear : List Cond := .code y_CB_clear b_CB_clear 2 none :: gW
abbrev b_Law_amount : ByteArray := method_11_code
def y_Law_amount : MethodName := ⟨"CoinBagLaw", "amount", "(LCoinBag;IIJ[J)I"⟩
def ws_Law_amount : List Cond := .codeWith y_Law_amount b_Law_amount 7 (some .int) [(0, 11, 14, 13), (0, 11, 18, 15)] :: gW
abbrev b_CB_amount : ByteArray := prog_1_method_10_code
def y_CB_amount : MethodName := ⟨"CoinBag", "amount", "(IIJ)J"⟩
def ws_CB_amount : List Cond := .code y_CB_amount b_CB_amount 5 (some .long) :: gW
abbrev b_Law_size : ByteArray := method_12_code
def y_Law_size : MethodName := ⟨"CoinBagLaw", "size", "(LCoinBag;I[J)I"⟩
def ws_Law_size : List Cond := .codeWith y_Law_size b_Law_size 4 (some .int) [(0, 9, 12, 13)] :: gW
abbrev b_CB_size : ByteArray := prog_1_method_11_code
def y_CB_size : MethodName := ⟨"CoinBag", "size", "(I)I"⟩
def ws_CB_size : List Cond := .code y_CB_size b_CB_size 2 (some .int) :: gW
abbrev b_Law_at : ByteArray := method_13_code
def y_Law_at : MethodName := ⟨"CoinBagLaw", "at", "(LCoinBag;III[J)I"⟩
def ws_Law_at : List Cond := .codeWith y_Law_at b_Law_at 6 (some .int) [(0, 11, 14, 13)] :: gW
abbrev b_CB_at : ByteArray := prog_1_method_12_code
def y_CB_at : MethodName := ⟨"CoinBag", "at", "(III)J"⟩
def ws_CB_at : List Cond := .code y_CB_at b_CB_at 5 (some .long) :: gW
abbrev b_Law_compare : ByteArray := method_14_code
def y_Law_compare : MethodName := ⟨"CoinBagLaw", "compare", "(LCoinBag;II[J)I"⟩
def ws_Law_compare : List Cond := .codeWith y_Law_compare b_Law_compare 5 (some .int) [(0, 10, 13, 13)] :: gW
abbrev b_CB_compare : ByteArray := prog_1_method_13_code
def y_CB_compare : MethodName := ⟨"CoinBag", "compare", "(II)I"⟩
def ws_CB_compare : List Cond := .code y_CB_compare b_CB_compare 6 (some .int) :: gW
abbrev b_Law_least : ByteArray := method_15_code
def y_Law_least : MethodName := ⟨"CoinBagLaw", "least", "(LCoinBag;III[J)I"⟩
def ws_Law_least : List Cond := .codeWith y_Law_least b_Law_least 6 (some .int) [(0, 19, 22, 13)] :: gW
abbrev b_CB_least : ByteArray := prog_1_method_14_code
def y_CB_least : MethodName := ⟨"CoinBag", "least", "(III)Z"⟩
def ws_CB_least : List Cond := .code y_CB_least b_CB_least 4 (some .boolean) :: gW
abbrev b_Law_into : ByteArray := method_16_code
def y_Law_into : MethodName := ⟨"CoinBagLaw", "into", "(LCoinBag;II[J)I"⟩
def ws_Law_into : List Cond := .codeWith y_Law_into b_Law_into 5 (some .int) [(0, 9, 12, 13)] :: gW
abbrev b_CB_into : ByteArray := prog_1_method_15_code
def y_CB_into : MethodName := ⟨"CoinBag", "into", "(II)J"⟩
def ws_CB_into : List Cond := .code y_CB_into b_CB_into 15 (some .long) :: gW
abbrev b_JM_floorDiv : ByteArray := prog_11_method_49_code
def y_JM_floorDiv : MethodName := ⟨"java/lang/Math", "floorDiv", "(JJ)J"⟩
def ws_JM_floorDiv : List Cond := .code y_JM_floorDiv b_JM_floorDiv 6 (some .long) :: gW
abbrev b_CB_fewestTimes : ByteArray := prog_1_method_26_code
def y_CB_fewestTimes : MethodName := ⟨"CoinBag", "fewestTimes", "(JJ)J"⟩
def ws_CB_fewestTimes : List Cond := .code y_CB_fewestTimes b_CB_fewestTimes 6 (some .long) :: gW
abbrev b_JM_max : ByteArray := prog_11_method_66_code
def y_JM_max : MethodName := ⟨"java/lang/Math", "max", "(JJ)J"⟩
def ws_JM_max : List Cond := .code y_JM_max b_JM_max 4 (some .long) :: gW
abbrev b_Law_look : ByteArray := method_17_code
def y_Law_look : MethodName := ⟨"CoinBagLaw", "look", "(LCoinBag;II[J)I"⟩
def ws_Law_look : List Cond := .codeWith y_Law_look b_Law_look 5 (some .int) [(0, 10, 13, 13)] :: gW
abbrev b_CB_look : ByteArray := prog_1_method_16_code
def y_CB_look : MethodName := ⟨"CoinBag", "look", "(II)I"⟩
def ws_CB_look : List Cond := .code y_CB_look b_CB_look 3 (some .int) :: gW
abbrev b_Bag_countPolicies : ByteArray := prog_2_method_6_code
def y_Bag_countPolicies : MethodName := ⟨"CoinBag$Bag", "countPolicies", "()I"⟩
def ws_Bag_countPolicies : List Cond := .code y_Bag_countPolicies b_Bag_countPolicies 3 (some .int) :: gW
abbrev b_Bag_countBelowZero : ByteArray := prog_2_method_7_code
def y_Bag_countBelowZero : MethodName := ⟨"CoinBag$Bag", "countBelowZero", "()I"⟩
def ws_Bag_countBelowZero : List Cond := .code y_Bag_countBelowZero b_Bag_countBelowZero 3 (some .int) :: gW
abbrev b_Bag_placeOfGreatest : ByteArray := prog_2_method_8_code
def y_Bag_placeOfGreatest : MethodName := ⟨"CoinBag$Bag", "placeOfGreatest", "()I"⟩
def ws_Bag_placeOfGreatest : List Cond := .code y_Bag_placeOfGreatest b_Bag_placeOfGreatest 3 (some .int) :: gW
abbrev b_Mod_init : ByteArray := prog_5_method_1_code
def y_Mod_init : MethodName := ⟨"CoinBagModel", "<init>", "()V"⟩
def ws_Mod_init : List Cond := .code y_Mod_init b_Mod_init 1 none :: gW
abbrev b_Mod_thrown : ByteArray := prog_5_method_2_code
def y_Mod_thrown : MethodName := ⟨"CoinBagModel", "thrown", "()I"⟩
def ws_Mod_thrown : List Cond := .code y_Mod_thrown b_Mod_thrown 1 (some .int) :: gW
abbrev b_Mod_set : ByteArray := prog_5_method_18_code
def y_Mod_set : MethodName := ⟨"CoinBagModel", "set", "(IIJJ)Z"⟩
def ws_Mod_set : List Cond := .code y_Mod_set b_Mod_set 7 (some .boolean) :: gW
abbrev b_Mod_wrong : ByteArray := prog_5_method_16_code
def y_Mod_wrong : MethodName := ⟨"CoinBagModel", "wrong", "(IIII)I"⟩
def ws_Mod_wrong : List Cond := .code y_Mod_wrong b_Mod_wrong 5 (some .int) :: gW
abbrev b_Mod_isBag : ByteArray := prog_5_method_3_code
def y_Mod_isBag : MethodName := ⟨"CoinBagModel", "isBag", "(I)Z"⟩
def ws_Mod_isBag : List Cond := .code y_Mod_isBag b_Mod_isBag 1 (some .boolean) :: gW
abbrev b_Mod_isPolicy : ByteArray := prog_5_method_4_code
def y_Mod_isPolicy : MethodName := ⟨"CoinBagModel", "isPolicy", "(I)Z"⟩
def ws_Mod_isPolicy : List Cond := .code y_Mod_isPolicy b_Mod_isPolicy 1 (some .boolean) :: gW
abbrev b_Mod_store : ByteArray := prog_5_method_17_code
def y_Mod_store : MethodName := ⟨"CoinBagModel", "store", "(IIJJ)Z"⟩
def ws_Mod_store : List Cond := .code y_Mod_store b_Mod_store 10 (some .boolean) :: gW
abbrev b_Mod_find : ByteArray := prog_5_method_5_code
def y_Mod_find : MethodName := ⟨"CoinBagModel", "find", "(IIJ)I"⟩
def ws_Mod_find : List Cond := .code y_Mod_find b_Mod_find 6 (some .int) :: gW
abbrev b_Mod_put : ByteArray := prog_5_method_19_code
def y_Mod_put : MethodName := ⟨"CoinBagModel", "put", "(IIJJ)Z"⟩
def ws_Mod_put : List Cond := .code y_Mod_put b_Mod_put 9 (some .boolean) :: gW
abbrev b_Mod_valueOf : ByteArray := prog_5_method_6_code
def y_Mod_valueOf : MethodName := ⟨"CoinBagModel", "valueOf", "(IIJ)J"⟩
def ws_Mod_valueOf : List Cond := .code y_Mod_valueOf b_Mod_valueOf 6 (some .long) :: gW
abbrev b_Mod_added : ByteArray := prog_5_method_12_code
def y_Mod_added : MethodName := ⟨"CoinBagModel", "added", "(JJ)J"⟩
def ws_Mod_added : List Cond := .code y_Mod_added b_Mod_added 5 (some .long) :: gW
abbrev b_Mod_sum : ByteArray := prog_5_method_20_code
def y_Mod_sum : MethodName := ⟨"CoinBagModel", "sum", "(III)Z"⟩
def ws_Mod_sum : List Cond := .code y_Mod_sum b_Mod_sum 4 (some .boolean) :: gW
abbrev b_Mod_both : ByteArray := prog_5_method_15_code
def y_Mod_both : MethodName := ⟨"CoinBagModel", "both", "(III)V"⟩
def ws_Mod_both : List Cond := .code y_Mod_both b_Mod_both 14 none :: gW
abbrev b_Mod_begin : ByteArray := prog_5_method_10_code
def y_Mod_begin : MethodName := ⟨"CoinBagModel", "begin", "()V"⟩
def ws_Mod_begin : List Cond := .code y_Mod_begin b_Mod_begin 1 none :: gW
abbrev b_Mod_subtracted : ByteArray := prog_5_method_13_code
def y_Mod_subtracted : MethodName := ⟨"CoinBagModel", "subtracted", "(JJ)J"⟩
def ws_Mod_subtracted : List Cond := .code y_Mod_subtracted b_Mod_subtracted 5 (some .long) :: gW
abbrev b_Mod_lay : ByteArray := prog_5_method_9_code
def y_Mod_lay : MethodName := ⟨"CoinBagModel", "lay", "(IJJ)V"⟩
def ws_Mod_lay : List Cond := .code y_Mod_lay b_Mod_lay 6 none :: gW
abbrev b_Mod_becomes : ByteArray := prog_5_method_11_code
def y_Mod_becomes : MethodName := ⟨"CoinBagModel", "becomes", "(I)Z"⟩
def ws_Mod_becomes : List Cond := .code y_Mod_becomes b_Mod_becomes 3 (some .boolean) :: gW
abbrev b_Mod_less : ByteArray := prog_5_method_21_code
def y_Mod_less : MethodName := ⟨"CoinBagModel", "less", "(III)Z"⟩
def ws_Mod_less : List Cond := .code y_Mod_less b_Mod_less 4 (some .boolean) :: gW
abbrev b_Mod_times : ByteArray := prog_5_method_22_code
def y_Mod_times : MethodName := ⟨"CoinBagModel", "times", "(IJI)Z"⟩
def ws_Mod_times : List Cond := .code y_Mod_times b_Mod_times 6 (some .boolean) :: gW
abbrev b_Mod_multiplied : ByteArray := prog_5_method_14_code
def y_Mod_multiplied : MethodName := ⟨"CoinBagModel", "multiplied", "(JJ)J"⟩
def ws_Mod_multiplied : List Cond := .code y_Mod_multiplied b_Mod_multiplied 6 (some .long) :: gW
abbrev b_Mod_only : ByteArray := prog_5_method_23_code
def y_Mod_only : MethodName := ⟨"CoinBagModel", "only", "(IIZI)V"⟩
def ws_Mod_only : List Cond := .code y_Mod_only b_Mod_only 6 none :: gW
abbrev b_Mod_part : ByteArray := prog_5_method_24_code
def y_Mod_part : MethodName := ⟨"CoinBagModel", "part", "(III)Z"⟩
def ws_Mod_part : List Cond := .code y_Mod_part b_Mod_part 5 (some .boolean) :: gW
abbrev b_Mod_clear : ByteArray := prog_5_method_25_code
def y_Mod_clear : MethodName := ⟨"CoinBagModel", "clear", "(I)V"⟩
def ws_Mod_clear : List Cond := .code y_Mod_clear b_Mod_clear 2 none :: gW
abbrev b_Mod_least : ByteArray := prog_5_method_26_code
def y_Mod_least : MethodName := ⟨"CoinBagModel", "least", "(III)Z"⟩
def ws_Mod_least : List Cond := .code y_Mod_least b_Mod_least 4 (some .boolean) :: gW
abbrev b_Mod_amount : ByteArray := prog_5_method_27_code
def y_Mod_amount : MethodName := ⟨"CoinBagModel", "amount", "(IIJ)J"⟩
def ws_Mod_amount : List Cond := .code y_Mod_amount b_Mod_amount 5 (some .long) :: gW
abbrev b_Mod_size : ByteArray := prog_5_method_28_code
def y_Mod_size : MethodName := ⟨"CoinBagModel", "size", "(I)I"⟩
def ws_Mod_size : List Cond := .code y_Mod_size b_Mod_size 2 (some .int) :: gW
abbrev b_Mod_at : ByteArray := prog_5_method_29_code
def y_Mod_at : MethodName := ⟨"CoinBagModel", "at", "(III)J"⟩
def ws_Mod_at : List Cond := .code y_Mod_at b_Mod_at 5 (some .long) :: gW
abbrev b_Mod_inOrder : ByteArray := prog_5_method_8_code
def y_Mod_inOrder : MethodName := ⟨"CoinBagModel", "inOrder", "(II)I"⟩
def ws_Mod_inOrder : List Cond := .code y_Mod_inOrder b_Mod_inOrder 7 (some .int) :: gW
abbrev b_Mod_isBefore : ByteArray := prog_5_method_7_code
def y_Mod_isBefore : MethodName := ⟨"CoinBagModel", "isBefore", "(III)Z"⟩
def ws_Mod_isBefore : List Cond := .code y_Mod_isBefore b_Mod_isBefore 6 (some .boolean) :: gW
abbrev b_Mod_compare : ByteArray := prog_5_method_30_code
def y_Mod_compare : MethodName := ⟨"CoinBagModel", "compare", "(II)I"⟩
def ws_Mod_compare : List Cond := .code y_Mod_compare b_Mod_compare 12 (some .int) :: gW
abbrev b_Mod_into : ByteArray := prog_5_method_31_code
def y_Mod_into : MethodName := ⟨"CoinBagModel", "into", "(II)J"⟩
def ws_Mod_into : List Cond := .code y_Mod_into b_Mod_into 18 (some .long) :: gW
abbrev b_Mod_look : ByteArray := prog_5_method_32_code
def y_Mod_look : MethodName := ⟨"CoinBagModel", "look", "(II)I"⟩
def ws_Mod_look : List Cond := .code y_Mod_look b_Mod_look 9 (some .int) :: gW
end
section
theorem k_1 : (Jvm.Cond.selects "CoinBag$Bag" y_Bag_placeFor y_Bag_placeFor) ∈ gW := gW_of 1 (by decide +kernel) (by decide +kernel)
theorem k_2 : (Jvm.Cond.selects "CoinBag$Bag" y_Bag_holdsAt y_Bag_holdsAt) ∈ gW := gW_of 2 (by decide +kernel) (by decide +kernel)
theorem k_3 : (Jvm.Cond.selects "CoinBag$Bag" y_Bag_removeAt y_Bag_removeAt) ∈ gW := gW_of 3 (by decide +kernel) (by decide +kernel)
theorem k_4 : (Jvm.Cond.selects "CoinBag$Bag" y_Bag_makeRoomAt y_Bag_makeRoomAt) ∈ gW := gW_of 4 (by decide +kernel) (by decide +kernel)
theorem k_5 : (Jvm.Cond.selects "CoinBag" y_CB_combine y_CB_combine) ∈ gW := gW_of 5 (by decide +kernel) (by decide +kernel)
theorem k_6 : (Jvm.Cond.selects "CoinBag" y_CB_exchangeSpare y_CB_exchangeSpare) ∈ gW := gW_of 6 (by decide +kernel) (by decide +kernel)
theorem k_7 : (Jvm.Cond.selects "CoinBagModel" y_Mod_wrong y_Mod_wrong) ∈ gW := gW_of 7 (by decide +kernel) (by decide +kernel)
theorem k_8 : (Jvm.Cond.selects "CoinBagModel" y_Mod_store y_Mod_store) ∈ gW := gW_of 8 (by decide +kernel) (by decide +kernel)
theorem k_9 : (Jvm.Cond.selects "CoinBagModel" y_Mod_find y_Mod_find) ∈ gW := gW_of 9 (by decide +kernel) (by decide +kernel)
theorem k_10 : (Jvm.Cond.selects "CoinBagModel" y_Mod_valueOf y_Mod_valueOf) ∈ gW := gW_of 10 (by decide +kernel) (by decide +kernel)
theorem k_11 : (Jvm.Cond.selects "CoinBagModel" y_Mod_added y_Mod_added) ∈ gW := gW_of 11 (by decide +kernel) (by decide +kernel)
theorem k_12 : (Jvm.Cond.selects "CoinBagModel" y_Mod_both y_Mod_both) ∈ gW := gW_of 12 (by decide +kernel) (by decide +kernel)
theorem k_13 : (Jvm.Cond.selects "CoinBagModel" y_Mod_begin y_Mod_begin) ∈ gW := gW_of 13 (by decide +kernel) (by decide +kernel)
theorem k_14 : (Jvm.Cond.selects "CoinBagModel" y_Mod_subtracted y_Mod_subtracted) ∈ gW := gW_of 14 (by decide +kernel) (by decide +kernel)
theorem k_15 : (Jvm.Cond.selects "CoinBagModel" y_Mod_lay y_Mod_lay) ∈ gW := gW_of 15 (by decide +kernel) (by decide +kernel)
theorem k_16 : (Jvm.Cond.selects "CoinBagModel" y_Mod_becomes y_Mod_becomes) ∈ gW := gW_of 16 (by decide +kernel) (by decide +kernel)
theorem k_17 : (Jvm.Cond.selects "CoinBagModel" y_Mod_multiplied y_Mod_multiplied) ∈ gW := gW_of 17 (by decide +kernel) (by decide +kernel)
theorem k_18 : (Jvm.Cond.selects "CoinBagModel" y_Mod_inOrder y_Mod_inOrder) ∈ gW := gW_of 18 (by decide +kernel) (by decide +kernel)
theorem k_19 : (Jvm.Cond.selects "CoinBagModel" y_Mod_isBefore y_Mod_isBefore) ∈ gW := gW_of 19 (by decide +kernel) (by decide +kernel)
theorem k_20 : (Jvm.Cond.initialized "CoinBagLaw") ∈ gW := gW_of 20 (by decide +kernel) (by decide +kernel)
theorem k_21 : (Jvm.Cond.initialized "CoinBag") ∈ gW := gW_of 21 (by decide +kernel) (by decide +kernel)
theorem k_22 : (Jvm.Cond.initialized "CoinBag$Bag") ∈ gW := gW_of 22 (by decide +kernel) (by decide +kernel)
theorem k_23 : (Jvm.Cond.initialized "CoinBag$Pairs") ∈ gW := gW_of 23 (by decide +kernel) (by decide +kernel)
theorem k_24 : (Jvm.Cond.initialized "CoinBagModel") ∈ gW := gW_of 24 (by decide +kernel) (by decide +kernel)
theorem k_28 : (Jvm.Cond.initialized "java/lang/IndexOutOfBoundsException") ∈ gW := gW_of 28 (by decide +kernel) (by decide +kernel)
theorem k_29 : (Jvm.Cond.initialized "java/lang/IllegalArgumentException") ∈ gW := gW_of 29 (by decide +kernel) (by decide +kernel)
theorem k_30 : (Jvm.Cond.initialized "java/lang/Integer") ∈ gW := gW_of 30 (by decide +kernel) (by decide +kernel)
theorem k_31 : (Jvm.Cond.initialized "java/lang/Long") ∈ gW := gW_of 31 (by decide +kernel) (by decide +kernel)
theorem k_32 : (Jvm.Cond.initialized "java/lang/System") ∈ gW := gW_of 32 (by decide +kernel) (by decide +kernel)
theorem k_33 : (Jvm.Cond.initialized "java/lang/Math") ∈ gW := gW_of 33 (by decide +kernel) (by decide +kernel)
theorem k_34 : (Jvm.Cond.classLink "CoinBagLaw" (8 : Nat) "CoinBag") ∈ gW := gW_of 34 (by decide +kernel) (by decide +kernel)
theorem k_35 : (Jvm.Cond.instantiable "CoinBag" (3 : Nat)) ∈ gW := gW_of 35 (by decide +kernel) (by decide +kernel)
theorem k_36 : (Jvm.Cond.methodLink "CoinBagLaw" (68 : Nat) y_CB_init) ∈ gW := gW_of 36 (by decide +kernel) (by decide +kernel)
theorem k_37 : (Jvm.Cond.instanceMethod y_CB_init) ∈ gW := gW_of 37 (by decide +kernel) (by decide +kernel)
theorem k_38 : (Jvm.Cond.code y_CB_init b_CB_init (2 : Nat) (Option.none : Option Jvm.ClassFile.FieldType)) ∈ gW := gW_of 38 (by decide +kernel) (by decide +kernel)
theorem k_39 : (Jvm.Cond.methodLink "CoinBag" (1 : Nat) ⟨"java/lang/Object", "<init>", "()V"⟩) ∈ gW := gW_of 39 (by decide +kernel) (by decide +kernel)
theorem k_40 : (Jvm.Cond.instanceMethod ⟨"java/lang/Object", "<init>", "()V"⟩) ∈ gW := gW_of 40 (by decide +kernel) (by decide +kernel)
theorem k_41 : (Jvm.Cond.code ⟨"java/lang/Object", "<init>", "()V"⟩ object_method_1_code (1 : Nat) (Option.none : Option Jvm.ClassFile.FieldType)) ∈ gW := gW_of 41 (by decide +kernel) (by decide +kernel)
theorem k_42 : (Jvm.Cond.classLink "CoinBag" (9 : Nat) "CoinBag$Bag") ∈ gW := gW_of 42 (by decide +kernel) (by decide +kernel)
theorem k_44 : (Jvm.Cond.instantiable "CoinBag$Bag" (4 : Nat)) ∈ gW := gW_of 44 (by decide +kernel) (by decide +kernel)
theorem k_46 : (Jvm.Cond.instanceMethod y_Bag_init) ∈ gW := gW_of 46 (by decide +kernel) (by decide +kernel)
theorem k_47 : (Jvm.Cond.code y_Bag_init b_Bag_init (1 : Nat) (Option.none : Option Jvm.ClassFile.FieldType)) ∈ gW := gW_of 47 (by decide +kernel) (by decide +kernel)
theorem k_48 : (Jvm.Cond.methodLink "CoinBag$Bag" (3 : Nat) ⟨"java/lang/Object", "<init>", "()V"⟩) ∈ gW := gW_of 48 (by decide +kernel) (by decide +kernel)
theorem k_49 : (Jvm.Cond.fieldLink "CoinBag$Bag" (9 : Nat) "CoinBag$Bag" "policies" "[I") ∈ gW := gW_of 49 (by decide +kernel) (by decide +kernel)
theorem k_50 : (Jvm.Cond.fieldLink "CoinBag$Pairs" (36 : Nat) "CoinBag$Bag" "policies" "[I") ∈ gW := gW_of 50 (by decide +kernel) (by decide +kernel)
theorem k_51 : (Jvm.Cond.fieldLink "CoinBag" (64 : Nat) "CoinBag$Bag" "policies" "[I") ∈ gW := gW_of 51 (by decide +kernel) (by decide +kernel)
theorem k_52 : (Jvm.Cond.fieldLink "CoinBag$Bag" (15 : Nat) "CoinBag$Bag" "names" "[J") ∈ gW := gW_of 52 (by decide +kernel) (by decide +kernel)
theorem k_53 : (Jvm.Cond.fieldLink "CoinBag$Pairs" (37 : Nat) "CoinBag$Bag" "names" "[J") ∈ gW := gW_of 53 (by decide +kernel) (by decide +kernel)
theorem k_54 : (Jvm.Cond.fieldLink "CoinBag" (68 : Nat) "CoinBag$Bag" "names" "[J") ∈ gW := gW_of 54 (by decide +kernel) (by decide +kernel)
theorem k_55 : (Jvm.Cond.fieldLink "CoinBag$Bag" (19 : Nat) "CoinBag$Bag" "amounts" "[J") ∈ gW := gW_of 55 (by decide +kernel) (by decide +kernel)
theorem k_56 : (Jvm.Cond.fieldLink "CoinBag$Pairs" (38 : Nat) "CoinBag$Bag" "amounts" "[J") ∈ gW := gW_of 56 (by decide +kernel) (by decide +kernel)
theorem k_57 : (Jvm.Cond.fieldLink "CoinBag" (57 : Nat) "CoinBag$Bag" "amounts" "[J") ∈ gW := gW_of 57 (by decide +kernel) (by decide +kernel)
theorem k_58 : (Jvm.Cond.fieldLink "CoinBag$Bag" (22 : Nat) "CoinBag$Bag" "count" "I") ∈ gW := gW_of 58 (by decide +kernel) (by decide +kernel)
theorem k_59 : (Jvm.Cond.fieldLink "CoinBag$Pairs" (29 : Nat) "CoinBag$Bag" "count" "I") ∈ gW := gW_of 59 (by decide +kernel) (by decide +kernel)
theorem k_60 : (Jvm.Cond.fieldLink "CoinBag" (53 : Nat) "CoinBag$Bag" "count" "I") ∈ gW := gW_of 60 (by decide +kernel) (by decide +kernel)
theorem k_61 : (Jvm.Cond.laysFinal "CoinBag$Bag" "CoinBag$Bag" "policies" "[I") ∈ gW := gW_of 61 (by decide +kernel) (by decide +kernel)
theorem k_63 : (Jvm.Cond.laysFinal "CoinBag$Bag" "CoinBag$Bag" "names" "[J") ∈ gW := gW_of 63 (by decide +kernel) (by decide +kernel)
theorem k_65 : (Jvm.Cond.laysFinal "CoinBag$Bag" "CoinBag$Bag" "amounts" "[J") ∈ gW := gW_of 65 (by decide +kernel) (by decide +kernel)
theorem k_67 : (Jvm.Cond.lays "CoinBag$Bag" "CoinBag$Bag" "count" "I") ∈ gW := gW_of 67 (by decide +kernel) (by decide +kernel)
theorem k_70 : (Jvm.Cond.arrayClass Jvm.ClassFile.FieldType.int) ∈ gW := gW_of 70 (by decide +kernel) (by decide +kernel)
theorem k_71 : (Jvm.Cond.arrayClass Jvm.ClassFile.FieldType.long) ∈ gW := gW_of 71 (by decide +kernel) (by decide +kernel)
theorem k_72 : (Jvm.Cond.classLink "CoinBag" (16 : Nat) "CoinBag$Pairs") ∈ gW := gW_of 72 (by decide +kernel) (by decide +kernel)
theorem k_73 : (Jvm.Cond.instantiable "CoinBag$Pairs" (5 : Nat)) ∈ gW := gW_of 73 (by decide +kernel) (by decide +kernel)
theorem k_75 : (Jvm.Cond.instanceMethod y_Prs_init) ∈ gW := gW_of 75 (by decide +kernel) (by decide +kernel)
theorem k_76 : (Jvm.Cond.code y_Prs_init b_Prs_init (1 : Nat) (Option.none : Option Jvm.ClassFile.FieldType)) ∈ gW := gW_of 76 (by decide +kernel) (by decide +kernel)
theorem k_77 : (Jvm.Cond.methodLink "CoinBag$Pairs" (3 : Nat) ⟨"java/lang/Object", "<init>", "()V"⟩) ∈ gW := gW_of 77 (by decide +kernel) (by decide +kernel)
theorem k_78 : (Jvm.Cond.fieldLink "CoinBag$Pairs" (11 : Nat) "CoinBag$Pairs" "policies" "[I") ∈ gW := gW_of 78 (by decide +kernel) (by decide +kernel)
theorem k_79 : (Jvm.Cond.fieldLink "CoinBag" (139 : Nat) "CoinBag$Pairs" "policies" "[I") ∈ gW := gW_of 79 (by decide +kernel) (by decide +kernel)
theorem k_80 : (Jvm.Cond.fieldLink "CoinBag$Pairs" (15 : Nat) "CoinBag$Pairs" "names" "[J") ∈ gW := gW_of 80 (by decide +kernel) (by decide +kernel)
theorem k_81 : (Jvm.Cond.fieldLink "CoinBag" (140 : Nat) "CoinBag$Pairs" "names" "[J") ∈ gW := gW_of 81 (by decide +kernel) (by decide +kernel)
theorem k_82 : (Jvm.Cond.fieldLink "CoinBag$Pairs" (19 : Nat) "CoinBag$Pairs" "left" "[J") ∈ gW := gW_of 82 (by decide +kernel) (by decide +kernel)
theorem k_83 : (Jvm.Cond.fieldLink "CoinBag" (91 : Nat) "CoinBag$Pairs" "left" "[J") ∈ gW := gW_of 83 (by decide +kernel) (by decide +kernel)
theorem k_84 : (Jvm.Cond.fieldLink "CoinBag$Pairs" (22 : Nat) "CoinBag$Pairs" "right" "[J") ∈ gW := gW_of 84 (by decide +kernel) (by decide +kernel)
theorem k_85 : (Jvm.Cond.fieldLink "CoinBag" (94 : Nat) "CoinBag$Pairs" "right" "[J") ∈ gW := gW_of 85 (by decide +kernel) (by decide +kernel)
theorem k_86 : (Jvm.Cond.fieldLink "CoinBag$Pairs" (25 : Nat) "CoinBag$Pairs" "count" "I") ∈ gW := gW_of 86 (by decide +kernel) (by decide +kernel)
theorem k_87 : (Jvm.Cond.fieldLink "CoinBag" (90 : Nat) "CoinBag$Pairs" "count" "I") ∈ gW := gW_of 87 (by decide +kernel) (by decide +kernel)
theorem k_88 : (Jvm.Cond.laysFinal "CoinBag$Pairs" "CoinBag$Pairs" "policies" "[I") ∈ gW := gW_of 88 (by decide +kernel) (by decide +kernel)
theorem k_90 : (Jvm.Cond.laysFinal "CoinBag$Pairs" "CoinBag$Pairs" "names" "[J") ∈ gW := gW_of 90 (by decide +kernel) (by decide +kernel)
theorem k_92 : (Jvm.Cond.laysFinal "CoinBag$Pairs" "CoinBag$Pairs" "left" "[J") ∈ gW := gW_of 92 (by decide +kernel) (by decide +kernel)
theorem k_94 : (Jvm.Cond.laysFinal "CoinBag$Pairs" "CoinBag$Pairs" "right" "[J") ∈ gW := gW_of 94 (by decide +kernel) (by decide +kernel)
theorem k_96 : (Jvm.Cond.lays "CoinBag$Pairs" "CoinBag$Pairs" "count" "I") ∈ gW := gW_of 96 (by decide +kernel) (by decide +kernel)
theorem k_99 : (Jvm.Cond.fieldLink "CoinBag" (11 : Nat) "CoinBag" "bags" "[LCoinBag$Bag;") ∈ gW := gW_of 99 (by decide +kernel) (by decide +kernel)
theorem k_100 : (Jvm.Cond.fieldLink "CoinBag" (19 : Nat) "CoinBag" "pairs" "LCoinBag$Pairs;") ∈ gW := gW_of 100 (by decide +kernel) (by decide +kernel)
theorem k_101 : (Jvm.Cond.fieldLink "CoinBag" (23 : Nat) "CoinBag" "spare" "LCoinBag$Bag;") ∈ gW := gW_of 101 (by decide +kernel) (by decide +kernel)
theorem k_102 : (Jvm.Cond.laysFinal "CoinBag" "CoinBag" "bags" "[LCoinBag$Bag;") ∈ gW := gW_of 102 (by decide +kernel) (by decide +kernel)
theorem k_104 : (Jvm.Cond.laysFinal "CoinBag" "CoinBag" "pairs" "LCoinBag$Pairs;") ∈ gW := gW_of 104 (by decide +kernel) (by decide +kernel)
theorem k_106 : (Jvm.Cond.lays "CoinBag" "CoinBag" "spare" "LCoinBag$Bag;") ∈ gW := gW_of 106 (by decide +kernel) (by decide +kernel)
theorem k_109 : (Jvm.Cond.methodLink "CoinBagLaw" (74 : Nat) y_Law_set) ∈ gW := gW_of 109 (by decide +kernel) (by decide +kernel)
theorem k_110 : (Jvm.Cond.static y_Law_set) ∈ gW := gW_of 110 (by decide +kernel) (by decide +kernel)
theorem k_111 : (Jvm.Cond.codeWith y_Law_set b_Law_set (9 : Nat) (Option.some Jvm.ClassFile.FieldType.int) [((0 : Nat), (21 : Nat), (24 : Nat), (13 : Nat)), ((0 : Nat), (21 : Nat), (28 : Nat), (15 : Nat))]) ∈ gW := gW_of 111 (by decide +kernel) (by decide +kernel)
theorem k_112 : (Jvm.Cond.classLink "CoinBagLaw" (13 : Nat) "java/lang/IndexOutOfBoundsException") ∈ gW := gW_of 112 (by decide +kernel) (by decide +kernel)
theorem k_113 : (Jvm.Cond.classLink "CoinBagLaw" (15 : Nat) "java/lang/IllegalArgumentException") ∈ gW := gW_of 113 (by decide +kernel) (by decide +kernel)
theorem k_114 : (Jvm.Cond.methodLink "CoinBagLaw" (7 : Nat) y_CB_set) ∈ gW := gW_of 114 (by decide +kernel) (by decide +kernel)
theorem k_115 : (Jvm.Cond.instanceMethod y_CB_set) ∈ gW := gW_of 115 (by decide +kernel) (by decide +kernel)
theorem k_116 : (Jvm.Cond.selects "CoinBag" y_CB_set y_CB_set) ∈ gW := gW_of 116 (by decide +kernel) (by decide +kernel)
theorem k_117 : (Jvm.Cond.code y_CB_set b_CB_set (7 : Nat) (Option.some Jvm.ClassFile.FieldType.boolean)) ∈ gW := gW_of 117 (by decide +kernel) (by decide +kernel)
theorem k_118 : (Jvm.Cond.methodLink "CoinBag" (27 : Nat) y_CB_requireBag) ∈ gW := gW_of 118 (by decide +kernel) (by decide +kernel)
theorem k_119 : (Jvm.Cond.static y_CB_requireBag) ∈ gW := gW_of 119 (by decide +kernel) (by decide +kernel)
theorem k_120 : (Jvm.Cond.code y_CB_requireBag b_CB_requireBag (1 : Nat) (Option.none : Option Jvm.ClassFile.FieldType)) ∈ gW := gW_of 120 (by decide +kernel) (by decide +kernel)
theorem k_121 : (Jvm.Cond.classLink "CoinBag" (77 : Nat) "java/lang/IndexOutOfBoundsException") ∈ gW := gW_of 121 (by decide +kernel) (by decide +kernel)
theorem k_122 : (Jvm.Cond.instantiable "java/lang/IndexOutOfBoundsException" (6 : Nat)) ∈ gW := gW_of 122 (by decide +kernel) (by decide +kernel)
theorem k_162 : (Jvm.Cond.methodLink "CoinBag" (81 : Nat) ⟨"java/lang/IndexOutOfBoundsException", "<init>", "(Ljava/lang/String;)V"⟩) ∈ gW := gW_of 162 (by decide +kernel) (by decide +kernel)
theorem k_163 : (Jvm.Cond.instanceMethod ⟨"java/lang/IndexOutOfBoundsException", "<init>", "(Ljava/lang/String;)V"⟩) ∈ gW := gW_of 163 (by decide +kernel) (by decide +kernel)
theorem k_164 : (Jvm.Cond.code ⟨"java/lang/IndexOutOfBoundsException", "<init>", "(Ljava/lang/String;)V"⟩ prog_8_method_2_code (2 : Nat) (Option.none : Option Jvm.ClassFile.FieldType)) ∈ gW := gW_of 164 (by decide +kernel) (by decide +kernel)
theorem k_187 : (Jvm.Cond.arrayClass Jvm.ClassFile.FieldType.byte) ∈ gW := gW_of 187 (by decide +kernel) (by decide +kernel)
theorem k_188 : (Jvm.Cond.methodLink "CoinBag" (31 : Nat) y_CB_requirePolicy) ∈ gW := gW_of 188 (by decide +kernel) (by decide +kernel)
theorem k_189 : (Jvm.Cond.static y_CB_requirePolicy) ∈ gW := gW_of 189 (by decide +kernel) (by decide +kernel)
theorem k_190 : (Jvm.Cond.code y_CB_requirePolicy b_CB_requirePolicy (1 : Nat) (Option.none : Option Jvm.ClassFile.FieldType)) ∈ gW := gW_of 190 (by decide +kernel) (by decide +kernel)
theorem k_191 : (Jvm.Cond.constant "CoinBag" (130 : Nat) (65536 : Int32)) ∈ gW := gW_of 191 (by decide +kernel) (by decide +kernel)
theorem k_192 : (Jvm.Cond.classLink "CoinBag" (131 : Nat) "java/lang/IllegalArgumentException") ∈ gW := gW_of 192 (by decide +kernel) (by decide +kernel)
theorem k_193 : (Jvm.Cond.instantiable "java/lang/IllegalArgumentException" (6 : Nat)) ∈ gW := gW_of 193 (by decide +kernel) (by decide +kernel)
theorem k_202 : (Jvm.Cond.methodLink "CoinBag" (135 : Nat) ⟨"java/lang/IllegalArgumentException", "<init>", "(Ljava/lang/String;)V"⟩) ∈ gW := gW_of 202 (by decide +kernel) (by decide +kernel)
theorem k_203 : (Jvm.Cond.instanceMethod ⟨"java/lang/IllegalArgumentException", "<init>", "(Ljava/lang/String;)V"⟩) ∈ gW := gW_of 203 (by decide +kernel) (by decide +kernel)
theorem k_204 : (Jvm.Cond.code ⟨"java/lang/IllegalArgumentException", "<init>", "(Ljava/lang/String;)V"⟩ prog_7_method_2_code (2 : Nat) (Option.none : Option Jvm.ClassFile.FieldType)) ∈ gW := gW_of 204 (by decide +kernel) (by decide +kernel)
theorem k_208 : (Jvm.Cond.methodLink "CoinBag" (34 : Nat) y_Bag_store) ∈ gW := gW_of 208 (by decide +kernel) (by decide +kernel)
theorem k_209 : (Jvm.Cond.instanceMethod y_Bag_store) ∈ gW := gW_of 209 (by decide +kernel) (by decide +kernel)
theorem k_210 : (Jvm.Cond.selects "CoinBag$Bag" y_Bag_store y_Bag_store) ∈ gW := gW_of 210 (by decide +kernel) (by decide +kernel)
theorem k_211 : (Jvm.Cond.code y_Bag_store b_Bag_store (8 : Nat) (Option.some Jvm.ClassFile.FieldType.boolean)) ∈ gW := gW_of 211 (by decide +kernel) (by decide +kernel)
theorem k_212 : (Jvm.Cond.methodLink "CoinBag$Bag" (26 : Nat) y_Bag_placeFor) ∈ gW := gW_of 212 (by decide +kernel) (by decide +kernel)
theorem k_214 : (Jvm.Cond.instanceMethod y_Bag_placeFor) ∈ gW := gW_of 214 (by decide +kernel) (by decide +kernel)
theorem k_215 : (Jvm.Cond.code y_Bag_placeFor b_Bag_placeFor (5 : Nat) (Option.some Jvm.ClassFile.FieldType.int)) ∈ gW := gW_of 215 (by decide +kernel) (by decide +kernel)
theorem k_217 : (Jvm.Cond.static y_CB_orderOf) ∈ gW := gW_of 217 (by decide +kernel) (by decide +kernel)
theorem k_218 : (Jvm.Cond.code y_CB_orderOf b_CB_orderOf (6 : Nat) (Option.some Jvm.ClassFile.FieldType.int)) ∈ gW := gW_of 218 (by decide +kernel) (by decide +kernel)
theorem k_219 : (Jvm.Cond.methodLink "CoinBag" (150 : Nat) y_JI_compare) ∈ gW := gW_of 219 (by decide +kernel) (by decide +kernel)
theorem k_220 : (Jvm.Cond.static y_JI_compare) ∈ gW := gW_of 220 (by decide +kernel) (by decide +kernel)
theorem k_221 : (Jvm.Cond.code y_JI_compare b_JI_compare (2 : Nat) (Option.some Jvm.ClassFile.FieldType.int)) ∈ gW := gW_of 221 (by decide +kernel) (by decide +kernel)
theorem k_222 : (Jvm.Cond.methodLink "CoinBag" (156 : Nat) y_JL_compareUnsigned) ∈ gW := gW_of 222 (by decide +kernel) (by decide +kernel)
theorem k_223 : (Jvm.Cond.static y_JL_compareUnsigned) ∈ gW := gW_of 223 (by decide +kernel) (by decide +kernel)
theorem k_224 : (Jvm.Cond.code y_JL_compareUnsigned b_JL_compareUnsigned (4 : Nat) (Option.some Jvm.ClassFile.FieldType.int)) ∈ gW := gW_of 224 (by decide +kernel) (by decide +kernel)
theorem k_225 : (Jvm.Cond.constantLong "java/lang/Long" (168 : Nat) (-9223372036854775808 : Int64)) ∈ gW := gW_of 225 (by decide +kernel) (by decide +kernel)
theorem k_226 : (Jvm.Cond.methodLink "java/lang/Long" (302 : Nat) y_JL_compare) ∈ gW := gW_of 226 (by decide +kernel) (by decide +kernel)
theorem k_227 : (Jvm.Cond.static y_JL_compare) ∈ gW := gW_of 227 (by decide +kernel) (by decide +kernel)
theorem k_228 : (Jvm.Cond.code y_JL_compare b_JL_compare (4 : Nat) (Option.some Jvm.ClassFile.FieldType.int)) ∈ gW := gW_of 228 (by decide +kernel) (by decide +kernel)
theorem k_229 : (Jvm.Cond.methodLink "CoinBag$Bag" (30 : Nat) y_Bag_holdsAt) ∈ gW := gW_of 229 (by decide +kernel) (by decide +kernel)
theorem k_231 : (Jvm.Cond.instanceMethod y_Bag_holdsAt) ∈ gW := gW_of 231 (by decide +kernel) (by decide +kernel)
theorem k_232 : (Jvm.Cond.code y_Bag_holdsAt b_Bag_holdsAt (5 : Nat) (Option.some Jvm.ClassFile.FieldType.boolean)) ∈ gW := gW_of 232 (by decide +kernel) (by decide +kernel)
theorem k_233 : (Jvm.Cond.methodLink "CoinBag$Bag" (34 : Nat) y_Bag_removeAt) ∈ gW := gW_of 233 (by decide +kernel) (by decide +kernel)
theorem k_235 : (Jvm.Cond.instanceMethod y_Bag_removeAt) ∈ gW := gW_of 235 (by decide +kernel) (by decide +kernel)
theorem k_236 : (Jvm.Cond.code y_Bag_removeAt b_Bag_removeAt (3 : Nat) (Option.none : Option Jvm.ClassFile.FieldType)) ∈ gW := gW_of 236 (by decide +kernel) (by decide +kernel)
theorem k_237 : (Jvm.Cond.methodLink "CoinBag$Bag" (45 : Nat) ⟨"java/lang/System", "arraycopy", "(Ljava/lang/Object;ILjava/lang/Object;II)V"⟩) ∈ gW := gW_of 237 (by decide +kernel) (by decide +kernel)
theorem k_238 : (Jvm.Cond.static ⟨"java/lang/System", "arraycopy", "(Ljava/lang/Object;ILjava/lang/Object;II)V"⟩) ∈ gW := gW_of 238 (by decide +kernel) (by decide +kernel)
theorem k_239 : (Jvm.Cond.native ⟨"java/lang/System", "arraycopy", "(Ljava/lang/Object;ILjava/lang/Object;II)V"⟩) ∈ gW := gW_of 239 (by decide +kernel) (by decide +kernel)
theorem k_240 : (Jvm.Cond.methodLink "CoinBag$Bag" (38 : Nat) y_Bag_makeRoomAt) ∈ gW := gW_of 240 (by decide +kernel) (by decide +kernel)
theorem k_242 : (Jvm.Cond.instanceMethod y_Bag_makeRoomAt) ∈ gW := gW_of 242 (by decide +kernel) (by decide +kernel)
theorem k_243 : (Jvm.Cond.code y_Bag_makeRoomAt b_Bag_makeRoomAt (3 : Nat) (Option.none : Option Jvm.ClassFile.FieldType)) ∈ gW := gW_of 243 (by decide +kernel) (by decide +kernel)
theorem k_244 : (Jvm.Cond.methodLink "CoinBagLaw" (84 : Nat) y_Law_put) ∈ gW := gW_of 244 (by decide +kernel) (by decide +kernel)
theorem k_245 : (Jvm.Cond.static y_Law_put) ∈ gW := gW_of 245 (by decide +kernel) (by decide +kernel)
theorem k_246 : (Jvm.Cond.codeWith y_Law_put b_Law_put (9 : Nat) (Option.some Jvm.ClassFile.FieldType.int) [((0 : Nat), (21 : Nat), (24 : Nat), (13 : Nat)), ((0 : Nat), (21 : Nat), (28 : Nat), (15 : Nat))]) ∈ gW := gW_of 246 (by decide +kernel) (by decide +kernel)
theorem k_247 : (Jvm.Cond.methodLink "CoinBagLaw" (17 : Nat) y_CB_put) ∈ gW := gW_of 247 (by decide +kernel) (by decide +kernel)
theorem k_248 : (Jvm.Cond.instanceMethod y_CB_put) ∈ gW := gW_of 248 (by decide +kernel) (by decide +kernel)
theorem k_249 : (Jvm.Cond.selects "CoinBag" y_CB_put y_CB_put) ∈ gW := gW_of 249 (by decide +kernel) (by decide +kernel)
theorem k_250 : (Jvm.Cond.code y_CB_put b_CB_put (9 : Nat) (Option.some Jvm.ClassFile.FieldType.boolean)) ∈ gW := gW_of 250 (by decide +kernel) (by decide +kernel)
theorem k_251 : (Jvm.Cond.methodLink "CoinBag" (38 : Nat) y_Bag_amountOf) ∈ gW := gW_of 251 (by decide +kernel) (by decide +kernel)
theorem k_252 : (Jvm.Cond.instanceMethod y_Bag_amountOf) ∈ gW := gW_of 252 (by decide +kernel) (by decide +kernel)
theorem k_253 : (Jvm.Cond.selects "CoinBag$Bag" y_Bag_amountOf y_Bag_amountOf) ∈ gW := gW_of 253 (by decide +kernel) (by decide +kernel)
theorem k_254 : (Jvm.Cond.code y_Bag_amountOf b_Bag_amountOf (5 : Nat) (Option.some Jvm.ClassFile.FieldType.long)) ∈ gW := gW_of 254 (by decide +kernel) (by decide +kernel)
theorem k_255 : (Jvm.Cond.methodLink "CoinBag" (42 : Nat) y_CB_sumFits) ∈ gW := gW_of 255 (by decide +kernel) (by decide +kernel)
theorem k_256 : (Jvm.Cond.static y_CB_sumFits) ∈ gW := gW_of 256 (by decide +kernel) (by decide +kernel)
theorem k_257 : (Jvm.Cond.code y_CB_sumFits b_CB_sumFits (4 : Nat) (Option.some Jvm.ClassFile.FieldType.boolean)) ∈ gW := gW_of 257 (by decide +kernel) (by decide +kernel)
theorem k_258 : (Jvm.Cond.constantLong "CoinBag" (99 : Nat) (9223372036854775807 : Int64)) ∈ gW := gW_of 258 (by decide +kernel) (by decide +kernel)
theorem k_259 : (Jvm.Cond.constantLong "CoinBag" (148 : Nat) (-9223372036854775808 : Int64)) ∈ gW := gW_of 259 (by decide +kernel) (by decide +kernel)
theorem k_260 : (Jvm.Cond.methodLink "CoinBagLaw" (87 : Nat) y_Law_sum) ∈ gW := gW_of 260 (by decide +kernel) (by decide +kernel)
theorem k_261 : (Jvm.Cond.static y_Law_sum) ∈ gW := gW_of 261 (by decide +kernel) (by decide +kernel)
theorem k_262 : (Jvm.Cond.codeWith y_Law_sum b_Law_sum (6 : Nat) (Option.some Jvm.ClassFile.FieldType.int) [((0 : Nat), (19 : Nat), (22 : Nat), (13 : Nat))]) ∈ gW := gW_of 262 (by decide +kernel) (by decide +kernel)
theorem k_263 : (Jvm.Cond.methodLink "CoinBagLaw" (20 : Nat) y_CB_sum) ∈ gW := gW_of 263 (by decide +kernel) (by decide +kernel)
theorem k_264 : (Jvm.Cond.instanceMethod y_CB_sum) ∈ gW := gW_of 264 (by decide +kernel) (by decide +kernel)
theorem k_265 : (Jvm.Cond.selects "CoinBag" y_CB_sum y_CB_sum) ∈ gW := gW_of 265 (by decide +kernel) (by decide +kernel)
theorem k_266 : (Jvm.Cond.code y_CB_sum b_CB_sum (4 : Nat) (Option.some Jvm.ClassFile.FieldType.boolean)) ∈ gW := gW_of 266 (by decide +kernel) (by decide +kernel)
theorem k_267 : (Jvm.Cond.methodLink "CoinBag" (46 : Nat) y_CB_combine) ∈ gW := gW_of 267 (by decide +kernel) (by decide +kernel)
theorem k_269 : (Jvm.Cond.instanceMethod y_CB_combine) ∈ gW := gW_of 269 (by decide +kernel) (by decide +kernel)
theorem k_270 : (Jvm.Cond.code y_CB_combine b_CB_combine (10 : Nat) (Option.some Jvm.ClassFile.FieldType.boolean)) ∈ gW := gW_of 270 (by decide +kernel) (by decide +kernel)
theorem k_271 : (Jvm.Cond.methodLink "CoinBag" (86 : Nat) y_Prs_align) ∈ gW := gW_of 271 (by decide +kernel) (by decide +kernel)
theorem k_272 : (Jvm.Cond.instanceMethod y_Prs_align) ∈ gW := gW_of 272 (by decide +kernel) (by decide +kernel)
theorem k_273 : (Jvm.Cond.selects "CoinBag$Pairs" y_Prs_align y_Prs_align) ∈ gW := gW_of 273 (by decide +kernel) (by decide +kernel)
theorem k_274 : (Jvm.Cond.code y_Prs_align b_Prs_align (8 : Nat) (Option.none : Option Jvm.ClassFile.FieldType)) ∈ gW := gW_of 274 (by decide +kernel) (by decide +kernel)
theorem k_275 : (Jvm.Cond.methodLink "CoinBag$Pairs" (32 : Nat) y_Prs_orderOfNext) ∈ gW := gW_of 275 (by decide +kernel) (by decide +kernel)
theorem k_276 : (Jvm.Cond.static y_Prs_orderOfNext) ∈ gW := gW_of 276 (by decide +kernel) (by decide +kernel)
theorem k_277 : (Jvm.Cond.code y_Prs_orderOfNext b_Prs_orderOfNext (4 : Nat) (Option.some Jvm.ClassFile.FieldType.int)) ∈ gW := gW_of 277 (by decide +kernel) (by decide +kernel)
theorem k_279 : (Jvm.Cond.methodLink "CoinBag" (50 : Nat) y_Bag_empty) ∈ gW := gW_of 279 (by decide +kernel) (by decide +kernel)
theorem k_280 : (Jvm.Cond.instanceMethod y_Bag_empty) ∈ gW := gW_of 280 (by decide +kernel) (by decide +kernel)
theorem k_281 : (Jvm.Cond.selects "CoinBag$Bag" y_Bag_empty y_Bag_empty) ∈ gW := gW_of 281 (by decide +kernel) (by decide +kernel)
theorem k_282 : (Jvm.Cond.code y_Bag_empty b_Bag_empty (1 : Nat) (Option.none : Option Jvm.ClassFile.FieldType)) ∈ gW := gW_of 282 (by decide +kernel) (by decide +kernel)
theorem k_283 : (Jvm.Cond.methodLink "CoinBag" (136 : Nat) y_CB_fits) ∈ gW := gW_of 283 (by decide +kernel) (by decide +kernel)
theorem k_284 : (Jvm.Cond.static y_CB_fits) ∈ gW := gW_of 284 (by decide +kernel) (by decide +kernel)
theorem k_285 : (Jvm.Cond.code y_CB_fits b_CB_fits (5 : Nat) (Option.some Jvm.ClassFile.FieldType.boolean)) ∈ gW := gW_of 285 (by decide +kernel) (by decide +kernel)
theorem k_286 : (Jvm.Cond.methodLink "CoinBag" (145 : Nat) y_CB_differenceFits) ∈ gW := gW_of 286 (by decide +kernel) (by decide +kernel)
theorem k_287 : (Jvm.Cond.static y_CB_differenceFits) ∈ gW := gW_of 287 (by decide +kernel) (by decide +kernel)
theorem k_288 : (Jvm.Cond.code y_CB_differenceFits b_CB_differenceFits (4 : Nat) (Option.some Jvm.ClassFile.FieldType.boolean)) ∈ gW := gW_of 288 (by decide +kernel) (by decide +kernel)
theorem k_289 : (Jvm.Cond.methodLink "CoinBag" (141 : Nat) y_CB_combined) ∈ gW := gW_of 289 (by decide +kernel) (by decide +kernel)
theorem k_290 : (Jvm.Cond.static y_CB_combined) ∈ gW := gW_of 290 (by decide +kernel) (by decide +kernel)
theorem k_291 : (Jvm.Cond.code y_CB_combined b_CB_combined (5 : Nat) (Option.some Jvm.ClassFile.FieldType.long)) ∈ gW := gW_of 291 (by decide +kernel) (by decide +kernel)
theorem k_292 : (Jvm.Cond.methodLink "CoinBag" (107 : Nat) y_JM_min) ∈ gW := gW_of 292 (by decide +kernel) (by decide +kernel)
theorem k_293 : (Jvm.Cond.static y_JM_min) ∈ gW := gW_of 293 (by decide +kernel) (by decide +kernel)
theorem k_294 : (Jvm.Cond.code y_JM_min b_JM_min (4 : Nat) (Option.some Jvm.ClassFile.FieldType.long)) ∈ gW := gW_of 294 (by decide +kernel) (by decide +kernel)
theorem k_295 : (Jvm.Cond.methodLink "CoinBag" (71 : Nat) y_Bag_append) ∈ gW := gW_of 295 (by decide +kernel) (by decide +kernel)
theorem k_296 : (Jvm.Cond.instanceMethod y_Bag_append) ∈ gW := gW_of 296 (by decide +kernel) (by decide +kernel)
theorem k_297 : (Jvm.Cond.selects "CoinBag$Bag" y_Bag_append y_Bag_append) ∈ gW := gW_of 297 (by decide +kernel) (by decide +kernel)
theorem k_298 : (Jvm.Cond.code y_Bag_append b_Bag_append (6 : Nat) (Option.some Jvm.ClassFile.FieldType.boolean)) ∈ gW := gW_of 298 (by decide +kernel) (by decide +kernel)
theorem k_299 : (Jvm.Cond.methodLink "CoinBag" (74 : Nat) y_CB_exchangeSpare) ∈ gW := gW_of 299 (by decide +kernel) (by decide +kernel)
theorem k_301 : (Jvm.Cond.instanceMethod y_CB_exchangeSpare) ∈ gW := gW_of 301 (by decide +kernel) (by decide +kernel)
theorem k_302 : (Jvm.Cond.code y_CB_exchangeSpare b_CB_exchangeSpare (3 : Nat) (Option.none : Option Jvm.ClassFile.FieldType)) ∈ gW := gW_of 302 (by decide +kernel) (by decide +kernel)
theorem k_303 : (Jvm.Cond.methodLink "CoinBagLaw" (91 : Nat) y_Law_less) ∈ gW := gW_of 303 (by decide +kernel) (by decide +kernel)
theorem k_304 : (Jvm.Cond.static y_Law_less) ∈ gW := gW_of 304 (by decide +kernel) (by decide +kernel)
theorem k_305 : (Jvm.Cond.codeWith y_Law_less b_Law_less (6 : Nat) (Option.some Jvm.ClassFile.FieldType.int) [((0 : Nat), (19 : Nat), (22 : Nat), (13 : Nat))]) ∈ gW := gW_of 305 (by decide +kernel) (by decide +kernel)
theorem k_306 : (Jvm.Cond.methodLink "CoinBagLaw" (24 : Nat) y_CB_less) ∈ gW := gW_of 306 (by decide +kernel) (by decide +kernel)
theorem k_307 : (Jvm.Cond.instanceMethod y_CB_less) ∈ gW := gW_of 307 (by decide +kernel) (by decide +kernel)
theorem k_308 : (Jvm.Cond.selects "CoinBag" y_CB_less y_CB_less) ∈ gW := gW_of 308 (by decide +kernel) (by decide +kernel)
theorem k_309 : (Jvm.Cond.code y_CB_less b_CB_less (4 : Nat) (Option.some Jvm.ClassFile.FieldType.boolean)) ∈ gW := gW_of 309 (by decide +kernel) (by decide +kernel)
theorem k_310 : (Jvm.Cond.methodLink "CoinBagLaw" (94 : Nat) y_Law_times) ∈ gW := gW_of 310 (by decide +kernel) (by decide +kernel)
theorem k_311 : (Jvm.Cond.static y_Law_times) ∈ gW := gW_of 311 (by decide +kernel) (by decide +kernel)
theorem k_312 : (Jvm.Cond.codeWith y_Law_times b_Law_times (7 : Nat) (Option.some Jvm.ClassFile.FieldType.int) [((0 : Nat), (20 : Nat), (23 : Nat), (13 : Nat))]) ∈ gW := gW_of 312 (by decide +kernel) (by decide +kernel)
theorem k_313 : (Jvm.Cond.methodLink "CoinBagLaw" (27 : Nat) y_CB_times) ∈ gW := gW_of 313 (by decide +kernel) (by decide +kernel)
theorem k_314 : (Jvm.Cond.instanceMethod y_CB_times) ∈ gW := gW_of 314 (by decide +kernel) (by decide +kernel)
theorem k_315 : (Jvm.Cond.selects "CoinBag" y_CB_times y_CB_times) ∈ gW := gW_of 315 (by decide +kernel) (by decide +kernel)
theorem k_316 : (Jvm.Cond.code y_CB_times b_CB_times (7 : Nat) (Option.some Jvm.ClassFile.FieldType.boolean)) ∈ gW := gW_of 316 (by decide +kernel) (by decide +kernel)
theorem k_317 : (Jvm.Cond.methodLink "CoinBag" (61 : Nat) y_CB_productFits) ∈ gW := gW_of 317 (by decide +kernel) (by decide +kernel)
theorem k_318 : (Jvm.Cond.static y_CB_productFits) ∈ gW := gW_of 318 (by decide +kernel) (by decide +kernel)
theorem k_319 : (Jvm.Cond.code y_CB_productFits b_CB_productFits (4 : Nat) (Option.some Jvm.ClassFile.FieldType.boolean)) ∈ gW := gW_of 319 (by decide +kernel) (by decide +kernel)
theorem k_320 : (Jvm.Cond.constantLong "CoinBag" (113 : Nat) (-1 : Int64)) ∈ gW := gW_of 320 (by decide +kernel) (by decide +kernel)
theorem k_321 : (Jvm.Cond.methodLink "CoinBagLaw" (98 : Nat) y_Law_only) ∈ gW := gW_of 321 (by decide +kernel) (by decide +kernel)
theorem k_322 : (Jvm.Cond.static y_Law_only) ∈ gW := gW_of 322 (by decide +kernel) (by decide +kernel)
theorem k_323 : (Jvm.Cond.codeWith y_Law_only b_Law_only (6 : Nat) (Option.some Jvm.ClassFile.FieldType.int) [((0 : Nat), (9 : Nat), (12 : Nat), (13 : Nat)), ((0 : Nat), (9 : Nat), (16 : Nat), (15 : Nat))]) ∈ gW := gW_of 323 (by decide +kernel) (by decide +kernel)
theorem k_324 : (Jvm.Cond.methodLink "CoinBagLaw" (31 : Nat) y_CB_only) ∈ gW := gW_of 324 (by decide +kernel) (by decide +kernel)
theorem k_325 : (Jvm.Cond.instanceMethod y_CB_only) ∈ gW := gW_of 325 (by decide +kernel) (by decide +kernel)
theorem k_326 : (Jvm.Cond.selects "CoinBag" y_CB_only y_CB_only) ∈ gW := gW_of 326 (by decide +kernel) (by decide +kernel)
theorem k_327 : (Jvm.Cond.code y_CB_only b_CB_only (7 : Nat) (Option.none : Option Jvm.ClassFile.FieldType)) ∈ gW := gW_of 327 (by decide +kernel) (by decide +kernel)
theorem k_328 : (Jvm.Cond.methodLink "CoinBagLaw" (102 : Nat) y_Law_part) ∈ gW := gW_of 328 (by decide +kernel) (by decide +kernel)
theorem k_329 : (Jvm.Cond.static y_Law_part) ∈ gW := gW_of 329 (by decide +kernel) (by decide +kernel)
theorem k_330 : (Jvm.Cond.codeWith y_Law_part b_Law_part (6 : Nat) (Option.some Jvm.ClassFile.FieldType.int) [((0 : Nat), (19 : Nat), (22 : Nat), (13 : Nat))]) ∈ gW := gW_of 330 (by decide +kernel) (by decide +kernel)
theorem k_331 : (Jvm.Cond.methodLink "CoinBagLaw" (35 : Nat) y_CB_part) ∈ gW := gW_of 331 (by decide +kernel) (by decide +kernel)
theorem k_332 : (Jvm.Cond.instanceMethod y_CB_part) ∈ gW := gW_of 332 (by decide +kernel) (by decide +kernel)
theorem k_333 : (Jvm.Cond.selects "CoinBag" y_CB_part y_CB_part) ∈ gW := gW_of 333 (by decide +kernel) (by decide +kernel)
theorem k_334 : (Jvm.Cond.code y_CB_part b_CB_part (8 : Nat) (Option.some Jvm.ClassFile.FieldType.boolean)) ∈ gW := gW_of 334 (by decide +kernel) (by decide +kernel)
theorem k_335 : (Jvm.Cond.methodLink "CoinBagLaw" (105 : Nat) y_Law_clear) ∈ gW := gW_of 335 (by decide +kernel) (by decide +kernel)
theorem k_336 : (Jvm.Cond.static y_Law_clear) ∈ gW := gW_of 336 (by decide +kernel) (by decide +kernel)
theorem k_337 : (Jvm.Cond.codeWith y_Law_clear b_Law_clear (3 : Nat) (Option.some Jvm.ClassFile.FieldType.int) [((0 : Nat), (5 : Nat), (8 : Nat), (13 : Nat))]) ∈ gW := gW_of 337 (by decide +kernel) (by decide +kernel)
theorem k_338 : (Jvm.Cond.methodLink "CoinBagLaw" (38 : Nat) y_CB_clear) ∈ gW := gW_of 338 (by decide +kernel) (by decide +kernel)
theorem k_339 : (Jvm.Cond.instanceMethod y_CB_clear) ∈ gW := gW_of 339 (by decide +kernel) (by decide +kernel)
theorem k_340 : (Jvm.Cond.selects "CoinBag" y_CB_clear y_CB_clear) ∈ gW := gW_of 340 (by decide +kernel) (by decide +kernel)
theorem k_341 : (Jvm.Cond.code y_CB_clear b_CB_clear (2 : Nat) (Option.none : Option Jvm.ClassFile.FieldType)) ∈ gW := gW_of 341 (by decide +kernel) (by decide +kernel)
theorem k_342 : (Jvm.Cond.methodLink "CoinBagLaw" (109 : Nat) y_Law_amount) ∈ gW := gW_of 342 (by decide +kernel) (by decide +kernel)
theorem k_343 : (Jvm.Cond.static y_Law_amount) ∈ gW := gW_of 343 (by decide +kernel) (by decide +kernel)
theorem k_344 : (Jvm.Cond.codeWith y_Law_amount b_Law_amount (7 : Nat) (Option.some Jvm.ClassFile.FieldType.int) [((0 : Nat), (11 : Nat), (14 : Nat), (13 : Nat)), ((0 : Nat), (11 : Nat), (18 : Nat), (15 : Nat))]) ∈ gW := gW_of 344 (by decide +kernel) (by decide +kernel)
theorem k_345 : (Jvm.Cond.methodLink "CoinBagLaw" (42 : Nat) y_CB_amount) ∈ gW := gW_of 345 (by decide +kernel) (by decide +kernel)
theorem k_346 : (Jvm.Cond.instanceMethod y_CB_amount) ∈ gW := gW_of 346 (by decide +kernel) (by decide +kernel)
theorem k_347 : (Jvm.Cond.selects "CoinBag" y_CB_amount y_CB_amount) ∈ gW := gW_of 347 (by decide +kernel) (by decide +kernel)
theorem k_348 : (Jvm.Cond.code y_CB_amount b_CB_amount (5 : Nat) (Option.some Jvm.ClassFile.FieldType.long)) ∈ gW := gW_of 348 (by decide +kernel) (by decide +kernel)
theorem k_349 : (Jvm.Cond.methodLink "CoinBagLaw" (113 : Nat) y_Law_size) ∈ gW := gW_of 349 (by decide +kernel) (by decide +kernel)
theorem k_350 : (Jvm.Cond.static y_Law_size) ∈ gW := gW_of 350 (by decide +kernel) (by decide +kernel)
theorem k_351 : (Jvm.Cond.codeWith y_Law_size b_Law_size (4 : Nat) (Option.some Jvm.ClassFile.FieldType.int) [((0 : Nat), (9 : Nat), (12 : Nat), (13 : Nat))]) ∈ gW := gW_of 351 (by decide +kernel) (by decide +kernel)
theorem k_352 : (Jvm.Cond.methodLink "CoinBagLaw" (46 : Nat) y_CB_size) ∈ gW := gW_of 352 (by decide +kernel) (by decide +kernel)
theorem k_353 : (Jvm.Cond.instanceMethod y_CB_size) ∈ gW := gW_of 353 (by decide +kernel) (by decide +kernel)
theorem k_354 : (Jvm.Cond.selects "CoinBag" y_CB_size y_CB_size) ∈ gW := gW_of 354 (by decide +kernel) (by decide +kernel)
theorem k_355 : (Jvm.Cond.code y_CB_size b_CB_size (2 : Nat) (Option.some Jvm.ClassFile.FieldType.int)) ∈ gW := gW_of 355 (by decide +kernel) (by decide +kernel)
theorem k_356 : (Jvm.Cond.methodLink "CoinBagLaw" (117 : Nat) y_Law_at) ∈ gW := gW_of 356 (by decide +kernel) (by decide +kernel)
theorem k_357 : (Jvm.Cond.static y_Law_at) ∈ gW := gW_of 357 (by decide +kernel) (by decide +kernel)
theorem k_358 : (Jvm.Cond.codeWith y_Law_at b_Law_at (6 : Nat) (Option.some Jvm.ClassFile.FieldType.int) [((0 : Nat), (11 : Nat), (14 : Nat), (13 : Nat))]) ∈ gW := gW_of 358 (by decide +kernel) (by decide +kernel)
theorem k_359 : (Jvm.Cond.methodLink "CoinBagLaw" (50 : Nat) y_CB_at) ∈ gW := gW_of 359 (by decide +kernel) (by decide +kernel)
theorem k_360 : (Jvm.Cond.instanceMethod y_CB_at) ∈ gW := gW_of 360 (by decide +kernel) (by decide +kernel)
theorem k_361 : (Jvm.Cond.selects "CoinBag" y_CB_at y_CB_at) ∈ gW := gW_of 361 (by decide +kernel) (by decide +kernel)
theorem k_362 : (Jvm.Cond.code y_CB_at b_CB_at (5 : Nat) (Option.some Jvm.ClassFile.FieldType.long)) ∈ gW := gW_of 362 (by decide +kernel) (by decide +kernel)
theorem k_365 : (Jvm.Cond.methodLink "CoinBagLaw" (120 : Nat) y_Law_compare) ∈ gW := gW_of 365 (by decide +kernel) (by decide +kernel)
theorem k_366 : (Jvm.Cond.static y_Law_compare) ∈ gW := gW_of 366 (by decide +kernel) (by decide +kernel)
theorem k_367 : (Jvm.Cond.codeWith y_Law_compare b_Law_compare (5 : Nat) (Option.some Jvm.ClassFile.FieldType.int) [((0 : Nat), (10 : Nat), (13 : Nat), (13 : Nat))]) ∈ gW := gW_of 367 (by decide +kernel) (by decide +kernel)
theorem k_368 : (Jvm.Cond.methodLink "CoinBagLaw" (54 : Nat) y_CB_compare) ∈ gW := gW_of 368 (by decide +kernel) (by decide +kernel)
theorem k_369 : (Jvm.Cond.instanceMethod y_CB_compare) ∈ gW := gW_of 369 (by decide +kernel) (by decide +kernel)
theorem k_370 : (Jvm.Cond.selects "CoinBag" y_CB_compare y_CB_compare) ∈ gW := gW_of 370 (by decide +kernel) (by decide +kernel)
theorem k_371 : (Jvm.Cond.code y_CB_compare b_CB_compare (6 : Nat) (Option.some Jvm.ClassFile.FieldType.int)) ∈ gW := gW_of 371 (by decide +kernel) (by decide +kernel)
theorem k_372 : (Jvm.Cond.methodLink "CoinBagLaw" (124 : Nat) y_Law_least) ∈ gW := gW_of 372 (by decide +kernel) (by decide +kernel)
theorem k_373 : (Jvm.Cond.static y_Law_least) ∈ gW := gW_of 373 (by decide +kernel) (by decide +kernel)
theorem k_374 : (Jvm.Cond.codeWith y_Law_least b_Law_least (6 : Nat) (Option.some Jvm.ClassFile.FieldType.int) [((0 : Nat), (19 : Nat), (22 : Nat), (13 : Nat))]) ∈ gW := gW_of 374 (by decide +kernel) (by decide +kernel)
theorem k_375 : (Jvm.Cond.methodLink "CoinBagLaw" (58 : Nat) y_CB_least) ∈ gW := gW_of 375 (by decide +kernel) (by decide +kernel)
theorem k_376 : (Jvm.Cond.instanceMethod y_CB_least) ∈ gW := gW_of 376 (by decide +kernel) (by decide +kernel)
theorem k_377 : (Jvm.Cond.selects "CoinBag" y_CB_least y_CB_least) ∈ gW := gW_of 377 (by decide +kernel) (by decide +kernel)
theorem k_378 : (Jvm.Cond.code y_CB_least b_CB_least (4 : Nat) (Option.some Jvm.ClassFile.FieldType.boolean)) ∈ gW := gW_of 378 (by decide +kernel) (by decide +kernel)
theorem k_379 : (Jvm.Cond.methodLink "CoinBagLaw" (127 : Nat) y_Law_into) ∈ gW := gW_of 379 (by decide +kernel) (by decide +kernel)
theorem k_380 : (Jvm.Cond.static y_Law_into) ∈ gW := gW_of 380 (by decide +kernel) (by decide +kernel)
theorem k_381 : (Jvm.Cond.codeWith y_Law_into b_Law_into (5 : Nat) (Option.some Jvm.ClassFile.FieldType.int) [((0 : Nat), (9 : Nat), (12 : Nat), (13 : Nat))]) ∈ gW := gW_of 381 (by decide +kernel) (by decide +kernel)
theorem k_382 : (Jvm.Cond.methodLink "CoinBagLaw" (61 : Nat) y_CB_into) ∈ gW := gW_of 382 (by decide +kernel) (by decide +kernel)
theorem k_383 : (Jvm.Cond.instanceMethod y_CB_into) ∈ gW := gW_of 383 (by decide +kernel) (by decide +kernel)
theorem k_384 : (Jvm.Cond.selects "CoinBag" y_CB_into y_CB_into) ∈ gW := gW_of 384 (by decide +kernel) (by decide +kernel)
theorem k_385 : (Jvm.Cond.code y_CB_into b_CB_into (15 : Nat) (Option.some Jvm.ClassFile.FieldType.long)) ∈ gW := gW_of 385 (by decide +kernel) (by decide +kernel)
theorem k_386 : (Jvm.Cond.methodLink "CoinBag" (101 : Nat) y_JM_floorDiv) ∈ gW := gW_of 386 (by decide +kernel) (by decide +kernel)
theorem k_387 : (Jvm.Cond.static y_JM_floorDiv) ∈ gW := gW_of 387 (by decide +kernel) (by decide +kernel)
theorem k_388 : (Jvm.Cond.code y_JM_floorDiv b_JM_floorDiv (6 : Nat) (Option.some Jvm.ClassFile.FieldType.long)) ∈ gW := gW_of 388 (by decide +kernel) (by decide +kernel)
theorem k_389 : (Jvm.Cond.methodLink "CoinBag" (110 : Nat) y_CB_fewestTimes) ∈ gW := gW_of 389 (by decide +kernel) (by decide +kernel)
theorem k_390 : (Jvm.Cond.static y_CB_fewestTimes) ∈ gW := gW_of 390 (by decide +kernel) (by decide +kernel)
theorem k_391 : (Jvm.Cond.code y_CB_fewestTimes b_CB_fewestTimes (6 : Nat) (Option.some Jvm.ClassFile.FieldType.long)) ∈ gW := gW_of 391 (by decide +kernel) (by decide +kernel)
theorem k_392 : (Jvm.Cond.methodLink "CoinBag" (115 : Nat) y_JM_max) ∈ gW := gW_of 392 (by decide +kernel) (by decide +kernel)
theorem k_393 : (Jvm.Cond.static y_JM_max) ∈ gW := gW_of 393 (by decide +kernel) (by decide +kernel)
theorem k_394 : (Jvm.Cond.code y_JM_max b_JM_max (4 : Nat) (Option.some Jvm.ClassFile.FieldType.long)) ∈ gW := gW_of 394 (by decide +kernel) (by decide +kernel)
theorem k_395 : (Jvm.Cond.methodLink "CoinBagLaw" (130 : Nat) y_Law_look) ∈ gW := gW_of 395 (by decide +kernel) (by decide +kernel)
theorem k_396 : (Jvm.Cond.static y_Law_look) ∈ gW := gW_of 396 (by decide +kernel) (by decide +kernel)
theorem k_397 : (Jvm.Cond.codeWith y_Law_look b_Law_look (5 : Nat) (Option.some Jvm.ClassFile.FieldType.int) [((0 : Nat), (10 : Nat), (13 : Nat), (13 : Nat))]) ∈ gW := gW_of 397 (by decide +kernel) (by decide +kernel)
theorem k_398 : (Jvm.Cond.methodLink "CoinBagLaw" (65 : Nat) y_CB_look) ∈ gW := gW_of 398 (by decide +kernel) (by decide +kernel)
theorem k_399 : (Jvm.Cond.instanceMethod y_CB_look) ∈ gW := gW_of 399 (by decide +kernel) (by decide +kernel)
theorem k_400 : (Jvm.Cond.selects "CoinBag" y_CB_look y_CB_look) ∈ gW := gW_of 400 (by decide +kernel) (by decide +kernel)
theorem k_401 : (Jvm.Cond.code y_CB_look b_CB_look (3 : Nat) (Option.some Jvm.ClassFile.FieldType.int)) ∈ gW := gW_of 401 (by decide +kernel) (by decide +kernel)
theorem k_402 : (Jvm.Cond.methodLink "CoinBag" (118 : Nat) y_Bag_countPolicies) ∈ gW := gW_of 402 (by decide +kernel) (by decide +kernel)
theorem k_403 : (Jvm.Cond.instanceMethod y_Bag_countPolicies) ∈ gW := gW_of 403 (by decide +kernel) (by decide +kernel)
theorem k_404 : (Jvm.Cond.selects "CoinBag$Bag" y_Bag_countPolicies y_Bag_countPolicies) ∈ gW := gW_of 404 (by decide +kernel) (by decide +kernel)
theorem k_405 : (Jvm.Cond.code y_Bag_countPolicies b_Bag_countPolicies (3 : Nat) (Option.some Jvm.ClassFile.FieldType.int)) ∈ gW := gW_of 405 (by decide +kernel) (by decide +kernel)
theorem k_406 : (Jvm.Cond.methodLink "CoinBag" (122 : Nat) y_Bag_countBelowZero) ∈ gW := gW_of 406 (by decide +kernel) (by decide +kernel)
theorem k_407 : (Jvm.Cond.instanceMethod y_Bag_countBelowZero) ∈ gW := gW_of 407 (by decide +kernel) (by decide +kernel)
theorem k_408 : (Jvm.Cond.selects "CoinBag$Bag" y_Bag_countBelowZero y_Bag_countBelowZero) ∈ gW := gW_of 408 (by decide +kernel) (by decide +kernel)
theorem k_409 : (Jvm.Cond.code y_Bag_countBelowZero b_Bag_countBelowZero (3 : Nat) (Option.some Jvm.ClassFile.FieldType.int)) ∈ gW := gW_of 409 (by decide +kernel) (by decide +kernel)
theorem k_410 : (Jvm.Cond.methodLink "CoinBag" (125 : Nat) y_Bag_placeOfGreatest) ∈ gW := gW_of 410 (by decide +kernel) (by decide +kernel)
theorem k_411 : (Jvm.Cond.instanceMethod y_Bag_placeOfGreatest) ∈ gW := gW_of 411 (by decide +kernel) (by decide +kernel)
theorem k_412 : (Jvm.Cond.selects "CoinBag$Bag" y_Bag_placeOfGreatest y_Bag_placeOfGreatest) ∈ gW := gW_of 412 (by decide +kernel) (by decide +kernel)
theorem k_413 : (Jvm.Cond.code y_Bag_placeOfGreatest b_Bag_placeOfGreatest (3 : Nat) (Option.some Jvm.ClassFile.FieldType.int)) ∈ gW := gW_of 413 (by decide +kernel) (by decide +kernel)
theorem k_414 : (Jvm.Cond.classLink "CoinBagLaw" (69 : Nat) "CoinBagModel") ∈ gW := gW_of 414 (by decide +kernel) (by decide +kernel)
theorem k_415 : (Jvm.Cond.instantiable "CoinBagModel" (10 : Nat)) ∈ gW := gW_of 415 (by decide +kernel) (by decide +kernel)
theorem k_416 : (Jvm.Cond.methodLink "CoinBagLaw" (71 : Nat) y_Mod_init) ∈ gW := gW_of 416 (by decide +kernel) (by decide +kernel)
theorem k_417 : (Jvm.Cond.instanceMethod y_Mod_init) ∈ gW := gW_of 417 (by decide +kernel) (by decide +kernel)
theorem k_418 : (Jvm.Cond.code y_Mod_init b_Mod_init (1 : Nat) (Option.none : Option Jvm.ClassFile.FieldType)) ∈ gW := gW_of 418 (by decide +kernel) (by decide +kernel)
theorem k_419 : (Jvm.Cond.methodLink "CoinBagModel" (1 : Nat) ⟨"java/lang/Object", "<init>", "()V"⟩) ∈ gW := gW_of 419 (by decide +kernel) (by decide +kernel)
theorem k_420 : (Jvm.Cond.fieldLink "CoinBagModel" (32 : Nat) "CoinBagModel" "thrown" "I") ∈ gW := gW_of 420 (by decide +kernel) (by decide +kernel)
theorem k_421 : (Jvm.Cond.fieldLink "CoinBagModel" (7 : Nat) "CoinBagModel" "many" "[I") ∈ gW := gW_of 421 (by decide +kernel) (by decide +kernel)
theorem k_422 : (Jvm.Cond.fieldLink "CoinBagModel" (13 : Nat) "CoinBagModel" "policies" "[I") ∈ gW := gW_of 422 (by decide +kernel) (by decide +kernel)
theorem k_423 : (Jvm.Cond.fieldLink "CoinBagModel" (16 : Nat) "CoinBagModel" "names" "[J") ∈ gW := gW_of 423 (by decide +kernel) (by decide +kernel)
theorem k_424 : (Jvm.Cond.fieldLink "CoinBagModel" (20 : Nat) "CoinBagModel" "amounts" "[J") ∈ gW := gW_of 424 (by decide +kernel) (by decide +kernel)
theorem k_425 : (Jvm.Cond.fieldLink "CoinBagModel" (49 : Nat) "CoinBagModel" "rowMany" "I") ∈ gW := gW_of 425 (by decide +kernel) (by decide +kernel)
theorem k_426 : (Jvm.Cond.fieldLink "CoinBagModel" (23 : Nat) "CoinBagModel" "rowPolicies" "[I") ∈ gW := gW_of 426 (by decide +kernel) (by decide +kernel)
theorem k_427 : (Jvm.Cond.fieldLink "CoinBagModel" (26 : Nat) "CoinBagModel" "rowNames" "[J") ∈ gW := gW_of 427 (by decide +kernel) (by decide +kernel)
theorem k_428 : (Jvm.Cond.fieldLink "CoinBagModel" (29 : Nat) "CoinBagModel" "rowAmounts" "[J") ∈ gW := gW_of 428 (by decide +kernel) (by decide +kernel)
theorem k_429 : (Jvm.Cond.fieldLink "CoinBagModel" (52 : Nat) "CoinBagModel" "bad" "Z") ∈ gW := gW_of 429 (by decide +kernel) (by decide +kernel)
theorem k_430 : (Jvm.Cond.lays "CoinBagModel" "CoinBagModel" "thrown" "I") ∈ gW := gW_of 430 (by decide +kernel) (by decide +kernel)
theorem k_432 : (Jvm.Cond.laysFinal "CoinBagModel" "CoinBagModel" "many" "[I") ∈ gW := gW_of 432 (by decide +kernel) (by decide +kernel)
theorem k_434 : (Jvm.Cond.laysFinal "CoinBagModel" "CoinBagModel" "policies" "[I") ∈ gW := gW_of 434 (by decide +kernel) (by decide +kernel)
theorem k_436 : (Jvm.Cond.laysFinal "CoinBagModel" "CoinBagModel" "names" "[J") ∈ gW := gW_of 436 (by decide +kernel) (by decide +kernel)
theorem k_438 : (Jvm.Cond.laysFinal "CoinBagModel" "CoinBagModel" "amounts" "[J") ∈ gW := gW_of 438 (by decide +kernel) (by decide +kernel)
theorem k_440 : (Jvm.Cond.lays "CoinBagModel" "CoinBagModel" "rowMany" "I") ∈ gW := gW_of 440 (by decide +kernel) (by decide +kernel)
theorem k_442 : (Jvm.Cond.laysFinal "CoinBagModel" "CoinBagModel" "rowPolicies" "[I") ∈ gW := gW_of 442 (by decide +kernel) (by decide +kernel)
theorem k_444 : (Jvm.Cond.laysFinal "CoinBagModel" "CoinBagModel" "rowNames" "[J") ∈ gW := gW_of 444 (by decide +kernel) (by decide +kernel)
theorem k_446 : (Jvm.Cond.laysFinal "CoinBagModel" "CoinBagModel" "rowAmounts" "[J") ∈ gW := gW_of 446 (by decide +kernel) (by decide +kernel)
theorem k_448 : (Jvm.Cond.lays "CoinBagModel" "CoinBagModel" "bad" "Z") ∈ gW := gW_of 448 (by decide +kernel) (by decide +kernel)
theorem k_451 : (Jvm.Cond.methodLink "CoinBagLaw" (80 : Nat) y_Mod_thrown) ∈ gW := gW_of 451 (by decide +kernel) (by decide +kernel)
theorem k_452 : (Jvm.Cond.instanceMethod y_Mod_thrown) ∈ gW := gW_of 452 (by decide +kernel) (by decide +kernel)
theorem k_453 : (Jvm.Cond.selects "CoinBagModel" y_Mod_thrown y_Mod_thrown) ∈ gW := gW_of 453 (by decide +kernel) (by decide +kernel)
theorem k_454 : (Jvm.Cond.code y_Mod_thrown b_Mod_thrown (1 : Nat) (Option.some Jvm.ClassFile.FieldType.int)) ∈ gW := gW_of 454 (by decide +kernel) (by decide +kernel)
theorem k_455 : (Jvm.Cond.methodLink "CoinBagLaw" (79 : Nat) y_Mod_set) ∈ gW := gW_of 455 (by decide +kernel) (by decide +kernel)
theorem k_456 : (Jvm.Cond.instanceMethod y_Mod_set) ∈ gW := gW_of 456 (by decide +kernel) (by decide +kernel)
theorem k_457 : (Jvm.Cond.selects "CoinBagModel" y_Mod_set y_Mod_set) ∈ gW := gW_of 457 (by decide +kernel) (by decide +kernel)
theorem k_458 : (Jvm.Cond.code y_Mod_set b_Mod_set (7 : Nat) (Option.some Jvm.ClassFile.FieldType.boolean)) ∈ gW := gW_of 458 (by decide +kernel) (by decide +kernel)
theorem k_459 : (Jvm.Cond.methodLink "CoinBagModel" (85 : Nat) y_Mod_wrong) ∈ gW := gW_of 459 (by decide +kernel) (by decide +kernel)
theorem k_461 : (Jvm.Cond.instanceMethod y_Mod_wrong) ∈ gW := gW_of 461 (by decide +kernel) (by decide +kernel)
theorem k_462 : (Jvm.Cond.code y_Mod_wrong b_Mod_wrong (5 : Nat) (Option.some Jvm.ClassFile.FieldType.int)) ∈ gW := gW_of 462 (by decide +kernel) (by decide +kernel)
theorem k_463 : (Jvm.Cond.methodLink "CoinBagModel" (78 : Nat) y_Mod_isBag) ∈ gW := gW_of 463 (by decide +kernel) (by decide +kernel)
theorem k_464 : (Jvm.Cond.static y_Mod_isBag) ∈ gW := gW_of 464 (by decide +kernel) (by decide +kernel)
theorem k_465 : (Jvm.Cond.code y_Mod_isBag b_Mod_isBag (1 : Nat) (Option.some Jvm.ClassFile.FieldType.boolean)) ∈ gW := gW_of 465 (by decide +kernel) (by decide +kernel)
theorem k_466 : (Jvm.Cond.methodLink "CoinBagModel" (82 : Nat) y_Mod_isPolicy) ∈ gW := gW_of 466 (by decide +kernel) (by decide +kernel)
theorem k_467 : (Jvm.Cond.static y_Mod_isPolicy) ∈ gW := gW_of 467 (by decide +kernel) (by decide +kernel)
theorem k_468 : (Jvm.Cond.code y_Mod_isPolicy b_Mod_isPolicy (1 : Nat) (Option.some Jvm.ClassFile.FieldType.boolean)) ∈ gW := gW_of 468 (by decide +kernel) (by decide +kernel)
theorem k_469 : (Jvm.Cond.constant "CoinBagModel" (36 : Nat) (65536 : Int32)) ∈ gW := gW_of 469 (by decide +kernel) (by decide +kernel)
theorem k_470 : (Jvm.Cond.methodLink "CoinBagModel" (89 : Nat) y_Mod_store) ∈ gW := gW_of 470 (by decide +kernel) (by decide +kernel)
theorem k_472 : (Jvm.Cond.instanceMethod y_Mod_store) ∈ gW := gW_of 472 (by decide +kernel) (by decide +kernel)
theorem k_473 : (Jvm.Cond.code y_Mod_store b_Mod_store (10 : Nat) (Option.some Jvm.ClassFile.FieldType.boolean)) ∈ gW := gW_of 473 (by decide +kernel) (by decide +kernel)
theorem k_474 : (Jvm.Cond.methodLink "CoinBagModel" (37 : Nat) y_Mod_find) ∈ gW := gW_of 474 (by decide +kernel) (by decide +kernel)
theorem k_476 : (Jvm.Cond.instanceMethod y_Mod_find) ∈ gW := gW_of 476 (by decide +kernel) (by decide +kernel)
theorem k_477 : (Jvm.Cond.code y_Mod_find b_Mod_find (6 : Nat) (Option.some Jvm.ClassFile.FieldType.int)) ∈ gW := gW_of 477 (by decide +kernel) (by decide +kernel)
theorem k_478 : (Jvm.Cond.methodLink "CoinBagLaw" (86 : Nat) y_Mod_put) ∈ gW := gW_of 478 (by decide +kernel) (by decide +kernel)
theorem k_479 : (Jvm.Cond.instanceMethod y_Mod_put) ∈ gW := gW_of 479 (by decide +kernel) (by decide +kernel)
theorem k_480 : (Jvm.Cond.selects "CoinBagModel" y_Mod_put y_Mod_put) ∈ gW := gW_of 480 (by decide +kernel) (by decide +kernel)
theorem k_481 : (Jvm.Cond.code y_Mod_put b_Mod_put (9 : Nat) (Option.some Jvm.ClassFile.FieldType.boolean)) ∈ gW := gW_of 481 (by decide +kernel) (by decide +kernel)
theorem k_482 : (Jvm.Cond.methodLink "CoinBagModel" (63 : Nat) y_Mod_valueOf) ∈ gW := gW_of 482 (by decide +kernel) (by decide +kernel)
theorem k_484 : (Jvm.Cond.instanceMethod y_Mod_valueOf) ∈ gW := gW_of 484 (by decide +kernel) (by decide +kernel)
theorem k_485 : (Jvm.Cond.code y_Mod_valueOf b_Mod_valueOf (6 : Nat) (Option.some Jvm.ClassFile.FieldType.long)) ∈ gW := gW_of 485 (by decide +kernel) (by decide +kernel)
theorem k_486 : (Jvm.Cond.methodLink "CoinBagModel" (67 : Nat) y_Mod_added) ∈ gW := gW_of 486 (by decide +kernel) (by decide +kernel)
theorem k_488 : (Jvm.Cond.instanceMethod y_Mod_added) ∈ gW := gW_of 488 (by decide +kernel) (by decide +kernel)
theorem k_489 : (Jvm.Cond.code y_Mod_added b_Mod_added (5 : Nat) (Option.some Jvm.ClassFile.FieldType.long)) ∈ gW := gW_of 489 (by decide +kernel) (by decide +kernel)
theorem k_490 : (Jvm.Cond.constantLong "CoinBagModel" (56 : Nat) (9223372036854775807 : Int64)) ∈ gW := gW_of 490 (by decide +kernel) (by decide +kernel)
theorem k_491 : (Jvm.Cond.constantLong "CoinBagModel" (43 : Nat) (-9223372036854775808 : Int64)) ∈ gW := gW_of 491 (by decide +kernel) (by decide +kernel)
theorem k_492 : (Jvm.Cond.methodLink "CoinBagLaw" (90 : Nat) y_Mod_sum) ∈ gW := gW_of 492 (by decide +kernel) (by decide +kernel)
theorem k_493 : (Jvm.Cond.instanceMethod y_Mod_sum) ∈ gW := gW_of 493 (by decide +kernel) (by decide +kernel)
theorem k_494 : (Jvm.Cond.selects "CoinBagModel" y_Mod_sum y_Mod_sum) ∈ gW := gW_of 494 (by decide +kernel) (by decide +kernel)
theorem k_495 : (Jvm.Cond.code y_Mod_sum b_Mod_sum (4 : Nat) (Option.some Jvm.ClassFile.FieldType.boolean)) ∈ gW := gW_of 495 (by decide +kernel) (by decide +kernel)
theorem k_496 : (Jvm.Cond.methodLink "CoinBagModel" (93 : Nat) y_Mod_both) ∈ gW := gW_of 496 (by decide +kernel) (by decide +kernel)
theorem k_498 : (Jvm.Cond.instanceMethod y_Mod_both) ∈ gW := gW_of 498 (by decide +kernel) (by decide +kernel)
theorem k_499 : (Jvm.Cond.code y_Mod_both b_Mod_both (14 : Nat) (Option.none : Option Jvm.ClassFile.FieldType)) ∈ gW := gW_of 499 (by decide +kernel) (by decide +kernel)
theorem k_500 : (Jvm.Cond.methodLink "CoinBagModel" (60 : Nat) y_Mod_begin) ∈ gW := gW_of 500 (by decide +kernel) (by decide +kernel)
theorem k_502 : (Jvm.Cond.instanceMethod y_Mod_begin) ∈ gW := gW_of 502 (by decide +kernel) (by decide +kernel)
theorem k_503 : (Jvm.Cond.code y_Mod_begin b_Mod_begin (1 : Nat) (Option.none : Option Jvm.ClassFile.FieldType)) ∈ gW := gW_of 503 (by decide +kernel) (by decide +kernel)
theorem k_504 : (Jvm.Cond.methodLink "CoinBagModel" (71 : Nat) y_Mod_subtracted) ∈ gW := gW_of 504 (by decide +kernel) (by decide +kernel)
theorem k_506 : (Jvm.Cond.instanceMethod y_Mod_subtracted) ∈ gW := gW_of 506 (by decide +kernel) (by decide +kernel)
theorem k_507 : (Jvm.Cond.code y_Mod_subtracted b_Mod_subtracted (5 : Nat) (Option.some Jvm.ClassFile.FieldType.long)) ∈ gW := gW_of 507 (by decide +kernel) (by decide +kernel)
theorem k_508 : (Jvm.Cond.methodLink "CoinBagModel" (74 : Nat) y_Mod_lay) ∈ gW := gW_of 508 (by decide +kernel) (by decide +kernel)
theorem k_510 : (Jvm.Cond.instanceMethod y_Mod_lay) ∈ gW := gW_of 510 (by decide +kernel) (by decide +kernel)
theorem k_511 : (Jvm.Cond.code y_Mod_lay b_Mod_lay (6 : Nat) (Option.none : Option Jvm.ClassFile.FieldType)) ∈ gW := gW_of 511 (by decide +kernel) (by decide +kernel)
theorem k_512 : (Jvm.Cond.methodLink "CoinBagModel" (97 : Nat) y_Mod_becomes) ∈ gW := gW_of 512 (by decide +kernel) (by decide +kernel)
theorem k_514 : (Jvm.Cond.instanceMethod y_Mod_becomes) ∈ gW := gW_of 514 (by decide +kernel) (by decide +kernel)
theorem k_515 : (Jvm.Cond.code y_Mod_becomes b_Mod_becomes (3 : Nat) (Option.some Jvm.ClassFile.FieldType.boolean)) ∈ gW := gW_of 515 (by decide +kernel) (by decide +kernel)
theorem k_516 : (Jvm.Cond.methodLink "CoinBagLaw" (93 : Nat) y_Mod_less) ∈ gW := gW_of 516 (by decide +kernel) (by decide +kernel)
theorem k_517 : (Jvm.Cond.instanceMethod y_Mod_less) ∈ gW := gW_of 517 (by decide +kernel) (by decide +kernel)
theorem k_518 : (Jvm.Cond.selects "CoinBagModel" y_Mod_less y_Mod_less) ∈ gW := gW_of 518 (by decide +kernel) (by decide +kernel)
theorem k_519 : (Jvm.Cond.code y_Mod_less b_Mod_less (4 : Nat) (Option.some Jvm.ClassFile.FieldType.boolean)) ∈ gW := gW_of 519 (by decide +kernel) (by decide +kernel)
theorem k_520 : (Jvm.Cond.methodLink "CoinBagLaw" (97 : Nat) y_Mod_times) ∈ gW := gW_of 520 (by decide +kernel) (by decide +kernel)
theorem k_521 : (Jvm.Cond.instanceMethod y_Mod_times) ∈ gW := gW_of 521 (by decide +kernel) (by decide +kernel)
theorem k_522 : (Jvm.Cond.selects "CoinBagModel" y_Mod_times y_Mod_times) ∈ gW := gW_of 522 (by decide +kernel) (by decide +kernel)
theorem k_523 : (Jvm.Cond.code y_Mod_times b_Mod_times (6 : Nat) (Option.some Jvm.ClassFile.FieldType.boolean)) ∈ gW := gW_of 523 (by decide +kernel) (by decide +kernel)
theorem k_524 : (Jvm.Cond.methodLink "CoinBagModel" (100 : Nat) y_Mod_multiplied) ∈ gW := gW_of 524 (by decide +kernel) (by decide +kernel)
theorem k_526 : (Jvm.Cond.instanceMethod y_Mod_multiplied) ∈ gW := gW_of 526 (by decide +kernel) (by decide +kernel)
theorem k_527 : (Jvm.Cond.code y_Mod_multiplied b_Mod_multiplied (6 : Nat) (Option.some Jvm.ClassFile.FieldType.long)) ∈ gW := gW_of 527 (by decide +kernel) (by decide +kernel)
theorem k_528 : (Jvm.Cond.constantLong "CoinBagModel" (58 : Nat) (-1 : Int64)) ∈ gW := gW_of 528 (by decide +kernel) (by decide +kernel)
theorem k_529 : (Jvm.Cond.methodLink "CoinBagLaw" (101 : Nat) y_Mod_only) ∈ gW := gW_of 529 (by decide +kernel) (by decide +kernel)
theorem k_530 : (Jvm.Cond.instanceMethod y_Mod_only) ∈ gW := gW_of 530 (by decide +kernel) (by decide +kernel)
theorem k_531 : (Jvm.Cond.selects "CoinBagModel" y_Mod_only y_Mod_only) ∈ gW := gW_of 531 (by decide +kernel) (by decide +kernel)
theorem k_532 : (Jvm.Cond.code y_Mod_only b_Mod_only (6 : Nat) (Option.none : Option Jvm.ClassFile.FieldType)) ∈ gW := gW_of 532 (by decide +kernel) (by decide +kernel)
theorem k_533 : (Jvm.Cond.methodLink "CoinBagLaw" (104 : Nat) y_Mod_part) ∈ gW := gW_of 533 (by decide +kernel) (by decide +kernel)
theorem k_534 : (Jvm.Cond.instanceMethod y_Mod_part) ∈ gW := gW_of 534 (by decide +kernel) (by decide +kernel)
theorem k_535 : (Jvm.Cond.selects "CoinBagModel" y_Mod_part y_Mod_part) ∈ gW := gW_of 535 (by decide +kernel) (by decide +kernel)
theorem k_536 : (Jvm.Cond.code y_Mod_part b_Mod_part (5 : Nat) (Option.some Jvm.ClassFile.FieldType.boolean)) ∈ gW := gW_of 536 (by decide +kernel) (by decide +kernel)
theorem k_537 : (Jvm.Cond.methodLink "CoinBagLaw" (108 : Nat) y_Mod_clear) ∈ gW := gW_of 537 (by decide +kernel) (by decide +kernel)
theorem k_538 : (Jvm.Cond.instanceMethod y_Mod_clear) ∈ gW := gW_of 538 (by decide +kernel) (by decide +kernel)
theorem k_539 : (Jvm.Cond.selects "CoinBagModel" y_Mod_clear y_Mod_clear) ∈ gW := gW_of 539 (by decide +kernel) (by decide +kernel)
theorem k_540 : (Jvm.Cond.code y_Mod_clear b_Mod_clear (2 : Nat) (Option.none : Option Jvm.ClassFile.FieldType)) ∈ gW := gW_of 540 (by decide +kernel) (by decide +kernel)
theorem k_541 : (Jvm.Cond.methodLink "CoinBagLaw" (126 : Nat) y_Mod_least) ∈ gW := gW_of 541 (by decide +kernel) (by decide +kernel)
theorem k_542 : (Jvm.Cond.instanceMethod y_Mod_least) ∈ gW := gW_of 542 (by decide +kernel) (by decide +kernel)
theorem k_543 : (Jvm.Cond.selects "CoinBagModel" y_Mod_least y_Mod_least) ∈ gW := gW_of 543 (by decide +kernel) (by decide +kernel)
theorem k_544 : (Jvm.Cond.code y_Mod_least b_Mod_least (4 : Nat) (Option.some Jvm.ClassFile.FieldType.boolean)) ∈ gW := gW_of 544 (by decide +kernel) (by decide +kernel)
theorem k_545 : (Jvm.Cond.methodLink "CoinBagLaw" (112 : Nat) y_Mod_amount) ∈ gW := gW_of 545 (by decide +kernel) (by decide +kernel)
theorem k_546 : (Jvm.Cond.instanceMethod y_Mod_amount) ∈ gW := gW_of 546 (by decide +kernel) (by decide +kernel)
theorem k_547 : (Jvm.Cond.selects "CoinBagModel" y_Mod_amount y_Mod_amount) ∈ gW := gW_of 547 (by decide +kernel) (by decide +kernel)
theorem k_548 : (Jvm.Cond.code y_Mod_amount b_Mod_amount (5 : Nat) (Option.some Jvm.ClassFile.FieldType.long)) ∈ gW := gW_of 548 (by decide +kernel) (by decide +kernel)
theorem k_549 : (Jvm.Cond.methodLink "CoinBagLaw" (116 : Nat) y_Mod_size) ∈ gW := gW_of 549 (by decide +kernel) (by decide +kernel)
theorem k_550 : (Jvm.Cond.instanceMethod y_Mod_size) ∈ gW := gW_of 550 (by decide +kernel) (by decide +kernel)
theorem k_551 : (Jvm.Cond.selects "CoinBagModel" y_Mod_size y_Mod_size) ∈ gW := gW_of 551 (by decide +kernel) (by decide +kernel)
theorem k_552 : (Jvm.Cond.code y_Mod_size b_Mod_size (2 : Nat) (Option.some Jvm.ClassFile.FieldType.int)) ∈ gW := gW_of 552 (by decide +kernel) (by decide +kernel)
theorem k_553 : (Jvm.Cond.methodLink "CoinBagLaw" (119 : Nat) y_Mod_at) ∈ gW := gW_of 553 (by decide +kernel) (by decide +kernel)
theorem k_554 : (Jvm.Cond.instanceMethod y_Mod_at) ∈ gW := gW_of 554 (by decide +kernel) (by decide +kernel)
theorem k_555 : (Jvm.Cond.selects "CoinBagModel" y_Mod_at y_Mod_at) ∈ gW := gW_of 555 (by decide +kernel) (by decide +kernel)
theorem k_556 : (Jvm.Cond.code y_Mod_at b_Mod_at (5 : Nat) (Option.some Jvm.ClassFile.FieldType.long)) ∈ gW := gW_of 556 (by decide +kernel) (by decide +kernel)
theorem k_557 : (Jvm.Cond.methodLink "CoinBagModel" (103 : Nat) y_Mod_inOrder) ∈ gW := gW_of 557 (by decide +kernel) (by decide +kernel)
theorem k_559 : (Jvm.Cond.instanceMethod y_Mod_inOrder) ∈ gW := gW_of 559 (by decide +kernel) (by decide +kernel)
theorem k_560 : (Jvm.Cond.code y_Mod_inOrder b_Mod_inOrder (7 : Nat) (Option.some Jvm.ClassFile.FieldType.int)) ∈ gW := gW_of 560 (by decide +kernel) (by decide +kernel)
theorem k_561 : (Jvm.Cond.methodLink "CoinBagModel" (45 : Nat) y_Mod_isBefore) ∈ gW := gW_of 561 (by decide +kernel) (by decide +kernel)
theorem k_563 : (Jvm.Cond.instanceMethod y_Mod_isBefore) ∈ gW := gW_of 563 (by decide +kernel) (by decide +kernel)
theorem k_564 : (Jvm.Cond.code y_Mod_isBefore b_Mod_isBefore (6 : Nat) (Option.some Jvm.ClassFile.FieldType.boolean)) ∈ gW := gW_of 564 (by decide +kernel) (by decide +kernel)
theorem k_565 : (Jvm.Cond.methodLink "CoinBagLaw" (123 : Nat) y_Mod_compare) ∈ gW := gW_of 565 (by decide +kernel) (by decide +kernel)
theorem k_566 : (Jvm.Cond.instanceMethod y_Mod_compare) ∈ gW := gW_of 566 (by decide +kernel) (by decide +kernel)
theorem k_567 : (Jvm.Cond.selects "CoinBagModel" y_Mod_compare y_Mod_compare) ∈ gW := gW_of 567 (by decide +kernel) (by decide +kernel)
theorem k_568 : (Jvm.Cond.code y_Mod_compare b_Mod_compare (12 : Nat) (Option.some Jvm.ClassFile.FieldType.int)) ∈ gW := gW_of 568 (by decide +kernel) (by decide +kernel)
theorem k_569 : (Jvm.Cond.methodLink "CoinBagLaw" (129 : Nat) y_Mod_into) ∈ gW := gW_of 569 (by decide +kernel) (by decide +kernel)
theorem k_570 : (Jvm.Cond.instanceMethod y_Mod_into) ∈ gW := gW_of 570 (by decide +kernel) (by decide +kernel)
theorem k_571 : (Jvm.Cond.selects "CoinBagModel" y_Mod_into y_Mod_into) ∈ gW := gW_of 571 (by decide +kernel) (by decide +kernel)
theorem k_572 : (Jvm.Cond.code y_Mod_into b_Mod_into (18 : Nat) (Option.some Jvm.ClassFile.FieldType.long)) ∈ gW := gW_of 572 (by decide +kernel) (by decide +kernel)
theorem k_573 : (Jvm.Cond.methodLink "CoinBagLaw" (132 : Nat) y_Mod_look) ∈ gW := gW_of 573 (by decide +kernel) (by decide +kernel)
theorem k_574 : (Jvm.Cond.instanceMethod y_Mod_look) ∈ gW := gW_of 574 (by decide +kernel) (by decide +kernel)
theorem k_575 : (Jvm.Cond.selects "CoinBagModel" y_Mod_look y_Mod_look) ∈ gW := gW_of 575 (by decide +kernel) (by decide +kernel)
theorem k_576 : (Jvm.Cond.code y_Mod_look b_Mod_look (9 : Nat) (Option.some Jvm.ClassFile.FieldType.int)) ∈ gW := gW_of 576 (by decide +kernel) (by decide +kernel)
theorem k_577 : (Jvm.Cond.constantLong "CoinBagLaw" (72 : Nat) (4294967295 : Int64)) ∈ gW := gW_of 577 (by decide +kernel) (by decide +kernel)
end
section
/-! KINDS as numbers; enumerations of a BAG's KINDS; counting. Pure rows: no machine here. -/
def kv (p : Int32) (n : Int64) : Int := p.toInt * 18446744073709551616 + (n + (-9223372036854775808)).toInt
theorem kv_lt {p q : Int32} {n m : Int64} : kv p n < kv q m ↔ (p < q ∨ (p = q ∧ n + (-9223372036854775808) < m + (-9223372036854775808))) := by
  have a := (n + (-9223372036854775808)).toInt_lt
  have b := (n + (-9223372036854775808)).le_toInt
  have a' := (m + (-9223372036854775808)).toInt_lt
  have b' := (m + (-9223372036854775808)).le_toInt
  rw [Int32.lt_iff_toInt_lt, Int64.lt_iff_toInt_lt, ← Int32.toInt_inj]
  unfold kv
  omega
theorem kv_inj {p q : Int32} {n m : Int64} : kv p n = kv q m ↔ (p = q ∧ n = m) := by
  constructor
  · intro h
    have a := (n + (-9223372036854775808)).toInt_lt
    have b := (n + (-9223372036854775808)).le_toInt
    have a' := (m + (-9223372036854775808)).toInt_lt
    have b' := (m + (-9223372036854775808)).le_toInt
    have h1 : p.toInt = q.toInt := by unfold kv at h; omega
    have h2 : (n + (-9223372036854775808)).toInt = (m + (-9223372036854775808)).toInt := by unfold kv at h; omega
    exact ⟨Int32.toInt_inj.mp h1, (Int64.add_left_inj _).mp (Int64.toInt_inj.mp h2)⟩
  · rintro ⟨rfl, rfl⟩
    rfl
def eI (c : Nat) (k : Nat → Int) : Prop := ∀ i j, i < c → j < c → k i = k j → i = j
def eS (c : Nat) (k : Nat → Int) : Prop := ∀ i j, i < j → j < c → k i < k j
def eF (c : Nat) (k : Nat → Int) (F : Int → Int64) : Prop := (∀ i, i < c → ¬ F (k i) = 0) ∧ ∀ x, ¬ F x = 0 → ∃ i, i < c ∧ k i = x
/-- at most 64 KINDS -/
def eC (F : Int → Int64) : Prop := ∃ (c : Nat) (k : Nat → Int), c ≤ 64 ∧ ∀ x, ¬ F x = 0 → ∃ i, i < c ∧ k i = x
theorem eS_I {c : Nat} {k : Nat → Int} (h : eS c k) : eI c k := by
  intro i j hi hj e
  rcases Nat.lt_trichotomy i j with q | q | q
  · exact absurd (h i j q hj) (by omega)
  · exact q
  · exact absurd (h j i q hi) (by omega)
theorem eS_lt {c : Nat} {k : Nat → Int} (h : eS c k) {i j : Nat} (hi : i < c) (hj : j < c) (e : k i < k j) : i < j := by
  rcases Nat.lt_trichotomy i j with q | q | q
  · exact q
  · subst q
    omega
  · have := h j i q hi
    omega
theorem pig (d : Nat) : ∀ (c : Nat) (f g : Nat → Int), eI c f → (∀ i, i < c → ∃ j, j < d ∧ f i = g j) → c ≤ d := by
  induction d with
  | zero =>
    intro c f g _ h
    cases c with
    | zero => exact Nat.le_refl _
    | succ c =>
      obtain ⟨j, hj, -⟩ := h 0 (by omega)
      omega
  | succ d ih =>
    intro c f g hi h
    by_cases hx : ∃ a, a < c ∧ f a = g d
    · obtain ⟨a, ha, ea⟩ := hx
      obtain ⟨c', rfl⟩ : ∃ c', c = c' + 1 := ⟨c - 1, by omega⟩
      have key : c' ≤ d := by
        refine ih c' (fun i => if i = a then f c' else f i) g ?_ ?_
        · intro i j h1 h2 e
          have e : (if i = a then f c' else f i) = (if j = a then f c' else f j) := e
          by_cases p : i = a <;> by_cases q : j = a
          · omega
          · rw [if_pos p, if_neg q] at e
            have := hi c' j (by omega) (by omega) e
            omega
          · rw [if_neg p, if_pos q] at e
            have := hi i c' (by omega) (by omega) e
            omega
          · rw [if_neg p, if_neg q] at e
            exact hi i j (by omega) (by omega) e
        · intro i h1
          show ∃ j, j < d ∧ (if i = a then f c' else f i) = g j
          by_cases p : i = a
          · rw [if_pos p]
            obtain ⟨j, hj, ej⟩ := h c' (by omega)
            by_cases q : j = d
            · subst q
              have := hi c' a (by omega) ha (ej.trans ea.symm)
              omega
            · exact ⟨j, by omega, ej⟩
          · rw [if_neg p]
            obtain ⟨j, hj, ej⟩ := h i (by omega)
            by_cases q : j = d
            · subst q
              exact absurd (hi i a (by omega) ha (ej.trans ea.symm)) p
            · exact ⟨j, by omega, ej⟩
      omega
    · have := ih c f g hi (fun i h1 => by
        obtain ⟨j, hj, ej⟩ := h i h1
        by_cases q : j = d
        · subst q
          exact absurd ⟨i, h1, ej⟩ hx
        · exact ⟨j, by omega, ej⟩)
      omega
theorem card_le {c d : Nat} {k k' : Nat → Int} {F : Int → Int64} (h1 : eI c k) (h2 : ∀ i, i < c → ¬ F (k i) = 0) (h3 : ∀ x, ¬ F x = 0 → ∃ i, i < d ∧ k' i = x) : c ≤ d :=
  pig d c k k' h1 (fun i hi => by
    obtain ⟨j, hj, e⟩ := h3 (k i) (h2 i hi)
    exact ⟨j, hj, e.symm⟩)
theorem card_eq {c d : Nat} {k k' : Nat → Int} {F : Int → Int64} (h1 : eI c k) (h2 : eF c k F) (h3 : eI d k') (h4 : eF d k' F) : c = d := by
  have a := card_le h1 h2.1 h4.2
  have b := card_le h3 h4.1 h2.2
  omega
theorem eC_not {c : Nat} {k : Nat → Int} {F : Int → Int64} (h1 : eI c k) (h2 : ∀ i, i < c → ¬ F (k i) = 0) (hc : 64 < c) : ¬ eC F := by
  rintro ⟨d, k', hd, h3⟩
  have := card_le h1 h2 h3
  omega
theorem eC_of {c : Nat} {k : Nat → Int} {F : Int → Int64} (h : ∀ x, ¬ F x = 0 → ∃ i, i < c ∧ k i = x) (hc : c ≤ 64) : eC F := ⟨c, k, hc, h⟩
/-- two sorted enumerations of one BAG are one -/
theorem sort_eq {c : Nat} {k k' : Nat → Int} {F : Int → Int64} (h1 : eS c k) (h2 : eF c k F) (h3 : eS c k') (h4 : eF c k' F) : ∀ n i, i < n → i < c → k i = k' i := by
  intro n
  induction n with
  | zero => intro i h; omega
  | succ n ih =>
    intro i hn hi
    obtain ⟨a, ha, ea⟩ := h2.2 (k' i) (h4.1 i hi)
    obtain ⟨b, hb, eb⟩ := h4.2 (k i) (h2.1 i hi)
    have q1 : ¬ a < i := fun q => by
      have e1 := ih a (by omega) ha
      have := eS_I h3 a i ha hi (e1.symm.trans ea)
      omega
    have q2 : ¬ b < i := fun q => by
      have e1 := ih b (by omega) hb
      have := eS_I h1 b i hb hi (e1.trans eb)
      omega
    have r1 : k i ≤ k a := by
      by_cases z : i = a
      · subst z; omega
      · have := h1 i a (by omega) ha
        omega
    have r2 : k' i ≤ k' b := by
      by_cases z : i = b
      · subst z; omega
      · have := h3 i b (by omega) hb
        omega
    omega
/-- how many lie below x -/
def cL (m : Nat → Int) (x : Int) : Nat → Nat
  | 0 => 0
  | c + 1 => cL m x c + (if m c < x then 1 else 0)
theorem cL_enum (m : Nat → Int) (x : Int) : ∀ c, eI c m → ∃ e : Nat → Int, eI (cL m x c) e ∧ (∀ t, t < cL m x c → ∃ j, j < c ∧ e t = m j ∧ m j < x) ∧ (∀ j, j < c → m j < x → ∃ t, t < cL m x c ∧ e t = m j) := by
  intro c
  induction c with
  | zero =>
    intro _
    exact ⟨m, fun i j h => absurd h (Nat.not_lt_zero _), fun t h => absurd h (Nat.not_lt_zero _), fun j h => absurd h (Nat.not_lt_zero _)⟩
  | succ c ih =>
    intro h
    obtain ⟨e, h1, h2, h3⟩ := ih (fun i j a b => h i j (by omega) (by omega))
    by_cases q : m c < x
    · have ec : cL m x (c + 1) = cL m x c + 1 := by simp [cL, q]
      rw [ec]
      refine ⟨fun t => if t = cL m x c then m c else e t, ?_, ?_, ?_⟩
      · intro i j hi hj e1
        have e1 : (if i = cL m x c then m c else e i) = (if j = cL m x c then m c else e j) := e1
        by_cases u : i = cL m x c <;> by_cases v : j = cL m x c
        · omega
        · rw [if_pos u, if_neg v] at e1
          obtain ⟨a, ha, ea, -⟩ := h2 j (by omega)
          have := h c a (by omega) (by omega) (e1.trans ea)
          omega
        · rw [if_neg u, if_pos v] at e1
          obtain ⟨a, ha, ea, -⟩ := h2 i (by omega)
          have := h c a (by omega) (by omega) (e1.symm.trans ea)
          omega
        · rw [if_neg u, if_neg v] at e1
          exact h1 i j (by omega) (by omega) e1
      · intro t ht
        show ∃ j, j < c + 1 ∧ (if t = cL m x c then m c else e t) = m j ∧ m j < x
        by_cases u : t = cL m x c
        · rw [if_pos u]
          exact ⟨c, by omega, rfl, q⟩
        · rw [if_neg u]
          obtain ⟨j, hj, ej, hx⟩ := h2 t (by omega)
          exact ⟨j, by omega, ej, hx⟩
      · intro j hj hx
        show ∃ t, t < cL m x c + 1 ∧ (if t = cL m x c then m c else e t) = m j
        by_cases u : j = c
        · subst u
          exact ⟨cL m x j, by omega, if_pos rfl⟩
        · obtain ⟨t, ht, et⟩ := h3 j (by omega) hx
          exact ⟨t, by omega, by rw [if_neg (by omega)]; exact et⟩
    · have ec : cL m x (c + 1) = cL m x c := by simp [cL, q]
      rw [ec]
      refine ⟨e, h1, fun t ht => ?_, fun j hj hx => ?_⟩
      · obtain ⟨j, hj, ej, hx⟩ := h2 t ht
        exact ⟨j, by omega, ej, hx⟩
      · by_cases u : j = c
        · subst u
          exact absurd hx q
        · exact h3 j (by omega) hx
theorem cL_le (m : Nat → Int) (x : Int) (c : Nat) : cL m x c ≤ c := by
  induction c with
  | zero => exact Nat.le_refl _
  | succ c ih =>
    have : cL m x (c + 1) = cL m x c + (if m c < x then 1 else 0) := rfl
    rw [this]
    split <;> omega
/-- the i-th KIND has i KINDS ahead -/
theorem rank_eq {c : Nat} {m k : Nat → Int} {F : Int → Int64} (hm : eI c m) (hmF : eF c m F) (hk : eS c k) (hkF : eF c k F) {i : Nat} (hi : i < c) : cL m (k i) c = i := by
  obtain ⟨e, h1, h2, h3⟩ := cL_enum m (k i) c hm
  have a : cL m (k i) c ≤ i := by
    refine pig i _ e k h1 (fun t ht => ?_)
    obtain ⟨j, hj, ej, hx⟩ := h2 t ht
    obtain ⟨b, hb, eb⟩ := hkF.2 (m j) (hmF.1 j hj)
    exact ⟨b, eS_lt hk hb hi (by omega), by omega⟩
  have b : i ≤ cL m (k i) c := by
    refine pig _ i k e (fun x y hx hy => eS_I hk x y (by omega) (by omega)) (fun t ht => ?_)
    obtain ⟨j, hj, ej⟩ := hmF.2 (k t) (hkF.1 t (by omega))
    obtain ⟨u, hu, eu⟩ := h3 j hj (by rw [ej]; exact hk t i ht hi)
    exact ⟨u, hu, by omega⟩
  omega
theorem rank_at {c : Nat} {m k : Nat → Int} {F : Int → Int64} (hm : eI c m) (hmF : eF c m F) (hk : eS c k) (hkF : eF c k F) {i j : Nat} (hi : i < c) (hj : j < c) (h : cL m (m j) c = i) : m j = k i := by
  obtain ⟨a, ha, ea⟩ := hkF.2 (m j) (hmF.1 j hj)
  have := rank_eq hm hmF hk hkF ha
  rw [ea, h] at this
  subst this
  exact ea.symm
/-! what look counts, over a sorted enumeration -/
def cP (p : Nat → Int32) : Nat → Nat
  | 0 => 0
  | i + 1 => cP p i + (if i = 0 ∨ ¬ p i = p (i - 1) then 1 else 0)
def cN (a : Nat → Int64) : Nat → Nat
  | 0 => 0
  | i + 1 => cN a i + (if a i < 0 then 1 else 0)
/-- the place of the first greatest, plus one; 0: there is none -/
def cB (a : Nat → Int64) : Nat → Nat
  | 0 => 0
  | i + 1 => if cB a i = 0 ∨ a (cB a i - 1) < a i then i + 1 else cB a i
theorem cP_le (p : Nat → Int32) (c : Nat) : cP p c ≤ c := by
  induction c with
  | zero => exact Nat.le_refl _
  | succ c ih =>
    have : cP p (c + 1) = cP p c + (if c = 0 ∨ ¬ p c = p (c - 1) then 1 else 0) := rfl
    rw [this]
    split <;> omega
theorem cN_le (a : Nat → Int64) (c : Nat) : cN a c ≤ c := by
  induction c with
  | zero => exact Nat.le_refl _
  | succ c ih =>
    have : cN a (c + 1) = cN a c + (if a c < 0 then 1 else 0) := rfl
    rw [this]
    split <;> omega
theorem cB_le (a : Nat → Int64) (c : Nat) : cB a c ≤ c := by
  induction c with
  | zero => exact Nat.le_refl _
  | succ c ih =>
    have : cB a (c + 1) = if cB a c = 0 ∨ a (cB a c - 1) < a c then c + 1 else cB a c := rfl
    rw [this]
    split <;> omega
/-! sums, differences, least, products: when they fit -/
def fH (how : Nat) (x y : Int64) : Prop := (how = 0 → -9223372036854775808 ≤ x.toInt + y.toInt ∧ x.toInt + y.toInt < 9223372036854775808) ∧ (how = 1 → -9223372036854775808 ≤ x.toInt - y.toInt ∧ x.toInt - y.toInt < 9223372036854775808)
def cH (how : Nat) (x y : Int64) : Int64 := if how = 0 then x + y else if how = 1 then x - y else if y < x then y else x
def fM (x n : Int64) : Prop := -9223372036854775808 ≤ x.toInt * n.toInt ∧ x.toInt * n.toInt < 9223372036854775808
theorem cH_00 (how : Nat) : cH how 0 0 = 0 := by
  unfold cH
  split
  · rfl
  · split
    · rfl
    · split <;> rfl
theorem fH_00 (how : Nat) : fH how 0 0 := by
  unfold fH
  simp
theorem fH_2 (how : Nat) (h0 : ¬ how = 0) (h1 : ¬ how = 1) (x y : Int64) : fH how x y := ⟨fun h => absurd h h0, fun h => absurd h h1⟩
/-! numbers: when a sum, a difference, a product is a long; how often one AMOUNT goes into another -/
theorem z_max : (9223372036854775807 : Int64).toInt = 9223372036854775807 := by decide +kernel
theorem z_min : (-9223372036854775808 : Int64).toInt = -9223372036854775808 := by decide +kernel
theorem z_0 : (0 : Int64).toInt = 0 := by decide +kernel
theorem z_1 : (1 : Int64).toInt = 1 := by decide +kernel
theorem z_m1 : (-1 : Int64).toInt = -1 := by decide +kernel
theorem z_ne {x y : Int64} (h : ¬ x = y) : x.toInt ≠ y.toInt := fun e => h (Int64.toInt_inj.mp e)
theorem sum_ge {x y : Int64} (hy : 0 ≤ y) : x ≤ 9223372036854775807 - y ↔ fH 0 x y := by
  have a := x.toInt_lt
  have b := x.le_toInt
  have a' := y.toInt_lt
  have hy' : 0 ≤ y.toInt := Jvm.Kit.i64_nonneg.mp hy
  have e : (9223372036854775807 - y : Int64).toInt = 9223372036854775807 - y.toInt := by
    rw [Jvm.Kit.i64_sub (by rw [z_max]; omega) (by rw [z_max]; omega), z_max]
  rw [Int64.le_iff_toInt_le, e]
  unfold fH
  constructor
  · intro h
    exact ⟨fun _ => by omega, fun h => absurd h (by decide)⟩
  · intro h
    have := h.1 rfl
    omega
theorem sum_lt {x y : Int64} (hy : ¬ 0 < y) : -9223372036854775808 - y ≤ x ↔ fH 0 x y := by
  have a := x.toInt_lt
  have b := x.le_toInt
  have a' := y.le_toInt
  have hy' : ¬ 0 < y.toInt := fun h => hy (Int64.lt_iff_toInt_lt.mpr (by rw [z_0]; exact h))
  have e : (-9223372036854775808 - y : Int64).toInt = -9223372036854775808 - y.toInt := by
    rw [Jvm.Kit.i64_sub (by rw [z_min]; omega) (by rw [z_min]; omega), z_min]
  rw [Int64.le_iff_toInt_le, e]
  unfold fH
  constructor
  · intro h
    exact ⟨fun _ => by omega, fun h => absurd h (by decide)⟩
  · intro h
    have := h.1 rfl
    omega
theorem dif_ge {x y : Int64} (hy : 0 ≤ y) : -9223372036854775808 + y ≤ x ↔ fH 1 x y := by
  have a := x.toInt_lt
  have b := x.le_toInt
  have a' := y.toInt_lt
  have hy' : 0 ≤ y.toInt := Jvm.Kit.i64_nonneg.mp hy
  have e : (-9223372036854775808 + y : Int64).toInt = -9223372036854775808 + y.toInt := by
    rw [Jvm.Kit.i64_add (by rw [z_min]; omega) (by rw [z_min]; omega), z_min]
  rw [Int64.le_iff_toInt_le, e]
  unfold fH
  constructor
  · intro h
    exact ⟨fun h => absurd h (by decide), fun _ => by omega⟩
  · intro h
    have := h.2 rfl
    omega
theorem dif_lt {x y : Int64} (hy : ¬ 0 ≤ y) : x ≤ 9223372036854775807 + y ↔ fH 1 x y := by
  have a := x.toInt_lt
  have b := x.le_toInt
  have a' := y.le_toInt
  have hy' : ¬ 0 ≤ y.toInt := fun h => hy (Jvm.Kit.i64_nonneg.mpr h)
  have e : (9223372036854775807 + y : Int64).toInt = 9223372036854775807 + y.toInt := by
    rw [Jvm.Kit.i64_add (by rw [z_max]; omega) (by rw [z_max]; omega), z_max]
  rw [Int64.le_iff_toInt_le, e]
  unfold fH
  constructor
  · intro h
    exact ⟨fun h => absurd h (by decide), fun _ => by omega⟩
  · intro h
    have := h.2 rfl
    omega
theorem mul_fits {x n : Int64} (h0 : ¬ n = 0) (h1 : ¬ n = -1) : x * n / n = x ↔ fM x n := by
  have hN0 : n.toInt ≠ 0 := by have := z_ne h0; rw [z_0] at this; exact this
  have hN1 : n.toInt ≠ -1 := by have := z_ne h1; rw [z_m1] at this; exact this
  have ed : (x * n / n).toInt = (x * n).toInt.tdiv n.toInt := Jvm.Kit.i64_div (fun h => hN1 h.2)
  have em : (x * n).toInt = (x.toInt * n.toInt).bmod (2 ^ 64) := Int64.toInt_mul x n
  have bn := n.toInt_lt
  have bn' := n.le_toInt
  have bw := (x * n).toInt_lt
  have bw' := (x * n).le_toInt
  rw [← Int64.toInt_inj, ed]
  unfold fM
  constructor
  · intro h
    have h2 := Int.tdiv_mul_add_tmod (x * n).toInt n.toInt
    rw [h] at h2
    have h3 : ((x * n).toInt.tmod n.toInt).natAbs < n.toInt.natAbs := by
      rw [Int.natAbs_tmod]
      exact Nat.mod_lt _ (by omega)
    generalize (x * n).toInt.tmod n.toInt = r at h2 h3
    rw [Int.bmod_def] at em
    generalize x.toInt * n.toInt = P at em h2 ⊢
    omega
  · intro h
    rw [em, Jvm.Kit.bmod64 (by omega) (by omega), Int.mul_tdiv_cancel _ hN0]
theorem fM_comm {x n : Int64} : fM x n ↔ fM n x := by
  unfold fM
  rw [Int.mul_comm]
theorem fM_0 (x : Int64) : fM x 0 := by
  unfold fM
  rw [z_0]
  omega
theorem fM_0l (x : Int64) : fM 0 x := fM_comm.mp (fM_0 x)
theorem fM_m1 {x : Int64} : fM x (-1) ↔ ¬ x = -9223372036854775808 := by
  have a := x.toInt_lt
  have b := x.le_toInt
  rw [← Int64.toInt_inj, z_min]
  unfold fM
  rw [z_m1]
  omega
theorem fM_1 (x : Int64) : fM x 1 := by
  have a := x.toInt_lt
  have b := x.le_toInt
  unfold fM
  rw [z_1]
  omega
theorem mul_fits2 {a b : Int64} (h0 : ¬ a = 0) (h1 : ¬ (a = -9223372036854775808 ∧ b = -1)) (h2 : ¬ (b = -9223372036854775808 ∧ a = -1)) : a * b / a = b ↔ fM a b := by
  by_cases h : a = -1
  · subst h
    have hb : ¬ b = -9223372036854775808 := fun e => h2 ⟨e, rfl⟩
    have f : fM (-1) b := fM_comm.mp (fM_m1.mpr hb)
    have x1 := b.toInt_lt
    have x2 := b.le_toInt
    have hb' : b.toInt ≠ -9223372036854775808 := by have := z_ne hb; rw [z_min] at this; exact this
    have e1 : (-1 * b : Int64).toInt = -b.toInt := by
      rw [Jvm.Kit.i64_mul (by rw [z_m1]; omega) (by rw [z_m1]; omega), z_m1]
      omega
    refine ⟨fun _ => f, fun _ => Int64.toInt_inj.mp ?_⟩
    rw [Jvm.Kit.i64_div (by rw [e1]; omega), e1, z_m1, Int.tdiv_neg, Int.tdiv_one]
    omega
  · rw [Int64.mul_comm, mul_fits h0 h, fM_comm]
theorem fM_bad1 {a b : Int64} (h : (a = -9223372036854775808 ∧ b = -1) ∨ (b = -9223372036854775808 ∧ a = -1)) : ¬ fM a b := by
  rcases h with ⟨rfl, rfl⟩ | ⟨rfl, rfl⟩ <;> (unfold fM; rw [z_m1, z_min]; omega)
/-! promise 15: x the AMOUNT in a, y the AMOUNT in b -/
/-- no n fits this KIND -/
def iB (x y : Int64) : Prop := (x < 0 ∧ 0 ≤ y) ∨ (x = -9223372036854775808 ∧ y = -1)
/-- the least n that fits this KIND where y is below 0 -/
def iN (x y : Int64) : Int := if x < 0 ∧ y < 0 then x.toInt.tdiv y.toInt + (if x.toInt.tmod y.toInt = 0 then 0 else 1) else 0
/-- the greatest n that fits this KIND where y is above 0 -/
def iQ (x y : Int64) : Int := x.toInt.tdiv y.toInt
def iR (Fa Fb : Int → Int64) (r : Int64) : Prop :=
  (r = -1 ∧ ((∃ k, iB (Fa k) (Fb k)) ∨ (∀ k, ¬ 0 < Fb k) ∨ ∃ k k', 0 < Fb k ∧ iQ (Fa k) (Fb k) < iN (Fa k') (Fb k'))) ∨
  ((∀ k, ¬ iB (Fa k) (Fb k)) ∧ (∃ k, 0 < Fb k ∧ r.toInt = iQ (Fa k) (Fb k)) ∧ (∀ k, 0 < Fb k → r.toInt ≤ iQ (Fa k) (Fb k)) ∧ ∀ k, iN (Fa k) (Fb k) ≤ r.toInt)
theorem iR_eq {Fa Fb : Int → Int64} {r r' : Int64} (h : iR Fa Fb r) (h' : iR Fa Fb r') : r = r' := by
  have key : ∀ {r r' : Int64}, (r = -1 ∧ ((∃ k, iB (Fa k) (Fb k)) ∨ (∀ k, ¬ 0 < Fb k) ∨ ∃ k k', 0 < Fb k ∧ iQ (Fa k) (Fb k) < iN (Fa k') (Fb k'))) →
      ((∀ k, ¬ iB (Fa k) (Fb k)) ∧ (∃ k, 0 < Fb k ∧ r'.toInt = iQ (Fa k) (Fb k)) ∧ (∀ k, 0 < Fb k → r'.toInt ≤ iQ (Fa k) (Fb k)) ∧ ∀ k, iN (Fa k) (Fb k) ≤ r'.toInt) → False := by
    intro r r' h1 h2
    rcases h1.2 with ⟨k, hk⟩ | hk | ⟨k, k', hk, hl⟩
    · exact h2.1 k hk
    · obtain ⟨k, h3, -⟩ := h2.2.1
      exact hk k h3
    · have a := h2.2.2.1 k hk
      have b := h2.2.2.2 k'
      omega
  rcases h with h | h <;> rcases h' with h' | h'
  · rw [h.1, h'.1]
  · exact (key h h').elim
  · exact (key h' h).elim
  · obtain ⟨k, hk, ek⟩ := h.2.1
    obtain ⟨k', hk', ek'⟩ := h'.2.1
    have a := h.2.2.1 k' hk'
    have b := h'.2.2.1 k hk
    exact Int64.toInt_inj.mp (by omega)
/-! division: floorDiv by a number above 0, the least n where both are below 0 -/
theorem z_msb (x : Int64) : x.toBitVec.msb = decide (x.toInt < 0) := BitVec.msb_eq_toInt
theorem z_xor (x y : Int64) : (x ^^^ y).toInt < 0 ↔ ¬ (x.toInt < 0 ↔ y.toInt < 0) := by
  have h := z_msb (x ^^^ y)
  rw [Int64.toBitVec_xor, BitVec.msb_xor, z_msb, z_msb] at h
  by_cases a : x.toInt < 0 <;> by_cases b : y.toInt < 0 <;> by_cases c : (x ^^^ y).toInt < 0 <;> simp_all <;> omega
theorem z_lt0 {x : Int64} : x < 0 ↔ x.toInt < 0 := by rw [Int64.lt_iff_toInt_lt, z_0]
theorem z_0lt {x : Int64} : 0 < x ↔ 0 < x.toInt := by rw [Int64.lt_iff_toInt_lt, z_0]
theorem z_tdiv_neg {X Y : Int} (hX : X < 0) (hY : 0 < Y) : X.tdiv Y ≤ 0 := by
  have e : X.tdiv Y = -((-X).tdiv Y) := by rw [Int.neg_tdiv, Int.neg_neg]
  rw [e, Int.tdiv_eq_ediv_of_nonneg (by omega)]
  have := Int.ediv_nonneg (a := -X) (b := Y) (by omega) (by omega)
  omega
theorem z_tdiv_nn {X Y : Int} (hX : X < 0) (hY : Y < 0) : 0 ≤ X.tdiv Y := by
  rw [← Int.neg_tdiv_neg, Int.tdiv_eq_ediv_of_nonneg (by omega)]
  exact Int.ediv_nonneg (by omega) (by omega)
theorem z_tdiv_pp {X Y : Int} (hX : 0 ≤ X) (hY : 0 ≤ Y) : 0 ≤ X.tdiv Y := by
  rw [Int.tdiv_eq_ediv_of_nonneg hX]
  exact Int.ediv_nonneg hX hY
theorem z_half {X Y : Int} (hY : 2 ≤ Y.natAbs) : (X.tdiv Y).natAbs ≤ X.natAbs / 2 := by
  rw [Int.natAbs_tdiv]
  exact Nat.div_le_div_left hY (by decide)
theorem fd_toInt {x y : Int64} (hy : 0 < y) : (x / y).toInt = x.toInt.tdiv y.toInt := by
  have := z_0lt.mp hy
  exact Jvm.Kit.i64_div (fun h => by omega)
theorem fd_exact {x y : Int64} (hx : x < 0) (hy : 0 < y) (e : x / y * y = x) : x / y < 0 := by
  have h1 := z_lt0.mp hx
  have h2 := z_0lt.mp hy
  have h3 := z_tdiv_neg h1 h2
  rw [← fd_toInt hy] at h3
  by_cases z : x / y = 0
  · rw [z, Int64.zero_mul] at e
    rw [← e] at h1
    rw [z_0] at h1
    omega
  · have := z_ne z
    rw [z_0] at this
    exact z_lt0.mpr (by omega)
theorem fd_down {x y : Int64} (hx : x < 0) (hy : 0 < y) (e : ¬ x / y * y = x) : x / y - 1 < 0 := by
  have h1 := z_lt0.mp hx
  have h2 := z_0lt.mp hy
  have b := x.le_toInt
  have h3 := z_tdiv_neg h1 h2
  have h4 : 2 ≤ y.toInt.natAbs := by
    by_cases z : y.toInt = 1
    · have y1 : y = 1 := Int64.toInt_inj.mp (by rw [z, z_1])
      exfalso
      apply e
      apply Int64.toInt_inj.mp
      rw [y1, Int64.mul_one, fd_toInt (by rw [← y1]; exact hy), z_1, Int.tdiv_one]
    · omega
  have h5 := z_half (X := x.toInt) h4
  rw [← fd_toInt hy] at h3 h5
  apply z_lt0.mpr
  rw [Jvm.Kit.i64_sub (by rw [z_1]; omega) (by rw [z_1]; omega), z_1]
  omega
theorem iN_0 (x y : Int64) : 0 ≤ iN x y := by
  unfold iN
  split
  · rename_i h
    have := z_tdiv_nn (z_lt0.mp h.1) (z_lt0.mp h.2)
    split <;> omega
  · omega
theorem iN_e0 {x y : Int64} (hx : x < 0) (hy : y < 0) (hb : ¬ (x = -9223372036854775808 ∧ y = -1)) (hr : x - x / y * y = 0) : (x / y).toInt = iN x y := by
  have h0 : x.toInt.tmod y.toInt = 0 := by rw [← Jvm.Kit.i64_rem, hr, z_0]
  unfold iN
  rw [if_pos (And.intro hx hy), if_pos h0, Jvm.Kit.i64_div (fun h => hb ⟨Int64.toInt_inj.mp (by have := h.1; rw [z_min]; omega), Int64.toInt_inj.mp (by rw [h.2, z_m1])⟩)]
  omega
theorem iN_e1 {x y : Int64} (hx : x < 0) (hy : y < 0) (hr : ¬ x - x / y * y = 0) : (x / y + 1).toInt = iN x y := by
  have h0 : ¬ x.toInt.tmod y.toInt = 0 := fun z => hr (Int64.toInt_inj.mp (by rw [Jvm.Kit.i64_rem, z, z_0]))
  have h1 := z_lt0.mp hx
  have h2 := z_lt0.mp hy
  have b := x.le_toInt
  have h4 : 2 ≤ y.toInt.natAbs := by
    by_cases z : y.toInt = -1
    · exfalso
      apply h0
      rw [z, Int.tmod_neg, Int.tmod_one]
    · omega
  have h5 := z_half (X := x.toInt) h4
  have h6 := z_tdiv_nn h1 h2
  have e : (x / y).toInt = x.toInt.tdiv y.toInt := Jvm.Kit.i64_div (fun h => by omega)
  unfold iN
  rw [if_pos (And.intro hx hy), if_neg h0, Jvm.Kit.i64_add (by rw [z_1]; omega) (by rw [z_1]; omega), z_1, e]
theorem iN_pos {x y : Int64} (h : ¬ (x < 0 ∧ y < 0)) : iN x y = 0 := by
  unfold iN
  rw [if_neg h]
/-! the compares and tests that the code makes, in its own forms -/
theorem sumHi {x y : Int64} (hy : ¬ y < 0) : (9223372036854775807 - y < x) ↔ ¬ fH 0 x y := Int64.not_le.symm.trans (not_congr (sum_ge (Int64.not_lt.mp hy)))
theorem sumLo {x y : Int64} (hy : ¬ 0 < y) : (x < -9223372036854775808 - y) ↔ ¬ fH 0 x y := Int64.not_le.symm.trans (not_congr (sum_lt hy))
theorem difLo {x y : Int64} (hy : ¬ y < 0) : (x < -9223372036854775808 + y) ↔ ¬ fH 1 x y := Int64.not_le.symm.trans (not_congr (dif_ge (Int64.not_lt.mp hy)))
theorem difHi {x y : Int64} (hy : y < 0) : (9223372036854775807 + y < x) ↔ ¬ fH 1 x y := Int64.not_le.symm.trans (not_congr (dif_lt (Int64.not_le.mpr hy)))
theorem sumHiN {x y : Int64} (hy : ¬ y < 0) : ¬ (9223372036854775807 - y < x) ↔ fH 0 x y := by rw [sumHi hy, Classical.not_not]
theorem sumLoN {x y : Int64} (hy : ¬ 0 < y) : ¬ (x < -9223372036854775808 - y) ↔ fH 0 x y := by rw [sumLo hy, Classical.not_not]
theorem difLoN {x y : Int64} (hy : ¬ y < 0) : ¬ (x < -9223372036854775808 + y) ↔ fH 1 x y := by rw [difLo hy, Classical.not_not]
theorem difHiN {x y : Int64} (hy : y < 0) : ¬ (9223372036854775807 + y < x) ↔ fH 1 x y := by rw [difHi hy, Classical.not_not]
theorem ltN0 {y : Int64} (hy : y < 0) : ¬ 0 < y := lg_lt_not hy
theorem gtN0 {y : Int64} (hy : 0 < y) : ¬ y < 0 := lg_lt_not hy
def c32 (x y : Int32) : Int32 := if x < y then -1 else if x = y then 0 else 1
def c64 (x y : Int64) : Int32 := if x < y then -1 else if x = y then 0 else 1
theorem ord_p {p q : Int32} {n m : Int64} (h : ¬ p = q) : (c32 p q < 0 ↔ kv p n < kv q m) ∧ (c32 p q = 0 ↔ kv p n = kv q m) := by
  rw [kv_lt, kv_inj]
  unfold c32
  by_cases a : p < q
  · rw [if_pos a]
    exact ⟨⟨fun _ => Or.inl a, fun _ => by decide⟩, ⟨fun z => absurd z (by decide), fun z => absurd z.1 h⟩⟩
  · rw [if_neg a, if_neg h]
    exact ⟨⟨fun z => absurd z (by decide), fun z => z.elim (fun z => absurd z a) (fun z => absurd z.1 h)⟩, ⟨fun z => absurd z (by decide), fun z => absurd z.1 h⟩⟩
theorem ord_n {p : Int32} {n m : Int64} : (c64 (n + (-9223372036854775808)) (m + (-9223372036854775808)) < 0 ↔ kv p n < kv p m) ∧ (c64 (n + (-9223372036854775808)) (m + (-9223372036854775808)) = 0 ↔ kv p n = kv p m) := by
  rw [kv_lt, kv_inj]
  unfold c64
  by_cases a : n + (-9223372036854775808) < m + (-9223372036854775808)
  · rw [if_pos a]
    exact ⟨⟨fun _ => Or.inr ⟨rfl, a⟩, fun _ => by decide⟩, ⟨fun z => absurd z (by decide), fun z => by rw [z.2] at a; exact absurd a Int64.lt_irrefl⟩⟩
  · rw [if_neg a]
    by_cases b : n + (-9223372036854775808) = m + (-9223372036854775808)
    · rw [if_pos b]
      exact ⟨⟨fun z => absurd z (by decide), fun z => z.elim (fun z => absurd z Int32.lt_irrefl) (fun z => absurd z.2 a)⟩, ⟨fun _ => ⟨rfl, (Int64.add_left_inj _).mp b⟩, fun _ => rfl⟩⟩
    · rw [if_neg b]
      exact ⟨⟨fun z => absurd z (by decide), fun z => z.elim (fun z => absurd z Int32.lt_irrefl) (fun z => absurd z.2 a)⟩, ⟨fun z => absurd z (by decide), fun z => absurd (by rw [z.2]) b⟩⟩
/-- the POLICY of a KIND -/
def pO (x : Int) : Int := (x + 9223372036854775808) / 18446744073709551616
theorem pO_kv (p : Int32) (n : Int64) : pO (kv p n) = p.toInt := by
  have a := (n + (-9223372036854775808)).toInt_lt
  have b := (n + (-9223372036854775808)).le_toInt
  unfold pO kv
  omega
theorem pO_iff {p q : Int32} {n : Int64} : p = q ↔ pO (kv p n) = q.toInt := by
  rw [pO_kv, Int32.toInt_inj]
end
section
/-! what the rows of numbers stand for: the class's (sorted), the reference's (each KIND once) -/
def kk (p : Nat → Int32) (n : Nat → Int64) (i : Nat) : Int := kv (p i) (n i)
def cRep (c : Nat) (p : Nat → Int32) (n a : Nat → Int64) (F : Int → Int64) : Prop := c ≤ 64 ∧ eS c (kk p n) ∧ eF c (kk p n) F ∧ ∀ i, i < c → a i = F (kk p n i)
def mRep (c : Nat) (p : Nat → Int32) (n a : Nat → Int64) (F : Int → Int64) : Prop := eI c (kk p n) ∧ eF c (kk p n) F ∧ ∀ i, i < c → a i = F (kk p n i)
def fUp (F : Int → Int64) (x : Int) (v : Int64) : Int → Int64 := fun y => if y = x then v else F y
theorem fUp_s {F : Int → Int64} {x : Int} {v : Int64} : fUp F x v x = v := if_pos rfl
theorem fUp_n {F : Int → Int64} {x y : Int} {v : Int64} (h : ¬ y = x) : fUp F x v y = F y := if_neg h
theorem fUp_id {F : Int → Int64} {x : Int} : fUp F x (F x) = F := by
  funext y
  by_cases h : y = x
  · rw [h, fUp_s]
  · rw [fUp_n h]
/-- of G what lies in S -/
noncomputable def gS (G : Int → Int64) (S : Int → Prop) : Int → Int64 := fun x => @ite _ (S x) (Classical.propDecidable _) (G x) 0
theorem gS_y {G : Int → Int64} {S : Int → Prop} {x : Int} (h : S x) : gS G S x = G x := by
  unfold gS
  exact if_pos h
theorem gS_no {G : Int → Int64} {S : Int → Prop} {x : Int} (h : ¬ S x) : gS G S x = 0 := by
  unfold gS
  exact if_neg h
theorem gS_add {G : Int → Int64} {S : Int → Prop} {x : Int} : gS G (fun y => S y ∨ y = x) = fUp (gS G S) x (G x) := by
  funext y
  by_cases h : y = x
  · rw [h, fUp_s, gS_y (Or.inr rfl)]
  · rw [fUp_n h]
    by_cases q : S y
    · rw [gS_y (Or.inl q), gS_y q]
    · rw [gS_no (fun z => z.elim q h), gS_no q]
theorem gS_skip {G : Int → Int64} {S : Int → Prop} {x : Int} (h0 : G x = 0) : gS G (fun y => S y ∨ y = x) = gS G S := by
  funext y
  by_cases q : S y
  · rw [gS_y (Or.inl q), gS_y q]
  · rw [gS_no q]
    by_cases h : y = x
    · rw [gS_y (Or.inr h), h, h0]
    · rw [gS_no (fun z => z.elim q h)]
theorem gS_congr {G : Int → Int64} {S S' : Int → Prop} (h : ∀ y, S y ↔ S' y) : gS G S = gS G S' := by
  rw [show S = S' from funext fun y => propext (h y)]
theorem gS_all {G : Int → Int64} {S : Int → Prop} (h : ∀ x, ¬ G x = 0 → S x) : gS G S = G := by
  funext x
  by_cases q : S x
  · exact gS_y q
  · rw [gS_no q]
    by_cases z : G x = 0
    · exact z.symm
    · exact absurd (h x z) q
theorem gS_none {G : Int → Int64} {S : Int → Prop} (h : ∀ x, ¬ S x) : gS G S = fun _ => 0 := by
  funext x
  exact gS_no (h x)
/-- the first i of k -/
def sU (k : Nat → Int) (i : Nat) : Int → Prop := fun x => ∃ j, j < i ∧ k j = x
theorem sU_s {k : Nat → Int} {i : Nat} (y : Int) : sU k (i + 1) y ↔ (sU k i y ∨ y = k i) := by
  constructor
  · rintro ⟨j, hj, e⟩
    by_cases h : j = i
    · subst h
      exact Or.inr e.symm
    · exact Or.inl ⟨j, by omega, e⟩
  · rintro (⟨j, hj, e⟩ | h)
    · exact ⟨j, by omega, e⟩
    · exact ⟨i, by omega, h.symm⟩
theorem sU_0 {k : Nat → Int} (x : Int) : ¬ sU k 0 x := fun ⟨j, hj, _⟩ => absurd hj (Nat.not_lt_zero _)
theorem gS_step {G : Int → Int64} {k : Nat → Int} {i : Nat} : gS G (sU k (i + 1)) = fUp (gS G (sU k i)) (k i) (G (k i)) := (gS_congr sU_s).trans gS_add
theorem gS_step0 {G : Int → Int64} {k : Nat → Int} {i : Nat} (h : G (k i) = 0) : gS G (sU k (i + 1)) = gS G (sU k i) := (gS_congr sU_s).trans (gS_skip h)
theorem cRep_0 (p : Nat → Int32) (n a : Nat → Int64) : cRep 0 p n a (fun _ => 0) :=
  ⟨by omega, fun i j _ h => absurd h (Nat.not_lt_zero _), ⟨fun i h => absurd h (Nat.not_lt_zero _), fun x h => absurd rfl h⟩, fun i h => absurd h (Nat.not_lt_zero _)⟩
theorem mRep_0 (p : Nat → Int32) (n a : Nat → Int64) : mRep 0 p n a (fun _ => 0) :=
  ⟨fun i j h => absurd h (Nat.not_lt_zero _), ⟨fun i h => absurd h (Nat.not_lt_zero _), fun x h => absurd rfl h⟩, fun i h => absurd h (Nat.not_lt_zero _)⟩
theorem cRep_M {c : Nat} {p : Nat → Int32} {n a : Nat → Int64} {F : Int → Int64} (h : cRep c p n a F) : mRep c p n a F := ⟨eS_I h.2.1, h.2.2⟩
theorem cRep_C {c : Nat} {p : Nat → Int32} {n a : Nat → Int64} {F : Int → Int64} (h : cRep c p n a F) : eC F := eC_of h.2.2.1.2 h.1
/-- keys that agree as far as they count -/
theorem eS_cg {c : Nat} {k k' : Nat → Int} (h : eS c k) (e : ∀ i, i < c → k' i = k i) : eS c k' := fun i j hi hj => by rw [e i (by omega), e j hj]; exact h i j hi hj
/-- one behind all -/
theorem eF_app {c : Nat} {k k' : Nat → Int} {F : Int → Int64} {x : Int} {v : Int64} (h : eF c k F) (hx : ∀ i, i < c → ¬ k i = x) (hv : ¬ v = 0) (e : ∀ i, i < c → k' i = k i) (ex : k' c = x) : eF (c + 1) k' (fUp F x v) := by
  refine ⟨fun i hi => ?_, fun y hy => ?_⟩
  · by_cases q : i = c
    · rw [q, ex, fUp_s]
      exact hv
    · rw [e i (by omega), fUp_n (hx i (by omega))]
      exact h.1 i (by omega)
  · by_cases q : y = x
    · exact ⟨c, by omega, by rw [ex, q]⟩
    · rw [fUp_n q] at hy
      obtain ⟨i, hi, ei⟩ := h.2 y hy
      exact ⟨i, by omega, by rw [e i hi]; exact ei⟩
theorem kk_app_n {p : Nat → Int32} {n : Nat → Int64} {c i : Nat} {q : Int32} {m : Int64} (h : i < c) : kk (upd p c q) (vp_updL n c m) i = kk p n i := by
  unfold kk
  rw [pk_un (by omega), pk_uLn (by omega)]
theorem kk_app_s {p : Nat → Int32} {n : Nat → Int64} {c : Nat} {q : Int32} {m : Int64} : kk (upd p c q) (vp_updL n c m) c = kv q m := by
  unfold kk
  rw [pk_us, pk_uLs]
theorem am_app {p p' : Nat → Int32} {n n' a : Nat → Int64} {F : Int → Int64} {c : Nat} {x : Int} {v : Int64} (h : ∀ i, i < c → a i = F (kk p n i)) (hx : ∀ i, i < c → ¬ kk p n i = x) (e : ∀ i, i < c → kk p' n' i = kk p n i) (ex : kk p' n' c = x) : ∀ i, i < c + 1 → vp_updL a c v i = fUp F x v (kk p' n' i) := by
  intro i hi
  by_cases q : i = c
  · rw [q, pk_uLs, ex, fUp_s]
  · rw [pk_uLn q, e i (by omega), fUp_n (hx i (by omega))]
    exact h i (by omega)
theorem cRep_app {c : Nat} {p : Nat → Int32} {n a : Nat → Int64} {F : Int → Int64} {q : Int32} {m v : Int64} (h : cRep c p n a F) (hc : c < 64) (hl : ∀ i, i < c → kk p n i < kv q m) (hv : ¬ v = 0) : cRep (c + 1) (upd p c q) (vp_updL n c m) (vp_updL a c v) (fUp F (kv q m) v) := by
  obtain ⟨h1, h2, h3, h4⟩ := h
  have hx : ∀ i, i < c → ¬ kk p n i = kv q m := fun i hi e => by
    have := hl i hi
    omega
  refine ⟨by omega, fun i j hi hj => ?_, eF_app h3 hx hv (fun i hi => kk_app_n hi) kk_app_s, am_app h4 hx (fun i hi => kk_app_n hi) kk_app_s⟩
  by_cases z : j = c
  · rw [z, kk_app_s, kk_app_n (by omega)]
    exact hl i (by omega)
  · rw [kk_app_n (by omega), kk_app_n (by omega)]
    exact h2 i j hi (by omega)
theorem mRep_app {c : Nat} {p : Nat → Int32} {n a : Nat → Int64} {F : Int → Int64} {q : Int32} {m v : Int64} (h : mRep c p n a F) (h0 : F (kv q m) = 0) (hv : ¬ v = 0) : mRep (c + 1) (upd p c q) (vp_updL n c m) (vp_updL a c v) (fUp F (kv q m) v) := by
  obtain ⟨h2, h3, h4⟩ := h
  have hx : ∀ i, i < c → ¬ kk p n i = kv q m := fun i hi e => h3.1 i hi (by rw [e]; exact h0)
  refine ⟨fun i j hi hj e => ?_, eF_app h3 hx hv (fun i hi => kk_app_n hi) kk_app_s, am_app h4 hx (fun i hi => kk_app_n hi) kk_app_s⟩
  by_cases z : j = c <;> by_cases y : i = c
  · omega
  · rw [z, kk_app_s, kk_app_n (by omega)] at e
    exact absurd e (hx i (by omega))
  · rw [y, kk_app_s, kk_app_n (by omega)] at e
    exact absurd e.symm (hx j (by omega))
  · rw [kk_app_n (by omega), kk_app_n (by omega)] at e
    exact h2 i j (by omega) (by omega) e
/-- where a KIND is, or would have to be put -/
def cPl (c : Nat) (p : Nat → Int32) (n : Nat → Int64) (x : Int) (i : Nat) : Prop := i ≤ c ∧ (∀ j, j < i → kk p n j < x) ∧ (i < c → x ≤ kk p n i)
theorem look_y {c i : Nat} {p : Nat → Int32} {n a : Nat → Int64} {F : Int → Int64} {x : Int} (h : cRep c p n a F) (hi : i < c) (e : kk p n i = x) : F x = a i := by
  rw [h.2.2.2 i hi, e]
theorem look_n {c i : Nat} {p : Nat → Int32} {n a : Nat → Int64} {F : Int → Int64} {x : Int} (h : cRep c p n a F) (hp : cPl c p n x i) (hno : ¬ (i < c ∧ kk p n i = x)) : F x = 0 := by
  by_cases z : F x = 0
  · exact z
  · obtain ⟨j, hj, ej⟩ := h.2.2.1.2 x z
    have q1 : ¬ j < i := fun q => by
      have := hp.2.1 j q
      omega
    have hi : i < c := by omega
    have q2 := hp.2.2 hi
    have q3 : kk p n i ≤ kk p n j := by
      by_cases w : i = j
      · rw [w]
        omega
      · have := h.2.1 i j (by omega) hj
        omega
    exact absurd ⟨hi, by omega⟩ hno
theorem rep_set {c i : Nat} {p : Nat → Int32} {n a : Nat → Int64} {F : Int → Int64} {x : Int} {v : Int64} (h : cRep c p n a F) (hi : i < c) (e : kk p n i = x) (hv : ¬ v = 0) : cRep c p n (vp_updL a i v) (fUp F x v) := by
  obtain ⟨h1, h2, h3, h4⟩ := h
  refine ⟨h1, h2, ⟨fun j hj => ?_, fun y hy => ?_⟩, fun j hj => ?_⟩
  · by_cases z : kk p n j = x
    · rw [z, fUp_s]
      exact hv
    · rw [fUp_n z]
      exact h3.1 j hj
  · by_cases z : y = x
    · exact ⟨i, hi, by rw [e, z]⟩
    · rw [fUp_n z] at hy
      exact h3.2 y hy
  · by_cases z : j = i
    · rw [z, pk_uLs, e, fUp_s]
    · rw [pk_uLn z, fUp_n (fun q => z (eS_I h2 j i hj hi (q.trans e.symm)))]
      exact h4 j hj
/-- a row with one put in at place i -/
theorem ins_at {α : Type} {f f' : Nat → α} {c i : Nat} {v : α} (hi : i ≤ c) (e : ∀ j, f' j = if j = i then v else va_cpy f f i (i + 1) (c - i) j) : ∀ j, j < c + 1 → f' j = if j < i then f j else if j = i then v else f (j - 1) := by
  intro j hj
  rw [e]
  by_cases h1 : j < i
  · rw [if_pos h1, if_neg (by omega), pk_cpy_out (by omega)]
  · rw [if_neg h1]
    by_cases h2 : j = i
    · rw [if_pos h2, if_pos h2]
    · rw [if_neg h2, if_neg h2, pk_cpy_in (by omega) (by omega)]
      congr 1
      omega
theorem rep_ins {c i : Nat} {p p' : Nat → Int32} {n n' a a' : Nat → Int64} {F : Int → Int64} {x : Int} {q : Int32} {m v : Int64} (h : cRep c p n a F) (hc : c < 64) (hp : cPl c p n x i) (hno : ¬ (i < c ∧ kk p n i = x)) (ex : kv q m = x) (hv : ¬ v = 0)
    (ep : ∀ j, p' j = if j = i then q else va_cpy p p i (i + 1) (c - i) j) (en : ∀ j, n' j = if j = i then m else va_cpy n n i (i + 1) (c - i) j) (ea : ∀ j, a' j = if j = i then v else va_cpy a a i (i + 1) (c - i) j) : cRep (c + 1) p' n' a' (fUp F x v) := by
  obtain ⟨h1, h2, h3, h4⟩ := id h
  obtain ⟨p1, p2, p3⟩ := id hp
  have bp := ins_at p1 ep
  have bn := ins_at p1 en
  have ba := ins_at p1 ea
  have gt : ∀ j, i ≤ j → j < c → x < kk p n j := by
    intro j hj hjc
    have := p3 (by omega)
    by_cases z : i = j
    · subst z
      have : ¬ kk p n i = x := fun z => hno ⟨hjc, z⟩
      omega
    · have := h2 i j (by omega) hjc
      omega
  have key : ∀ j, j < c + 1 → kk p' n' j = if j < i then kk p n j else if j = i then x else kk p n (j - 1) := by
    intro j hj
    unfold kk
    rw [bp j hj, bn j hj]
    by_cases z1 : j < i
    · rw [if_pos z1, if_pos z1, if_pos z1]
    · rw [if_neg z1, if_neg z1, if_neg z1]
      by_cases z2 : j = i
      · rw [if_pos z2, if_pos z2, if_pos z2]
        exact ex
      · rw [if_neg z2, if_neg z2, if_neg z2]
  refine ⟨by omega, fun j1 j2 hj hjc => ?_, ⟨fun j hj => ?_, fun y hy => ?_⟩, fun j hj => ?_⟩
  · rw [key j1 (by omega), key j2 hjc]
    by_cases z1 : j1 < i <;> by_cases z2 : j2 < i
    · rw [if_pos z1, if_pos z2]
      exact h2 j1 j2 hj (by omega)
    · rw [if_pos z1, if_neg z2]
      by_cases z3 : j2 = i
      · rw [if_pos z3]
        exact p2 j1 z1
      · rw [if_neg z3]
        have := p2 j1 z1
        have := gt (j2 - 1) (by omega) (by omega)
        omega
    · omega
    · rw [if_neg z1, if_neg z2, if_neg (show ¬ j2 = i by omega)]
      by_cases z3 : j1 = i
      · rw [if_pos z3]
        exact gt (j2 - 1) (by omega) (by omega)
      · rw [if_neg z3]
        exact h2 (j1 - 1) (j2 - 1) (by omega) (by omega)
  · rw [key j hj]
    by_cases z1 : j < i
    · rw [if_pos z1, fUp_n (by have := p2 j z1; omega)]
      exact h3.1 j (by omega)
    · rw [if_neg z1]
      by_cases z2 : j = i
      · rw [if_pos z2, fUp_s]
        exact hv
      · rw [if_neg z2, fUp_n (by have := gt (j - 1) (by omega) (by omega); omega)]
        exact h3.1 (j - 1) (by omega)
  · by_cases z : y = x
    · exact ⟨i, by omega, by rw [key i (by omega), if_neg (by omega), if_pos rfl, z]⟩
    · rw [fUp_n z] at hy
      obtain ⟨j, hj, ej⟩ := h3.2 y hy
      by_cases z1 : j < i
      · exact ⟨j, by omega, by rw [key j (by omega), if_pos z1]; exact ej⟩
      · exact ⟨j + 1, by omega, by rw [key (j + 1) (by omega), if_neg (by omega), if_neg (by omega), Nat.add_sub_cancel]; exact ej⟩
  · rw [key j hj, ba j hj]
    by_cases z1 : j < i
    · rw [if_pos z1, if_pos z1, fUp_n (by have := p2 j z1; omega)]
      exact h4 j (by omega)
    · rw [if_neg z1, if_neg z1]
      by_cases z2 : j = i
      · rw [if_pos z2, if_pos z2, fUp_s]
      · rw [if_neg z2, if_neg z2, fUp_n (by have := gt (j - 1) (by omega) (by omega); omega)]
        exact h4 (j - 1) (by omega)
theorem del_at {α : Type} {f : Nat → α} {c i : Nat} (hi : i < c) : ∀ j, j < c - 1 → va_cpy f f (i + 1) i (c - i - 1) j = if j < i then f j else f (j + 1) := by
  intro j hj
  by_cases h1 : j < i
  · rw [if_pos h1, pk_cpy_out (by omega)]
  · rw [if_neg h1, pk_cpy_in (by omega) (by omega)]
    congr 1
    omega
theorem rep_del {c i : Nat} {p : Nat → Int32} {n a : Nat → Int64} {F : Int → Int64} {x : Int} (h : cRep c p n a F) (hi : i < c) (e : kk p n i = x) : cRep (c - 1) (va_cpy p p (i + 1) i (c - i - 1)) (va_cpy n n (i + 1) i (c - i - 1)) (va_cpy a a (i + 1) i (c - i - 1)) (fUp F x 0) := by
  obtain ⟨h1, h2, h3, h4⟩ := id h
  have key : ∀ j, j < c - 1 → kk (va_cpy p p (i + 1) i (c - i - 1)) (va_cpy n n (i + 1) i (c - i - 1)) j = if j < i then kk p n j else kk p n (j + 1) := by
    intro j hj
    unfold kk
    rw [del_at hi j hj, del_at hi j hj]
    by_cases z1 : j < i
    · rw [if_pos z1, if_pos z1, if_pos z1]
    · rw [if_neg z1, if_neg z1, if_neg z1]
  have nx : ∀ j, j < c → ¬ j = i → ¬ kk p n j = x := fun j hj z q => z (eS_I h2 j i hj hi (q.trans e.symm))
  refine ⟨by omega, fun j1 j2 hj hjc => ?_, ⟨fun j hj => ?_, fun y hy => ?_⟩, fun j hj => ?_⟩
  · rw [key j1 (by omega), key j2 hjc]
    by_cases z1 : j1 < i <;> by_cases z2 : j2 < i
    · rw [if_pos z1, if_pos z2]
      exact h2 j1 j2 hj (by omega)
    · rw [if_pos z1, if_neg z2]
      exact h2 j1 (j2 + 1) (by omega) (by omega)
    · omega
    · rw [if_neg z1, if_neg z2]
      exact h2 (j1 + 1) (j2 + 1) (by omega) (by omega)
  · rw [key j hj]
    by_cases z1 : j < i
    · rw [if_pos z1, fUp_n (nx j (by omega) (by omega))]
      exact h3.1 j (by omega)
    · rw [if_neg z1, fUp_n (nx (j + 1) (by omega) (by omega))]
      exact h3.1 (j + 1) (by omega)
  · have z : ¬ y = x := fun q => hy (by rw [q, fUp_s])
    rw [fUp_n z] at hy
    obtain ⟨j, hj, ej⟩ := h3.2 y hy
    have ji : ¬ j = i := fun q => z (by rw [← ej, q, e])
    by_cases z1 : j < i
    · exact ⟨j, by omega, by rw [key j (by omega), if_pos z1]; exact ej⟩
    · exact ⟨j - 1, by omega, by rw [key (j - 1) (by omega), if_neg (by omega), show j - 1 + 1 = j by omega]; exact ej⟩
  · rw [key j hj, del_at hi j hj]
    by_cases z1 : j < i
    · rw [if_pos z1, if_pos z1, fUp_n (nx j (by omega) (by omega))]
      exact h4 j (by omega)
    · rw [if_neg z1, if_neg z1, fUp_n (nx (j + 1) (by omega) (by omega))]
      exact h4 (j + 1) (by omega)
/-- a full BAG takes no further KIND -/
theorem full_not {c : Nat} {p : Nat → Int32} {n a : Nat → Int64} {F : Int → Int64} {x : Int} {v : Int64} (h : mRep c p n a F) (hc : 64 ≤ c) (h0 : F x = 0) (hv : ¬ v = 0) : ¬ eC (fUp F x v) := by
  obtain ⟨h2, h3, -⟩ := h
  have hx : ∀ i, i < c → ¬ kk p n i = x := fun i hi e => h3.1 i hi (by rw [e]; exact h0)
  refine eC_not (c := c + 1) (k := fun j => if j = c then x else kk p n j) (fun i j hi hj e => ?_) (fun i hi => ?_) (by omega)
  · have e : (if i = c then x else kk p n i) = (if j = c then x else kk p n j) := e
    by_cases z : i = c <;> by_cases y : j = c
    · omega
    · rw [if_pos z, if_neg y] at e
      exact absurd e.symm (hx j (by omega))
    · rw [if_neg z, if_pos y] at e
      exact absurd e (hx i (by omega))
    · rw [if_neg z, if_neg y] at e
      exact h2 i j (by omega) (by omega) e
  · show ¬ fUp F x v (if i = c then x else kk p n i) = 0
    by_cases z : i = c
    · rw [if_pos z, fUp_s]
      exact hv
    · rw [if_neg z, fUp_n (hx i (by omega))]
      exact h3.1 i (by omega)
theorem eC_sub {G : Int → Int64} {S : Int → Prop} (h : eC G) : eC (gS G S) := by
  obtain ⟨c, k, hc, h1⟩ := h
  refine ⟨c, k, hc, fun x hx => h1 x (fun z => hx ?_)⟩
  by_cases q : S x
  · rw [gS_y q, z]
  · exact gS_no q
/-- what has been laid so far lies ahead of the next KIND -/
theorem gS_lt {c c0 i : Nat} {p : Nat → Int32} {n a : Nat → Int64} {G : Int → Int64} {k : Nat → Int} (h : cRep c p n a (gS G (sU k i))) (hk : eS c0 k) (hi : i < c0) : ∀ t, t < c → kk p n t < k i := by
  intro t ht
  have h1 := h.2.2.1.1 t ht
  by_cases q : sU k i (kk p n t)
  · obtain ⟨j, hj, e⟩ := q
    rw [← e]
    exact hk j i hj hi
  · exact absurd (gS_no q) h1
theorem gS_fresh {c0 i : Nat} {G : Int → Int64} {k : Nat → Int} (hk : eI c0 k) (hi : i < c0) : gS G (sU k i) (k i) = 0 := by
  refine gS_no (fun ⟨j, hj, e⟩ => ?_)
  have := hk j i (by omega) hi e
  omega
/-- laid one more -/
theorem lay_y {c c0 i : Nat} {p : Nat → Int32} {n a : Nat → Int64} {G : Int → Int64} {k : Nat → Int} {q : Int32} {m : Int64} (h : cRep c p n a (gS G (sU k i))) (hk : eS c0 k) (hi : i < c0) (e : k i = kv q m) (hc : c < 64) (hv : ¬ G (k i) = 0) : cRep (c + 1) (upd p c q) (vp_updL n c m) (vp_updL a c (G (k i))) (gS G (sU k (i + 1))) := by
  rw [gS_step, e]
  rw [e] at hv
  exact cRep_app h hc (fun t ht => by rw [← e]; exact gS_lt h hk hi t ht) hv
theorem lay_n {c i : Nat} {p : Nat → Int32} {n a : Nat → Int64} {G : Int → Int64} {k : Nat → Int} (h : cRep c p n a (gS G (sU k i))) (hv : G (k i) = 0) : cRep c p n a (gS G (sU k (i + 1))) := by
  rw [gS_step0 hv]
  exact h
theorem lay_full {c c0 i : Nat} {p : Nat → Int32} {n a : Nat → Int64} {G : Int → Int64} {k : Nat → Int} (h : cRep c p n a (gS G (sU k i))) (hk : eS c0 k) (hi : i < c0) (hc : 64 ≤ c) (hv : ¬ G (k i) = 0) : ¬ eC G := fun z =>
  full_not (cRep_M h) hc (gS_fresh (eS_I hk) hi) hv (gS_step ▸ eC_sub (S := sU k (i + 1)) z)
theorem lay_0 {G : Int → Int64} {k : Nat → Int} (p : Nat → Int32) (n a : Nat → Int64) : cRep 0 p n a (gS G (sU k 0)) := by
  rw [gS_none sU_0]
  exact cRep_0 p n a
theorem lay_end {c c0 : Nat} {p : Nat → Int32} {n a : Nat → Int64} {G : Int → Int64} {k : Nat → Int} (h : cRep c p n a (gS G (sU k c0))) (hG : ∀ x, ¬ G x = 0 → ∃ j, j < c0 ∧ k j = x) : cRep c p n a G := by
  rw [gS_all (S := sU k c0) hG] at h
  exact h
/-! two sorted rows laid side by side -/
def pRep (c : Nat) (p : Nat → Int32) (n L R : Nat → Int64) (Fa Fb : Int → Int64) : Prop := eS c (kk p n) ∧ (∀ i, i < c → L i = Fa (kk p n i) ∧ R i = Fb (kk p n i)) ∧ ∀ x, (¬ Fa x = 0 ∨ ¬ Fb x = 0) → ∃ i, i < c ∧ kk p n i = x
/-- i of the first and j of the second have been laid: c rows -/
def mG (ca : Nat) (ka : Nat → Int) (Fa : Int → Int64) (cb : Nat) (kb : Nat → Int) (Fb : Int → Int64) (i j c : Nat) (p : Nat → Int32) (n L R : Nat → Int64) : Prop :=
  (i ≤ ca ∧ j ≤ cb ∧ c ≤ i + j) ∧ eS c (kk p n) ∧ (∀ t, t < c → L t = Fa (kk p n t) ∧ R t = Fb (kk p n t)) ∧ (∀ t, t < c → (i < ca → kk p n t < ka i) ∧ (j < cb → kk p n t < kb j)) ∧ (∀ t, t < i → ∃ u, u < c ∧ kk p n u = ka t) ∧ ∀ t, t < j → ∃ u, u < c ∧ kk p n u = kb t
theorem mG_0 {ca cb : Nat} {ka kb : Nat → Int} {Fa Fb : Int → Int64} (p : Nat → Int32) (n L R : Nat → Int64) : mG ca ka Fa cb kb Fb 0 0 0 p n L R :=
  ⟨⟨by omega, by omega, by omega⟩, fun i j _ h => absurd h (Nat.not_lt_zero _), fun i h => absurd h (Nat.not_lt_zero _), fun i h => absurd h (Nat.not_lt_zero _), fun i h => absurd h (Nat.not_lt_zero _), fun i h => absurd h (Nat.not_lt_zero _)⟩
theorem mG_step {ca cb : Nat} {ka kb : Nat → Int} {Fa Fb : Int → Int64} {i j i' j' c : Nat} {p : Nat → Int32} {n L R : Nat → Int64} {q : Int32} {m lv rv : Int64} (h : mG ca ka Fa cb kb Fb i j c p n L R) (hlt : ∀ t, t < c → kk p n t < kv q m) (eL : lv = Fa (kv q m)) (eR : rv = Fb (kv q m))
    (hi : i' = i ∨ (i' = i + 1 ∧ i < ca ∧ ka i = kv q m)) (hj : j' = j ∨ (j' = j + 1 ∧ j < cb ∧ kb j = kv q m)) (hne : i + j < i' + j') (ha : i' < ca → kv q m < ka i') (hb : j' < cb → kv q m < kb j') : mG ca ka Fa cb kb Fb i' j' (c + 1) (upd p c q) (vp_updL n c m) (vp_updL L c lv) (vp_updL R c rv) := by
  obtain ⟨⟨g1, g2, g3⟩, g4, g5, g6, g7, g8⟩ := h
  refine ⟨⟨by omega, by omega, by omega⟩, fun a b hab hbc => ?_, fun t ht => ?_, fun t ht => ?_, fun t ht => ?_, fun t ht => ?_⟩
  · by_cases z : b = c
    · rw [z, kk_app_s, kk_app_n (by omega)]
      exact hlt a (by omega)
    · rw [kk_app_n (by omega), kk_app_n (by omega)]
      exact g4 a b hab (by omega)
  · by_cases z : t = c
    · rw [z, kk_app_s, pk_uLs, pk_uLs]
      exact ⟨eL, eR⟩
    · rw [kk_app_n (by omega), pk_uLn z, pk_uLn z]
      exact g5 t (by omega)
  · by_cases z : t = c
    · rw [z, kk_app_s]
      exact ⟨ha, hb⟩
    · rw [kk_app_n (by omega)]
      have := hlt t (by omega)
      exact ⟨fun w => by have := ha w; omega, fun w => by have := hb w; omega⟩
  · rcases hi with e | ⟨e, hic, ek⟩
    · obtain ⟨u, hu, eu⟩ := g7 t (by omega)
      exact ⟨u, by omega, by rw [kk_app_n hu]; exact eu⟩
    · by_cases z : t = i
      · exact ⟨c, by omega, by rw [kk_app_s, z]; exact ek.symm⟩
      · obtain ⟨u, hu, eu⟩ := g7 t (by omega)
        exact ⟨u, by omega, by rw [kk_app_n hu]; exact eu⟩
  · rcases hj with e | ⟨e, hjc, ek⟩
    · obtain ⟨u, hu, eu⟩ := g8 t (by omega)
      exact ⟨u, by omega, by rw [kk_app_n hu]; exact eu⟩
    · by_cases z : t = j
      · exact ⟨c, by omega, by rw [kk_app_s, z]; exact ek.symm⟩
      · obtain ⟨u, hu, eu⟩ := g8 t (by omega)
        exact ⟨u, by omega, by rw [kk_app_n hu]; exact eu⟩
/-- a KIND that lies between the laid and the rest isn't there -/
theorem mG_no {cb j c : Nat} {kb k : Nat → Int} {Fb : Int → Int64} {x : Int} (hs : eS cb kb) (hF : eF cb kb Fb) (hcov : ∀ t, t < j → ∃ u, u < c ∧ k u = kb t) (hlt : ∀ u, u < c → k u < x) (hx : j < cb → x < kb j) : Fb x = 0 := by
  by_cases z : Fb x = 0
  · exact z
  · obtain ⟨t, ht, et⟩ := hF.2 x z
    by_cases q : t < j
    · obtain ⟨u, hu, eu⟩ := hcov t q
      have := hlt u hu
      omega
    · have h1 := hx (by omega)
      by_cases w : t = j
      · subst w
        omega
      · have := hs j t (by omega) ht
        omega
theorem mG_end {ca cb c : Nat} {ka kb : Nat → Int} {Fa Fb : Int → Int64} {p : Nat → Int32} {n L R : Nat → Int64} (hFa : eF ca ka Fa) (hFb : eF cb kb Fb) (h : mG ca ka Fa cb kb Fb ca cb c p n L R) : pRep c p n L R Fa Fb := by
  obtain ⟨-, g4, g5, -, g7, g8⟩ := h
  refine ⟨g4, g5, fun x hx => ?_⟩
  rcases hx with hx | hx
  · obtain ⟨t, ht, et⟩ := hFa.2 x hx
    obtain ⟨u, hu, eu⟩ := g7 t ht
    exact ⟨u, hu, eu.trans et⟩
  · obtain ⟨t, ht, et⟩ := hFb.2 x hx
    obtain ⟨u, hu, eu⟩ := g8 t ht
    exact ⟨u, hu, eu.trans et⟩
/-! promise 13 -/
theorem cmp_iff {c : Nat} {p : Nat → Int32} {n L R : Nat → Int64} {Fa Fb : Int → Int64} (h : pRep c p n L R Fa Fb) : ((∃ i, i < c ∧ R i < L i) ↔ ∃ x, Fb x < Fa x) ∧ ((∃ i, i < c ∧ L i < R i) ↔ ∃ x, Fa x < Fb x) := by
  obtain ⟨-, h2, h3⟩ := h
  have up : ∀ x, ¬ Fa x = Fb x → ∃ i, i < c ∧ kk p n i = x := fun x hx => h3 x (by
    by_cases z : Fa x = 0
    · exact Or.inr (fun y => hx (by rw [z, y]))
    · exact Or.inl z)
  constructor
  · constructor
    · rintro ⟨i, hi, h⟩
      exact ⟨kk p n i, by rw [← (h2 i hi).1, ← (h2 i hi).2]; exact h⟩
    · rintro ⟨x, hx⟩
      obtain ⟨i, hi, e⟩ := up x (fun z => by rw [z] at hx; exact absurd hx (Int64.lt_irrefl))
      exact ⟨i, hi, by rw [(h2 i hi).1, (h2 i hi).2, e]; exact hx⟩
  · constructor
    · rintro ⟨i, hi, h⟩
      exact ⟨kk p n i, by rw [← (h2 i hi).1, ← (h2 i hi).2]; exact h⟩
    · rintro ⟨x, hx⟩
      obtain ⟨i, hi, e⟩ := up x (fun z => by rw [z] at hx; exact absurd hx (Int64.lt_irrefl))
      exact ⟨i, hi, by rw [(h2 i hi).1, (h2 i hi).2, e]; exact hx⟩
/-! the reference's rows -/
theorem mlay_y {c : Nat} {p : Nat → Int32} {n a : Nat → Int64} {G : Int → Int64} {S : Int → Prop} {q : Int32} {m : Int64} (h : mRep c p n a (gS G S)) (hx : ¬ S (kv q m)) (hv : ¬ G (kv q m) = 0) : mRep (c + 1) (upd p c q) (vp_updL n c m) (vp_updL a c (G (kv q m))) (gS G (fun y => S y ∨ y = kv q m)) := by
  rw [gS_add]
  exact mRep_app h (gS_no hx) hv
theorem mlay_n {c : Nat} {p : Nat → Int32} {n a : Nat → Int64} {G : Int → Int64} {S : Int → Prop} {x : Int} (h : mRep c p n a (gS G S)) (hv : G x = 0) : mRep c p n a (gS G (fun y => S y ∨ y = x)) := by
  rw [gS_skip hv]
  exact h
theorem mRep_cg {c : Nat} {p p' : Nat → Int32} {n n' a a' : Nat → Int64} {F : Int → Int64} (h : mRep c p n a F) (e : ∀ i, i < c → p' i = p i ∧ n' i = n i ∧ a' i = a i) : mRep c p' n' a' F := by
  obtain ⟨h1, h2, h3⟩ := h
  have ek : ∀ i, i < c → kk p' n' i = kk p n i := fun i hi => by
    unfold kk
    rw [(e i hi).1, (e i hi).2.1]
  refine ⟨fun i j hi hj q => h1 i j hi hj (by rw [← ek i hi, ← ek j hj]; exact q), ⟨fun i hi => by rw [ek i hi]; exact h2.1 i hi, fun x hx => ?_⟩, fun i hi => by rw [(e i hi).2.2, ek i hi]; exact h3 i hi⟩
  obtain ⟨i, hi, q⟩ := h2.2 x hx
  exact ⟨i, hi, by rw [ek i hi]; exact q⟩
theorem mlook_y {c i : Nat} {p : Nat → Int32} {n a : Nat → Int64} {F : Int → Int64} {x : Int} (h : mRep c p n a F) (hi : i < c) (e : kk p n i = x) : F x = a i := by
  rw [h.2.2 i hi, e]
theorem mlook_n {c : Nat} {p : Nat → Int32} {n a : Nat → Int64} {F : Int → Int64} {x : Int} (h : mRep c p n a F) (hno : ∀ i, i < c → ¬ kk p n i = x) : F x = 0 := by
  by_cases z : F x = 0
  · exact z
  · obtain ⟨i, hi, e⟩ := h.2.1.2 x z
    exact absurd e (hno i hi)
theorem mRep_set {c i : Nat} {p : Nat → Int32} {n a a' : Nat → Int64} {F : Int → Int64} {x : Int} {v : Int64} (h : mRep c p n a F) (hi : i < c) (e : kk p n i = x) (hv : ¬ v = 0) (ea : ∀ j, j < c → a' j = if j = i then v else a j) : mRep c p n a' (fUp F x v) := by
  obtain ⟨h2, h3, h4⟩ := h
  refine ⟨h2, ⟨fun j hj => ?_, fun y hy => ?_⟩, fun j hj => ?_⟩
  · by_cases z : kk p n j = x
    · rw [z, fUp_s]
      exact hv
    · rw [fUp_n z]
      exact h3.1 j hj
  · by_cases z : y = x
    · exact ⟨i, hi, by rw [e, z]⟩
    · rw [fUp_n z] at hy
      exact h3.2 y hy
  · rw [ea j hj]
    by_cases z : j = i
    · rw [if_pos z, z, e, fUp_s]
    · rw [if_neg z, fUp_n (fun q => z (h2 j i hj hi (q.trans e.symm)))]
      exact h4 j hj
/-- the last one comes into the gap -/
theorem mRep_del {c i : Nat} {p p' : Nat → Int32} {n n' a a' : Nat → Int64} {F : Int → Int64} {x : Int} (h : mRep c p n a F) (hi : i < c) (e : kk p n i = x) (e' : ∀ j, j < c - 1 → p' j = (if j = i then p (c - 1) else p j) ∧ n' j = (if j = i then n (c - 1) else n j) ∧ a' j = (if j = i then a (c - 1) else a j)) : mRep (c - 1) p' n' a' (fUp F x 0) := by
  obtain ⟨h2, h3, h4⟩ := h
  have key : ∀ j, j < c - 1 → kk p' n' j = if j = i then kk p n (c - 1) else kk p n j := by
    intro j hj
    unfold kk
    rw [(e' j hj).1, (e' j hj).2.1]
    by_cases z : j = i
    · rw [if_pos z, if_pos z, if_pos z]
    · rw [if_neg z, if_neg z, if_neg z]
  have nx : ∀ j, j < c → ¬ j = i → ¬ kk p n j = x := fun j hj z q => z (h2 j i hj hi (q.trans e.symm))
  refine ⟨fun j1 j2 hj1 hj2 q => ?_, ⟨fun j hj => ?_, fun y hy => ?_⟩, fun j hj => ?_⟩
  · rw [key j1 hj1, key j2 hj2] at q
    by_cases z1 : j1 = i <;> by_cases z2 : j2 = i
    · omega
    · rw [if_pos z1, if_neg z2] at q
      have := h2 _ _ (by omega) (by omega) q
      omega
    · rw [if_neg z1, if_pos z2] at q
      have := h2 _ _ (by omega) (by omega) q
      omega
    · rw [if_neg z1, if_neg z2] at q
      exact h2 _ _ (by omega) (by omega) q
  · rw [key j hj]
    by_cases z : j = i
    · rw [if_pos z, fUp_n (nx (c - 1) (by omega) (by omega))]
      exact h3.1 _ (by omega)
    · rw [if_neg z, fUp_n (nx j (by omega) z)]
      exact h3.1 _ (by omega)
  · have z : ¬ y = x := fun q => hy (by rw [q, fUp_s])
    rw [fUp_n z] at hy
    obtain ⟨j, hj, ej⟩ := h3.2 y hy
    have ji : ¬ j = i := fun q => z (by rw [← ej, q, e])
    by_cases z1 : j = c - 1
    · exact ⟨i, by omega, by rw [key i (by omega), if_pos rfl, ← z1]; exact ej⟩
    · exact ⟨j, by omega, by rw [key j (by omega), if_neg ji]; exact ej⟩
  · rw [key j hj, (e' j hj).2.2]
    by_cases z : j = i
    · rw [if_pos z, if_pos z, fUp_n (nx (c - 1) (by omega) (by omega))]
      exact h4 _ (by omega)
    · rw [if_neg z, if_neg z, fUp_n (nx j (by omega) z)]
      exact h4 _ (by omega)
/-- a row of more than 64 KINDS is too many -/
theorem mRep_big {c : Nat} {p : Nat → Int32} {n a : Nat → Int64} {F : Int → Int64} (h : mRep c p n a F) (hc : 64 < c) : ¬ eC F := eC_not h.1 h.2.1.1 hc
theorem mRep_C {c : Nat} {p : Nat → Int32} {n a : Nat → Int64} {F : Int → Int64} (h : mRep c p n a F) (hc : c ≤ 64) : eC F := eC_of h.2.1.2 hc
/-- a setting to 0 or over what is there never is too much -/
theorem up_C0 {F : Int → Int64} {x : Int} {v : Int64} (h : eC F) (hv : v = 0 ∨ ¬ F x = 0) : eC (fUp F x v) := by
  obtain ⟨c, k, hc, h1⟩ := h
  refine ⟨c, k, hc, fun y hy => ?_⟩
  by_cases z : y = x
  · rw [z, fUp_s] at hy
    rw [z]
    exact h1 x (hv.resolve_left hy)
  · rw [fUp_n z] at hy
    exact h1 y hy
theorem fUp_0 {F : Int → Int64} {x : Int} (h : F x = 0) : fUp F x 0 = F := by
  funext y
  by_cases z : y = x
  · rw [z, fUp_s, h]
  · rw [fUp_n z]
/-- the class's way to promise 15: what its loop holds gives the answer -/
theorem into_c {c : Nat} {p : Nat → Int32} {n L R : Nat → Int64} {Fa Fb : Int → Int64} (h : pRep c p n L R Fa Fb) {most few : Int64}
    (h1 : ∀ j, j < c → 0 < R j → (0 ≤ (L j).toInt → most.toInt ≤ iQ (L j) (R j)) ∧ (L j < 0 → most < 0))
    (h2 : (most < 0 ∧ ∃ j, j < c ∧ 0 < R j ∧ L j < 0) ∨ (∃ j, j < c ∧ 0 < R j ∧ 0 ≤ (L j).toInt ∧ most.toInt = iQ (L j) (R j)))
    (h3 : ∀ j, j < c → ¬ 0 < R j → ¬ iB (L j) (R j) ∧ iN (L j) (R j) ≤ few.toInt) (h4 : few.toInt = 0 ∨ ∃ j, j < c ∧ ¬ 0 < R j ∧ few.toInt = iN (L j) (R j)) :
    (few ≤ most → iR Fa Fb most) ∧ (¬ few ≤ most → iR Fa Fb (-1)) := by
  obtain ⟨-, g2, g3⟩ := h
  have few0 : 0 ≤ few.toInt := by
    rcases h4 with e | ⟨j, -, -, e⟩
    · omega
    · rw [e]
      exact iN_0 _ _
  constructor
  · intro hle
    rw [Int64.le_iff_toInt_le] at hle
    have mn : ¬ most < 0 := fun z => by
      have := z_lt0.mp z
      omega
    have pos : ∀ j, j < c → 0 < R j → ¬ L j < 0 := fun j hj hR z => mn ((h1 j hj hR).2 z)
    rcases h2 with ⟨z, -⟩ | ⟨j0, hj0, hR0, hL0, e0⟩
    · exact absurd z mn
    · refine Or.inr ⟨fun x hb => ?_, ⟨kk p n j0, ?_, ?_⟩, fun x hx => ?_, fun x => ?_⟩
      · by_cases z : ¬ Fa x = 0 ∨ ¬ Fb x = 0
        · obtain ⟨j, hj, e⟩ := g3 x z
          rw [← e, ← (g2 j hj).1, ← (g2 j hj).2] at hb
          by_cases q : 0 < R j
          · rcases hb with ⟨b1, -⟩ | ⟨-, b2⟩
            · exact pos j hj q b1
            · rw [b2] at q
              exact absurd q (by decide)
          · exact (h3 j hj q).1 hb
        · have za : Fa x = 0 := Classical.byContradiction fun q => z (Or.inl q)
          rw [za] at hb
          rcases hb with ⟨b1, -⟩ | ⟨b1, -⟩
          · exact absurd b1 (by decide)
          · exact absurd b1 (by decide)
      · rw [← (g2 j0 hj0).2]
        exact hR0
      · rw [← (g2 j0 hj0).1, ← (g2 j0 hj0).2]
        exact e0
      · obtain ⟨j, hj, e⟩ := g3 x (Or.inr (fun z => by rw [z] at hx; exact absurd hx (by decide)))
        rw [← e, ← (g2 j hj).1, ← (g2 j hj).2]
        rw [← e, ← (g2 j hj).2] at hx
        have := pos j hj hx
        exact (h1 j hj hx).1 (Int.not_lt.mp (fun z => this (z_lt0.mpr z)))
      · by_cases z : ¬ Fa x = 0 ∨ ¬ Fb x = 0
        · obtain ⟨j, hj, e⟩ := g3 x z
          rw [← e, ← (g2 j hj).1, ← (g2 j hj).2]
          by_cases q : 0 < R j
          · rw [iN_pos (fun w => absurd (z_lt0.mp w.2) (by have := z_0lt.mp q; omega))]
            omega
          · have := (h3 j hj q).2
            omega
        · have za : Fa x = 0 := Classical.byContradiction fun q => z (Or.inl q)
          rw [za, iN_pos (fun w => absurd w.1 (by decide))]
          omega
  · intro hle
    refine Or.inl ⟨rfl, ?_⟩
    rw [Int64.le_iff_toInt_le] at hle
    rcases h2 with ⟨-, j, hj, hR, hL⟩ | ⟨j0, hj0, hR0, hL0, e0⟩
    · exact Or.inl ⟨kk p n j, by rw [← (g2 j hj).1, ← (g2 j hj).2]; exact Or.inl ⟨hL, Int64.le_iff_toInt_le.mpr (by rw [z_0]; have := z_0lt.mp hR; omega)⟩⟩
    · have q0 : 0 ≤ iQ (L j0) (R j0) := z_tdiv_pp hL0 (by have := z_0lt.mp hR0; omega)
      rcases h4 with e | ⟨j, hj, -, e⟩
      · omega
      · exact Or.inr (Or.inr ⟨kk p n j0, kk p n j, by rw [← (g2 j0 hj0).2]; exact hR0, by rw [← (g2 j0 hj0).1, ← (g2 j0 hj0).2, ← (g2 j hj).1, ← (g2 j hj).2]; omega⟩)
theorem into_no {c : Nat} {p : Nat → Int32} {n L R : Nat → Int64} {Fa Fb : Int → Int64} (h : pRep c p n L R Fa Fb) (h1 : ∀ j, j < c → ¬ 0 < R j) : iR Fa Fb (-1) := by
  obtain ⟨-, g2, g3⟩ := h
  refine Or.inl ⟨rfl, Or.inr (Or.inl fun x hx => ?_)⟩
  obtain ⟨j, hj, e⟩ := g3 x (Or.inr (fun z => by rw [z] at hx; exact absurd hx (by decide)))
  exact h1 j hj (by rw [(g2 j hj).2, e]; exact hx)
theorem into_bad {c j : Nat} {p : Nat → Int32} {n L R : Nat → Int64} {Fa Fb : Int → Int64} (h : pRep c p n L R Fa Fb) (hj : j < c) (h1 : iB (L j) (R j)) : iR Fa Fb (-1) := by
  obtain ⟨-, g2, -⟩ := h
  refine Or.inl ⟨rfl, Or.inl ⟨kk p n j, ?_⟩⟩
  rw [← (g2 j hj).1, ← (g2 j hj).2]
  exact h1
end
