section
-- ===== PART A: goes FIRST, ahead of the names: the tables' words, and 'selects' of the private methods out of them =====
/-- a private method of a class that the tables say can be made, by its rows of tables_1 -/
def lw_okq (q : MethodName × Nat) : Prop := (q.1.cls ≠ "java/lang/invoke/MethodHandle" ∧ q.1.cls ≠ "java/lang/invoke/VarHandle") ∧ Cond.instantiable q.1.cls q.2 ∈ tables_1 ∧ Cond.privateMethod q.1 ∈ tables_1 ∧ Cond.instanceMethod q.1 ∈ tables_1
theorem lw_p0 : lw_okq (⟨"java/lang/Throwable", "fillInStackTrace", "(I)Ljava/lang/Throwable;"⟩, 6) := ⟨⟨by decide +kernel, by decide +kernel⟩, List.mem_of_getElem? (i := 139) (by decide +kernel), List.mem_of_getElem? (i := 137) (by decide +kernel), List.mem_of_getElem? (i := 138) (by decide +kernel)⟩
theorem lw_p1 : lw_okq (⟨"CoinBag$Bag", "placeFor", "(IJ)I"⟩, 4) := ⟨⟨by decide +kernel, by decide +kernel⟩, List.mem_of_getElem? (i := 24) (by decide +kernel), List.mem_of_getElem? (i := 193) (by decide +kernel), List.mem_of_getElem? (i := 194) (by decide +kernel)⟩
theorem lw_p2 : lw_okq (⟨"CoinBag$Bag", "holdsAt", "(IIJ)Z"⟩, 4) := ⟨⟨by decide +kernel, by decide +kernel⟩, List.mem_of_getElem? (i := 24) (by decide +kernel), List.mem_of_getElem? (i := 210) (by decide +kernel), List.mem_of_getElem? (i := 211) (by decide +kernel)⟩
theorem lw_p3 : lw_okq (⟨"CoinBag$Bag", "removeAt", "(I)V"⟩, 4) := ⟨⟨by decide +kernel, by decide +kernel⟩, List.mem_of_getElem? (i := 24) (by decide +kernel), List.mem_of_getElem? (i := 214) (by decide +kernel), List.mem_of_getElem? (i := 215) (by decide +kernel)⟩
theorem lw_p4 : lw_okq (⟨"CoinBag$Bag", "makeRoomAt", "(I)V"⟩, 4) := ⟨⟨by decide +kernel, by decide +kernel⟩, List.mem_of_getElem? (i := 24) (by decide +kernel), List.mem_of_getElem? (i := 221) (by decide +kernel), List.mem_of_getElem? (i := 222) (by decide +kernel)⟩
theorem lw_p5 : lw_okq (⟨"CoinBag", "combine", "(IIII)Z"⟩, 3) := ⟨⟨by decide +kernel, by decide +kernel⟩, List.mem_of_getElem? (i := 15) (by decide +kernel), List.mem_of_getElem? (i := 248) (by decide +kernel), List.mem_of_getElem? (i := 249) (by decide +kernel)⟩
theorem lw_p6 : lw_okq (⟨"CoinBag", "exchangeSpare", "(I)V"⟩, 3) := ⟨⟨by decide +kernel, by decide +kernel⟩, List.mem_of_getElem? (i := 15) (by decide +kernel), List.mem_of_getElem? (i := 280) (by decide +kernel), List.mem_of_getElem? (i := 281) (by decide +kernel)⟩
theorem lw_p7 : lw_okq (⟨"CoinBagModel", "wrong", "(IIII)I"⟩, 10) := ⟨⟨by decide +kernel, by decide +kernel⟩, List.mem_of_getElem? (i := 395) (by decide +kernel), List.mem_of_getElem? (i := 440) (by decide +kernel), List.mem_of_getElem? (i := 441) (by decide +kernel)⟩
theorem lw_p8 : lw_okq (⟨"CoinBagModel", "store", "(IIJJ)Z"⟩, 10) := ⟨⟨by decide +kernel, by decide +kernel⟩, List.mem_of_getElem? (i := 395) (by decide +kernel), List.mem_of_getElem? (i := 451) (by decide +kernel), List.mem_of_getElem? (i := 452) (by decide +kernel)⟩
theorem lw_p9 : lw_okq (⟨"CoinBagModel", "find", "(IIJ)I"⟩, 10) := ⟨⟨by decide +kernel, by decide +kernel⟩, List.mem_of_getElem? (i := 395) (by decide +kernel), List.mem_of_getElem? (i := 455) (by decide +kernel), List.mem_of_getElem? (i := 456) (by decide +kernel)⟩
theorem lw_p10 : lw_okq (⟨"CoinBagModel", "valueOf", "(IIJ)J"⟩, 10) := ⟨⟨by decide +kernel, by decide +kernel⟩, List.mem_of_getElem? (i := 395) (by decide +kernel), List.mem_of_getElem? (i := 463) (by decide +kernel), List.mem_of_getElem? (i := 464) (by decide +kernel)⟩
theorem lw_p11 : lw_okq (⟨"CoinBagModel", "added", "(JJ)J"⟩, 10) := ⟨⟨by decide +kernel, by decide +kernel⟩, List.mem_of_getElem? (i := 395) (by decide +kernel), List.mem_of_getElem? (i := 467) (by decide +kernel), List.mem_of_getElem? (i := 468) (by decide +kernel)⟩
theorem lw_p12 : lw_okq (⟨"CoinBagModel", "both", "(III)V"⟩, 10) := ⟨⟨by decide +kernel, by decide +kernel⟩, List.mem_of_getElem? (i := 395) (by decide +kernel), List.mem_of_getElem? (i := 477) (by decide +kernel), List.mem_of_getElem? (i := 478) (by decide +kernel)⟩
theorem lw_p13 : lw_okq (⟨"CoinBagModel", "begin", "()V"⟩, 10) := ⟨⟨by decide +kernel, by decide +kernel⟩, List.mem_of_getElem? (i := 395) (by decide +kernel), List.mem_of_getElem? (i := 481) (by decide +kernel), List.mem_of_getElem? (i := 482) (by decide +kernel)⟩
theorem lw_p14 : lw_okq (⟨"CoinBagModel", "subtracted", "(JJ)J"⟩, 10) := ⟨⟨by decide +kernel, by decide +kernel⟩, List.mem_of_getElem? (i := 395) (by decide +kernel), List.mem_of_getElem? (i := 485) (by decide +kernel), List.mem_of_getElem? (i := 486) (by decide +kernel)⟩
theorem lw_p15 : lw_okq (⟨"CoinBagModel", "lay", "(IJJ)V"⟩, 10) := ⟨⟨by decide +kernel, by decide +kernel⟩, List.mem_of_getElem? (i := 395) (by decide +kernel), List.mem_of_getElem? (i := 489) (by decide +kernel), List.mem_of_getElem? (i := 490) (by decide +kernel)⟩
def lw_privs_1 : List (MethodName × Nat) := [(⟨"java/lang/Throwable", "fillInStackTrace", "(I)Ljava/lang/Throwable;"⟩, 6), (⟨"CoinBag$Bag", "placeFor", "(IJ)I"⟩, 4), (⟨"CoinBag$Bag", "holdsAt", "(IIJ)Z"⟩, 4), (⟨"CoinBag$Bag", "removeAt", "(I)V"⟩, 4), (⟨"CoinBag$Bag", "makeRoomAt", "(I)V"⟩, 4), (⟨"CoinBag", "combine", "(IIII)Z"⟩, 3), (⟨"CoinBag", "exchangeSpare", "(I)V"⟩, 3), (⟨"CoinBagModel", "wrong", "(IIII)I"⟩, 10), (⟨"CoinBagModel", "store", "(IIJJ)Z"⟩, 10), (⟨"CoinBagModel", "find", "(IIJ)I"⟩, 10), (⟨"CoinBagModel", "valueOf", "(IIJ)J"⟩, 10), (⟨"CoinBagModel", "added", "(JJ)J"⟩, 10), (⟨"CoinBagModel", "both", "(III)V"⟩, 10), (⟨"CoinBagModel", "begin", "()V"⟩, 10), (⟨"CoinBagModel", "subtracted", "(JJ)J"⟩, 10), (⟨"CoinBagModel", "lay", "(IJJ)V"⟩, 10)]
theorem lw_r1 : ∀ q ∈ lw_privs_1, lw_okq q := List.forall_mem_cons.mpr ⟨lw_p0, List.forall_mem_cons.mpr ⟨lw_p1, List.forall_mem_cons.mpr ⟨lw_p2, List.forall_mem_cons.mpr ⟨lw_p3, List.forall_mem_cons.mpr ⟨lw_p4, List.forall_mem_cons.mpr ⟨lw_p5, List.forall_mem_cons.mpr ⟨lw_p6, List.forall_mem_cons.mpr ⟨lw_p7, List.forall_mem_cons.mpr ⟨lw_p8, List.forall_mem_cons.mpr ⟨lw_p9, List.forall_mem_cons.mpr ⟨lw_p10, List.forall_mem_cons.mpr ⟨lw_p11, List.forall_mem_cons.mpr ⟨lw_p12, List.forall_mem_cons.mpr ⟨lw_p13, List.forall_mem_cons.mpr ⟨lw_p14, List.forall_mem_cons.mpr ⟨lw_p15, fun _ h => absurd h List.not_mem_nil⟩⟩⟩⟩⟩⟩⟩⟩⟩⟩⟩⟩⟩⟩⟩⟩
theorem lw_p16 : lw_okq (⟨"CoinBagModel", "becomes", "(I)Z"⟩, 10) := ⟨⟨by decide +kernel, by decide +kernel⟩, List.mem_of_getElem? (i := 395) (by decide +kernel), List.mem_of_getElem? (i := 493) (by decide +kernel), List.mem_of_getElem? (i := 494) (by decide +kernel)⟩
theorem lw_p17 : lw_okq (⟨"CoinBagModel", "multiplied", "(JJ)J"⟩, 10) := ⟨⟨by decide +kernel, by decide +kernel⟩, List.mem_of_getElem? (i := 395) (by decide +kernel), List.mem_of_getElem? (i := 505) (by decide +kernel), List.mem_of_getElem? (i := 506) (by decide +kernel)⟩
theorem lw_p18 : lw_okq (⟨"CoinBagModel", "inOrder", "(II)I"⟩, 10) := ⟨⟨by decide +kernel, by decide +kernel⟩, List.mem_of_getElem? (i := 395) (by decide +kernel), List.mem_of_getElem? (i := 538) (by decide +kernel), List.mem_of_getElem? (i := 539) (by decide +kernel)⟩
theorem lw_p19 : lw_okq (⟨"CoinBagModel", "isBefore", "(III)Z"⟩, 10) := ⟨⟨by decide +kernel, by decide +kernel⟩, List.mem_of_getElem? (i := 395) (by decide +kernel), List.mem_of_getElem? (i := 542) (by decide +kernel), List.mem_of_getElem? (i := 543) (by decide +kernel)⟩
def lw_privs_2 : List (MethodName × Nat) := [(⟨"CoinBagModel", "becomes", "(I)Z"⟩, 10), (⟨"CoinBagModel", "multiplied", "(JJ)J"⟩, 10), (⟨"CoinBagModel", "inOrder", "(II)I"⟩, 10), (⟨"CoinBagModel", "isBefore", "(III)Z"⟩, 10)]
theorem lw_r2 : ∀ q ∈ lw_privs_2, lw_okq q := List.forall_mem_cons.mpr ⟨lw_p16, List.forall_mem_cons.mpr ⟨lw_p17, List.forall_mem_cons.mpr ⟨lw_p18, List.forall_mem_cons.mpr ⟨lw_p19, fun _ h => absurd h List.not_mem_nil⟩⟩⟩⟩
def lw_privs : List (MethodName × Nat) := lw_privs_1 ++ (lw_privs_2)
def lw_tbl : List Cond := k2_sels lw_privs ++ tables_1
theorem lw_privs_ok : ∀ q ∈ lw_privs, lw_okq q := by
  show ∀ q ∈ lw_privs_1 ++ (lw_privs_2), lw_okq q
  exact List.forall_mem_append.mpr ⟨lw_r1, lw_r2⟩
end
section
/-! ===== BEGIN words of one list among another's, by their places ===== -/
theorem goodIn_r {big : List Cond} (ws : List Cond) (ps : List Nat) (hp : ws = ps.filterMap (fun i => big[i]?)) (h : ws.all goodWord = true) : GoodIn big ws := by
  intro w hw
  have h1 := List.all_eq_true.mp h w hw
  rw [hp] at hw
  obtain ⟨i, -, hi⟩ := List.mem_filterMap.mp hw
  have hm : w ∈ big := by first | exact List.mem_of_getElem? hi | exact List.getElem?_mem hi
  exact ⟨hm, good_of_word h1⟩
theorem goodIn_app {big a b : List Cond} (ha : GoodIn big a) (hb : GoodIn big b) : GoodIn big (a ++ b) := fun w h => (List.mem_append.mp h).elim (ha w) (hb w)
theorem goodIn_ca {big a b : List Cond} {c : Cond} (ha : GoodIn big (c :: a)) (hb : GoodIn big b) : GoodIn big (c :: (a ++ b)) := fun w h => (List.mem_cons.mp h).elim (fun e => ha w (List.mem_cons.mpr (Or.inl e))) (fun h => (List.mem_append.mp h).elim (fun h => ha w (List.mem_cons.mpr (Or.inr h))) (hb w))
theorem goodIn_sub {big ws : List Cond} (hm : ∀ w ∈ ws, w ∈ big) (h : ws.all goodWord = true) : GoodIn big ws := fun w hw => ⟨hm w hw, good_of_word (List.all_eq_true.mp h w hw)⟩
/-! ===== END ===== -/

/-! ===== BEGIN exceptions that leave a method, and their catching by the caller (launches without stack traces) ===== -/
section VXA
/-! The laws vx_back, vx_callV, vx_callS, vx_callSW, vx_throw0, vx_throwS follow proofs of the library, with one case more: JvmDerived/Free/Laws.lean (Back.of_free), Shelf42/LK1.lean (callV, callS), Shelf/KitTraced.lean (throwNew0V, throwNewS). -/
/-- where a method has thrown q: the class by its name, the cell, what was written, the world -/
def vx_T (XC : String → State → State → Prop) (st : State) (q : Addr) (t : State) (mc ms : Nat) (free : Addr → Prop) : Prop :=
  ∃ (E : String) (ce : Cell) (L : List Loc), XC E st t ∧ t.heap[q]? = some ce ∧ ce.vm = .none ∧ st.vm.findClass E = some ce.cls ∧ st.WarmedH t.vm ∧ st.sameButNew ({ t with vm := st.vm } : State) L mc ms ∧ ∀ z ∈ L, free z.base
def vx_Q (Qc : Array Value → State → Outcome → State → Prop) (XC : String → State → State → Prop) (mc ms : Nat) (free : Addr → Prop) : Array Value → State → Outcome → State → Prop := fun a st o t =>
  (Qc a st o t ∧ ∃ L, FrameEnd st o t L mc ms ∧ ∀ q ∈ L, free q.base) ∨ ∃ q, o = .threw q ∧ vx_T XC st q t mc ms free
/-- a callee that returns or throws -/
def vx_Met (l : Launch) (y : MethodName) (ws : List Cond) (rm : Room) (Pc : Array Value → State → Prop) (Qc : Array Value → State → Outcome → State → Prop) (XC : String → State → State → Prop) (mc ms : Nat) (free : Addr → Prop) : Prop :=
  MetFree l y (headSpec ws rm) Pc (fun _ _ _ _ _ => True) (vx_Q Qc XC mc ms free)
def vx_Post (XC : String → State → State → Prop) (mc ms : Nat) (free : Addr → Prop) : Pt → Array Value → Addr → Pt → Prop := fun A a q B =>
  ∃ (g : JFrame) (mk : MethodId) (t : State) (L : List Loc) (E : String) (ce : Cell), B.U.heap = t.heap ∧ B.U.vm = t.vm ∧ XC E (A.U.calling g mk a) t ∧ t.heap[q]? = some ce ∧ ce.vm = .none ∧ A.U.vm.findClass E = some ce.cls ∧ B.locs = A.locs ++ L ∧ (∀ z ∈ L, free z.base) ∧ B.cells = A.cells + mc ∧ B.slots = A.slots + ms
def vx_Back (l : Launch) (R : Room) (p : Program) (e : Env) (below : List Frame) (s : State) (sargs : Array Value) (y : MethodName) (len W9 : Nat)
    (Pre : Pt → Array Value → Prop) (Post : Pt → Array Value → Option Value → Pt → Prop) (PostX : Pt → Array Value → Addr → Pt → Prop) : Prop :=
  ∀ (m : MethodId) (meth : Method) (c : Code) (A : Pt) (g : JFrame) (ig : Instr) (mk : MethodId) (a : Array Value),
    Stand p l e R s m sargs below meth c A.U A.locs A.cells A.slots → g.method = m → g.locals.size = c.maxLocals → decode c.code g.pc = .ok (ig, len) →
    2 * g.monitorRoom + (g.stack.map fun v => v.category).sum ≤ W9 → A.U.methodNamed? y = some mk → Pre A a →
    (∃ (v : Option Value) (B : Pt), Stand p l e R s m sargs below meth c B.U B.locs B.cells B.slots ∧ Post A a v B ∧
      Steps p.tables e below (doInvoke e (A.U.setTop g) [] mk a).1 (B.U.setTop { g with pc := g.pc + len, stack := v.toList ++ g.stack })) ∨
    (∃ (q : Addr) (B : Pt), Stand p l e R s m sargs below meth c B.U B.locs B.cells B.slots ∧ PostX A a q B ∧
      Steps p.tables e below (doInvoke e (A.U.setTop g) [] mk a).1 ((B.U.setTop g).pushFrame (.throwing q)))
section Payer
variable {l : Launch} {R : Room} {p : Program} {e : Env} {below : List Frame} {s : State} {sargs : Array Value} {y : MethodName} {len W9 : Nat}
theorem vx_back {ws : List Cond} {rm : Room} {Pc : Array Value → State → Prop} {Qc : Array Value → State → Outcome → State → Prop} {XC : String → State → State → Prop} {mc ms : Nat} {free : Addr → Prop} {bytes : ByteArray} {maxL : Nat} {ret : Option FieldType}
    (hM : vx_Met l y ws rm Pc Qc XC mc ms free) (hblind : FrameBlind Pc) (hrc : rm.cells = mc) (hrs : rm.slots = ms)
    (hframes : rm.frames + 1 ≤ R.frames) (hlocals : W9 + (maxL + 11) + rm.locals ≤ R.locals)
    (hws : ∀ w ∈ ws, ∀ a' U, s.WarmedH U.vm → w.before a' U = true) (hcode : Cond.code y bytes maxL ret ∈ ws) (hinit : ∀ a' U, s.WarmedH U.vm → (Cond.initialized y.cls).before a' U = true) :
    vx_Back l R p e below s sargs y len W9 (PreOf R mc ms Pc) (PostOf Qc mc ms free) (vx_Post XC mc ms free) := by
  intro m meth c A g ig mk a X hg hsize hdg hW hn hp
  have h1 : (headSpec ws rm).pre.before a A.U = true := atoms_intro fun w hw => hws w hw _ _ X.warmed
  have h2 : (Cond.code y bytes maxL ret).before a A.U = true := hws _ hcode _ _ X.warmed
  have h3 : (Cond.initialized y.cls).before a A.U = true := hinit _ _ X.warmed
  have h4 : A.cells + (headSpec ws rm).room.cells ≤ R.cells := by rw [show (headSpec ws rm).room.cells = mc from hrc]; exact hp.1
  have h5 : A.slots + (headSpec ws rm).room.slots ≤ R.slots := by rw [show (headSpec ws rm).room.slots = ms from hrs]; exact hp.2.1
  have hPc : Pc a (A.U.calling g mk a) := hblind _ _ _ _ hp.2.2
  obtain ⟨U, Ls, c0, s0⟩ := A
  dsimp only [Pt.U, Pt.locs, Pt.cells, Pt.slots] at h1 h2 h3 h4 h5 X hn hPc ⊢
  obtain ⟨methY, cY, hmY, hcY, -, hlY, -, -, -, -⟩ := Cond.code_spec hn h2
  obtain ⟨kY, hkY, -⟩ := className_of_methodNamed hn
  have hinitY : kY.init = .initialized := Cond.initialized_spec (findClass_of_methodNamed hn) hkY h3
  have h : At U g.method c below := by rw [hg]; exact X.here
  have hlocals9 : W9 + (maxL + 11) + (headSpec ws rm).room.locals ≤ R.locals := hlocals
  have happ : (headSpec ws rm).appliesLoose y e.platform (U.calling g mk a) = true :=
    Spec.appliesLoose_calling (g := g) h hdg hn hkY hinitY
      (X.room_calling (g := g) (R' := (headSpec ws rm).room) hsize hmY hcY hframes (by rw [hlY]; omega) h4 h5) h1
  obtain ⟨mid, hmid⟩ := h.above
  have hfr : (U.setTop g).frames = (.java g :: mid) ++ below := by rw [State.frames_setTop' g h.top, hmid]; rfl
  obtain ⟨o, s₂, hsteps, -, hend, hq⟩ := Steps.callFree hM p X.admits X.cas X.clock (acts := []) hfr happ hPc trivial
  have hq' : vx_Q Qc XC mc ms free a (U.calling g mk a) o s₂ := hq
  rw [State.frames_setTop' g h.top] at hend
  obtain ⟨g₀, hg0⟩ := Option.isSome_iff_exists.mp h.top
  obtain ⟨r, hr⟩ := State.topJava?_eq_some.mp hg0
  have hr' : (({ U with heap := s₂.heap, slotsUsed := s₂.slotsUsed } : State).setVm s₂.vm).frames = .java g₀ :: r := hr
  rcases hq' with ⟨hqc, L, hfe, hL⟩ | ⟨q, rfl, E, ce, L, hx, hce, hcv, hcl, hW₂, hsm, hL⟩
  · obtain ⟨⟨v, rfl⟩, hW₂, e2, q2, q3, q4, q5, q6⟩ := id hfe
    have e3 : s₂ = ({ (U.calling g mk a).setFrames s₂.frames with heap := s₂.heap, slotsUsed := s₂.slotsUsed } : State).setVm s₂.vm := by
      have : s₂ = ({ s₂ with vm := (U.calling g mk a).vm } : State).setVm s₂.vm := rfl
      rw [e2] at this
      exact this
    obtain ⟨c₂, i₂, len₂, hc₂, hd₂, hf₂⟩ := hend
    have hW' : U.WarmedH s₂.vm := hW₂
    have hcc : c₂ = c := by
      have h1 : s₂.code? g.method = U.code? g.method := by
        rw [State.code?_eq, State.code?_eq, hW'.alike.method?]
      exact Option.some.inj (hc₂.symm.trans (h1.trans h.code))
    subst hcc
    have hlen : len₂ = len := by rw [hdg] at hd₂; cases hd₂; rfl
    subst hlen
    have hs₂ : s₂ = (({ U with heap := s₂.heap, slotsUsed := s₂.slotsUsed } : State).setVm s₂.vm).setTop { g with pc := g.pc + len₂, stack := v.toList ++ g.stack } := by
      refine e3.trans ?_
      rw [hf₂, State.calling_eq h.top, State.setFrames_setFrames, State.setTop_of_frames _ hr', hr]
      rfl
    have hsame : U.sameButNew ({ U with heap := s₂.heap, slotsUsed := s₂.slotsUsed } : State) L mc ms := by
      refine ⟨?_, q2, q3, q4, q5, q6⟩
      obtain ⟨t, ht, -⟩ := State.frames_cons hr
      show ({ U with heap := s₂.heap, slotsUsed := s₂.slotsUsed } : State) = { U.setFrames U.frames with heap := s₂.heap, slotsUsed := s₂.slotsUsed }
      rw [State.setFrames_self ht]
    subst hg
    refine Or.inl ⟨v, ⟨(({ U with heap := s₂.heap, slotsUsed := s₂.slotsUsed } : State).setVm s₂.vm), Ls ++ L, c0 + mc, s0 + ms⟩,
      ⟨X.admits, X.cas, X.clock, X.frames, X.room, X.hears, X.method, X.code, (X.here.setHeapUsed s₂.heap s₂.slotsUsed).setVm hW'.alike, X.tail, State.WarmedH.trans X.warmed hW', X.limits, X.bytes, X.same.trans (hsame.setVm s.vm)⟩,
      ⟨g, mk, s₂, L, rfl, rfl, hqc, rfl, hL, rfl, rfl⟩, ?_⟩
    show Steps p.tables e below _ ((({ U with heap := s₂.heap, slotsUsed := s₂.slotsUsed } : State).setVm s₂.vm).setTop { g with pc := g.pc + len₂, stack := v.toList ++ g.stack })
    rw [← hs₂]
    exact hsteps
  · obtain ⟨e2, q2, q3, q4, q5, q6⟩ := id hsm
    have e3 : s₂ = ({ (U.calling g mk a).setFrames s₂.frames with heap := s₂.heap, slotsUsed := s₂.slotsUsed } : State).setVm s₂.vm := by
      have : s₂ = ({ s₂ with vm := (U.calling g mk a).vm } : State).setVm s₂.vm := rfl
      rw [e2] at this
      exact this
    have hf₂ : s₂.frames = .throwing q :: .java g :: U.frames.tail := hend
    have hW' : U.WarmedH s₂.vm := hW₂
    have hs₂ : s₂ = ((({ U with heap := s₂.heap, slotsUsed := s₂.slotsUsed } : State).setVm s₂.vm).setTop g).pushFrame (.throwing q) := by
      refine e3.trans ?_
      rw [hf₂, State.calling_eq h.top, State.setFrames_setFrames, State.pushFrame, State.frames_setTop _ hr', State.setTop_of_frames _ hr', State.setFrames_setFrames, hr]
      rfl
    have hsame : U.sameButNew ({ U with heap := s₂.heap, slotsUsed := s₂.slotsUsed } : State) L mc ms := by
      refine ⟨?_, q2, q3, q4, q5, q6⟩
      obtain ⟨t, ht, -⟩ := State.frames_cons hr
      show ({ U with heap := s₂.heap, slotsUsed := s₂.slotsUsed } : State) = { U.setFrames U.frames with heap := s₂.heap, slotsUsed := s₂.slotsUsed }
      rw [State.setFrames_self ht]
    subst hg
    refine Or.inr ⟨q, ⟨(({ U with heap := s₂.heap, slotsUsed := s₂.slotsUsed } : State).setVm s₂.vm), Ls ++ L, c0 + mc, s0 + ms⟩,
      ⟨X.admits, X.cas, X.clock, X.frames, X.room, X.hears, X.method, X.code, (X.here.setHeapUsed s₂.heap s₂.slotsUsed).setVm hW'.alike, X.tail, State.WarmedH.trans X.warmed hW', X.limits, X.bytes, X.same.trans (hsame.setVm s.vm)⟩,
      ⟨g, mk, s₂, L, E, ce, rfl, rfl, hx, hce, hcv, hcl, rfl, hL, rfl, rfl⟩, ?_⟩
    show Steps p.tables e below _ (((({ U with heap := s₂.heap, slotsUsed := s₂.slotsUsed } : State).setVm s₂.vm).setTop g).pushFrame (.throwing q))
    rw [← hs₂]
    exact hsteps
end Payer
section Calls
variable {p : Program} {l : Launch} {e : Env} {R : Room} {s : State} {m : MethodId} {args : Array Value} {below : List Frame} {meth : Method} {c : Code} {T : State} {locs : List Loc} {cells slots : Nat}
theorem vx_callV (X : Stand p l e R s m args below meth c T locs cells slots) (hexec : p.tables.exec = Jvm.exec) {own C : String} {index : Nat} {y : MethodName} {bytes : ByteArray} {maxL : Nat} {ret : Option FieldType}
    (hown : s.vm.findClass own = some m.cls) (hlink : (Cond.methodLink own index y).before args s = true) (hinst : (Cond.instanceMethod y).before args s = true) (hsel : (Cond.selects C y y).before args s = true)
    (hcode : (Cond.code y bytes maxL ret).before args s = true) (hy : y.cls ≠ "java/lang/invoke/MethodHandle" ∧ y.cls ≠ "java/lang/invoke/VarHandle")
    {W9 : Nat} {Pre : Pt → Array Value → Prop} {Post : Pt → Array Value → Option Value → Pt → Prop} {PostX : Pt → Array Value → Addr → Pt → Prop} (hK : vx_Back l R p e below s args y 3 W9 Pre Post PostX)
    {b : Addr} {cellB : Cell} (hcell : T.heap[b]? = some cellB) (hobj : cellB.vm.isStatics = false) (hcls : s.vm.findClass C = some cellB.cls)
    {g : JFrame} (hg : g.method = m) (hsize : g.locals.size = c.maxLocals) {argsL rest : List Value} (hlen : ∀ sig, parseMethodDescriptor y.desc = some sig → argsL.length = sig.parameters.length)
    (hstack : g.stack = argsL.reverse ++ .ref b :: rest) (hW : 2 * g.monitorRoom + (rest.map fun v => v.category).sum ≤ W9) (hdg : decode c.code g.pc = .ok (.invokevirtual index, 3))
    (hpre : ∀ vm₁, s.WarmedH vm₁ → Pre ⟨T.setVm vm₁, locs, cells, slots⟩ (Value.ref b :: argsL).toArray) :
    (∃ (v : Option Value) (vm₁ : Vm) (B : Pt), s.WarmedH vm₁ ∧ Stand p l e R s m args below meth c B.U B.locs B.cells B.slots ∧ Post ⟨T.setVm vm₁, locs, cells, slots⟩ (Value.ref b :: argsL).toArray v B ∧
      ∀ target, Steps p.tables e below (B.U.setTop { g with pc := g.pc + 3, stack := v.toList ++ rest }) target → Steps p.tables e below (T.setTop g) target) ∨
    (∃ (q : Addr) (vm₁ : Vm) (B : Pt), s.WarmedH vm₁ ∧ Stand p l e R s m args below meth c B.U B.locs B.cells B.slots ∧ PostX ⟨T.setVm vm₁, locs, cells, slots⟩ (Value.ref b :: argsL).toArray q B ∧
      Steps p.tables e below (T.setTop g) ((B.U.setTop { g with stack := rest }).pushFrame (.throwing q))) := by
  obtain ⟨mk, methM, hnamed, hmethM, hstM, habM⟩ := Cond.instanceMethod_spec hinst
  obtain ⟨methM', cM, hmethM', -, -, -, -, -, -, hsigM⟩ := Cond.code_spec hnamed hcode
  cases hmethM.symm.trans hmethM'
  obtain ⟨c2, r2, m2, q1, q2, q3, q4, kP, hkP, hkPi⟩ := Cond.selects_spec hsel
  cases hcls.symm.trans q1
  cases (State.methodFound?_of_named hnamed hy).symm.trans q2
  cases hnamed.symm.trans q3
  have hselP : selectMethod e.platform s.vm cellB.cls mk = .method mk := by rw [Launch.admits_selectMethod X.admits]; exact q4
  obtain ⟨vm₁, X₁, hstep₁⟩ := X.invokevirtual hexec hown hlink hnamed hmethM hstM hkP hkPi hy (a := b) (cell := cellB) hcell
    (fun z h => by rw [h] at hobj; cases hobj) hselP hmethM habM hkP hkPi (g := g) hg (argsL := argsL) (rest := rest) (hlen _ hsigM) hstack hdg
  rcases hK m meth c ⟨T.setVm vm₁, locs, cells, slots⟩ { g with stack := rest } (.invokevirtual index) mk (Value.ref b :: argsL).toArray X₁ hg hsize hdg hW (X₁.named hnamed) (hpre vm₁ X₁.warmed) with ⟨v, B, X', hpost, hsteps⟩ | ⟨q, B, X', hpost, hsteps⟩
  · exact Or.inl ⟨v, vm₁, B, X₁.warmed, X', hpost, fun target h => hstep₁ _ fun acts => by rw [doInvoke_state]; exact hsteps.trans h⟩
  · exact Or.inr ⟨q, vm₁, B, X₁.warmed, X', hpost, hstep₁ _ fun acts => by rw [doInvoke_state]; exact hsteps⟩
theorem vx_callS (X : Stand p l e R s m args below meth c T locs cells slots) (hexec : p.tables.exec = Jvm.exec) {own : String} {index : Nat} {y : MethodName} {bytes : ByteArray} {maxL : Nat} {ret : Option FieldType}
    (hown : s.vm.findClass own = some m.cls) (hlink : (Cond.methodLink own index y).before args s = true) (hstat : (Cond.static y).before args s = true) (hinit : (Cond.initialized y.cls).before args s = true)
    (hcode : (Cond.code y bytes maxL ret).before args s = true) (hy : y.cls ≠ "java/lang/invoke/MethodHandle" ∧ y.cls ≠ "java/lang/invoke/VarHandle")
    {W9 : Nat} {Pre : Pt → Array Value → Prop} {Post : Pt → Array Value → Option Value → Pt → Prop} {PostX : Pt → Array Value → Addr → Pt → Prop} (hK : vx_Back l R p e below s args y 3 W9 Pre Post PostX)
    {g : JFrame} (hg : g.method = m) (hsize : g.locals.size = c.maxLocals) {argsL rest : List Value} (hlen : ∀ sig, parseMethodDescriptor y.desc = some sig → argsL.length = sig.parameters.length)
    (hstack : g.stack = argsL.reverse ++ rest) (hW : 2 * g.monitorRoom + (rest.map fun v => v.category).sum ≤ W9) (hdg : decode c.code g.pc = .ok (.invokestatic index, 3))
    (hpre : ∀ vm₁, s.WarmedH vm₁ → Pre ⟨T.setVm vm₁, locs, cells, slots⟩ argsL.toArray) :
    (∃ (v : Option Value) (vm₁ : Vm) (B : Pt), s.WarmedH vm₁ ∧ Stand p l e R s m args below meth c B.U B.locs B.cells B.slots ∧ Post ⟨T.setVm vm₁, locs, cells, slots⟩ argsL.toArray v B ∧
      ∀ target, Steps p.tables e below (B.U.setTop { g with pc := g.pc + 3, stack := v.toList ++ rest }) target → Steps p.tables e below (T.setTop g) target) ∨
    (∃ (q : Addr) (vm₁ : Vm) (B : Pt), s.WarmedH vm₁ ∧ Stand p l e R s m args below meth c B.U B.locs B.cells B.slots ∧ PostX ⟨T.setVm vm₁, locs, cells, slots⟩ argsL.toArray q B ∧
      Steps p.tables e below (T.setTop g) ((B.U.setTop { g with stack := rest }).pushFrame (.throwing q))) := by
  obtain ⟨mk, hnamed⟩ := Cond.code_named hcode
  obtain ⟨methM, cM, hmethM, -, -, -, -, -, -, hsigM⟩ := Cond.code_spec hnamed hcode
  have hstatic : methM.isStatic = true := Cond.static_spec hnamed hmethM hstat
  obtain ⟨kP, hkP, -⟩ := className_of_methodNamed hnamed
  have hinitP : kP.init = .initialized := Cond.initialized_spec (findClass_of_methodNamed hnamed) hkP hinit
  obtain ⟨vm₁, X₁, hstep₁⟩ := X.invokestatic hexec hown hlink hnamed hmethM hstatic hkP hinitP hy (g := g) hg (argsL := argsL) (rest := rest) (hlen _ hsigM) hstack hdg
  rcases hK m meth c ⟨T.setVm vm₁, locs, cells, slots⟩ { g with stack := rest } (.invokestatic index) mk argsL.toArray X₁ hg hsize hdg hW (X₁.named hnamed) (hpre vm₁ X₁.warmed) with ⟨v, B, X', hpost, hsteps⟩ | ⟨q, B, X', hpost, hsteps⟩
  · exact Or.inl ⟨v, vm₁, B, X₁.warmed, X', hpost, fun target h => hstep₁ _ fun acts => by rw [doInvoke_state]; exact hsteps.trans h⟩
  · exact Or.inr ⟨q, vm₁, B, X₁.warmed, X', hpost, hstep₁ _ fun acts => by rw [doInvoke_state]; exact hsteps⟩
end Calls
theorem vx_cls {s : State} {T : State} {vm₁ : Vm} {E : String} {k : ClassId} (hW : s.WarmedH vm₁) (h : (T.setVm vm₁).vm.findClass E = some k) : s.vm.findClass E = some k := by
  have h1 : vm₁.findClass E = some k := h
  rw [hW.alike.findClass] at h1
  exact h1
/-- the method's frame g, with q thrown over it -/
def vx_W (p : Program) (l : Launch) (e : Env) (R : Room) (s : State) (m : MethodId) (args : Array Value) (below : List Frame) (meth : Method) (c : Code) (H : Heap) (locs : List Loc) (cells slots : Nat) (Q : State → Prop) (g : JFrame) (q : Addr) : Prop :=
  ∀ T : State, T.heap = H → Stand p l e R s m args below meth c T locs cells slots → ∃ t, Steps p.tables e below ((T.setTop g).pushFrame (.throwing q)) t ∧ Q t
def vx_Run (p : Program) (l : Launch) (e : Env) (R : Room) (s : State) (m : MethodId) (args : Array Value) (below : List Frame) (meth : Method) (c : Code) (H : Heap) (locs : List Loc) (cells slots mc ms : Nat) (g : JFrame) (rest : List Value) (Qa : State → Outcome → State → Prop) (XC : String → State → State → Prop) (free : Addr → Prop) : Prop :=
  ∀ T : State, T.heap = H → Stand p l e R s m args below meth c T locs cells slots →
    (∃ (v : Option Value) (st₀ t T' : State) (L : List Loc), st₀.heap = H ∧ Stand p l e R s m args below meth c T' (locs ++ L) (cells + mc) (slots + ms) ∧ (∀ q ∈ L, free q.base) ∧ T'.heap = t.heap ∧ T'.vm = t.vm ∧ Qa st₀ (.returned v) t ∧
      Goes p e below T g T' { g with pc := g.pc + 3, stack := v.toList ++ rest }) ∨
    (∃ (q : Addr) (st₀ t T' : State) (L : List Loc) (E : String) (ce : Cell), st₀.heap = H ∧ Stand p l e R s m args below meth c T' (locs ++ L) (cells + mc) (slots + ms) ∧ (∀ z ∈ L, free z.base) ∧ T'.heap = t.heap ∧ T'.vm = t.vm ∧ XC E st₀ t ∧ t.heap[q]? = some ce ∧ ce.vm = .none ∧ s.vm.findClass E = some ce.cls ∧
      Steps p.tables e below (T.setTop g) ((T'.setTop { g with stack := rest }).pushFrame (.throwing q)))
def vx_X {S : Type} (px : S → Prop) (B : String → S → State → Prop) (A : Nat → Prop) : String → State → State → Prop := fun E st t => ∃ u : S, px u ∧ B E u t ∧ va_F A st t
section Runs
variable {p : Program} {l : Launch} {e : Env} {R : Room} {s : State} {m : MethodId} {args : Array Value} {below : List Frame} {meth : Method} {c : Code} {H : Heap} {locs : List Loc} {cells slots : Nat}
variable {y : MethodName} {bytes cc : ByteArray} {maxL nL mc ms n index : Nat} {ret : Option FieldType} {ws : List Cond} {rm : Room} {Pc : Array Value → State → Prop} {Qc : Array Value → State → Outcome → State → Prop} {XC : String → State → State → Prop} {free : Addr → Prop} {Ts : List Cond} {own C : String} {b : Addr} {As rest : List Value} {g : JFrame}
theorem vx_callBack (cb : CallB R s args own index y bytes maxL ret ws rm mc ms n) (hM : vx_Met l y ws rm Pc Qc XC mc ms free) (hbl : FrameBlind Pc) : vx_Back l R p e below s args y 3 8 (PreOf R mc ms Pc) (PostOf Qc mc ms free) (vx_Post XC mc ms free) := by
  obtain ⟨hrc, hrs, hfr, hlo, hws, hcw, -, hini, -⟩ := cb
  exact vx_back (bytes := bytes) (maxL := maxL) (ret := ret) hM hbl hrc hrs hfr hlo hws hcw (fun a' U hW => word_at hW (Or.inl (by first | rfl | simp [Cond.onTables, Cond.keeps, Cond.steady])) hini)
theorem vx_runV (S : CallFix p m c cc nL s args Ts own) (hM : vx_Met l y ws rm Pc Qc XC mc ms free) (cw : CallW R s args own C index y bytes maxL ret ws rm mc ms n) (hp : PreV s H C b Pc As)
    (hg : g.method = m) (hn : As.length = n) (hsize : g.locals.size = nL) (hstack : g.stack = As.reverse ++ .ref b :: rest) (hW : 2 * g.monitorRoom + (rest.map fun v => v.category).sum ≤ 8) (hdg : decode cc g.pc = .ok (.invokevirtual index, 3)) (hf : cells + mc ≤ R.cells ∧ slots + ms ≤ R.slots) :
    vx_Run p l e R s m args below meth c H locs cells slots mc ms g rest (Qc (Value.ref b :: As).toArray) XC free := by
  have hK : vx_Back l R p e below s args y 3 8 (PreOf R mc ms Pc) (PostOf Qc mc ms free) (vx_Post XC mc ms free) := vx_callBack cw.1 hM hp.1
  obtain ⟨⟨-, -, -, -, -, -, hcode, -, hy, hlen, hl⟩, hin, hse⟩ := cw
  obtain ⟨hx, hb, hml, ho, -⟩ := S
  obtain ⟨-, ⟨cellB, hcB, hoB, hclB⟩, hPc⟩ := hp
  intro T hT X
  rcases vx_callV X hx (C := C) (bytes := bytes) (maxL := maxL) (ret := ret) ho hl hin hse hcode hy hK (by rw [hT]; exact hcB) hoB hclB hg (hsize.trans hml.symm) (argsL := As) (rest := rest) (fun sig h => hn.trans (hlen sig h)) hstack hW (by rw [hb]; exact hdg)
    (fun vm₁ hW₁ => ⟨hf.1, hf.2, hPc (T.setVm vm₁) hT hW₁⟩) with ⟨v, vm₁, ⟨U', l2, c2, s2⟩, hW₁, X', ⟨g', mk, t, L, e1, e2, hq, h1, hL, h2, h3⟩, st⟩ | ⟨q, vm₁, ⟨U', l2, c2, s2⟩, hW₁, X', ⟨g', mk, t, L, E, ce, e1, e2, hq, hce, hcv, hcl, h1, hL, h2, h3⟩, st⟩
  · dsimp only [Pt.U, Pt.locs, Pt.cells, Pt.slots] at X' e1 e2 h1 h2 h3 st
    subst h1; subst h2; subst h3
    exact Or.inl ⟨v, (T.setVm vm₁).calling g' mk (Value.ref b :: As).toArray, t, U', L, hT, X', hL, e1, e2, hq, st⟩
  · dsimp only [Pt.U, Pt.locs, Pt.cells, Pt.slots] at X' e1 e2 h1 h2 h3 st hcl
    subst h1; subst h2; subst h3
    exact Or.inr ⟨q, (T.setVm vm₁).calling g' mk (Value.ref b :: As).toArray, t, U', L, E, ce, hT, X', hL, e1, e2, hq, hce, hcv, vx_cls hW₁ hcl, st⟩
theorem vx_runS (S : CallFix p m c cc nL s args Ts own) (hM : vx_Met l y ws rm Pc Qc XC mc ms free) (cw : CallB R s args own index y bytes maxL ret ws rm mc ms n ∧ (Cond.static y).before args s = true) (hp : PreS s H Pc As)
    (hg : g.method = m) (hn : As.length = n) (hsize : g.locals.size = nL) (hstack : g.stack = As.reverse ++ rest) (hW : 2 * g.monitorRoom + (rest.map fun v => v.category).sum ≤ 8) (hdg : decode cc g.pc = .ok (.invokestatic index, 3)) (hf : cells + mc ≤ R.cells ∧ slots + ms ≤ R.slots) :
    vx_Run p l e R s m args below meth c H locs cells slots mc ms g rest (Qc As.toArray) XC free := by
  have hK : vx_Back l R p e below s args y 3 8 (PreOf R mc ms Pc) (PostOf Qc mc ms free) (vx_Post XC mc ms free) := vx_callBack cw.1 hM hp.1
  obtain ⟨⟨-, -, -, -, -, -, hcode, hini, hy, hlen, hl⟩, hstt⟩ := cw
  obtain ⟨hx, hb, hml, ho, -⟩ := S
  intro T hT X
  rcases vx_callS X hx (bytes := bytes) (maxL := maxL) (ret := ret) ho hl hstt hini hcode hy hK hg (hsize.trans hml.symm) (argsL := As) (rest := rest) (fun sig h => hn.trans (hlen sig h)) hstack hW (by rw [hb]; exact hdg)
    (fun vm₁ hW₁ => ⟨hf.1, hf.2, hp.2 (T.setVm vm₁) hT hW₁⟩) with ⟨v, vm₁, ⟨U', l2, c2, s2⟩, hW₁, X', ⟨g', mk, t, L, e1, e2, hq, h1, hL, h2, h3⟩, st⟩ | ⟨q, vm₁, ⟨U', l2, c2, s2⟩, hW₁, X', ⟨g', mk, t, L, E, ce, e1, e2, hq, hce, hcv, hcl, h1, hL, h2, h3⟩, st⟩
  · dsimp only [Pt.U, Pt.locs, Pt.cells, Pt.slots] at X' e1 e2 h1 h2 h3 st
    subst h1; subst h2; subst h3
    exact Or.inl ⟨v, (T.setVm vm₁).calling g' mk As.toArray, t, U', L, hT, X', hL, e1, e2, hq, st⟩
  · dsimp only [Pt.U, Pt.locs, Pt.cells, Pt.slots] at X' e1 e2 h1 h2 h3 st hcl
    subst h1; subst h2; subst h3
    exact Or.inr ⟨q, (T.setVm vm₁).calling g' mk As.toArray, t, U', L, E, ce, hT, X', hL, e1, e2, hq, hce, hcv, vx_cls hW₁ hcl, st⟩
end Runs
section Rows
variable {p : Program} {l : Launch} {e : Env} {R : Room} {s : State} {m : MethodId} {args : Array Value} {below : List Frame} {meth : Method} {c : Code} {H : Heap} {locs : List Loc} {cells slots : Nat} {Q : State → Prop}
variable {mc ms : Nat} {free : Addr → Prop} {A0 A1 : Nat → Prop} {H0 : Heap} {a : Array Value} {pc : Nat} {ls : Array Slot} {st0 rest : List Value}
theorem vx_keep {st₀ t T' : State} {L : List Loc} (h0 : st₀.heap = H) (e1 : T'.heap = t.heap) (hS : va_S A0 H0 H locs) (hA : ∀ q, q < H.size → A1 q → A0 q) (hf : ∀ q, free q → A0 q) (hL : ∀ q ∈ L, free q.base) (hF : va_F A1 st₀ t) :
    H.size ≤ T'.heap.size ∧ (∀ q : Nat, q < H.size → ¬ A1 q → T'.heap[q]? = H[q]?) ∧ va_S A0 H0 T'.heap (locs ++ L) := by
  obtain ⟨hz, hk⟩ := hF
  rw [h0] at hz hk
  exact ⟨by rw [e1]; exact hz, fun q h1 h2 => by rw [e1]; exact hk q h1 h2,
    ⟨Nat.le_trans hS.1 (by rw [e1]; exact hz), fun q h1 h2 => by rw [e1, hk q (Nat.lt_of_lt_of_le h1 hS.1) (fun z => h2 (hA q (Nat.lt_of_lt_of_le h1 hS.1) z))]; exact hS.2.1 q h1 h2, fun q hq => by
      rcases List.mem_append.mp hq with h | h
      · exact hS.2.2 q h
      · exact hf _ (hL q h)⟩⟩
theorem vx_calli {S SX : Type} {post : Int32 → S → Prop} {px : SX → Prop} {B : S → State → Prop} {BX : String → SX → State → Prop} {AX : Nat → Prop} (hr : vx_Run p l e R s m args below meth c H locs cells slots mc ms (F0 m pc ls st0) rest (va_Qi post B A1 a) (vx_X px BX AX) free) (hS : va_S A0 H0 H locs) (hA : ∀ q, q < H.size → A1 q → A0 q) (hf : ∀ q, free q → A0 q) (hAX : ∀ q, q < H.size → AX q → A0 q)
    (kx : ∀ (E : String) (ce : Cell) (q9 : Addr) (u : SX) (t : State) (H1 : Heap) (locs1 : List Loc), t.heap = H1 → s.vm.Alike t.vm → px u → BX E u t → H.size ≤ H1.size → (∀ q : Nat, q < H.size → ¬ AX q → H1[q]? = H[q]?) → va_S A0 H0 H1 locs1 → H1[q9]? = some ce → ce.vm = .none → s.vm.findClass E = some ce.cls → vx_W p l e R s m args below meth c H1 locs1 (cells + mc) (slots + ms) Q (F0 m pc ls rest) q9)
    (kk : ∀ (r : Int32) (u : S) (t : State) (H1 : Heap) (locs1 : List Loc), t.heap = H1 → s.vm.Alike t.vm → post r u → B u t → H.size ≤ H1.size → (∀ q : Nat, q < H.size → ¬ A1 q → H1[q]? = H[q]?) → va_S A0 H0 H1 locs1 → W p l e R s m args below meth c H1 locs1 (cells + mc) (slots + ms) Q (F0 m (pc + 3) ls (.int r :: rest))) : W p l e R s m args below meth c H locs cells slots Q (F0 m pc ls st0) := by
  intro T hT X
  rcases hr T hT X with ⟨v, st₀, t, T', L, h0, X', hL, e1, e2, ⟨⟨r, u, hv, hp, hb⟩, hF⟩, st⟩ | ⟨q, st₀, t, T', L, E, ce, h0, X', hL, e1, e2, ⟨u, hp, hb, hF⟩, hce, hcv, hcl, st⟩
  · cases hv
    obtain ⟨k1, k2, k3⟩ := vx_keep h0 e1 hS hA hf hL hF
    obtain ⟨t2, a1, b1⟩ := kk r u t T'.heap (locs ++ L) e1.symm (by rw [← e2]; exact X'.warmed.alike) hp hb k1 k2 k3 T' rfl X'
    exact ⟨t2, st t2 a1, b1⟩
  · obtain ⟨k1, k2, k3⟩ := vx_keep h0 e1 hS hAX hf hL hF
    obtain ⟨t2, a1, b1⟩ := kx E ce q u t T'.heap (locs ++ L) e1.symm (by rw [← e2]; exact X'.warmed.alike) hp hb k1 k2 k3 (by rw [e1]; exact hce) hcv hcl T' rfl X'
    exact ⟨t2, st.trans a1, b1⟩
theorem vx_calll {S SX : Type} {post : Int64 → S → Prop} {px : SX → Prop} {B : S → State → Prop} {BX : String → SX → State → Prop} {AX : Nat → Prop} (hr : vx_Run p l e R s m args below meth c H locs cells slots mc ms (F0 m pc ls st0) rest (va_Ql post B A1 a) (vx_X px BX AX) free) (hS : va_S A0 H0 H locs) (hA : ∀ q, q < H.size → A1 q → A0 q) (hf : ∀ q, free q → A0 q) (hAX : ∀ q, q < H.size → AX q → A0 q)
    (kx : ∀ (E : String) (ce : Cell) (q9 : Addr) (u : SX) (t : State) (H1 : Heap) (locs1 : List Loc), t.heap = H1 → s.vm.Alike t.vm → px u → BX E u t → H.size ≤ H1.size → (∀ q : Nat, q < H.size → ¬ AX q → H1[q]? = H[q]?) → va_S A0 H0 H1 locs1 → H1[q9]? = some ce → ce.vm = .none → s.vm.findClass E = some ce.cls → vx_W p l e R s m args below meth c H1 locs1 (cells + mc) (slots + ms) Q (F0 m pc ls rest) q9)
    (kk : ∀ (r : Int64) (u : S) (t : State) (H1 : Heap) (locs1 : List Loc), t.heap = H1 → s.vm.Alike t.vm → post r u → B u t → H.size ≤ H1.size → (∀ q : Nat, q < H.size → ¬ A1 q → H1[q]? = H[q]?) → va_S A0 H0 H1 locs1 → W p l e R s m args below meth c H1 locs1 (cells + mc) (slots + ms) Q (F0 m (pc + 3) ls (.long r :: rest))) : W p l e R s m args below meth c H locs cells slots Q (F0 m pc ls st0) := by
  intro T hT X
  rcases hr T hT X with ⟨v, st₀, t, T', L, h0, X', hL, e1, e2, ⟨⟨r, u, hv, hp, hb⟩, hF⟩, st⟩ | ⟨q, st₀, t, T', L, E, ce, h0, X', hL, e1, e2, ⟨u, hp, hb, hF⟩, hce, hcv, hcl, st⟩
  · cases hv
    obtain ⟨k1, k2, k3⟩ := vx_keep h0 e1 hS hA hf hL hF
    obtain ⟨t2, a1, b1⟩ := kk r u t T'.heap (locs ++ L) e1.symm (by rw [← e2]; exact X'.warmed.alike) hp hb k1 k2 k3 T' rfl X'
    exact ⟨t2, st t2 a1, b1⟩
  · obtain ⟨k1, k2, k3⟩ := vx_keep h0 e1 hS hAX hf hL hF
    obtain ⟨t2, a1, b1⟩ := kx E ce q u t T'.heap (locs ++ L) e1.symm (by rw [← e2]; exact X'.warmed.alike) hp hb k1 k2 k3 (by rw [e1]; exact hce) hcv hcl T' rfl X'
    exact ⟨t2, st.trans a1, b1⟩
theorem vx_callf {S SX : Type} {post : UInt32 → S → Prop} {px : SX → Prop} {B : S → State → Prop} {BX : String → SX → State → Prop} {AX : Nat → Prop} (hr : vx_Run p l e R s m args below meth c H locs cells slots mc ms (F0 m pc ls st0) rest (va_Qf post B A1 a) (vx_X px BX AX) free) (hS : va_S A0 H0 H locs) (hA : ∀ q, q < H.size → A1 q → A0 q) (hf : ∀ q, free q → A0 q) (hAX : ∀ q, q < H.size → AX q → A0 q)
    (kx : ∀ (E : String) (ce : Cell) (q9 : Addr) (u : SX) (t : State) (H1 : Heap) (locs1 : List Loc), t.heap = H1 → s.vm.Alike t.vm → px u → BX E u t → H.size ≤ H1.size → (∀ q : Nat, q < H.size → ¬ AX q → H1[q]? = H[q]?) → va_S A0 H0 H1 locs1 → H1[q9]? = some ce → ce.vm = .none → s.vm.findClass E = some ce.cls → vx_W p l e R s m args below meth c H1 locs1 (cells + mc) (slots + ms) Q (F0 m pc ls rest) q9)
    (kk : ∀ (r : UInt32) (u : S) (t : State) (H1 : Heap) (locs1 : List Loc), t.heap = H1 → s.vm.Alike t.vm → post r u → B u t → H.size ≤ H1.size → (∀ q : Nat, q < H.size → ¬ A1 q → H1[q]? = H[q]?) → va_S A0 H0 H1 locs1 → W p l e R s m args below meth c H1 locs1 (cells + mc) (slots + ms) Q (F0 m (pc + 3) ls (.float r :: rest))) : W p l e R s m args below meth c H locs cells slots Q (F0 m pc ls st0) := by
  intro T hT X
  rcases hr T hT X with ⟨v, st₀, t, T', L, h0, X', hL, e1, e2, ⟨⟨r, u, hv, hp, hb⟩, hF⟩, st⟩ | ⟨q, st₀, t, T', L, E, ce, h0, X', hL, e1, e2, ⟨u, hp, hb, hF⟩, hce, hcv, hcl, st⟩
  · cases hv
    obtain ⟨k1, k2, k3⟩ := vx_keep h0 e1 hS hA hf hL hF
    obtain ⟨t2, a1, b1⟩ := kk r u t T'.heap (locs ++ L) e1.symm (by rw [← e2]; exact X'.warmed.alike) hp hb k1 k2 k3 T' rfl X'
    exact ⟨t2, st t2 a1, b1⟩
  · obtain ⟨k1, k2, k3⟩ := vx_keep h0 e1 hS hAX hf hL hF
    obtain ⟨t2, a1, b1⟩ := kx E ce q u t T'.heap (locs ++ L) e1.symm (by rw [← e2]; exact X'.warmed.alike) hp hb k1 k2 k3 (by rw [e1]; exact hce) hcv hcl T' rfl X'
    exact ⟨t2, st.trans a1, b1⟩
theorem vx_calld {S SX : Type} {post : UInt64 → S → Prop} {px : SX → Prop} {B : S → State → Prop} {BX : String → SX → State → Prop} {AX : Nat → Prop} (hr : vx_Run p l e R s m args below meth c H locs cells slots mc ms (F0 m pc ls st0) rest (va_Qd post B A1 a) (vx_X px BX AX) free) (hS : va_S A0 H0 H locs) (hA : ∀ q, q < H.size → A1 q → A0 q) (hf : ∀ q, free q → A0 q) (hAX : ∀ q, q < H.size → AX q → A0 q)
    (kx : ∀ (E : String) (ce : Cell) (q9 : Addr) (u : SX) (t : State) (H1 : Heap) (locs1 : List Loc), t.heap = H1 → s.vm.Alike t.vm → px u → BX E u t → H.size ≤ H1.size → (∀ q : Nat, q < H.size → ¬ AX q → H1[q]? = H[q]?) → va_S A0 H0 H1 locs1 → H1[q9]? = some ce → ce.vm = .none → s.vm.findClass E = some ce.cls → vx_W p l e R s m args below meth c H1 locs1 (cells + mc) (slots + ms) Q (F0 m pc ls rest) q9)
    (kk : ∀ (r : UInt64) (u : S) (t : State) (H1 : Heap) (locs1 : List Loc), t.heap = H1 → s.vm.Alike t.vm → post r u → B u t → H.size ≤ H1.size → (∀ q : Nat, q < H.size → ¬ A1 q → H1[q]? = H[q]?) → va_S A0 H0 H1 locs1 → W p l e R s m args below meth c H1 locs1 (cells + mc) (slots + ms) Q (F0 m (pc + 3) ls (.double r :: rest))) : W p l e R s m args below meth c H locs cells slots Q (F0 m pc ls st0) := by
  intro T hT X
  rcases hr T hT X with ⟨v, st₀, t, T', L, h0, X', hL, e1, e2, ⟨⟨r, u, hv, hp, hb⟩, hF⟩, st⟩ | ⟨q, st₀, t, T', L, E, ce, h0, X', hL, e1, e2, ⟨u, hp, hb, hF⟩, hce, hcv, hcl, st⟩
  · cases hv
    obtain ⟨k1, k2, k3⟩ := vx_keep h0 e1 hS hA hf hL hF
    obtain ⟨t2, a1, b1⟩ := kk r u t T'.heap (locs ++ L) e1.symm (by rw [← e2]; exact X'.warmed.alike) hp hb k1 k2 k3 T' rfl X'
    exact ⟨t2, st t2 a1, b1⟩
  · obtain ⟨k1, k2, k3⟩ := vx_keep h0 e1 hS hAX hf hL hF
    obtain ⟨t2, a1, b1⟩ := kx E ce q u t T'.heap (locs ++ L) e1.symm (by rw [← e2]; exact X'.warmed.alike) hp hb k1 k2 k3 (by rw [e1]; exact hce) hcv hcl T' rfl X'
    exact ⟨t2, st.trans a1, b1⟩
theorem vx_callv {S SX : Type} {post : S → Prop} {px : SX → Prop} {B : S → State → Prop} {BX : String → SX → State → Prop} {AX : Nat → Prop} (hr : vx_Run p l e R s m args below meth c H locs cells slots mc ms (F0 m pc ls st0) rest (va_Qv post B A1 a) (vx_X px BX AX) free) (hS : va_S A0 H0 H locs) (hA : ∀ q, q < H.size → A1 q → A0 q) (hf : ∀ q, free q → A0 q) (hAX : ∀ q, q < H.size → AX q → A0 q)
    (kx : ∀ (E : String) (ce : Cell) (q9 : Addr) (u : SX) (t : State) (H1 : Heap) (locs1 : List Loc), t.heap = H1 → s.vm.Alike t.vm → px u → BX E u t → H.size ≤ H1.size → (∀ q : Nat, q < H.size → ¬ AX q → H1[q]? = H[q]?) → va_S A0 H0 H1 locs1 → H1[q9]? = some ce → ce.vm = .none → s.vm.findClass E = some ce.cls → vx_W p l e R s m args below meth c H1 locs1 (cells + mc) (slots + ms) Q (F0 m pc ls rest) q9)
    (kk : ∀ (u : S) (t : State) (H1 : Heap) (locs1 : List Loc), t.heap = H1 → s.vm.Alike t.vm → post u → B u t → H.size ≤ H1.size → (∀ q : Nat, q < H.size → ¬ A1 q → H1[q]? = H[q]?) → va_S A0 H0 H1 locs1 → W p l e R s m args below meth c H1 locs1 (cells + mc) (slots + ms) Q (F0 m (pc + 3) ls (rest))) : W p l e R s m args below meth c H locs cells slots Q (F0 m pc ls st0) := by
  intro T hT X
  rcases hr T hT X with ⟨v, st₀, t, T', L, h0, X', hL, e1, e2, ⟨⟨u, hv, hp, hb⟩, hF⟩, st⟩ | ⟨q, st₀, t, T', L, E, ce, h0, X', hL, e1, e2, ⟨u, hp, hb, hF⟩, hce, hcv, hcl, st⟩
  · cases hv
    obtain ⟨k1, k2, k3⟩ := vx_keep h0 e1 hS hA hf hL hF
    obtain ⟨t2, a1, b1⟩ := kk u t T'.heap (locs ++ L) e1.symm (by rw [← e2]; exact X'.warmed.alike) hp hb k1 k2 k3 T' rfl X'
    exact ⟨t2, st t2 a1, b1⟩
  · obtain ⟨k1, k2, k3⟩ := vx_keep h0 e1 hS hAX hf hL hF
    obtain ⟨t2, a1, b1⟩ := kx E ce q u t T'.heap (locs ++ L) e1.symm (by rw [← e2]; exact X'.warmed.alike) hp hb k1 k2 k3 (by rw [e1]; exact hce) hcv hcl T' rfl X'
    exact ⟨t2, st.trans a1, b1⟩
/-- caught by the row x of this method's table; the rows ahead don't take it -/
theorem vx_catch {own name : String} {E : String} {ce : Cell} {q : Addr} (hown : s.vm.findClass own = some m.cls) (pre : List ExceptionTableEntry) (x : ExceptionTableEntry) (suf : List ExceptionTableEntry) (hsplit : c.exceptionTable.toList = pre ++ x :: suf)
    (hpass : ∀ z ∈ pre, covers z pc = false ∨ (z.catchType ≠ 0 ∧ ∃ nm : String, (Cond.classLink own z.catchType nm).before args s = true ∧ va_Nc E nm s)) (hx : covers x pc = true) (h0 : x.catchType ≠ 0)
    (hlink : (Cond.classLink own x.catchType name).before args s = true) (hcast : (Cond.castable E name).before args s = true) (hcell : H[q]? = some ce) (hv : ce.vm = .none) (hcl : s.vm.findClass E = some ce.cls)
    (kk : W p l e R s m args below meth c H locs cells slots Q (F0 m x.handlerPc ls [.ref q])) : vx_W p l e R s m args below meth c H locs cells slots Q (F0 m pc ls rest) q := by
  intro T hT X
  have hpl : e.platform.magicAccessors = ({} : Platform).magicAccessors := by rw [X.admits.platform]
  obtain ⟨c3, c4, hc3, hc4, hasg⟩ := Cond.castable_spec hcast
  cases Option.some.inj (hc3.symm.trans hcl)
  obtain ⟨c5, hc5, hcl5⟩ := Cond.classLink_spec hown hlink e.platform hpl
  cases Option.some.inj (hc4.symm.trans hc5)
  obtain ⟨vm', X', st⟩ := X.thenCaughtThrough q (g := F0 m pc ls rest) rfl (Steps.refl _) (by rw [hT]; exact hcell) (by rw [hv]; rfl) (by obtain ⟨k9, h9, -⟩ := Vm.findClass_spec hcl; exact ⟨k9, h9⟩) pre x suf hsplit
    (fun z hz => by
      rcases hpass z hz with h | ⟨hz0, nm, hl1, hn1⟩
      · exact Or.inl h
      · obtain ⟨c6, hc6, hcl6⟩ := Cond.classLink_spec hown hl1 e.platform hpl
        obtain ⟨a8, b8, h1, h2, h3⟩ := hn1
        cases Option.some.inj (h1.symm.trans hcl)
        cases Option.some.inj (h2.symm.trans hc6)
        exact Or.inr ⟨hz0, _, hcl6, h3⟩) hx (Or.inr ⟨h0, c4, hcl5, hasg⟩)
  obtain ⟨t, a1, b1⟩ := kk (T.setVm vm') hT X'
  exact ⟨t, st.trans a1, b1⟩
end Rows
section Ends
variable {p : Program} {l : Launch} {e : Env} {R : Room} {s : State} {m : MethodId} {args : Array Value} {below : List Frame} {meth : Method} {c : Code} {H : Heap} {locs : List Loc} {cells slots : Nat} {Q : State → Prop}
variable {mc ms : Nat} {free : Addr → Prop} {A0 A1 : Nat → Prop} {H0 : Heap} {a : Array Value} {ls : Array Slot} {st0 rest : List Value}
variable {Qc : Array Value → State → Outcome → State → Prop} {XC : String → State → State → Prop}
/-- what a body that may throw owes at its end -/
def vx_MQ (below : List Frame) (Qc : Array Value → State → Outcome → State → Prop) (XC : String → State → State → Prop) (a : Array Value) (s : State) (mc ms : Nat) (free : Addr → Prop) : State → Prop := fun t =>
  ∃ o, t.status = .running ∧ Ended t below o ∧ vx_Q Qc XC mc ms free a s o t
theorem vx_ret {g : JFrame} {mc ms : Nat} (k : W p l e R s m args below meth c H locs cells slots (MQ below Qc args s mc ms free) g) : W p l e R s m args below meth c H locs cells slots (vx_MQ below Qc XC args s mc ms free) g := by
  intro T hT X
  obtain ⟨t, a1, o, b1, b2, b3, b4⟩ := k T hT X
  exact ⟨t, a1, o, b1, b2, Or.inl ⟨b3, b4⟩⟩
/-- not caught here: it goes on to the caller -/
theorem vx_widen {g : JFrame} {q : Addr} {k n : Nat} (h1 : cells ≤ k) (h2 : slots ≤ n) (kk : vx_W p l e R s m args below meth c H locs k n Q g q) : vx_W p l e R s m args below meth c H locs cells slots Q g q := fun T hT X => kk T hT (stand_widen X h1 h2)
theorem vx_out {pc : Nat} {E : String} {ce : Cell} {q : Addr} {mc ms : Nat} (hout : ∀ x ∈ c.exceptionTable.toList, covers x pc = false) (hlocks : meth.locks = false) (hcell : H[q]? = some ce) (hv : ce.vm = .none) (hcl : s.vm.findClass E = some ce.cls)
    (hx : ∀ t : State, t.heap = H → s.vm.Alike t.vm → XC E s t) (hf : ∀ z ∈ locs, free z.base) (hc : cells ≤ mc) (hs : slots ≤ ms) :
    vx_W p l e R s m args below meth c H locs cells slots (vx_MQ below Qc XC args s mc ms free) (F0 m pc ls rest) q := by
  intro T hT X
  obtain ⟨st1, hrun, hend, hW, hsm⟩ := X.leaveThrown q (g := F0 m pc ls rest) rfl rfl rfl hout hlocks
  have hcell9 : (T.setFrames (.throwing q :: below)).heap[q]? = some ce := by
    show T.heap[q]? = some ce
    rw [hT]; exact hcell
  exact ⟨_, st1, .threw q, hrun, hend, Or.inr ⟨q, rfl, E, ce, locs, hx _ hT hW.alike, hcell9, hv, hcl, hW, hsm.mono hc hs, hf⟩⟩
theorem vx_frame {U : State} {k n : Nat} (h : s.sameButNew ({ U with vm := s.vm } : State) locs k n) : s.heap.size ≤ U.heap.size ∧ ∀ q : Nat, q < s.heap.size → (∀ z ∈ locs, z.base ≠ q) → U.heap[q]? = s.heap[q]? := by
  obtain ⟨-, h2, -, -, -, h6⟩ := h
  refine ⟨h2, fun q hq hz => ?_⟩
  obtain ⟨c9, e1, e2, e3, e4⟩ := h6 q _ (Array.getElem?_eq_getElem hq)
  have hs : c9.slots = (s.heap[q]).slots := Array.ext_getElem? fun i => e4 i fun hm => hz _ hm rfl
  have h9 : c9 = s.heap[q] := by
    rw [hs] at e2
    exact e2
  have e5 : U.heap[q]? = some c9 := e1
  rw [e5, h9, Array.getElem?_eq_getElem hq]
/-- the words of a throw but the four that speak of the heap -/
def vx_no (w : Cond) : Bool := decide (w ≠ .isRef (.static Bundle.tN "UNASSIGNED_STACK" Bundle.steD)) && decide (w ≠ .isRef (.static Bundle.tN "SUPPRESSED_SENTINEL" Bundle.listD)) && decide (w ≠ .laysStatic Bundle.tN "UNASSIGNED_STACK" Bundle.steD) && decide (w ≠ .laysStatic Bundle.tN "SUPPRESSED_SENTINEL" Bundle.listD)
def vx_at0 (own : String) (ic : Nat) (X : String) (names : List String) : List Cond := (Bundle.ownAtoms0 own ic X names).filter vx_no
def vx_atS (own : String) (ic : Nat) (X : String) (names : List String) : List Cond := (Bundle.ownAtoms own ic X names).filter vx_no
/-- a word that the tables alone decide, or a good one -/
def vx_ot (w : Cond) : Bool := w.onTables || goodWord w
theorem vx_ot_at {args a' : Array Value} {s U : State} {w : Cond} (hW : s.WarmedH U.vm) (hvm : s.vm = U.vm) (hg : vx_ot w = true) (h : w.before args s = true) : w.before a' U = true := by
  simp only [vx_ot, Bool.or_eq_true] at hg
  rcases hg with hg | hg
  · exact va_tabs hg hvm h
  · exact word_at hW (good_of_word hg) h
/-- a list's words: the good ones out of the method's own list, the others by premises of their own -/
theorem vx_hat {args : Array Value} {s : State} {L B : List Cond} (h1 : ∀ w ∈ L.filter goodWord, w.before args s = true) (h2 : ∀ w ∈ L.filter (fun w => !goodWord w), w ∈ B) (h3 : ∀ w ∈ B, w.before args s = true) : ∀ w ∈ L, w.before args s = true := by
  intro w hw
  by_cases g : goodWord w = true
  · exact h1 w (List.mem_filter.mpr ⟨hw, g⟩)
  · refine h3 w (h2 w (List.mem_filter.mpr ⟨hw, ?_⟩))
    show (!goodWord w) = true
    cases hgw : goodWord w
    · rfl
    · exact absurd hgw g
theorem vx_c {args : Array Value} {s : State} {w : Cond} {B : List Cond} (h : w.before args s = true) (t : ∀ w ∈ B, w.before args s = true) : ∀ w' ∈ w :: B, w'.before args s = true := fun w' h' => (List.mem_cons.mp h').elim (fun e => by rw [e]; exact h) (t w')
theorem vx_n {args : Array Value} {s : State} : ∀ w ∈ ([] : List Cond), w.before args s = true := fun _ h => nomatch h
theorem vx_own {args : Array Value} {s : State} {L : List Cond} (h1 : ∀ w ∈ L.filter vx_no, w.before args s = true)
    (hU : (Cond.isRef (.static Bundle.tN "UNASSIGNED_STACK" Bundle.steD)).before args s = true) (hN : (Cond.isRef (.static Bundle.tN "SUPPRESSED_SENTINEL" Bundle.listD)).before args s = true)
    (lU : (Cond.laysStatic Bundle.tN "UNASSIGNED_STACK" Bundle.steD).before args s = true) (lN : (Cond.laysStatic Bundle.tN "SUPPRESSED_SENTINEL" Bundle.listD).before args s = true) : ∀ w ∈ L, w.before args s = true := by
  intro w hw
  by_cases e1 : w = .isRef (.static Bundle.tN "UNASSIGNED_STACK" Bundle.steD)
  · rw [e1]; exact hU
  · by_cases e2 : w = .isRef (.static Bundle.tN "SUPPRESSED_SENTINEL" Bundle.listD)
    · rw [e2]; exact hN
    · by_cases e3 : w = .laysStatic Bundle.tN "UNASSIGNED_STACK" Bundle.steD
      · rw [e3]; exact lU
      · by_cases e4 : w = .laysStatic Bundle.tN "SUPPRESSED_SENTINEL" Bundle.listD
        · rw [e4]; exact lN
        · exact h1 w (List.mem_filter.mpr ⟨hw, by unfold vx_no; rw [decide_eq_true e1, decide_eq_true e2, decide_eq_true e3, decide_eq_true e4]; rfl⟩)
/-- where a static field lies, its class's statics cell in H -/
def vx_L (C n d : String) (A : Nat → Prop) (U : State) (H : Heap) : Prop := ∃ (c : ClassId) (k : Class) (i : Nat) (f : Field) (a : Nat) (cell : Cell), U.vm.findClass C = some c ∧ U.fieldFound? C n d = some (c, k, i, f) ∧ f.isStatic = true ∧ k.statics = some a ∧ H[a]? = some cell ∧ cell.vm.isStatics = true ∧ cell.cls = c ∧ f.slot < cell.slots.size ∧ k.staticTypes[f.slot]? = some f.type ∧ ¬ A a
theorem vx_L.moved {C n d : String} {A : Nat → Prop} {u U : State} {H : Heap} (hvm : u.vm.Alike U.vm) (h : vx_L C n d A u H) : vx_L C n d A U H := by
  obtain ⟨c, k, i, f, a, cell, h1, h2, h3, h4, h5, h6, h7, h8, h9, h10⟩ := h
  obtain ⟨k', hi', he⟩ := State.fieldFound?_setVm hvm h2
  exact ⟨c, k', i, f, a, cell, by rw [hvm.findClass]; exact h1, hi', h3, by rw [he]; exact h4, h5, h6, h7, h8, by rw [he]; exact h9, h10⟩
theorem vx_L.kept {C n d : String} {A : Nat → Prop} {U : State} {H H1 : Heap} (h : vx_L C n d A U H) (hq : ∀ a : Nat, a < H.size → ¬ A a → H1[a]? = H[a]?) : vx_L C n d A U H1 := by
  obtain ⟨c, k, i, f, a, cell, h1, h2, h3, h4, h5, h6, h7, h8, h9, h10⟩ := h
  exact ⟨c, k, i, f, a, cell, h1, h2, h3, h4, by rw [hq a (Array.getElem?_eq_some_iff.mp h5).1 h10]; exact h5, h6, h7, h8, h9, h10⟩
theorem vx_L.narrow {C n d : String} {A B : Nat → Prop} {U : State} {H : Heap} (h : vx_L C n d A U H) (hAB : ∀ q, B q → A q) : vx_L C n d B U H := by
  obtain ⟨c, k, i, f, a, cell, h1, h2, h3, h4, h5, h6, h7, h8, h9, h10⟩ := h
  exact ⟨c, k, i, f, a, cell, h1, h2, h3, h4, h5, h6, h7, h8, h9, fun z => h10 (hAB _ z)⟩
theorem vx_L.word {C n d : String} {A : Nat → Prop} {s : State} {args : Array Value} (h : vx_L C n d A s s.heap) : (Cond.laysStatic C n d).before args s = true := by
  obtain ⟨c, k, i, f, a, cell, h1, h2, h3, h4, h5, h6, h7, h8, h9, -⟩ := h
  show (Cond.laysStatic C n d).holds args s none s [] = true
  exact Cond.laysStatic_of h1 h2 h3 h4 h5 h6 h7 h8 h9
/-- .. and what it holds: null or some reference -/
def vx_Zq (C n d : String) (A : Nat → Prop) (U : State) (H : Heap) : Prop := va_Zq C n d A U H ∧ vx_L C n d A U H
theorem vx_Zq.moved {C n d : String} {A : Nat → Prop} {u U : State} {H : Heap} (hvm : u.vm.Alike U.vm) (h : vx_Zq C n d A u H) : vx_Zq C n d A U H := ⟨va_Zq.moved hvm h.1, vx_L.moved hvm h.2⟩
theorem vx_Zq.kept {C n d : String} {A : Nat → Prop} {U : State} {H H1 : Heap} (h : vx_Zq C n d A U H) (hq : ∀ a : Nat, a < H.size → ¬ A a → H1[a]? = H[a]?) : vx_Zq C n d A U H1 := ⟨va_Zq.kept h.1 hq, vx_L.kept h.2 hq⟩
theorem vx_Zq.narrow {C n d : String} {A B : Nat → Prop} {U : State} {H : Heap} (h : vx_Zq C n d A U H) (hAB : ∀ q, B q → A q) : vx_Zq C n d B U H := ⟨va_Zq.narrow h.1 hAB, vx_L.narrow h.2 hAB⟩
theorem vx_Zqof {args : Array Value} {s : State} {C n d : String} {A : Nat → Prop} (hl : (Cond.laysStatic C n d).before args s = true) (hini : (Cond.initialized C).before args s = true) (h : (Cond.isRef (.static C n d)).before args s = true) (hA : ∀ a : Nat, a < s.heap.size → ¬ A a) : vx_Zq C n d A s s.heap := by
  refine ⟨va_Zqof hl hini h hA, ?_⟩
  obtain ⟨c, k, i, f, a, cell, h1, h2, h3, h4, h5, h6, h7, h8, h9⟩ := Cond.laysStatic_spec hl
  exact ⟨c, k, i, f, a, cell, h1, h2, h3, h4, h5, h6, h7, h8, h9, hA a (Array.getElem?_eq_some_iff.mp h5).1⟩
theorem vx_isRef {C n d : String} {v : Value} {A : Nat → Prop} {s : State} {args : Array Value} (h : va_Z C n d v A s s.heap) (hv : v.isRef = true) : (Cond.isRef (.static C n d)).before args s = true := by
  obtain ⟨cf, kf, fi, f, a, cell, h1, h2, h3, h4, h5, h6, h7, -⟩ := h
  have he : (Term.static C n d).eval args s none [] s = some v := by
    simp [Term.eval, State.fieldNamed?, h1, h2, h4, h5, h6, h7]
  simp only [Cond.before, Cond.holds, Cond.value, he]
  cases v <;> simp_all [Value.isRef]
theorem vx_isRefq {C n d : String} {A : Nat → Prop} {s : State} {args : Array Value} (h : va_Zq C n d A s s.heap) : (Cond.isRef (.static C n d)).before args s = true := by
  rcases h with h | ⟨t, h⟩
  · exact vx_isRef h rfl
  · exact vx_isRef h rfl
/-- the same frame, seen from here: as if the method were called anew in this heap -/
theorem vx_rebase {T : State} (X : Stand p l e R s m args below meth c T locs cells slots) {R' : Room} (hf : R'.frames ≤ R.frames) (hl : R'.locals ≤ R.locals) (hc : cells + R'.cells ≤ R.cells) (hs : slots + R'.slots ≤ R.slots) :
    Stand p l e R' ((T.setVm s.vm).setFrames (.invoking m args :: below)) m args below meth c T [] 0 0 := by
  have htop : (T.setVm s.vm).topJava?.isSome := X.here.top
  have hF : ((T.setVm s.vm).setFrames (.invoking m args :: below)).frames = .invoking m args :: below := State.frames_setFrames _ (State.cur_lt_of_top htop)
  obtain ⟨g₀, hg0⟩ := Option.isSome_iff_exists.mp htop
  obtain ⟨r, hr⟩ := State.topJava?_eq_some.mp hg0
  have hl9 : e.platform.stackLimits (T.setVm s.vm).me = e.platform.stackLimits s.me := X.limits
  have hb9 : (T.setVm s.vm).me.stackBytes = s.me.stackBytes := X.bytes
  refine ⟨X.admits, X.cas, X.clock, hF, ?_, X.hears, X.method, X.code, X.here, X.tail, X.warmed, ?_, ?_, ?_⟩
  · have h := X.room
    have hU : ((T.setVm s.vm).setFrames (.invoking m args :: below)).localsInUse = s.localsInUse := by
      rw [State.localsInUse_invoking hF (meth := meth) (c := c) X.method X.code, State.localsInUse_invoking X.frames X.method X.code]
    simp only [State.hasRoom, Bool.and_eq_true, decide_eq_true_eq] at h ⊢
    obtain ⟨⟨⟨⟨h1, h2, h3, h4, h5, h6⟩, h7⟩, h8⟩, h9⟩ := h
    rw [X.frames, List.length_cons] at h2 h3
    have q1 := X.heapSize
    have q2 := X.used
    simp only [hF, hU, List.length_cons, State.stackLimits_setFrames, State.stackBytes_setFrames, hl9, hb9]
    refine ⟨⟨⟨⟨by omega, by omega, by omega, by omega, by omega, h6⟩, ?_⟩, ?_⟩, X.book⟩
    · show T.heap.size + R'.cells ≤ e.platform.maxCells
      omega
    · show T.slotsUsed + R'.slots ≤ e.platform.maxSlots
      omega
  · rw [State.stackLimits_setFrames]; rfl
  · rw [State.stackBytes_setFrames]; rfl
  · refine ⟨?_, Nat.le_refl _, Nat.le_refl _, ?_, ?_, fun a c9 h9 => ⟨c9, h9, rfl, rfl, fun _ _ => rfl⟩⟩
    · obtain ⟨t, ht, -⟩ := State.frames_cons hr
      show T.setVm s.vm = { ((T.setVm s.vm).setFrames (.invoking m args :: below)).setFrames (T.setVm s.vm).frames with heap := T.heap, slotsUsed := T.slotsUsed }
      rw [State.setFrames_setFrames, State.setFrames_self ht]
      rfl
    · show T.slotsUsed = T.slotsUsed + ((T.heap.toList.drop T.heap.size).map (·.slots.size)).sum
      rw [List.drop_eq_nil_of_le (Nat.le_of_eq Array.length_toList)]
      rfl
    · show ((T.heap.toList.drop T.heap.size).map (·.slots.size)).sum ≤ 0
      rw [List.drop_eq_nil_of_le (Nat.le_of_eq Array.length_toList)]
      exact Nat.le_refl _
/-- 'throw new E()': new; dup; invokespecial; athrow -/
theorem vx_throw0 {cc : ByteArray} {pc : Nat} (hexec : p.tables.exec = Jvm.exec) (hb : c.code = cc) (hl : l.stackTraces = false) {own cls : String} {names : List String} {ik ic mc ms : Nat} {A : Nat → Prop}
    (hown : s.vm.findClass own = some m.cls) (hcls : Bundle.fit cls = true) (hnames : ∀ n ∈ names, Bundle.fit n = true)
    (hk : (Cond.classLink own ik cls).before args s = true) (hini : (Cond.initialized cls).before args s = true) (hat : ∀ w ∈ vx_at0 own ic cls names, w.before args s = true)
    (hgood : ∀ w ∈ Cond.classLink own ik cls :: Cond.initialized cls :: vx_at0 own ic cls names, vx_ot w = true)
    (hU : vx_Zq Bundle.tN "UNASSIGNED_STACK" Bundle.steD A s s.heap) (hN : vx_Zq Bundle.tN "SUPPRESSED_SENTINEL" Bundle.listD A s s.heap) (hS : va_S A s.heap H locs) (hsize : ls.size = c.maxLocals)
    (d0 : decode cc pc = .ok (.new ik, 3)) (d3 : decode cc (pc + 3) = .ok (.dup, 1)) (d4 : decode cc (pc + 4) = .ok (.invokespecial ic, 3)) (d7 : decode cc (pc + 7) = .ok (.athrow, 1))
    (hout : ∀ x ∈ c.exceptionTable.toList, covers x (pc + 7) = false)
    (hRframes : names.length + 3 < R.frames) (hRlocals : (rest.map fun v => v.category).sum + (13 * (names.length + 1) + 42) ≤ R.locals) (hRcells : cells + 1 ≤ R.cells) (hRslots : slots + 6 ≤ R.slots) (hlocks : meth.locks = false)
    (hx : ∀ t : State, s.vm.Alike t.vm → H.size ≤ t.heap.size → (∀ q : Nat, q < H.size → t.heap[q]? = H[q]?) → XC cls s t)
    (hf : ∀ z ∈ locs, free z.base) (hc : cells + 1 ≤ mc) (hs : slots + 6 ≤ ms) :
    W p l e R s m args below meth c H locs cells slots (vx_MQ below Qc XC args s mc ms free) (F0 m pc ls rest) := by
  intro T hT X
  have htr : e.platform.stackTraces = false := (show e.platform.stackTraces = l.stackTraces by rw [X.admits.platform]).trans hl
  have Y := vx_rebase X (R' := { frames := R.frames, locals := R.locals, cells := 1, slots := 6 }) (Nat.le_refl _) (Nat.le_refl _) hRcells hRslots
  obtain ⟨s', hA⟩ : ∃ z, z = (T.setVm s.vm).setFrames (.invoking m args :: below) := ⟨_, rfl⟩
  rw [← hA] at Y
  have hvm : s'.vm = s.vm := by rw [hA]; rfl
  have hhp : s'.heap = H := by rw [hA]; exact hT
  have hW0 : s.WarmedH s'.vm := by rw [hvm]; exact State.WarmedH.refl s
  have hat' : ∀ w ∈ vx_at0 own ic cls names, w.before args s' = true := fun w hw => vx_ot_at hW0 hvm.symm (hgood w (List.mem_cons_of_mem _ (List.mem_cons_of_mem _ hw))) (hat w hw)
  have hk' : (Cond.classLink own ik cls).before args s' = true := vx_ot_at hW0 hvm.symm (hgood _ List.mem_cons_self) hk
  have hini' : (Cond.initialized cls).before args s' = true := vx_ot_at hW0 hvm.symm (hgood _ (List.mem_cons_of_mem _ List.mem_cons_self)) hini
  have hU' : vx_Zq Bundle.tN "UNASSIGNED_STACK" Bundle.steD A s' s'.heap := by rw [hhp]; exact vx_Zq.moved hW0.alike (hU.kept hS.2.1)
  have hN' : vx_Zq Bundle.tN "SUPPRESSED_SENTINEL" Bundle.listD A s' s'.heap := by rw [hhp]; exact vx_Zq.moved hW0.alike (hN.kept hS.2.1)
  have h : ∀ w ∈ Bundle.ownAtoms0 own ic cls names, w.before args s' = true := vx_own hat' (vx_isRefq hU'.1) (vx_isRefq hN'.1) hU'.2.word hN'.2.word
  have hown' : s'.vm.findClass own = some m.cls := by rw [hvm]; exact hown
  have hins : (Cond.instantiable cls 6).before args s' = true := h _ (by simp [Bundle.ownAtoms0])
  obtain ⟨vm₁, cX, kX, hfX, hkX, -, -, X₁, st1⟩ := Y.newCold hexec (own := own) (C := cls) (index := ik) (n := 6) hown' hk' hins hini'
    (g := F0 m pc ls rest) rfl (by rw [hb]; exact d0) (Nat.le_refl _) (Nat.le_refl _)
  generalize hT1 : (T.setVm vm₁).pushCell { cls := cX, slots := kX.instanceTypes.map defaultValue, vm := .none } = T1 at X₁ st1
  have hcat : (Value.ref T.heap.size).category = 1 := rfl
  have hcellA : T1.heap[T.heap.size]? = some (freshCell cX kX) := by rw [← hT1]; exact State.heap_pushCell_size _ _
  have d3' : decode c.code (pc + 3) = .ok (.dup, 1) := by rw [hb]; exact d3
  obtain ⟨U, hsteps, hrun, hend, hW, hsame, ce, hce, hO⟩ := X₁.ctorThrow0 hexec htr (own := own) (cls := cls) (names := names) (ic := ic) hown' hcls hnames h (fun x hx => nomatch hx) hfX hkX hcellA (by rw [hhp, hT]; exact Nat.le_refl _)
    (g := { method := m, pc := pc + 4, locals := ls, stack := .ref T.heap.size :: .ref T.heap.size :: rest, locked := none }) rfl hsize rfl rfl (rest := rest) rfl
    (by rw [hb]; exact d4) (by rw [hb]; exact d7) hout hRframes (by simp only [List.map_cons, List.sum_cons, hcat]; omega) hlocks
  obtain ⟨f1, f2⟩ := vx_frame hsame
  rw [hhp] at f1 f2
  have hWs : s.WarmedH U.vm := State.WarmedH.trans hW0 hW
  have hcl : s.vm.findClass cls = some ce.cls := by
    have h9 := hO.cls
    rw [hvm] at h9
    exact h9
  have hall : s.sameButNew ({ U with vm := s.vm } : State) locs mc ms := by
    subst hA
    obtain ⟨e1, e2⟩ := hsame
    rw [State.setFrames_setFrames] at e1
    have h2 : (T.setVm s.vm).sameButNew ({ U with vm := s.vm } : State) [] (0 + 1) (0 + 6) := ⟨e1, e2⟩
    have h3 := X.same.trans h2
    rw [List.append_nil] at h3
    exact h3.mono hc hs
  refine ⟨U, ?_, .threw T.heap.size, hrun, hend, Or.inr ⟨T.heap.size, rfl, cls, ce, locs, hx U hWs.alike f1 (fun q hq => f2 q hq (fun z hz => nomatch hz)), hce, hO.vm, hcl, hWs, hall, hf⟩⟩
  refine st1 _ ?_
  show Steps p.tables e below (T1.setTop { method := m, pc := pc + 3, locals := ls, stack := .ref T.heap.size :: rest, locked := none }) _
  jvm_step X₁.here [X₁.here.top, hexec, d3', Value.category]
  exact hsteps
/-- 'throw new E("text")': new; dup; ldc; invokespecial; athrow -/
theorem vx_throwS {cc : ByteArray} {pc : Nat} (hexec : p.tables.exec = Jvm.exec) (hb : c.code = cc) (hl : l.stackTraces = false) {own cls text : String} {names : List String} {ik is ic mc ms sa : Nat} {A : Nat → Prop}
    (hown : s.vm.findClass own = some m.cls) (hcls : Bundle.fit cls = true) (hnames : ∀ n ∈ names, Bundle.fit n = true)
    (hk : (Cond.classLink own ik cls).before args s = true) (hini : (Cond.initialized cls).before args s = true) (hstr : vk_R own is text sa s) (hat : ∀ w ∈ vx_atS own ic cls names, w.before args s = true)
    (hgood : ∀ w ∈ Cond.classLink own ik cls :: Cond.initialized cls :: vx_atS own ic cls names, vx_ot w = true)
    (hU : vx_Zq Bundle.tN "UNASSIGNED_STACK" Bundle.steD A s s.heap) (hN : vx_Zq Bundle.tN "SUPPRESSED_SENTINEL" Bundle.listD A s s.heap) (hS : va_S A s.heap H locs) (hsize : ls.size = c.maxLocals)
    (d0 : decode cc pc = .ok (.new ik, 3)) (d3 : decode cc (pc + 3) = .ok (.dup, 1)) (d4 : decode cc (pc + 4) = .ok (.ldc is, 2)) (d6 : decode cc (pc + 6) = .ok (.invokespecial ic, 3)) (d9 : decode cc (pc + 9) = .ok (.athrow, 1))
    (hout : ∀ x ∈ c.exceptionTable.toList, covers x (pc + 9) = false)
    (hRframes : names.length + 3 < R.frames) (hRlocals : (rest.map fun v => v.category).sum + (13 * (names.length + 1) + 43) ≤ R.locals) (hRcells : cells + 1 ≤ R.cells) (hRslots : slots + 6 ≤ R.slots) (hlocks : meth.locks = false)
    (hx : ∀ t : State, s.vm.Alike t.vm → H.size ≤ t.heap.size → (∀ q : Nat, q < H.size → t.heap[q]? = H[q]?) → XC cls s t)
    (hf : ∀ z ∈ locs, free z.base) (hc : cells + 1 ≤ mc) (hs : slots + 6 ≤ ms) :
    W p l e R s m args below meth c H locs cells slots (vx_MQ below Qc XC args s mc ms free) (F0 m pc ls rest) := by
  intro T hT X
  have htr : e.platform.stackTraces = false := (show e.platform.stackTraces = l.stackTraces by rw [X.admits.platform]).trans hl
  have Y := vx_rebase X (R' := { frames := R.frames, locals := R.locals, cells := 1, slots := 6 }) (Nat.le_refl _) (Nat.le_refl _) hRcells hRslots
  obtain ⟨s', hA⟩ : ∃ z, z = (T.setVm s.vm).setFrames (.invoking m args :: below) := ⟨_, rfl⟩
  rw [← hA] at Y
  have hvm : s'.vm = s.vm := by rw [hA]; rfl
  have hhp : s'.heap = H := by rw [hA]; exact hT
  have hW0 : s.WarmedH s'.vm := by rw [hvm]; exact State.WarmedH.refl s
  have hat' : ∀ w ∈ vx_atS own ic cls names, w.before args s' = true := fun w hw => vx_ot_at hW0 hvm.symm (hgood w (List.mem_cons_of_mem _ (List.mem_cons_of_mem _ hw))) (hat w hw)
  have hk' : (Cond.classLink own ik cls).before args s' = true := vx_ot_at hW0 hvm.symm (hgood _ List.mem_cons_self) hk
  have hini' : (Cond.initialized cls).before args s' = true := vx_ot_at hW0 hvm.symm (hgood _ (List.mem_cons_of_mem _ List.mem_cons_self)) hini
  have hU' : vx_Zq Bundle.tN "UNASSIGNED_STACK" Bundle.steD A s' s'.heap := by rw [hhp]; exact vx_Zq.moved hW0.alike (hU.kept hS.2.1)
  have hN' : vx_Zq Bundle.tN "SUPPRESSED_SENTINEL" Bundle.listD A s' s'.heap := by rw [hhp]; exact vx_Zq.moved hW0.alike (hN.kept hS.2.1)
  have h : ∀ w ∈ Bundle.ownAtoms own ic cls names, w.before args s' = true := vx_own hat' (vx_isRefq hU'.1) (vx_isRefq hN'.1) hU'.2.word hN'.2.word
  have hown' : s'.vm.findClass own = some m.cls := by rw [hvm]; exact hown
  have hins : (Cond.instantiable cls 6).before args s' = true := h _ (by simp [Bundle.ownAtoms])
  obtain ⟨vm₁, cX, kX, hfX, hkX, -, -, X₁, st1⟩ := Y.newCold hexec (own := own) (C := cls) (index := ik) (n := 6) hown' hk' hins hini'
    (g := F0 m pc ls rest) rfl (by rw [hb]; exact d0) (Nat.le_refl _) (Nat.le_refl _)
  generalize hT1 : (T.setVm vm₁).pushCell { cls := cX, slots := kX.instanceTypes.map defaultValue, vm := .none } = T1 at X₁ st1
  have hcat : (Value.ref T.heap.size).category = 1 := rfl
  have hcellA : T1.heap[T.heap.size]? = some (freshCell cX kX) := by rw [← hT1]; exact State.heap_pushCell_size _ _
  have d3' : decode c.code (pc + 3) = .ok (.dup, 1) := by rw [hb]; exact d3
  have d4' : decode c.code (pc + 4) = .ok (.ldc is, 2) := by rw [hb]; exact d4
  have hstr' : vk_R own is text sa s' := vk_R.warm hW0 hstr
  obtain ⟨U, hsteps, hrun, hend, hW, hsame, ce, hce, hO⟩ := X₁.ctorThrowS hexec htr (own := own) (cls := cls) (names := names) (ic := ic) hown' hcls hnames h (fun x hx => nomatch hx) hfX hkX hcellA (by rw [hhp, hT]; exact Nat.le_refl _) (msg := .ref sa) rfl
    (g := { method := m, pc := pc + 6, locals := ls, stack := .ref sa :: .ref T.heap.size :: .ref T.heap.size :: rest, locked := none }) rfl hsize rfl rfl (rest := rest) rfl
    (by rw [hb]; exact d6) (by rw [hb]; exact d9) hout hRframes (by simp only [List.map_cons, List.sum_cons, hcat]; omega) hlocks
  obtain ⟨f1, f2⟩ := vx_frame hsame
  rw [hhp] at f1 f2
  have hWs : s.WarmedH U.vm := State.WarmedH.trans hW0 hW
  have hcl : s.vm.findClass cls = some ce.cls := by
    have h9 := hO.cls
    rw [hvm] at h9
    exact h9
  have hall : s.sameButNew ({ U with vm := s.vm } : State) locs mc ms := by
    subst hA
    obtain ⟨e1, e2⟩ := hsame
    rw [State.setFrames_setFrames] at e1
    have h2 : (T.setVm s.vm).sameButNew ({ U with vm := s.vm } : State) [] (0 + 1) (0 + 6) := ⟨e1, e2⟩
    have h3 := X.same.trans h2
    rw [List.append_nil] at h3
    exact h3.mono hc hs
  refine ⟨U, ?_, .threw T.heap.size, hrun, hend, Or.inr ⟨T.heap.size, rfl, cls, ce, locs, hx U hWs.alike f1 (fun q hq => f2 q hq (fun z hz => nomatch hz)), hce, hO.vm, hcl, hWs, hall, hf⟩⟩
  refine st1 _ ?_
  show Steps p.tables e below (T1.setTop { method := m, pc := pc + 3, locals := ls, stack := .ref T.heap.size :: rest, locked := none }) _
  jvm_step X₁.here [X₁.here.top, hexec, d3', Value.category]
  exact X₁.ldcString hexec (own := own) (text := text) (index := is) (a := sa) hown' hstr'.1 hstr'.2
    (g := { method := m, pc := pc + 4, locals := ls, stack := .ref T.heap.size :: .ref T.heap.size :: rest, locked := none }) rfl d4' _ hsteps
/-- 'throw new E("text")', the text by a wide index -/
theorem vx_throwSW {cc : ByteArray} {pc : Nat} (hexec : p.tables.exec = Jvm.exec) (hb : c.code = cc) (hl : l.stackTraces = false) {own cls text : String} {names : List String} {ik is ic mc ms sa : Nat} {A : Nat → Prop}
    (hown : s.vm.findClass own = some m.cls) (hcls : Bundle.fit cls = true) (hnames : ∀ n ∈ names, Bundle.fit n = true)
    (hk : (Cond.classLink own ik cls).before args s = true) (hini : (Cond.initialized cls).before args s = true) (hstr : vk_R own is text sa s) (hat : ∀ w ∈ vx_atS own ic cls names, w.before args s = true)
    (hgood : ∀ w ∈ Cond.classLink own ik cls :: Cond.initialized cls :: vx_atS own ic cls names, vx_ot w = true)
    (hU : vx_Zq Bundle.tN "UNASSIGNED_STACK" Bundle.steD A s s.heap) (hN : vx_Zq Bundle.tN "SUPPRESSED_SENTINEL" Bundle.listD A s s.heap) (hS : va_S A s.heap H locs) (hsize : ls.size = c.maxLocals)
    (d0 : decode cc pc = .ok (.new ik, 3)) (d3 : decode cc (pc + 3) = .ok (.dup, 1)) (d4 : decode cc (pc + 4) = .ok (.ldc_w is, 3)) (d7 : decode cc (pc + 7) = .ok (.invokespecial ic, 3)) (d10 : decode cc (pc + 10) = .ok (.athrow, 1))
    (hout : ∀ x ∈ c.exceptionTable.toList, covers x (pc + 10) = false)
    (hRframes : names.length + 3 < R.frames) (hRlocals : (rest.map fun v => v.category).sum + (13 * (names.length + 1) + 43) ≤ R.locals) (hRcells : cells + 1 ≤ R.cells) (hRslots : slots + 6 ≤ R.slots) (hlocks : meth.locks = false)
    (hx : ∀ t : State, s.vm.Alike t.vm → H.size ≤ t.heap.size → (∀ q : Nat, q < H.size → t.heap[q]? = H[q]?) → XC cls s t)
    (hf : ∀ z ∈ locs, free z.base) (hc : cells + 1 ≤ mc) (hs : slots + 6 ≤ ms) :
    W p l e R s m args below meth c H locs cells slots (vx_MQ below Qc XC args s mc ms free) (F0 m pc ls rest) := by
  intro T hT X
  have htr : e.platform.stackTraces = false := (show e.platform.stackTraces = l.stackTraces by rw [X.admits.platform]).trans hl
  have Y := vx_rebase X (R' := { frames := R.frames, locals := R.locals, cells := 1, slots := 6 }) (Nat.le_refl _) (Nat.le_refl _) hRcells hRslots
  obtain ⟨s', hA⟩ : ∃ z, z = (T.setVm s.vm).setFrames (.invoking m args :: below) := ⟨_, rfl⟩
  rw [← hA] at Y
  have hvm : s'.vm = s.vm := by rw [hA]; rfl
  have hhp : s'.heap = H := by rw [hA]; exact hT
  have hW0 : s.WarmedH s'.vm := by rw [hvm]; exact State.WarmedH.refl s
  have hat' : ∀ w ∈ vx_atS own ic cls names, w.before args s' = true := fun w hw => vx_ot_at hW0 hvm.symm (hgood w (List.mem_cons_of_mem _ (List.mem_cons_of_mem _ hw))) (hat w hw)
  have hk' : (Cond.classLink own ik cls).before args s' = true := vx_ot_at hW0 hvm.symm (hgood _ List.mem_cons_self) hk
  have hini' : (Cond.initialized cls).before args s' = true := vx_ot_at hW0 hvm.symm (hgood _ (List.mem_cons_of_mem _ List.mem_cons_self)) hini
  have hU' : vx_Zq Bundle.tN "UNASSIGNED_STACK" Bundle.steD A s' s'.heap := by rw [hhp]; exact vx_Zq.moved hW0.alike (hU.kept hS.2.1)
  have hN' : vx_Zq Bundle.tN "SUPPRESSED_SENTINEL" Bundle.listD A s' s'.heap := by rw [hhp]; exact vx_Zq.moved hW0.alike (hN.kept hS.2.1)
  have h : ∀ w ∈ Bundle.ownAtoms own ic cls names, w.before args s' = true := vx_own hat' (vx_isRefq hU'.1) (vx_isRefq hN'.1) hU'.2.word hN'.2.word
  have hown' : s'.vm.findClass own = some m.cls := by rw [hvm]; exact hown
  have hins : (Cond.instantiable cls 6).before args s' = true := h _ (by simp [Bundle.ownAtoms])
  obtain ⟨vm₁, cX, kX, hfX, hkX, -, -, X₁, st1⟩ := Y.newCold hexec (own := own) (C := cls) (index := ik) (n := 6) hown' hk' hins hini'
    (g := F0 m pc ls rest) rfl (by rw [hb]; exact d0) (Nat.le_refl _) (Nat.le_refl _)
  generalize hT1 : (T.setVm vm₁).pushCell { cls := cX, slots := kX.instanceTypes.map defaultValue, vm := .none } = T1 at X₁ st1
  have hcat : (Value.ref T.heap.size).category = 1 := rfl
  have hcellA : T1.heap[T.heap.size]? = some (freshCell cX kX) := by rw [← hT1]; exact State.heap_pushCell_size _ _
  have d3' : decode c.code (pc + 3) = .ok (.dup, 1) := by rw [hb]; exact d3
  have d4' : decode c.code (pc + 4) = .ok (.ldc_w is, 3) := by rw [hb]; exact d4
  have hstr' : vk_R own is text sa s' := vk_R.warm hW0 hstr
  obtain ⟨U, hsteps, hrun, hend, hW, hsame, ce, hce, hO⟩ := X₁.ctorThrowS hexec htr (own := own) (cls := cls) (names := names) (ic := ic) hown' hcls hnames h (fun x hx => nomatch hx) hfX hkX hcellA (by rw [hhp, hT]; exact Nat.le_refl _) (msg := .ref sa) rfl
    (g := { method := m, pc := pc + 7, locals := ls, stack := .ref sa :: .ref T.heap.size :: .ref T.heap.size :: rest, locked := none }) rfl hsize rfl rfl (rest := rest) rfl
    (by rw [hb]; exact d7) (by rw [hb]; exact d10) hout hRframes (by simp only [List.map_cons, List.sum_cons, hcat]; omega) hlocks
  obtain ⟨f1, f2⟩ := vx_frame hsame
  rw [hhp] at f1 f2
  have hWs : s.WarmedH U.vm := State.WarmedH.trans hW0 hW
  have hcl : s.vm.findClass cls = some ce.cls := by
    have h9 := hO.cls
    rw [hvm] at h9
    exact h9
  have hall : s.sameButNew ({ U with vm := s.vm } : State) locs mc ms := by
    subst hA
    obtain ⟨e1, e2⟩ := hsame
    rw [State.setFrames_setFrames] at e1
    have h2 : (T.setVm s.vm).sameButNew ({ U with vm := s.vm } : State) [] (0 + 1) (0 + 6) := ⟨e1, e2⟩
    have h3 := X.same.trans h2
    rw [List.append_nil] at h3
    exact h3.mono hc hs
  refine ⟨U, ?_, .threw T.heap.size, hrun, hend, Or.inr ⟨T.heap.size, rfl, cls, ce, locs, hx U hWs.alike f1 (fun q hq => f2 q hq (fun z hz => nomatch hz)), hce, hO.vm, hcl, hWs, hall, hf⟩⟩
  refine st1 _ ?_
  show Steps p.tables e below (T1.setTop { method := m, pc := pc + 3, locals := ls, stack := .ref T.heap.size :: rest, locked := none }) _
  jvm_step X₁.here [X₁.here.top, hexec, d3', Value.category]
  exact X₁.ldcStringW hexec (own := own) (text := text) (index := is) (a := sa) hown' hstr'.1 hstr'.2
    (g := { method := m, pc := pc + 4, locals := ls, stack := .ref T.heap.size :: .ref T.heap.size :: rest, locked := none }) rfl d4' _ hsteps
end Ends
section Bodies
variable {l : Launch}
theorem vx_ofW {y : MethodName} {ws ws' : List Cond} {rm : Room} {Pc : Array Value → State → Prop} {Qc : Array Value → State → Outcome → State → Prop} {XC : String → State → State → Prop} {mc ms : Nat} {free : Addr → Prop} {cc : ByteArray} {maxL : Nat} {ret : Option FieldType}
    (hy : plainName y.cls = true) (hw : ws = Cond.code y cc maxL ret :: ws')
    (body : ∀ p e s m args below meth c s₁, BodyLoose p l y (headSpec ws rm) cc maxL ret e s m args below meth c s₁ → c.maxLocals = maxL → (∀ x ∈ c.exceptionTable.toList, False) → Pc args s →
      W p l e (headSpec ws rm).room s m args below meth c s.heap [] 0 0 (vx_MQ below Qc XC args s mc ms free) (entryFrame m args maxL)) : vx_Met l y ws rm Pc Qc XC mc ms free := by
  refine MetFree.of_bodyS (code := cc) (maxLocals := maxL) (ret := ret) hy ?_ ?_
  · intro args s m h hn
    obtain ⟨meth, c, h1, h2, h3, h4, h5, h6, -, -⟩ := Cond.code_spec hn (atoms_spec (ws := ws) h _ (by rw [hw]; exact List.mem_cons_self))
    exact ⟨meth, c, h1, h2, h3, h4, h5, h6⟩
  · intro p e s m args below meth c s₁ B hml hP _
    have hh0 : s₁.heap = s.heap := by rw [B.state]; rfl
    have ht : ∀ x ∈ c.exceptionTable.toList, False := by
      obtain ⟨meth9, c9, h1, h2, -, -, -, -, h7, -⟩ := Cond.code_spec B.named (atoms_spec (ws := ws) B.pre _ (by rw [hw]; exact List.mem_cons_self))
      cases Option.some.inj (h1.symm.trans B.method)
      cases Option.some.inj (h2.symm.trans (Stand.of_body B).code)
      intro x hx
      rw [Array.isEmpty_iff.mp h7] at hx
      cases hx
    obtain ⟨t, a1, o, b1, b2, b3⟩ := body p e s m args below meth c s₁ B hml ht hP s₁ hh0 (Stand.of_body B)
    exact ⟨t, o, a1, b1, b2, b3⟩
/-- the table of a body with handlers -/
theorem vx_table {p : Program} {x y : MethodName} {S : Spec} {cc bytes : ByteArray} {maxL maxL' : Nat} {ret ret' : Option FieldType} {e : Env} {s s₁ : State} {m : MethodId} {args : Array Value} {below : List Frame} {meth : Method} {c : Code} {hh : List (Nat × Nat × Nat × Nat)}
    (B : BodyLoose p l y S cc maxL ret e s m args below meth c s₁) (h : (Cond.codeWith y bytes maxL' ret' hh).before args s = true) : c.exceptionTable.toList = tableOf hh := by
  obtain ⟨m9, meth9, c9, hn9, h1, h2, -, -, h6, -⟩ := Cond.codeWith_spec h
  cases Option.some.inj (hn9.symm.trans B.named)
  cases Option.some.inj (h1.symm.trans B.method)
  cases Option.some.inj (h2.symm.trans (Stand.of_body B).code)
  rw [← h6, table_eq]
end Bodies
end VXA
/-! ===== END ===== -/
/-! ===== BEGIN a static call of a method with an exception table ===== -/
section VXS
variable {p : Program} {l : Launch} {e : Env} {R : Room} {s : State} {m : MethodId} {args : Array Value} {below : List Frame} {meth : Method} {c : Code} {T : State} {H : Heap} {locs : List Loc} {cells slots : Nat}
abbrev vx_CSW (R : Room) (s : State) (args : Array Value) (own : String) (index : Nat) (y : MethodName) (bytes : ByteArray) (maxL : Nat) (ret : Option FieldType) (hh : List (Nat × Nat × Nat × Nat)) (ws : List Cond) (rm : Room) (mc ms n : Nat) : Prop :=
  (rm.cells = mc ∧ rm.slots = ms ∧ rm.frames + 1 ≤ R.frames ∧ 8 + (maxL + 11) + rm.locals ≤ R.locals ∧ (∀ w ∈ ws, ∀ (a' : Array Value) (U : State), s.WarmedH U.vm → w.before a' U = true) ∧ Cond.codeWith y bytes maxL ret hh ∈ ws) ∧
  (Cond.codeWith y bytes maxL ret hh).before args s = true ∧ (Cond.initialized y.cls).before args s = true ∧ (y.cls ≠ "java/lang/invoke/MethodHandle" ∧ y.cls ≠ "java/lang/invoke/VarHandle") ∧
  (∀ sig, parseMethodDescriptor y.desc = some sig → n = sig.parameters.length) ∧ (Cond.methodLink own index y).before args s = true ∧ (Cond.static y).before args s = true
theorem vx_cwSW {own : String} {index maxL mc ms : Nat} {y : MethodName} {bytes : ByteArray} {ret : Option FieldType} {hh : List (Nat × Nat × Nat × Nat)} {Ts ws ws' : List Cond} {rm : Room} (n : Nat) (ht : ∀ w ∈ Ts, w.before args s = true) (hT : GoodIn Ts (va_wsS own index y ws)) (hw : ws = Cond.codeWith y bytes maxL ret hh :: ws') (hrc : rm.cells = mc) (hrs : rm.slots = ms)
    (hd : y.cls ≠ "java/lang/invoke/MethodHandle" ∧ y.cls ≠ "java/lang/invoke/VarHandle" ∧ (parseMethodDescriptor y.desc).map (fun d => d.parameters.length) = some n) (hR : rm.frames + 1 ≤ R.frames ∧ 8 + (maxL + 11) + rm.locals ≤ R.locals) :
    vx_CSW R s args own index y bytes maxL ret hh ws rm mc ms n := by
  have ok : ∀ w ∈ va_wsS own index y ws, w.before args s = true := fun w h => ht w (hT w h).1
  have hG : GoodIn Ts ws := fun w h => hT w (by unfold va_wsS; exact List.mem_append_right _ h)
  have hc : Cond.codeWith y bytes maxL ret hh ∈ ws := by rw [hw]; exact List.mem_cons_self
  refine ⟨⟨hrc, hrs, hR.1, hR.2, pay_in ht hG, hc⟩, ht _ (hG _ hc).1, ok _ (by simp [va_wsS]), ⟨hd.1, hd.2.1⟩, fun sig h => ?_, ok _ (by simp [va_wsS]), ok _ (by simp [va_wsS])⟩
  have h2 := hd.2.2
  rw [h] at h2
  exact (Option.some.inj h2).symm
theorem vx_callSW (X : Stand p l e R s m args below meth c T locs cells slots) (hexec : p.tables.exec = Jvm.exec) {own : String} {index : Nat} {y : MethodName} {bytes : ByteArray} {maxL : Nat} {ret : Option FieldType} {hh : List (Nat × Nat × Nat × Nat)}
    (hown : s.vm.findClass own = some m.cls) (hlink : (Cond.methodLink own index y).before args s = true) (hstat : (Cond.static y).before args s = true) (hinit : (Cond.initialized y.cls).before args s = true)
    (hcode : (Cond.codeWith y bytes maxL ret hh).before args s = true) (hy : y.cls ≠ "java/lang/invoke/MethodHandle" ∧ y.cls ≠ "java/lang/invoke/VarHandle")
    {W9 : Nat} {Pre : Pt → Array Value → Prop} {Post : Pt → Array Value → Option Value → Pt → Prop} (hK : Back l R p e below s args y 3 W9 Pre Post)
    {g : JFrame} (hg : g.method = m) (hsize : g.locals.size = c.maxLocals) {argsL rest : List Value} (hlen : ∀ sig, parseMethodDescriptor y.desc = some sig → argsL.length = sig.parameters.length)
    (hstack : g.stack = argsL.reverse ++ rest) (hW : 2 * g.monitorRoom + (rest.map fun v => v.category).sum ≤ W9) (hdg : decode c.code g.pc = .ok (.invokestatic index, 3))
    (hpre : ∀ vm₁, s.WarmedH vm₁ → Pre ⟨T.setVm vm₁, locs, cells, slots⟩ argsL.toArray) :
    ∃ (v : Option Value) (vm₁ : Vm) (B : Pt), s.WarmedH vm₁ ∧ Stand p l e R s m args below meth c B.U B.locs B.cells B.slots ∧ Post ⟨T.setVm vm₁, locs, cells, slots⟩ argsL.toArray v B ∧
      ∀ target, Steps p.tables e below (B.U.setTop { g with pc := g.pc + 3, stack := v.toList ++ rest }) target → Steps p.tables e below (T.setTop g) target := by
  obtain ⟨mk, methM, cM, hnamed, hmethM, -, -, -, -, -, -, hsigM⟩ := Cond.codeWith_spec hcode
  have hstatic : methM.isStatic = true := Cond.static_spec hnamed hmethM hstat
  obtain ⟨kP, hkP, -⟩ := className_of_methodNamed hnamed
  have hinitP : kP.init = .initialized := Cond.initialized_spec (findClass_of_methodNamed hnamed) hkP hinit
  obtain ⟨vm₁, X₁, hstep₁⟩ := X.invokestatic hexec hown hlink hnamed hmethM hstatic hkP hinitP hy (g := g) hg (argsL := argsL) (rest := rest) (hlen _ hsigM) hstack hdg
  obtain ⟨v, B, X', hpost, hsteps⟩ := hK m meth c ⟨T.setVm vm₁, locs, cells, slots⟩ { g with stack := rest } (.invokestatic index) mk argsL.toArray X₁ hg hsize hdg hW (X₁.named hnamed) (hpre vm₁ X₁.warmed)
  exact ⟨v, vm₁, B, X₁.warmed, X', hpost, fun target h => hstep₁ _ fun acts => by rw [doInvoke_state]; exact hsteps.trans h⟩
theorem vx_runSW {y : MethodName} {bytes cc : ByteArray} {maxL nL mc ms n index : Nat} {ret : Option FieldType} {hh : List (Nat × Nat × Nat × Nat)} {ws : List Cond} {rm : Room} {Pc : Array Value → State → Prop} {Qc : Array Value → State → Outcome → State → Prop} {free : Addr → Prop} {Ts : List Cond} {own : String} {As rest : List Value} {g : JFrame}
    (S : CallFix p m c cc nL s args Ts own) (hM : Met l y ws rm Pc Qc mc ms free) (cw : vx_CSW R s args own index y bytes maxL ret hh ws rm mc ms n) (hp : PreS s H Pc As)
    (hg : g.method = m) (hn : As.length = n) (hsize : g.locals.size = nL) (hstack : g.stack = As.reverse ++ rest) (hW : 2 * g.monitorRoom + (rest.map fun v => v.category).sum ≤ 8) (hdg : decode cc g.pc = .ok (.invokestatic index, 3)) (hf : cells + mc ≤ R.cells ∧ slots + ms ≤ R.slots) :
    va_Run p l e R s m args below meth c H locs cells slots mc ms g rest (Qc As.toArray) (free) := by
  obtain ⟨⟨hrc, hrs, hfr, hlo, hws, hcw⟩, hcode, hini, hy, hlen, hl, hstt⟩ := cw
  have hK : Back l R p e below s args y 3 8 (PreOf R mc ms Pc) (PostOf Qc mc ms free) := va_backW (hh := hh) (bytes := bytes) (maxL := maxL) (ret := ret) hM hp.1 hrc hrs hfr hlo hws hcw (fun a' U hW => word_at hW (Or.inl (by first | rfl | simp [Cond.onTables, Cond.keeps, Cond.steady])) hini)
  obtain ⟨hx, hb, hml, ho, -⟩ := S
  intro T hT X
  obtain ⟨v, vm₁, ⟨U', l2, c2, s2⟩, hW₁, X', ⟨g', mk, t, L, e1, e2, hq, h1, hL, h2, h3⟩, st⟩ := vx_callSW X hx (hh := hh) (bytes := bytes) (maxL := maxL) (ret := ret) ho hl hstt hini hcode hy hK hg (hsize.trans hml.symm) (argsL := As) (rest := rest) (fun sig h => hn.trans (hlen sig h)) hstack hW (by rw [hb]; exact hdg)
    (fun vm₁ hW₁ => ⟨hf.1, hf.2, hp.2 (T.setVm vm₁) hT hW₁⟩)
  dsimp only [Pt.U, Pt.locs, Pt.cells, Pt.slots] at X' e1 e2 h1 h2 h3 st
  subst h1; subst h2; subst h3
  exact ⟨v, (T.setVm vm₁).calling g' mk As.toArray, t, U', L, hT, X', hL, e1, e2, hq, st⟩
/-- not caught here, past rows that name other classes: it goes on to the caller -/
theorem vx_outP {p : Program} {l : Launch} {e : Env} {R : Room} {s : State} {m : MethodId} {args : Array Value} {below : List Frame} {meth : Method} {c : Code} {H : Heap} {locs : List Loc} {cells slots : Nat} {free : Addr → Prop} {ls : Array Slot} {rest : List Value} {Qc : Array Value → State → Outcome → State → Prop} {XC : String → State → State → Prop}
    {pc : Nat} {own E : String} {ce : Cell} {q : Addr} {mc ms : Nat} (hown : s.vm.findClass own = some m.cls) (hlocks : meth.locks = false)
    (hpass : ∀ z ∈ c.exceptionTable.toList, covers z pc = false ∨ (z.catchType ≠ 0 ∧ ∃ nm : String, (Cond.classLink own z.catchType nm).before args s = true ∧ va_Nc E nm s)) (hcell : H[q]? = some ce) (hv : ce.vm = .none) (hcl : s.vm.findClass E = some ce.cls)
    (hx : ∀ t : State, t.heap = H → s.vm.Alike t.vm → XC E s t) (hf : ∀ z ∈ locs, free z.base) (hc : cells ≤ mc) (hs : slots ≤ ms) :
    vx_W p l e R s m args below meth c H locs cells slots (vx_MQ below Qc XC args s mc ms free) (F0 m pc ls rest) q := by
  intro T hT X
  have hpl : e.platform.magicAccessors = ({} : Platform).magicAccessors := by rw [X.admits.platform]
  obtain ⟨vm', hW', X', st⟩ := X.outThrough hlocks q (g := F0 m pc ls rest) rfl rfl rfl (cell := ce) (by rw [hT]; exact hcell) (by rw [hv]; rfl)
    (by obtain ⟨k9, h9, -⟩ := Vm.findClass_spec hcl; exact ⟨k9, h9⟩) (fun z hz => by
      rcases hpass z hz with h | ⟨hz0, nm, hl1, hn1⟩
      · exact Or.inl h
      · obtain ⟨c6, hc6, hcl6⟩ := Cond.classLink_spec hown hl1 e.platform hpl
        obtain ⟨a8, b8, h1, h2, h3⟩ := hn1
        cases Option.some.inj (h1.symm.trans hcl)
        cases Option.some.inj (h2.symm.trans hc6)
        exact Or.inr ⟨hz0, _, hcl6, h3⟩)
  obtain ⟨g₀, hfr⟩ := X'.frames_eq
  have hcell9 : ((T.setVm vm').setFrames (.throwing q :: below)).heap[q]? = some ce := by
    show T.heap[q]? = some ce
    rw [hT]; exact hcell
  have hend : Ended ((T.setVm vm').setFrames (.throwing q :: below)) below (.threw q) := State.frames_setFrames _ (State.cur_lt_of_frames hfr)
  refine ⟨(T.setVm vm').setFrames (.throwing q :: below), ?_, .threw q, X'.here.running, hend, Or.inr ⟨q, rfl, E, ce, locs, hx _ hT (X'.ends _).1.alike, hcell9, hv, hcl, (X'.ends _).1, (X'.ends _).2.mono hc hs, hf⟩⟩
  rw [X.pushThrowing_eq]
  exact st
/-- a thing of a world lies in the heap -/
theorem vx_lt {D : va_G} {cl : List vw_C} {ws : va_W} {H1 : Heap} (h : va_P D cl ws H1) {k : Nat} {q : Nat × va_E} (hk : ws[k]? = some q) : q.1 < H1.size := (h k q hk).lt
end VXS
/-! ===== END ===== -/
/-! ===== BEGIN methods with a table of their own: called by a name, returning or throwing ===== -/
section VXH
/-! vx_backW, vx_callVX, vx_callSX, vx_callVW, vx_runVW, vx_runVX, vx_runSX, vx_ofWH follow the same proofs as their sisters above (Free/Laws.lean, Shelf42/LK1.lean); vx_outP calls Shelf42/NT130.lean (outThrough). -/
section
variable {l : Launch} {R : Room} {p : Program} {e : Env} {below : List Frame} {s : State} {sargs : Array Value} {y : MethodName} {len W9 : Nat}
theorem vx_backW {ws : List Cond} {rm : Room} {Pc : Array Value → State → Prop} {Qc : Array Value → State → Outcome → State → Prop} {XC : String → State → State → Prop} {mc ms : Nat} {free : Addr → Prop} {bytes : ByteArray} {maxL : Nat} {ret : Option FieldType} {hh : List (Nat × Nat × Nat × Nat)}
    (hM : vx_Met l y ws rm Pc Qc XC mc ms free) (hblind : FrameBlind Pc) (hrc : rm.cells = mc) (hrs : rm.slots = ms)
    (hframes : rm.frames + 1 ≤ R.frames) (hlocals : W9 + (maxL + 11) + rm.locals ≤ R.locals)
    (hws : ∀ w ∈ ws, ∀ a' U, s.WarmedH U.vm → w.before a' U = true) (hcode : Cond.codeWith y bytes maxL ret hh ∈ ws) (hinit : ∀ a' U, s.WarmedH U.vm → (Cond.initialized y.cls).before a' U = true) :
    vx_Back l R p e below s sargs y len W9 (PreOf R mc ms Pc) (PostOf Qc mc ms free) (vx_Post XC mc ms free) := by
  intro m meth c A g ig mk a X hg hsize hdg hW hn hp
  have h1 : (headSpec ws rm).pre.before a A.U = true := atoms_intro fun w hw => hws w hw _ _ X.warmed
  have h2 : (Cond.codeWith y bytes maxL ret hh).before a A.U = true := hws _ hcode _ _ X.warmed
  have h3 : (Cond.initialized y.cls).before a A.U = true := hinit _ _ X.warmed
  have h4 : A.cells + (headSpec ws rm).room.cells ≤ R.cells := by rw [show (headSpec ws rm).room.cells = mc from hrc]; exact hp.1
  have h5 : A.slots + (headSpec ws rm).room.slots ≤ R.slots := by rw [show (headSpec ws rm).room.slots = ms from hrs]; exact hp.2.1
  have hPc : Pc a (A.U.calling g mk a) := hblind _ _ _ _ hp.2.2
  obtain ⟨U, Ls, c0, s0⟩ := A
  dsimp only [Pt.U, Pt.locs, Pt.cells, Pt.slots] at h1 h2 h3 h4 h5 X hn hPc ⊢
  obtain ⟨m9, methY, cY, hn9, hmY, hcY, -, hlY, -⟩ := Cond.codeWith_spec h2
  cases Option.some.inj (hn9.symm.trans hn)
  obtain ⟨kY, hkY, -⟩ := className_of_methodNamed hn
  have hinitY : kY.init = .initialized := Cond.initialized_spec (findClass_of_methodNamed hn) hkY h3
  have h : At U g.method c below := by rw [hg]; exact X.here
  have hlocals9 : W9 + (maxL + 11) + (headSpec ws rm).room.locals ≤ R.locals := hlocals
  have happ : (headSpec ws rm).appliesLoose y e.platform (U.calling g mk a) = true :=
    Spec.appliesLoose_calling (g := g) h hdg hn hkY hinitY
      (X.room_calling (g := g) (R' := (headSpec ws rm).room) hsize hmY hcY hframes (by rw [hlY]; omega) h4 h5) h1
  obtain ⟨mid, hmid⟩ := h.above
  have hfr : (U.setTop g).frames = (.java g :: mid) ++ below := by rw [State.frames_setTop' g h.top, hmid]; rfl
  obtain ⟨o, s₂, hsteps, -, hend, hq⟩ := Steps.callFree hM p X.admits X.cas X.clock (acts := []) hfr happ hPc trivial
  have hq' : vx_Q Qc XC mc ms free a (U.calling g mk a) o s₂ := hq
  rw [State.frames_setTop' g h.top] at hend
  obtain ⟨g₀, hg0⟩ := Option.isSome_iff_exists.mp h.top
  obtain ⟨r, hr⟩ := State.topJava?_eq_some.mp hg0
  have hr' : (({ U with heap := s₂.heap, slotsUsed := s₂.slotsUsed } : State).setVm s₂.vm).frames = .java g₀ :: r := hr
  rcases hq' with ⟨hqc, L, hfe, hL⟩ | ⟨q, rfl, E, ce, L, hx, hce, hcv, hcl, hW₂, hsm, hL⟩
  · obtain ⟨⟨v, rfl⟩, hW₂, e2, q2, q3, q4, q5, q6⟩ := id hfe
    have e3 : s₂ = ({ (U.calling g mk a).setFrames s₂.frames with heap := s₂.heap, slotsUsed := s₂.slotsUsed } : State).setVm s₂.vm := by
      have : s₂ = ({ s₂ with vm := (U.calling g mk a).vm } : State).setVm s₂.vm := rfl
      rw [e2] at this
      exact this
    obtain ⟨c₂, i₂, len₂, hc₂, hd₂, hf₂⟩ := hend
    have hW' : U.WarmedH s₂.vm := hW₂
    have hcc : c₂ = c := by
      have h1 : s₂.code? g.method = U.code? g.method := by
        rw [State.code?_eq, State.code?_eq, hW'.alike.method?]
      exact Option.some.inj (hc₂.symm.trans (h1.trans h.code))
    subst hcc
    have hlen : len₂ = len := by rw [hdg] at hd₂; cases hd₂; rfl
    subst hlen
    have hs₂ : s₂ = (({ U with heap := s₂.heap, slotsUsed := s₂.slotsUsed } : State).setVm s₂.vm).setTop { g with pc := g.pc + len₂, stack := v.toList ++ g.stack } := by
      refine e3.trans ?_
      rw [hf₂, State.calling_eq h.top, State.setFrames_setFrames, State.setTop_of_frames _ hr', hr]
      rfl
    have hsame : U.sameButNew ({ U with heap := s₂.heap, slotsUsed := s₂.slotsUsed } : State) L mc ms := by
      refine ⟨?_, q2, q3, q4, q5, q6⟩
      obtain ⟨t, ht, -⟩ := State.frames_cons hr
      show ({ U with heap := s₂.heap, slotsUsed := s₂.slotsUsed } : State) = { U.setFrames U.frames with heap := s₂.heap, slotsUsed := s₂.slotsUsed }
      rw [State.setFrames_self ht]
    subst hg
    refine Or.inl ⟨v, ⟨(({ U with heap := s₂.heap, slotsUsed := s₂.slotsUsed } : State).setVm s₂.vm), Ls ++ L, c0 + mc, s0 + ms⟩,
      ⟨X.admits, X.cas, X.clock, X.frames, X.room, X.hears, X.method, X.code, (X.here.setHeapUsed s₂.heap s₂.slotsUsed).setVm hW'.alike, X.tail, State.WarmedH.trans X.warmed hW', X.limits, X.bytes, X.same.trans (hsame.setVm s.vm)⟩,
      ⟨g, mk, s₂, L, rfl, rfl, hqc, rfl, hL, rfl, rfl⟩, ?_⟩
    show Steps p.tables e below _ ((({ U with heap := s₂.heap, slotsUsed := s₂.slotsUsed } : State).setVm s₂.vm).setTop { g with pc := g.pc + len₂, stack := v.toList ++ g.stack })
    rw [← hs₂]
    exact hsteps
  · obtain ⟨e2, q2, q3, q4, q5, q6⟩ := id hsm
    have e3 : s₂ = ({ (U.calling g mk a).setFrames s₂.frames with heap := s₂.heap, slotsUsed := s₂.slotsUsed } : State).setVm s₂.vm := by
      have : s₂ = ({ s₂ with vm := (U.calling g mk a).vm } : State).setVm s₂.vm := rfl
      rw [e2] at this
      exact this
    have hf₂ : s₂.frames = .throwing q :: .java g :: U.frames.tail := hend
    have hW' : U.WarmedH s₂.vm := hW₂
    have hs₂ : s₂ = ((({ U with heap := s₂.heap, slotsUsed := s₂.slotsUsed } : State).setVm s₂.vm).setTop g).pushFrame (.throwing q) := by
      refine e3.trans ?_
      rw [hf₂, State.calling_eq h.top, State.setFrames_setFrames, State.pushFrame, State.frames_setTop _ hr', State.setTop_of_frames _ hr', State.setFrames_setFrames, hr]
      rfl
    have hsame : U.sameButNew ({ U with heap := s₂.heap, slotsUsed := s₂.slotsUsed } : State) L mc ms := by
      refine ⟨?_, q2, q3, q4, q5, q6⟩
      obtain ⟨t, ht, -⟩ := State.frames_cons hr
      show ({ U with heap := s₂.heap, slotsUsed := s₂.slotsUsed } : State) = { U.setFrames U.frames with heap := s₂.heap, slotsUsed := s₂.slotsUsed }
      rw [State.setFrames_self ht]
    subst hg
    refine Or.inr ⟨q, ⟨(({ U with heap := s₂.heap, slotsUsed := s₂.slotsUsed } : State).setVm s₂.vm), Ls ++ L, c0 + mc, s0 + ms⟩,
      ⟨X.admits, X.cas, X.clock, X.frames, X.room, X.hears, X.method, X.code, (X.here.setHeapUsed s₂.heap s₂.slotsUsed).setVm hW'.alike, X.tail, State.WarmedH.trans X.warmed hW', X.limits, X.bytes, X.same.trans (hsame.setVm s.vm)⟩,
      ⟨g, mk, s₂, L, E, ce, rfl, rfl, hx, hce, hcv, hcl, rfl, hL, rfl, rfl⟩, ?_⟩
    show Steps p.tables e below _ (((({ U with heap := s₂.heap, slotsUsed := s₂.slotsUsed } : State).setVm s₂.vm).setTop g).pushFrame (.throwing q))
    rw [← hs₂]
    exact hsteps
end
variable {p : Program} {l : Launch} {e : Env} {R : Room} {s : State} {m : MethodId} {args : Array Value} {below : List Frame} {meth : Method} {c : Code} {T : State} {H : Heap} {locs : List Loc} {cells slots : Nat}
theorem vx_callVX (X : Stand p l e R s m args below meth c T locs cells slots) (hexec : p.tables.exec = Jvm.exec) {own C : String} {index : Nat} {y : MethodName} {bytes : ByteArray} {maxL : Nat} {ret : Option FieldType} {hh : List (Nat × Nat × Nat × Nat)}
    (hown : s.vm.findClass own = some m.cls) (hlink : (Cond.methodLink own index y).before args s = true) (hinst : (Cond.instanceMethod y).before args s = true) (hsel : (Cond.selects C y y).before args s = true)
    (hcode : (Cond.codeWith y bytes maxL ret hh).before args s = true) (hy : y.cls ≠ "java/lang/invoke/MethodHandle" ∧ y.cls ≠ "java/lang/invoke/VarHandle")
    {W9 : Nat} {Pre : Pt → Array Value → Prop} {Post : Pt → Array Value → Option Value → Pt → Prop} {PostX : Pt → Array Value → Addr → Pt → Prop} (hK : vx_Back l R p e below s args y 3 W9 Pre Post PostX)
    {b : Addr} {cellB : Cell} (hcell : T.heap[b]? = some cellB) (hobj : cellB.vm.isStatics = false) (hcls : s.vm.findClass C = some cellB.cls)
    {g : JFrame} (hg : g.method = m) (hsize : g.locals.size = c.maxLocals) {argsL rest : List Value} (hlen : ∀ sig, parseMethodDescriptor y.desc = some sig → argsL.length = sig.parameters.length)
    (hstack : g.stack = argsL.reverse ++ .ref b :: rest) (hW : 2 * g.monitorRoom + (rest.map fun v => v.category).sum ≤ W9) (hdg : decode c.code g.pc = .ok (.invokevirtual index, 3))
    (hpre : ∀ vm₁, s.WarmedH vm₁ → Pre ⟨T.setVm vm₁, locs, cells, slots⟩ (Value.ref b :: argsL).toArray) :
    (∃ (v : Option Value) (vm₁ : Vm) (B : Pt), s.WarmedH vm₁ ∧ Stand p l e R s m args below meth c B.U B.locs B.cells B.slots ∧ Post ⟨T.setVm vm₁, locs, cells, slots⟩ (Value.ref b :: argsL).toArray v B ∧
      ∀ target, Steps p.tables e below (B.U.setTop { g with pc := g.pc + 3, stack := v.toList ++ rest }) target → Steps p.tables e below (T.setTop g) target) ∨
    (∃ (q : Addr) (vm₁ : Vm) (B : Pt), s.WarmedH vm₁ ∧ Stand p l e R s m args below meth c B.U B.locs B.cells B.slots ∧ PostX ⟨T.setVm vm₁, locs, cells, slots⟩ (Value.ref b :: argsL).toArray q B ∧
      Steps p.tables e below (T.setTop g) ((B.U.setTop { g with stack := rest }).pushFrame (.throwing q))) := by
  obtain ⟨mk, methM, hnamed, hmethM, hstM, habM⟩ := Cond.instanceMethod_spec hinst
  obtain ⟨m8, methM', cM, hn8, hmethM', -, -, -, -, -, -, hsigM⟩ := Cond.codeWith_spec hcode
  cases Option.some.inj (hn8.symm.trans hnamed)
  cases hmethM.symm.trans hmethM'
  obtain ⟨c2, r2, m2, q1, q2, q3, q4, kP, hkP, hkPi⟩ := Cond.selects_spec hsel
  cases hcls.symm.trans q1
  cases (State.methodFound?_of_named hnamed hy).symm.trans q2
  cases hnamed.symm.trans q3
  have hselP : selectMethod e.platform s.vm cellB.cls mk = .method mk := by rw [Launch.admits_selectMethod X.admits]; exact q4
  obtain ⟨vm₁, X₁, hstep₁⟩ := X.invokevirtual hexec hown hlink hnamed hmethM hstM hkP hkPi hy (a := b) (cell := cellB) hcell
    (fun z h => by rw [h] at hobj; cases hobj) hselP hmethM habM hkP hkPi (g := g) hg (argsL := argsL) (rest := rest) (hlen _ hsigM) hstack hdg
  rcases hK m meth c ⟨T.setVm vm₁, locs, cells, slots⟩ { g with stack := rest } (.invokevirtual index) mk (Value.ref b :: argsL).toArray X₁ hg hsize hdg hW (X₁.named hnamed) (hpre vm₁ X₁.warmed) with ⟨v, B, X', hpost, hsteps⟩ | ⟨q, B, X', hpost, hsteps⟩
  · exact Or.inl ⟨v, vm₁, B, X₁.warmed, X', hpost, fun target h => hstep₁ _ fun acts => by rw [doInvoke_state]; exact hsteps.trans h⟩
  · exact Or.inr ⟨q, vm₁, B, X₁.warmed, X', hpost, hstep₁ _ fun acts => by rw [doInvoke_state]; exact hsteps⟩
theorem vx_callSX (X : Stand p l e R s m args below meth c T locs cells slots) (hexec : p.tables.exec = Jvm.exec) {own : String} {index : Nat} {y : MethodName} {bytes : ByteArray} {maxL : Nat} {ret : Option FieldType} {hh : List (Nat × Nat × Nat × Nat)}
    (hown : s.vm.findClass own = some m.cls) (hlink : (Cond.methodLink own index y).before args s = true) (hstat : (Cond.static y).before args s = true) (hinit : (Cond.initialized y.cls).before args s = true)
    (hcode : (Cond.codeWith y bytes maxL ret hh).before args s = true) (hy : y.cls ≠ "java/lang/invoke/MethodHandle" ∧ y.cls ≠ "java/lang/invoke/VarHandle")
    {W9 : Nat} {Pre : Pt → Array Value → Prop} {Post : Pt → Array Value → Option Value → Pt → Prop} {PostX : Pt → Array Value → Addr → Pt → Prop} (hK : vx_Back l R p e below s args y 3 W9 Pre Post PostX)
    {g : JFrame} (hg : g.method = m) (hsize : g.locals.size = c.maxLocals) {argsL rest : List Value} (hlen : ∀ sig, parseMethodDescriptor y.desc = some sig → argsL.length = sig.parameters.length)
    (hstack : g.stack = argsL.reverse ++ rest) (hW : 2 * g.monitorRoom + (rest.map fun v => v.category).sum ≤ W9) (hdg : decode c.code g.pc = .ok (.invokestatic index, 3))
    (hpre : ∀ vm₁, s.WarmedH vm₁ → Pre ⟨T.setVm vm₁, locs, cells, slots⟩ argsL.toArray) :
    (∃ (v : Option Value) (vm₁ : Vm) (B : Pt), s.WarmedH vm₁ ∧ Stand p l e R s m args below meth c B.U B.locs B.cells B.slots ∧ Post ⟨T.setVm vm₁, locs, cells, slots⟩ argsL.toArray v B ∧
      ∀ target, Steps p.tables e below (B.U.setTop { g with pc := g.pc + 3, stack := v.toList ++ rest }) target → Steps p.tables e below (T.setTop g) target) ∨
    (∃ (q : Addr) (vm₁ : Vm) (B : Pt), s.WarmedH vm₁ ∧ Stand p l e R s m args below meth c B.U B.locs B.cells B.slots ∧ PostX ⟨T.setVm vm₁, locs, cells, slots⟩ argsL.toArray q B ∧
      Steps p.tables e below (T.setTop g) ((B.U.setTop { g with stack := rest }).pushFrame (.throwing q))) := by
  obtain ⟨mk, methM, cM, hnamed, hmethM, -, -, -, -, -, -, hsigM⟩ := Cond.codeWith_spec hcode
  have hstatic : methM.isStatic = true := Cond.static_spec hnamed hmethM hstat
  obtain ⟨kP, hkP, -⟩ := className_of_methodNamed hnamed
  have hinitP : kP.init = .initialized := Cond.initialized_spec (findClass_of_methodNamed hnamed) hkP hinit
  obtain ⟨vm₁, X₁, hstep₁⟩ := X.invokestatic hexec hown hlink hnamed hmethM hstatic hkP hinitP hy (g := g) hg (argsL := argsL) (rest := rest) (hlen _ hsigM) hstack hdg
  rcases hK m meth c ⟨T.setVm vm₁, locs, cells, slots⟩ { g with stack := rest } (.invokestatic index) mk argsL.toArray X₁ hg hsize hdg hW (X₁.named hnamed) (hpre vm₁ X₁.warmed) with ⟨v, B, X', hpost, hsteps⟩ | ⟨q, B, X', hpost, hsteps⟩
  · exact Or.inl ⟨v, vm₁, B, X₁.warmed, X', hpost, fun target h => hstep₁ _ fun acts => by rw [doInvoke_state]; exact hsteps.trans h⟩
  · exact Or.inr ⟨q, vm₁, B, X₁.warmed, X', hpost, hstep₁ _ fun acts => by rw [doInvoke_state]; exact hsteps⟩
theorem vx_callVW (X : Stand p l e R s m args below meth c T locs cells slots) (hexec : p.tables.exec = Jvm.exec) {own C : String} {index : Nat} {y : MethodName} {bytes : ByteArray} {maxL : Nat} {ret : Option FieldType} {hh : List (Nat × Nat × Nat × Nat)}
    (hown : s.vm.findClass own = some m.cls) (hlink : (Cond.methodLink own index y).before args s = true) (hinst : (Cond.instanceMethod y).before args s = true) (hsel : (Cond.selects C y y).before args s = true)
    (hcode : (Cond.codeWith y bytes maxL ret hh).before args s = true) (hy : y.cls ≠ "java/lang/invoke/MethodHandle" ∧ y.cls ≠ "java/lang/invoke/VarHandle")
    {W9 : Nat} {Pre : Pt → Array Value → Prop} {Post : Pt → Array Value → Option Value → Pt → Prop} (hK : Back l R p e below s args y 3 W9 Pre Post)
    {b : Addr} {cellB : Cell} (hcell : T.heap[b]? = some cellB) (hobj : cellB.vm.isStatics = false) (hcls : s.vm.findClass C = some cellB.cls)
    {g : JFrame} (hg : g.method = m) (hsize : g.locals.size = c.maxLocals) {argsL rest : List Value} (hlen : ∀ sig, parseMethodDescriptor y.desc = some sig → argsL.length = sig.parameters.length)
    (hstack : g.stack = argsL.reverse ++ .ref b :: rest) (hW : 2 * g.monitorRoom + (rest.map fun v => v.category).sum ≤ W9) (hdg : decode c.code g.pc = .ok (.invokevirtual index, 3))
    (hpre : ∀ vm₁, s.WarmedH vm₁ → Pre ⟨T.setVm vm₁, locs, cells, slots⟩ (Value.ref b :: argsL).toArray) :
    ∃ (v : Option Value) (vm₁ : Vm) (B : Pt), s.WarmedH vm₁ ∧ Stand p l e R s m args below meth c B.U B.locs B.cells B.slots ∧ Post ⟨T.setVm vm₁, locs, cells, slots⟩ (Value.ref b :: argsL).toArray v B ∧
      ∀ target, Steps p.tables e below (B.U.setTop { g with pc := g.pc + 3, stack := v.toList ++ rest }) target → Steps p.tables e below (T.setTop g) target := by
  obtain ⟨mk, methM, hnamed, hmethM, hstM, habM⟩ := Cond.instanceMethod_spec hinst
  obtain ⟨m8, methM', cM, hn8, hmethM', -, -, -, -, -, -, hsigM⟩ := Cond.codeWith_spec hcode
  cases Option.some.inj (hn8.symm.trans hnamed)
  cases hmethM.symm.trans hmethM'
  obtain ⟨c2, r2, m2, q1, q2, q3, q4, kP, hkP, hkPi⟩ := Cond.selects_spec hsel
  cases hcls.symm.trans q1
  cases (State.methodFound?_of_named hnamed hy).symm.trans q2
  cases hnamed.symm.trans q3
  have hselP : selectMethod e.platform s.vm cellB.cls mk = .method mk := by rw [Launch.admits_selectMethod X.admits]; exact q4
  obtain ⟨vm₁, X₁, hstep₁⟩ := X.invokevirtual hexec hown hlink hnamed hmethM hstM hkP hkPi hy (a := b) (cell := cellB) hcell
    (fun z h => by rw [h] at hobj; cases hobj) hselP hmethM habM hkP hkPi (g := g) hg (argsL := argsL) (rest := rest) (hlen _ hsigM) hstack hdg
  obtain ⟨v, B, X', hpost, hsteps⟩ := hK m meth c ⟨T.setVm vm₁, locs, cells, slots⟩ { g with stack := rest } (.invokevirtual index) mk (Value.ref b :: argsL).toArray X₁ hg hsize hdg hW (X₁.named hnamed) (hpre vm₁ X₁.warmed)
  exact ⟨v, vm₁, B, X₁.warmed, X', hpost, fun target h => hstep₁ _ fun acts => by rw [doInvoke_state]; exact hsteps.trans h⟩
abbrev vx_CVW (R : Room) (s : State) (args : Array Value) (own C : String) (index : Nat) (y : MethodName) (bytes : ByteArray) (maxL : Nat) (ret : Option FieldType) (hh : List (Nat × Nat × Nat × Nat)) (ws : List Cond) (rm : Room) (mc ms n : Nat) : Prop :=
  (rm.cells = mc ∧ rm.slots = ms ∧ rm.frames + 1 ≤ R.frames ∧ 8 + (maxL + 11) + rm.locals ≤ R.locals ∧ (∀ w ∈ ws, ∀ (a' : Array Value) (U : State), s.WarmedH U.vm → w.before a' U = true) ∧ Cond.codeWith y bytes maxL ret hh ∈ ws) ∧
  (Cond.codeWith y bytes maxL ret hh).before args s = true ∧ (Cond.initialized y.cls).before args s = true ∧ (y.cls ≠ "java/lang/invoke/MethodHandle" ∧ y.cls ≠ "java/lang/invoke/VarHandle") ∧
  (∀ sig, parseMethodDescriptor y.desc = some sig → n = sig.parameters.length) ∧ (Cond.methodLink own index y).before args s = true ∧ (Cond.instanceMethod y).before args s = true ∧ (Cond.selects C y y).before args s = true
theorem vx_cwVW {own C : String} {index maxL mc ms : Nat} {y : MethodName} {bytes : ByteArray} {ret : Option FieldType} {hh : List (Nat × Nat × Nat × Nat)} {Ts ws ws' : List Cond} {rm : Room} (n : Nat) (ht : ∀ w ∈ Ts, w.before args s = true) (hT : GoodIn Ts (wsV own index C y ws)) (hw : ws = Cond.codeWith y bytes maxL ret hh :: ws') (hrc : rm.cells = mc) (hrs : rm.slots = ms)
    (hd : y.cls = C ∧ y.cls ≠ "java/lang/invoke/MethodHandle" ∧ y.cls ≠ "java/lang/invoke/VarHandle" ∧ (parseMethodDescriptor y.desc).map (fun d => d.parameters.length) = some n) (hR : rm.frames + 1 ≤ R.frames ∧ 8 + (maxL + 11) + rm.locals ≤ R.locals) :
    vx_CVW R s args own C index y bytes maxL ret hh ws rm mc ms n := by
  obtain ⟨hC, hd⟩ := hd
  subst hC
  have ok : ∀ w ∈ wsV own index y.cls y ws, w.before args s = true := fun w h => ht w (hT w h).1
  have hG : GoodIn Ts ws := fun w h => hT w (by unfold wsV; exact List.mem_append_right _ h)
  have hc : Cond.codeWith y bytes maxL ret hh ∈ ws := by rw [hw]; exact List.mem_cons_self
  refine ⟨⟨hrc, hrs, hR.1, hR.2, pay_in ht hG, hc⟩, ht _ (hG _ hc).1, ok _ (by simp [wsV]), ⟨hd.1, hd.2.1⟩, fun sig h => ?_, ok _ (by simp [wsV]), ok _ (by simp [wsV]), ok _ (by simp [wsV])⟩
  have h2 := hd.2.2
  rw [h] at h2
  exact (Option.some.inj h2).symm
theorem vx_runVW {y : MethodName} {bytes cc : ByteArray} {maxL nL mc ms n index : Nat} {ret : Option FieldType} {hh : List (Nat × Nat × Nat × Nat)} {ws : List Cond} {rm : Room} {Pc : Array Value → State → Prop} {Qc : Array Value → State → Outcome → State → Prop} {free : Addr → Prop} {Ts : List Cond} {own C : String} {b : Addr} {As rest : List Value} {g : JFrame}
    (S : CallFix p m c cc nL s args Ts own) (hM : Met l y ws rm Pc Qc mc ms free) (cw : vx_CVW R s args own C index y bytes maxL ret hh ws rm mc ms n) (hp : PreV s H C b Pc As)
    (hg : g.method = m) (hn : As.length = n) (hsize : g.locals.size = nL) (hstack : g.stack = As.reverse ++ .ref b :: rest) (hW : 2 * g.monitorRoom + (rest.map fun v => v.category).sum ≤ 8) (hdg : decode cc g.pc = .ok (.invokevirtual index, 3)) (hf : cells + mc ≤ R.cells ∧ slots + ms ≤ R.slots) :
    va_Run p l e R s m args below meth c H locs cells slots mc ms g rest (Qc (Value.ref b :: As).toArray) free := by
  obtain ⟨⟨hrc, hrs, hfr, hlo, hws, hcw⟩, hcode, hini, hy, hlen, hl, hin, hse⟩ := cw
  have hK : Back l R p e below s args y 3 8 (PreOf R mc ms Pc) (PostOf Qc mc ms free) := va_backW (hh := hh) (bytes := bytes) (maxL := maxL) (ret := ret) hM hp.1 hrc hrs hfr hlo hws hcw (fun a' U hW => word_at hW (Or.inl (by first | rfl | simp [Cond.onTables, Cond.keeps, Cond.steady])) hini)
  obtain ⟨hx, hb, hml, ho, -⟩ := S
  obtain ⟨-, ⟨cellB, hcB, hoB, hclB⟩, hPc⟩ := hp
  intro T hT X
  obtain ⟨v, vm₁, ⟨U', l2, c2, s2⟩, hW₁, X', ⟨g', mk, t, L, e1, e2, hq, h1, hL, h2, h3⟩, st⟩ := vx_callVW X hx (C := C) (hh := hh) (bytes := bytes) (maxL := maxL) (ret := ret) ho hl hin hse hcode hy hK (by rw [hT]; exact hcB) hoB hclB hg (hsize.trans hml.symm) (argsL := As) (rest := rest) (fun sig h => hn.trans (hlen sig h)) hstack hW (by rw [hb]; exact hdg)
    (fun vm₁ hW₁ => ⟨hf.1, hf.2, hPc (T.setVm vm₁) hT hW₁⟩)
  dsimp only [Pt.U, Pt.locs, Pt.cells, Pt.slots] at X' e1 e2 h1 h2 h3 st
  subst h1; subst h2; subst h3
  exact ⟨v, (T.setVm vm₁).calling g' mk (Value.ref b :: As).toArray, t, U', L, hT, X', hL, e1, e2, hq, st⟩
section
variable {y : MethodName} {bytes cc : ByteArray} {maxL nL mc ms n index : Nat} {ret : Option FieldType} {ws : List Cond} {rm : Room} {Pc : Array Value → State → Prop} {Qc : Array Value → State → Outcome → State → Prop} {XC : String → State → State → Prop} {free : Addr → Prop} {Ts : List Cond} {own C : String} {b : Addr} {As rest : List Value} {g : JFrame}
theorem vx_runVX {hh : List (Nat × Nat × Nat × Nat)} (S : CallFix p m c cc nL s args Ts own) (hM : vx_Met l y ws rm Pc Qc XC mc ms free) (cw : vx_CVW R s args own C index y bytes maxL ret hh ws rm mc ms n) (hp : PreV s H C b Pc As)
    (hg : g.method = m) (hn : As.length = n) (hsize : g.locals.size = nL) (hstack : g.stack = As.reverse ++ .ref b :: rest) (hW : 2 * g.monitorRoom + (rest.map fun v => v.category).sum ≤ 8) (hdg : decode cc g.pc = .ok (.invokevirtual index, 3)) (hf : cells + mc ≤ R.cells ∧ slots + ms ≤ R.slots) :
    vx_Run p l e R s m args below meth c H locs cells slots mc ms g rest (Qc (Value.ref b :: As).toArray) XC free := by
  obtain ⟨⟨hrc, hrs, hfr, hlo, hws, hcw⟩, hcode, hini, hy, hlen, hl, hin, hse⟩ := cw
  have hK : vx_Back l R p e below s args y 3 8 (PreOf R mc ms Pc) (PostOf Qc mc ms free) (vx_Post XC mc ms free) := vx_backW (hh := hh) (bytes := bytes) (maxL := maxL) (ret := ret) hM hp.1 hrc hrs hfr hlo hws hcw (fun a' U hW => word_at hW (Or.inl (by first | rfl | simp [Cond.onTables, Cond.keeps, Cond.steady])) hini)
  obtain ⟨hx, hb, hml, ho, -⟩ := S
  obtain ⟨-, ⟨cellB, hcB, hoB, hclB⟩, hPc⟩ := hp
  intro T hT X
  rcases vx_callVX X hx (C := C) (hh := hh) (bytes := bytes) (maxL := maxL) (ret := ret) ho hl hin hse hcode hy hK (by rw [hT]; exact hcB) hoB hclB hg (hsize.trans hml.symm) (argsL := As) (rest := rest) (fun sig h => hn.trans (hlen sig h)) hstack hW (by rw [hb]; exact hdg)
    (fun vm₁ hW₁ => ⟨hf.1, hf.2, hPc (T.setVm vm₁) hT hW₁⟩) with ⟨v, vm₁, ⟨U', l2, c2, s2⟩, hW₁, X', ⟨g', mk, t, L, e1, e2, hq, h1, hL, h2, h3⟩, st⟩ | ⟨q, vm₁, ⟨U', l2, c2, s2⟩, hW₁, X', ⟨g', mk, t, L, E, ce, e1, e2, hq, hce, hcv, hcl, h1, hL, h2, h3⟩, st⟩
  · dsimp only [Pt.U, Pt.locs, Pt.cells, Pt.slots] at X' e1 e2 h1 h2 h3 st
    subst h1; subst h2; subst h3
    exact Or.inl ⟨v, (T.setVm vm₁).calling g' mk (Value.ref b :: As).toArray, t, U', L, hT, X', hL, e1, e2, hq, st⟩
  · dsimp only [Pt.U, Pt.locs, Pt.cells, Pt.slots] at X' e1 e2 h1 h2 h3 st hcl
    subst h1; subst h2; subst h3
    exact Or.inr ⟨q, (T.setVm vm₁).calling g' mk (Value.ref b :: As).toArray, t, U', L, E, ce, hT, X', hL, e1, e2, hq, hce, hcv, vx_cls hW₁ hcl, st⟩
theorem vx_runSX {hh : List (Nat × Nat × Nat × Nat)} (S : CallFix p m c cc nL s args Ts own) (hM : vx_Met l y ws rm Pc Qc XC mc ms free) (cw : vx_CSW R s args own index y bytes maxL ret hh ws rm mc ms n) (hp : PreS s H Pc As)
    (hg : g.method = m) (hn : As.length = n) (hsize : g.locals.size = nL) (hstack : g.stack = As.reverse ++ rest) (hW : 2 * g.monitorRoom + (rest.map fun v => v.category).sum ≤ 8) (hdg : decode cc g.pc = .ok (.invokestatic index, 3)) (hf : cells + mc ≤ R.cells ∧ slots + ms ≤ R.slots) :
    vx_Run p l e R s m args below meth c H locs cells slots mc ms g rest (Qc As.toArray) XC free := by
  obtain ⟨⟨hrc, hrs, hfr, hlo, hws, hcw⟩, hcode, hini, hy, hlen, hl, hstt⟩ := cw
  have hK : vx_Back l R p e below s args y 3 8 (PreOf R mc ms Pc) (PostOf Qc mc ms free) (vx_Post XC mc ms free) := vx_backW (hh := hh) (bytes := bytes) (maxL := maxL) (ret := ret) hM hp.1 hrc hrs hfr hlo hws hcw (fun a' U hW => word_at hW (Or.inl (by first | rfl | simp [Cond.onTables, Cond.keeps, Cond.steady])) hini)
  obtain ⟨hx, hb, hml, ho, -⟩ := S
  intro T hT X
  rcases vx_callSX X hx (hh := hh) (bytes := bytes) (maxL := maxL) (ret := ret) ho hl hstt hini hcode hy hK hg (hsize.trans hml.symm) (argsL := As) (rest := rest) (fun sig h => hn.trans (hlen sig h)) hstack hW (by rw [hb]; exact hdg)
    (fun vm₁ hW₁ => ⟨hf.1, hf.2, hp.2 (T.setVm vm₁) hT hW₁⟩) with ⟨v, vm₁, ⟨U', l2, c2, s2⟩, hW₁, X', ⟨g', mk, t, L, e1, e2, hq, h1, hL, h2, h3⟩, st⟩ | ⟨q, vm₁, ⟨U', l2, c2, s2⟩, hW₁, X', ⟨g', mk, t, L, E, ce, e1, e2, hq, hce, hcv, hcl, h1, hL, h2, h3⟩, st⟩
  · dsimp only [Pt.U, Pt.locs, Pt.cells, Pt.slots] at X' e1 e2 h1 h2 h3 st
    subst h1; subst h2; subst h3
    exact Or.inl ⟨v, (T.setVm vm₁).calling g' mk As.toArray, t, U', L, hT, X', hL, e1, e2, hq, st⟩
  · dsimp only [Pt.U, Pt.locs, Pt.cells, Pt.slots] at X' e1 e2 h1 h2 h3 st hcl
    subst h1; subst h2; subst h3
    exact Or.inr ⟨q, (T.setVm vm₁).calling g' mk As.toArray, t, U', L, E, ce, hT, X', hL, e1, e2, hq, hce, hcv, vx_cls hW₁ hcl, st⟩
end
end VXH
theorem vx_ofWH {l : Launch} {y : MethodName} {ws ws' : List Cond} {rm : Room} {Pc : Array Value → State → Prop} {Qc : Array Value → State → Outcome → State → Prop} {XC : String → State → State → Prop} {mc ms : Nat} {free : Addr → Prop} {cc : ByteArray} {maxL : Nat} {ret : Option FieldType} {hh : List (Nat × Nat × Nat × Nat)}
    (hy : plainName y.cls = true) (hw : ws = Cond.codeWith y cc maxL ret hh :: ws')
    (body : ∀ p e s m args below meth c s₁, BodyLoose p l y (headSpec ws rm) cc maxL ret e s m args below meth c s₁ → c.maxLocals = maxL → Pc args s →
      W p l e (headSpec ws rm).room s m args below meth c s.heap [] 0 0 (vx_MQ below Qc XC args s mc ms free) (entryFrame m args maxL)) : vx_Met l y ws rm Pc Qc XC mc ms free := by
  refine MetFree.of_bodyS (code := cc) (maxLocals := maxL) (ret := ret) hy ?_ ?_
  · intro args s m h hn
    obtain ⟨m9, meth, c, hn9, h1, h2, h3, h4, -, h5, h6, -⟩ := Cond.codeWith_spec (atoms_spec (ws := ws) h _ (by rw [hw]; exact List.mem_cons_self))
    cases hn.symm.trans hn9
    exact ⟨meth, c, h1, h2, h3, h4, h5, h6⟩
  · intro p e s m args below meth c s₁ B hml hP _
    have hh0 : s₁.heap = s.heap := by rw [B.state]; rfl
    obtain ⟨t, a1, o, b1, b2, b3⟩ := body p e s m args below meth c s₁ B hml hP s₁ hh0 (Stand.of_body B)
    exact ⟨t, o, a1, b1, b2, b3⟩
/-! ===== END ===== -/
end
section
/-- the words that stay: every method carries them all -/
def gW : List Cond := lw_tbl.filter goodWord
theorem gW_of {w : Cond} (i : Nat) (h : lw_tbl[i]? = some w) (g : goodWord w = true) : w ∈ gW := List.mem_filter.mpr ⟨List.mem_of_getElem? h, g⟩
theorem gW_good {w : Cond} (h : w ∈ gW) : goodWord w = true := (List.mem_filter.mp h).2
def R_CB : String := "CoinBag"
def R_Bag : String := "CoinBag$Bag"
def R_Prs : String := "CoinBag$Pairs"
def R_Mod : String := "CoinBagModel"
def R_Law : String := "CoinBagLaw"
def R_JI : String := "java/lang/Integer"
def R_JL : String := "java/lang/Long"
def R_JM : String := "java/lang/Math"
def T_Bag : u_T := fun k => match k with
  | 0 => ("CoinBag$Bag", "policies", "[I", true)
  | 1 => ("CoinBag$Bag", "names", "[J", true)
  | 2 => ("CoinBag$Bag", "amounts", "[J", true)
  | _ => ("CoinBag$Bag", "count", "I", false)
def ty_Bag : Nat → FieldType := fun k => match k with
  | 0 => .array .int
  | 1 => .array .long
  | 2 => .array .long
  | _ => .int
theorem nm_Bag : ∀ a, a < 4 → ∀ b, b < 4 → a ≠ b → (T_Bag a).2.1 ≠ (T_Bag b).2.1 := by decide +kernel
theorem tyo_Bag : ∀ k, k < 4 → parseFieldDescriptor (T_Bag k).2.2.1 = some (ty_Bag k) := by decide +kernel
def T_Prs : u_T := fun k => match k with
  | 0 => ("CoinBag$Pairs", "policies", "[I", true)
  | 1 => ("CoinBag$Pairs", "names", "[J", true)
  | 2 => ("CoinBag$Pairs", "left", "[J", true)
  | 3 => ("CoinBag$Pairs", "right", "[J", true)
  | _ => ("CoinBag$Pairs", "count", "I", false)
def ty_Prs : Nat → FieldType := fun k => match k with
  | 0 => .array .int
  | 1 => .array .long
  | 2 => .array .long
  | 3 => .array .long
  | _ => .int
theorem nm_Prs : ∀ a, a < 5 → ∀ b, b < 5 → a ≠ b → (T_Prs a).2.1 ≠ (T_Prs b).2.1 := by decide +kernel
theorem tyo_Prs : ∀ k, k < 5 → parseFieldDescriptor (T_Prs k).2.2.1 = some (ty_Prs k) := by decide +kernel
def T_CB : u_T := fun k => match k with
  | 0 => ("CoinBag", "bags", "[LCoinBag$Bag;", true)
  | 1 => ("CoinBag", "pairs", "LCoinBag$Pairs;", true)
  | _ => ("CoinBag", "spare", "LCoinBag$Bag;", false)
def ty_CB : Nat → FieldType := fun k => match k with
  | 0 => .array (.object "CoinBag$Bag")
  | 1 => .object "CoinBag$Pairs"
  | _ => .object "CoinBag$Bag"
theorem nm_CB : ∀ a, a < 3 → ∀ b, b < 3 → a ≠ b → (T_CB a).2.1 ≠ (T_CB b).2.1 := by decide +kernel
theorem tyo_CB : ∀ k, k < 3 → parseFieldDescriptor (T_CB k).2.2.1 = some (ty_CB k) := by decide +kernel
def T_Mod : u_T := fun k => match k with
  | 0 => ("CoinBagModel", "thrown", "I", false)
  | 1 => ("CoinBagModel", "many", "[I", true)
  | 2 => ("CoinBagModel", "policies", "[I", true)
  | 3 => ("CoinBagModel", "names", "[J", true)
  | 4 => ("CoinBagModel", "amounts", "[J", true)
  | 5 => ("CoinBagModel", "rowMany", "I", false)
  | 6 => ("CoinBagModel", "rowPolicies", "[I", true)
  | 7 => ("CoinBagModel", "rowNames", "[J", true)
  | 8 => ("CoinBagModel", "rowAmounts", "[J", true)
  | _ => ("CoinBagModel", "bad", "Z", false)
def ty_Mod : Nat → FieldType := fun k => match k with
  | 0 => .int
  | 1 => .array .int
  | 2 => .array .int
  | 3 => .array .long
  | 4 => .array .long
  | 5 => .int
  | 6 => .array .int
  | 7 => .array .long
  | 8 => .array .long
  | _ => .boolean
theorem nm_Mod : ∀ a, a < 10 → ∀ b, b < 10 → a ≠ b → (T_Mod a).2.1 ≠ (T_Mod b).2.1 := by decide +kernel
theorem tyo_Mod : ∀ k, k < 10 → parseFieldDescriptor (T_Mod k).2.2.1 = some (ty_Mod k) := by decide +kernel
abbrev vCl : List vw_C := [(R_Bag, T_Bag, 4), (R_Prs, T_Prs, 5), (R_CB, T_CB, 3), (R_Mod, T_Mod, 10)]
set_option maxRecDepth 20000 in
theorem inT_Bag : ∀ w ∈ u_ws R_Bag T_Bag 4, w ∈ gW := fun w h => List.mem_filter.mpr ⟨(show ∀ w ∈ u_ws R_Bag T_Bag 4, w ∈ lw_tbl by decide +kernel) w h, (show ∀ w ∈ u_ws R_Bag T_Bag 4, goodWord w = true by decide +kernel) w h⟩
set_option maxRecDepth 20000 in
theorem inT_Prs : ∀ w ∈ u_ws R_Prs T_Prs 5, w ∈ gW := fun w h => List.mem_filter.mpr ⟨(show ∀ w ∈ u_ws R_Prs T_Prs 5, w ∈ lw_tbl by decide +kernel) w h, (show ∀ w ∈ u_ws R_Prs T_Prs 5, goodWord w = true by decide +kernel) w h⟩
set_option maxRecDepth 20000 in
theorem inT_CB : ∀ w ∈ u_ws R_CB T_CB 3, w ∈ gW := fun w h => List.mem_filter.mpr ⟨(show ∀ w ∈ u_ws R_CB T_CB 3, w ∈ lw_tbl by decide +kernel) w h, (show ∀ w ∈ u_ws R_CB T_CB 3, goodWord w = true by decide +kernel) w h⟩
set_option maxRecDepth 20000 in
theorem inT_Mod : ∀ w ∈ u_ws R_Mod T_Mod 10, w ∈ gW := fun w h => List.mem_filter.mpr ⟨(show ∀ w ∈ u_ws R_Mod T_Mod 10, w ∈ lw_tbl by decide +kernel) w h, (show ∀ w ∈ u_ws R_Mod T_Mod 10, goodWord w = true by decide +kernel) w h⟩
abbrev b_CB_init : ByteArray := prog_1_method_1_code
def y_CB_init : MethodName := ⟨"CoinBag", "<init>", "()V"⟩
def ws_CB_init : List Cond := .code y_CB_init b_CB_init 2 none :: gW
abbrev b_Bag_init : ByteArray := prog_2_method_1_code
def y_Bag_init : MethodName := ⟨"CoinBag$Bag", "<init>", "()V"⟩
def ws_Bag_init : List Cond := .code y_Bag_init b_Bag_init 1 none :: gW
abbrev b_Prs_init : ByteArray := prog_3_method_1_code
def y_Prs_init : MethodName := ⟨"CoinBag$Pairs", "<init>", "()V"⟩
def ws_Prs_init : List Cond := .code y_Prs_init b_Prs_init 1 none :: gW
abbrev b_Law_set : ByteArray := method_3_code
def y_Law_set : MethodName := ⟨"CoinBagLaw", "set", "(LCoinBag;IIJJ[J)I"⟩
def ws_Law_set : List Cond := .codeWith y_Law_set b_Law_set 9 (some .int) [(0, 21, 24, 13), (0, 21, 28, 15)] :: gW
abbrev b_CB_set : ByteArray := prog_1_method_2_code
def y_CB_set : MethodName := ⟨"CoinBag", "set", "(IIJJ)Z"⟩
def ws_CB_set : List Cond := .code y_CB_set b_CB_set 7 (some .boolean) :: gW
abbrev b_CB_requireBag : ByteArray := prog_1_method_17_code
def y_CB_requireBag : MethodName := ⟨"CoinBag", "requireBag", "(I)V"⟩
def ws_CB_requireBag : List Cond := .code y_CB_requireBag b_CB_requireBag 1 none :: gW
abbrev b_CB_requirePolicy : ByteArray := prog_1_method_18_code
def y_CB_requirePolicy : MethodName := ⟨"CoinBag", "requirePolicy", "(I)V"⟩
def ws_CB_requirePolicy : List Cond := .code y_CB_requirePolicy b_CB_requirePolicy 1 none :: gW
abbrev b_Bag_store : ByteArray := prog_2_method_5_code
def y_Bag_store : MethodName := ⟨"CoinBag$Bag", "store", "(IJJ)Z"⟩
def ws_Bag_store : List Cond := .code y_Bag_store b_Bag_store 8 (some .boolean) :: gW
abbrev b_Bag_placeFor : ByteArray := prog_2_method_9_code
def y_Bag_placeFor : MethodName := ⟨"CoinBag$Bag", "placeFor", "(IJ)I"⟩
def ws_Bag_placeFor : List Cond := .code y_Bag_placeFor b_Bag_placeFor 5 (some .int) :: gW
abbrev b_CB_orderOf : ByteArray := prog_1_method_27_code
def y_CB_orderOf : MethodName := ⟨"CoinBag", "orderOf", "(IJIJ)I"⟩
def ws_CB_orderOf : List Cond := .code y_CB_orderOf b_CB_orderOf 6 (some .int) :: gW
abbrev b_JI_compare : ByteArray := prog_9_method_40_code
def y_JI_compare : MethodName := ⟨"java/lang/Integer", "compare", "(II)I"⟩
def ws_JI_compare : List Cond := .code y_JI_compare b_JI_compare 2 (some .int) :: gW
abbrev b_JL_compareUnsigned : ByteArray := prog_10_method_43_code
def y_JL_compareUnsigned : MethodName := ⟨"java/lang/Long", "compareUnsigned", "(JJ)I"⟩
def ws_JL_compareUnsigned : List Cond := .code y_JL_compareUnsigned b_JL_compareUnsigned 4 (some .int) :: gW
abbrev b_JL_compare : ByteArray := prog_10_method_42_code
def y_JL_compare : MethodName := ⟨"java/lang/Long", "compare", "(JJ)I"⟩
def ws_JL_compare : List Cond := .code y_JL_compare b_JL_compare 4 (some .int) :: gW
abbrev b_Bag_holdsAt : ByteArray := prog_2_method_10_code
def y_Bag_holdsAt : MethodName := ⟨"CoinBag$Bag", "holdsAt", "(IIJ)Z"⟩
def ws_Bag_holdsAt : List Cond := .code y_Bag_holdsAt b_Bag_holdsAt 5 (some .boolean) :: gW
abbrev b_Bag_removeAt : ByteArray := prog_2_method_11_code
def y_Bag_removeAt : MethodName := ⟨"CoinBag$Bag", "removeAt", "(I)V"⟩
def ws_Bag_removeAt : List Cond := .code y_Bag_removeAt b_Bag_removeAt 3 none :: gW
abbrev b_Bag_makeRoomAt : ByteArray := prog_2_method_12_code
def y_Bag_makeRoomAt : MethodName := ⟨"CoinBag$Bag", "makeRoomAt", "(I)V"⟩
def ws_Bag_makeRoomAt : List Cond := .code y_Bag_makeRoomAt b_Bag_makeRoomAt 3 none :: gW
abbrev b_Law_put : ByteArray := method_4_code
def y_Law_put : MethodName := ⟨"CoinBagLaw", "put", "(LCoinBag;IIJJ[J)I"⟩
def ws_Law_put : List Cond := .codeWith y_Law_put b_Law_put 9 (some .int) [(0, 21, 24, 13), (0, 21, 28, 15)] :: gW
abbrev b_CB_put : ByteArray := prog_1_method_3_code
def y_CB_put : MethodName := ⟨"CoinBag", "put", "(IIJJ)Z"⟩
def ws_CB_put : List Cond := .code y_CB_put b_CB_put 9 (some .boolean) :: gW
abbrev b_Bag_amountOf : ByteArray := prog_2_method_4_code
def y_Bag_amountOf : MethodName := ⟨"CoinBag$Bag", "amountOf", "(IJ)J"⟩
def ws_Bag_amountOf : List Cond := .code y_Bag_amountOf b_Bag_amountOf 5 (some .long) :: gW
abbrev b_CB_sumFits : ByteArray := prog_1_method_23_code
def y_CB_sumFits : MethodName := ⟨"CoinBag", "sumFits", "(JJ)Z"⟩
def ws_CB_sumFits : List Cond := .code y_CB_sumFits b_CB_sumFits 4 (some .boolean) :: gW
abbrev b_Law_sum : ByteArray := method_5_code
def y_Law_sum : MethodName := ⟨"CoinBagLaw", "sum", "(LCoinBag;III[J)I"⟩
def ws_Law_sum : List Cond := .codeWith y_Law_sum b_Law_sum 6 (some .int) [(0, 19, 22, 13)] :: gW
abbrev b_CB_sum : ByteArray := prog_1_method_4_code
def y_CB_sum : MethodName := ⟨"CoinBag", "sum", "(III)Z"⟩
def ws_CB_sum : List Cond := .code y_CB_sum b_CB_sum 4 (some .boolean) :: gW
abbrev b_CB_combine : ByteArray := prog_1_method_20_code
def y_CB_combine : MethodName := ⟨"CoinBag", "combine", "(IIII)Z"⟩
def ws_CB_combine : List Cond := .code y_CB_combine b_CB_combine 10 (some .boolean) :: gW
abbrev b_Prs_align : ByteArray := prog_3_method_2_code
def y_Prs_align : MethodName := ⟨"CoinBag$Pairs", "align", "(LCoinBag$Bag;LCoinBag$Bag;)V"⟩
def ws_Prs_align : List Cond := .code y_Prs_align b_Prs_align 8 none :: gW
abbrev b_Prs_orderOfNext : ByteArray := prog_3_method_3_code
def y_Prs_orderOfNext : MethodName := ⟨"CoinBag$Pairs", "orderOfNext", "(LCoinBag$Bag;ILCoinBag$Bag;I)I"⟩
def ws_Prs_orderOfNext : List Cond := .code y_Prs_orderOfNext b_Prs_orderOfNext 4 (some .int) :: gW
abbrev b_Bag_empty : ByteArray := prog_2_method_2_code
def y_Bag_empty : MethodName := ⟨"CoinBag$Bag", "empty", "()V"⟩
def ws_Bag_empty : List Cond := .code y_Bag_empty b_Bag_empty 1 none :: gW
abbrev b_CB_fits : ByteArray := prog_1_method_21_code
def y_CB_fits : MethodName := ⟨"CoinBag", "fits", "(IJJ)Z"⟩
def ws_CB_fits : List Cond := .code y_CB_fits b_CB_fits 5 (some .boolean) :: gW
abbrev b_CB_differenceFits : ByteArray := prog_1_method_24_code
def y_CB_differenceFits : MethodName := ⟨"CoinBag", "differenceFits", "(JJ)Z"⟩
def ws_CB_differenceFits : List Cond := .code y_CB_differenceFits b_CB_differenceFits 4 (some .boolean) :: gW
abbrev b_CB_combined : ByteArray := prog_1_method_22_code
def y_CB_combined : MethodName := ⟨"CoinBag", "combined", "(IJJ)J"⟩
def ws_CB_combined : List Cond := .code y_CB_combined b_CB_combined 5 (some .long) :: gW
abbrev b_JM_min : ByteArray := prog_11_method_70_code
def y_JM_min : MethodName := ⟨"java/lang/Math", "min", "(JJ)J"⟩
def ws_JM_min : List Cond := .code y_JM_min b_JM_min 4 (some .long) :: gW
abbrev b_Bag_append : ByteArray := prog_2_method_3_code
def y_Bag_append : MethodName := ⟨"CoinBag$Bag", "append", "(IJJ)Z"⟩
def ws_Bag_append : List Cond := .code y_Bag_append b_Bag_append 6 (some .boolean) :: gW
abbrev b_CB_exchangeSpare : ByteArray := prog_1_method_19_code
def y_CB_exchangeSpare : MethodName := ⟨"CoinBag", "exchangeSpare", "(I)V"⟩
def ws_CB_exchangeSpare : List Cond := .code y_CB_exchangeSpare b_CB_exchangeSpare 3 none :: gW
abbrev b_Law_less : ByteArray := method_6_code
def y_Law_less : MethodName := ⟨"CoinBagLaw", "less", "(LCoinBag;III[J)I"⟩
def ws_Law_less : List Cond := .codeWith y_Law_less b_Law_less 6 (some .int) [(0, 19, 22, 13)] :: gW
abbrev b_CB_less : ByteArray := prog_1_method_5_code
def y_CB_less : MethodName := ⟨"CoinBag", "less", "(III)Z"⟩
def ws_CB_less : List Cond := .code y_CB_less b_CB_less 4 (some .boolean) :: gW
abbrev b_Law_times : ByteArray := method_7_code
def y_Law_times : MethodName := ⟨"CoinBagLaw", "times", "(LCoinBag;IJI[J)I"⟩
def ws_Law_times : List Cond := .codeWith y_Law_times b_Law_times 7 (some .int) [(0, 20, 23, 13)] :: gW
abbrev b_CB_times : ByteArray := prog_1_method_6_code
def y_CB_times : MethodName := ⟨"CoinBag", "times", "(IJI)Z"⟩
def ws_CB_times : List Cond := .code y_CB_times b_CB_times 7 (some .boolean) :: gW
abbrev b_CB_productFits : ByteArray := prog_1_method_25_code
def y_CB_productFits : MethodName := ⟨"CoinBag", "productFits", "(JJ)Z"⟩
def ws_CB_productFits : List Cond := .code y_CB_productFits b_CB_productFits 4 (some .boolean) :: gW
abbrev b_Law_only : ByteArray := method_8_code
def y_Law_only : MethodName := ⟨"CoinBagLaw", "only", "(LCoinBag;IIZI)I"⟩
def ws_Law_only : List Cond := .codeWith y_Law_only b_Law_only 6 (some .int) [(0, 9, 12, 13), (0, 9, 16, 15)] :: gW
abbrev b_CB_only : ByteArray := prog_1_method_7_code
def y_CB_only : MethodName := ⟨"CoinBag", "only", "(IIZI)V"⟩
def ws_CB_only : List Cond := .code y_CB_only b_CB_only 7 none :: gW
abbrev b_Law_part : ByteArray := method_9_code
def y_Law_part : MethodName := ⟨"CoinBagLaw", "part", "(LCoinBag;III[J)I"⟩
def ws_Law_part : List Cond := .codeWith y_Law_part b_Law_part 6 (some .int) [(0, 19, 22, 13)] :: gW
abbrev b_CB_part : ByteArray := prog_1_method_8_code
def y_CB_part : MethodName := ⟨"CoinBag", "part", "(III)Z"⟩
def ws_CB_part : List Cond := .code y_CB_part b_CB_part 8 (some .boolean) :: gW
abbrev b_Law_clear : ByteArray := method_10_code
def y_Law_clear : MethodName := ⟨"CoinBagLaw", "clear", "(LCoinBag;I)I"⟩
def ws_Law_clear : List Cond := .codeWith y_Law_clear b_Law_clear 3 (some .int) [(0, 5, 8, 13)] :: gW
abbrev b_CB_clear : ByteArray := prog_1_method_9_code
def y_CB_clear : MethodName := ⟨"CoinBag", "clear", "(I)V"⟩
def ws_CB_clear : List Cond := .code y_CB_clear b_CB_clear 2 none :: gW
abbrev b_Law_amount : ByteArray := method_11_code
def y_Law_amount : MethodName := ⟨"CoinBagLaw", "amount", "(LCoinBag;IIJ[J)I"⟩
def ws_Law_amount : List Cond := .codeWith y_Law_amount b_Law_amount 7 (some .int) [(0, 11, 14, 13), (0, 11, 18, 15)] :: gW
abbrev b_CB_amount : ByteArray := prog_1_method_10_code
def y_CB_amount : MethodName := ⟨"CoinBag", "amount", "(IIJ)J"⟩
def ws_CB_amount : List Cond := .code y_CB_amount b_CB_amount 5 (some .long) :: gW
abbrev b_Law_size : ByteArray := method_12_code
def y_Law_size : MethodName := ⟨"CoinBagLaw", "size", "(LCoinBag;I[J)I"⟩
def ws_Law_size : List Cond := .codeWith y_Law_size b_Law_size 4 (some .int) [(0, 9, 12, 13)] :: gW
abbrev b_CB_size : ByteArray := prog_1_method_11_code
def y_CB_size : MethodName := ⟨"CoinBag", "size", "(I)I"⟩
def ws_CB_size : List Cond := .code y_CB_size b_CB_size 2 (some .int) :: gW
abbrev b_Law_at : ByteArray := method_13_code
def y_Law_at : MethodName := ⟨"CoinBagLaw", "at", "(LCoinBag;III[J)I"⟩
def ws_Law_at : List Cond := .codeWith y_Law_at b_Law_at 6 (some .int) [(0, 11, 14, 13)] :: gW
abbrev b_CB_at : ByteArray := prog_1_method_12_code
def y_CB_at : MethodName := ⟨"CoinBag", "at", "(III)J"⟩
def ws_CB_at : List Cond := .code y_CB_at b_CB_at 5 (some .long) :: gW
abbrev b_Law_compare : ByteArray := method_14_code
def y_Law_compare : MethodName := ⟨"CoinBagLaw", "compare", "(LCoinBag;II[J)I"⟩
def ws_Law_compare : List Cond := .codeWith y_Law_compare b_Law_compare 5 (some .int) [(0, 10, 13, 13)] :: gW
abbrev b_CB_compare : ByteArray := prog_1_method_13_code
def y_CB_compare : MethodName := ⟨"CoinBag", "compare", "(II)I"⟩
def ws_CB_compare : List Cond := .code y_CB_compare b_CB_compare 6 (some .int) :: gW
abbrev b_Law_least : ByteArray := method_15_code
def y_Law_least : MethodName := ⟨"CoinBagLaw", "least", "(LCoinBag;III[J)I"⟩
def ws_Law_least : List Cond := .codeWith y_Law_least b_Law_least 6 (some .int) [(0, 19, 22, 13)] :: gW
abbrev b_CB_least : ByteArray := prog_1_method_14_code
def y_CB_least : MethodName := ⟨"CoinBag", "least", "(III)Z"⟩
def ws_CB_least : List Cond := .code y_CB_least b_CB_least 4 (some .boolean) :: gW
abbrev b_Law_into : ByteArray := method_16_code
def y_Law_into : MethodName := ⟨"CoinBagLaw", "into", "(LCoinBag;II[J)I"⟩
def ws_Law_into : List Cond := .codeWith y_Law_into b_Law_into 5 (some .int) [(0, 9, 12, 13)] :: gW
abbrev b_CB_into : ByteArray := prog_1_method_15_code
def y_CB_into : MethodName := ⟨"CoinBag", "into", "(II)J"⟩
def ws_CB_into : List Cond := .code y_CB_into b_CB_into 15 (some .long) :: gW
abbrev b_JM_floorDiv : ByteArray := prog_11_method_49_code
def y_JM_floorDiv : MethodName := ⟨"java/lang/Math", "floorDiv", "(JJ)J"⟩
def ws_JM_floorDiv : List Cond := .code y_JM_floorDiv b_JM_floorDiv 6 (some .long) :: gW
abbrev b_CB_fewestTimes : ByteArray := prog_1_method_26_code
def y_CB_fewestTimes : MethodName := ⟨"CoinBag", "fewestTimes", "(JJ)J"⟩
def ws_CB_fewestTimes : List Cond := .code y_CB_fewestTimes b_CB_fewestTimes 6 (some .long) :: gW
abbrev b_JM_max : ByteArray := prog_11_method_66_code
def y_JM_max : MethodName := ⟨"java/lang/Math", "max", "(JJ)J"⟩
def ws_JM_max : List Cond := .code y_JM_max b_JM_max 4 (some .long) :: gW
abbrev b_Law_look : ByteArray := method_17_code
def y_Law_look : MethodName := ⟨"CoinBagLaw", "look", "(LCoinBag;II[J)I"⟩
def ws_Law_look : List Cond := .codeWith y_Law_look b_Law_look 5 (some .int) [(0, 10, 13, 13)] :: gW
abbrev b_CB_look : ByteArray := prog_1_method_16_code
def y_CB_look : MethodName := ⟨"CoinBag", "look", "(II)I"⟩
def ws_CB_look : List Cond := .code y_CB_look b_CB_look 3 (some .int) :: gW
abbrev b_Bag_countPolicies : ByteArray := prog_2_method_6_code
def y_Bag_countPolicies : MethodName := ⟨"CoinBag$Bag", "countPolicies", "()I"⟩
def ws_Bag_countPolicies : List Cond := .code y_Bag_countPolicies b_Bag_countPolicies 3 (some .int) :: gW
abbrev b_Bag_countBelowZero : ByteArray := prog_2_method_7_code
def y_Bag_countBelowZero : MethodName := ⟨"CoinBag$Bag", "countBelowZero", "()I"⟩
def ws_Bag_countBelowZero : List Cond := .code y_Bag_countBelowZero b_Bag_countBelowZero 3 (some .int) :: gW
abbrev b_Bag_placeOfGreatest : ByteArray := prog_2_method_8_code
def y_Bag_placeOfGreatest : MethodName := ⟨"CoinBag$Bag", "placeOfGreatest", "()I"⟩
def ws_Bag_placeOfGreatest : List Cond := .code y_Bag_placeOfGreatest b_Bag_placeOfGreatest 3 (some .int) :: gW
abbrev b_Mod_init : ByteArray := prog_5_method_1_code
def y_Mod_init : MethodName := ⟨"CoinBagModel", "<init>", "()V"⟩
def ws_Mod_init : List Cond := .code y_Mod_init b_Mod_init 1 none :: gW
abbrev b_Mod_thrown : ByteArray := prog_5_method_2_code
def y_Mod_thrown : MethodName := ⟨"CoinBagModel", "thrown", "()I"⟩
def ws_Mod_thrown : List Cond := .code y_Mod_thrown b_Mod_thrown 1 (some .int) :: gW
abbrev b_Mod_set : ByteArray := prog_5_method_18_code
def y_Mod_set : MethodName := ⟨"CoinBagModel", "set", "(IIJJ)Z"⟩
def ws_Mod_set : List Cond := .code y_Mod_set b_Mod_set 7 (some .boolean) :: gW
abbrev b_Mod_wrong : ByteArray := prog_5_method_16_code
def y_Mod_wrong : MethodName := ⟨"CoinBagModel", "wrong", "(IIII)I"⟩
def ws_Mod_wrong : List Cond := .code y_Mod_wrong b_Mod_wrong 5 (some .int) :: gW
abbrev b_Mod_isBag : ByteArray := prog_5_method_3_code
def y_Mod_isBag : MethodName := ⟨"CoinBagModel", "isBag", "(I)Z"⟩
def ws_Mod_isBag : List Cond := .code y_Mod_isBag b_Mod_isBag 1 (some .boolean) :: gW
abbrev b_Mod_isPolicy : ByteArray := prog_5_method_4_code
def y_Mod_isPolicy : MethodName := ⟨"CoinBagModel", "isPolicy", "(I)Z"⟩
def ws_Mod_isPolicy : List Cond := .code y_Mod_isPolicy b_Mod_isPolicy 1 (some .boolean) :: gW
abbrev b_Mod_store : ByteArray := prog_5_method_17_code
def y_Mod_store : MethodName := ⟨"CoinBagModel", "store", "(IIJJ)Z"⟩
def ws_Mod_store : List Cond := .code y_Mod_store b_Mod_store 10 (some .boolean) :: gW
abbrev b_Mod_find : ByteArray := prog_5_method_5_code
def y_Mod_find : MethodName := ⟨"CoinBagModel", "find", "(IIJ)I"⟩
def ws_Mod_find : List Cond := .code y_Mod_find b_Mod_find 6 (some .int) :: gW
abbrev b_Mod_put : ByteArray := prog_5_method_19_code
def y_Mod_put : MethodName := ⟨"CoinBagModel", "put", "(IIJJ)Z"⟩
def ws_Mod_put : List Cond := .code y_Mod_put b_Mod_put 9 (some .boolean) :: gW
abbrev b_Mod_valueOf : ByteArray := prog_5_method_6_code
def y_Mod_valueOf : MethodName := ⟨"CoinBagModel", "valueOf", "(IIJ)J"⟩
def ws_Mod_valueOf : List Cond := .code y_Mod_valueOf b_Mod_valueOf 6 (some .long) :: gW
abbrev b_Mod_added : ByteArray := prog_5_method_12_code
def y_Mod_added : MethodName := ⟨"CoinBagModel", "added", "(JJ)J"⟩
def ws_Mod_added : List Cond := .code y_Mod_added b_Mod_added 5 (some .long) :: gW
abbrev b_Mod_sum : ByteArray := prog_5_method_20_code
def y_Mod_sum : MethodName := ⟨"CoinBagModel", "sum", "(III)Z"⟩
def ws_Mod_sum : List Cond := .code y_Mod_sum b_Mod_sum 4 (some .boolean) :: gW
abbrev b_Mod_both : ByteArray := prog_5_method_15_code
def y_Mod_both : MethodName := ⟨"CoinBagModel", "both", "(III)V"⟩
def ws_Mod_both : List Cond := .code y_Mod_both b_Mod_both 14 none :: gW
abbrev b_Mod_begin : ByteArray := prog_5_method_10_code
def y_Mod_begin : MethodName := ⟨"CoinBagModel", "begin", "()V"⟩
def ws_Mod_begin : List Cond := .code y_Mod_begin b_Mod_begin 1 none :: gW
abbrev b_Mod_subtracted : ByteArray := prog_5_method_13_code
def y_Mod_subtracted : MethodName := ⟨"CoinBagModel", "subtracted", "(JJ)J"⟩
def ws_Mod_subtracted : List Cond := .code y_Mod_subtracted b_Mod_subtracted 5 (some .long) :: gW
abbrev b_Mod_lay : ByteArray := prog_5_method_9_code
def y_Mod_lay : MethodName := ⟨"CoinBagModel", "lay", "(IJJ)V"⟩
def ws_Mod_lay : List Cond := .code y_Mod_lay b_Mod_lay 6 none :: gW
abbrev b_Mod_becomes : ByteArray := prog_5_method_11_code
def y_Mod_becomes : MethodName := ⟨"CoinBagModel", "becomes", "(I)Z"⟩
def ws_Mod_becomes : List Cond := .code y_Mod_becomes b_Mod_becomes 3 (some .boolean) :: gW
abbrev b_Mod_less : ByteArray := prog_5_method_21_code
def y_Mod_less : MethodName := ⟨"CoinBagModel", "less", "(III)Z"⟩
def ws_Mod_less : List Cond := .code y_Mod_less b_Mod_less 4 (some .boolean) :: gW
abbrev b_Mod_times : ByteArray := prog_5_method_22_code
def y_Mod_times : MethodName := ⟨"CoinBagModel", "times", "(IJI)Z"⟩
def ws_Mod_times : List Cond := .code y_Mod_times b_Mod_times 6 (some .boolean) :: gW
abbrev b_Mod_multiplied : ByteArray := prog_5_method_14_code
def y_Mod_multiplied : MethodName := ⟨"CoinBagModel", "multiplied", "(JJ)J"⟩
def ws_Mod_multiplied : List Cond := .code y_Mod_multiplied b_Mod_multiplied 6 (some .long) :: gW
abbrev b_Mod_only : ByteArray := prog_5_method_23_code
def y_Mod_only : MethodName := ⟨"CoinBagModel", "only", "(IIZI)V"⟩
def ws_Mod_only : List Cond := .code y_Mod_only b_Mod_only 6 none :: gW
abbrev b_Mod_part : ByteArray := prog_5_method_24_code
def y_Mod_part : MethodName := ⟨"CoinBagModel", "part", "(III)Z"⟩
def ws_Mod_part : List Cond := .code y_Mod_part b_Mod_part 5 (some .boolean) :: gW
abbrev b_Mod_clear : ByteArray := prog_5_method_25_code
def y_Mod_clear : MethodName := ⟨"CoinBagModel", "clear", "(I)V"⟩
def ws_Mod_clear : List Cond := .code y_Mod_clear b_Mod_clear 2 none :: gW
abbrev b_Mod_least : ByteArray := prog_5_method_26_code
def y_Mod_least : MethodName := ⟨"CoinBagModel", "least", "(III)Z"⟩
def ws_Mod_least : List Cond := .code y_Mod_least b_Mod_least 4 (some .boolean) :: gW
abbrev b_Mod_amount : ByteArray := prog_5_method_27_code
def y_Mod_amount : MethodName := ⟨"CoinBagModel", "amount", "(IIJ)J"⟩
def ws_Mod_amount : List Cond := .code y_Mod_amount b_Mod_amount 5 (some .long) :: gW
abbrev b_Mod_size : ByteArray := prog_5_method_28_code
def y_Mod_size : MethodName := ⟨"CoinBagModel", "size", "(I)I"⟩
def ws_Mod_size : List Cond := .code y_Mod_size b_Mod_size 2 (some .int) :: gW
abbrev b_Mod_at : ByteArray := prog_5_method_29_code
def y_Mod_at : MethodName := ⟨"CoinBagModel", "at", "(III)J"⟩
def ws_Mod_at : List Cond := .code y_Mod_at b_Mod_at 5 (some .long) :: gW
abbrev b_Mod_inOrder : ByteArray := prog_5_method_8_code
def y_Mod_inOrder : MethodName := ⟨"CoinBagModel", "inOrder", "(II)I"⟩
def ws_Mod_inOrder : List Cond := .code y_Mod_inOrder b_Mod_inOrder 7 (some .int) :: gW
abbrev b_Mod_isBefore : ByteArray := prog_5_method_7_code
def y_Mod_isBefore : MethodName := ⟨"CoinBagModel", "isBefore", "(III)Z"⟩
def ws_Mod_isBefore : List Cond := .code y_Mod_isBefore b_Mod_isBefore 6 (some .boolean) :: gW
abbrev b_Mod_compare : ByteArray := prog_5_method_30_code
def y_Mod_compare : MethodName := ⟨"CoinBagModel", "compare", "(II)I"⟩
def ws_Mod_compare : List Cond := .code y_Mod_compare b_Mod_compare 12 (some .int) :: gW
abbrev b_Mod_into : ByteArray := prog_5_method_31_code
def y_Mod_into : MethodName := ⟨"CoinBagModel", "into", "(II)J"⟩
def ws_Mod_into : List Cond := .code y_Mod_into b_Mod_into 18 (some .long) :: gW
abbrev b_Mod_look : ByteArray := prog_5_method_32_code
def y_Mod_look : MethodName := ⟨"CoinBagModel", "look", "(II)I"⟩
def ws_Mod_look : List Cond := .code y_Mod_look b_Mod_look 9 (some .int) :: gW
end
section
theorem k_1 : (Jvm.Cond.selects "CoinBag$Bag" y_Bag_placeFor y_Bag_placeFor) ∈ gW := gW_of 1 (by decide +kernel) (by decide +kernel)
theorem k_2 : (Jvm.Cond.selects "CoinBag$Bag" y_Bag_holdsAt y_Bag_holdsAt) ∈ gW := gW_of 2 (by decide +kernel) (by decide +kernel)
theorem k_3 : (Jvm.Cond.selects "CoinBag$Bag" y_Bag_removeAt y_Bag_removeAt) ∈ gW := gW_of 3 (by decide +kernel) (by decide +kernel)
theorem k_4 : (Jvm.Cond.selects "CoinBag$Bag" y_Bag_makeRoomAt y_Bag_makeRoomAt) ∈ gW := gW_of 4 (by decide +kernel) (by decide +kernel)
theorem k_5 : (Jvm.Cond.selects "CoinBag" y_CB_combine y_CB_combine) ∈ gW := gW_of 5 (by decide +kernel) (by decide +kernel)
theorem k_6 : (Jvm.Cond.selects "CoinBag" y_CB_exchangeSpare y_CB_exchangeSpare) ∈ gW := gW_of 6 (by decide +kernel) (by decide +kernel)
theorem k_7 : (Jvm.Cond.selects "CoinBagModel" y_Mod_wrong y_Mod_wrong) ∈ gW := gW_of 7 (by decide +kernel) (by decide +kernel)
theorem k_8 : (Jvm.Cond.selects "CoinBagModel" y_Mod_store y_Mod_store) ∈ gW := gW_of 8 (by decide +kernel) (by decide +kernel)
theorem k_9 : (Jvm.Cond.selects "CoinBagModel" y_Mod_find y_Mod_find) ∈ gW := gW_of 9 (by decide +kernel) (by decide +kernel)
theorem k_10 : (Jvm.Cond.selects "CoinBagModel" y_Mod_valueOf y_Mod_valueOf) ∈ gW := gW_of 10 (by decide +kernel) (by decide +kernel)
theorem k_11 : (Jvm.Cond.selects "CoinBagModel" y_Mod_added y_Mod_added) ∈ gW := gW_of 11 (by decide +kernel) (by decide +kernel)
theorem k_12 : (Jvm.Cond.selects "CoinBagModel" y_Mod_both y_Mod_both) ∈ gW := gW_of 12 (by decide +kernel) (by decide +kernel)
theorem k_13 : (Jvm.Cond.selects "CoinBagModel" y_Mod_begin y_Mod_begin) ∈ gW := gW_of 13 (by decide +kernel) (by decide +kernel)
theorem k_14 : (Jvm.Cond.selects "CoinBagModel" y_Mod_subtracted y_Mod_subtracted) ∈ gW := gW_of 14 (by decide +kernel) (by decide +kernel)
theorem k_15 : (Jvm.Cond.selects "CoinBagModel" y_Mod_lay y_Mod_lay) ∈ gW := gW_of 15 (by decide +kernel) (by decide +kernel)
theorem k_16 : (Jvm.Cond.selects "CoinBagModel" y_Mod_becomes y_Mod_becomes) ∈ gW := gW_of 16 (by decide +kernel) (by decide +kernel)
theorem k_17 : (Jvm.Cond.selects "CoinBagModel" y_Mod_multiplied y_Mod_multiplied) ∈ gW := gW_of 17 (by decide +kernel) (by decide +kernel)
theorem k_18 : (Jvm.Cond.selects "CoinBagModel" y_Mod_inOrder y_Mod_inOrder) ∈ gW := gW_of 18 (by decide +kernel) (by decide +kernel)
theorem k_19 : (Jvm.Cond.selects "CoinBagModel" y_Mod_isBefore y_Mod_isBefore) ∈ gW := gW_of 19 (by decide +kernel) (by decide +kernel)
theorem k_20 : (Jvm.Cond.initialized "CoinBagLaw") ∈ gW := gW_of 20 (by decide +kernel) (by decide +kernel)
theorem k_21 : (Jvm.Cond.initialized "CoinBag") ∈ gW := gW_of 21 (by decide +kernel) (by decide +kernel)
theorem k_22 : (Jvm.Cond.initialized "CoinBag$Bag") ∈ gW := gW_of 22 (by decide +kernel) (by decide +kernel)
theorem k_23 : (Jvm.Cond.initialized "CoinBag$Pairs") ∈ gW := gW_of 23 (by decide +kernel) (by decide +kernel)
theorem k_24 : (Jvm.Cond.initialized "CoinBagModel") ∈ gW := gW_of 24 (by decide +kernel) (by decide +kernel)
theorem k_28 : (Jvm.Cond.initialized "java/lang/IndexOutOfBoundsException") ∈ gW := gW_of 28 (by decide +kernel) (by decide +kernel)
theorem k_29 : (Jvm.Cond.initialized "java/lang/IllegalArgumentException") ∈ gW := gW_of 29 (by decide +kernel) (by decide +kernel)
theorem k_30 : (Jvm.Cond.initialized "java/lang/Integer") ∈ gW := gW_of 30 (by decide +kernel) (by decide +kernel)
theorem k_31 : (Jvm.Cond.initialized "java/lang/Long") ∈ gW := gW_of 31 (by decide +kernel) (by decide +kernel)
theorem k_32 : (Jvm.Cond.initialized "java/lang/System") ∈ gW := gW_of 32 (by decide +kernel) (by decide +kernel)
theorem k_33 : (Jvm.Cond.initialized "java/lang/Math") ∈ gW := gW_of 33 (by decide +kernel) (by decide +kernel)
theorem k_34 : (Jvm.Cond.classLink "CoinBagLaw" (8 : Nat) "CoinBag") ∈ gW := gW_of 34 (by decide +kernel) (by decide +kernel)
theorem k_35 : (Jvm.Cond.instantiable "CoinBag" (3 : Nat)) ∈ gW := gW_of 35 (by decide +kernel) (by decide +kernel)
theorem k_36 : (Jvm.Cond.methodLink "CoinBagLaw" (68 : Nat) y_CB_init) ∈ gW := gW_of 36 (by decide +kernel) (by decide +kernel)
theorem k_37 : (Jvm.Cond.instanceMethod y_CB_init) ∈ gW := gW_of 37 (by decide +kernel) (by decide +kernel)
theorem k_38 : (Jvm.Cond.code y_CB_init b_CB_init (2 : Nat) (Option.none : Option Jvm.ClassFile.FieldType)) ∈ gW := gW_of 38 (by decide +kernel) (by decide +kernel)
theorem k_39 : (Jvm.Cond.methodLink "CoinBag" (1 : Nat) ⟨"java/lang/Object", "<init>", "()V"⟩) ∈ gW := gW_of 39 (by decide +kernel) (by decide +kernel)
theorem k_40 : (Jvm.Cond.instanceMethod ⟨"java/lang/Object", "<init>", "()V"⟩) ∈ gW := gW_of 40 (by decide +kernel) (by decide +kernel)
theorem k_41 : (Jvm.Cond.code ⟨"java/lang/Object", "<init>", "()V"⟩ object_method_1_code (1 : Nat) (Option.none : Option Jvm.ClassFile.FieldType)) ∈ gW := gW_of 41 (by decide +kernel) (by decide +kernel)
theorem k_42 : (Jvm.Cond.classLink "CoinBag" (9 : Nat) "CoinBag$Bag") ∈ gW := gW_of 42 (by decide +kernel) (by decide +kernel)
theorem k_44 : (Jvm.Cond.instantiable "CoinBag$Bag" (4 : Nat)) ∈ gW := gW_of 44 (by decide +kernel) (by decide +kernel)
theorem k_46 : (Jvm.Cond.instanceMethod y_Bag_init) ∈ gW := gW_of 46 (by decide +kernel) (by decide +kernel)
theorem k_47 : (Jvm.Cond.code y_Bag_init b_Bag_init (1 : Nat) (Option.none : Option Jvm.ClassFile.FieldType)) ∈ gW := gW_of 47 (by decide +kernel) (by decide +kernel)
theorem k_48 : (Jvm.Cond.methodLink "CoinBag$Bag" (3 : Nat) ⟨"java/lang/Object", "<init>", "()V"⟩) ∈ gW := gW_of 48 (by decide +kernel) (by decide +kernel)
theorem k_49 : (Jvm.Cond.fieldLink "CoinBag$Bag" (9 : Nat) "CoinBag$Bag" "policies" "[I") ∈ gW := gW_of 49 (by decide +kernel) (by decide +kernel)
theorem k_50 : (Jvm.Cond.fieldLink "CoinBag$Pairs" (36 : Nat) "CoinBag$Bag" "policies" "[I") ∈ gW := gW_of 50 (by decide +kernel) (by decide +kernel)
theorem k_51 : (Jvm.Cond.fieldLink "CoinBag" (64 : Nat) "CoinBag$Bag" "policies" "[I") ∈ gW := gW_of 51 (by decide +kernel) (by decide +kernel)
theorem k_52 : (Jvm.Cond.fieldLink "CoinBag$Bag" (15 : Nat) "CoinBag$Bag" "names" "[J") ∈ gW := gW_of 52 (by decide +kernel) (by decide +kernel)
theorem k_53 : (Jvm.Cond.fieldLink "CoinBag$Pairs" (37 : Nat) "CoinBag$Bag" "names" "[J") ∈ gW := gW_of 53 (by decide +kernel) (by decide +kernel)
theorem k_54 : (Jvm.Cond.fieldLink "CoinBag" (68 : Nat) "CoinBag$Bag" "names" "[J") ∈ gW := gW_of 54 (by decide +kernel) (by decide +kernel)
theorem k_55 : (Jvm.Cond.fieldLink "CoinBag$Bag" (19 : Nat) "CoinBag$Bag" "amounts" "[J") ∈ gW := gW_of 55 (by decide +kernel) (by decide +kernel)
theorem k_56 : (Jvm.Cond.fieldLink "CoinBag$Pairs" (38 : Nat) "CoinBag$Bag" "amounts" "[J") ∈ gW := gW_of 56 (by decide +kernel) (by decide +kernel)
theorem k_57 : (Jvm.Cond.fieldLink "CoinBag" (57 : Nat) "CoinBag$Bag" "amounts" "[J") ∈ gW := gW_of 57 (by decide +kernel) (by decide +kernel)
theorem k_58 : (Jvm.Cond.fieldLink "CoinBag$Bag" (22 : Nat) "CoinBag$Bag" "count" "I") ∈ gW := gW_of 58 (by decide +kernel) (by decide +kernel)
theorem k_59 : (Jvm.Cond.fieldLink "CoinBag$Pairs" (29 : Nat) "CoinBag$Bag" "count" "I") ∈ gW := gW_of 59 (by decide +kernel) (by decide +kernel)
theorem k_60 : (Jvm.Cond.fieldLink "CoinBag" (53 : Nat) "CoinBag$Bag" "count" "I") ∈ gW := gW_of 60 (by decide +kernel) (by decide +kernel)
theorem k_61 : (Jvm.Cond.laysFinal "CoinBag$Bag" "CoinBag$Bag" "policies" "[I") ∈ gW := gW_of 61 (by decide +kernel) (by decide +kernel)
theorem k_63 : (Jvm.Cond.laysFinal "CoinBag$Bag" "CoinBag$Bag" "names" "[J") ∈ gW := gW_of 63 (by decide +kernel) (by decide +kernel)
theorem k_65 : (Jvm.Cond.laysFinal "CoinBag$Bag" "CoinBag$Bag" "amounts" "[J") ∈ gW := gW_of 65 (by decide +kernel) (by decide +kernel)
theorem k_67 : (Jvm.Cond.lays "CoinBag$Bag" "CoinBag$Bag" "count" "I") ∈ gW := gW_of 67 (by decide +kernel) (by decide +kernel)
theorem k_70 : (Jvm.Cond.arrayClass Jvm.ClassFile.FieldType.int) ∈ gW := gW_of 70 (by decide +kernel) (by decide +kernel)
theorem k_71 : (Jvm.Cond.arrayClass Jvm.ClassFile.FieldType.long) ∈ gW := gW_of 71 (by decide +kernel) (by decide +kernel)
theorem k_72 : (Jvm.Cond.classLink "CoinBag" (16 : Nat) "CoinBag$Pairs") ∈ gW := gW_of 72 (by decide +kernel) (by decide +kernel)
theorem k_73 : (Jvm.Cond.instantiable "CoinBag$Pairs" (5 : Nat)) ∈ gW := gW_of 73 (by decide +kernel) (by decide +kernel)
theorem k_75 : (Jvm.Cond.instanceMethod y_Prs_init) ∈ gW := gW_of 75 (by decide +kernel) (by decide +kernel)
theorem k_76 : (Jvm.Cond.code y_Prs_init b_Prs_init (1 : Nat) (Option.none : Option Jvm.ClassFile.FieldType)) ∈ gW := gW_of 76 (by decide +kernel) (by decide +kernel)
theorem k_77 : (Jvm.Cond.methodLink "CoinBag$Pairs" (3 : Nat) ⟨"java/lang/Object", "<init>", "()V"⟩) ∈ gW := gW_of 77 (by decide +kernel) (by decide +kernel)
theorem k_78 : (Jvm.Cond.fieldLink "CoinBag$Pairs" (11 : Nat) "CoinBag$Pairs" "policies" "[I") ∈ gW := gW_of 78 (by decide +kernel) (by decide +kernel)
theorem k_79 : (Jvm.Cond.fieldLink "CoinBag" (139 : Nat) "CoinBag$Pairs" "policies" "[I") ∈ gW := gW_of 79 (by decide +kernel) (by decide +kernel)
theorem k_80 : (Jvm.Cond.fieldLink "CoinBag$Pairs" (15 : Nat) "CoinBag$Pairs" "names" "[J") ∈ gW := gW_of 80 (by decide +kernel) (by decide +kernel)
theorem k_81 : (Jvm.Cond.fieldLink "CoinBag" (140 : Nat) "CoinBag$Pairs" "names" "[J") ∈ gW := gW_of 81 (by decide +kernel) (by decide +kernel)
theorem k_82 : (Jvm.Cond.fieldLink "CoinBag$Pairs" (19 : Nat) "CoinBag$Pairs" "left" "[J") ∈ gW := gW_of 82 (by decide +kernel) (by decide +kernel)
theorem k_83 : (Jvm.Cond.fieldLink "CoinBag" (91 : Nat) "CoinBag$Pairs" "left" "[J") ∈ gW := gW_of 83 (by decide +kernel) (by decide +kernel)
theorem k_84 : (Jvm.Cond.fieldLink "CoinBag$Pairs" (22 : Nat) "CoinBag$Pairs" "right" "[J") ∈ gW := gW_of 84 (by decide +kernel) (by decide +kernel)
theorem k_85 : (Jvm.Cond.fieldLink "CoinBag" (94 : Nat) "CoinBag$Pairs" "right" "[J") ∈ gW := gW_of 85 (by decide +kernel) (by decide +kernel)
theorem k_86 : (Jvm.Cond.fieldLink "CoinBag$Pairs" (25 : Nat) "CoinBag$Pairs" "count" "I") ∈ gW := gW_of 86 (by decide +kernel) (by decide +kernel)
theorem k_87 : (Jvm.Cond.fieldLink "CoinBag" (90 : Nat) "CoinBag$Pairs" "count" "I") ∈ gW := gW_of 87 (by decide +kernel) (by decide +kernel)
theorem k_88 : (Jvm.Cond.laysFinal "CoinBag$Pairs" "CoinBag$Pairs" "policies" "[I") ∈ gW := gW_of 88 (by decide +kernel) (by decide +kernel)
theorem k_90 : (Jvm.Cond.laysFinal "CoinBag$Pairs" "CoinBag$Pairs" "names" "[J") ∈ gW := gW_of 90 (by decide +kernel) (by decide +kernel)
theorem k_92 : (Jvm.Cond.laysFinal "CoinBag$Pairs" "CoinBag$Pairs" "left" "[J") ∈ gW := gW_of 92 (by decide +kernel) (by decide +kernel)
theorem k_94 : (Jvm.Cond.laysFinal "CoinBag$Pairs" "CoinBag$Pairs" "right" "[J") ∈ gW := gW_of 94 (by decide +kernel) (by decide +kernel)
theorem k_96 : (Jvm.Cond.lays "CoinBag$Pairs" "CoinBag$Pairs" "count" "I") ∈ gW := gW_of 96 (by decide +kernel) (by decide +kernel)
theorem k_99 : (Jvm.Cond.fieldLink "CoinBag" (11 : Nat) "CoinBag" "bags" "[LCoinBag$Bag;") ∈ gW := gW_of 99 (by decide +kernel) (by decide +kernel)
theorem k_100 : (Jvm.Cond.fieldLink "CoinBag" (19 : Nat) "CoinBag" "pairs" "LCoinBag$Pairs;") ∈ gW := gW_of 100 (by decide +kernel) (by decide +kernel)
theorem k_101 : (Jvm.Cond.fieldLink "CoinBag" (23 : Nat) "CoinBag" "spare" "LCoinBag$Bag;") ∈ gW := gW_of 101 (by decide +kernel) (by decide +kernel)
theorem k_102 : (Jvm.Cond.laysFinal "CoinBag" "CoinBag" "bags" "[LCoinBag$Bag;") ∈ gW := gW_of 102 (by decide +kernel) (by decide +kernel)
theorem k_104 : (Jvm.Cond.laysFinal "CoinBag" "CoinBag" "pairs" "LCoinBag$Pairs;") ∈ gW := gW_of 104 (by decide +kernel) (by decide +kernel)
theorem k_106 : (Jvm.Cond.lays "CoinBag" "CoinBag" "spare" "LCoinBag$Bag;") ∈ gW := gW_of 106 (by decide +kernel) (by decide +kernel)
theorem k_109 : (Jvm.Cond.methodLink "CoinBagLaw" (74 : Nat) y_Law_set) ∈ gW := gW_of 109 (by decide +kernel) (by decide +kernel)
theorem k_110 : (Jvm.Cond.static y_Law_set) ∈ gW := gW_of 110 (by decide +kernel) (by decide +kernel)
theorem k_111 : (Jvm.Cond.codeWith y_Law_set b_Law_set (9 : Nat) (Option.some Jvm.ClassFile.FieldType.int) [((0 : Nat), (21 : Nat), (24 : Nat), (13 : Nat)), ((0 : Nat), (21 : Nat), (28 : Nat), (15 : Nat))]) ∈ gW := gW_of 111 (by decide +kernel) (by decide +kernel)
theorem k_112 : (Jvm.Cond.classLink "CoinBagLaw" (13 : Nat) "java/lang/IndexOutOfBoundsException") ∈ gW := gW_of 112 (by decide +kernel) (by decide +kernel)
theorem k_113 : (Jvm.Cond.classLink "CoinBagLaw" (15 : Nat) "java/lang/IllegalArgumentException") ∈ gW := gW_of 113 (by decide +kernel) (by decide +kernel)
theorem k_114 : (Jvm.Cond.methodLink "CoinBagLaw" (7 : Nat) y_CB_set) ∈ gW := gW_of 114 (by decide +kernel) (by decide +kernel)
theorem k_115 : (Jvm.Cond.instanceMethod y_CB_set) ∈ gW := gW_of 115 (by decide +kernel) (by decide +kernel)
theorem k_116 : (Jvm.Cond.selects "CoinBag" y_CB_set y_CB_set) ∈ gW := gW_of 116 (by decide +kernel) (by decide +kernel)
theorem k_117 : (Jvm.Cond.code y_CB_set b_CB_set (7 : Nat) (Option.some Jvm.ClassFile.FieldType.boolean)) ∈ gW := gW_of 117 (by decide +kernel) (by decide +kernel)
theorem k_118 : (Jvm.Cond.methodLink "CoinBag" (27 : Nat) y_CB_requireBag) ∈ gW := gW_of 118 (by decide +kernel) (by decide +kernel)
theorem k_119 : (Jvm.Cond.static y_CB_requireBag) ∈ gW := gW_of 119 (by decide +kernel) (by decide +kernel)
theorem k_120 : (Jvm.Cond.code y_CB_requireBag b_CB_requireBag (1 : Nat) (Option.none : Option Jvm.ClassFile.FieldType)) ∈ gW := gW_of 120 (by decide +kernel) (by decide +kernel)
theorem k_121 : (Jvm.Cond.classLink "CoinBag" (77 : Nat) "java/lang/IndexOutOfBoundsException") ∈ gW := gW_of 121 (by decide +kernel) (by decide +kernel)
theorem k_122 : (Jvm.Cond.instantiable "java/lang/IndexOutOfBoundsException" (6 : Nat)) ∈ gW := gW_of 122 (by decide +kernel) (by decide +kernel)
theorem k_162 : (Jvm.Cond.methodLink "CoinBag" (81 : Nat) ⟨"java/lang/IndexOutOfBoundsException", "<init>", "(Ljava/lang/String;)V"⟩) ∈ gW := gW_of 162 (by decide +kernel) (by decide +kernel)
theorem k_163 : (Jvm.Cond.instanceMethod ⟨"java/lang/IndexOutOfBoundsException", "<init>", "(Ljava/lang/String;)V"⟩) ∈ gW := gW_of 163 (by decide +kernel) (by decide +kernel)
theorem k_164 : (Jvm.Cond.code ⟨"java/lang/IndexOutOfBoundsException", "<init>", "(Ljava/lang/String;)V"⟩ prog_8_method_2_code (2 : Nat) (Option.none : Option Jvm.ClassFile.FieldType)) ∈ gW := gW_of 164 (by decide +kernel) (by decide +kernel)
theorem k_187 : (Jvm.Cond.arrayClass Jvm.ClassFile.FieldType.byte) ∈ gW := gW_of 187 (by decide +kernel) (by decide +kernel)
theorem k_188 : (Jvm.Cond.methodLink "CoinBag" (31 : Nat) y_CB_requirePolicy) ∈ gW := gW_of 188 (by decide +kernel) (by decide +kernel)
theorem k_189 : (Jvm.Cond.static y_CB_requirePolicy) ∈ gW := gW_of 189 (by decide +kernel) (by decide +kernel)
theorem k_190 : (Jvm.Cond.code y_CB_requirePolicy b_CB_requirePolicy (1 : Nat) (Option.none : Option Jvm.ClassFile.FieldType)) ∈ gW := gW_of 190 (by decide +kernel) (by decide +kernel)
theorem k_191 : (Jvm.Cond.constant "CoinBag" (130 : Nat) (65536 : Int32)) ∈ gW := gW_of 191 (by decide +kernel) (by decide +kernel)
theorem k_192 : (Jvm.Cond.classLink "CoinBag" (131 : Nat) "java/lang/IllegalArgumentException") ∈ gW := gW_of 192 (by decide +kernel) (by decide +kernel)
theorem k_193 : (Jvm.Cond.instantiable "java/lang/IllegalArgumentException" (6 : Nat)) ∈ gW := gW_of 193 (by decide +kernel) (by decide +kernel)
theorem k_202 : (Jvm.Cond.methodLink "CoinBag" (135 : Nat) ⟨"java/lang/IllegalArgumentException", "<init>", "(Ljava/lang/String;)V"⟩) ∈ gW := gW_of 202 (by decide +kernel) (by decide +kernel)
theorem k_203 : (Jvm.Cond.instanceMethod ⟨"java/lang/IllegalArgumentException", "<init>", "(Ljava/lang/String;)V"⟩) ∈ gW := gW_of 203 (by decide +kernel) (by decide +kernel)
theorem k_204 : (Jvm.Cond.code ⟨"java/lang/IllegalArgumentException", "<init>", "(Ljava/lang/String;)V"⟩ prog_7_method_2_code (2 : Nat) (Option.none : Option Jvm.ClassFile.FieldType)) ∈ gW := gW_of 204 (by decide +kernel) (by decide +kernel)
theorem k_208 : (Jvm.Cond.methodLink "CoinBag" (34 : Nat) y_Bag_store) ∈ gW := gW_of 208 (by decide +kernel) (by decide +kernel)
theorem k_209 : (Jvm.Cond.instanceMethod y_Bag_store) ∈ gW := gW_of 209 (by decide +kernel) (by decide +kernel)
theorem k_210 : (Jvm.Cond.selects "CoinBag$Bag" y_Bag_store y_Bag_store) ∈ gW := gW_of 210 (by decide +kernel) (by decide +kernel)
theorem k_211 : (Jvm.Cond.code y_Bag_store b_Bag_store (8 : Nat) (Option.some Jvm.ClassFile.FieldType.boolean)) ∈ gW := gW_of 211 (by decide +kernel) (by decide +kernel)
theorem k_212 : (Jvm.Cond.methodLink "CoinBag$Bag" (26 : Nat) y_Bag_placeFor) ∈ gW := gW_of 212 (by decide +kernel) (by decide +kernel)
theorem k_214 : (Jvm.Cond.instanceMethod y_Bag_placeFor) ∈ gW := gW_of 214 (by decide +kernel) (by decide +kernel)
theorem k_215 : (Jvm.Cond.code y_Bag_placeFor b_Bag_placeFor (5 : Nat) (Option.some Jvm.ClassFile.FieldType.int)) ∈ gW := gW_of 215 (by decide +kernel) (by decide +kernel)
theorem k_217 : (Jvm.Cond.static y_CB_orderOf) ∈ gW := gW_of 217 (by decide +kernel) (by decide +kernel)
theorem k_218 : (Jvm.Cond.code y_CB_orderOf b_CB_orderOf (6 : Nat) (Option.some Jvm.ClassFile.FieldType.int)) ∈ gW := gW_of 218 (by decide +kernel) (by decide +kernel)
theorem k_219 : (Jvm.Cond.methodLink "CoinBag" (150 : Nat) y_JI_compare) ∈ gW := gW_of 219 (by decide +kernel) (by decide +kernel)
theorem k_220 : (Jvm.Cond.static y_JI_compare) ∈ gW := gW_of 220 (by decide +kernel) (by decide +kernel)
theorem k_221 : (Jvm.Cond.code y_JI_compare b_JI_compare (2 : Nat) (Option.some Jvm.ClassFile.FieldType.int)) ∈ gW := gW_of 221 (by decide +kernel) (by decide +kernel)
theorem k_222 : (Jvm.Cond.methodLink "CoinBag" (156 : Nat) y_JL_compareUnsigned) ∈ gW := gW_of 222 (by decide +kernel) (by decide +kernel)
theorem k_223 : (Jvm.Cond.static y_JL_compareUnsigned) ∈ gW := gW_of 223 (by decide +kernel) (by decide +kernel)
theorem k_224 : (Jvm.Cond.code y_JL_compareUnsigned b_JL_compareUnsigned (4 : Nat) (Option.some Jvm.ClassFile.FieldType.int)) ∈ gW := gW_of 224 (by decide +kernel) (by decide +kernel)
theorem k_225 : (Jvm.Cond.constantLong "java/lang/Long" (168 : Nat) (-9223372036854775808 : Int64)) ∈ gW := gW_of 225 (by decide +kernel) (by decide +kernel)
theorem k_226 : (Jvm.Cond.methodLink "java/lang/Long" (302 : Nat) y_JL_compare) ∈ gW := gW_of 226 (by decide +kernel) (by decide +kernel)
theorem k_227 : (Jvm.Cond.static y_JL_compare) ∈ gW := gW_of 227 (by decide +kernel) (by decide +kernel)
theorem k_228 : (Jvm.Cond.code y_JL_compare b_JL_compare (4 : Nat) (Option.some Jvm.ClassFile.FieldType.int)) ∈ gW := gW_of 228 (by decide +kernel) (by decide +kernel)
theorem k_229 : (Jvm.Cond.methodLink "CoinBag$Bag" (30 : Nat) y_Bag_holdsAt) ∈ gW := gW_of 229 (by decide +kernel) (by decide +kernel)
theorem k_231 : (Jvm.Cond.instanceMethod y_Bag_holdsAt) ∈ gW := gW_of 231 (by decide +kernel) (by decide +kernel)
theorem k_232 : (Jvm.Cond.code y_Bag_holdsAt b_Bag_holdsAt (5 : Nat) (Option.some Jvm.ClassFile.FieldType.boolean)) ∈ gW := gW_of 232 (by decide +kernel) (by decide +kernel)
theorem k_233 : (Jvm.Cond.methodLink "CoinBag$Bag" (34 : Nat) y_Bag_removeAt) ∈ gW := gW_of 233 (by decide +kernel) (by decide +kernel)
theorem k_235 : (Jvm.Cond.instanceMethod y_Bag_removeAt) ∈ gW := gW_of 235 (by decide +kernel) (by decide +kernel)
theorem k_236 : (Jvm.Cond.code y_Bag_removeAt b_Bag_removeAt (3 : Nat) (Option.none : Option Jvm.ClassFile.FieldType)) ∈ gW := gW_of 236 (by decide +kernel) (by decide +kernel)
theorem k_237 : (Jvm.Cond.methodLink "CoinBag$Bag" (45 : Nat) ⟨"java/lang/System", "arraycopy", "(Ljava/lang/Object;ILjava/lang/Object;II)V"⟩) ∈ gW := gW_of 237 (by decide +kernel) (by decide +kernel)
theorem k_238 : (Jvm.Cond.static ⟨"java/lang/System", "arraycopy", "(Ljava/lang/Object;ILjava/lang/Object;II)V"⟩) ∈ gW := gW_of 238 (by decide +kernel) (by decide +kernel)
theorem k_239 : (Jvm.Cond.native ⟨"java/lang/System", "arraycopy", "(Ljava/lang/Object;ILjava/lang/Object;II)V"⟩) ∈ gW := gW_of 239 (by decide +kernel) (by decide +kernel)
theorem k_240 : (Jvm.Cond.methodLink "CoinBag$Bag" (38 : Nat) y_Bag_makeRoomAt) ∈ gW := gW_of 240 (by decide +kernel) (by decide +kernel)
theorem k_242 : (Jvm.Cond.instanceMethod y_Bag_makeRoomAt) ∈ gW := gW_of 242 (by decide +kernel) (by decide +kernel)
theorem k_243 : (Jvm.Cond.code y_Bag_makeRoomAt b_Bag_makeRoomAt (3 : Nat) (Option.none : Option Jvm.ClassFile.FieldType)) ∈ gW := gW_of 243 (by decide +kernel) (by decide +kernel)
theorem k_244 : (Jvm.Cond.methodLink "CoinBagLaw" (84 : Nat) y_Law_put) ∈ gW := gW_of 244 (by decide +kernel) (by decide +kernel)
theorem k_245 : (Jvm.Cond.static y_Law_put) ∈ gW := gW_of 245 (by decide +kernel) (by decide +kernel)
theorem k_246 : (Jvm.Cond.codeWith y_Law_put b_Law_put (9 : Nat) (Option.some Jvm.ClassFile.FieldType.int) [((0 : Nat), (21 : Nat), (24 : Nat), (13 : Nat)), ((0 : Nat), (21 : Nat), (28 : Nat), (15 : Nat))]) ∈ gW := gW_of 246 (by decide +kernel) (by decide +kernel)
theorem k_247 : (Jvm.Cond.methodLink "CoinBagLaw" (17 : Nat) y_CB_put) ∈ gW := gW_of 247 (by decide +kernel) (by decide +kernel)
theorem k_248 : (Jvm.Cond.instanceMethod y_CB_put) ∈ gW := gW_of 248 (by decide +kernel) (by decide +kernel)
theorem k_249 : (Jvm.Cond.selects "CoinBag" y_CB_put y_CB_put) ∈ gW := gW_of 249 (by decide +kernel) (by decide +kernel)
theorem k_250 : (Jvm.Cond.code y_CB_put b_CB_put (9 : Nat) (Option.some Jvm.ClassFile.FieldType.boolean)) ∈ gW := gW_of 250 (by decide +kernel) (by decide +kernel)
theorem k_251 : (Jvm.Cond.methodLink "CoinBag" (38 : Nat) y_Bag_amountOf) ∈ gW := gW_of 251 (by decide +kernel) (by decide +kernel)
theorem k_252 : (Jvm.Cond.instanceMethod y_Bag_amountOf) ∈ gW := gW_of 252 (by decide +kernel) (by decide +kernel)
theorem k_253 : (Jvm.Cond.selects "CoinBag$Bag" y_Bag_amountOf y_Bag_amountOf) ∈ gW := gW_of 253 (by decide +kernel) (by decide +kernel)
theorem k_254 : (Jvm.Cond.code y_Bag_amountOf b_Bag_amountOf (5 : Nat) (Option.some Jvm.ClassFile.FieldType.long)) ∈ gW := gW_of 254 (by decide +kernel) (by decide +kernel)
theorem k_255 : (Jvm.Cond.methodLink "CoinBag" (42 : Nat) y_CB_sumFits) ∈ gW := gW_of 255 (by decide +kernel) (by decide +kernel)
theorem k_256 : (Jvm.Cond.static y_CB_sumFits) ∈ gW := gW_of 256 (by decide +kernel) (by decide +kernel)
theorem k_257 : (Jvm.Cond.code y_CB_sumFits b_CB_sumFits (4 : Nat) (Option.some Jvm.ClassFile.FieldType.boolean)) ∈ gW := gW_of 257 (by decide +kernel) (by decide +kernel)
theorem k_258 : (Jvm.Cond.constantLong "CoinBag" (99 : Nat) (9223372036854775807 : Int64)) ∈ gW := gW_of 258 (by decide +kernel) (by decide +kernel)
theorem k_259 : (Jvm.Cond.constantLong "CoinBag" (148 : Nat) (-9223372036854775808 : Int64)) ∈ gW := gW_of 259 (by decide +kernel) (by decide +kernel)
theorem k_260 : (Jvm.Cond.methodLink "CoinBagLaw" (87 : Nat) y_Law_sum) ∈ gW := gW_of 260 (by decide +kernel) (by decide +kernel)
theorem k_261 : (Jvm.Cond.static y_Law_sum) ∈ gW := gW_of 261 (by decide +kernel) (by decide +kernel)
theorem k_262 : (Jvm.Cond.codeWith y_Law_sum b_Law_sum (6 : Nat) (Option.some Jvm.ClassFile.FieldType.int) [((0 : Nat), (19 : Nat), (22 : Nat), (13 : Nat))]) ∈ gW := gW_of 262 (by decide +kernel) (by decide +kernel)
theorem k_263 : (Jvm.Cond.methodLink "CoinBagLaw" (20 : Nat) y_CB_sum) ∈ gW := gW_of 263 (by decide +kernel) (by decide +kernel)
theorem k_264 : (Jvm.Cond.instanceMethod y_CB_sum) ∈ gW := gW_of 264 (by decide +kernel) (by decide +kernel)
theorem k_265 : (Jvm.Cond.selects "CoinBag" y_CB_sum y_CB_sum) ∈ gW := gW_of 265 (by decide +kernel) (by decide +kernel)
theorem k_266 : (Jvm.Cond.code y_CB_sum b_CB_sum (4 : Nat) (Option.some Jvm.ClassFile.FieldType.boolean)) ∈ gW := gW_of 266 (by decide +kernel) (by decide +kernel)
theorem k_267 : (Jvm.Cond.methodLink "CoinBag" (46 : Nat) y_CB_combine) ∈ gW := gW_of 267 (by decide +kernel) (by decide +kernel)
theorem k_269 : (Jvm.Cond.instanceMethod y_CB_combine) ∈ gW := gW_of 269 (by decide +kernel) (by decide +kernel)
theorem k_270 : (Jvm.Cond.code y_CB_combine b_CB_combine (10 : Nat) (Option.some Jvm.ClassFile.FieldType.boolean)) ∈ gW := gW_of 270 (by decide +kernel) (by decide +kernel)
theorem k_271 : (Jvm.Cond.methodLink "CoinBag" (86 : Nat) y_Prs_align) ∈ gW := gW_of 271 (by decide +kernel) (by decide +kernel)
theorem k_272 : (Jvm.Cond.instanceMethod y_Prs_align) ∈ gW := gW_of 272 (by decide +kernel) (by decide +kernel)
theorem k_273 : (Jvm.Cond.selects "CoinBag$Pairs" y_Prs_align y_Prs_align) ∈ gW := gW_of 273 (by decide +kernel) (by decide +kernel)
theorem k_274 : (Jvm.Cond.code y_Prs_align b_Prs_align (8 : Nat) (Option.none : Option Jvm.ClassFile.FieldType)) ∈ gW := gW_of 274 (by decide +kernel) (by decide +kernel)
theorem k_275 : (Jvm.Cond.methodLink "CoinBag$Pairs" (32 : Nat) y_Prs_orderOfNext) ∈ gW := gW_of 275 (by decide +kernel) (by decide +kernel)
theorem k_276 : (Jvm.Cond.static y_Prs_orderOfNext) ∈ gW := gW_of 276 (by decide +kernel) (by decide +kernel)
theorem k_277 : (Jvm.Cond.code y_Prs_orderOfNext b_Prs_orderOfNext (4 : Nat) (Option.some Jvm.ClassFile.FieldType.int)) ∈ gW := gW_of 277 (by decide +kernel) (by decide +kernel)
theorem k_279 : (Jvm.Cond.methodLink "CoinBag" (50 : Nat) y_Bag_empty) ∈ gW := gW_of 279 (by decide +kernel) (by decide +kernel)
theorem k_280 : (Jvm.Cond.instanceMethod y_Bag_empty) ∈ gW := gW_of 280 (by decide +kernel) (by decide +kernel)
theorem k_281 : (Jvm.Cond.selects "CoinBag$Bag" y_Bag_empty y_Bag_empty) ∈ gW := gW_of 281 (by decide +kernel) (by decide +kernel)
theorem k_282 : (Jvm.Cond.code y_Bag_empty b_Bag_empty (1 : Nat) (Option.none : Option Jvm.ClassFile.FieldType)) ∈ gW := gW_of 282 (by decide +kernel) (by decide +kernel)
theorem k_283 : (Jvm.Cond.methodLink "CoinBag" (136 : Nat) y_CB_fits) ∈ gW := gW_of 283 (by decide +kernel) (by decide +kernel)
theorem k_284 : (Jvm.Cond.static y_CB_fits) ∈ gW := gW_of 284 (by decide +kernel) (by decide +kernel)
theorem k_285 : (Jvm.Cond.code y_CB_fits b_CB_fits (5 : Nat) (Option.some Jvm.ClassFile.FieldType.boolean)) ∈ gW := gW_of 285 (by decide +kernel) (by decide +kernel)
theorem k_286 : (Jvm.Cond.methodLink "CoinBag" (145 : Nat) y_CB_differenceFits) ∈ gW := gW_of 286 (by decide +kernel) (by decide +kernel)
theorem k_287 : (Jvm.Cond.static y_CB_differenceFits) ∈ gW := gW_of 287 (by decide +kernel) (by decide +kernel)
theorem k_288 : (Jvm.Cond.code y_CB_differenceFits b_CB_differenceFits (4 : Nat) (Option.some Jvm.ClassFile.FieldType.boolean)) ∈ gW := gW_of 288 (by decide +kernel) (by decide +kernel)
theorem k_289 : (Jvm.Cond.methodLink "CoinBag" (141 : Nat) y_CB_combined) ∈ gW := gW_of 289 (by decide +kernel) (by decide +kernel)
theorem k_290 : (Jvm.Cond.static y_CB_combined) ∈ gW := gW_of 290 (by decide +kernel) (by decide +kernel)
theorem k_291 : (Jvm.Cond.code y_CB_combined b_CB_combined (5 : Nat) (Option.some Jvm.ClassFile.FieldType.long)) ∈ gW := gW_of 291 (by decide +kernel) (by decide +kernel)
theorem k_292 : (Jvm.Cond.methodLink "CoinBag" (107 : Nat) y_JM_min) ∈ gW := gW_of 292 (by decide +kernel) (by decide +kernel)
theorem k_293 : (Jvm.Cond.static y_JM_min) ∈ gW := gW_of 293 (by decide +kernel) (by decide +kernel)
theorem k_294 : (Jvm.Cond.code y_JM_min b_JM_min (4 : Nat) (Option.some Jvm.ClassFile.FieldType.long)) ∈ gW := gW_of 294 (by decide +kernel) (by decide +kernel)
theorem k_295 : (Jvm.Cond.methodLink "CoinBag" (71 : Nat) y_Bag_append) ∈ gW := gW_of 295 (by decide +kernel) (by decide +kernel)
theorem k_296 : (Jvm.Cond.instanceMethod y_Bag_append) ∈ gW := gW_of 296 (by decide +kernel) (by decide +kernel)
theorem k_297 : (Jvm.Cond.selects "CoinBag$Bag" y_Bag_append y_Bag_append) ∈ gW := gW_of 297 (by decide +kernel) (by decide +kernel)
theorem k_298 : (Jvm.Cond.code y_Bag_append b_Bag_append (6 : Nat) (Option.some Jvm.ClassFile.FieldType.boolean)) ∈ gW := gW_of 298 (by decide +kernel) (by decide +kernel)
theorem k_299 : (Jvm.Cond.methodLink "CoinBag" (74 : Nat) y_CB_exchangeSpare) ∈ gW := gW_of 299 (by decide +kernel) (by decide +kernel)
theorem k_301 : (Jvm.Cond.instanceMethod y_CB_exchangeSpare) ∈ gW := gW_of 301 (by decide +kernel) (by decide +kernel)
theorem k_302 : (Jvm.Cond.code y_CB_exchangeSpare b_CB_exchangeSpare (3 : Nat) (Option.none : Option Jvm.ClassFile.FieldType)) ∈ gW := gW_of 302 (by decide +kernel) (by decide +kernel)
theorem k_303 : (Jvm.Cond.methodLink "CoinBagLaw" (91 : Nat) y_Law_less) ∈ gW := gW_of 303 (by decide +kernel) (by decide +kernel)
theorem k_304 : (Jvm.Cond.static y_Law_less) ∈ gW := gW_of 304 (by decide +kernel) (by decide +kernel)
theorem k_305 : (Jvm.Cond.codeWith y_Law_less b_Law_less (6 : Nat) (Option.some Jvm.ClassFile.FieldType.int) [((0 : Nat), (19 : Nat), (22 : Nat), (13 : Nat))]) ∈ gW := gW_of 305 (by decide +kernel) (by decide +kernel)
theorem k_306 : (Jvm.Cond.methodLink "CoinBagLaw" (24 : Nat) y_CB_less) ∈ gW := gW_of 306 (by decide +kernel) (by decide +kernel)
theorem k_307 : (Jvm.Cond.instanceMethod y_CB_less) ∈ gW := gW_of 307 (by decide +kernel) (by decide +kernel)
theorem k_308 : (Jvm.Cond.selects "CoinBag" y_CB_less y_CB_less) ∈ gW := gW_of 308 (by decide +kernel) (by decide +kernel)
theorem k_309 : (Jvm.Cond.code y_CB_less b_CB_less (4 : Nat) (Option.some Jvm.ClassFile.FieldType.boolean)) ∈ gW := gW_of 309 (by decide +kernel) (by decide +kernel)
theorem k_310 : (Jvm.Cond.methodLink "CoinBagLaw" (94 : Nat) y_Law_times) ∈ gW := gW_of 310 (by decide +kernel) (by decide +kernel)
theorem k_311 : (Jvm.Cond.static y_Law_times) ∈ gW := gW_of 311 (by decide +kernel) (by decide +kernel)
theorem k_312 : (Jvm.Cond.codeWith y_Law_times b_Law_times (7 : Nat) (Option.some Jvm.ClassFile.FieldType.int) [((0 : Nat), (20 : Nat), (23 : Nat), (13 : Nat))]) ∈ gW := gW_of 312 (by decide +kernel) (by decide +kernel)
theorem k_313 : (Jvm.Cond.methodLink "CoinBagLaw" (27 : Nat) y_CB_times) ∈ gW := gW_of 313 (by decide +kernel) (by decide +kernel)
theorem k_314 : (Jvm.Cond.instanceMethod y_CB_times) ∈ gW := gW_of 314 (by decide +kernel) (by decide +kernel)
theorem k_315 : (Jvm.Cond.selects "CoinBag" y_CB_times y_CB_times) ∈ gW := gW_of 315 (by decide +kernel) (by decide +kernel)
theorem k_316 : (Jvm.Cond.code y_CB_times b_CB_times (7 : Nat) (Option.some Jvm.ClassFile.FieldType.boolean)) ∈ gW := gW_of 316 (by decide +kernel) (by decide +kernel)
theorem k_317 : (Jvm.Cond.methodLink "CoinBag" (61 : Nat) y_CB_productFits) ∈ gW := gW_of 317 (by decide +kernel) (by decide +kernel)
theorem k_318 : (Jvm.Cond.static y_CB_productFits) ∈ gW := gW_of 318 (by decide +kernel) (by decide +kernel)
theorem k_319 : (Jvm.Cond.code y_CB_productFits b_CB_productFits (4 : Nat) (Option.some Jvm.ClassFile.FieldType.boolean)) ∈ gW := gW_of 319 (by decide +kernel) (by decide +kernel)
theorem k_320 : (Jvm.Cond.constantLong "CoinBag" (113 : Nat) (-1 : Int64)) ∈ gW := gW_of 320 (by decide +kernel) (by decide +kernel)
theorem k_321 : (Jvm.Cond.methodLink "CoinBagLaw" (98 : Nat) y_Law_only) ∈ gW := gW_of 321 (by decide +kernel) (by decide +kernel)
theorem k_322 : (Jvm.Cond.static y_Law_only) ∈ gW := gW_of 322 (by decide +kernel) (by decide +kernel)
theorem k_323 : (Jvm.Cond.codeWith y_Law_only b_Law_only (6 : Nat) (Option.some Jvm.ClassFile.FieldType.int) [((0 : Nat), (9 : Nat), (12 : Nat), (13 : Nat)), ((0 : Nat), (9 : Nat), (16 : Nat), (15 : Nat))]) ∈ gW := gW_of 323 (by decide +kernel) (by decide +kernel)
theorem k_324 : (Jvm.Cond.methodLink "CoinBagLaw" (31 : Nat) y_CB_only) ∈ gW := gW_of 324 (by decide +kernel) (by decide +kernel)
theorem k_325 : (Jvm.Cond.instanceMethod y_CB_only) ∈ gW := gW_of 325 (by decide +kernel) (by decide +kernel)
theorem k_326 : (Jvm.Cond.selects "CoinBag" y_CB_only y_CB_only) ∈ gW := gW_of 326 (by decide +kernel) (by decide +kernel)
theorem k_327 : (Jvm.Cond.code y_CB_only b_CB_only (7 : Nat) (Option.none : Option Jvm.ClassFile.FieldType)) ∈ gW := gW_of 327 (by decide +kernel) (by decide +kernel)
theorem k_328 : (Jvm.Cond.methodLink "CoinBagLaw" (102 : Nat) y_Law_part) ∈ gW := gW_of 328 (by decide +kernel) (by decide +kernel)
theorem k_329 : (Jvm.Cond.static y_Law_part) ∈ gW := gW_of 329 (by decide +kernel) (by decide +kernel)
theorem k_330 : (Jvm.Cond.codeWith y_Law_part b_Law_part (6 : Nat) (Option.some Jvm.ClassFile.FieldType.int) [((0 : Nat), (19 : Nat), (22 : Nat), (13 : Nat))]) ∈ gW := gW_of 330 (by decide +kernel) (by decide +kernel)
theorem k_331 : (Jvm.Cond.methodLink "CoinBagLaw" (35 : Nat) y_CB_part) ∈ gW := gW_of 331 (by decide +kernel) (by decide +kernel)
theorem k_332 : (Jvm.Cond.instanceMethod y_CB_part) ∈ gW := gW_of 332 (by decide +kernel) (by decide +kernel)
theorem k_333 : (Jvm.Cond.selects "CoinBag" y_CB_part y_CB_part) ∈ gW := gW_of 333 (by decide +kernel) (by decide +kernel)
theorem k_334 : (Jvm.Cond.code y_CB_part b_CB_part (8 : Nat) (Option.some Jvm.ClassFile.FieldType.boolean)) ∈ gW := gW_of 334 (by decide +kernel) (by decide +kernel)
theorem k_335 : (Jvm.Cond.methodLink "CoinBagLaw" (105 : Nat) y_Law_clear) ∈ gW := gW_of 335 (by decide +kernel) (by decide +kernel)
theorem k_336 : (Jvm.Cond.static y_Law_clear) ∈ gW := gW_of 336 (by decide +kernel) (by decide +kernel)
theorem k_337 : (Jvm.Cond.codeWith y_Law_clear b_Law_clear (3 : Nat) (Option.some Jvm.ClassFile.FieldType.int) [((0 : Nat), (5 : Nat), (8 : Nat), (13 : Nat))]) ∈ gW := gW_of 337 (by decide +kernel) (by decide +kernel)
theorem k_338 : (Jvm.Cond.methodLink "CoinBagLaw" (38 : Nat) y_CB_clear) ∈ gW := gW_of 338 (by decide +kernel) (by decide +kernel)
theorem k_339 : (Jvm.Cond.instanceMethod y_CB_clear) ∈ gW := gW_of 339 (by decide +kernel) (by decide +kernel)
theorem k_340 : (Jvm.Cond.selects "CoinBag" y_CB_clear y_CB_clear) ∈ gW := gW_of 340 (by decide +kernel) (by decide +kernel)
theorem k_341 : (Jvm.Cond.code y_CB_clear b_CB_clear (2 : Nat) (Option.none : Option Jvm.ClassFile.FieldType)) ∈ gW := gW_of 341 (by decide +kernel) (by decide +kernel)
theorem k_342 : (Jvm.Cond.methodLink "CoinBagLaw" (109 : Nat) y_Law_amount) ∈ gW := gW_of 342 (by decide +kernel) (by decide +kernel)
theorem k_343 : (Jvm.Cond.static y_Law_amount) ∈ gW := gW_of 343 (by decide +kernel) (by decide +kernel)
theorem k_344 : (Jvm.Cond.codeWith y_Law_amount b_Law_amount (7 : Nat) (Option.some Jvm.ClassFile.FieldType.int) [((0 : Nat), (11 : Nat), (14 : Nat), (13 : Nat)), ((0 : Nat), (11 : Nat), (18 : Nat), (15 : Nat))]) ∈ gW := gW_of 344 (by decide +kernel) (by decide +kernel)
theorem k_345 : (Jvm.Cond.methodLink "CoinBagLaw" (42 : Nat) y_CB_amount) ∈ gW := gW_of 345 (by decide +kernel) (by decide +kernel)
theorem k_346 : (Jvm.Cond.instanceMethod y_CB_amount) ∈ gW := gW_of 346 (by decide +kernel) (by decide +kernel)
theorem k_347 : (Jvm.Cond.selects "CoinBag" y_CB_amount y_CB_amount) ∈ gW := gW_of 347 (by decide +kernel) (by decide +kernel)
theorem k_348 : (Jvm.Cond.code y_CB_amount b_CB_amount (5 : Nat) (Option.some Jvm.ClassFile.FieldType.long)) ∈ gW := gW_of 348 (by decide +kernel) (by decide +kernel)
theorem k_349 : (Jvm.Cond.methodLink "CoinBagLaw" (113 : Nat) y_Law_size) ∈ gW := gW_of 349 (by decide +kernel) (by decide +kernel)
theorem k_350 : (Jvm.Cond.static y_Law_size) ∈ gW := gW_of 350 (by decide +kernel) (by decide +kernel)
theorem k_351 : (Jvm.Cond.codeWith y_Law_size b_Law_size (4 : Nat) (Option.some Jvm.ClassFile.FieldType.int) [((0 : Nat), (9 : Nat), (12 : Nat), (13 : Nat))]) ∈ gW := gW_of 351 (by decide +kernel) (by decide +kernel)
theorem k_352 : (Jvm.Cond.methodLink "CoinBagLaw" (46 : Nat) y_CB_size) ∈ gW := gW_of 352 (by decide +kernel) (by decide +kernel)
theorem k_353 : (Jvm.Cond.instanceMethod y_CB_size) ∈ gW := gW_of 353 (by decide +kernel) (by decide +kernel)
theorem k_354 : (Jvm.Cond.selects "CoinBag" y_CB_size y_CB_size) ∈ gW := gW_of 354 (by decide +kernel) (by decide +kernel)
theorem k_355 : (Jvm.Cond.code y_CB_size b_CB_size (2 : Nat) (Option.some Jvm.ClassFile.FieldType.int)) ∈ gW := gW_of 355 (by decide +kernel) (by decide +kernel)
theorem k_356 : (Jvm.Cond.methodLink "CoinBagLaw" (117 : Nat) y_Law_at) ∈ gW := gW_of 356 (by decide +kernel) (by decide +kernel)
theorem k_357 : (Jvm.Cond.static y_Law_at) ∈ gW := gW_of 357 (by decide +kernel) (by decide +kernel)
theorem k_358 : (Jvm.Cond.codeWith y_Law_at b_Law_at (6 : Nat) (Option.some Jvm.ClassFile.FieldType.int) [((0 : Nat), (11 : Nat), (14 : Nat), (13 : Nat))]) ∈ gW := gW_of 358 (by decide +kernel) (by decide +kernel)
theorem k_359 : (Jvm.Cond.methodLink "CoinBagLaw" (50 : Nat) y_CB_at) ∈ gW := gW_of 359 (by decide +kernel) (by decide +kernel)
theorem k_360 : (Jvm.Cond.instanceMethod y_CB_at) ∈ gW := gW_of 360 (by decide +kernel) (by decide +kernel)
theorem k_361 : (Jvm.Cond.selects "CoinBag" y_CB_at y_CB_at) ∈ gW := gW_of 361 (by decide +kernel) (by decide +kernel)
theorem k_362 : (Jvm.Cond.code y_CB_at b_CB_at (5 : Nat) (Option.some Jvm.ClassFile.FieldType.long)) ∈ gW := gW_of 362 (by decide +kernel) (by decide +kernel)
theorem k_365 : (Jvm.Cond.methodLink "CoinBagLaw" (120 : Nat) y_Law_compare) ∈ gW := gW_of 365 (by decide +kernel) (by decide +kernel)
theorem k_366 : (Jvm.Cond.static y_Law_compare) ∈ gW := gW_of 366 (by decide +kernel) (by decide +kernel)
theorem k_367 : (Jvm.Cond.codeWith y_Law_compare b_Law_compare (5 : Nat) (Option.some Jvm.ClassFile.FieldType.int) [((0 : Nat), (10 : Nat), (13 : Nat), (13 : Nat))]) ∈ gW := gW_of 367 (by decide +kernel) (by decide +kernel)
theorem k_368 : (Jvm.Cond.methodLink "CoinBagLaw" (54 : Nat) y_CB_compare) ∈ gW := gW_of 368 (by decide +kernel) (by decide +kernel)
theorem k_369 : (Jvm.Cond.instanceMethod y_CB_compare) ∈ gW := gW_of 369 (by decide +kernel) (by decide +kernel)
theorem k_370 : (Jvm.Cond.selects "CoinBag" y_CB_compare y_CB_compare) ∈ gW := gW_of 370 (by decide +kernel) (by decide +kernel)
theorem k_371 : (Jvm.Cond.code y_CB_compare b_CB_compare (6 : Nat) (Option.some Jvm.ClassFile.FieldType.int)) ∈ gW := gW_of 371 (by decide +kernel) (by decide +kernel)
theorem k_372 : (Jvm.Cond.methodLink "CoinBagLaw" (124 : Nat) y_Law_least) ∈ gW := gW_of 372 (by decide +kernel) (by decide +kernel)
theorem k_373 : (Jvm.Cond.static y_Law_least) ∈ gW := gW_of 373 (by decide +kernel) (by decide +kernel)
theorem k_374 : (Jvm.Cond.codeWith y_Law_least b_Law_least (6 : Nat) (Option.some Jvm.ClassFile.FieldType.int) [((0 : Nat), (19 : Nat), (22 : Nat), (13 : Nat))]) ∈ gW := gW_of 374 (by decide +kernel) (by decide +kernel)
theorem k_375 : (Jvm.Cond.methodLink "CoinBagLaw" (58 : Nat) y_CB_least) ∈ gW := gW_of 375 (by decide +kernel) (by decide +kernel)
theorem k_376 : (Jvm.Cond.instanceMethod y_CB_least) ∈ gW := gW_of 376 (by decide +kernel) (by decide +kernel)
theorem k_377 : (Jvm.Cond.selects "CoinBag" y_CB_least y_CB_least) ∈ gW := gW_of 377 (by decide +kernel) (by decide +kernel)
theorem k_378 : (Jvm.Cond.code y_CB_least b_CB_least (4 : Nat) (Option.some Jvm.ClassFile.FieldType.boolean)) ∈ gW := gW_of 378 (by decide +kernel) (by decide +kernel)
theorem k_379 : (Jvm.Cond.methodLink "CoinBagLaw" (127 : Nat) y_Law_into) ∈ gW := gW_of 379 (by decide +kernel) (by decide +kernel)
theorem k_380 : (Jvm.Cond.static y_Law_into) ∈ gW := gW_of 380 (by decide +kernel) (by decide +kernel)
theorem k_381 : (Jvm.Cond.codeWith y_Law_into b_Law_into (5 : Nat) (Option.some Jvm.ClassFile.FieldType.int) [((0 : Nat), (9 : Nat), (12 : Nat), (13 : Nat))]) ∈ gW := gW_of 381 (by decide +kernel) (by decide +kernel)
theorem k_382 : (Jvm.Cond.methodLink "CoinBagLaw" (61 : Nat) y_CB_into) ∈ gW := gW_of 382 (by decide +kernel) (by decide +kernel)
theorem k_383 : (Jvm.Cond.instanceMethod y_CB_into) ∈ gW := gW_of 383 (by decide +kernel) (by decide +kernel)
theorem k_384 : (Jvm.Cond.selects "CoinBag" y_CB_into y_CB_into) ∈ gW := gW_of 384 (by decide +kernel) (by decide +kernel)
theorem k_385 : (Jvm.Cond.code y_CB_into b_CB_into (15 : Nat) (Option.some Jvm.ClassFile.FieldType.long)) ∈ gW := gW_of 385 (by decide +kernel) (by decide +kernel)
theorem k_386 : (Jvm.Cond.methodLink "CoinBag" (101 : Nat) y_JM_floorDiv) ∈ gW := gW_of 386 (by decide +kernel) (by decide +kernel)
theorem k_387 : (Jvm.Cond.static y_JM_floorDiv) ∈ gW := gW_of 387 (by decide +kernel) (by decide +kernel)
theorem k_388 : (Jvm.Cond.code y_JM_floorDiv b_JM_floorDiv (6 : Nat) (Option.some Jvm.ClassFile.FieldType.long)) ∈ gW := gW_of 388 (by decide +kernel) (by decide +kernel)
theorem k_389 : (Jvm.Cond.methodLink "CoinBag" (110 : Nat) y_CB_fewestTimes) ∈ gW := gW_of 389 (by decide +kernel) (by decide +kernel)
theorem k_390 : (Jvm.Cond.static y_CB_fewestTimes) ∈ gW := gW_of 390 (by decide +kernel) (by decide +kernel)
theorem k_391 : (Jvm.Cond.code y_CB_fewestTimes b_CB_fewestTimes (6 : Nat) (Option.some Jvm.ClassFile.FieldType.long)) ∈ gW := gW_of 391 (by decide +kernel) (by decide +kernel)
theorem k_392 : (Jvm.Cond.methodLink "CoinBag" (115 : Nat) y_JM_max) ∈ gW := gW_of 392 (by decide +kernel) (by decide +kernel)
theorem k_393 : (Jvm.Cond.static y_JM_max) ∈ gW := gW_of 393 (by decide +kernel) (by decide +kernel)
theorem k_394 : (Jvm.Cond.code y_JM_max b_JM_max (4 : Nat) (Option.some Jvm.ClassFile.FieldType.long)) ∈ gW := gW_of 394 (by decide +kernel) (by decide +kernel)
theorem k_395 : (Jvm.Cond.methodLink "CoinBagLaw" (130 : Nat) y_Law_look) ∈ gW := gW_of 395 (by decide +kernel) (by decide +kernel)
theorem k_396 : (Jvm.Cond.static y_Law_look) ∈ gW := gW_of 396 (by decide +kernel) (by decide +kernel)
theorem k_397 : (Jvm.Cond.codeWith y_Law_look b_Law_look (5 : Nat) (Option.some Jvm.ClassFile.FieldType.int) [((0 : Nat), (10 : Nat), (13 : Nat), (13 : Nat))]) ∈ gW := gW_of 397 (by decide +kernel) (by decide +kernel)
theorem k_398 : (Jvm.Cond.methodLink "CoinBagLaw" (65 : Nat) y_CB_look) ∈ gW := gW_of 398 (by decide +kernel) (by decide +kernel)
theorem k_399 : (Jvm.Cond.instanceMethod y_CB_look) ∈ gW := gW_of 399 (by decide +kernel) (by decide +kernel)
theorem k_400 : (Jvm.Cond.selects "CoinBag" y_CB_look y_CB_look) ∈ gW := gW_of 400 (by decide +kernel) (by decide +kernel)
theorem k_401 : (Jvm.Cond.code y_CB_look b_CB_look (3 : Nat) (Option.some Jvm.ClassFile.FieldType.int)) ∈ gW := gW_of 401 (by decide +kernel) (by decide +kernel)
theorem k_402 : (Jvm.Cond.methodLink "CoinBag" (118 : Nat) y_Bag_countPolicies) ∈ gW := gW_of 402 (by decide +kernel) (by decide +kernel)
theorem k_403 : (Jvm.Cond.instanceMethod y_Bag_countPolicies) ∈ gW := gW_of 403 (by decide +kernel) (by decide +kernel)
theorem k_404 : (Jvm.Cond.selects "CoinBag$Bag" y_Bag_countPolicies y_Bag_countPolicies) ∈ gW := gW_of 404 (by decide +kernel) (by decide +kernel)
theorem k_405 : (Jvm.Cond.code y_Bag_countPolicies b_Bag_countPolicies (3 : Nat) (Option.some Jvm.ClassFile.FieldType.int)) ∈ gW := gW_of 405 (by decide +kernel) (by decide +kernel)
theorem k_406 : (Jvm.Cond.methodLink "CoinBag" (122 : Nat) y_Bag_countBelowZero) ∈ gW := gW_of 406 (by decide +kernel) (by decide +kernel)
theorem k_407 : (Jvm.Cond.instanceMethod y_Bag_countBelowZero) ∈ gW := gW_of 407 (by decide +kernel) (by decide +kernel)
theorem k_408 : (Jvm.Cond.selects "CoinBag$Bag" y_Bag_countBelowZero y_Bag_countBelowZero) ∈ gW := gW_of 408 (by decide +kernel) (by decide +kernel)
theorem k_409 : (Jvm.Cond.code y_Bag_countBelowZero b_Bag_countBelowZero (3 : Nat) (Option.some Jvm.ClassFile.FieldType.int)) ∈ gW := gW_of 409 (by decide +kernel) (by decide +kernel)
theorem k_410 : (Jvm.Cond.methodLink "CoinBag" (125 : Nat) y_Bag_placeOfGreatest) ∈ gW := gW_of 410 (by decide +kernel) (by decide +kernel)
theorem k_411 : (Jvm.Cond.instanceMethod y_Bag_placeOfGreatest) ∈ gW := gW_of 411 (by decide +kernel) (by decide +kernel)
theorem k_412 : (Jvm.Cond.selects "CoinBag$Bag" y_Bag_placeOfGreatest y_Bag_placeOfGreatest) ∈ gW := gW_of 412 (by decide +kernel) (by decide +kernel)
theorem k_413 : (Jvm.Cond.code y_Bag_placeOfGreatest b_Bag_placeOfGreatest (3 : Nat) (Option.some Jvm.ClassFile.FieldType.int)) ∈ gW := gW_of 413 (by decide +kernel) (by decide +kernel)
theorem k_414 : (Jvm.Cond.classLink "CoinBagLaw" (69 : Nat) "CoinBagModel") ∈ gW := gW_of 414 (by decide +kernel) (by decide +kernel)
theorem k_415 : (Jvm.Cond.instantiable "CoinBagModel" (10 : Nat)) ∈ gW := gW_of 415 (by decide +kernel) (by decide +kernel)
theorem k_416 : (Jvm.Cond.methodLink "CoinBagLaw" (71 : Nat) y_Mod_init) ∈ gW := gW_of 416 (by decide +kernel) (by decide +kernel)
theorem k_417 : (Jvm.Cond.instanceMethod y_Mod_init) ∈ gW := gW_of 417 (by decide +kernel) (by decide +kernel)
theorem k_418 : (Jvm.Cond.code y_Mod_init b_Mod_init (1 : Nat) (Option.none : Option Jvm.ClassFile.FieldType)) ∈ gW := gW_of 418 (by decide +kernel) (by decide +kernel)
theorem k_419 : (Jvm.Cond.methodLink "CoinBagModel" (1 : Nat) ⟨"java/lang/Object", "<init>", "()V"⟩) ∈ gW := gW_of 419 (by decide +kernel) (by decide +kernel)
theorem k_420 : (Jvm.Cond.fieldLink "CoinBagModel" (32 : Nat) "CoinBagModel" "thrown" "I") ∈ gW := gW_of 420 (by decide +kernel) (by decide +kernel)
theorem k_421 : (Jvm.Cond.fieldLink "CoinBagModel" (7 : Nat) "CoinBagModel" "many" "[I") ∈ gW := gW_of 421 (by decide +kernel) (by decide +kernel)
theorem k_422 : (Jvm.Cond.fieldLink "CoinBagModel" (13 : Nat) "CoinBagModel" "policies" "[I") ∈ gW := gW_of 422 (by decide +kernel) (by decide +kernel)
theorem k_423 : (Jvm.Cond.fieldLink "CoinBagModel" (16 : Nat) "CoinBagModel" "names" "[J") ∈ gW := gW_of 423 (by decide +kernel) (by decide +kernel)
theorem k_424 : (Jvm.Cond.fieldLink "CoinBagModel" (20 : Nat) "CoinBagModel" "amounts" "[J") ∈ gW := gW_of 424 (by decide +kernel) (by decide +kernel)
theorem k_425 : (Jvm.Cond.fieldLink "CoinBagModel" (49 : Nat) "CoinBagModel" "rowMany" "I") ∈ gW := gW_of 425 (by decide +kernel) (by decide +kernel)
theorem k_426 : (Jvm.Cond.fieldLink "CoinBagModel" (23 : Nat) "CoinBagModel" "rowPolicies" "[I") ∈ gW := gW_of 426 (by decide +kernel) (by decide +kernel)
theorem k_427 : (Jvm.Cond.fieldLink "CoinBagModel" (26 : Nat) "CoinBagModel" "rowNames" "[J") ∈ gW := gW_of 427 (by decide +kernel) (by decide +kernel)
theorem k_428 : (Jvm.Cond.fieldLink "CoinBagModel" (29 : Nat) "CoinBagModel" "rowAmounts" "[J") ∈ gW := gW_of 428 (by decide +kernel) (by decide +kernel)
theorem k_429 : (Jvm.Cond.fieldLink "CoinBagModel" (52 : Nat) "CoinBagModel" "bad" "Z") ∈ gW := gW_of 429 (by decide +kernel) (by decide +kernel)
theorem k_430 : (Jvm.Cond.lays "CoinBagModel" "CoinBagModel" "thrown" "I") ∈ gW := gW_of 430 (by decide +kernel) (by decide +kernel)
theorem k_432 : (Jvm.Cond.laysFinal "CoinBagModel" "CoinBagModel" "many" "[I") ∈ gW := gW_of 432 (by decide +kernel) (by decide +kernel)
theorem k_434 : (Jvm.Cond.laysFinal "CoinBagModel" "CoinBagModel" "policies" "[I") ∈ gW := gW_of 434 (by decide +kernel) (by decide +kernel)
theorem k_436 : (Jvm.Cond.laysFinal "CoinBagModel" "CoinBagModel" "names" "[J") ∈ gW := gW_of 436 (by decide +kernel) (by decide +kernel)
theorem k_438 : (Jvm.Cond.laysFinal "CoinBagModel" "CoinBagModel" "amounts" "[J") ∈ gW := gW_of 438 (by decide +kernel) (by decide +kernel)
theorem k_440 : (Jvm.Cond.lays "CoinBagModel" "CoinBagModel" "rowMany" "I") ∈ gW := gW_of 440 (by decide +kernel) (by decide +kernel)
theorem k_442 : (Jvm.Cond.laysFinal "CoinBagModel" "CoinBagModel" "rowPolicies" "[I") ∈ gW := gW_of 442 (by decide +kernel) (by decide +kernel)
theorem k_444 : (Jvm.Cond.laysFinal "CoinBagModel" "CoinBagModel" "rowNames" "[J") ∈ gW := gW_of 444 (by decide +kernel) (by decide +kernel)
theorem k_446 : (Jvm.Cond.laysFinal "CoinBagModel" "CoinBagModel" "rowAmounts" "[J") ∈ gW := gW_of 446 (by decide +kernel) (by decide +kernel)
theorem k_448 : (Jvm.Cond.lays "CoinBagModel" "CoinBagModel" "bad" "Z") ∈ gW := gW_of 448 (by decide +kernel) (by decide +kernel)
theorem k_451 : (Jvm.Cond.methodLink "CoinBagLaw" (80 : Nat) y_Mod_thrown) ∈ gW := gW_of 451 (by decide +kernel) (by decide +kernel)
theorem k_452 : (Jvm.Cond.instanceMethod y_Mod_thrown) ∈ gW := gW_of 452 (by decide +kernel) (by decide +kernel)
theorem k_453 : (Jvm.Cond.selects "CoinBagModel" y_Mod_thrown y_Mod_thrown) ∈ gW := gW_of 453 (by decide +kernel) (by decide +kernel)
theorem k_454 : (Jvm.Cond.code y_Mod_thrown b_Mod_thrown (1 : Nat) (Option.some Jvm.ClassFile.FieldType.int)) ∈ gW := gW_of 454 (by decide +kernel) (by decide +kernel)
theorem k_455 : (Jvm.Cond.methodLink "CoinBagLaw" (79 : Nat) y_Mod_set) ∈ gW := gW_of 455 (by decide +kernel) (by decide +kernel)
theorem k_456 : (Jvm.Cond.instanceMethod y_Mod_set) ∈ gW := gW_of 456 (by decide +kernel) (by decide +kernel)
theorem k_457 : (Jvm.Cond.selects "CoinBagModel" y_Mod_set y_Mod_set) ∈ gW := gW_of 457 (by decide +kernel) (by decide +kernel)
theorem k_458 : (Jvm.Cond.code y_Mod_set b_Mod_set (7 : Nat) (Option.some Jvm.ClassFile.FieldType.boolean)) ∈ gW := gW_of 458 (by decide +kernel) (by decide +kernel)
theorem k_459 : (Jvm.Cond.methodLink "CoinBagModel" (85 : Nat) y_Mod_wrong) ∈ gW := gW_of 459 (by decide +kernel) (by decide +kernel)
theorem k_461 : (Jvm.Cond.instanceMethod y_Mod_wrong) ∈ gW := gW_of 461 (by decide +kernel) (by decide +kernel)
theorem k_462 : (Jvm.Cond.code y_Mod_wrong b_Mod_wrong (5 : Nat) (Option.some Jvm.ClassFile.FieldType.int)) ∈ gW := gW_of 462 (by decide +kernel) (by decide +kernel)
theorem k_463 : (Jvm.Cond.methodLink "CoinBagModel" (78 : Nat) y_Mod_isBag) ∈ gW := gW_of 463 (by decide +kernel) (by decide +kernel)
theorem k_464 : (Jvm.Cond.static y_Mod_isBag) ∈ gW := gW_of 464 (by decide +kernel) (by decide +kernel)
theorem k_465 : (Jvm.Cond.code y_Mod_isBag b_Mod_isBag (1 : Nat) (Option.some Jvm.ClassFile.FieldType.boolean)) ∈ gW := gW_of 465 (by decide +kernel) (by decide +kernel)
theorem k_466 : (Jvm.Cond.methodLink "CoinBagModel" (82 : Nat) y_Mod_isPolicy) ∈ gW := gW_of 466 (by decide +kernel) (by decide +kernel)
theorem k_467 : (Jvm.Cond.static y_Mod_isPolicy) ∈ gW := gW_of 467 (by decide +kernel) (by decide +kernel)
theorem k_468 : (Jvm.Cond.code y_Mod_isPolicy b_Mod_isPolicy (1 : Nat) (Option.some Jvm.ClassFile.FieldType.boolean)) ∈ gW := gW_of 468 (by decide +kernel) (by decide +kernel)
theorem k_469 : (Jvm.Cond.constant "CoinBagModel" (36 : Nat) (65536 : Int32)) ∈ gW := gW_of 469 (by decide +kernel) (by decide +kernel)
theorem k_470 : (Jvm.Cond.methodLink "CoinBagModel" (89 : Nat) y_Mod_store) ∈ gW := gW_of 470 (by decide +kernel) (by decide +kernel)
theorem k_472 : (Jvm.Cond.instanceMethod y_Mod_store) ∈ gW := gW_of 472 (by decide +kernel) (by decide +kernel)
theorem k_473 : (Jvm.Cond.code y_Mod_store b_Mod_store (10 : Nat) (Option.some Jvm.ClassFile.FieldType.boolean)) ∈ gW := gW_of 473 (by decide +kernel) (by decide +kernel)
theorem k_474 : (Jvm.Cond.methodLink "CoinBagModel" (37 : Nat) y_Mod_find) ∈ gW := gW_of 474 (by decide +kernel) (by decide +kernel)
theorem k_476 : (Jvm.Cond.instanceMethod y_Mod_find) ∈ gW := gW_of 476 (by decide +kernel) (by decide +kernel)
theorem k_477 : (Jvm.Cond.code y_Mod_find b_Mod_find (6 : Nat) (Option.some Jvm.ClassFile.FieldType.int)) ∈ gW := gW_of 477 (by decide +kernel) (by decide +kernel)
theorem k_478 : (Jvm.Cond.methodLink "CoinBagLaw" (86 : Nat) y_Mod_put) ∈ gW := gW_of 478 (by decide +kernel) (by decide +kernel)
theorem k_479 : (Jvm.Cond.instanceMethod y_Mod_put) ∈ gW := gW_of 479 (by decide +kernel) (by decide +kernel)
theorem k_480 : (Jvm.Cond.selects "CoinBagModel" y_Mod_put y_Mod_put) ∈ gW := gW_of 480 (by decide +kernel) (by decide +kernel)
theorem k_481 : (Jvm.Cond.code y_Mod_put b_Mod_put (9 : Nat) (Option.some Jvm.ClassFile.FieldType.boolean)) ∈ gW := gW_of 481 (by decide +kernel) (by decide +kernel)
theorem k_482 : (Jvm.Cond.methodLink "CoinBagModel" (63 : Nat) y_Mod_valueOf) ∈ gW := gW_of 482 (by decide +kernel) (by decide +kernel)
theorem k_484 : (Jvm.Cond.instanceMethod y_Mod_valueOf) ∈ gW := gW_of 484 (by decide +kernel) (by decide +kernel)
theorem k_485 : (Jvm.Cond.code y_Mod_valueOf b_Mod_valueOf (6 : Nat) (Option.some Jvm.ClassFile.FieldType.long)) ∈ gW := gW_of 485 (by decide +kernel) (by decide +kernel)
theorem k_486 : (Jvm.Cond.methodLink "CoinBagModel" (67 : Nat) y_Mod_added) ∈ gW := gW_of 486 (by decide +kernel) (by decide +kernel)
theorem k_488 : (Jvm.Cond.instanceMethod y_Mod_added) ∈ gW := gW_of 488 (by decide +kernel) (by decide +kernel)
theorem k_489 : (Jvm.Cond.code y_Mod_added b_Mod_added (5 : Nat) (Option.some Jvm.ClassFile.FieldType.long)) ∈ gW := gW_of 489 (by decide +kernel) (by decide +kernel)
theorem k_490 : (Jvm.Cond.constantLong "CoinBagModel" (56 : Nat) (9223372036854775807 : Int64)) ∈ gW := gW_of 490 (by decide +kernel) (by decide +kernel)
theorem k_491 : (Jvm.Cond.constantLong "CoinBagModel" (43 : Nat) (-9223372036854775808 : Int64)) ∈ gW := gW_of 491 (by decide +kernel) (by decide +kernel)
theorem k_492 : (Jvm.Cond.methodLink "CoinBagLaw" (90 : Nat) y_Mod_sum) ∈ gW := gW_of 492 (by decide +kernel) (by decide +kernel)
theorem k_493 : (Jvm.Cond.instanceMethod y_Mod_sum) ∈ gW := gW_of 493 (by decide +kernel) (by decide +kernel)
theorem k_494 : (Jvm.Cond.selects "CoinBagModel" y_Mod_sum y_Mod_sum) ∈ gW := gW_of 494 (by decide +kernel) (by decide +kernel)
theorem k_495 : (Jvm.Cond.code y_Mod_sum b_Mod_sum (4 : Nat) (Option.some Jvm.ClassFile.FieldType.boolean)) ∈ gW := gW_of 495 (by decide +kernel) (by decide +kernel)
theorem k_496 : (Jvm.Cond.methodLink "CoinBagModel" (93 : Nat) y_Mod_both) ∈ gW := gW_of 496 (by decide +kernel) (by decide +kernel)
theorem k_498 : (Jvm.Cond.instanceMethod y_Mod_both) ∈ gW := gW_of 498 (by decide +kernel) (by decide +kernel)
theorem k_499 : (Jvm.Cond.code y_Mod_both b_Mod_both (14 : Nat) (Option.none : Option Jvm.ClassFile.FieldType)) ∈ gW := gW_of 499 (by decide +kernel) (by decide +kernel)
theorem k_500 : (Jvm.Cond.methodLink "CoinBagModel" (60 : Nat) y_Mod_begin) ∈ gW := gW_of 500 (by decide +kernel) (by decide +kernel)
theorem k_502 : (Jvm.Cond.instanceMethod y_Mod_begin) ∈ gW := gW_of 502 (by decide +kernel) (by decide +kernel)
theorem k_503 : (Jvm.Cond.code y_Mod_begin b_Mod_begin (1 : Nat) (Option.none : Option Jvm.ClassFile.FieldType)) ∈ gW := gW_of 503 (by decide +kernel) (by decide +kernel)
theorem k_504 : (Jvm.Cond.methodLink "CoinBagModel" (71 : Nat) y_Mod_subtracted) ∈ gW := gW_of 504 (by decide +kernel) (by decide +kernel)
theorem k_506 : (Jvm.Cond.instanceMethod y_Mod_subtracted) ∈ gW := gW_of 506 (by decide +kernel) (by decide +kernel)
theorem k_507 : (Jvm.Cond.code y_Mod_subtracted b_Mod_subtracted (5 : Nat) (Option.some Jvm.ClassFile.FieldType.long)) ∈ gW := gW_of 507 (by decide +kernel) (by decide +kernel)
theorem k_508 : (Jvm.Cond.methodLink "CoinBagModel" (74 : Nat) y_Mod_lay) ∈ gW := gW_of 508 (by decide +kernel) (by decide +kernel)
theorem k_510 : (Jvm.Cond.instanceMethod y_Mod_lay) ∈ gW := gW_of 510 (by decide +kernel) (by decide +kernel)
theorem k_511 : (Jvm.Cond.code y_Mod_lay b_Mod_lay (6 : Nat) (Option.none : Option Jvm.ClassFile.FieldType)) ∈ gW := gW_of 511 (by decide +kernel) (by decide +kernel)
theorem k_512 : (Jvm.Cond.methodLink "CoinBagModel" (97 : Nat) y_Mod_becomes) ∈ gW := gW_of 512 (by decide +kernel) (by decide +kernel)
theorem k_514 : (Jvm.Cond.instanceMethod y_Mod_becomes) ∈ gW := gW_of 514 (by decide +kernel) (by decide +kernel)
theorem k_515 : (Jvm.Cond.code y_Mod_becomes b_Mod_becomes (3 : Nat) (Option.some Jvm.ClassFile.FieldType.boolean)) ∈ gW := gW_of 515 (by decide +kernel) (by decide +kernel)
theorem k_516 : (Jvm.Cond.methodLink "CoinBagLaw" (93 : Nat) y_Mod_less) ∈ gW := gW_of 516 (by decide +kernel) (by decide +kernel)
theorem k_517 : (Jvm.Cond.instanceMethod y_Mod_less) ∈ gW := gW_of 517 (by decide +kernel) (by decide +kernel)
theorem k_518 : (Jvm.Cond.selects "CoinBagModel" y_Mod_less y_Mod_less) ∈ gW := gW_of 518 (by decide +kernel) (by decide +kernel)
theorem k_519 : (Jvm.Cond.code y_Mod_less b_Mod_less (4 : Nat) (Option.some Jvm.ClassFile.FieldType.boolean)) ∈ gW := gW_of 519 (by decide +kernel) (by decide +kernel)
theorem k_520 : (Jvm.Cond.methodLink "CoinBagLaw" (97 : Nat) y_Mod_times) ∈ gW := gW_of 520 (by decide +kernel) (by decide +kernel)
theorem k_521 : (Jvm.Cond.instanceMethod y_Mod_times) ∈ gW := gW_of 521 (by decide +kernel) (by decide +kernel)
theorem k_522 : (Jvm.Cond.selects "CoinBagModel" y_Mod_times y_Mod_times) ∈ gW := gW_of 522 (by decide +kernel) (by decide +kernel)
theorem k_523 : (Jvm.Cond.code y_Mod_times b_Mod_times (6 : Nat) (Option.some Jvm.ClassFile.FieldType.boolean)) ∈ gW := gW_of 523 (by decide +kernel) (by decide +kernel)
theorem k_524 : (Jvm.Cond.methodLink "CoinBagModel" (100 : Nat) y_Mod_multiplied) ∈ gW := gW_of 524 (by decide +kernel) (by decide +kernel)
theorem k_526 : (Jvm.Cond.instanceMethod y_Mod_multiplied) ∈ gW := gW_of 526 (by decide +kernel) (by decide +kernel)
theorem k_527 : (Jvm.Cond.code y_Mod_multiplied b_Mod_multiplied (6 : Nat) (Option.some Jvm.ClassFile.FieldType.long)) ∈ gW := gW_of 527 (by decide +kernel) (by decide +kernel)
theorem k_528 : (Jvm.Cond.constantLong "CoinBagModel" (58 : Nat) (-1 : Int64)) ∈ gW := gW_of 528 (by decide +kernel) (by decide +kernel)
theorem k_529 : (Jvm.Cond.methodLink "CoinBagLaw" (101 : Nat) y_Mod_only) ∈ gW := gW_of 529 (by decide +kernel) (by decide +kernel)
theorem k_530 : (Jvm.Cond.instanceMethod y_Mod_only) ∈ gW := gW_of 530 (by decide +kernel) (by decide +kernel)
theorem k_531 : (Jvm.Cond.selects "CoinBagModel" y_Mod_only y_Mod_only) ∈ gW := gW_of 531 (by decide +kernel) (by decide +kernel)
theorem k_532 : (Jvm.Cond.code y_Mod_only b_Mod_only (6 : Nat) (Option.none : Option Jvm.ClassFile.FieldType)) ∈ gW := gW_of 532 (by decide +kernel) (by decide +kernel)
theorem k_533 : (Jvm.Cond.methodLink "CoinBagLaw" (104 : Nat) y_Mod_part) ∈ gW := gW_of 533 (by decide +kernel) (by decide +kernel)
theorem k_534 : (Jvm.Cond.instanceMethod y_Mod_part) ∈ gW := gW_of 534 (by decide +kernel) (by decide +kernel)
theorem k_535 : (Jvm.Cond.selects "CoinBagModel" y_Mod_part y_Mod_part) ∈ gW := gW_of 535 (by decide +kernel) (by decide +kernel)
theorem k_536 : (Jvm.Cond.code y_Mod_part b_Mod_part (5 : Nat) (Option.some Jvm.ClassFile.FieldType.boolean)) ∈ gW := gW_of 536 (by decide +kernel) (by decide +kernel)
theorem k_537 : (Jvm.Cond.methodLink "CoinBagLaw" (108 : Nat) y_Mod_clear) ∈ gW := gW_of 537 (by decide +kernel) (by decide +kernel)
theorem k_538 : (Jvm.Cond.instanceMethod y_Mod_clear) ∈ gW := gW_of 538 (by decide +kernel) (by decide +kernel)
theorem k_539 : (Jvm.Cond.selects "CoinBagModel" y_Mod_clear y_Mod_clear) ∈ gW := gW_of 539 (by decide +kernel) (by decide +kernel)
theorem k_540 : (Jvm.Cond.code y_Mod_clear b_Mod_clear (2 : Nat) (Option.none : Option Jvm.ClassFile.FieldType)) ∈ gW := gW_of 540 (by decide +kernel) (by decide +kernel)
theorem k_541 : (Jvm.Cond.methodLink "CoinBagLaw" (126 : Nat) y_Mod_least) ∈ gW := gW_of 541 (by decide +kernel) (by decide +kernel)
theorem k_542 : (Jvm.Cond.instanceMethod y_Mod_least) ∈ gW := gW_of 542 (by decide +kernel) (by decide +kernel)
theorem k_543 : (Jvm.Cond.selects "CoinBagModel" y_Mod_least y_Mod_least) ∈ gW := gW_of 543 (by decide +kernel) (by decide +kernel)
theorem k_544 : (Jvm.Cond.code y_Mod_least b_Mod_least (4 : Nat) (Option.some Jvm.ClassFile.FieldType.boolean)) ∈ gW := gW_of 544 (by decide +kernel) (by decide +kernel)
theorem k_545 : (Jvm.Cond.methodLink "CoinBagLaw" (112 : Nat) y_Mod_amount) ∈ gW := gW_of 545 (by decide +kernel) (by decide +kernel)
theorem k_546 : (Jvm.Cond.instanceMethod y_Mod_amount) ∈ gW := gW_of 546 (by decide +kernel) (by decide +kernel)
theorem k_547 : (Jvm.Cond.selects "CoinBagModel" y_Mod_amount y_Mod_amount) ∈ gW := gW_of 547 (by decide +kernel) (by decide +kernel)
theorem k_548 : (Jvm.Cond.code y_Mod_amount b_Mod_amount (5 : Nat) (Option.some Jvm.ClassFile.FieldType.long)) ∈ gW := gW_of 548 (by decide +kernel) (by decide +kernel)
theorem k_549 : (Jvm.Cond.methodLink "CoinBagLaw" (116 : Nat) y_Mod_size) ∈ gW := gW_of 549 (by decide +kernel) (by decide +kernel)
theorem k_550 : (Jvm.Cond.instanceMethod y_Mod_size) ∈ gW := gW_of 550 (by decide +kernel) (by decide +kernel)
theorem k_551 : (Jvm.Cond.selects "CoinBagModel" y_Mod_size y_Mod_size) ∈ gW := gW_of 551 (by decide +kernel) (by decide +kernel)
theorem k_552 : (Jvm.Cond.code y_Mod_size b_Mod_size (2 : Nat) (Option.some Jvm.ClassFile.FieldType.int)) ∈ gW := gW_of 552 (by decide +kernel) (by decide +kernel)
theorem k_553 : (Jvm.Cond.methodLink "CoinBagLaw" (119 : Nat) y_Mod_at) ∈ gW := gW_of 553 (by decide +kernel) (by decide +kernel)
theorem k_554 : (Jvm.Cond.instanceMethod y_Mod_at) ∈ gW := gW_of 554 (by decide +kernel) (by decide +kernel)
theorem k_555 : (Jvm.Cond.selects "CoinBagModel" y_Mod_at y_Mod_at) ∈ gW := gW_of 555 (by decide +kernel) (by decide +kernel)
theorem k_556 : (Jvm.Cond.code y_Mod_at b_Mod_at (5 : Nat) (Option.some Jvm.ClassFile.FieldType.long)) ∈ gW := gW_of 556 (by decide +kernel) (by decide +kernel)
theorem k_557 : (Jvm.Cond.methodLink "CoinBagModel" (103 : Nat) y_Mod_inOrder) ∈ gW := gW_of 557 (by decide +kernel) (by decide +kernel)
theorem k_559 : (Jvm.Cond.instanceMethod y_Mod_inOrder) ∈ gW := gW_of 559 (by decide +kernel) (by decide +kernel)
theorem k_560 : (Jvm.Cond.code y_Mod_inOrder b_Mod_inOrder (7 : Nat) (Option.some Jvm.ClassFile.FieldType.int)) ∈ gW := gW_of 560 (by decide +kernel) (by decide +kernel)
theorem k_561 : (Jvm.Cond.methodLink "CoinBagModel" (45 : Nat) y_Mod_isBefore) ∈ gW := gW_of 561 (by decide +kernel) (by decide +kernel)
theorem k_563 : (Jvm.Cond.instanceMethod y_Mod_isBefore) ∈ gW := gW_of 563 (by decide +kernel) (by decide +kernel)
theorem k_564 : (Jvm.Cond.code y_Mod_isBefore b_Mod_isBefore (6 : Nat) (Option.some Jvm.ClassFile.FieldType.boolean)) ∈ gW := gW_of 564 (by decide +kernel) (by decide +kernel)
theorem k_565 : (Jvm.Cond.methodLink "CoinBagLaw" (123 : Nat) y_Mod_compare) ∈ gW := gW_of 565 (by decide +kernel) (by decide +kernel)
theorem k_566 : (Jvm.Cond.instanceMethod y_Mod_compare) ∈ gW := gW_of 566 (by decide +kernel) (by decide +kernel)
theorem k_567 : (Jvm.Cond.selects "CoinBagModel" y_Mod_compare y_Mod_compare) ∈ gW := gW_of 567 (by decide +kernel) (by decide +kernel)
theorem k_568 : (Jvm.Cond.code y_Mod_compare b_Mod_compare (12 : Nat) (Option.some Jvm.ClassFile.FieldType.int)) ∈ gW := gW_of 568 (by decide +kernel) (by decide +kernel)
theorem k_569 : (Jvm.Cond.methodLink "CoinBagLaw" (129 : Nat) y_Mod_into) ∈ gW := gW_of 569 (by decide +kernel) (by decide +kernel)
theorem k_570 : (Jvm.Cond.instanceMethod y_Mod_into) ∈ gW := gW_of 570 (by decide +kernel) (by decide +kernel)
theorem k_571 : (Jvm.Cond.selects "CoinBagModel" y_Mod_into y_Mod_into) ∈ gW := gW_of 571 (by decide +kernel) (by decide +kernel)
theorem k_572 : (Jvm.Cond.code y_Mod_into b_Mod_into (18 : Nat) (Option.some Jvm.ClassFile.FieldType.long)) ∈ gW := gW_of 572 (by decide +kernel) (by decide +kernel)
theorem k_573 : (Jvm.Cond.methodLink "CoinBagLaw" (132 : Nat) y_Mod_look) ∈ gW := gW_of 573 (by decide +kernel) (by decide +kernel)
theorem k_574 : (Jvm.Cond.instanceMethod y_Mod_look) ∈ gW := gW_of 574 (by decide +kernel) (by decide +kernel)
theorem k_575 : (Jvm.Cond.selects "CoinBagModel" y_Mod_look y_Mod_look) ∈ gW := gW_of 575 (by decide +kernel) (by decide +kernel)
theorem k_576 : (Jvm.Cond.code y_Mod_look b_Mod_look (9 : Nat) (Option.some Jvm.ClassFile.FieldType.int)) ∈ gW := gW_of 576 (by decide +kernel) (by decide +kernel)
theorem k_577 : (Jvm.Cond.constantLong "CoinBagLaw" (72 : Nat) (4294967295 : Int64)) ∈ gW := gW_of 577 (by decide +kernel) (by decide +kernel)
end
section
theorem d_CB_init_0 : decode b_CB_init 0 = .ok (.aload_n 0, 1) := by decide +kernel
theorem d_CB_init_1 : decode b_CB_init 1 = .ok (.invokespecial 1, 3) := by decide +kernel
theorem d_CB_init_4 : decode b_CB_init 4 = .ok (.aload_n 0, 1) := by decide +kernel
theorem d_CB_init_5 : decode b_CB_init 5 = .ok (.bipush 8, 2) := by decide +kernel
theorem d_CB_init_7 : decode b_CB_init 7 = .ok (.anewarray 9, 3) := by decide +kernel
theorem d_CB_init_10 : decode b_CB_init 10 = .ok (.putfield 11, 3) := by decide +kernel
theorem d_CB_init_13 : decode b_CB_init 13 = .ok (.iconst 0, 1) := by decide +kernel
theorem d_CB_init_14 : decode b_CB_init 14 = .ok (.istore_n 1, 1) := by decide +kernel
theorem d_CB_init_15 : decode b_CB_init 15 = .ok (.iload_n 1, 1) := by decide +kernel
theorem d_CB_init_16 : decode b_CB_init 16 = .ok (.bipush 8, 2) := by decide +kernel
theorem d_CB_init_18 : decode b_CB_init 18 = .ok (.if_icmp .ge 22, 3) := by decide +kernel
theorem d_CB_init_21 : decode b_CB_init 21 = .ok (.aload_n 0, 1) := by decide +kernel
theorem d_CB_init_22 : decode b_CB_init 22 = .ok (.getfield 11, 3) := by decide +kernel
theorem d_CB_init_25 : decode b_CB_init 25 = .ok (.iload_n 1, 1) := by decide +kernel
theorem d_CB_init_26 : decode b_CB_init 26 = .ok (.new 9, 3) := by decide +kernel
theorem d_CB_init_29 : decode b_CB_init 29 = .ok (.dup, 1) := by decide +kernel
theorem d_CB_init_30 : decode b_CB_init 30 = .ok (.invokespecial 15, 3) := by decide +kernel
theorem d_CB_init_33 : decode b_CB_init 33 = .ok (.aastore, 1) := by decide +kernel
theorem d_CB_init_34 : decode b_CB_init 34 = .ok (.iinc 1 1, 3) := by decide +kernel
theorem d_CB_init_37 : decode b_CB_init 37 = .ok (.goto (-22), 3) := by decide +kernel
theorem d_CB_init_40 : decode b_CB_init 40 = .ok (.aload_n 0, 1) := by decide +kernel
theorem d_CB_init_41 : decode b_CB_init 41 = .ok (.new 16, 3) := by decide +kernel
theorem d_CB_init_44 : decode b_CB_init 44 = .ok (.dup, 1) := by decide +kernel
theorem d_CB_init_45 : decode b_CB_init 45 = .ok (.invokespecial 18, 3) := by decide +kernel
theorem d_CB_init_48 : decode b_CB_init 48 = .ok (.putfield 19, 3) := by decide +kernel
theorem d_CB_init_51 : decode b_CB_init 51 = .ok (.aload_n 0, 1) := by decide +kernel
theorem d_CB_init_52 : decode b_CB_init 52 = .ok (.new 9, 3) := by decide +kernel
theorem d_CB_init_55 : decode b_CB_init 55 = .ok (.dup, 1) := by decide +kernel
theorem d_CB_init_56 : decode b_CB_init 56 = .ok (.invokespecial 15, 3) := by decide +kernel
theorem d_CB_init_59 : decode b_CB_init 59 = .ok (.putfield 23, 3) := by decide +kernel
theorem d_CB_init_62 : decode b_CB_init 62 = .ok (.return_, 1) := by decide +kernel
theorem d_Bag_init_0 : decode b_Bag_init 0 = .ok (.aload_n 0, 1) := by decide +kernel
theorem d_Bag_init_1 : decode b_Bag_init 1 = .ok (.invokespecial 3, 3) := by decide +kernel
theorem d_Bag_init_4 : decode b_Bag_init 4 = .ok (.aload_n 0, 1) := by decide +kernel
theorem d_Bag_init_5 : decode b_Bag_init 5 = .ok (.bipush 64, 2) := by decide +kernel
theorem d_Bag_init_7 : decode b_Bag_init 7 = .ok (.newarray .int, 2) := by decide +kernel
theorem d_Bag_init_9 : decode b_Bag_init 9 = .ok (.putfield 9, 3) := by decide +kernel
theorem d_Bag_init_12 : decode b_Bag_init 12 = .ok (.aload_n 0, 1) := by decide +kernel
theorem d_Bag_init_13 : decode b_Bag_init 13 = .ok (.bipush 64, 2) := by decide +kernel
theorem d_Bag_init_15 : decode b_Bag_init 15 = .ok (.newarray .long, 2) := by decide +kernel
theorem d_Bag_init_17 : decode b_Bag_init 17 = .ok (.putfield 15, 3) := by decide +kernel
theorem d_Bag_init_20 : decode b_Bag_init 20 = .ok (.aload_n 0, 1) := by decide +kernel
theorem d_Bag_init_21 : decode b_Bag_init 21 = .ok (.bipush 64, 2) := by decide +kernel
theorem d_Bag_init_23 : decode b_Bag_init 23 = .ok (.newarray .long, 2) := by decide +kernel
theorem d_Bag_init_25 : decode b_Bag_init 25 = .ok (.putfield 19, 3) := by decide +kernel
theorem d_Bag_init_28 : decode b_Bag_init 28 = .ok (.aload_n 0, 1) := by decide +kernel
theorem d_Bag_init_29 : decode b_Bag_init 29 = .ok (.iconst 0, 1) := by decide +kernel
theorem d_Bag_init_30 : decode b_Bag_init 30 = .ok (.putfield 22, 3) := by decide +kernel
theorem d_Bag_init_33 : decode b_Bag_init 33 = .ok (.return_, 1) := by decide +kernel
theorem d_Prs_init_0 : decode b_Prs_init 0 = .ok (.aload_n 0, 1) := by decide +kernel
theorem d_Prs_init_1 : decode b_Prs_init 1 = .ok (.invokespecial 3, 3) := by decide +kernel
theorem d_Prs_init_4 : decode b_Prs_init 4 = .ok (.aload_n 0, 1) := by decide +kernel
theorem d_Prs_init_5 : decode b_Prs_init 5 = .ok (.sipush 128, 3) := by decide +kernel
theorem d_Prs_init_8 : decode b_Prs_init 8 = .ok (.newarray .int, 2) := by decide +kernel
theorem d_Prs_init_10 : decode b_Prs_init 10 = .ok (.putfield 11, 3) := by decide +kernel
theorem d_Prs_init_13 : decode b_Prs_init 13 = .ok (.aload_n 0, 1) := by decide +kernel
theorem d_Prs_init_14 : decode b_Prs_init 14 = .ok (.sipush 128, 3) := by decide +kernel
theorem d_Prs_init_17 : decode b_Prs_init 17 = .ok (.newarray .long, 2) := by decide +kernel
theorem d_Prs_init_19 : decode b_Prs_init 19 = .ok (.putfield 15, 3) := by decide +kernel
theorem d_Prs_init_22 : decode b_Prs_init 22 = .ok (.aload_n 0, 1) := by decide +kernel
theorem d_Prs_init_23 : decode b_Prs_init 23 = .ok (.sipush 128, 3) := by decide +kernel
theorem d_Prs_init_26 : decode b_Prs_init 26 = .ok (.newarray .long, 2) := by decide +kernel
theorem d_Prs_init_28 : decode b_Prs_init 28 = .ok (.putfield 19, 3) := by decide +kernel
theorem d_Prs_init_31 : decode b_Prs_init 31 = .ok (.aload_n 0, 1) := by decide +kernel
theorem d_Prs_init_32 : decode b_Prs_init 32 = .ok (.sipush 128, 3) := by decide +kernel
theorem d_Prs_init_35 : decode b_Prs_init 35 = .ok (.newarray .long, 2) := by decide +kernel
theorem d_Prs_init_37 : decode b_Prs_init 37 = .ok (.putfield 22, 3) := by decide +kernel
theorem d_Prs_init_40 : decode b_Prs_init 40 = .ok (.aload_n 0, 1) := by decide +kernel
theorem d_Prs_init_41 : decode b_Prs_init 41 = .ok (.iconst 0, 1) := by decide +kernel
theorem d_Prs_init_42 : decode b_Prs_init 42 = .ok (.putfield 25, 3) := by decide +kernel
theorem d_Prs_init_45 : decode b_Prs_init 45 = .ok (.return_, 1) := by decide +kernel
theorem d_Law_set_0 : decode b_Law_set 0 = .ok (.aload 7, 2) := by decide +kernel
theorem d_Law_set_2 : decode b_Law_set 2 = .ok (.iconst 0, 1) := by decide +kernel
theorem d_Law_set_3 : decode b_Law_set 3 = .ok (.aload_n 0, 1) := by decide +kernel
theorem d_Law_set_4 : decode b_Law_set 4 = .ok (.iload_n 1, 1) := by decide +kernel
theorem d_Law_set_5 : decode b_Law_set 5 = .ok (.iload_n 2, 1) := by decide +kernel
theorem d_Law_set_6 : decode b_Law_set 6 = .ok (.lload_n 3, 1) := by decide +kernel
theorem d_Law_set_7 : decode b_Law_set 7 = .ok (.lload 5, 2) := by decide +kernel
theorem d_Law_set_9 : decode b_Law_set 9 = .ok (.invokevirtual 7, 3) := by decide +kernel
theorem d_Law_set_12 : decode b_Law_set 12 = .ok (.ifCond .eq 7, 3) := by decide +kernel
theorem d_Law_set_15 : decode b_Law_set 15 = .ok (.lconst 1, 1) := by decide +kernel
theorem d_Law_set_16 : decode b_Law_set 16 = .ok (.goto 4, 3) := by decide +kernel
theorem d_Law_set_19 : decode b_Law_set 19 = .ok (.lconst 0, 1) := by decide +kernel
theorem d_Law_set_20 : decode b_Law_set 20 = .ok (.lastore, 1) := by decide +kernel
theorem d_Law_set_21 : decode b_Law_set 21 = .ok (.goto 11, 3) := by decide +kernel
theorem d_Law_set_24 : decode b_Law_set 24 = .ok (.astore 8, 2) := by decide +kernel
theorem d_Law_set_26 : decode b_Law_set 26 = .ok (.iconst 1, 1) := by decide +kernel
theorem d_Law_set_27 : decode b_Law_set 27 = .ok (.ireturn, 1) := by decide +kernel
theorem d_Law_set_28 : decode b_Law_set 28 = .ok (.astore 8, 2) := by decide +kernel
theorem d_Law_set_30 : decode b_Law_set 30 = .ok (.iconst 2, 1) := by decide +kernel
theorem d_Law_set_31 : decode b_Law_set 31 = .ok (.ireturn, 1) := by decide +kernel
theorem d_Law_set_32 : decode b_Law_set 32 = .ok (.iconst 0, 1) := by decide +kernel
theorem d_Law_set_33 : decode b_Law_set 33 = .ok (.ireturn, 1) := by decide +kernel
theorem d_CB_set_0 : decode b_CB_set 0 = .ok (.iload_n 1, 1) := by decide +kernel
theorem d_CB_set_1 : decode b_CB_set 1 = .ok (.invokestatic 27, 3) := by decide +kernel
theorem d_CB_set_4 : decode b_CB_set 4 = .ok (.iload_n 2, 1) := by decide +kernel
theorem d_CB_set_5 : decode b_CB_set 5 = .ok (.invokestatic 31, 3) := by decide +kernel
theorem d_CB_set_8 : decode b_CB_set 8 = .ok (.aload_n 0, 1) := by decide +kernel
theorem d_CB_set_9 : decode b_CB_set 9 = .ok (.getfield 11, 3) := by decide +kernel
theorem d_CB_set_12 : decode b_CB_set 12 = .ok (.iload_n 1, 1) := by decide +kernel
theorem d_CB_set_13 : decode b_CB_set 13 = .ok (.aaload, 1) := by decide +kernel
theorem d_CB_set_14 : decode b_CB_set 14 = .ok (.iload_n 2, 1) := by decide +kernel
theorem d_CB_set_15 : decode b_CB_set 15 = .ok (.lload_n 3, 1) := by decide +kernel
theorem d_CB_set_16 : decode b_CB_set 16 = .ok (.lload 5, 2) := by decide +kernel
theorem d_CB_set_18 : decode b_CB_set 18 = .ok (.invokevirtual 34, 3) := by decide +kernel
theorem d_CB_set_21 : decode b_CB_set 21 = .ok (.ireturn, 1) := by decide +kernel
theorem d_CB_requireBag_0 : decode b_CB_requireBag 0 = .ok (.iload_n 0, 1) := by decide +kernel
theorem d_CB_requireBag_1 : decode b_CB_requireBag 1 = .ok (.ifCond .lt 9, 3) := by decide +kernel
theorem d_CB_requireBag_4 : decode b_CB_requireBag 4 = .ok (.iload_n 0, 1) := by decide +kernel
theorem d_CB_requireBag_5 : decode b_CB_requireBag 5 = .ok (.bipush 8, 2) := by decide +kernel
theorem d_CB_requireBag_7 : decode b_CB_requireBag 7 = .ok (.if_icmp .lt 13, 3) := by decide +kernel
theorem d_CB_requireBag_10 : decode b_CB_requireBag 10 = .ok (.new 77, 3) := by decide +kernel
theorem d_CB_requireBag_13 : decode b_CB_requireBag 13 = .ok (.dup, 1) := by decide +kernel
theorem d_CB_requireBag_14 : decode b_CB_requireBag 14 = .ok (.ldc 128, 2) := by decide +kernel
theorem d_CB_requireBag_16 : decode b_CB_requireBag 16 = .ok (.invokespecial 81, 3) := by decide +kernel
theorem d_CB_requireBag_19 : decode b_CB_requireBag 19 = .ok (.athrow, 1) := by decide +kernel
theorem d_CB_requireBag_20 : decode b_CB_requireBag 20 = .ok (.return_, 1) := by decide +kernel
theorem d_CB_requirePolicy_0 : decode b_CB_requirePolicy 0 = .ok (.iload_n 0, 1) := by decide +kernel
theorem d_CB_requirePolicy_1 : decode b_CB_requirePolicy 1 = .ok (.ifCond .lt 9, 3) := by decide +kernel
theorem d_CB_requirePolicy_4 : decode b_CB_requirePolicy 4 = .ok (.iload_n 0, 1) := by decide +kernel
theorem d_CB_requirePolicy_5 : decode b_CB_requirePolicy 5 = .ok (.ldc 130, 2) := by decide +kernel
theorem d_CB_requirePolicy_7 : decode b_CB_requirePolicy 7 = .ok (.if_icmp .lt 13, 3) := by decide +kernel
theorem d_CB_requirePolicy_10 : decode b_CB_requirePolicy 10 = .ok (.new 131, 3) := by decide +kernel
theorem d_CB_requirePolicy_13 : decode b_CB_requirePolicy 13 = .ok (.dup, 1) := by decide +kernel
theorem d_CB_requirePolicy_14 : decode b_CB_requirePolicy 14 = .ok (.ldc 133, 2) := by decide +kernel
theorem d_CB_requirePolicy_16 : decode b_CB_requirePolicy 16 = .ok (.invokespecial 135, 3) := by decide +kernel
theorem d_CB_requirePolicy_19 : decode b_CB_requirePolicy 19 = .ok (.athrow, 1) := by decide +kernel
theorem d_CB_requirePolicy_20 : decode b_CB_requirePolicy 20 = .ok (.return_, 1) := by decide +kernel
theorem d_Bag_store_0 : decode b_Bag_store 0 = .ok (.aload_n 0, 1) := by decide +kernel
theorem d_Bag_store_1 : decode b_Bag_store 1 = .ok (.iload_n 1, 1) := by decide +kernel
theorem d_Bag_store_2 : decode b_Bag_store 2 = .ok (.lload_n 2, 1) := by decide +kernel
theorem d_Bag_store_3 : decode b_Bag_store 3 = .ok (.invokevirtual 26, 3) := by decide +kernel
theorem d_Bag_store_6 : decode b_Bag_store 6 = .ok (.istore 6, 2) := by decide +kernel
theorem d_Bag_store_8 : decode b_Bag_store 8 = .ok (.aload_n 0, 1) := by decide +kernel
theorem d_Bag_store_9 : decode b_Bag_store 9 = .ok (.iload 6, 2) := by decide +kernel
theorem d_Bag_store_11 : decode b_Bag_store 11 = .ok (.iload_n 1, 1) := by decide +kernel
theorem d_Bag_store_12 : decode b_Bag_store 12 = .ok (.lload_n 2, 1) := by decide +kernel
theorem d_Bag_store_13 : decode b_Bag_store 13 = .ok (.invokevirtual 30, 3) := by decide +kernel
theorem d_Bag_store_16 : decode b_Bag_store 16 = .ok (.istore 7, 2) := by decide +kernel
theorem d_Bag_store_18 : decode b_Bag_store 18 = .ok (.lload 4, 2) := by decide +kernel
theorem d_Bag_store_20 : decode b_Bag_store 20 = .ok (.lconst 0, 1) := by decide +kernel
theorem d_Bag_store_21 : decode b_Bag_store 21 = .ok (.lcmp, 1) := by decide +kernel
theorem d_Bag_store_22 : decode b_Bag_store 22 = .ok (.ifCond .ne 16, 3) := by decide +kernel
theorem d_Bag_store_25 : decode b_Bag_store 25 = .ok (.iload 7, 2) := by decide +kernel
theorem d_Bag_store_27 : decode b_Bag_store 27 = .ok (.ifCond .eq 9, 3) := by decide +kernel
theorem d_Bag_store_30 : decode b_Bag_store 30 = .ok (.aload_n 0, 1) := by decide +kernel
theorem d_Bag_store_31 : decode b_Bag_store 31 = .ok (.iload 6, 2) := by decide +kernel
theorem d_Bag_store_33 : decode b_Bag_store 33 = .ok (.invokevirtual 34, 3) := by decide +kernel
theorem d_Bag_store_36 : decode b_Bag_store 36 = .ok (.iconst 1, 1) := by decide +kernel
theorem d_Bag_store_37 : decode b_Bag_store 37 = .ok (.ireturn, 1) := by decide +kernel
theorem d_Bag_store_38 : decode b_Bag_store 38 = .ok (.iload 7, 2) := by decide +kernel
theorem d_Bag_store_40 : decode b_Bag_store 40 = .ok (.ifCond .ne 36, 3) := by decide +kernel
theorem d_Bag_store_43 : decode b_Bag_store 43 = .ok (.aload_n 0, 1) := by decide +kernel
theorem d_Bag_store_44 : decode b_Bag_store 44 = .ok (.getfield 22, 3) := by decide +kernel
theorem d_Bag_store_47 : decode b_Bag_store 47 = .ok (.bipush 64, 2) := by decide +kernel
theorem d_Bag_store_49 : decode b_Bag_store 49 = .ok (.if_icmp .lt 5, 3) := by decide +kernel
theorem d_Bag_store_52 : decode b_Bag_store 52 = .ok (.iconst 0, 1) := by decide +kernel
theorem d_Bag_store_53 : decode b_Bag_store 53 = .ok (.ireturn, 1) := by decide +kernel
theorem d_Bag_store_54 : decode b_Bag_store 54 = .ok (.aload_n 0, 1) := by decide +kernel
theorem d_Bag_store_55 : decode b_Bag_store 55 = .ok (.iload 6, 2) := by decide +kernel
theorem d_Bag_store_57 : decode b_Bag_store 57 = .ok (.invokevirtual 38, 3) := by decide +kernel
theorem d_Bag_store_60 : decode b_Bag_store 60 = .ok (.aload_n 0, 1) := by decide +kernel
theorem d_Bag_store_61 : decode b_Bag_store 61 = .ok (.getfield 9, 3) := by decide +kernel
theorem d_Bag_store_64 : decode b_Bag_store 64 = .ok (.iload 6, 2) := by decide +kernel
theorem d_Bag_store_66 : decode b_Bag_store 66 = .ok (.iload_n 1, 1) := by decide +kernel
theorem d_Bag_store_67 : decode b_Bag_store 67 = .ok (.iastore, 1) := by decide +kernel
theorem d_Bag_store_68 : decode b_Bag_store 68 = .ok (.aload_n 0, 1) := by decide +kernel
theorem d_Bag_store_69 : decode b_Bag_store 69 = .ok (.getfield 15, 3) := by decide +kernel
theorem d_Bag_store_72 : decode b_Bag_store 72 = .ok (.iload 6, 2) := by decide +kernel
theorem d_Bag_store_74 : decode b_Bag_store 74 = .ok (.lload_n 2, 1) := by decide +kernel
theorem d_Bag_store_75 : decode b_Bag_store 75 = .ok (.lastore, 1) := by decide +kernel
theorem d_Bag_store_76 : decode b_Bag_store 76 = .ok (.aload_n 0, 1) := by decide +kernel
theorem d_Bag_store_77 : decode b_Bag_store 77 = .ok (.getfield 19, 3) := by decide +kernel
theorem d_Bag_store_80 : decode b_Bag_store 80 = .ok (.iload 6, 2) := by decide +kernel
theorem d_Bag_store_82 : decode b_Bag_store 82 = .ok (.lload 4, 2) := by decide +kernel
theorem d_Bag_store_84 : decode b_Bag_store 84 = .ok (.lastore, 1) := by decide +kernel
theorem d_Bag_store_85 : decode b_Bag_store 85 = .ok (.iconst 1, 1) := by decide +kernel
theorem d_Bag_store_86 : decode b_Bag_store 86 = .ok (.ireturn, 1) := by decide +kernel
theorem d_Bag_placeFor_0 : decode b_Bag_placeFor 0 = .ok (.iconst 0, 1) := by decide +kernel
theorem d_Bag_placeFor_1 : decode b_Bag_placeFor 1 = .ok (.istore 4, 2) := by decide +kernel
theorem d_Bag_placeFor_3 : decode b_Bag_placeFor 3 = .ok (.iload 4, 2) := by decide +kernel
theorem d_Bag_placeFor_5 : decode b_Bag_placeFor 5 = .ok (.aload_n 0, 1) := by decide +kernel
theorem d_Bag_placeFor_6 : decode b_Bag_placeFor 6 = .ok (.getfield 22, 3) := by decide +kernel
theorem d_Bag_placeFor_9 : decode b_Bag_placeFor 9 = .ok (.if_icmp .ge 34, 3) := by decide +kernel
theorem d_Bag_placeFor_12 : decode b_Bag_placeFor 12 = .ok (.aload_n 0, 1) := by decide +kernel
theorem d_Bag_placeFor_13 : decode b_Bag_placeFor 13 = .ok (.getfield 9, 3) := by decide +kernel
theorem d_Bag_placeFor_16 : decode b_Bag_placeFor 16 = .ok (.iload 4, 2) := by decide +kernel
theorem d_Bag_placeFor_18 : decode b_Bag_placeFor 18 = .ok (.iaload, 1) := by decide +kernel
theorem d_Bag_placeFor_19 : decode b_Bag_placeFor 19 = .ok (.aload_n 0, 1) := by decide +kernel
theorem d_Bag_placeFor_20 : decode b_Bag_placeFor 20 = .ok (.getfield 15, 3) := by decide +kernel
theorem d_Bag_placeFor_23 : decode b_Bag_placeFor 23 = .ok (.iload 4, 2) := by decide +kernel
theorem d_Bag_placeFor_25 : decode b_Bag_placeFor 25 = .ok (.laload, 1) := by decide +kernel
theorem d_Bag_placeFor_26 : decode b_Bag_placeFor 26 = .ok (.iload_n 1, 1) := by decide +kernel
theorem d_Bag_placeFor_27 : decode b_Bag_placeFor 27 = .ok (.lload_n 2, 1) := by decide +kernel
theorem d_Bag_placeFor_28 : decode b_Bag_placeFor 28 = .ok (.invokestatic 41, 3) := by decide +kernel
theorem d_Bag_placeFor_31 : decode b_Bag_placeFor 31 = .ok (.ifCond .lt 6, 3) := by decide +kernel
theorem d_Bag_placeFor_34 : decode b_Bag_placeFor 34 = .ok (.iload 4, 2) := by decide +kernel
theorem d_Bag_placeFor_36 : decode b_Bag_placeFor 36 = .ok (.ireturn, 1) := by decide +kernel
theorem d_Bag_placeFor_37 : decode b_Bag_placeFor 37 = .ok (.iinc 4 1, 3) := by decide +kernel
theorem d_Bag_placeFor_40 : decode b_Bag_placeFor 40 = .ok (.goto (-37), 3) := by decide +kernel
theorem d_Bag_placeFor_43 : decode b_Bag_placeFor 43 = .ok (.aload_n 0, 1) := by decide +kernel
theorem d_Bag_placeFor_44 : decode b_Bag_placeFor 44 = .ok (.getfield 22, 3) := by decide +kernel
theorem d_Bag_placeFor_47 : decode b_Bag_placeFor 47 = .ok (.ireturn, 1) := by decide +kernel
theorem d_CB_orderOf_0 : decode b_CB_orderOf 0 = .ok (.iload_n 0, 1) := by decide +kernel
theorem d_CB_orderOf_1 : decode b_CB_orderOf 1 = .ok (.iload_n 3, 1) := by decide +kernel
theorem d_CB_orderOf_2 : decode b_CB_orderOf 2 = .ok (.if_icmp .eq 9, 3) := by decide +kernel
theorem d_CB_orderOf_5 : decode b_CB_orderOf 5 = .ok (.iload_n 0, 1) := by decide +kernel
theorem d_CB_orderOf_6 : decode b_CB_orderOf 6 = .ok (.iload_n 3, 1) := by decide +kernel
theorem d_CB_orderOf_7 : decode b_CB_orderOf 7 = .ok (.invokestatic 150, 3) := by decide +kernel
theorem d_CB_orderOf_10 : decode b_CB_orderOf 10 = .ok (.ireturn, 1) := by decide +kernel
theorem d_CB_orderOf_11 : decode b_CB_orderOf 11 = .ok (.lload_n 1, 1) := by decide +kernel
theorem d_CB_orderOf_12 : decode b_CB_orderOf 12 = .ok (.lload 4, 2) := by decide +kernel
theorem d_CB_orderOf_14 : decode b_CB_orderOf 14 = .ok (.invokestatic 156, 3) := by decide +kernel
theorem d_CB_orderOf_17 : decode b_CB_orderOf 17 = .ok (.ireturn, 1) := by decide +kernel
theorem d_JI_compare_0 : decode b_JI_compare 0 = .ok (.iload_n 0, 1) := by decide +kernel
theorem d_JI_compare_1 : decode b_JI_compare 1 = .ok (.iload_n 1, 1) := by decide +kernel
theorem d_JI_compare_2 : decode b_JI_compare 2 = .ok (.if_icmp .ge 7, 3) := by decide +kernel
theorem d_JI_compare_5 : decode b_JI_compare 5 = .ok (.iconst (-1), 1) := by decide +kernel
theorem d_JI_compare_6 : decode b_JI_compare 6 = .ok (.goto 13, 3) := by decide +kernel
theorem d_JI_compare_9 : decode b_JI_compare 9 = .ok (.iload_n 0, 1) := by decide +kernel
theorem d_JI_compare_10 : decode b_JI_compare 10 = .ok (.iload_n 1, 1) := by decide +kernel
theorem d_JI_compare_11 : decode b_JI_compare 11 = .ok (.if_icmp .ne 7, 3) := by decide +kernel
theorem d_JI_compare_14 : decode b_JI_compare 14 = .ok (.iconst 0, 1) := by decide +kernel
theorem d_JI_compare_15 : decode b_JI_compare 15 = .ok (.goto 4, 3) := by decide +kernel
theorem d_JI_compare_18 : decode b_JI_compare 18 = .ok (.iconst 1, 1) := by decide +kernel
theorem d_JI_compare_19 : decode b_JI_compare 19 = .ok (.ireturn, 1) := by decide +kernel
theorem d_JL_compareUnsigned_0 : decode b_JL_compareUnsigned 0 = .ok (.lload_n 0, 1) := by decide +kernel
theorem d_JL_compareUnsigned_1 : decode b_JL_compareUnsigned 1 = .ok (.ldc2_w 168, 3) := by decide +kernel
theorem d_JL_compareUnsigned_4 : decode b_JL_compareUnsigned 4 = .ok (.ladd, 1) := by decide +kernel
theorem d_JL_compareUnsigned_5 : decode b_JL_compareUnsigned 5 = .ok (.lload_n 2, 1) := by decide +kernel
theorem d_JL_compareUnsigned_6 : decode b_JL_compareUnsigned 6 = .ok (.ldc2_w 168, 3) := by decide +kernel
theorem d_JL_compareUnsigned_9 : decode b_JL_compareUnsigned 9 = .ok (.ladd, 1) := by decide +kernel
theorem d_JL_compareUnsigned_10 : decode b_JL_compareUnsigned 10 = .ok (.invokestatic 302, 3) := by decide +kernel
theorem d_JL_compareUnsigned_13 : decode b_JL_compareUnsigned 13 = .ok (.ireturn, 1) := by decide +kernel
theorem d_JL_compare_0 : decode b_JL_compare 0 = .ok (.lload_n 0, 1) := by decide +kernel
theorem d_JL_compare_1 : decode b_JL_compare 1 = .ok (.lload_n 2, 1) := by decide +kernel
theorem d_JL_compare_2 : decode b_JL_compare 2 = .ok (.lcmp, 1) := by decide +kernel
theorem d_JL_compare_3 : decode b_JL_compare 3 = .ok (.ifCond .ge 7, 3) := by decide +kernel
theorem d_JL_compare_6 : decode b_JL_compare 6 = .ok (.iconst (-1), 1) := by decide +kernel
theorem d_JL_compare_7 : decode b_JL_compare 7 = .ok (.goto 14, 3) := by decide +kernel
theorem d_JL_compare_10 : decode b_JL_compare 10 = .ok (.lload_n 0, 1) := by decide +kernel
theorem d_JL_compare_11 : decode b_JL_compare 11 = .ok (.lload_n 2, 1) := by decide +kernel
theorem d_JL_compare_12 : decode b_JL_compare 12 = .ok (.lcmp, 1) := by decide +kernel
theorem d_JL_compare_13 : decode b_JL_compare 13 = .ok (.ifCond .ne 7, 3) := by decide +kernel
theorem d_JL_compare_16 : decode b_JL_compare 16 = .ok (.iconst 0, 1) := by decide +kernel
theorem d_JL_compare_17 : decode b_JL_compare 17 = .ok (.goto 4, 3) := by decide +kernel
theorem d_JL_compare_20 : decode b_JL_compare 20 = .ok (.iconst 1, 1) := by decide +kernel
theorem d_JL_compare_21 : decode b_JL_compare 21 = .ok (.ireturn, 1) := by decide +kernel
theorem d_Bag_holdsAt_0 : decode b_Bag_holdsAt 0 = .ok (.iload_n 1, 1) := by decide +kernel
theorem d_Bag_holdsAt_1 : decode b_Bag_holdsAt 1 = .ok (.aload_n 0, 1) := by decide +kernel
theorem d_Bag_holdsAt_2 : decode b_Bag_holdsAt 2 = .ok (.getfield 22, 3) := by decide +kernel
theorem d_Bag_holdsAt_5 : decode b_Bag_holdsAt 5 = .ok (.if_icmp .ge 28, 3) := by decide +kernel
theorem d_Bag_holdsAt_8 : decode b_Bag_holdsAt 8 = .ok (.aload_n 0, 1) := by decide +kernel
theorem d_Bag_holdsAt_9 : decode b_Bag_holdsAt 9 = .ok (.getfield 9, 3) := by decide +kernel
theorem d_Bag_holdsAt_12 : decode b_Bag_holdsAt 12 = .ok (.iload_n 1, 1) := by decide +kernel
theorem d_Bag_holdsAt_13 : decode b_Bag_holdsAt 13 = .ok (.iaload, 1) := by decide +kernel
theorem d_Bag_holdsAt_14 : decode b_Bag_holdsAt 14 = .ok (.iload_n 2, 1) := by decide +kernel
theorem d_Bag_holdsAt_15 : decode b_Bag_holdsAt 15 = .ok (.if_icmp .ne 18, 3) := by decide +kernel
theorem d_Bag_holdsAt_18 : decode b_Bag_holdsAt 18 = .ok (.aload_n 0, 1) := by decide +kernel
theorem d_Bag_holdsAt_19 : decode b_Bag_holdsAt 19 = .ok (.getfield 15, 3) := by decide +kernel
theorem d_Bag_holdsAt_22 : decode b_Bag_holdsAt 22 = .ok (.iload_n 1, 1) := by decide +kernel
theorem d_Bag_holdsAt_23 : decode b_Bag_holdsAt 23 = .ok (.laload, 1) := by decide +kernel
theorem d_Bag_holdsAt_24 : decode b_Bag_holdsAt 24 = .ok (.lload_n 3, 1) := by decide +kernel
theorem d_Bag_holdsAt_25 : decode b_Bag_holdsAt 25 = .ok (.lcmp, 1) := by decide +kernel
theorem d_Bag_holdsAt_26 : decode b_Bag_holdsAt 26 = .ok (.ifCond .ne 7, 3) := by decide +kernel
theorem d_Bag_holdsAt_29 : decode b_Bag_holdsAt 29 = .ok (.iconst 1, 1) := by decide +kernel
theorem d_Bag_holdsAt_30 : decode b_Bag_holdsAt 30 = .ok (.goto 4, 3) := by decide +kernel
theorem d_Bag_holdsAt_33 : decode b_Bag_holdsAt 33 = .ok (.iconst 0, 1) := by decide +kernel
theorem d_Bag_holdsAt_34 : decode b_Bag_holdsAt 34 = .ok (.ireturn, 1) := by decide +kernel
theorem d_Bag_removeAt_0 : decode b_Bag_removeAt 0 = .ok (.aload_n 0, 1) := by decide +kernel
theorem d_Bag_removeAt_1 : decode b_Bag_removeAt 1 = .ok (.getfield 22, 3) := by decide +kernel
theorem d_Bag_removeAt_4 : decode b_Bag_removeAt 4 = .ok (.iload_n 1, 1) := by decide +kernel
theorem d_Bag_removeAt_5 : decode b_Bag_removeAt 5 = .ok (.isub, 1) := by decide +kernel
theorem d_Bag_removeAt_6 : decode b_Bag_removeAt 6 = .ok (.iconst 1, 1) := by decide +kernel
theorem d_Bag_removeAt_7 : decode b_Bag_removeAt 7 = .ok (.isub, 1) := by decide +kernel
theorem d_Bag_removeAt_8 : decode b_Bag_removeAt 8 = .ok (.istore_n 2, 1) := by decide +kernel
theorem d_Bag_removeAt_9 : decode b_Bag_removeAt 9 = .ok (.aload_n 0, 1) := by decide +kernel
theorem d_Bag_removeAt_10 : decode b_Bag_removeAt 10 = .ok (.getfield 9, 3) := by decide +kernel
theorem d_Bag_removeAt_13 : decode b_Bag_removeAt 13 = .ok (.iload_n 1, 1) := by decide +kernel
theorem d_Bag_removeAt_14 : decode b_Bag_removeAt 14 = .ok (.iconst 1, 1) := by decide +kernel
theorem d_Bag_removeAt_15 : decode b_Bag_removeAt 15 = .ok (.iadd, 1) := by decide +kernel
theorem d_Bag_removeAt_16 : decode b_Bag_removeAt 16 = .ok (.aload_n 0, 1) := by decide +kernel
theorem d_Bag_removeAt_17 : decode b_Bag_removeAt 17 = .ok (.getfield 9, 3) := by decide +kernel
theorem d_Bag_removeAt_20 : decode b_Bag_removeAt 20 = .ok (.iload_n 1, 1) := by decide +kernel
theorem d_Bag_removeAt_21 : decode b_Bag_removeAt 21 = .ok (.iload_n 2, 1) := by decide +kernel
theorem d_Bag_removeAt_22 : decode b_Bag_removeAt 22 = .ok (.invokestatic 45, 3) := by decide +kernel
theorem d_Bag_removeAt_25 : decode b_Bag_removeAt 25 = .ok (.aload_n 0, 1) := by decide +kernel
theorem d_Bag_removeAt_26 : decode b_Bag_removeAt 26 = .ok (.getfield 15, 3) := by decide +kernel
theorem d_Bag_removeAt_29 : decode b_Bag_removeAt 29 = .ok (.iload_n 1, 1) := by decide +kernel
theorem d_Bag_removeAt_30 : decode b_Bag_removeAt 30 = .ok (.iconst 1, 1) := by decide +kernel
theorem d_Bag_removeAt_31 : decode b_Bag_removeAt 31 = .ok (.iadd, 1) := by decide +kernel
theorem d_Bag_removeAt_32 : decode b_Bag_removeAt 32 = .ok (.aload_n 0, 1) := by decide +kernel
theorem d_Bag_removeAt_33 : decode b_Bag_removeAt 33 = .ok (.getfield 15, 3) := by decide +kernel
theorem d_Bag_removeAt_36 : decode b_Bag_removeAt 36 = .ok (.iload_n 1, 1) := by decide +kernel
theorem d_Bag_removeAt_37 : decode b_Bag_removeAt 37 = .ok (.iload_n 2, 1) := by decide +kernel
theorem d_Bag_removeAt_38 : decode b_Bag_removeAt 38 = .ok (.invokestatic 45, 3) := by decide +kernel
theorem d_Bag_removeAt_41 : decode b_Bag_removeAt 41 = .ok (.aload_n 0, 1) := by decide +kernel
theorem d_Bag_removeAt_42 : decode b_Bag_removeAt 42 = .ok (.getfield 19, 3) := by decide +kernel
theorem d_Bag_removeAt_45 : decode b_Bag_removeAt 45 = .ok (.iload_n 1, 1) := by decide +kernel
theorem d_Bag_removeAt_46 : decode b_Bag_removeAt 46 = .ok (.iconst 1, 1) := by decide +kernel
theorem d_Bag_removeAt_47 : decode b_Bag_removeAt 47 = .ok (.iadd, 1) := by decide +kernel
theorem d_Bag_removeAt_48 : decode b_Bag_removeAt 48 = .ok (.aload_n 0, 1) := by decide +kernel
theorem d_Bag_removeAt_49 : decode b_Bag_removeAt 49 = .ok (.getfield 19, 3) := by decide +kernel
theorem d_Bag_removeAt_52 : decode b_Bag_removeAt 52 = .ok (.iload_n 1, 1) := by decide +kernel
theorem d_Bag_removeAt_53 : decode b_Bag_removeAt 53 = .ok (.iload_n 2, 1) := by decide +kernel
theorem d_Bag_removeAt_54 : decode b_Bag_removeAt 54 = .ok (.invokestatic 45, 3) := by decide +kernel
theorem d_Bag_removeAt_57 : decode b_Bag_removeAt 57 = .ok (.aload_n 0, 1) := by decide +kernel
theorem d_Bag_removeAt_58 : decode b_Bag_removeAt 58 = .ok (.dup, 1) := by decide +kernel
theorem d_Bag_removeAt_59 : decode b_Bag_removeAt 59 = .ok (.getfield 22, 3) := by decide +kernel
theorem d_Bag_removeAt_62 : decode b_Bag_removeAt 62 = .ok (.iconst 1, 1) := by decide +kernel
theorem d_Bag_removeAt_63 : decode b_Bag_removeAt 63 = .ok (.isub, 1) := by decide +kernel
theorem d_Bag_removeAt_64 : decode b_Bag_removeAt 64 = .ok (.putfield 22, 3) := by decide +kernel
theorem d_Bag_removeAt_67 : decode b_Bag_removeAt 67 = .ok (.return_, 1) := by decide +kernel
theorem d_Bag_makeRoomAt_0 : decode b_Bag_makeRoomAt 0 = .ok (.aload_n 0, 1) := by decide +kernel
theorem d_Bag_makeRoomAt_1 : decode b_Bag_makeRoomAt 1 = .ok (.getfield 22, 3) := by decide +kernel
theorem d_Bag_makeRoomAt_4 : decode b_Bag_makeRoomAt 4 = .ok (.iload_n 1, 1) := by decide +kernel
theorem d_Bag_makeRoomAt_5 : decode b_Bag_makeRoomAt 5 = .ok (.isub, 1) := by decide +kernel
theorem d_Bag_makeRoomAt_6 : decode b_Bag_makeRoomAt 6 = .ok (.istore_n 2, 1) := by decide +kernel
theorem d_Bag_makeRoomAt_7 : decode b_Bag_makeRoomAt 7 = .ok (.aload_n 0, 1) := by decide +kernel
theorem d_Bag_makeRoomAt_8 : decode b_Bag_makeRoomAt 8 = .ok (.getfield 9, 3) := by decide +kernel
theorem d_Bag_makeRoomAt_11 : decode b_Bag_makeRoomAt 11 = .ok (.iload_n 1, 1) := by decide +kernel
theorem d_Bag_makeRoomAt_12 : decode b_Bag_makeRoomAt 12 = .ok (.aload_n 0, 1) := by decide +kernel
theorem d_Bag_makeRoomAt_13 : decode b_Bag_makeRoomAt 13 = .ok (.getfield 9, 3) := by decide +kernel
theorem d_Bag_makeRoomAt_16 : decode b_Bag_makeRoomAt 16 = .ok (.iload_n 1, 1) := by decide +kernel
theorem d_Bag_makeRoomAt_17 : decode b_Bag_makeRoomAt 17 = .ok (.iconst 1, 1) := by decide +kernel
theorem d_Bag_makeRoomAt_18 : decode b_Bag_makeRoomAt 18 = .ok (.iadd, 1) := by decide +kernel
theorem d_Bag_makeRoomAt_19 : decode b_Bag_makeRoomAt 19 = .ok (.iload_n 2, 1) := by decide +kernel
theorem d_Bag_makeRoomAt_20 : decode b_Bag_makeRoomAt 20 = .ok (.invokestatic 45, 3) := by decide +kernel
theorem d_Bag_makeRoomAt_23 : decode b_Bag_makeRoomAt 23 = .ok (.aload_n 0, 1) := by decide +kernel
theorem d_Bag_makeRoomAt_24 : decode b_Bag_makeRoomAt 24 = .ok (.getfield 15, 3) := by decide +kernel
theorem d_Bag_makeRoomAt_27 : decode b_Bag_makeRoomAt 27 = .ok (.iload_n 1, 1) := by decide +kernel
theorem d_Bag_makeRoomAt_28 : decode b_Bag_makeRoomAt 28 = .ok (.aload_n 0, 1) := by decide +kernel
theorem d_Bag_makeRoomAt_29 : decode b_Bag_makeRoomAt 29 = .ok (.getfield 15, 3) := by decide +kernel
theorem d_Bag_makeRoomAt_32 : decode b_Bag_makeRoomAt 32 = .ok (.iload_n 1, 1) := by decide +kernel
theorem d_Bag_makeRoomAt_33 : decode b_Bag_makeRoomAt 33 = .ok (.iconst 1, 1) := by decide +kernel
theorem d_Bag_makeRoomAt_34 : decode b_Bag_makeRoomAt 34 = .ok (.iadd, 1) := by decide +kernel
theorem d_Bag_makeRoomAt_35 : decode b_Bag_makeRoomAt 35 = .ok (.iload_n 2, 1) := by decide +kernel
theorem d_Bag_makeRoomAt_36 : decode b_Bag_makeRoomAt 36 = .ok (.invokestatic 45, 3) := by decide +kernel
theorem d_Bag_makeRoomAt_39 : decode b_Bag_makeRoomAt 39 = .ok (.aload_n 0, 1) := by decide +kernel
theorem d_Bag_makeRoomAt_40 : decode b_Bag_makeRoomAt 40 = .ok (.getfield 19, 3) := by decide +kernel
theorem d_Bag_makeRoomAt_43 : decode b_Bag_makeRoomAt 43 = .ok (.iload_n 1, 1) := by decide +kernel
theorem d_Bag_makeRoomAt_44 : decode b_Bag_makeRoomAt 44 = .ok (.aload_n 0, 1) := by decide +kernel
theorem d_Bag_makeRoomAt_45 : decode b_Bag_makeRoomAt 45 = .ok (.getfield 19, 3) := by decide +kernel
theorem d_Bag_makeRoomAt_48 : decode b_Bag_makeRoomAt 48 = .ok (.iload_n 1, 1) := by decide +kernel
theorem d_Bag_makeRoomAt_49 : decode b_Bag_makeRoomAt 49 = .ok (.iconst 1, 1) := by decide +kernel
theorem d_Bag_makeRoomAt_50 : decode b_Bag_makeRoomAt 50 = .ok (.iadd, 1) := by decide +kernel
theorem d_Bag_makeRoomAt_51 : decode b_Bag_makeRoomAt 51 = .ok (.iload_n 2, 1) := by decide +kernel
theorem d_Bag_makeRoomAt_52 : decode b_Bag_makeRoomAt 52 = .ok (.invokestatic 45, 3) := by decide +kernel
theorem d_Bag_makeRoomAt_55 : decode b_Bag_makeRoomAt 55 = .ok (.aload_n 0, 1) := by decide +kernel
theorem d_Bag_makeRoomAt_56 : decode b_Bag_makeRoomAt 56 = .ok (.dup, 1) := by decide +kernel
theorem d_Bag_makeRoomAt_57 : decode b_Bag_makeRoomAt 57 = .ok (.getfield 22, 3) := by decide +kernel
theorem d_Bag_makeRoomAt_60 : decode b_Bag_makeRoomAt 60 = .ok (.iconst 1, 1) := by decide +kernel
theorem d_Bag_makeRoomAt_61 : decode b_Bag_makeRoomAt 61 = .ok (.iadd, 1) := by decide +kernel
theorem d_Bag_makeRoomAt_62 : decode b_Bag_makeRoomAt 62 = .ok (.putfield 22, 3) := by decide +kernel
theorem d_Bag_makeRoomAt_65 : decode b_Bag_makeRoomAt 65 = .ok (.return_, 1) := by decide +kernel
theorem d_Law_put_0 : decode b_Law_put 0 = .ok (.aload 7, 2) := by decide +kernel
theorem d_Law_put_2 : decode b_Law_put 2 = .ok (.iconst 0, 1) := by decide +kernel
theorem d_Law_put_3 : decode b_Law_put 3 = .ok (.aload_n 0, 1) := by decide +kernel
theorem d_Law_put_4 : decode b_Law_put 4 = .ok (.iload_n 1, 1) := by decide +kernel
theorem d_Law_put_5 : decode b_Law_put 5 = .ok (.iload_n 2, 1) := by decide +kernel
theorem d_Law_put_6 : decode b_Law_put 6 = .ok (.lload_n 3, 1) := by decide +kernel
theorem d_Law_put_7 : decode b_Law_put 7 = .ok (.lload 5, 2) := by decide +kernel
theorem d_Law_put_9 : decode b_Law_put 9 = .ok (.invokevirtual 17, 3) := by decide +kernel
theorem d_Law_put_12 : decode b_Law_put 12 = .ok (.ifCond .eq 7, 3) := by decide +kernel
theorem d_Law_put_15 : decode b_Law_put 15 = .ok (.lconst 1, 1) := by decide +kernel
theorem d_Law_put_16 : decode b_Law_put 16 = .ok (.goto 4, 3) := by decide +kernel
theorem d_Law_put_19 : decode b_Law_put 19 = .ok (.lconst 0, 1) := by decide +kernel
theorem d_Law_put_20 : decode b_Law_put 20 = .ok (.lastore, 1) := by decide +kernel
theorem d_Law_put_21 : decode b_Law_put 21 = .ok (.goto 11, 3) := by decide +kernel
theorem d_Law_put_24 : decode b_Law_put 24 = .ok (.astore 8, 2) := by decide +kernel
theorem d_Law_put_26 : decode b_Law_put 26 = .ok (.iconst 1, 1) := by decide +kernel
theorem d_Law_put_27 : decode b_Law_put 27 = .ok (.ireturn, 1) := by decide +kernel
theorem d_Law_put_28 : decode b_Law_put 28 = .ok (.astore 8, 2) := by decide +kernel
theorem d_Law_put_30 : decode b_Law_put 30 = .ok (.iconst 2, 1) := by decide +kernel
theorem d_Law_put_31 : decode b_Law_put 31 = .ok (.ireturn, 1) := by decide +kernel
theorem d_Law_put_32 : decode b_Law_put 32 = .ok (.iconst 0, 1) := by decide +kernel
theorem d_Law_put_33 : decode b_Law_put 33 = .ok (.ireturn, 1) := by decide +kernel
theorem d_CB_put_0 : decode b_CB_put 0 = .ok (.iload_n 1, 1) := by decide +kernel
theorem d_CB_put_1 : decode b_CB_put 1 = .ok (.invokestatic 27, 3) := by decide +kernel
theorem d_CB_put_4 : decode b_CB_put 4 = .ok (.iload_n 2, 1) := by decide +kernel
theorem d_CB_put_5 : decode b_CB_put 5 = .ok (.invokestatic 31, 3) := by decide +kernel
theorem d_CB_put_8 : decode b_CB_put 8 = .ok (.aload_n 0, 1) := by decide +kernel
theorem d_CB_put_9 : decode b_CB_put 9 = .ok (.getfield 11, 3) := by decide +kernel
theorem d_CB_put_12 : decode b_CB_put 12 = .ok (.iload_n 1, 1) := by decide +kernel
theorem d_CB_put_13 : decode b_CB_put 13 = .ok (.aaload, 1) := by decide +kernel
theorem d_CB_put_14 : decode b_CB_put 14 = .ok (.iload_n 2, 1) := by decide +kernel
theorem d_CB_put_15 : decode b_CB_put 15 = .ok (.lload_n 3, 1) := by decide +kernel
theorem d_CB_put_16 : decode b_CB_put 16 = .ok (.invokevirtual 38, 3) := by decide +kernel
theorem d_CB_put_19 : decode b_CB_put 19 = .ok (.lstore 7, 2) := by decide +kernel
theorem d_CB_put_21 : decode b_CB_put 21 = .ok (.lload 7, 2) := by decide +kernel
theorem d_CB_put_23 : decode b_CB_put 23 = .ok (.lload 5, 2) := by decide +kernel
theorem d_CB_put_25 : decode b_CB_put 25 = .ok (.invokestatic 42, 3) := by decide +kernel
theorem d_CB_put_28 : decode b_CB_put 28 = .ok (.ifCond .ne 5, 3) := by decide +kernel
theorem d_CB_put_31 : decode b_CB_put 31 = .ok (.iconst 0, 1) := by decide +kernel
theorem d_CB_put_32 : decode b_CB_put 32 = .ok (.ireturn, 1) := by decide +kernel
theorem d_CB_put_33 : decode b_CB_put 33 = .ok (.aload_n 0, 1) := by decide +kernel
theorem d_CB_put_34 : decode b_CB_put 34 = .ok (.getfield 11, 3) := by decide +kernel
theorem d_CB_put_37 : decode b_CB_put 37 = .ok (.iload_n 1, 1) := by decide +kernel
theorem d_CB_put_38 : decode b_CB_put 38 = .ok (.aaload, 1) := by decide +kernel
theorem d_CB_put_39 : decode b_CB_put 39 = .ok (.iload_n 2, 1) := by decide +kernel
theorem d_CB_put_40 : decode b_CB_put 40 = .ok (.lload_n 3, 1) := by decide +kernel
theorem d_CB_put_41 : decode b_CB_put 41 = .ok (.lload 7, 2) := by decide +kernel
theorem d_CB_put_43 : decode b_CB_put 43 = .ok (.lload 5, 2) := by decide +kernel
theorem d_CB_put_45 : decode b_CB_put 45 = .ok (.ladd, 1) := by decide +kernel
theorem d_CB_put_46 : decode b_CB_put 46 = .ok (.invokevirtual 34, 3) := by decide +kernel
theorem d_CB_put_49 : decode b_CB_put 49 = .ok (.ireturn, 1) := by decide +kernel
theorem d_Bag_amountOf_0 : decode b_Bag_amountOf 0 = .ok (.aload_n 0, 1) := by decide +kernel
theorem d_Bag_amountOf_1 : decode b_Bag_amountOf 1 = .ok (.iload_n 1, 1) := by decide +kernel
theorem d_Bag_amountOf_2 : decode b_Bag_amountOf 2 = .ok (.lload_n 2, 1) := by decide +kernel
theorem d_Bag_amountOf_3 : decode b_Bag_amountOf 3 = .ok (.invokevirtual 26, 3) := by decide +kernel
theorem d_Bag_amountOf_6 : decode b_Bag_amountOf 6 = .ok (.istore 4, 2) := by decide +kernel
theorem d_Bag_amountOf_8 : decode b_Bag_amountOf 8 = .ok (.aload_n 0, 1) := by decide +kernel
theorem d_Bag_amountOf_9 : decode b_Bag_amountOf 9 = .ok (.iload 4, 2) := by decide +kernel
theorem d_Bag_amountOf_11 : decode b_Bag_amountOf 11 = .ok (.iload_n 1, 1) := by decide +kernel
theorem d_Bag_amountOf_12 : decode b_Bag_amountOf 12 = .ok (.lload_n 2, 1) := by decide +kernel
theorem d_Bag_amountOf_13 : decode b_Bag_amountOf 13 = .ok (.invokevirtual 30, 3) := by decide +kernel
theorem d_Bag_amountOf_16 : decode b_Bag_amountOf 16 = .ok (.ifCond .eq 13, 3) := by decide +kernel
theorem d_Bag_amountOf_19 : decode b_Bag_amountOf 19 = .ok (.aload_n 0, 1) := by decide +kernel
theorem d_Bag_amountOf_20 : decode b_Bag_amountOf 20 = .ok (.getfield 19, 3) := by decide +kernel
theorem d_Bag_amountOf_23 : decode b_Bag_amountOf 23 = .ok (.iload 4, 2) := by decide +kernel
theorem d_Bag_amountOf_25 : decode b_Bag_amountOf 25 = .ok (.laload, 1) := by decide +kernel
theorem d_Bag_amountOf_26 : decode b_Bag_amountOf 26 = .ok (.goto 4, 3) := by decide +kernel
theorem d_Bag_amountOf_29 : decode b_Bag_amountOf 29 = .ok (.lconst 0, 1) := by decide +kernel
theorem d_Bag_amountOf_30 : decode b_Bag_amountOf 30 = .ok (.lreturn, 1) := by decide +kernel
theorem d_CB_sumFits_0 : decode b_CB_sumFits 0 = .ok (.lload_n 2, 1) := by decide +kernel
theorem d_CB_sumFits_1 : decode b_CB_sumFits 1 = .ok (.lconst 0, 1) := by decide +kernel
theorem d_CB_sumFits_2 : decode b_CB_sumFits 2 = .ok (.lcmp, 1) := by decide +kernel
theorem d_CB_sumFits_3 : decode b_CB_sumFits 3 = .ok (.ifCond .lt 21, 3) := by decide +kernel
theorem d_CB_sumFits_6 : decode b_CB_sumFits 6 = .ok (.lload_n 0, 1) := by decide +kernel
theorem d_CB_sumFits_7 : decode b_CB_sumFits 7 = .ok (.ldc2_w 99, 3) := by decide +kernel
theorem d_CB_sumFits_10 : decode b_CB_sumFits 10 = .ok (.lload_n 2, 1) := by decide +kernel
theorem d_CB_sumFits_11 : decode b_CB_sumFits 11 = .ok (.lsub, 1) := by decide +kernel
theorem d_CB_sumFits_12 : decode b_CB_sumFits 12 = .ok (.lcmp, 1) := by decide +kernel
theorem d_CB_sumFits_13 : decode b_CB_sumFits 13 = .ok (.ifCond .gt 7, 3) := by decide +kernel
theorem d_CB_sumFits_16 : decode b_CB_sumFits 16 = .ok (.iconst 1, 1) := by decide +kernel
theorem d_CB_sumFits_17 : decode b_CB_sumFits 17 = .ok (.goto 22, 3) := by decide +kernel
theorem d_CB_sumFits_20 : decode b_CB_sumFits 20 = .ok (.iconst 0, 1) := by decide +kernel
theorem d_CB_sumFits_21 : decode b_CB_sumFits 21 = .ok (.goto 18, 3) := by decide +kernel
theorem d_CB_sumFits_24 : decode b_CB_sumFits 24 = .ok (.lload_n 0, 1) := by decide +kernel
theorem d_CB_sumFits_25 : decode b_CB_sumFits 25 = .ok (.ldc2_w 148, 3) := by decide +kernel
theorem d_CB_sumFits_28 : decode b_CB_sumFits 28 = .ok (.lload_n 2, 1) := by decide +kernel
theorem d_CB_sumFits_29 : decode b_CB_sumFits 29 = .ok (.lsub, 1) := by decide +kernel
theorem d_CB_sumFits_30 : decode b_CB_sumFits 30 = .ok (.lcmp, 1) := by decide +kernel
theorem d_CB_sumFits_31 : decode b_CB_sumFits 31 = .ok (.ifCond .lt 7, 3) := by decide +kernel
theorem d_CB_sumFits_34 : decode b_CB_sumFits 34 = .ok (.iconst 1, 1) := by decide +kernel
theorem d_CB_sumFits_35 : decode b_CB_sumFits 35 = .ok (.goto 4, 3) := by decide +kernel
theorem d_CB_sumFits_38 : decode b_CB_sumFits 38 = .ok (.iconst 0, 1) := by decide +kernel
theorem d_CB_sumFits_39 : decode b_CB_sumFits 39 = .ok (.ireturn, 1) := by decide +kernel
theorem d_Law_sum_0 : decode b_Law_sum 0 = .ok (.aload 4, 2) := by decide +kernel
theorem d_Law_sum_2 : decode b_Law_sum 2 = .ok (.iconst 0, 1) := by decide +kernel
theorem d_Law_sum_3 : decode b_Law_sum 3 = .ok (.aload_n 0, 1) := by decide +kernel
theorem d_Law_sum_4 : decode b_Law_sum 4 = .ok (.iload_n 1, 1) := by decide +kernel
theorem d_Law_sum_5 : decode b_Law_sum 5 = .ok (.iload_n 2, 1) := by decide +kernel
theorem d_Law_sum_6 : decode b_Law_sum 6 = .ok (.iload_n 3, 1) := by decide +kernel
theorem d_Law_sum_7 : decode b_Law_sum 7 = .ok (.invokevirtual 20, 3) := by decide +kernel
theorem d_Law_sum_10 : decode b_Law_sum 10 = .ok (.ifCond .eq 7, 3) := by decide +kernel
theorem d_Law_sum_13 : decode b_Law_sum 13 = .ok (.lconst 1, 1) := by decide +kernel
theorem d_Law_sum_14 : decode b_Law_sum 14 = .ok (.goto 4, 3) := by decide +kernel
theorem d_Law_sum_17 : decode b_Law_sum 17 = .ok (.lconst 0, 1) := by decide +kernel
theorem d_Law_sum_18 : decode b_Law_sum 18 = .ok (.lastore, 1) := by decide +kernel
theorem d_Law_sum_19 : decode b_Law_sum 19 = .ok (.goto 7, 3) := by decide +kernel
theorem d_Law_sum_22 : decode b_Law_sum 22 = .ok (.astore 5, 2) := by decide +kernel
theorem d_Law_sum_24 : decode b_Law_sum 24 = .ok (.iconst 1, 1) := by decide +kernel
theorem d_Law_sum_25 : decode b_Law_sum 25 = .ok (.ireturn, 1) := by decide +kernel
theorem d_Law_sum_26 : decode b_Law_sum 26 = .ok (.iconst 0, 1) := by decide +kernel
theorem d_Law_sum_27 : decode b_Law_sum 27 = .ok (.ireturn, 1) := by decide +kernel
theorem d_CB_sum_0 : decode b_CB_sum 0 = .ok (.aload_n 0, 1) := by decide +kernel
theorem d_CB_sum_1 : decode b_CB_sum 1 = .ok (.iload_n 1, 1) := by decide +kernel
theorem d_CB_sum_2 : decode b_CB_sum 2 = .ok (.iload_n 2, 1) := by decide +kernel
theorem d_CB_sum_3 : decode b_CB_sum 3 = .ok (.iload_n 3, 1) := by decide +kernel
theorem d_CB_sum_4 : decode b_CB_sum 4 = .ok (.iconst 0, 1) := by decide +kernel
theorem d_CB_sum_5 : decode b_CB_sum 5 = .ok (.invokevirtual 46, 3) := by decide +kernel
theorem d_CB_sum_8 : decode b_CB_sum 8 = .ok (.ireturn, 1) := by decide +kernel
theorem d_CB_combine_0 : decode b_CB_combine 0 = .ok (.iload_n 1, 1) := by decide +kernel
theorem d_CB_combine_1 : decode b_CB_combine 1 = .ok (.invokestatic 27, 3) := by decide +kernel
theorem d_CB_combine_4 : decode b_CB_combine 4 = .ok (.iload_n 2, 1) := by decide +kernel
theorem d_CB_combine_5 : decode b_CB_combine 5 = .ok (.invokestatic 27, 3) := by decide +kernel
theorem d_CB_combine_8 : decode b_CB_combine 8 = .ok (.iload_n 3, 1) := by decide +kernel
theorem d_CB_combine_9 : decode b_CB_combine 9 = .ok (.invokestatic 27, 3) := by decide +kernel
theorem d_CB_combine_12 : decode b_CB_combine 12 = .ok (.aload_n 0, 1) := by decide +kernel
theorem d_CB_combine_13 : decode b_CB_combine 13 = .ok (.getfield 19, 3) := by decide +kernel
theorem d_CB_combine_16 : decode b_CB_combine 16 = .ok (.aload_n 0, 1) := by decide +kernel
theorem d_CB_combine_17 : decode b_CB_combine 17 = .ok (.getfield 11, 3) := by decide +kernel
theorem d_CB_combine_20 : decode b_CB_combine 20 = .ok (.iload_n 1, 1) := by decide +kernel
theorem d_CB_combine_21 : decode b_CB_combine 21 = .ok (.aaload, 1) := by decide +kernel
theorem d_CB_combine_22 : decode b_CB_combine 22 = .ok (.aload_n 0, 1) := by decide +kernel
theorem d_CB_combine_23 : decode b_CB_combine 23 = .ok (.getfield 11, 3) := by decide +kernel
theorem d_CB_combine_26 : decode b_CB_combine 26 = .ok (.iload_n 2, 1) := by decide +kernel
theorem d_CB_combine_27 : decode b_CB_combine 27 = .ok (.aaload, 1) := by decide +kernel
theorem d_CB_combine_28 : decode b_CB_combine 28 = .ok (.invokevirtual 86, 3) := by decide +kernel
theorem d_CB_combine_31 : decode b_CB_combine 31 = .ok (.aload_n 0, 1) := by decide +kernel
theorem d_CB_combine_32 : decode b_CB_combine 32 = .ok (.getfield 23, 3) := by decide +kernel
theorem d_CB_combine_35 : decode b_CB_combine 35 = .ok (.invokevirtual 50, 3) := by decide +kernel
theorem d_CB_combine_38 : decode b_CB_combine 38 = .ok (.iconst 0, 1) := by decide +kernel
theorem d_CB_combine_39 : decode b_CB_combine 39 = .ok (.istore 5, 2) := by decide +kernel
theorem d_CB_combine_41 : decode b_CB_combine 41 = .ok (.iload 5, 2) := by decide +kernel
theorem d_CB_combine_43 : decode b_CB_combine 43 = .ok (.aload_n 0, 1) := by decide +kernel
theorem d_CB_combine_44 : decode b_CB_combine 44 = .ok (.getfield 19, 3) := by decide +kernel
theorem d_CB_combine_47 : decode b_CB_combine 47 = .ok (.getfield 90, 3) := by decide +kernel
theorem d_CB_combine_50 : decode b_CB_combine 50 = .ok (.if_icmp .ge 88, 3) := by decide +kernel
theorem d_CB_combine_53 : decode b_CB_combine 53 = .ok (.aload_n 0, 1) := by decide +kernel
theorem d_CB_combine_54 : decode b_CB_combine 54 = .ok (.getfield 19, 3) := by decide +kernel
theorem d_CB_combine_57 : decode b_CB_combine 57 = .ok (.getfield 91, 3) := by decide +kernel
theorem d_CB_combine_60 : decode b_CB_combine 60 = .ok (.iload 5, 2) := by decide +kernel
theorem d_CB_combine_62 : decode b_CB_combine 62 = .ok (.laload, 1) := by decide +kernel
theorem d_CB_combine_63 : decode b_CB_combine 63 = .ok (.lstore 6, 2) := by decide +kernel
theorem d_CB_combine_65 : decode b_CB_combine 65 = .ok (.aload_n 0, 1) := by decide +kernel
theorem d_CB_combine_66 : decode b_CB_combine 66 = .ok (.getfield 19, 3) := by decide +kernel
theorem d_CB_combine_69 : decode b_CB_combine 69 = .ok (.getfield 94, 3) := by decide +kernel
theorem d_CB_combine_72 : decode b_CB_combine 72 = .ok (.iload 5, 2) := by decide +kernel
theorem d_CB_combine_74 : decode b_CB_combine 74 = .ok (.laload, 1) := by decide +kernel
theorem d_CB_combine_75 : decode b_CB_combine 75 = .ok (.lstore 8, 2) := by decide +kernel
theorem d_CB_combine_77 : decode b_CB_combine 77 = .ok (.iload 4, 2) := by decide +kernel
theorem d_CB_combine_79 : decode b_CB_combine 79 = .ok (.lload 6, 2) := by decide +kernel
theorem d_CB_combine_81 : decode b_CB_combine 81 = .ok (.lload 8, 2) := by decide +kernel
theorem d_CB_combine_83 : decode b_CB_combine 83 = .ok (.invokestatic 136, 3) := by decide +kernel
theorem d_CB_combine_86 : decode b_CB_combine 86 = .ok (.ifCond .ne 5, 3) := by decide +kernel
theorem d_CB_combine_89 : decode b_CB_combine 89 = .ok (.iconst 0, 1) := by decide +kernel
theorem d_CB_combine_90 : decode b_CB_combine 90 = .ok (.ireturn, 1) := by decide +kernel
theorem d_CB_combine_91 : decode b_CB_combine 91 = .ok (.aload_n 0, 1) := by decide +kernel
theorem d_CB_combine_92 : decode b_CB_combine 92 = .ok (.getfield 23, 3) := by decide +kernel
theorem d_CB_combine_95 : decode b_CB_combine 95 = .ok (.aload_n 0, 1) := by decide +kernel
theorem d_CB_combine_96 : decode b_CB_combine 96 = .ok (.getfield 19, 3) := by decide +kernel
theorem d_CB_combine_99 : decode b_CB_combine 99 = .ok (.getfield 139, 3) := by decide +kernel
theorem d_CB_combine_102 : decode b_CB_combine 102 = .ok (.iload 5, 2) := by decide +kernel
theorem d_CB_combine_104 : decode b_CB_combine 104 = .ok (.iaload, 1) := by decide +kernel
theorem d_CB_combine_105 : decode b_CB_combine 105 = .ok (.aload_n 0, 1) := by decide +kernel
theorem d_CB_combine_106 : decode b_CB_combine 106 = .ok (.getfield 19, 3) := by decide +kernel
theorem d_CB_combine_109 : decode b_CB_combine 109 = .ok (.getfield 140, 3) := by decide +kernel
theorem d_CB_combine_112 : decode b_CB_combine 112 = .ok (.iload 5, 2) := by decide +kernel
theorem d_CB_combine_114 : decode b_CB_combine 114 = .ok (.laload, 1) := by decide +kernel
theorem d_CB_combine_115 : decode b_CB_combine 115 = .ok (.iload 4, 2) := by decide +kernel
theorem d_CB_combine_117 : decode b_CB_combine 117 = .ok (.lload 6, 2) := by decide +kernel
theorem d_CB_combine_119 : decode b_CB_combine 119 = .ok (.lload 8, 2) := by decide +kernel
theorem d_CB_combine_121 : decode b_CB_combine 121 = .ok (.invokestatic 141, 3) := by decide +kernel
theorem d_CB_combine_124 : decode b_CB_combine 124 = .ok (.invokevirtual 71, 3) := by decide +kernel
theorem d_CB_combine_127 : decode b_CB_combine 127 = .ok (.ifCond .ne 5, 3) := by decide +kernel
theorem d_CB_combine_130 : decode b_CB_combine 130 = .ok (.iconst 0, 1) := by decide +kernel
theorem d_CB_combine_131 : decode b_CB_combine 131 = .ok (.ireturn, 1) := by decide +kernel
theorem d_CB_combine_132 : decode b_CB_combine 132 = .ok (.iinc 5 1, 3) := by decide +kernel
theorem d_CB_combine_135 : decode b_CB_combine 135 = .ok (.goto (-94), 3) := by decide +kernel
theorem d_CB_combine_138 : decode b_CB_combine 138 = .ok (.aload_n 0, 1) := by decide +kernel
theorem d_CB_combine_139 : decode b_CB_combine 139 = .ok (.iload_n 3, 1) := by decide +kernel
theorem d_CB_combine_140 : decode b_CB_combine 140 = .ok (.invokevirtual 74, 3) := by decide +kernel
theorem d_CB_combine_143 : decode b_CB_combine 143 = .ok (.iconst 1, 1) := by decide +kernel
theorem d_CB_combine_144 : decode b_CB_combine 144 = .ok (.ireturn, 1) := by decide +kernel
theorem d_Prs_align_0 : decode b_Prs_align 0 = .ok (.iconst 0, 1) := by decide +kernel
theorem d_Prs_align_1 : decode b_Prs_align 1 = .ok (.istore_n 3, 1) := by decide +kernel
theorem d_Prs_align_2 : decode b_Prs_align 2 = .ok (.iconst 0, 1) := by decide +kernel
theorem d_Prs_align_3 : decode b_Prs_align 3 = .ok (.istore 4, 2) := by decide +kernel
theorem d_Prs_align_5 : decode b_Prs_align 5 = .ok (.aload_n 0, 1) := by decide +kernel
theorem d_Prs_align_6 : decode b_Prs_align 6 = .ok (.iconst 0, 1) := by decide +kernel
theorem d_Prs_align_7 : decode b_Prs_align 7 = .ok (.putfield 25, 3) := by decide +kernel
theorem d_Prs_align_10 : decode b_Prs_align 10 = .ok (.aload_n 0, 1) := by decide +kernel
theorem d_Prs_align_11 : decode b_Prs_align 11 = .ok (.getfield 25, 3) := by decide +kernel
theorem d_Prs_align_14 : decode b_Prs_align 14 = .ok (.sipush 128, 3) := by decide +kernel
theorem d_Prs_align_17 : decode b_Prs_align 17 = .ok (.if_icmp .ge 179, 3) := by decide +kernel
theorem d_Prs_align_20 : decode b_Prs_align 20 = .ok (.iload_n 3, 1) := by decide +kernel
theorem d_Prs_align_21 : decode b_Prs_align 21 = .ok (.aload_n 1, 1) := by decide +kernel
theorem d_Prs_align_22 : decode b_Prs_align 22 = .ok (.getfield 29, 3) := by decide +kernel
theorem d_Prs_align_25 : decode b_Prs_align 25 = .ok (.if_icmp .lt 12, 3) := by decide +kernel
theorem d_Prs_align_28 : decode b_Prs_align 28 = .ok (.iload 4, 2) := by decide +kernel
theorem d_Prs_align_30 : decode b_Prs_align 30 = .ok (.aload_n 2, 1) := by decide +kernel
theorem d_Prs_align_31 : decode b_Prs_align 31 = .ok (.getfield 29, 3) := by decide +kernel
theorem d_Prs_align_34 : decode b_Prs_align 34 = .ok (.if_icmp .ge 162, 3) := by decide +kernel
theorem d_Prs_align_37 : decode b_Prs_align 37 = .ok (.aload_n 1, 1) := by decide +kernel
theorem d_Prs_align_38 : decode b_Prs_align 38 = .ok (.iload_n 3, 1) := by decide +kernel
theorem d_Prs_align_39 : decode b_Prs_align 39 = .ok (.aload_n 2, 1) := by decide +kernel
theorem d_Prs_align_40 : decode b_Prs_align 40 = .ok (.iload 4, 2) := by decide +kernel
theorem d_Prs_align_42 : decode b_Prs_align 42 = .ok (.invokestatic 32, 3) := by decide +kernel
theorem d_Prs_align_45 : decode b_Prs_align 45 = .ok (.istore 5, 2) := by decide +kernel
theorem d_Prs_align_47 : decode b_Prs_align 47 = .ok (.iload 5, 2) := by decide +kernel
theorem d_Prs_align_49 : decode b_Prs_align 49 = .ok (.ifCond .gt 7, 3) := by decide +kernel
theorem d_Prs_align_52 : decode b_Prs_align 52 = .ok (.aload_n 1, 1) := by decide +kernel
theorem d_Prs_align_53 : decode b_Prs_align 53 = .ok (.goto 4, 3) := by decide +kernel
theorem d_Prs_align_56 : decode b_Prs_align 56 = .ok (.aload_n 2, 1) := by decide +kernel
theorem d_Prs_align_57 : decode b_Prs_align 57 = .ok (.astore 6, 2) := by decide +kernel
theorem d_Prs_align_59 : decode b_Prs_align 59 = .ok (.iload 5, 2) := by decide +kernel
theorem d_Prs_align_61 : decode b_Prs_align 61 = .ok (.ifCond .gt 7, 3) := by decide +kernel
theorem d_Prs_align_64 : decode b_Prs_align 64 = .ok (.iload_n 3, 1) := by decide +kernel
theorem d_Prs_align_65 : decode b_Prs_align 65 = .ok (.goto 5, 3) := by decide +kernel
theorem d_Prs_align_68 : decode b_Prs_align 68 = .ok (.iload 4, 2) := by decide +kernel
theorem d_Prs_align_70 : decode b_Prs_align 70 = .ok (.istore 7, 2) := by decide +kernel
theorem d_Prs_align_72 : decode b_Prs_align 72 = .ok (.aload_n 0, 1) := by decide +kernel
theorem d_Prs_align_73 : decode b_Prs_align 73 = .ok (.getfield 11, 3) := by decide +kernel
theorem d_Prs_align_76 : decode b_Prs_align 76 = .ok (.aload_n 0, 1) := by decide +kernel
theorem d_Prs_align_77 : decode b_Prs_align 77 = .ok (.getfield 25, 3) := by decide +kernel
theorem d_Prs_align_80 : decode b_Prs_align 80 = .ok (.aload 6, 2) := by decide +kernel
theorem d_Prs_align_82 : decode b_Prs_align 82 = .ok (.getfield 36, 3) := by decide +kernel
theorem d_Prs_align_85 : decode b_Prs_align 85 = .ok (.iload 7, 2) := by decide +kernel
theorem d_Prs_align_87 : decode b_Prs_align 87 = .ok (.iaload, 1) := by decide +kernel
theorem d_Prs_align_88 : decode b_Prs_align 88 = .ok (.iastore, 1) := by decide +kernel
theorem d_Prs_align_89 : decode b_Prs_align 89 = .ok (.aload_n 0, 1) := by decide +kernel
theorem d_Prs_align_90 : decode b_Prs_align 90 = .ok (.getfield 15, 3) := by decide +kernel
theorem d_Prs_align_93 : decode b_Prs_align 93 = .ok (.aload_n 0, 1) := by decide +kernel
theorem d_Prs_align_94 : decode b_Prs_align 94 = .ok (.getfield 25, 3) := by decide +kernel
theorem d_Prs_align_97 : decode b_Prs_align 97 = .ok (.aload 6, 2) := by decide +kernel
theorem d_Prs_align_99 : decode b_Prs_align 99 = .ok (.getfield 37, 3) := by decide +kernel
theorem d_Prs_align_102 : decode b_Prs_align 102 = .ok (.iload 7, 2) := by decide +kernel
theorem d_Prs_align_104 : decode b_Prs_align 104 = .ok (.laload, 1) := by decide +kernel
theorem d_Prs_align_105 : decode b_Prs_align 105 = .ok (.lastore, 1) := by decide +kernel
theorem d_Prs_align_106 : decode b_Prs_align 106 = .ok (.aload_n 0, 1) := by decide +kernel
theorem d_Prs_align_107 : decode b_Prs_align 107 = .ok (.getfield 19, 3) := by decide +kernel
theorem d_Prs_align_110 : decode b_Prs_align 110 = .ok (.aload_n 0, 1) := by decide +kernel
theorem d_Prs_align_111 : decode b_Prs_align 111 = .ok (.getfield 25, 3) := by decide +kernel
theorem d_Prs_align_114 : decode b_Prs_align 114 = .ok (.iload 5, 2) := by decide +kernel
theorem d_Prs_align_116 : decode b_Prs_align 116 = .ok (.ifCond .gt 12, 3) := by decide +kernel
theorem d_Prs_align_119 : decode b_Prs_align 119 = .ok (.aload_n 1, 1) := by decide +kernel
theorem d_Prs_align_120 : decode b_Prs_align 120 = .ok (.getfield 38, 3) := by decide +kernel
theorem d_Prs_align_123 : decode b_Prs_align 123 = .ok (.iload_n 3, 1) := by decide +kernel
theorem d_Prs_align_124 : decode b_Prs_align 124 = .ok (.laload, 1) := by decide +kernel
theorem d_Prs_align_125 : decode b_Prs_align 125 = .ok (.goto 4, 3) := by decide +kernel
theorem d_Prs_align_128 : decode b_Prs_align 128 = .ok (.lconst 0, 1) := by decide +kernel
theorem d_Prs_align_129 : decode b_Prs_align 129 = .ok (.lastore, 1) := by decide +kernel
theorem d_Prs_align_130 : decode b_Prs_align 130 = .ok (.aload_n 0, 1) := by decide +kernel
theorem d_Prs_align_131 : decode b_Prs_align 131 = .ok (.getfield 22, 3) := by decide +kernel
theorem d_Prs_align_134 : decode b_Prs_align 134 = .ok (.aload_n 0, 1) := by decide +kernel
theorem d_Prs_align_135 : decode b_Prs_align 135 = .ok (.getfield 25, 3) := by decide +kernel
theorem d_Prs_align_138 : decode b_Prs_align 138 = .ok (.iload 5, 2) := by decide +kernel
theorem d_Prs_align_140 : decode b_Prs_align 140 = .ok (.ifCond .lt 13, 3) := by decide +kernel
theorem d_Prs_align_143 : decode b_Prs_align 143 = .ok (.aload_n 2, 1) := by decide +kernel
theorem d_Prs_align_144 : decode b_Prs_align 144 = .ok (.getfield 38, 3) := by decide +kernel
theorem d_Prs_align_147 : decode b_Prs_align 147 = .ok (.iload 4, 2) := by decide +kernel
theorem d_Prs_align_149 : decode b_Prs_align 149 = .ok (.laload, 1) := by decide +kernel
theorem d_Prs_align_150 : decode b_Prs_align 150 = .ok (.goto 4, 3) := by decide +kernel
theorem d_Prs_align_153 : decode b_Prs_align 153 = .ok (.lconst 0, 1) := by decide +kernel
theorem d_Prs_align_154 : decode b_Prs_align 154 = .ok (.lastore, 1) := by decide +kernel
theorem d_Prs_align_155 : decode b_Prs_align 155 = .ok (.iload_n 3, 1) := by decide +kernel
theorem d_Prs_align_156 : decode b_Prs_align 156 = .ok (.iload 5, 2) := by decide +kernel
theorem d_Prs_align_158 : decode b_Prs_align 158 = .ok (.ifCond .gt 7, 3) := by decide +kernel
theorem d_Prs_align_161 : decode b_Prs_align 161 = .ok (.iconst 1, 1) := by decide +kernel
theorem d_Prs_align_162 : decode b_Prs_align 162 = .ok (.goto 4, 3) := by decide +kernel
theorem d_Prs_align_165 : decode b_Prs_align 165 = .ok (.iconst 0, 1) := by decide +kernel
theorem d_Prs_align_166 : decode b_Prs_align 166 = .ok (.iadd, 1) := by decide +kernel
theorem d_Prs_align_167 : decode b_Prs_align 167 = .ok (.istore_n 3, 1) := by decide +kernel
theorem d_Prs_align_168 : decode b_Prs_align 168 = .ok (.iload 4, 2) := by decide +kernel
theorem d_Prs_align_170 : decode b_Prs_align 170 = .ok (.iload 5, 2) := by decide +kernel
theorem d_Prs_align_172 : decode b_Prs_align 172 = .ok (.ifCond .lt 7, 3) := by decide +kernel
theorem d_Prs_align_175 : decode b_Prs_align 175 = .ok (.iconst 1, 1) := by decide +kernel
theorem d_Prs_align_176 : decode b_Prs_align 176 = .ok (.goto 4, 3) := by decide +kernel
theorem d_Prs_align_179 : decode b_Prs_align 179 = .ok (.iconst 0, 1) := by decide +kernel
theorem d_Prs_align_180 : decode b_Prs_align 180 = .ok (.iadd, 1) := by decide +kernel
theorem d_Prs_align_181 : decode b_Prs_align 181 = .ok (.istore 4, 2) := by decide +kernel
theorem d_Prs_align_183 : decode b_Prs_align 183 = .ok (.aload_n 0, 1) := by decide +kernel
theorem d_Prs_align_184 : decode b_Prs_align 184 = .ok (.dup, 1) := by decide +kernel
theorem d_Prs_align_185 : decode b_Prs_align 185 = .ok (.getfield 25, 3) := by decide +kernel
theorem d_Prs_align_188 : decode b_Prs_align 188 = .ok (.iconst 1, 1) := by decide +kernel
theorem d_Prs_align_189 : decode b_Prs_align 189 = .ok (.iadd, 1) := by decide +kernel
theorem d_Prs_align_190 : decode b_Prs_align 190 = .ok (.putfield 25, 3) := by decide +kernel
theorem d_Prs_align_193 : decode b_Prs_align 193 = .ok (.goto (-183), 3) := by decide +kernel
theorem d_Prs_align_196 : decode b_Prs_align 196 = .ok (.return_, 1) := by decide +kernel
theorem d_Prs_orderOfNext_0 : decode b_Prs_orderOfNext 0 = .ok (.iload_n 1, 1) := by decide +kernel
theorem d_Prs_orderOfNext_1 : decode b_Prs_orderOfNext 1 = .ok (.aload_n 0, 1) := by decide +kernel
theorem d_Prs_orderOfNext_2 : decode b_Prs_orderOfNext 2 = .ok (.getfield 29, 3) := by decide +kernel
theorem d_Prs_orderOfNext_5 : decode b_Prs_orderOfNext 5 = .ok (.if_icmp .lt 5, 3) := by decide +kernel
theorem d_Prs_orderOfNext_8 : decode b_Prs_orderOfNext 8 = .ok (.iconst 1, 1) := by decide +kernel
theorem d_Prs_orderOfNext_9 : decode b_Prs_orderOfNext 9 = .ok (.ireturn, 1) := by decide +kernel
theorem d_Prs_orderOfNext_10 : decode b_Prs_orderOfNext 10 = .ok (.iload_n 3, 1) := by decide +kernel
theorem d_Prs_orderOfNext_11 : decode b_Prs_orderOfNext 11 = .ok (.aload_n 2, 1) := by decide +kernel
theorem d_Prs_orderOfNext_12 : decode b_Prs_orderOfNext 12 = .ok (.getfield 29, 3) := by decide +kernel
theorem d_Prs_orderOfNext_15 : decode b_Prs_orderOfNext 15 = .ok (.if_icmp .lt 5, 3) := by decide +kernel
theorem d_Prs_orderOfNext_18 : decode b_Prs_orderOfNext 18 = .ok (.iconst (-1), 1) := by decide +kernel
theorem d_Prs_orderOfNext_19 : decode b_Prs_orderOfNext 19 = .ok (.ireturn, 1) := by decide +kernel
theorem d_Prs_orderOfNext_20 : decode b_Prs_orderOfNext 20 = .ok (.aload_n 0, 1) := by decide +kernel
theorem d_Prs_orderOfNext_21 : decode b_Prs_orderOfNext 21 = .ok (.getfield 36, 3) := by decide +kernel
theorem d_Prs_orderOfNext_24 : decode b_Prs_orderOfNext 24 = .ok (.iload_n 1, 1) := by decide +kernel
theorem d_Prs_orderOfNext_25 : decode b_Prs_orderOfNext 25 = .ok (.iaload, 1) := by decide +kernel
theorem d_Prs_orderOfNext_26 : decode b_Prs_orderOfNext 26 = .ok (.aload_n 0, 1) := by decide +kernel
theorem d_Prs_orderOfNext_27 : decode b_Prs_orderOfNext 27 = .ok (.getfield 37, 3) := by decide +kernel
theorem d_Prs_orderOfNext_30 : decode b_Prs_orderOfNext 30 = .ok (.iload_n 1, 1) := by decide +kernel
theorem d_Prs_orderOfNext_31 : decode b_Prs_orderOfNext 31 = .ok (.laload, 1) := by decide +kernel
theorem d_Prs_orderOfNext_32 : decode b_Prs_orderOfNext 32 = .ok (.aload_n 2, 1) := by decide +kernel
theorem d_Prs_orderOfNext_33 : decode b_Prs_orderOfNext 33 = .ok (.getfield 36, 3) := by decide +kernel
theorem d_Prs_orderOfNext_36 : decode b_Prs_orderOfNext 36 = .ok (.iload_n 3, 1) := by decide +kernel
theorem d_Prs_orderOfNext_37 : decode b_Prs_orderOfNext 37 = .ok (.iaload, 1) := by decide +kernel
theorem d_Prs_orderOfNext_38 : decode b_Prs_orderOfNext 38 = .ok (.aload_n 2, 1) := by decide +kernel
theorem d_Prs_orderOfNext_39 : decode b_Prs_orderOfNext 39 = .ok (.getfield 37, 3) := by decide +kernel
theorem d_Prs_orderOfNext_42 : decode b_Prs_orderOfNext 42 = .ok (.iload_n 3, 1) := by decide +kernel
theorem d_Prs_orderOfNext_43 : decode b_Prs_orderOfNext 43 = .ok (.laload, 1) := by decide +kernel
theorem d_Prs_orderOfNext_44 : decode b_Prs_orderOfNext 44 = .ok (.invokestatic 41, 3) := by decide +kernel
theorem d_Prs_orderOfNext_47 : decode b_Prs_orderOfNext 47 = .ok (.ireturn, 1) := by decide +kernel
theorem d_Bag_empty_0 : decode b_Bag_empty 0 = .ok (.aload_n 0, 1) := by decide +kernel
theorem d_Bag_empty_1 : decode b_Bag_empty 1 = .ok (.iconst 0, 1) := by decide +kernel
theorem d_Bag_empty_2 : decode b_Bag_empty 2 = .ok (.putfield 22, 3) := by decide +kernel
theorem d_Bag_empty_5 : decode b_Bag_empty 5 = .ok (.return_, 1) := by decide +kernel
theorem d_CB_fits_0 : decode b_CB_fits 0 = .ok (.iload_n 0, 1) := by decide +kernel
theorem d_CB_fits_1 : decode b_CB_fits 1 = .ok (.lookupswitch 39 #[(0, 27), (1, 33)], 27) := by decide +kernel
theorem d_CB_fits_28 : decode b_CB_fits 28 = .ok (.lload_n 1, 1) := by decide +kernel
theorem d_CB_fits_29 : decode b_CB_fits 29 = .ok (.lload_n 3, 1) := by decide +kernel
theorem d_CB_fits_30 : decode b_CB_fits 30 = .ok (.invokestatic 42, 3) := by decide +kernel
theorem d_CB_fits_33 : decode b_CB_fits 33 = .ok (.ireturn, 1) := by decide +kernel
theorem d_CB_fits_34 : decode b_CB_fits 34 = .ok (.lload_n 1, 1) := by decide +kernel
theorem d_CB_fits_35 : decode b_CB_fits 35 = .ok (.lload_n 3, 1) := by decide +kernel
theorem d_CB_fits_36 : decode b_CB_fits 36 = .ok (.invokestatic 145, 3) := by decide +kernel
theorem d_CB_fits_39 : decode b_CB_fits 39 = .ok (.ireturn, 1) := by decide +kernel
theorem d_CB_fits_40 : decode b_CB_fits 40 = .ok (.iconst 1, 1) := by decide +kernel
theorem d_CB_fits_41 : decode b_CB_fits 41 = .ok (.ireturn, 1) := by decide +kernel
theorem d_CB_differenceFits_0 : decode b_CB_differenceFits 0 = .ok (.lload_n 2, 1) := by decide +kernel
theorem d_CB_differenceFits_1 : decode b_CB_differenceFits 1 = .ok (.lconst 0, 1) := by decide +kernel
theorem d_CB_differenceFits_2 : decode b_CB_differenceFits 2 = .ok (.lcmp, 1) := by decide +kernel
theorem d_CB_differenceFits_3 : decode b_CB_differenceFits 3 = .ok (.ifCond .lt 21, 3) := by decide +kernel
theorem d_CB_differenceFits_6 : decode b_CB_differenceFits 6 = .ok (.lload_n 0, 1) := by decide +kernel
theorem d_CB_differenceFits_7 : decode b_CB_differenceFits 7 = .ok (.ldc2_w 148, 3) := by decide +kernel
theorem d_CB_differenceFits_10 : decode b_CB_differenceFits 10 = .ok (.lload_n 2, 1) := by decide +kernel
theorem d_CB_differenceFits_11 : decode b_CB_differenceFits 11 = .ok (.ladd, 1) := by decide +kernel
theorem d_CB_differenceFits_12 : decode b_CB_differenceFits 12 = .ok (.lcmp, 1) := by decide +kernel
theorem d_CB_differenceFits_13 : decode b_CB_differenceFits 13 = .ok (.ifCond .lt 7, 3) := by decide +kernel
theorem d_CB_differenceFits_16 : decode b_CB_differenceFits 16 = .ok (.iconst 1, 1) := by decide +kernel
theorem d_CB_differenceFits_17 : decode b_CB_differenceFits 17 = .ok (.goto 22, 3) := by decide +kernel
theorem d_CB_differenceFits_20 : decode b_CB_differenceFits 20 = .ok (.iconst 0, 1) := by decide +kernel
theorem d_CB_differenceFits_21 : decode b_CB_differenceFits 21 = .ok (.goto 18, 3) := by decide +kernel
theorem d_CB_differenceFits_24 : decode b_CB_differenceFits 24 = .ok (.lload_n 0, 1) := by decide +kernel
theorem d_CB_differenceFits_25 : decode b_CB_differenceFits 25 = .ok (.ldc2_w 99, 3) := by decide +kernel
theorem d_CB_differenceFits_28 : decode b_CB_differenceFits 28 = .ok (.lload_n 2, 1) := by decide +kernel
theorem d_CB_differenceFits_29 : decode b_CB_differenceFits 29 = .ok (.ladd, 1) := by decide +kernel
theorem d_CB_differenceFits_30 : decode b_CB_differenceFits 30 = .ok (.lcmp, 1) := by decide +kernel
theorem d_CB_differenceFits_31 : decode b_CB_differenceFits 31 = .ok (.ifCond .gt 7, 3) := by decide +kernel
theorem d_CB_differenceFits_34 : decode b_CB_differenceFits 34 = .ok (.iconst 1, 1) := by decide +kernel
theorem d_CB_differenceFits_35 : decode b_CB_differenceFits 35 = .ok (.goto 4, 3) := by decide +kernel
theorem d_CB_differenceFits_38 : decode b_CB_differenceFits 38 = .ok (.iconst 0, 1) := by decide +kernel
theorem d_CB_differenceFits_39 : decode b_CB_differenceFits 39 = .ok (.ireturn, 1) := by decide +kernel
theorem d_CB_combined_0 : decode b_CB_combined 0 = .ok (.iload_n 0, 1) := by decide +kernel
theorem d_CB_combined_1 : decode b_CB_combined 1 = .ok (.lookupswitch 35 #[(0, 27), (1, 31)], 27) := by decide +kernel
theorem d_CB_combined_28 : decode b_CB_combined 28 = .ok (.lload_n 1, 1) := by decide +kernel
theorem d_CB_combined_29 : decode b_CB_combined 29 = .ok (.lload_n 3, 1) := by decide +kernel
theorem d_CB_combined_30 : decode b_CB_combined 30 = .ok (.ladd, 1) := by decide +kernel
theorem d_CB_combined_31 : decode b_CB_combined 31 = .ok (.lreturn, 1) := by decide +kernel
theorem d_CB_combined_32 : decode b_CB_combined 32 = .ok (.lload_n 1, 1) := by decide +kernel
theorem d_CB_combined_33 : decode b_CB_combined 33 = .ok (.lload_n 3, 1) := by decide +kernel
theorem d_CB_combined_34 : decode b_CB_combined 34 = .ok (.lsub, 1) := by decide +kernel
theorem d_CB_combined_35 : decode b_CB_combined 35 = .ok (.lreturn, 1) := by decide +kernel
theorem d_CB_combined_36 : decode b_CB_combined 36 = .ok (.lload_n 1, 1) := by decide +kernel
theorem d_CB_combined_37 : decode b_CB_combined 37 = .ok (.lload_n 3, 1) := by decide +kernel
theorem d_CB_combined_38 : decode b_CB_combined 38 = .ok (.invokestatic 107, 3) := by decide +kernel
theorem d_CB_combined_41 : decode b_CB_combined 41 = .ok (.lreturn, 1) := by decide +kernel
theorem d_JM_min_0 : decode b_JM_min 0 = .ok (.lload_n 0, 1) := by decide +kernel
theorem d_JM_min_1 : decode b_JM_min 1 = .ok (.lload_n 2, 1) := by decide +kernel
theorem d_JM_min_2 : decode b_JM_min 2 = .ok (.lcmp, 1) := by decide +kernel
theorem d_JM_min_3 : decode b_JM_min 3 = .ok (.ifCond .gt 7, 3) := by decide +kernel
theorem d_JM_min_6 : decode b_JM_min 6 = .ok (.lload_n 0, 1) := by decide +kernel
theorem d_JM_min_7 : decode b_JM_min 7 = .ok (.goto 4, 3) := by decide +kernel
theorem d_JM_min_10 : decode b_JM_min 10 = .ok (.lload_n 2, 1) := by decide +kernel
theorem d_JM_min_11 : decode b_JM_min 11 = .ok (.lreturn, 1) := by decide +kernel
theorem d_Bag_append_0 : decode b_Bag_append 0 = .ok (.lload 4, 2) := by decide +kernel
theorem d_Bag_append_2 : decode b_Bag_append 2 = .ok (.lconst 0, 1) := by decide +kernel
theorem d_Bag_append_3 : decode b_Bag_append 3 = .ok (.lcmp, 1) := by decide +kernel
theorem d_Bag_append_4 : decode b_Bag_append 4 = .ok (.ifCond .ne 5, 3) := by decide +kernel
theorem d_Bag_append_7 : decode b_Bag_append 7 = .ok (.iconst 1, 1) := by decide +kernel
theorem d_Bag_append_8 : decode b_Bag_append 8 = .ok (.ireturn, 1) := by decide +kernel
theorem d_Bag_append_9 : decode b_Bag_append 9 = .ok (.aload_n 0, 1) := by decide +kernel
theorem d_Bag_append_10 : decode b_Bag_append 10 = .ok (.getfield 22, 3) := by decide +kernel
theorem d_Bag_append_13 : decode b_Bag_append 13 = .ok (.bipush 64, 2) := by decide +kernel
theorem d_Bag_append_15 : decode b_Bag_append 15 = .ok (.if_icmp .lt 5, 3) := by decide +kernel
theorem d_Bag_append_18 : decode b_Bag_append 18 = .ok (.iconst 0, 1) := by decide +kernel
theorem d_Bag_append_19 : decode b_Bag_append 19 = .ok (.ireturn, 1) := by decide +kernel
theorem d_Bag_append_20 : decode b_Bag_append 20 = .ok (.aload_n 0, 1) := by decide +kernel
theorem d_Bag_append_21 : decode b_Bag_append 21 = .ok (.getfield 9, 3) := by decide +kernel
theorem d_Bag_append_24 : decode b_Bag_append 24 = .ok (.aload_n 0, 1) := by decide +kernel
theorem d_Bag_append_25 : decode b_Bag_append 25 = .ok (.getfield 22, 3) := by decide +kernel
theorem d_Bag_append_28 : decode b_Bag_append 28 = .ok (.iload_n 1, 1) := by decide +kernel
theorem d_Bag_append_29 : decode b_Bag_append 29 = .ok (.iastore, 1) := by decide +kernel
theorem d_Bag_append_30 : decode b_Bag_append 30 = .ok (.aload_n 0, 1) := by decide +kernel
theorem d_Bag_append_31 : decode b_Bag_append 31 = .ok (.getfield 15, 3) := by decide +kernel
theorem d_Bag_append_34 : decode b_Bag_append 34 = .ok (.aload_n 0, 1) := by decide +kernel
theorem d_Bag_append_35 : decode b_Bag_append 35 = .ok (.getfield 22, 3) := by decide +kernel
theorem d_Bag_append_38 : decode b_Bag_append 38 = .ok (.lload_n 2, 1) := by decide +kernel
theorem d_Bag_append_39 : decode b_Bag_append 39 = .ok (.lastore, 1) := by decide +kernel
theorem d_Bag_append_40 : decode b_Bag_append 40 = .ok (.aload_n 0, 1) := by decide +kernel
theorem d_Bag_append_41 : decode b_Bag_append 41 = .ok (.getfield 19, 3) := by decide +kernel
theorem d_Bag_append_44 : decode b_Bag_append 44 = .ok (.aload_n 0, 1) := by decide +kernel
theorem d_Bag_append_45 : decode b_Bag_append 45 = .ok (.getfield 22, 3) := by decide +kernel
theorem d_Bag_append_48 : decode b_Bag_append 48 = .ok (.lload 4, 2) := by decide +kernel
theorem d_Bag_append_50 : decode b_Bag_append 50 = .ok (.lastore, 1) := by decide +kernel
theorem d_Bag_append_51 : decode b_Bag_append 51 = .ok (.aload_n 0, 1) := by decide +kernel
theorem d_Bag_append_52 : decode b_Bag_append 52 = .ok (.dup, 1) := by decide +kernel
theorem d_Bag_append_53 : decode b_Bag_append 53 = .ok (.getfield 22, 3) := by decide +kernel
theorem d_Bag_append_56 : decode b_Bag_append 56 = .ok (.iconst 1, 1) := by decide +kernel
theorem d_Bag_append_57 : decode b_Bag_append 57 = .ok (.iadd, 1) := by decide +kernel
theorem d_Bag_append_58 : decode b_Bag_append 58 = .ok (.putfield 22, 3) := by decide +kernel
theorem d_Bag_append_61 : decode b_Bag_append 61 = .ok (.iconst 1, 1) := by decide +kernel
theorem d_Bag_append_62 : decode b_Bag_append 62 = .ok (.ireturn, 1) := by decide +kernel
theorem d_CB_exchangeSpare_0 : decode b_CB_exchangeSpare 0 = .ok (.aload_n 0, 1) := by decide +kernel
theorem d_CB_exchangeSpare_1 : decode b_CB_exchangeSpare 1 = .ok (.getfield 11, 3) := by decide +kernel
theorem d_CB_exchangeSpare_4 : decode b_CB_exchangeSpare 4 = .ok (.iload_n 1, 1) := by decide +kernel
theorem d_CB_exchangeSpare_5 : decode b_CB_exchangeSpare 5 = .ok (.aaload, 1) := by decide +kernel
theorem d_CB_exchangeSpare_6 : decode b_CB_exchangeSpare 6 = .ok (.astore_n 2, 1) := by decide +kernel
theorem d_CB_exchangeSpare_7 : decode b_CB_exchangeSpare 7 = .ok (.aload_n 0, 1) := by decide +kernel
theorem d_CB_exchangeSpare_8 : decode b_CB_exchangeSpare 8 = .ok (.getfield 11, 3) := by decide +kernel
theorem d_CB_exchangeSpare_11 : decode b_CB_exchangeSpare 11 = .ok (.iload_n 1, 1) := by decide +kernel
theorem d_CB_exchangeSpare_12 : decode b_CB_exchangeSpare 12 = .ok (.aload_n 0, 1) := by decide +kernel
theorem d_CB_exchangeSpare_13 : decode b_CB_exchangeSpare 13 = .ok (.getfield 23, 3) := by decide +kernel
theorem d_CB_exchangeSpare_16 : decode b_CB_exchangeSpare 16 = .ok (.aastore, 1) := by decide +kernel
theorem d_CB_exchangeSpare_17 : decode b_CB_exchangeSpare 17 = .ok (.aload_n 0, 1) := by decide +kernel
theorem d_CB_exchangeSpare_18 : decode b_CB_exchangeSpare 18 = .ok (.aload_n 2, 1) := by decide +kernel
theorem d_CB_exchangeSpare_19 : decode b_CB_exchangeSpare 19 = .ok (.putfield 23, 3) := by decide +kernel
theorem d_CB_exchangeSpare_22 : decode b_CB_exchangeSpare 22 = .ok (.return_, 1) := by decide +kernel
theorem d_Law_less_0 : decode b_Law_less 0 = .ok (.aload 4, 2) := by decide +kernel
theorem d_Law_less_2 : decode b_Law_less 2 = .ok (.iconst 0, 1) := by decide +kernel
theorem d_Law_less_3 : decode b_Law_less 3 = .ok (.aload_n 0, 1) := by decide +kernel
theorem d_Law_less_4 : decode b_Law_less 4 = .ok (.iload_n 1, 1) := by decide +kernel
theorem d_Law_less_5 : decode b_Law_less 5 = .ok (.iload_n 2, 1) := by decide +kernel
theorem d_Law_less_6 : decode b_Law_less 6 = .ok (.iload_n 3, 1) := by decide +kernel
theorem d_Law_less_7 : decode b_Law_less 7 = .ok (.invokevirtual 24, 3) := by decide +kernel
theorem d_Law_less_10 : decode b_Law_less 10 = .ok (.ifCond .eq 7, 3) := by decide +kernel
theorem d_Law_less_13 : decode b_Law_less 13 = .ok (.lconst 1, 1) := by decide +kernel
theorem d_Law_less_14 : decode b_Law_less 14 = .ok (.goto 4, 3) := by decide +kernel
theorem d_Law_less_17 : decode b_Law_less 17 = .ok (.lconst 0, 1) := by decide +kernel
theorem d_Law_less_18 : decode b_Law_less 18 = .ok (.lastore, 1) := by decide +kernel
theorem d_Law_less_19 : decode b_Law_less 19 = .ok (.goto 7, 3) := by decide +kernel
theorem d_Law_less_22 : decode b_Law_less 22 = .ok (.astore 5, 2) := by decide +kernel
theorem d_Law_less_24 : decode b_Law_less 24 = .ok (.iconst 1, 1) := by decide +kernel
theorem d_Law_less_25 : decode b_Law_less 25 = .ok (.ireturn, 1) := by decide +kernel
theorem d_Law_less_26 : decode b_Law_less 26 = .ok (.iconst 0, 1) := by decide +kernel
theorem d_Law_less_27 : decode b_Law_less 27 = .ok (.ireturn, 1) := by decide +kernel
theorem d_CB_less_0 : decode b_CB_less 0 = .ok (.aload_n 0, 1) := by decide +kernel
theorem d_CB_less_1 : decode b_CB_less 1 = .ok (.iload_n 1, 1) := by decide +kernel
theorem d_CB_less_2 : decode b_CB_less 2 = .ok (.iload_n 2, 1) := by decide +kernel
theorem d_CB_less_3 : decode b_CB_less 3 = .ok (.iload_n 3, 1) := by decide +kernel
theorem d_CB_less_4 : decode b_CB_less 4 = .ok (.iconst 1, 1) := by decide +kernel
theorem d_CB_less_5 : decode b_CB_less 5 = .ok (.invokevirtual 46, 3) := by decide +kernel
theorem d_CB_less_8 : decode b_CB_less 8 = .ok (.ireturn, 1) := by decide +kernel
theorem d_Law_times_0 : decode b_Law_times 0 = .ok (.aload 5, 2) := by decide +kernel
theorem d_Law_times_2 : decode b_Law_times 2 = .ok (.iconst 0, 1) := by decide +kernel
theorem d_Law_times_3 : decode b_Law_times 3 = .ok (.aload_n 0, 1) := by decide +kernel
theorem d_Law_times_4 : decode b_Law_times 4 = .ok (.iload_n 1, 1) := by decide +kernel
theorem d_Law_times_5 : decode b_Law_times 5 = .ok (.lload_n 2, 1) := by decide +kernel
theorem d_Law_times_6 : decode b_Law_times 6 = .ok (.iload 4, 2) := by decide +kernel
theorem d_Law_times_8 : decode b_Law_times 8 = .ok (.invokevirtual 27, 3) := by decide +kernel
theorem d_Law_times_11 : decode b_Law_times 11 = .ok (.ifCond .eq 7, 3) := by decide +kernel
theorem d_Law_times_14 : decode b_Law_times 14 = .ok (.lconst 1, 1) := by decide +kernel
theorem d_Law_times_15 : decode b_Law_times 15 = .ok (.goto 4, 3) := by decide +kernel
theorem d_Law_times_18 : decode b_Law_times 18 = .ok (.lconst 0, 1) := by decide +kernel
theorem d_Law_times_19 : decode b_Law_times 19 = .ok (.lastore, 1) := by decide +kernel
theorem d_Law_times_20 : decode b_Law_times 20 = .ok (.goto 7, 3) := by decide +kernel
theorem d_Law_times_23 : decode b_Law_times 23 = .ok (.astore 6, 2) := by decide +kernel
theorem d_Law_times_25 : decode b_Law_times 25 = .ok (.iconst 1, 1) := by decide +kernel
theorem d_Law_times_26 : decode b_Law_times 26 = .ok (.ireturn, 1) := by decide +kernel
theorem d_Law_times_27 : decode b_Law_times 27 = .ok (.iconst 0, 1) := by decide +kernel
theorem d_Law_times_28 : decode b_Law_times 28 = .ok (.ireturn, 1) := by decide +kernel
theorem d_CB_times_0 : decode b_CB_times 0 = .ok (.iload_n 1, 1) := by decide +kernel
theorem d_CB_times_1 : decode b_CB_times 1 = .ok (.invokestatic 27, 3) := by decide +kernel
theorem d_CB_times_4 : decode b_CB_times 4 = .ok (.iload 4, 2) := by decide +kernel
theorem d_CB_times_6 : decode b_CB_times 6 = .ok (.invokestatic 27, 3) := by decide +kernel
theorem d_CB_times_9 : decode b_CB_times 9 = .ok (.aload_n 0, 1) := by decide +kernel
theorem d_CB_times_10 : decode b_CB_times 10 = .ok (.getfield 11, 3) := by decide +kernel
theorem d_CB_times_13 : decode b_CB_times 13 = .ok (.iload_n 1, 1) := by decide +kernel
theorem d_CB_times_14 : decode b_CB_times 14 = .ok (.aaload, 1) := by decide +kernel
theorem d_CB_times_15 : decode b_CB_times 15 = .ok (.astore 5, 2) := by decide +kernel
theorem d_CB_times_17 : decode b_CB_times 17 = .ok (.aload_n 0, 1) := by decide +kernel
theorem d_CB_times_18 : decode b_CB_times 18 = .ok (.getfield 23, 3) := by decide +kernel
theorem d_CB_times_21 : decode b_CB_times 21 = .ok (.invokevirtual 50, 3) := by decide +kernel
theorem d_CB_times_24 : decode b_CB_times 24 = .ok (.iconst 0, 1) := by decide +kernel
theorem d_CB_times_25 : decode b_CB_times 25 = .ok (.istore 6, 2) := by decide +kernel
theorem d_CB_times_27 : decode b_CB_times 27 = .ok (.iload 6, 2) := by decide +kernel
theorem d_CB_times_29 : decode b_CB_times 29 = .ok (.aload 5, 2) := by decide +kernel
theorem d_CB_times_31 : decode b_CB_times 31 = .ok (.getfield 53, 3) := by decide +kernel
theorem d_CB_times_34 : decode b_CB_times 34 = .ok (.if_icmp .ge 60, 3) := by decide +kernel
theorem d_CB_times_37 : decode b_CB_times 37 = .ok (.aload 5, 2) := by decide +kernel
theorem d_CB_times_39 : decode b_CB_times 39 = .ok (.getfield 57, 3) := by decide +kernel
theorem d_CB_times_42 : decode b_CB_times 42 = .ok (.iload 6, 2) := by decide +kernel
theorem d_CB_times_44 : decode b_CB_times 44 = .ok (.laload, 1) := by decide +kernel
theorem d_CB_times_45 : decode b_CB_times 45 = .ok (.lload_n 2, 1) := by decide +kernel
theorem d_CB_times_46 : decode b_CB_times 46 = .ok (.invokestatic 61, 3) := by decide +kernel
theorem d_CB_times_49 : decode b_CB_times 49 = .ok (.ifCond .ne 5, 3) := by decide +kernel
theorem d_CB_times_52 : decode b_CB_times 52 = .ok (.iconst 0, 1) := by decide +kernel
theorem d_CB_times_53 : decode b_CB_times 53 = .ok (.ireturn, 1) := by decide +kernel
theorem d_CB_times_54 : decode b_CB_times 54 = .ok (.aload_n 0, 1) := by decide +kernel
theorem d_CB_times_55 : decode b_CB_times 55 = .ok (.getfield 23, 3) := by decide +kernel
theorem d_CB_times_58 : decode b_CB_times 58 = .ok (.aload 5, 2) := by decide +kernel
theorem d_CB_times_60 : decode b_CB_times 60 = .ok (.getfield 64, 3) := by decide +kernel
theorem d_CB_times_63 : decode b_CB_times 63 = .ok (.iload 6, 2) := by decide +kernel
theorem d_CB_times_65 : decode b_CB_times 65 = .ok (.iaload, 1) := by decide +kernel
theorem d_CB_times_66 : decode b_CB_times 66 = .ok (.aload 5, 2) := by decide +kernel
theorem d_CB_times_68 : decode b_CB_times 68 = .ok (.getfield 68, 3) := by decide +kernel
theorem d_CB_times_71 : decode b_CB_times 71 = .ok (.iload 6, 2) := by decide +kernel
theorem d_CB_times_73 : decode b_CB_times 73 = .ok (.laload, 1) := by decide +kernel
theorem d_CB_times_74 : decode b_CB_times 74 = .ok (.aload 5, 2) := by decide +kernel
theorem d_CB_times_76 : decode b_CB_times 76 = .ok (.getfield 57, 3) := by decide +kernel
theorem d_CB_times_79 : decode b_CB_times 79 = .ok (.iload 6, 2) := by decide +kernel
theorem d_CB_times_81 : decode b_CB_times 81 = .ok (.laload, 1) := by decide +kernel
theorem d_CB_times_82 : decode b_CB_times 82 = .ok (.lload_n 2, 1) := by decide +kernel
theorem d_CB_times_83 : decode b_CB_times 83 = .ok (.lmul, 1) := by decide +kernel
theorem d_CB_times_84 : decode b_CB_times 84 = .ok (.invokevirtual 71, 3) := by decide +kernel
theorem d_CB_times_87 : decode b_CB_times 87 = .ok (.pop, 1) := by decide +kernel
theorem d_CB_times_88 : decode b_CB_times 88 = .ok (.iinc 6 1, 3) := by decide +kernel
theorem d_CB_times_91 : decode b_CB_times 91 = .ok (.goto (-64), 3) := by decide +kernel
theorem d_CB_times_94 : decode b_CB_times 94 = .ok (.aload_n 0, 1) := by decide +kernel
theorem d_CB_times_95 : decode b_CB_times 95 = .ok (.iload 4, 2) := by decide +kernel
theorem d_CB_times_97 : decode b_CB_times 97 = .ok (.invokevirtual 74, 3) := by decide +kernel
theorem d_CB_times_100 : decode b_CB_times 100 = .ok (.iconst 1, 1) := by decide +kernel
theorem d_CB_times_101 : decode b_CB_times 101 = .ok (.ireturn, 1) := by decide +kernel
theorem d_CB_productFits_0 : decode b_CB_productFits 0 = .ok (.lload_n 2, 1) := by decide +kernel
theorem d_CB_productFits_1 : decode b_CB_productFits 1 = .ok (.lconst 0, 1) := by decide +kernel
theorem d_CB_productFits_2 : decode b_CB_productFits 2 = .ok (.lcmp, 1) := by decide +kernel
theorem d_CB_productFits_3 : decode b_CB_productFits 3 = .ok (.ifCond .ne 5, 3) := by decide +kernel
theorem d_CB_productFits_6 : decode b_CB_productFits 6 = .ok (.iconst 1, 1) := by decide +kernel
theorem d_CB_productFits_7 : decode b_CB_productFits 7 = .ok (.ireturn, 1) := by decide +kernel
theorem d_CB_productFits_8 : decode b_CB_productFits 8 = .ok (.lload_n 2, 1) := by decide +kernel
theorem d_CB_productFits_9 : decode b_CB_productFits 9 = .ok (.ldc2_w 113, 3) := by decide +kernel
theorem d_CB_productFits_12 : decode b_CB_productFits 12 = .ok (.lcmp, 1) := by decide +kernel
theorem d_CB_productFits_13 : decode b_CB_productFits 13 = .ok (.ifCond .ne 17, 3) := by decide +kernel
theorem d_CB_productFits_16 : decode b_CB_productFits 16 = .ok (.lload_n 0, 1) := by decide +kernel
theorem d_CB_productFits_17 : decode b_CB_productFits 17 = .ok (.ldc2_w 148, 3) := by decide +kernel
theorem d_CB_productFits_20 : decode b_CB_productFits 20 = .ok (.lcmp, 1) := by decide +kernel
theorem d_CB_productFits_21 : decode b_CB_productFits 21 = .ok (.ifCond .eq 7, 3) := by decide +kernel
theorem d_CB_productFits_24 : decode b_CB_productFits 24 = .ok (.iconst 1, 1) := by decide +kernel
theorem d_CB_productFits_25 : decode b_CB_productFits 25 = .ok (.goto 4, 3) := by decide +kernel
theorem d_CB_productFits_28 : decode b_CB_productFits 28 = .ok (.iconst 0, 1) := by decide +kernel
theorem d_CB_productFits_29 : decode b_CB_productFits 29 = .ok (.ireturn, 1) := by decide +kernel
theorem d_CB_productFits_30 : decode b_CB_productFits 30 = .ok (.lload_n 0, 1) := by decide +kernel
theorem d_CB_productFits_31 : decode b_CB_productFits 31 = .ok (.lload_n 2, 1) := by decide +kernel
theorem d_CB_productFits_32 : decode b_CB_productFits 32 = .ok (.lmul, 1) := by decide +kernel
theorem d_CB_productFits_33 : decode b_CB_productFits 33 = .ok (.lload_n 2, 1) := by decide +kernel
theorem d_CB_productFits_34 : decode b_CB_productFits 34 = .ok (.ldiv, 1) := by decide +kernel
theorem d_CB_productFits_35 : decode b_CB_productFits 35 = .ok (.lload_n 0, 1) := by decide +kernel
theorem d_CB_productFits_36 : decode b_CB_productFits 36 = .ok (.lcmp, 1) := by decide +kernel
theorem d_CB_productFits_37 : decode b_CB_productFits 37 = .ok (.ifCond .ne 7, 3) := by decide +kernel
theorem d_CB_productFits_40 : decode b_CB_productFits 40 = .ok (.iconst 1, 1) := by decide +kernel
theorem d_CB_productFits_41 : decode b_CB_productFits 41 = .ok (.goto 4, 3) := by decide +kernel
theorem d_CB_productFits_44 : decode b_CB_productFits 44 = .ok (.iconst 0, 1) := by decide +kernel
theorem d_CB_productFits_45 : decode b_CB_productFits 45 = .ok (.ireturn, 1) := by decide +kernel
theorem d_Law_only_0 : decode b_Law_only 0 = .ok (.aload_n 0, 1) := by decide +kernel
theorem d_Law_only_1 : decode b_Law_only 1 = .ok (.iload_n 1, 1) := by decide +kernel
theorem d_Law_only_2 : decode b_Law_only 2 = .ok (.iload_n 2, 1) := by decide +kernel
theorem d_Law_only_3 : decode b_Law_only 3 = .ok (.iload_n 3, 1) := by decide +kernel
theorem d_Law_only_4 : decode b_Law_only 4 = .ok (.iload 4, 2) := by decide +kernel
theorem d_Law_only_6 : decode b_Law_only 6 = .ok (.invokevirtual 31, 3) := by decide +kernel
theorem d_Law_only_9 : decode b_Law_only 9 = .ok (.goto 11, 3) := by decide +kernel
theorem d_Law_only_12 : decode b_Law_only 12 = .ok (.astore 5, 2) := by decide +kernel
theorem d_Law_only_14 : decode b_Law_only 14 = .ok (.iconst 1, 1) := by decide +kernel
theorem d_Law_only_15 : decode b_Law_only 15 = .ok (.ireturn, 1) := by decide +kernel
theorem d_Law_only_16 : decode b_Law_only 16 = .ok (.astore 5, 2) := by decide +kernel
theorem d_Law_only_18 : decode b_Law_only 18 = .ok (.iconst 2, 1) := by decide +kernel
theorem d_Law_only_19 : decode b_Law_only 19 = .ok (.ireturn, 1) := by decide +kernel
theorem d_Law_only_20 : decode b_Law_only 20 = .ok (.iconst 0, 1) := by decide +kernel
theorem d_Law_only_21 : decode b_Law_only 21 = .ok (.ireturn, 1) := by decide +kernel
theorem d_CB_only_0 : decode b_CB_only 0 = .ok (.iload_n 1, 1) := by decide +kernel
theorem d_CB_only_1 : decode b_CB_only 1 = .ok (.invokestatic 27, 3) := by decide +kernel
theorem d_CB_only_4 : decode b_CB_only 4 = .ok (.iload 4, 2) := by decide +kernel
theorem d_CB_only_6 : decode b_CB_only 6 = .ok (.invokestatic 27, 3) := by decide +kernel
theorem d_CB_only_9 : decode b_CB_only 9 = .ok (.iload_n 2, 1) := by decide +kernel
theorem d_CB_only_10 : decode b_CB_only 10 = .ok (.invokestatic 31, 3) := by decide +kernel
theorem d_CB_only_13 : decode b_CB_only 13 = .ok (.aload_n 0, 1) := by decide +kernel
theorem d_CB_only_14 : decode b_CB_only 14 = .ok (.getfield 11, 3) := by decide +kernel
theorem d_CB_only_17 : decode b_CB_only 17 = .ok (.iload_n 1, 1) := by decide +kernel
theorem d_CB_only_18 : decode b_CB_only 18 = .ok (.aaload, 1) := by decide +kernel
theorem d_CB_only_19 : decode b_CB_only 19 = .ok (.astore 5, 2) := by decide +kernel
theorem d_CB_only_21 : decode b_CB_only 21 = .ok (.aload_n 0, 1) := by decide +kernel
theorem d_CB_only_22 : decode b_CB_only 22 = .ok (.getfield 23, 3) := by decide +kernel
theorem d_CB_only_25 : decode b_CB_only 25 = .ok (.invokevirtual 50, 3) := by decide +kernel
theorem d_CB_only_28 : decode b_CB_only 28 = .ok (.iconst 0, 1) := by decide +kernel
theorem d_CB_only_29 : decode b_CB_only 29 = .ok (.istore 6, 2) := by decide +kernel
theorem d_CB_only_31 : decode b_CB_only 31 = .ok (.iload 6, 2) := by decide +kernel
theorem d_CB_only_33 : decode b_CB_only 33 = .ok (.aload 5, 2) := by decide +kernel
theorem d_CB_only_35 : decode b_CB_only 35 = .ok (.getfield 53, 3) := by decide +kernel
theorem d_CB_only_38 : decode b_CB_only 38 = .ok (.if_icmp .ge 62, 3) := by decide +kernel
theorem d_CB_only_41 : decode b_CB_only 41 = .ok (.aload 5, 2) := by decide +kernel
theorem d_CB_only_43 : decode b_CB_only 43 = .ok (.getfield 64, 3) := by decide +kernel
theorem d_CB_only_46 : decode b_CB_only 46 = .ok (.iload 6, 2) := by decide +kernel
theorem d_CB_only_48 : decode b_CB_only 48 = .ok (.iaload, 1) := by decide +kernel
theorem d_CB_only_49 : decode b_CB_only 49 = .ok (.iload_n 2, 1) := by decide +kernel
theorem d_CB_only_50 : decode b_CB_only 50 = .ok (.if_icmp .ne 7, 3) := by decide +kernel
theorem d_CB_only_53 : decode b_CB_only 53 = .ok (.iconst 1, 1) := by decide +kernel
theorem d_CB_only_54 : decode b_CB_only 54 = .ok (.goto 4, 3) := by decide +kernel
theorem d_CB_only_57 : decode b_CB_only 57 = .ok (.iconst 0, 1) := by decide +kernel
theorem d_CB_only_58 : decode b_CB_only 58 = .ok (.iload_n 3, 1) := by decide +kernel
theorem d_CB_only_59 : decode b_CB_only 59 = .ok (.if_icmp .ne 35, 3) := by decide +kernel
theorem d_CB_only_62 : decode b_CB_only 62 = .ok (.aload_n 0, 1) := by decide +kernel
theorem d_CB_only_63 : decode b_CB_only 63 = .ok (.getfield 23, 3) := by decide +kernel
theorem d_CB_only_66 : decode b_CB_only 66 = .ok (.aload 5, 2) := by decide +kernel
theorem d_CB_only_68 : decode b_CB_only 68 = .ok (.getfield 64, 3) := by decide +kernel
theorem d_CB_only_71 : decode b_CB_only 71 = .ok (.iload 6, 2) := by decide +kernel
theorem d_CB_only_73 : decode b_CB_only 73 = .ok (.iaload, 1) := by decide +kernel
theorem d_CB_only_74 : decode b_CB_only 74 = .ok (.aload 5, 2) := by decide +kernel
theorem d_CB_only_76 : decode b_CB_only 76 = .ok (.getfield 68, 3) := by decide +kernel
theorem d_CB_only_79 : decode b_CB_only 79 = .ok (.iload 6, 2) := by decide +kernel
theorem d_CB_only_81 : decode b_CB_only 81 = .ok (.laload, 1) := by decide +kernel
theorem d_CB_only_82 : decode b_CB_only 82 = .ok (.aload 5, 2) := by decide +kernel
theorem d_CB_only_84 : decode b_CB_only 84 = .ok (.getfield 57, 3) := by decide +kernel
theorem d_CB_only_87 : decode b_CB_only 87 = .ok (.iload 6, 2) := by decide +kernel
theorem d_CB_only_89 : decode b_CB_only 89 = .ok (.laload, 1) := by decide +kernel
theorem d_CB_only_90 : decode b_CB_only 90 = .ok (.invokevirtual 71, 3) := by decide +kernel
theorem d_CB_only_93 : decode b_CB_only 93 = .ok (.pop, 1) := by decide +kernel
theorem d_CB_only_94 : decode b_CB_only 94 = .ok (.iinc 6 1, 3) := by decide +kernel
theorem d_CB_only_97 : decode b_CB_only 97 = .ok (.goto (-66), 3) := by decide +kernel
theorem d_CB_only_100 : decode b_CB_only 100 = .ok (.aload_n 0, 1) := by decide +kernel
theorem d_CB_only_101 : decode b_CB_only 101 = .ok (.iload 4, 2) := by decide +kernel
theorem d_CB_only_103 : decode b_CB_only 103 = .ok (.invokevirtual 74, 3) := by decide +kernel
theorem d_CB_only_106 : decode b_CB_only 106 = .ok (.return_, 1) := by decide +kernel
theorem d_Law_part_0 : decode b_Law_part 0 = .ok (.aload 4, 2) := by decide +kernel
theorem d_Law_part_2 : decode b_Law_part 2 = .ok (.iconst 0, 1) := by decide +kernel
theorem d_Law_part_3 : decode b_Law_part 3 = .ok (.aload_n 0, 1) := by decide +kernel
theorem d_Law_part_4 : decode b_Law_part 4 = .ok (.iload_n 1, 1) := by decide +kernel
theorem d_Law_part_5 : decode b_Law_part 5 = .ok (.iload_n 2, 1) := by decide +kernel
theorem d_Law_part_6 : decode b_Law_part 6 = .ok (.iload_n 3, 1) := by decide +kernel
theorem d_Law_part_7 : decode b_Law_part 7 = .ok (.invokevirtual 35, 3) := by decide +kernel
theorem d_Law_part_10 : decode b_Law_part 10 = .ok (.ifCond .eq 7, 3) := by decide +kernel
theorem d_Law_part_13 : decode b_Law_part 13 = .ok (.lconst 1, 1) := by decide +kernel
theorem d_Law_part_14 : decode b_Law_part 14 = .ok (.goto 4, 3) := by decide +kernel
theorem d_Law_part_17 : decode b_Law_part 17 = .ok (.lconst 0, 1) := by decide +kernel
theorem d_Law_part_18 : decode b_Law_part 18 = .ok (.lastore, 1) := by decide +kernel
theorem d_Law_part_19 : decode b_Law_part 19 = .ok (.goto 7, 3) := by decide +kernel
theorem d_Law_part_22 : decode b_Law_part 22 = .ok (.astore 5, 2) := by decide +kernel
theorem d_Law_part_24 : decode b_Law_part 24 = .ok (.iconst 1, 1) := by decide +kernel
theorem d_Law_part_25 : decode b_Law_part 25 = .ok (.ireturn, 1) := by decide +kernel
theorem d_Law_part_26 : decode b_Law_part 26 = .ok (.iconst 0, 1) := by decide +kernel
theorem d_Law_part_27 : decode b_Law_part 27 = .ok (.ireturn, 1) := by decide +kernel
theorem d_CB_part_0 : decode b_CB_part 0 = .ok (.iload_n 1, 1) := by decide +kernel
theorem d_CB_part_1 : decode b_CB_part 1 = .ok (.invokestatic 27, 3) := by decide +kernel
theorem d_CB_part_4 : decode b_CB_part 4 = .ok (.iload_n 3, 1) := by decide +kernel
theorem d_CB_part_5 : decode b_CB_part 5 = .ok (.invokestatic 27, 3) := by decide +kernel
theorem d_CB_part_8 : decode b_CB_part 8 = .ok (.iload_n 2, 1) := by decide +kernel
theorem d_CB_part_9 : decode b_CB_part 9 = .ok (.iconst 1, 1) := by decide +kernel
theorem d_CB_part_10 : decode b_CB_part 10 = .ok (.if_icmp .eq 10, 3) := by decide +kernel
theorem d_CB_part_13 : decode b_CB_part 13 = .ok (.iload_n 2, 1) := by decide +kernel
theorem d_CB_part_14 : decode b_CB_part 14 = .ok (.iconst (-1), 1) := by decide +kernel
theorem d_CB_part_15 : decode b_CB_part 15 = .ok (.if_icmp .eq 5, 3) := by decide +kernel
theorem d_CB_part_18 : decode b_CB_part 18 = .ok (.iconst 0, 1) := by decide +kernel
theorem d_CB_part_19 : decode b_CB_part 19 = .ok (.ireturn, 1) := by decide +kernel
theorem d_CB_part_20 : decode b_CB_part 20 = .ok (.aload_n 0, 1) := by decide +kernel
theorem d_CB_part_21 : decode b_CB_part 21 = .ok (.getfield 11, 3) := by decide +kernel
theorem d_CB_part_24 : decode b_CB_part 24 = .ok (.iload_n 1, 1) := by decide +kernel
theorem d_CB_part_25 : decode b_CB_part 25 = .ok (.aaload, 1) := by decide +kernel
theorem d_CB_part_26 : decode b_CB_part 26 = .ok (.astore 4, 2) := by decide +kernel
theorem d_CB_part_28 : decode b_CB_part 28 = .ok (.aload_n 0, 1) := by decide +kernel
theorem d_CB_part_29 : decode b_CB_part 29 = .ok (.getfield 23, 3) := by decide +kernel
theorem d_CB_part_32 : decode b_CB_part 32 = .ok (.invokevirtual 50, 3) := by decide +kernel
theorem d_CB_part_35 : decode b_CB_part 35 = .ok (.iconst 0, 1) := by decide +kernel
theorem d_CB_part_36 : decode b_CB_part 36 = .ok (.istore 5, 2) := by decide +kernel
theorem d_CB_part_38 : decode b_CB_part 38 = .ok (.iload 5, 2) := by decide +kernel
theorem d_CB_part_40 : decode b_CB_part 40 = .ok (.aload 4, 2) := by decide +kernel
theorem d_CB_part_42 : decode b_CB_part 42 = .ok (.getfield 53, 3) := by decide +kernel
theorem d_CB_part_45 : decode b_CB_part 45 = .ok (.if_icmp .ge 84, 3) := by decide +kernel
theorem d_CB_part_48 : decode b_CB_part 48 = .ok (.aload 4, 2) := by decide +kernel
theorem d_CB_part_50 : decode b_CB_part 50 = .ok (.getfield 57, 3) := by decide +kernel
theorem d_CB_part_53 : decode b_CB_part 53 = .ok (.iload 5, 2) := by decide +kernel
theorem d_CB_part_55 : decode b_CB_part 55 = .ok (.laload, 1) := by decide +kernel
theorem d_CB_part_56 : decode b_CB_part 56 = .ok (.lstore 6, 2) := by decide +kernel
theorem d_CB_part_58 : decode b_CB_part 58 = .ok (.lload 6, 2) := by decide +kernel
theorem d_CB_part_60 : decode b_CB_part 60 = .ok (.lconst 0, 1) := by decide +kernel
theorem d_CB_part_61 : decode b_CB_part 61 = .ok (.lcmp, 1) := by decide +kernel
theorem d_CB_part_62 : decode b_CB_part 62 = .ok (.ifCond .le 7, 3) := by decide +kernel
theorem d_CB_part_65 : decode b_CB_part 65 = .ok (.iconst 1, 1) := by decide +kernel
theorem d_CB_part_66 : decode b_CB_part 66 = .ok (.goto 4, 3) := by decide +kernel
theorem d_CB_part_69 : decode b_CB_part 69 = .ok (.iconst 0, 1) := by decide +kernel
theorem d_CB_part_70 : decode b_CB_part 70 = .ok (.iload_n 2, 1) := by decide +kernel
theorem d_CB_part_71 : decode b_CB_part 71 = .ok (.ifCond .le 7, 3) := by decide +kernel
theorem d_CB_part_74 : decode b_CB_part 74 = .ok (.iconst 1, 1) := by decide +kernel
theorem d_CB_part_75 : decode b_CB_part 75 = .ok (.goto 4, 3) := by decide +kernel
theorem d_CB_part_78 : decode b_CB_part 78 = .ok (.iconst 0, 1) := by decide +kernel
theorem d_CB_part_79 : decode b_CB_part 79 = .ok (.if_icmp .ne 44, 3) := by decide +kernel
theorem d_CB_part_82 : decode b_CB_part 82 = .ok (.lload 6, 2) := by decide +kernel
theorem d_CB_part_84 : decode b_CB_part 84 = .ok (.iload_n 2, 1) := by decide +kernel
theorem d_CB_part_85 : decode b_CB_part 85 = .ok (.i2l, 1) := by decide +kernel
theorem d_CB_part_86 : decode b_CB_part 86 = .ok (.invokestatic 61, 3) := by decide +kernel
theorem d_CB_part_89 : decode b_CB_part 89 = .ok (.ifCond .ne 5, 3) := by decide +kernel
theorem d_CB_part_92 : decode b_CB_part 92 = .ok (.iconst 0, 1) := by decide +kernel
theorem d_CB_part_93 : decode b_CB_part 93 = .ok (.ireturn, 1) := by decide +kernel
theorem d_CB_part_94 : decode b_CB_part 94 = .ok (.aload_n 0, 1) := by decide +kernel
theorem d_CB_part_95 : decode b_CB_part 95 = .ok (.getfield 23, 3) := by decide +kernel
theorem d_CB_part_98 : decode b_CB_part 98 = .ok (.aload 4, 2) := by decide +kernel
theorem d_CB_part_100 : decode b_CB_part 100 = .ok (.getfield 64, 3) := by decide +kernel
theorem d_CB_part_103 : decode b_CB_part 103 = .ok (.iload 5, 2) := by decide +kernel
theorem d_CB_part_105 : decode b_CB_part 105 = .ok (.iaload, 1) := by decide +kernel
theorem d_CB_part_106 : decode b_CB_part 106 = .ok (.aload 4, 2) := by decide +kernel
theorem d_CB_part_108 : decode b_CB_part 108 = .ok (.getfield 68, 3) := by decide +kernel
theorem d_CB_part_111 : decode b_CB_part 111 = .ok (.iload 5, 2) := by decide +kernel
theorem d_CB_part_113 : decode b_CB_part 113 = .ok (.laload, 1) := by decide +kernel
theorem d_CB_part_114 : decode b_CB_part 114 = .ok (.lload 6, 2) := by decide +kernel
theorem d_CB_part_116 : decode b_CB_part 116 = .ok (.iload_n 2, 1) := by decide +kernel
theorem d_CB_part_117 : decode b_CB_part 117 = .ok (.i2l, 1) := by decide +kernel
theorem d_CB_part_118 : decode b_CB_part 118 = .ok (.lmul, 1) := by decide +kernel
theorem d_CB_part_119 : decode b_CB_part 119 = .ok (.invokevirtual 71, 3) := by decide +kernel
theorem d_CB_part_122 : decode b_CB_part 122 = .ok (.pop, 1) := by decide +kernel
theorem d_CB_part_123 : decode b_CB_part 123 = .ok (.iinc 5 1, 3) := by decide +kernel
theorem d_CB_part_126 : decode b_CB_part 126 = .ok (.goto (-88), 3) := by decide +kernel
theorem d_CB_part_129 : decode b_CB_part 129 = .ok (.aload_n 0, 1) := by decide +kernel
theorem d_CB_part_130 : decode b_CB_part 130 = .ok (.iload_n 3, 1) := by decide +kernel
theorem d_CB_part_131 : decode b_CB_part 131 = .ok (.invokevirtual 74, 3) := by decide +kernel
theorem d_CB_part_134 : decode b_CB_part 134 = .ok (.iconst 1, 1) := by decide +kernel
theorem d_CB_part_135 : decode b_CB_part 135 = .ok (.ireturn, 1) := by decide +kernel
theorem d_Law_clear_0 : decode b_Law_clear 0 = .ok (.aload_n 0, 1) := by decide +kernel
theorem d_Law_clear_1 : decode b_Law_clear 1 = .ok (.iload_n 1, 1) := by decide +kernel
theorem d_Law_clear_2 : decode b_Law_clear 2 = .ok (.invokevirtual 38, 3) := by decide +kernel
theorem d_Law_clear_5 : decode b_Law_clear 5 = .ok (.goto 6, 3) := by decide +kernel
theorem d_Law_clear_8 : decode b_Law_clear 8 = .ok (.astore_n 2, 1) := by decide +kernel
theorem d_Law_clear_9 : decode b_Law_clear 9 = .ok (.iconst 1, 1) := by decide +kernel
theorem d_Law_clear_10 : decode b_Law_clear 10 = .ok (.ireturn, 1) := by decide +kernel
theorem d_Law_clear_11 : decode b_Law_clear 11 = .ok (.iconst 0, 1) := by decide +kernel
theorem d_Law_clear_12 : decode b_Law_clear 12 = .ok (.ireturn, 1) := by decide +kernel
theorem d_CB_clear_0 : decode b_CB_clear 0 = .ok (.iload_n 1, 1) := by decide +kernel
theorem d_CB_clear_1 : decode b_CB_clear 1 = .ok (.invokestatic 27, 3) := by decide +kernel
theorem d_CB_clear_4 : decode b_CB_clear 4 = .ok (.aload_n 0, 1) := by decide +kernel
theorem d_CB_clear_5 : decode b_CB_clear 5 = .ok (.getfield 11, 3) := by decide +kernel
theorem d_CB_clear_8 : decode b_CB_clear 8 = .ok (.iload_n 1, 1) := by decide +kernel
theorem d_CB_clear_9 : decode b_CB_clear 9 = .ok (.aaload, 1) := by decide +kernel
theorem d_CB_clear_10 : decode b_CB_clear 10 = .ok (.invokevirtual 50, 3) := by decide +kernel
theorem d_CB_clear_13 : decode b_CB_clear 13 = .ok (.return_, 1) := by decide +kernel
theorem d_Law_amount_0 : decode b_Law_amount 0 = .ok (.aload 5, 2) := by decide +kernel
theorem d_Law_amount_2 : decode b_Law_amount 2 = .ok (.iconst 0, 1) := by decide +kernel
theorem d_Law_amount_3 : decode b_Law_amount 3 = .ok (.aload_n 0, 1) := by decide +kernel
theorem d_Law_amount_4 : decode b_Law_amount 4 = .ok (.iload_n 1, 1) := by decide +kernel
theorem d_Law_amount_5 : decode b_Law_amount 5 = .ok (.iload_n 2, 1) := by decide +kernel
theorem d_Law_amount_6 : decode b_Law_amount 6 = .ok (.lload_n 3, 1) := by decide +kernel
theorem d_Law_amount_7 : decode b_Law_amount 7 = .ok (.invokevirtual 42, 3) := by decide +kernel
theorem d_Law_amount_10 : decode b_Law_amount 10 = .ok (.lastore, 1) := by decide +kernel
theorem d_Law_amount_11 : decode b_Law_amount 11 = .ok (.goto 11, 3) := by decide +kernel
theorem d_Law_amount_14 : decode b_Law_amount 14 = .ok (.astore 6, 2) := by decide +kernel
theorem d_Law_amount_16 : decode b_Law_amount 16 = .ok (.iconst 1, 1) := by decide +kernel
theorem d_Law_amount_17 : decode b_Law_amount 17 = .ok (.ireturn, 1) := by decide +kernel
theorem d_Law_amount_18 : decode b_Law_amount 18 = .ok (.astore 6, 2) := by decide +kernel
theorem d_Law_amount_20 : decode b_Law_amount 20 = .ok (.iconst 2, 1) := by decide +kernel
theorem d_Law_amount_21 : decode b_Law_amount 21 = .ok (.ireturn, 1) := by decide +kernel
theorem d_Law_amount_22 : decode b_Law_amount 22 = .ok (.iconst 0, 1) := by decide +kernel
theorem d_Law_amount_23 : decode b_Law_amount 23 = .ok (.ireturn, 1) := by decide +kernel
theorem d_CB_amount_0 : decode b_CB_amount 0 = .ok (.iload_n 1, 1) := by decide +kernel
theorem d_CB_amount_1 : decode b_CB_amount 1 = .ok (.invokestatic 27, 3) := by decide +kernel
theorem d_CB_amount_4 : decode b_CB_amount 4 = .ok (.iload_n 2, 1) := by decide +kernel
theorem d_CB_amount_5 : decode b_CB_amount 5 = .ok (.invokestatic 31, 3) := by decide +kernel
theorem d_CB_amount_8 : decode b_CB_amount 8 = .ok (.aload_n 0, 1) := by decide +kernel
theorem d_CB_amount_9 : decode b_CB_amount 9 = .ok (.getfield 11, 3) := by decide +kernel
theorem d_CB_amount_12 : decode b_CB_amount 12 = .ok (.iload_n 1, 1) := by decide +kernel
theorem d_CB_amount_13 : decode b_CB_amount 13 = .ok (.aaload, 1) := by decide +kernel
theorem d_CB_amount_14 : decode b_CB_amount 14 = .ok (.iload_n 2, 1) := by decide +kernel
theorem d_CB_amount_15 : decode b_CB_amount 15 = .ok (.lload_n 3, 1) := by decide +kernel
theorem d_CB_amount_16 : decode b_CB_amount 16 = .ok (.invokevirtual 38, 3) := by decide +kernel
theorem d_CB_amount_19 : decode b_CB_amount 19 = .ok (.lreturn, 1) := by decide +kernel
theorem d_Law_size_0 : decode b_Law_size 0 = .ok (.aload_n 2, 1) := by decide +kernel
theorem d_Law_size_1 : decode b_Law_size 1 = .ok (.iconst 0, 1) := by decide +kernel
theorem d_Law_size_2 : decode b_Law_size 2 = .ok (.aload_n 0, 1) := by decide +kernel
theorem d_Law_size_3 : decode b_Law_size 3 = .ok (.iload_n 1, 1) := by decide +kernel
theorem d_Law_size_4 : decode b_Law_size 4 = .ok (.invokevirtual 46, 3) := by decide +kernel
theorem d_Law_size_7 : decode b_Law_size 7 = .ok (.i2l, 1) := by decide +kernel
theorem d_Law_size_8 : decode b_Law_size 8 = .ok (.lastore, 1) := by decide +kernel
theorem d_Law_size_9 : decode b_Law_size 9 = .ok (.goto 6, 3) := by decide +kernel
theorem d_Law_size_12 : decode b_Law_size 12 = .ok (.astore_n 3, 1) := by decide +kernel
theorem d_Law_size_13 : decode b_Law_size 13 = .ok (.iconst 1, 1) := by decide +kernel
theorem d_Law_size_14 : decode b_Law_size 14 = .ok (.ireturn, 1) := by decide +kernel
theorem d_Law_size_15 : decode b_Law_size 15 = .ok (.iconst 0, 1) := by decide +kernel
theorem d_Law_size_16 : decode b_Law_size 16 = .ok (.ireturn, 1) := by decide +kernel
theorem d_CB_size_0 : decode b_CB_size 0 = .ok (.iload_n 1, 1) := by decide +kernel
theorem d_CB_size_1 : decode b_CB_size 1 = .ok (.invokestatic 27, 3) := by decide +kernel
theorem d_CB_size_4 : decode b_CB_size 4 = .ok (.aload_n 0, 1) := by decide +kernel
theorem d_CB_size_5 : decode b_CB_size 5 = .ok (.getfield 11, 3) := by decide +kernel
theorem d_CB_size_8 : decode b_CB_size 8 = .ok (.iload_n 1, 1) := by decide +kernel
theorem d_CB_size_9 : decode b_CB_size 9 = .ok (.aaload, 1) := by decide +kernel
theorem d_CB_size_10 : decode b_CB_size 10 = .ok (.getfield 53, 3) := by decide +kernel
theorem d_CB_size_13 : decode b_CB_size 13 = .ok (.ireturn, 1) := by decide +kernel
theorem d_Law_at_0 : decode b_Law_at 0 = .ok (.aload 4, 2) := by decide +kernel
theorem d_Law_at_2 : decode b_Law_at 2 = .ok (.iconst 0, 1) := by decide +kernel
theorem d_Law_at_3 : decode b_Law_at 3 = .ok (.aload_n 0, 1) := by decide +kernel
theorem d_Law_at_4 : decode b_Law_at 4 = .ok (.iload_n 1, 1) := by decide +kernel
theorem d_Law_at_5 : decode b_Law_at 5 = .ok (.iload_n 2, 1) := by decide +kernel
theorem d_Law_at_6 : decode b_Law_at 6 = .ok (.iload_n 3, 1) := by decide +kernel
theorem d_Law_at_7 : decode b_Law_at 7 = .ok (.invokevirtual 50, 3) := by decide +kernel
theorem d_Law_at_10 : decode b_Law_at 10 = .ok (.lastore, 1) := by decide +kernel
theorem d_Law_at_11 : decode b_Law_at 11 = .ok (.goto 7, 3) := by decide +kernel
theorem d_Law_at_14 : decode b_Law_at 14 = .ok (.astore 5, 2) := by decide +kernel
theorem d_Law_at_16 : decode b_Law_at 16 = .ok (.iconst 1, 1) := by decide +kernel
theorem d_Law_at_17 : decode b_Law_at 17 = .ok (.ireturn, 1) := by decide +kernel
theorem d_Law_at_18 : decode b_Law_at 18 = .ok (.iconst 0, 1) := by decide +kernel
theorem d_Law_at_19 : decode b_Law_at 19 = .ok (.ireturn, 1) := by decide +kernel
theorem d_CB_at_0 : decode b_CB_at 0 = .ok (.iload_n 1, 1) := by decide +kernel
theorem d_CB_at_1 : decode b_CB_at 1 = .ok (.invokestatic 27, 3) := by decide +kernel
theorem d_CB_at_4 : decode b_CB_at 4 = .ok (.aload_n 0, 1) := by decide +kernel
theorem d_CB_at_5 : decode b_CB_at 5 = .ok (.getfield 11, 3) := by decide +kernel
theorem d_CB_at_8 : decode b_CB_at 8 = .ok (.iload_n 1, 1) := by decide +kernel
theorem d_CB_at_9 : decode b_CB_at 9 = .ok (.aaload, 1) := by decide +kernel
theorem d_CB_at_10 : decode b_CB_at 10 = .ok (.astore 4, 2) := by decide +kernel
theorem d_CB_at_12 : decode b_CB_at 12 = .ok (.iload_n 2, 1) := by decide +kernel
theorem d_CB_at_13 : decode b_CB_at 13 = .ok (.ifCond .lt 12, 3) := by decide +kernel
theorem d_CB_at_16 : decode b_CB_at 16 = .ok (.iload_n 2, 1) := by decide +kernel
theorem d_CB_at_17 : decode b_CB_at 17 = .ok (.aload 4, 2) := by decide +kernel
theorem d_CB_at_19 : decode b_CB_at 19 = .ok (.getfield 53, 3) := by decide +kernel
theorem d_CB_at_22 : decode b_CB_at 22 = .ok (.if_icmp .lt 13, 3) := by decide +kernel
theorem d_CB_at_25 : decode b_CB_at 25 = .ok (.new 77, 3) := by decide +kernel
theorem d_CB_at_28 : decode b_CB_at 28 = .ok (.dup, 1) := by decide +kernel
theorem d_CB_at_29 : decode b_CB_at 29 = .ok (.ldc 79, 2) := by decide +kernel
theorem d_CB_at_31 : decode b_CB_at 31 = .ok (.invokespecial 81, 3) := by decide +kernel
theorem d_CB_at_34 : decode b_CB_at 34 = .ok (.athrow, 1) := by decide +kernel
theorem d_CB_at_35 : decode b_CB_at 35 = .ok (.iload_n 3, 1) := by decide +kernel
theorem d_CB_at_36 : decode b_CB_at 36 = .ok (.tableswitch 53 0 2 #[28, 37, 45], 28) := by decide +kernel
theorem d_CB_at_64 : decode b_CB_at 64 = .ok (.aload 4, 2) := by decide +kernel
theorem d_CB_at_66 : decode b_CB_at 66 = .ok (.getfield 64, 3) := by decide +kernel
theorem d_CB_at_69 : decode b_CB_at 69 = .ok (.iload_n 2, 1) := by decide +kernel
theorem d_CB_at_70 : decode b_CB_at 70 = .ok (.iaload, 1) := by decide +kernel
theorem d_CB_at_71 : decode b_CB_at 71 = .ok (.i2l, 1) := by decide +kernel
theorem d_CB_at_72 : decode b_CB_at 72 = .ok (.lreturn, 1) := by decide +kernel
theorem d_CB_at_73 : decode b_CB_at 73 = .ok (.aload 4, 2) := by decide +kernel
theorem d_CB_at_75 : decode b_CB_at 75 = .ok (.getfield 68, 3) := by decide +kernel
theorem d_CB_at_78 : decode b_CB_at 78 = .ok (.iload_n 2, 1) := by decide +kernel
theorem d_CB_at_79 : decode b_CB_at 79 = .ok (.laload, 1) := by decide +kernel
theorem d_CB_at_80 : decode b_CB_at 80 = .ok (.lreturn, 1) := by decide +kernel
theorem d_CB_at_81 : decode b_CB_at 81 = .ok (.aload 4, 2) := by decide +kernel
theorem d_CB_at_83 : decode b_CB_at 83 = .ok (.getfield 57, 3) := by decide +kernel
theorem d_CB_at_86 : decode b_CB_at 86 = .ok (.iload_n 2, 1) := by decide +kernel
theorem d_CB_at_87 : decode b_CB_at 87 = .ok (.laload, 1) := by decide +kernel
theorem d_CB_at_88 : decode b_CB_at 88 = .ok (.lreturn, 1) := by decide +kernel
theorem d_CB_at_89 : decode b_CB_at 89 = .ok (.new 77, 3) := by decide +kernel
theorem d_CB_at_92 : decode b_CB_at 92 = .ok (.dup, 1) := by decide +kernel
theorem d_CB_at_93 : decode b_CB_at 93 = .ok (.ldc 84, 2) := by decide +kernel
theorem d_CB_at_95 : decode b_CB_at 95 = .ok (.invokespecial 81, 3) := by decide +kernel
theorem d_CB_at_98 : decode b_CB_at 98 = .ok (.athrow, 1) := by decide +kernel
theorem d_Law_compare_0 : decode b_Law_compare 0 = .ok (.aload_n 3, 1) := by decide +kernel
theorem d_Law_compare_1 : decode b_Law_compare 1 = .ok (.iconst 0, 1) := by decide +kernel
theorem d_Law_compare_2 : decode b_Law_compare 2 = .ok (.aload_n 0, 1) := by decide +kernel
theorem d_Law_compare_3 : decode b_Law_compare 3 = .ok (.iload_n 1, 1) := by decide +kernel
theorem d_Law_compare_4 : decode b_Law_compare 4 = .ok (.iload_n 2, 1) := by decide +kernel
theorem d_Law_compare_5 : decode b_Law_compare 5 = .ok (.invokevirtual 54, 3) := by decide +kernel
theorem d_Law_compare_8 : decode b_Law_compare 8 = .ok (.i2l, 1) := by decide +kernel
theorem d_Law_compare_9 : decode b_Law_compare 9 = .ok (.lastore, 1) := by decide +kernel
theorem d_Law_compare_10 : decode b_Law_compare 10 = .ok (.goto 7, 3) := by decide +kernel
theorem d_Law_compare_13 : decode b_Law_compare 13 = .ok (.astore 4, 2) := by decide +kernel
theorem d_Law_compare_15 : decode b_Law_compare 15 = .ok (.iconst 1, 1) := by decide +kernel
theorem d_Law_compare_16 : decode b_Law_compare 16 = .ok (.ireturn, 1) := by decide +kernel
theorem d_Law_compare_17 : decode b_Law_compare 17 = .ok (.iconst 0, 1) := by decide +kernel
theorem d_Law_compare_18 : decode b_Law_compare 18 = .ok (.ireturn, 1) := by decide +kernel
theorem d_CB_compare_0 : decode b_CB_compare 0 = .ok (.iload_n 1, 1) := by decide +kernel
theorem d_CB_compare_1 : decode b_CB_compare 1 = .ok (.invokestatic 27, 3) := by decide +kernel
theorem d_CB_compare_4 : decode b_CB_compare 4 = .ok (.iload_n 2, 1) := by decide +kernel
theorem d_CB_compare_5 : decode b_CB_compare 5 = .ok (.invokestatic 27, 3) := by decide +kernel
theorem d_CB_compare_8 : decode b_CB_compare 8 = .ok (.aload_n 0, 1) := by decide +kernel
theorem d_CB_compare_9 : decode b_CB_compare 9 = .ok (.getfield 19, 3) := by decide +kernel
theorem d_CB_compare_12 : decode b_CB_compare 12 = .ok (.aload_n 0, 1) := by decide +kernel
theorem d_CB_compare_13 : decode b_CB_compare 13 = .ok (.getfield 11, 3) := by decide +kernel
theorem d_CB_compare_16 : decode b_CB_compare 16 = .ok (.iload_n 1, 1) := by decide +kernel
theorem d_CB_compare_17 : decode b_CB_compare 17 = .ok (.aaload, 1) := by decide +kernel
theorem d_CB_compare_18 : decode b_CB_compare 18 = .ok (.aload_n 0, 1) := by decide +kernel
theorem d_CB_compare_19 : decode b_CB_compare 19 = .ok (.getfield 11, 3) := by decide +kernel
theorem d_CB_compare_22 : decode b_CB_compare 22 = .ok (.iload_n 2, 1) := by decide +kernel
theorem d_CB_compare_23 : decode b_CB_compare 23 = .ok (.aaload, 1) := by decide +kernel
theorem d_CB_compare_24 : decode b_CB_compare 24 = .ok (.invokevirtual 86, 3) := by decide +kernel
theorem d_CB_compare_27 : decode b_CB_compare 27 = .ok (.iconst 0, 1) := by decide +kernel
theorem d_CB_compare_28 : decode b_CB_compare 28 = .ok (.istore_n 3, 1) := by decide +kernel
theorem d_CB_compare_29 : decode b_CB_compare 29 = .ok (.iconst 0, 1) := by decide +kernel
theorem d_CB_compare_30 : decode b_CB_compare 30 = .ok (.istore 4, 2) := by decide +kernel
theorem d_CB_compare_32 : decode b_CB_compare 32 = .ok (.iconst 0, 1) := by decide +kernel
theorem d_CB_compare_33 : decode b_CB_compare 33 = .ok (.istore 5, 2) := by decide +kernel
theorem d_CB_compare_35 : decode b_CB_compare 35 = .ok (.iload 5, 2) := by decide +kernel
theorem d_CB_compare_37 : decode b_CB_compare 37 = .ok (.aload_n 0, 1) := by decide +kernel
theorem d_CB_compare_38 : decode b_CB_compare 38 = .ok (.getfield 19, 3) := by decide +kernel
theorem d_CB_compare_41 : decode b_CB_compare 41 = .ok (.getfield 90, 3) := by decide +kernel
theorem d_CB_compare_44 : decode b_CB_compare 44 = .ok (.if_icmp .ge 79, 3) := by decide +kernel
theorem d_CB_compare_47 : decode b_CB_compare 47 = .ok (.iload_n 3, 1) := by decide +kernel
theorem d_CB_compare_48 : decode b_CB_compare 48 = .ok (.ifCond .ne 27, 3) := by decide +kernel
theorem d_CB_compare_51 : decode b_CB_compare 51 = .ok (.aload_n 0, 1) := by decide +kernel
theorem d_CB_compare_52 : decode b_CB_compare 52 = .ok (.getfield 19, 3) := by decide +kernel
theorem d_CB_compare_55 : decode b_CB_compare 55 = .ok (.getfield 91, 3) := by decide +kernel
theorem d_CB_compare_58 : decode b_CB_compare 58 = .ok (.iload 5, 2) := by decide +kernel
theorem d_CB_compare_60 : decode b_CB_compare 60 = .ok (.laload, 1) := by decide +kernel
theorem d_CB_compare_61 : decode b_CB_compare 61 = .ok (.aload_n 0, 1) := by decide +kernel
theorem d_CB_compare_62 : decode b_CB_compare 62 = .ok (.getfield 19, 3) := by decide +kernel
theorem d_CB_compare_65 : decode b_CB_compare 65 = .ok (.getfield 94, 3) := by decide +kernel
theorem d_CB_compare_68 : decode b_CB_compare 68 = .ok (.iload 5, 2) := by decide +kernel
theorem d_CB_compare_70 : decode b_CB_compare 70 = .ok (.laload, 1) := by decide +kernel
theorem d_CB_compare_71 : decode b_CB_compare 71 = .ok (.lcmp, 1) := by decide +kernel
theorem d_CB_compare_72 : decode b_CB_compare 72 = .ok (.ifCond .le 7, 3) := by decide +kernel
theorem d_CB_compare_75 : decode b_CB_compare 75 = .ok (.iconst 1, 1) := by decide +kernel
theorem d_CB_compare_76 : decode b_CB_compare 76 = .ok (.goto 4, 3) := by decide +kernel
theorem d_CB_compare_79 : decode b_CB_compare 79 = .ok (.iconst 0, 1) := by decide +kernel
theorem d_CB_compare_80 : decode b_CB_compare 80 = .ok (.istore_n 3, 1) := by decide +kernel
theorem d_CB_compare_81 : decode b_CB_compare 81 = .ok (.iload 4, 2) := by decide +kernel
theorem d_CB_compare_83 : decode b_CB_compare 83 = .ok (.ifCond .ne 27, 3) := by decide +kernel
theorem d_CB_compare_86 : decode b_CB_compare 86 = .ok (.aload_n 0, 1) := by decide +kernel
theorem d_CB_compare_87 : decode b_CB_compare 87 = .ok (.getfield 19, 3) := by decide +kernel
theorem d_CB_compare_90 : decode b_CB_compare 90 = .ok (.getfield 91, 3) := by decide +kernel
theorem d_CB_compare_93 : decode b_CB_compare 93 = .ok (.iload 5, 2) := by decide +kernel
theorem d_CB_compare_95 : decode b_CB_compare 95 = .ok (.laload, 1) := by decide +kernel
theorem d_CB_compare_96 : decode b_CB_compare 96 = .ok (.aload_n 0, 1) := by decide +kernel
theorem d_CB_compare_97 : decode b_CB_compare 97 = .ok (.getfield 19, 3) := by decide +kernel
theorem d_CB_compare_100 : decode b_CB_compare 100 = .ok (.getfield 94, 3) := by decide +kernel
theorem d_CB_compare_103 : decode b_CB_compare 103 = .ok (.iload 5, 2) := by decide +kernel
theorem d_CB_compare_105 : decode b_CB_compare 105 = .ok (.laload, 1) := by decide +kernel
theorem d_CB_compare_106 : decode b_CB_compare 106 = .ok (.lcmp, 1) := by decide +kernel
theorem d_CB_compare_107 : decode b_CB_compare 107 = .ok (.ifCond .ge 7, 3) := by decide +kernel
theorem d_CB_compare_110 : decode b_CB_compare 110 = .ok (.iconst 1, 1) := by decide +kernel
theorem d_CB_compare_111 : decode b_CB_compare 111 = .ok (.goto 4, 3) := by decide +kernel
theorem d_CB_compare_114 : decode b_CB_compare 114 = .ok (.iconst 0, 1) := by decide +kernel
theorem d_CB_compare_115 : decode b_CB_compare 115 = .ok (.istore 4, 2) := by decide +kernel
theorem d_CB_compare_117 : decode b_CB_compare 117 = .ok (.iinc 5 1, 3) := by decide +kernel
theorem d_CB_compare_120 : decode b_CB_compare 120 = .ok (.goto (-85), 3) := by decide +kernel
theorem d_CB_compare_123 : decode b_CB_compare 123 = .ok (.iload_n 3, 1) := by decide +kernel
theorem d_CB_compare_124 : decode b_CB_compare 124 = .ok (.ifCond .eq 14, 3) := by decide +kernel
theorem d_CB_compare_127 : decode b_CB_compare 127 = .ok (.iload 4, 2) := by decide +kernel
theorem d_CB_compare_129 : decode b_CB_compare 129 = .ok (.ifCond .eq 7, 3) := by decide +kernel
theorem d_CB_compare_132 : decode b_CB_compare 132 = .ok (.iconst 3, 1) := by decide +kernel
theorem d_CB_compare_133 : decode b_CB_compare 133 = .ok (.goto 4, 3) := by decide +kernel
theorem d_CB_compare_136 : decode b_CB_compare 136 = .ok (.iconst 1, 1) := by decide +kernel
theorem d_CB_compare_137 : decode b_CB_compare 137 = .ok (.ireturn, 1) := by decide +kernel
theorem d_CB_compare_138 : decode b_CB_compare 138 = .ok (.iload 4, 2) := by decide +kernel
theorem d_CB_compare_140 : decode b_CB_compare 140 = .ok (.ifCond .eq 7, 3) := by decide +kernel
theorem d_CB_compare_143 : decode b_CB_compare 143 = .ok (.iconst 2, 1) := by decide +kernel
theorem d_CB_compare_144 : decode b_CB_compare 144 = .ok (.goto 4, 3) := by decide +kernel
theorem d_CB_compare_147 : decode b_CB_compare 147 = .ok (.iconst 0, 1) := by decide +kernel
theorem d_CB_compare_148 : decode b_CB_compare 148 = .ok (.ireturn, 1) := by decide +kernel
theorem d_Law_least_0 : decode b_Law_least 0 = .ok (.aload 4, 2) := by decide +kernel
theorem d_Law_least_2 : decode b_Law_least 2 = .ok (.iconst 0, 1) := by decide +kernel
theorem d_Law_least_3 : decode b_Law_least 3 = .ok (.aload_n 0, 1) := by decide +kernel
theorem d_Law_least_4 : decode b_Law_least 4 = .ok (.iload_n 1, 1) := by decide +kernel
theorem d_Law_least_5 : decode b_Law_least 5 = .ok (.iload_n 2, 1) := by decide +kernel
theorem d_Law_least_6 : decode b_Law_least 6 = .ok (.iload_n 3, 1) := by decide +kernel
theorem d_Law_least_7 : decode b_Law_least 7 = .ok (.invokevirtual 58, 3) := by decide +kernel
theorem d_Law_least_10 : decode b_Law_least 10 = .ok (.ifCond .eq 7, 3) := by decide +kernel
theorem d_Law_least_13 : decode b_Law_least 13 = .ok (.lconst 1, 1) := by decide +kernel
theorem d_Law_least_14 : decode b_Law_least 14 = .ok (.goto 4, 3) := by decide +kernel
theorem d_Law_least_17 : decode b_Law_least 17 = .ok (.lconst 0, 1) := by decide +kernel
theorem d_Law_least_18 : decode b_Law_least 18 = .ok (.lastore, 1) := by decide +kernel
theorem d_Law_least_19 : decode b_Law_least 19 = .ok (.goto 7, 3) := by decide +kernel
theorem d_Law_least_22 : decode b_Law_least 22 = .ok (.astore 5, 2) := by decide +kernel
theorem d_Law_least_24 : decode b_Law_least 24 = .ok (.iconst 1, 1) := by decide +kernel
theorem d_Law_least_25 : decode b_Law_least 25 = .ok (.ireturn, 1) := by decide +kernel
theorem d_Law_least_26 : decode b_Law_least 26 = .ok (.iconst 0, 1) := by decide +kernel
theorem d_Law_least_27 : decode b_Law_least 27 = .ok (.ireturn, 1) := by decide +kernel
theorem d_CB_least_0 : decode b_CB_least 0 = .ok (.aload_n 0, 1) := by decide +kernel
theorem d_CB_least_1 : decode b_CB_least 1 = .ok (.iload_n 1, 1) := by decide +kernel
theorem d_CB_least_2 : decode b_CB_least 2 = .ok (.iload_n 2, 1) := by decide +kernel
theorem d_CB_least_3 : decode b_CB_least 3 = .ok (.iload_n 3, 1) := by decide +kernel
theorem d_CB_least_4 : decode b_CB_least 4 = .ok (.iconst 2, 1) := by decide +kernel
theorem d_CB_least_5 : decode b_CB_least 5 = .ok (.invokevirtual 46, 3) := by decide +kernel
theorem d_CB_least_8 : decode b_CB_least 8 = .ok (.ireturn, 1) := by decide +kernel
theorem d_Law_into_0 : decode b_Law_into 0 = .ok (.aload_n 3, 1) := by decide +kernel
theorem d_Law_into_1 : decode b_Law_into 1 = .ok (.iconst 0, 1) := by decide +kernel
theorem d_Law_into_2 : decode b_Law_into 2 = .ok (.aload_n 0, 1) := by decide +kernel
theorem d_Law_into_3 : decode b_Law_into 3 = .ok (.iload_n 1, 1) := by decide +kernel
theorem d_Law_into_4 : decode b_Law_into 4 = .ok (.iload_n 2, 1) := by decide +kernel
theorem d_Law_into_5 : decode b_Law_into 5 = .ok (.invokevirtual 61, 3) := by decide +kernel
theorem d_Law_into_8 : decode b_Law_into 8 = .ok (.lastore, 1) := by decide +kernel
theorem d_Law_into_9 : decode b_Law_into 9 = .ok (.goto 7, 3) := by decide +kernel
end
section
theorem d_Law_into_12 : decode b_Law_into 12 = .ok (.astore 4, 2) := by decide +kernel
theorem d_Law_into_14 : decode b_Law_into 14 = .ok (.iconst 1, 1) := by decide +kernel
theorem d_Law_into_15 : decode b_Law_into 15 = .ok (.ireturn, 1) := by decide +kernel
theorem d_Law_into_16 : decode b_Law_into 16 = .ok (.iconst 0, 1) := by decide +kernel
theorem d_Law_into_17 : decode b_Law_into 17 = .ok (.ireturn, 1) := by decide +kernel
theorem d_CB_into_0 : decode b_CB_into 0 = .ok (.iload_n 1, 1) := by decide +kernel
theorem d_CB_into_1 : decode b_CB_into 1 = .ok (.invokestatic 27, 3) := by decide +kernel
theorem d_CB_into_4 : decode b_CB_into 4 = .ok (.iload_n 2, 1) := by decide +kernel
theorem d_CB_into_5 : decode b_CB_into 5 = .ok (.invokestatic 27, 3) := by decide +kernel
theorem d_CB_into_8 : decode b_CB_into 8 = .ok (.aload_n 0, 1) := by decide +kernel
theorem d_CB_into_9 : decode b_CB_into 9 = .ok (.getfield 19, 3) := by decide +kernel
theorem d_CB_into_12 : decode b_CB_into 12 = .ok (.aload_n 0, 1) := by decide +kernel
theorem d_CB_into_13 : decode b_CB_into 13 = .ok (.getfield 11, 3) := by decide +kernel
theorem d_CB_into_16 : decode b_CB_into 16 = .ok (.iload_n 1, 1) := by decide +kernel
theorem d_CB_into_17 : decode b_CB_into 17 = .ok (.aaload, 1) := by decide +kernel
theorem d_CB_into_18 : decode b_CB_into 18 = .ok (.aload_n 0, 1) := by decide +kernel
theorem d_CB_into_19 : decode b_CB_into 19 = .ok (.getfield 11, 3) := by decide +kernel
theorem d_CB_into_22 : decode b_CB_into 22 = .ok (.iload_n 2, 1) := by decide +kernel
theorem d_CB_into_23 : decode b_CB_into 23 = .ok (.aaload, 1) := by decide +kernel
theorem d_CB_into_24 : decode b_CB_into 24 = .ok (.invokevirtual 86, 3) := by decide +kernel
theorem d_CB_into_27 : decode b_CB_into 27 = .ok (.iconst 0, 1) := by decide +kernel
theorem d_CB_into_28 : decode b_CB_into 28 = .ok (.istore_n 3, 1) := by decide +kernel
theorem d_CB_into_29 : decode b_CB_into 29 = .ok (.ldc2_w 99, 3) := by decide +kernel
theorem d_CB_into_32 : decode b_CB_into 32 = .ok (.lstore 4, 2) := by decide +kernel
theorem d_CB_into_34 : decode b_CB_into 34 = .ok (.lconst 0, 1) := by decide +kernel
theorem d_CB_into_35 : decode b_CB_into 35 = .ok (.lstore 6, 2) := by decide +kernel
theorem d_CB_into_37 : decode b_CB_into 37 = .ok (.iconst 0, 1) := by decide +kernel
theorem d_CB_into_38 : decode b_CB_into 38 = .ok (.istore 8, 2) := by decide +kernel
theorem d_CB_into_40 : decode b_CB_into 40 = .ok (.iload 8, 2) := by decide +kernel
theorem d_CB_into_42 : decode b_CB_into 42 = .ok (.aload_n 0, 1) := by decide +kernel
theorem d_CB_into_43 : decode b_CB_into 43 = .ok (.getfield 19, 3) := by decide +kernel
theorem d_CB_into_46 : decode b_CB_into 46 = .ok (.getfield 90, 3) := by decide +kernel
theorem d_CB_into_49 : decode b_CB_into 49 = .ok (.if_icmp .ge 90, 3) := by decide +kernel
theorem d_CB_into_52 : decode b_CB_into 52 = .ok (.aload_n 0, 1) := by decide +kernel
theorem d_CB_into_53 : decode b_CB_into 53 = .ok (.getfield 19, 3) := by decide +kernel
theorem d_CB_into_56 : decode b_CB_into 56 = .ok (.getfield 91, 3) := by decide +kernel
theorem d_CB_into_59 : decode b_CB_into 59 = .ok (.iload 8, 2) := by decide +kernel
theorem d_CB_into_61 : decode b_CB_into 61 = .ok (.laload, 1) := by decide +kernel
theorem d_CB_into_62 : decode b_CB_into 62 = .ok (.lstore 9, 2) := by decide +kernel
theorem d_CB_into_64 : decode b_CB_into 64 = .ok (.aload_n 0, 1) := by decide +kernel
theorem d_CB_into_65 : decode b_CB_into 65 = .ok (.getfield 19, 3) := by decide +kernel
theorem d_CB_into_68 : decode b_CB_into 68 = .ok (.getfield 94, 3) := by decide +kernel
theorem d_CB_into_71 : decode b_CB_into 71 = .ok (.iload 8, 2) := by decide +kernel
theorem d_CB_into_73 : decode b_CB_into 73 = .ok (.laload, 1) := by decide +kernel
theorem d_CB_into_74 : decode b_CB_into 74 = .ok (.lstore 11, 2) := by decide +kernel
theorem d_CB_into_76 : decode b_CB_into 76 = .ok (.lload 11, 2) := by decide +kernel
theorem d_CB_into_78 : decode b_CB_into 78 = .ok (.lconst 0, 1) := by decide +kernel
theorem d_CB_into_79 : decode b_CB_into 79 = .ok (.lcmp, 1) := by decide +kernel
theorem d_CB_into_80 : decode b_CB_into 80 = .ok (.ifCond .le 22, 3) := by decide +kernel
theorem d_CB_into_83 : decode b_CB_into 83 = .ok (.iconst 1, 1) := by decide +kernel
theorem d_CB_into_84 : decode b_CB_into 84 = .ok (.istore_n 3, 1) := by decide +kernel
theorem d_CB_into_85 : decode b_CB_into 85 = .ok (.lload 4, 2) := by decide +kernel
theorem d_CB_into_87 : decode b_CB_into 87 = .ok (.lload 9, 2) := by decide +kernel
theorem d_CB_into_89 : decode b_CB_into 89 = .ok (.lload 11, 2) := by decide +kernel
theorem d_CB_into_91 : decode b_CB_into 91 = .ok (.invokestatic 101, 3) := by decide +kernel
theorem d_CB_into_94 : decode b_CB_into 94 = .ok (.invokestatic 107, 3) := by decide +kernel
theorem d_CB_into_97 : decode b_CB_into 97 = .ok (.lstore 4, 2) := by decide +kernel
theorem d_CB_into_99 : decode b_CB_into 99 = .ok (.goto 34, 3) := by decide +kernel
theorem d_CB_into_102 : decode b_CB_into 102 = .ok (.lload 9, 2) := by decide +kernel
theorem d_CB_into_104 : decode b_CB_into 104 = .ok (.lload 11, 2) := by decide +kernel
theorem d_CB_into_106 : decode b_CB_into 106 = .ok (.invokestatic 110, 3) := by decide +kernel
theorem d_CB_into_109 : decode b_CB_into 109 = .ok (.lstore 13, 2) := by decide +kernel
theorem d_CB_into_111 : decode b_CB_into 111 = .ok (.lload 13, 2) := by decide +kernel
theorem d_CB_into_113 : decode b_CB_into 113 = .ok (.ldc2_w 113, 3) := by decide +kernel
theorem d_CB_into_116 : decode b_CB_into 116 = .ok (.lcmp, 1) := by decide +kernel
theorem d_CB_into_117 : decode b_CB_into 117 = .ok (.ifCond .ne 7, 3) := by decide +kernel
theorem d_CB_into_120 : decode b_CB_into 120 = .ok (.ldc2_w 113, 3) := by decide +kernel
theorem d_CB_into_123 : decode b_CB_into 123 = .ok (.lreturn, 1) := by decide +kernel
theorem d_CB_into_124 : decode b_CB_into 124 = .ok (.lload 6, 2) := by decide +kernel
theorem d_CB_into_126 : decode b_CB_into 126 = .ok (.lload 13, 2) := by decide +kernel
theorem d_CB_into_128 : decode b_CB_into 128 = .ok (.invokestatic 115, 3) := by decide +kernel
theorem d_CB_into_131 : decode b_CB_into 131 = .ok (.lstore 6, 2) := by decide +kernel
theorem d_CB_into_133 : decode b_CB_into 133 = .ok (.iinc 8 1, 3) := by decide +kernel
theorem d_CB_into_136 : decode b_CB_into 136 = .ok (.goto (-96), 3) := by decide +kernel
theorem d_CB_into_139 : decode b_CB_into 139 = .ok (.iload_n 3, 1) := by decide +kernel
theorem d_CB_into_140 : decode b_CB_into 140 = .ok (.ifCond .eq 16, 3) := by decide +kernel
theorem d_CB_into_143 : decode b_CB_into 143 = .ok (.lload 6, 2) := by decide +kernel
theorem d_CB_into_145 : decode b_CB_into 145 = .ok (.lload 4, 2) := by decide +kernel
theorem d_CB_into_147 : decode b_CB_into 147 = .ok (.lcmp, 1) := by decide +kernel
theorem d_CB_into_148 : decode b_CB_into 148 = .ok (.ifCond .gt 8, 3) := by decide +kernel
theorem d_CB_into_151 : decode b_CB_into 151 = .ok (.lload 4, 2) := by decide +kernel
theorem d_CB_into_153 : decode b_CB_into 153 = .ok (.goto 6, 3) := by decide +kernel
theorem d_CB_into_156 : decode b_CB_into 156 = .ok (.ldc2_w 113, 3) := by decide +kernel
theorem d_CB_into_159 : decode b_CB_into 159 = .ok (.lreturn, 1) := by decide +kernel
theorem d_JM_floorDiv_0 : decode b_JM_floorDiv 0 = .ok (.lload_n 0, 1) := by decide +kernel
theorem d_JM_floorDiv_1 : decode b_JM_floorDiv 1 = .ok (.lload_n 2, 1) := by decide +kernel
theorem d_JM_floorDiv_2 : decode b_JM_floorDiv 2 = .ok (.ldiv, 1) := by decide +kernel
theorem d_JM_floorDiv_3 : decode b_JM_floorDiv 3 = .ok (.lstore 4, 2) := by decide +kernel
theorem d_JM_floorDiv_5 : decode b_JM_floorDiv 5 = .ok (.lload_n 0, 1) := by decide +kernel
theorem d_JM_floorDiv_6 : decode b_JM_floorDiv 6 = .ok (.lload_n 2, 1) := by decide +kernel
theorem d_JM_floorDiv_7 : decode b_JM_floorDiv 7 = .ok (.lxor, 1) := by decide +kernel
theorem d_JM_floorDiv_8 : decode b_JM_floorDiv 8 = .ok (.lconst 0, 1) := by decide +kernel
theorem d_JM_floorDiv_9 : decode b_JM_floorDiv 9 = .ok (.lcmp, 1) := by decide +kernel
theorem d_JM_floorDiv_10 : decode b_JM_floorDiv 10 = .ok (.ifCond .ge 17, 3) := by decide +kernel
theorem d_JM_floorDiv_13 : decode b_JM_floorDiv 13 = .ok (.lload 4, 2) := by decide +kernel
theorem d_JM_floorDiv_15 : decode b_JM_floorDiv 15 = .ok (.lload_n 2, 1) := by decide +kernel
theorem d_JM_floorDiv_16 : decode b_JM_floorDiv 16 = .ok (.lmul, 1) := by decide +kernel
theorem d_JM_floorDiv_17 : decode b_JM_floorDiv 17 = .ok (.lload_n 0, 1) := by decide +kernel
theorem d_JM_floorDiv_18 : decode b_JM_floorDiv 18 = .ok (.lcmp, 1) := by decide +kernel
theorem d_JM_floorDiv_19 : decode b_JM_floorDiv 19 = .ok (.ifCond .eq 8, 3) := by decide +kernel
theorem d_JM_floorDiv_22 : decode b_JM_floorDiv 22 = .ok (.lload 4, 2) := by decide +kernel
theorem d_JM_floorDiv_24 : decode b_JM_floorDiv 24 = .ok (.lconst 1, 1) := by decide +kernel
theorem d_JM_floorDiv_25 : decode b_JM_floorDiv 25 = .ok (.lsub, 1) := by decide +kernel
theorem d_JM_floorDiv_26 : decode b_JM_floorDiv 26 = .ok (.lreturn, 1) := by decide +kernel
theorem d_JM_floorDiv_27 : decode b_JM_floorDiv 27 = .ok (.lload 4, 2) := by decide +kernel
theorem d_JM_floorDiv_29 : decode b_JM_floorDiv 29 = .ok (.lreturn, 1) := by decide +kernel
theorem d_CB_fewestTimes_0 : decode b_CB_fewestTimes 0 = .ok (.lload_n 0, 1) := by decide +kernel
theorem d_CB_fewestTimes_1 : decode b_CB_fewestTimes 1 = .ok (.lconst 0, 1) := by decide +kernel
theorem d_CB_fewestTimes_2 : decode b_CB_fewestTimes 2 = .ok (.lcmp, 1) := by decide +kernel
theorem d_CB_fewestTimes_3 : decode b_CB_fewestTimes 3 = .ok (.ifCond .lt 5, 3) := by decide +kernel
theorem d_CB_fewestTimes_6 : decode b_CB_fewestTimes 6 = .ok (.lconst 0, 1) := by decide +kernel
theorem d_CB_fewestTimes_7 : decode b_CB_fewestTimes 7 = .ok (.lreturn, 1) := by decide +kernel
theorem d_CB_fewestTimes_8 : decode b_CB_fewestTimes 8 = .ok (.lload_n 2, 1) := by decide +kernel
theorem d_CB_fewestTimes_9 : decode b_CB_fewestTimes 9 = .ok (.lconst 0, 1) := by decide +kernel
theorem d_CB_fewestTimes_10 : decode b_CB_fewestTimes 10 = .ok (.lcmp, 1) := by decide +kernel
theorem d_CB_fewestTimes_11 : decode b_CB_fewestTimes 11 = .ok (.ifCond .eq 19, 3) := by decide +kernel
theorem d_CB_fewestTimes_14 : decode b_CB_fewestTimes 14 = .ok (.lload_n 2, 1) := by decide +kernel
theorem d_CB_fewestTimes_15 : decode b_CB_fewestTimes 15 = .ok (.ldc2_w 113, 3) := by decide +kernel
theorem d_CB_fewestTimes_18 : decode b_CB_fewestTimes 18 = .ok (.lcmp, 1) := by decide +kernel
theorem d_CB_fewestTimes_19 : decode b_CB_fewestTimes 19 = .ok (.ifCond .ne 15, 3) := by decide +kernel
theorem d_CB_fewestTimes_22 : decode b_CB_fewestTimes 22 = .ok (.lload_n 0, 1) := by decide +kernel
theorem d_CB_fewestTimes_23 : decode b_CB_fewestTimes 23 = .ok (.ldc2_w 148, 3) := by decide +kernel
theorem d_CB_fewestTimes_26 : decode b_CB_fewestTimes 26 = .ok (.lcmp, 1) := by decide +kernel
theorem d_CB_fewestTimes_27 : decode b_CB_fewestTimes 27 = .ok (.ifCond .ne 7, 3) := by decide +kernel
theorem d_CB_fewestTimes_30 : decode b_CB_fewestTimes 30 = .ok (.ldc2_w 113, 3) := by decide +kernel
theorem d_CB_fewestTimes_33 : decode b_CB_fewestTimes 33 = .ok (.lreturn, 1) := by decide +kernel
theorem d_CB_fewestTimes_34 : decode b_CB_fewestTimes 34 = .ok (.lload_n 0, 1) := by decide +kernel
theorem d_CB_fewestTimes_35 : decode b_CB_fewestTimes 35 = .ok (.lload_n 2, 1) := by decide +kernel
theorem d_CB_fewestTimes_36 : decode b_CB_fewestTimes 36 = .ok (.ldiv, 1) := by decide +kernel
theorem d_CB_fewestTimes_37 : decode b_CB_fewestTimes 37 = .ok (.lstore 4, 2) := by decide +kernel
theorem d_CB_fewestTimes_39 : decode b_CB_fewestTimes 39 = .ok (.lload_n 0, 1) := by decide +kernel
theorem d_CB_fewestTimes_40 : decode b_CB_fewestTimes 40 = .ok (.lload_n 2, 1) := by decide +kernel
theorem d_CB_fewestTimes_41 : decode b_CB_fewestTimes 41 = .ok (.lrem, 1) := by decide +kernel
theorem d_CB_fewestTimes_42 : decode b_CB_fewestTimes 42 = .ok (.lconst 0, 1) := by decide +kernel
theorem d_CB_fewestTimes_43 : decode b_CB_fewestTimes 43 = .ok (.lcmp, 1) := by decide +kernel
theorem d_CB_fewestTimes_44 : decode b_CB_fewestTimes 44 = .ok (.ifCond .ne 8, 3) := by decide +kernel
theorem d_CB_fewestTimes_47 : decode b_CB_fewestTimes 47 = .ok (.lload 4, 2) := by decide +kernel
theorem d_CB_fewestTimes_49 : decode b_CB_fewestTimes 49 = .ok (.goto 7, 3) := by decide +kernel
theorem d_CB_fewestTimes_52 : decode b_CB_fewestTimes 52 = .ok (.lload 4, 2) := by decide +kernel
theorem d_CB_fewestTimes_54 : decode b_CB_fewestTimes 54 = .ok (.lconst 1, 1) := by decide +kernel
theorem d_CB_fewestTimes_55 : decode b_CB_fewestTimes 55 = .ok (.ladd, 1) := by decide +kernel
theorem d_CB_fewestTimes_56 : decode b_CB_fewestTimes 56 = .ok (.lreturn, 1) := by decide +kernel
theorem d_JM_max_0 : decode b_JM_max 0 = .ok (.lload_n 0, 1) := by decide +kernel
theorem d_JM_max_1 : decode b_JM_max 1 = .ok (.lload_n 2, 1) := by decide +kernel
theorem d_JM_max_2 : decode b_JM_max 2 = .ok (.lcmp, 1) := by decide +kernel
theorem d_JM_max_3 : decode b_JM_max 3 = .ok (.ifCond .lt 7, 3) := by decide +kernel
theorem d_JM_max_6 : decode b_JM_max 6 = .ok (.lload_n 0, 1) := by decide +kernel
theorem d_JM_max_7 : decode b_JM_max 7 = .ok (.goto 4, 3) := by decide +kernel
theorem d_JM_max_10 : decode b_JM_max 10 = .ok (.lload_n 2, 1) := by decide +kernel
theorem d_JM_max_11 : decode b_JM_max 11 = .ok (.lreturn, 1) := by decide +kernel
theorem d_Law_look_0 : decode b_Law_look 0 = .ok (.aload_n 3, 1) := by decide +kernel
theorem d_Law_look_1 : decode b_Law_look 1 = .ok (.iconst 0, 1) := by decide +kernel
theorem d_Law_look_2 : decode b_Law_look 2 = .ok (.aload_n 0, 1) := by decide +kernel
theorem d_Law_look_3 : decode b_Law_look 3 = .ok (.iload_n 1, 1) := by decide +kernel
theorem d_Law_look_4 : decode b_Law_look 4 = .ok (.iload_n 2, 1) := by decide +kernel
theorem d_Law_look_5 : decode b_Law_look 5 = .ok (.invokevirtual 65, 3) := by decide +kernel
theorem d_Law_look_8 : decode b_Law_look 8 = .ok (.i2l, 1) := by decide +kernel
theorem d_Law_look_9 : decode b_Law_look 9 = .ok (.lastore, 1) := by decide +kernel
theorem d_Law_look_10 : decode b_Law_look 10 = .ok (.goto 7, 3) := by decide +kernel
theorem d_Law_look_13 : decode b_Law_look 13 = .ok (.astore 4, 2) := by decide +kernel
theorem d_Law_look_15 : decode b_Law_look 15 = .ok (.iconst 1, 1) := by decide +kernel
theorem d_Law_look_16 : decode b_Law_look 16 = .ok (.ireturn, 1) := by decide +kernel
theorem d_Law_look_17 : decode b_Law_look 17 = .ok (.iconst 0, 1) := by decide +kernel
theorem d_Law_look_18 : decode b_Law_look 18 = .ok (.ireturn, 1) := by decide +kernel
theorem d_CB_look_0 : decode b_CB_look 0 = .ok (.iload_n 1, 1) := by decide +kernel
theorem d_CB_look_1 : decode b_CB_look 1 = .ok (.invokestatic 27, 3) := by decide +kernel
theorem d_CB_look_4 : decode b_CB_look 4 = .ok (.iload_n 2, 1) := by decide +kernel
theorem d_CB_look_5 : decode b_CB_look 5 = .ok (.tableswitch 57 0 2 #[27, 37, 47], 27) := by decide +kernel
theorem d_CB_look_32 : decode b_CB_look 32 = .ok (.aload_n 0, 1) := by decide +kernel
theorem d_CB_look_33 : decode b_CB_look 33 = .ok (.getfield 11, 3) := by decide +kernel
theorem d_CB_look_36 : decode b_CB_look 36 = .ok (.iload_n 1, 1) := by decide +kernel
theorem d_CB_look_37 : decode b_CB_look 37 = .ok (.aaload, 1) := by decide +kernel
theorem d_CB_look_38 : decode b_CB_look 38 = .ok (.invokevirtual 118, 3) := by decide +kernel
theorem d_CB_look_41 : decode b_CB_look 41 = .ok (.ireturn, 1) := by decide +kernel
theorem d_CB_look_42 : decode b_CB_look 42 = .ok (.aload_n 0, 1) := by decide +kernel
theorem d_CB_look_43 : decode b_CB_look 43 = .ok (.getfield 11, 3) := by decide +kernel
theorem d_CB_look_46 : decode b_CB_look 46 = .ok (.iload_n 1, 1) := by decide +kernel
theorem d_CB_look_47 : decode b_CB_look 47 = .ok (.aaload, 1) := by decide +kernel
theorem d_CB_look_48 : decode b_CB_look 48 = .ok (.invokevirtual 122, 3) := by decide +kernel
theorem d_CB_look_51 : decode b_CB_look 51 = .ok (.ireturn, 1) := by decide +kernel
theorem d_CB_look_52 : decode b_CB_look 52 = .ok (.aload_n 0, 1) := by decide +kernel
theorem d_CB_look_53 : decode b_CB_look 53 = .ok (.getfield 11, 3) := by decide +kernel
theorem d_CB_look_56 : decode b_CB_look 56 = .ok (.iload_n 1, 1) := by decide +kernel
theorem d_CB_look_57 : decode b_CB_look 57 = .ok (.aaload, 1) := by decide +kernel
theorem d_CB_look_58 : decode b_CB_look 58 = .ok (.invokevirtual 125, 3) := by decide +kernel
theorem d_CB_look_61 : decode b_CB_look 61 = .ok (.ireturn, 1) := by decide +kernel
theorem d_CB_look_62 : decode b_CB_look 62 = .ok (.iconst (-1), 1) := by decide +kernel
theorem d_CB_look_63 : decode b_CB_look 63 = .ok (.ireturn, 1) := by decide +kernel
theorem d_Bag_countPolicies_0 : decode b_Bag_countPolicies 0 = .ok (.iconst 0, 1) := by decide +kernel
theorem d_Bag_countPolicies_1 : decode b_Bag_countPolicies 1 = .ok (.istore_n 1, 1) := by decide +kernel
theorem d_Bag_countPolicies_2 : decode b_Bag_countPolicies 2 = .ok (.iconst 0, 1) := by decide +kernel
theorem d_Bag_countPolicies_3 : decode b_Bag_countPolicies 3 = .ok (.istore_n 2, 1) := by decide +kernel
theorem d_Bag_countPolicies_4 : decode b_Bag_countPolicies 4 = .ok (.iload_n 2, 1) := by decide +kernel
theorem d_Bag_countPolicies_5 : decode b_Bag_countPolicies 5 = .ok (.aload_n 0, 1) := by decide +kernel
theorem d_Bag_countPolicies_6 : decode b_Bag_countPolicies 6 = .ok (.getfield 22, 3) := by decide +kernel
theorem d_Bag_countPolicies_9 : decode b_Bag_countPolicies 9 = .ok (.if_icmp .ge 33, 3) := by decide +kernel
theorem d_Bag_countPolicies_12 : decode b_Bag_countPolicies 12 = .ok (.iload_n 2, 1) := by decide +kernel
theorem d_Bag_countPolicies_13 : decode b_Bag_countPolicies 13 = .ok (.ifCond .eq 20, 3) := by decide +kernel
theorem d_Bag_countPolicies_16 : decode b_Bag_countPolicies 16 = .ok (.aload_n 0, 1) := by decide +kernel
theorem d_Bag_countPolicies_17 : decode b_Bag_countPolicies 17 = .ok (.getfield 9, 3) := by decide +kernel
theorem d_Bag_countPolicies_20 : decode b_Bag_countPolicies 20 = .ok (.iload_n 2, 1) := by decide +kernel
theorem d_Bag_countPolicies_21 : decode b_Bag_countPolicies 21 = .ok (.iaload, 1) := by decide +kernel
theorem d_Bag_countPolicies_22 : decode b_Bag_countPolicies 22 = .ok (.aload_n 0, 1) := by decide +kernel
theorem d_Bag_countPolicies_23 : decode b_Bag_countPolicies 23 = .ok (.getfield 9, 3) := by decide +kernel
theorem d_Bag_countPolicies_26 : decode b_Bag_countPolicies 26 = .ok (.iload_n 2, 1) := by decide +kernel
theorem d_Bag_countPolicies_27 : decode b_Bag_countPolicies 27 = .ok (.iconst 1, 1) := by decide +kernel
theorem d_Bag_countPolicies_28 : decode b_Bag_countPolicies 28 = .ok (.isub, 1) := by decide +kernel
theorem d_Bag_countPolicies_29 : decode b_Bag_countPolicies 29 = .ok (.iaload, 1) := by decide +kernel
theorem d_Bag_countPolicies_30 : decode b_Bag_countPolicies 30 = .ok (.if_icmp .eq 6, 3) := by decide +kernel
theorem d_Bag_countPolicies_33 : decode b_Bag_countPolicies 33 = .ok (.iinc 1 1, 3) := by decide +kernel
theorem d_Bag_countPolicies_36 : decode b_Bag_countPolicies 36 = .ok (.iinc 2 1, 3) := by decide +kernel
theorem d_Bag_countPolicies_39 : decode b_Bag_countPolicies 39 = .ok (.goto (-35), 3) := by decide +kernel
theorem d_Bag_countPolicies_42 : decode b_Bag_countPolicies 42 = .ok (.iload_n 1, 1) := by decide +kernel
theorem d_Bag_countPolicies_43 : decode b_Bag_countPolicies 43 = .ok (.ireturn, 1) := by decide +kernel
theorem d_Bag_countBelowZero_0 : decode b_Bag_countBelowZero 0 = .ok (.iconst 0, 1) := by decide +kernel
theorem d_Bag_countBelowZero_1 : decode b_Bag_countBelowZero 1 = .ok (.istore_n 1, 1) := by decide +kernel
theorem d_Bag_countBelowZero_2 : decode b_Bag_countBelowZero 2 = .ok (.iconst 0, 1) := by decide +kernel
theorem d_Bag_countBelowZero_3 : decode b_Bag_countBelowZero 3 = .ok (.istore_n 2, 1) := by decide +kernel
theorem d_Bag_countBelowZero_4 : decode b_Bag_countBelowZero 4 = .ok (.iload_n 2, 1) := by decide +kernel
theorem d_Bag_countBelowZero_5 : decode b_Bag_countBelowZero 5 = .ok (.aload_n 0, 1) := by decide +kernel
theorem d_Bag_countBelowZero_6 : decode b_Bag_countBelowZero 6 = .ok (.getfield 22, 3) := by decide +kernel
theorem d_Bag_countBelowZero_9 : decode b_Bag_countBelowZero 9 = .ok (.if_icmp .ge 23, 3) := by decide +kernel
theorem d_Bag_countBelowZero_12 : decode b_Bag_countBelowZero 12 = .ok (.aload_n 0, 1) := by decide +kernel
theorem d_Bag_countBelowZero_13 : decode b_Bag_countBelowZero 13 = .ok (.getfield 19, 3) := by decide +kernel
theorem d_Bag_countBelowZero_16 : decode b_Bag_countBelowZero 16 = .ok (.iload_n 2, 1) := by decide +kernel
theorem d_Bag_countBelowZero_17 : decode b_Bag_countBelowZero 17 = .ok (.laload, 1) := by decide +kernel
theorem d_Bag_countBelowZero_18 : decode b_Bag_countBelowZero 18 = .ok (.lconst 0, 1) := by decide +kernel
theorem d_Bag_countBelowZero_19 : decode b_Bag_countBelowZero 19 = .ok (.lcmp, 1) := by decide +kernel
theorem d_Bag_countBelowZero_20 : decode b_Bag_countBelowZero 20 = .ok (.ifCond .ge 6, 3) := by decide +kernel
theorem d_Bag_countBelowZero_23 : decode b_Bag_countBelowZero 23 = .ok (.iinc 1 1, 3) := by decide +kernel
theorem d_Bag_countBelowZero_26 : decode b_Bag_countBelowZero 26 = .ok (.iinc 2 1, 3) := by decide +kernel
theorem d_Bag_countBelowZero_29 : decode b_Bag_countBelowZero 29 = .ok (.goto (-25), 3) := by decide +kernel
theorem d_Bag_countBelowZero_32 : decode b_Bag_countBelowZero 32 = .ok (.iload_n 1, 1) := by decide +kernel
theorem d_Bag_countBelowZero_33 : decode b_Bag_countBelowZero 33 = .ok (.ireturn, 1) := by decide +kernel
theorem d_Bag_placeOfGreatest_0 : decode b_Bag_placeOfGreatest 0 = .ok (.iconst (-1), 1) := by decide +kernel
theorem d_Bag_placeOfGreatest_1 : decode b_Bag_placeOfGreatest 1 = .ok (.istore_n 1, 1) := by decide +kernel
theorem d_Bag_placeOfGreatest_2 : decode b_Bag_placeOfGreatest 2 = .ok (.iconst 0, 1) := by decide +kernel
theorem d_Bag_placeOfGreatest_3 : decode b_Bag_placeOfGreatest 3 = .ok (.istore_n 2, 1) := by decide +kernel
theorem d_Bag_placeOfGreatest_4 : decode b_Bag_placeOfGreatest 4 = .ok (.iload_n 2, 1) := by decide +kernel
theorem d_Bag_placeOfGreatest_5 : decode b_Bag_placeOfGreatest 5 = .ok (.aload_n 0, 1) := by decide +kernel
theorem d_Bag_placeOfGreatest_6 : decode b_Bag_placeOfGreatest 6 = .ok (.getfield 22, 3) := by decide +kernel
theorem d_Bag_placeOfGreatest_9 : decode b_Bag_placeOfGreatest 9 = .ok (.if_icmp .ge 32, 3) := by decide +kernel
theorem d_Bag_placeOfGreatest_12 : decode b_Bag_placeOfGreatest 12 = .ok (.iload_n 1, 1) := by decide +kernel
theorem d_Bag_placeOfGreatest_13 : decode b_Bag_placeOfGreatest 13 = .ok (.iconst (-1), 1) := by decide +kernel
theorem d_Bag_placeOfGreatest_14 : decode b_Bag_placeOfGreatest 14 = .ok (.if_icmp .eq 19, 3) := by decide +kernel
theorem d_Bag_placeOfGreatest_17 : decode b_Bag_placeOfGreatest 17 = .ok (.aload_n 0, 1) := by decide +kernel
theorem d_Bag_placeOfGreatest_18 : decode b_Bag_placeOfGreatest 18 = .ok (.getfield 19, 3) := by decide +kernel
theorem d_Bag_placeOfGreatest_21 : decode b_Bag_placeOfGreatest 21 = .ok (.iload_n 2, 1) := by decide +kernel
theorem d_Bag_placeOfGreatest_22 : decode b_Bag_placeOfGreatest 22 = .ok (.laload, 1) := by decide +kernel
theorem d_Bag_placeOfGreatest_23 : decode b_Bag_placeOfGreatest 23 = .ok (.aload_n 0, 1) := by decide +kernel
theorem d_Bag_placeOfGreatest_24 : decode b_Bag_placeOfGreatest 24 = .ok (.getfield 19, 3) := by decide +kernel
theorem d_Bag_placeOfGreatest_27 : decode b_Bag_placeOfGreatest 27 = .ok (.iload_n 1, 1) := by decide +kernel
theorem d_Bag_placeOfGreatest_28 : decode b_Bag_placeOfGreatest 28 = .ok (.laload, 1) := by decide +kernel
theorem d_Bag_placeOfGreatest_29 : decode b_Bag_placeOfGreatest 29 = .ok (.lcmp, 1) := by decide +kernel
theorem d_Bag_placeOfGreatest_30 : decode b_Bag_placeOfGreatest 30 = .ok (.ifCond .le 5, 3) := by decide +kernel
theorem d_Bag_placeOfGreatest_33 : decode b_Bag_placeOfGreatest 33 = .ok (.iload_n 2, 1) := by decide +kernel
theorem d_Bag_placeOfGreatest_34 : decode b_Bag_placeOfGreatest 34 = .ok (.istore_n 1, 1) := by decide +kernel
theorem d_Bag_placeOfGreatest_35 : decode b_Bag_placeOfGreatest 35 = .ok (.iinc 2 1, 3) := by decide +kernel
theorem d_Bag_placeOfGreatest_38 : decode b_Bag_placeOfGreatest 38 = .ok (.goto (-34), 3) := by decide +kernel
theorem d_Bag_placeOfGreatest_41 : decode b_Bag_placeOfGreatest 41 = .ok (.iload_n 1, 1) := by decide +kernel
theorem d_Bag_placeOfGreatest_42 : decode b_Bag_placeOfGreatest 42 = .ok (.ireturn, 1) := by decide +kernel
theorem d_Mod_init_0 : decode b_Mod_init 0 = .ok (.aload_n 0, 1) := by decide +kernel
theorem d_Mod_init_1 : decode b_Mod_init 1 = .ok (.invokespecial 1, 3) := by decide +kernel
theorem d_Mod_init_4 : decode b_Mod_init 4 = .ok (.aload_n 0, 1) := by decide +kernel
theorem d_Mod_init_5 : decode b_Mod_init 5 = .ok (.bipush 8, 2) := by decide +kernel
theorem d_Mod_init_7 : decode b_Mod_init 7 = .ok (.newarray .int, 2) := by decide +kernel
theorem d_Mod_init_9 : decode b_Mod_init 9 = .ok (.putfield 7, 3) := by decide +kernel
theorem d_Mod_init_12 : decode b_Mod_init 12 = .ok (.aload_n 0, 1) := by decide +kernel
theorem d_Mod_init_13 : decode b_Mod_init 13 = .ok (.sipush 512, 3) := by decide +kernel
theorem d_Mod_init_16 : decode b_Mod_init 16 = .ok (.newarray .int, 2) := by decide +kernel
theorem d_Mod_init_18 : decode b_Mod_init 18 = .ok (.putfield 13, 3) := by decide +kernel
theorem d_Mod_init_21 : decode b_Mod_init 21 = .ok (.aload_n 0, 1) := by decide +kernel
theorem d_Mod_init_22 : decode b_Mod_init 22 = .ok (.sipush 512, 3) := by decide +kernel
theorem d_Mod_init_25 : decode b_Mod_init 25 = .ok (.newarray .long, 2) := by decide +kernel
theorem d_Mod_init_27 : decode b_Mod_init 27 = .ok (.putfield 16, 3) := by decide +kernel
theorem d_Mod_init_30 : decode b_Mod_init 30 = .ok (.aload_n 0, 1) := by decide +kernel
theorem d_Mod_init_31 : decode b_Mod_init 31 = .ok (.sipush 512, 3) := by decide +kernel
theorem d_Mod_init_34 : decode b_Mod_init 34 = .ok (.newarray .long, 2) := by decide +kernel
theorem d_Mod_init_36 : decode b_Mod_init 36 = .ok (.putfield 20, 3) := by decide +kernel
theorem d_Mod_init_39 : decode b_Mod_init 39 = .ok (.aload_n 0, 1) := by decide +kernel
theorem d_Mod_init_40 : decode b_Mod_init 40 = .ok (.sipush 130, 3) := by decide +kernel
theorem d_Mod_init_43 : decode b_Mod_init 43 = .ok (.newarray .int, 2) := by decide +kernel
theorem d_Mod_init_45 : decode b_Mod_init 45 = .ok (.putfield 23, 3) := by decide +kernel
theorem d_Mod_init_48 : decode b_Mod_init 48 = .ok (.aload_n 0, 1) := by decide +kernel
theorem d_Mod_init_49 : decode b_Mod_init 49 = .ok (.sipush 130, 3) := by decide +kernel
theorem d_Mod_init_52 : decode b_Mod_init 52 = .ok (.newarray .long, 2) := by decide +kernel
theorem d_Mod_init_54 : decode b_Mod_init 54 = .ok (.putfield 26, 3) := by decide +kernel
theorem d_Mod_init_57 : decode b_Mod_init 57 = .ok (.aload_n 0, 1) := by decide +kernel
theorem d_Mod_init_58 : decode b_Mod_init 58 = .ok (.sipush 130, 3) := by decide +kernel
theorem d_Mod_init_61 : decode b_Mod_init 61 = .ok (.newarray .long, 2) := by decide +kernel
theorem d_Mod_init_63 : decode b_Mod_init 63 = .ok (.putfield 29, 3) := by decide +kernel
theorem d_Mod_init_66 : decode b_Mod_init 66 = .ok (.return_, 1) := by decide +kernel
theorem d_Mod_thrown_0 : decode b_Mod_thrown 0 = .ok (.aload_n 0, 1) := by decide +kernel
theorem d_Mod_thrown_1 : decode b_Mod_thrown 1 = .ok (.getfield 32, 3) := by decide +kernel
theorem d_Mod_thrown_4 : decode b_Mod_thrown 4 = .ok (.ireturn, 1) := by decide +kernel
theorem d_Mod_set_0 : decode b_Mod_set 0 = .ok (.aload_n 0, 1) := by decide +kernel
theorem d_Mod_set_1 : decode b_Mod_set 1 = .ok (.aload_n 0, 1) := by decide +kernel
theorem d_Mod_set_2 : decode b_Mod_set 2 = .ok (.iload_n 1, 1) := by decide +kernel
theorem d_Mod_set_3 : decode b_Mod_set 3 = .ok (.iconst 0, 1) := by decide +kernel
theorem d_Mod_set_4 : decode b_Mod_set 4 = .ok (.iconst 0, 1) := by decide +kernel
theorem d_Mod_set_5 : decode b_Mod_set 5 = .ok (.iload_n 2, 1) := by decide +kernel
theorem d_Mod_set_6 : decode b_Mod_set 6 = .ok (.invokevirtual 85, 3) := by decide +kernel
theorem d_Mod_set_9 : decode b_Mod_set 9 = .ok (.putfield 32, 3) := by decide +kernel
theorem d_Mod_set_12 : decode b_Mod_set 12 = .ok (.aload_n 0, 1) := by decide +kernel
theorem d_Mod_set_13 : decode b_Mod_set 13 = .ok (.getfield 32, 3) := by decide +kernel
theorem d_Mod_set_16 : decode b_Mod_set 16 = .ok (.ifCond .ne 19, 3) := by decide +kernel
theorem d_Mod_set_19 : decode b_Mod_set 19 = .ok (.aload_n 0, 1) := by decide +kernel
theorem d_Mod_set_20 : decode b_Mod_set 20 = .ok (.iload_n 1, 1) := by decide +kernel
theorem d_Mod_set_21 : decode b_Mod_set 21 = .ok (.iload_n 2, 1) := by decide +kernel
theorem d_Mod_set_22 : decode b_Mod_set 22 = .ok (.lload_n 3, 1) := by decide +kernel
theorem d_Mod_set_23 : decode b_Mod_set 23 = .ok (.lload 5, 2) := by decide +kernel
theorem d_Mod_set_25 : decode b_Mod_set 25 = .ok (.invokevirtual 89, 3) := by decide +kernel
theorem d_Mod_set_28 : decode b_Mod_set 28 = .ok (.ifCond .eq 7, 3) := by decide +kernel
theorem d_Mod_set_31 : decode b_Mod_set 31 = .ok (.iconst 1, 1) := by decide +kernel
theorem d_Mod_set_32 : decode b_Mod_set 32 = .ok (.goto 4, 3) := by decide +kernel
theorem d_Mod_set_35 : decode b_Mod_set 35 = .ok (.iconst 0, 1) := by decide +kernel
theorem d_Mod_set_36 : decode b_Mod_set 36 = .ok (.ireturn, 1) := by decide +kernel
theorem d_Mod_wrong_0 : decode b_Mod_wrong 0 = .ok (.iload_n 1, 1) := by decide +kernel
theorem d_Mod_wrong_1 : decode b_Mod_wrong 1 = .ok (.invokestatic 78, 3) := by decide +kernel
theorem d_Mod_wrong_4 : decode b_Mod_wrong 4 = .ok (.ifCond .eq 17, 3) := by decide +kernel
theorem d_Mod_wrong_7 : decode b_Mod_wrong 7 = .ok (.iload_n 2, 1) := by decide +kernel
theorem d_Mod_wrong_8 : decode b_Mod_wrong 8 = .ok (.invokestatic 78, 3) := by decide +kernel
theorem d_Mod_wrong_11 : decode b_Mod_wrong 11 = .ok (.ifCond .eq 10, 3) := by decide +kernel
theorem d_Mod_wrong_14 : decode b_Mod_wrong 14 = .ok (.iload_n 3, 1) := by decide +kernel
theorem d_Mod_wrong_15 : decode b_Mod_wrong 15 = .ok (.invokestatic 78, 3) := by decide +kernel
theorem d_Mod_wrong_18 : decode b_Mod_wrong 18 = .ok (.ifCond .ne 7, 3) := by decide +kernel
theorem d_Mod_wrong_21 : decode b_Mod_wrong 21 = .ok (.iconst 1, 1) := by decide +kernel
theorem d_Mod_wrong_22 : decode b_Mod_wrong 22 = .ok (.goto 16, 3) := by decide +kernel
theorem d_Mod_wrong_25 : decode b_Mod_wrong 25 = .ok (.iload 4, 2) := by decide +kernel
theorem d_Mod_wrong_27 : decode b_Mod_wrong 27 = .ok (.invokestatic 82, 3) := by decide +kernel
theorem d_Mod_wrong_30 : decode b_Mod_wrong 30 = .ok (.ifCond .ne 7, 3) := by decide +kernel
theorem d_Mod_wrong_33 : decode b_Mod_wrong 33 = .ok (.iconst 2, 1) := by decide +kernel
theorem d_Mod_wrong_34 : decode b_Mod_wrong 34 = .ok (.goto 4, 3) := by decide +kernel
theorem d_Mod_wrong_37 : decode b_Mod_wrong 37 = .ok (.iconst 0, 1) := by decide +kernel
theorem d_Mod_wrong_38 : decode b_Mod_wrong 38 = .ok (.ireturn, 1) := by decide +kernel
theorem d_Mod_isBag_0 : decode b_Mod_isBag 0 = .ok (.iload_n 0, 1) := by decide +kernel
theorem d_Mod_isBag_1 : decode b_Mod_isBag 1 = .ok (.ifCond .lt 13, 3) := by decide +kernel
theorem d_Mod_isBag_4 : decode b_Mod_isBag 4 = .ok (.iload_n 0, 1) := by decide +kernel
theorem d_Mod_isBag_5 : decode b_Mod_isBag 5 = .ok (.bipush 8, 2) := by decide +kernel
theorem d_Mod_isBag_7 : decode b_Mod_isBag 7 = .ok (.if_icmp .ge 7, 3) := by decide +kernel
theorem d_Mod_isBag_10 : decode b_Mod_isBag 10 = .ok (.iconst 1, 1) := by decide +kernel
theorem d_Mod_isBag_11 : decode b_Mod_isBag 11 = .ok (.goto 4, 3) := by decide +kernel
theorem d_Mod_isBag_14 : decode b_Mod_isBag 14 = .ok (.iconst 0, 1) := by decide +kernel
theorem d_Mod_isBag_15 : decode b_Mod_isBag 15 = .ok (.ireturn, 1) := by decide +kernel
theorem d_Mod_isPolicy_0 : decode b_Mod_isPolicy 0 = .ok (.iload_n 0, 1) := by decide +kernel
theorem d_Mod_isPolicy_1 : decode b_Mod_isPolicy 1 = .ok (.ifCond .lt 13, 3) := by decide +kernel
theorem d_Mod_isPolicy_4 : decode b_Mod_isPolicy 4 = .ok (.iload_n 0, 1) := by decide +kernel
theorem d_Mod_isPolicy_5 : decode b_Mod_isPolicy 5 = .ok (.ldc 36, 2) := by decide +kernel
theorem d_Mod_isPolicy_7 : decode b_Mod_isPolicy 7 = .ok (.if_icmp .ge 7, 3) := by decide +kernel
theorem d_Mod_isPolicy_10 : decode b_Mod_isPolicy 10 = .ok (.iconst 1, 1) := by decide +kernel
theorem d_Mod_isPolicy_11 : decode b_Mod_isPolicy 11 = .ok (.goto 4, 3) := by decide +kernel
theorem d_Mod_isPolicy_14 : decode b_Mod_isPolicy 14 = .ok (.iconst 0, 1) := by decide +kernel
theorem d_Mod_isPolicy_15 : decode b_Mod_isPolicy 15 = .ok (.ireturn, 1) := by decide +kernel
theorem d_Mod_store_0 : decode b_Mod_store 0 = .ok (.aload_n 0, 1) := by decide +kernel
theorem d_Mod_store_1 : decode b_Mod_store 1 = .ok (.iload_n 1, 1) := by decide +kernel
theorem d_Mod_store_2 : decode b_Mod_store 2 = .ok (.iload_n 2, 1) := by decide +kernel
theorem d_Mod_store_3 : decode b_Mod_store 3 = .ok (.lload_n 3, 1) := by decide +kernel
theorem d_Mod_store_4 : decode b_Mod_store 4 = .ok (.invokevirtual 37, 3) := by decide +kernel
theorem d_Mod_store_7 : decode b_Mod_store 7 = .ok (.istore 7, 2) := by decide +kernel
theorem d_Mod_store_9 : decode b_Mod_store 9 = .ok (.iload 7, 2) := by decide +kernel
theorem d_Mod_store_11 : decode b_Mod_store 11 = .ok (.ifCond .ge 12, 3) := by decide +kernel
theorem d_Mod_store_14 : decode b_Mod_store 14 = .ok (.lload 5, 2) := by decide +kernel
theorem d_Mod_store_16 : decode b_Mod_store 16 = .ok (.lconst 0, 1) := by decide +kernel
theorem d_Mod_store_17 : decode b_Mod_store 17 = .ok (.lcmp, 1) := by decide +kernel
theorem d_Mod_store_18 : decode b_Mod_store 18 = .ok (.ifCond .ne 5, 3) := by decide +kernel
theorem d_Mod_store_21 : decode b_Mod_store 21 = .ok (.iconst 1, 1) := by decide +kernel
theorem d_Mod_store_22 : decode b_Mod_store 22 = .ok (.ireturn, 1) := by decide +kernel
theorem d_Mod_store_23 : decode b_Mod_store 23 = .ok (.iload 7, 2) := by decide +kernel
theorem d_Mod_store_25 : decode b_Mod_store 25 = .ok (.ifCond .ge 34, 3) := by decide +kernel
theorem d_Mod_store_28 : decode b_Mod_store 28 = .ok (.aload_n 0, 1) := by decide +kernel
theorem d_Mod_store_29 : decode b_Mod_store 29 = .ok (.getfield 7, 3) := by decide +kernel
theorem d_Mod_store_32 : decode b_Mod_store 32 = .ok (.iload_n 1, 1) := by decide +kernel
theorem d_Mod_store_33 : decode b_Mod_store 33 = .ok (.iaload, 1) := by decide +kernel
theorem d_Mod_store_34 : decode b_Mod_store 34 = .ok (.bipush 64, 2) := by decide +kernel
theorem d_Mod_store_36 : decode b_Mod_store 36 = .ok (.if_icmp .ne 5, 3) := by decide +kernel
theorem d_Mod_store_39 : decode b_Mod_store 39 = .ok (.iconst 0, 1) := by decide +kernel
theorem d_Mod_store_40 : decode b_Mod_store 40 = .ok (.ireturn, 1) := by decide +kernel
theorem d_Mod_store_41 : decode b_Mod_store 41 = .ok (.aload_n 0, 1) := by decide +kernel
theorem d_Mod_store_42 : decode b_Mod_store 42 = .ok (.getfield 7, 3) := by decide +kernel
theorem d_Mod_store_45 : decode b_Mod_store 45 = .ok (.iload_n 1, 1) := by decide +kernel
theorem d_Mod_store_46 : decode b_Mod_store 46 = .ok (.iaload, 1) := by decide +kernel
theorem d_Mod_store_47 : decode b_Mod_store 47 = .ok (.istore 7, 2) := by decide +kernel
theorem d_Mod_store_49 : decode b_Mod_store 49 = .ok (.aload_n 0, 1) := by decide +kernel
theorem d_Mod_store_50 : decode b_Mod_store 50 = .ok (.getfield 7, 3) := by decide +kernel
theorem d_Mod_store_53 : decode b_Mod_store 53 = .ok (.iload_n 1, 1) := by decide +kernel
theorem d_Mod_store_54 : decode b_Mod_store 54 = .ok (.dup2, 1) := by decide +kernel
theorem d_Mod_store_55 : decode b_Mod_store 55 = .ok (.iaload, 1) := by decide +kernel
theorem d_Mod_store_56 : decode b_Mod_store 56 = .ok (.iconst 1, 1) := by decide +kernel
theorem d_Mod_store_57 : decode b_Mod_store 57 = .ok (.iadd, 1) := by decide +kernel
theorem d_Mod_store_58 : decode b_Mod_store 58 = .ok (.iastore, 1) := by decide +kernel
theorem d_Mod_store_59 : decode b_Mod_store 59 = .ok (.bipush 64, 2) := by decide +kernel
theorem d_Mod_store_61 : decode b_Mod_store 61 = .ok (.iload_n 1, 1) := by decide +kernel
theorem d_Mod_store_62 : decode b_Mod_store 62 = .ok (.imul, 1) := by decide +kernel
theorem d_Mod_store_63 : decode b_Mod_store 63 = .ok (.iload 7, 2) := by decide +kernel
theorem d_Mod_store_65 : decode b_Mod_store 65 = .ok (.iadd, 1) := by decide +kernel
theorem d_Mod_store_66 : decode b_Mod_store 66 = .ok (.istore 8, 2) := by decide +kernel
theorem d_Mod_store_68 : decode b_Mod_store 68 = .ok (.aload_n 0, 1) := by decide +kernel
theorem d_Mod_store_69 : decode b_Mod_store 69 = .ok (.getfield 13, 3) := by decide +kernel
theorem d_Mod_store_72 : decode b_Mod_store 72 = .ok (.iload 8, 2) := by decide +kernel
theorem d_Mod_store_74 : decode b_Mod_store 74 = .ok (.iload_n 2, 1) := by decide +kernel
theorem d_Mod_store_75 : decode b_Mod_store 75 = .ok (.iastore, 1) := by decide +kernel
theorem d_Mod_store_76 : decode b_Mod_store 76 = .ok (.aload_n 0, 1) := by decide +kernel
theorem d_Mod_store_77 : decode b_Mod_store 77 = .ok (.getfield 16, 3) := by decide +kernel
theorem d_Mod_store_80 : decode b_Mod_store 80 = .ok (.iload 8, 2) := by decide +kernel
theorem d_Mod_store_82 : decode b_Mod_store 82 = .ok (.lload_n 3, 1) := by decide +kernel
theorem d_Mod_store_83 : decode b_Mod_store 83 = .ok (.lastore, 1) := by decide +kernel
theorem d_Mod_store_84 : decode b_Mod_store 84 = .ok (.aload_n 0, 1) := by decide +kernel
theorem d_Mod_store_85 : decode b_Mod_store 85 = .ok (.getfield 20, 3) := by decide +kernel
theorem d_Mod_store_88 : decode b_Mod_store 88 = .ok (.iload 8, 2) := by decide +kernel
theorem d_Mod_store_90 : decode b_Mod_store 90 = .ok (.lload 5, 2) := by decide +kernel
theorem d_Mod_store_92 : decode b_Mod_store 92 = .ok (.lastore, 1) := by decide +kernel
theorem d_Mod_store_93 : decode b_Mod_store 93 = .ok (.lload 5, 2) := by decide +kernel
theorem d_Mod_store_95 : decode b_Mod_store 95 = .ok (.lconst 0, 1) := by decide +kernel
theorem d_Mod_store_96 : decode b_Mod_store 96 = .ok (.lcmp, 1) := by decide +kernel
theorem d_Mod_store_97 : decode b_Mod_store 97 = .ok (.ifCond .ne 68, 3) := by decide +kernel
theorem d_Mod_store_100 : decode b_Mod_store 100 = .ok (.aload_n 0, 1) := by decide +kernel
theorem d_Mod_store_101 : decode b_Mod_store 101 = .ok (.getfield 7, 3) := by decide +kernel
theorem d_Mod_store_104 : decode b_Mod_store 104 = .ok (.iload_n 1, 1) := by decide +kernel
theorem d_Mod_store_105 : decode b_Mod_store 105 = .ok (.dup2, 1) := by decide +kernel
theorem d_Mod_store_106 : decode b_Mod_store 106 = .ok (.iaload, 1) := by decide +kernel
theorem d_Mod_store_107 : decode b_Mod_store 107 = .ok (.iconst 1, 1) := by decide +kernel
theorem d_Mod_store_108 : decode b_Mod_store 108 = .ok (.isub, 1) := by decide +kernel
theorem d_Mod_store_109 : decode b_Mod_store 109 = .ok (.iastore, 1) := by decide +kernel
theorem d_Mod_store_110 : decode b_Mod_store 110 = .ok (.bipush 64, 2) := by decide +kernel
theorem d_Mod_store_112 : decode b_Mod_store 112 = .ok (.iload_n 1, 1) := by decide +kernel
theorem d_Mod_store_113 : decode b_Mod_store 113 = .ok (.imul, 1) := by decide +kernel
theorem d_Mod_store_114 : decode b_Mod_store 114 = .ok (.aload_n 0, 1) := by decide +kernel
theorem d_Mod_store_115 : decode b_Mod_store 115 = .ok (.getfield 7, 3) := by decide +kernel
theorem d_Mod_store_118 : decode b_Mod_store 118 = .ok (.iload_n 1, 1) := by decide +kernel
theorem d_Mod_store_119 : decode b_Mod_store 119 = .ok (.iaload, 1) := by decide +kernel
theorem d_Mod_store_120 : decode b_Mod_store 120 = .ok (.iadd, 1) := by decide +kernel
theorem d_Mod_store_121 : decode b_Mod_store 121 = .ok (.istore 9, 2) := by decide +kernel
theorem d_Mod_store_123 : decode b_Mod_store 123 = .ok (.aload_n 0, 1) := by decide +kernel
theorem d_Mod_store_124 : decode b_Mod_store 124 = .ok (.getfield 13, 3) := by decide +kernel
theorem d_Mod_store_127 : decode b_Mod_store 127 = .ok (.iload 8, 2) := by decide +kernel
theorem d_Mod_store_129 : decode b_Mod_store 129 = .ok (.aload_n 0, 1) := by decide +kernel
theorem d_Mod_store_130 : decode b_Mod_store 130 = .ok (.getfield 13, 3) := by decide +kernel
theorem d_Mod_store_133 : decode b_Mod_store 133 = .ok (.iload 9, 2) := by decide +kernel
theorem d_Mod_store_135 : decode b_Mod_store 135 = .ok (.iaload, 1) := by decide +kernel
theorem d_Mod_store_136 : decode b_Mod_store 136 = .ok (.iastore, 1) := by decide +kernel
theorem d_Mod_store_137 : decode b_Mod_store 137 = .ok (.aload_n 0, 1) := by decide +kernel
theorem d_Mod_store_138 : decode b_Mod_store 138 = .ok (.getfield 16, 3) := by decide +kernel
theorem d_Mod_store_141 : decode b_Mod_store 141 = .ok (.iload 8, 2) := by decide +kernel
theorem d_Mod_store_143 : decode b_Mod_store 143 = .ok (.aload_n 0, 1) := by decide +kernel
theorem d_Mod_store_144 : decode b_Mod_store 144 = .ok (.getfield 16, 3) := by decide +kernel
theorem d_Mod_store_147 : decode b_Mod_store 147 = .ok (.iload 9, 2) := by decide +kernel
theorem d_Mod_store_149 : decode b_Mod_store 149 = .ok (.laload, 1) := by decide +kernel
theorem d_Mod_store_150 : decode b_Mod_store 150 = .ok (.lastore, 1) := by decide +kernel
theorem d_Mod_store_151 : decode b_Mod_store 151 = .ok (.aload_n 0, 1) := by decide +kernel
theorem d_Mod_store_152 : decode b_Mod_store 152 = .ok (.getfield 20, 3) := by decide +kernel
theorem d_Mod_store_155 : decode b_Mod_store 155 = .ok (.iload 8, 2) := by decide +kernel
theorem d_Mod_store_157 : decode b_Mod_store 157 = .ok (.aload_n 0, 1) := by decide +kernel
theorem d_Mod_store_158 : decode b_Mod_store 158 = .ok (.getfield 20, 3) := by decide +kernel
theorem d_Mod_store_161 : decode b_Mod_store 161 = .ok (.iload 9, 2) := by decide +kernel
theorem d_Mod_store_163 : decode b_Mod_store 163 = .ok (.laload, 1) := by decide +kernel
theorem d_Mod_store_164 : decode b_Mod_store 164 = .ok (.lastore, 1) := by decide +kernel
theorem d_Mod_store_165 : decode b_Mod_store 165 = .ok (.iconst 1, 1) := by decide +kernel
theorem d_Mod_store_166 : decode b_Mod_store 166 = .ok (.ireturn, 1) := by decide +kernel
theorem d_Mod_find_0 : decode b_Mod_find 0 = .ok (.iconst 0, 1) := by decide +kernel
theorem d_Mod_find_1 : decode b_Mod_find 1 = .ok (.istore 5, 2) := by decide +kernel
theorem d_Mod_find_3 : decode b_Mod_find 3 = .ok (.iload 5, 2) := by decide +kernel
theorem d_Mod_find_5 : decode b_Mod_find 5 = .ok (.aload_n 0, 1) := by decide +kernel
theorem d_Mod_find_6 : decode b_Mod_find 6 = .ok (.getfield 7, 3) := by decide +kernel
theorem d_Mod_find_9 : decode b_Mod_find 9 = .ok (.iload_n 1, 1) := by decide +kernel
theorem d_Mod_find_10 : decode b_Mod_find 10 = .ok (.iaload, 1) := by decide +kernel
theorem d_Mod_find_11 : decode b_Mod_find 11 = .ok (.if_icmp .ge 45, 3) := by decide +kernel
theorem d_Mod_find_14 : decode b_Mod_find 14 = .ok (.aload_n 0, 1) := by decide +kernel
theorem d_Mod_find_15 : decode b_Mod_find 15 = .ok (.getfield 13, 3) := by decide +kernel
theorem d_Mod_find_18 : decode b_Mod_find 18 = .ok (.bipush 64, 2) := by decide +kernel
theorem d_Mod_find_20 : decode b_Mod_find 20 = .ok (.iload_n 1, 1) := by decide +kernel
theorem d_Mod_find_21 : decode b_Mod_find 21 = .ok (.imul, 1) := by decide +kernel
theorem d_Mod_find_22 : decode b_Mod_find 22 = .ok (.iload 5, 2) := by decide +kernel
theorem d_Mod_find_24 : decode b_Mod_find 24 = .ok (.iadd, 1) := by decide +kernel
theorem d_Mod_find_25 : decode b_Mod_find 25 = .ok (.iaload, 1) := by decide +kernel
theorem d_Mod_find_26 : decode b_Mod_find 26 = .ok (.iload_n 2, 1) := by decide +kernel
theorem d_Mod_find_27 : decode b_Mod_find 27 = .ok (.if_icmp .ne 23, 3) := by decide +kernel
theorem d_Mod_find_30 : decode b_Mod_find 30 = .ok (.aload_n 0, 1) := by decide +kernel
theorem d_Mod_find_31 : decode b_Mod_find 31 = .ok (.getfield 16, 3) := by decide +kernel
theorem d_Mod_find_34 : decode b_Mod_find 34 = .ok (.bipush 64, 2) := by decide +kernel
theorem d_Mod_find_36 : decode b_Mod_find 36 = .ok (.iload_n 1, 1) := by decide +kernel
theorem d_Mod_find_37 : decode b_Mod_find 37 = .ok (.imul, 1) := by decide +kernel
theorem d_Mod_find_38 : decode b_Mod_find 38 = .ok (.iload 5, 2) := by decide +kernel
theorem d_Mod_find_40 : decode b_Mod_find 40 = .ok (.iadd, 1) := by decide +kernel
theorem d_Mod_find_41 : decode b_Mod_find 41 = .ok (.laload, 1) := by decide +kernel
theorem d_Mod_find_42 : decode b_Mod_find 42 = .ok (.lload_n 3, 1) := by decide +kernel
theorem d_Mod_find_43 : decode b_Mod_find 43 = .ok (.lcmp, 1) := by decide +kernel
theorem d_Mod_find_44 : decode b_Mod_find 44 = .ok (.ifCond .ne 6, 3) := by decide +kernel
theorem d_Mod_find_47 : decode b_Mod_find 47 = .ok (.iload 5, 2) := by decide +kernel
theorem d_Mod_find_49 : decode b_Mod_find 49 = .ok (.ireturn, 1) := by decide +kernel
theorem d_Mod_find_50 : decode b_Mod_find 50 = .ok (.iinc 5 1, 3) := by decide +kernel
theorem d_Mod_find_53 : decode b_Mod_find 53 = .ok (.goto (-50), 3) := by decide +kernel
theorem d_Mod_find_56 : decode b_Mod_find 56 = .ok (.iconst (-1), 1) := by decide +kernel
theorem d_Mod_find_57 : decode b_Mod_find 57 = .ok (.ireturn, 1) := by decide +kernel
theorem d_Mod_put_0 : decode b_Mod_put 0 = .ok (.aload_n 0, 1) := by decide +kernel
theorem d_Mod_put_1 : decode b_Mod_put 1 = .ok (.aload_n 0, 1) := by decide +kernel
theorem d_Mod_put_2 : decode b_Mod_put 2 = .ok (.iload_n 1, 1) := by decide +kernel
theorem d_Mod_put_3 : decode b_Mod_put 3 = .ok (.iconst 0, 1) := by decide +kernel
theorem d_Mod_put_4 : decode b_Mod_put 4 = .ok (.iconst 0, 1) := by decide +kernel
theorem d_Mod_put_5 : decode b_Mod_put 5 = .ok (.iload_n 2, 1) := by decide +kernel
theorem d_Mod_put_6 : decode b_Mod_put 6 = .ok (.invokevirtual 85, 3) := by decide +kernel
theorem d_Mod_put_9 : decode b_Mod_put 9 = .ok (.putfield 32, 3) := by decide +kernel
theorem d_Mod_put_12 : decode b_Mod_put 12 = .ok (.aload_n 0, 1) := by decide +kernel
theorem d_Mod_put_13 : decode b_Mod_put 13 = .ok (.getfield 32, 3) := by decide +kernel
theorem d_Mod_put_16 : decode b_Mod_put 16 = .ok (.ifCond .le 5, 3) := by decide +kernel
theorem d_Mod_put_19 : decode b_Mod_put 19 = .ok (.iconst 0, 1) := by decide +kernel
theorem d_Mod_put_20 : decode b_Mod_put 20 = .ok (.ireturn, 1) := by decide +kernel
theorem d_Mod_put_21 : decode b_Mod_put 21 = .ok (.aload_n 0, 1) := by decide +kernel
theorem d_Mod_put_22 : decode b_Mod_put 22 = .ok (.iconst 0, 1) := by decide +kernel
theorem d_Mod_put_23 : decode b_Mod_put 23 = .ok (.putfield 52, 3) := by decide +kernel
theorem d_Mod_put_26 : decode b_Mod_put 26 = .ok (.aload_n 0, 1) := by decide +kernel
theorem d_Mod_put_27 : decode b_Mod_put 27 = .ok (.aload_n 0, 1) := by decide +kernel
theorem d_Mod_put_28 : decode b_Mod_put 28 = .ok (.iload_n 1, 1) := by decide +kernel
theorem d_Mod_put_29 : decode b_Mod_put 29 = .ok (.iload_n 2, 1) := by decide +kernel
theorem d_Mod_put_30 : decode b_Mod_put 30 = .ok (.lload_n 3, 1) := by decide +kernel
theorem d_Mod_put_31 : decode b_Mod_put 31 = .ok (.invokevirtual 63, 3) := by decide +kernel
theorem d_Mod_put_34 : decode b_Mod_put 34 = .ok (.lload 5, 2) := by decide +kernel
theorem d_Mod_put_36 : decode b_Mod_put 36 = .ok (.invokevirtual 67, 3) := by decide +kernel
theorem d_Mod_put_39 : decode b_Mod_put 39 = .ok (.lstore 7, 2) := by decide +kernel
theorem d_Mod_put_41 : decode b_Mod_put 41 = .ok (.aload_n 0, 1) := by decide +kernel
theorem d_Mod_put_42 : decode b_Mod_put 42 = .ok (.getfield 52, 3) := by decide +kernel
theorem d_Mod_put_45 : decode b_Mod_put 45 = .ok (.ifCond .ne 19, 3) := by decide +kernel
theorem d_Mod_put_48 : decode b_Mod_put 48 = .ok (.aload_n 0, 1) := by decide +kernel
theorem d_Mod_put_49 : decode b_Mod_put 49 = .ok (.iload_n 1, 1) := by decide +kernel
theorem d_Mod_put_50 : decode b_Mod_put 50 = .ok (.iload_n 2, 1) := by decide +kernel
theorem d_Mod_put_51 : decode b_Mod_put 51 = .ok (.lload_n 3, 1) := by decide +kernel
theorem d_Mod_put_52 : decode b_Mod_put 52 = .ok (.lload 7, 2) := by decide +kernel
theorem d_Mod_put_54 : decode b_Mod_put 54 = .ok (.invokevirtual 89, 3) := by decide +kernel
theorem d_Mod_put_57 : decode b_Mod_put 57 = .ok (.ifCond .eq 7, 3) := by decide +kernel
theorem d_Mod_put_60 : decode b_Mod_put 60 = .ok (.iconst 1, 1) := by decide +kernel
theorem d_Mod_put_61 : decode b_Mod_put 61 = .ok (.goto 4, 3) := by decide +kernel
theorem d_Mod_put_64 : decode b_Mod_put 64 = .ok (.iconst 0, 1) := by decide +kernel
theorem d_Mod_put_65 : decode b_Mod_put 65 = .ok (.ireturn, 1) := by decide +kernel
theorem d_Mod_valueOf_0 : decode b_Mod_valueOf 0 = .ok (.aload_n 0, 1) := by decide +kernel
theorem d_Mod_valueOf_1 : decode b_Mod_valueOf 1 = .ok (.iload_n 1, 1) := by decide +kernel
theorem d_Mod_valueOf_2 : decode b_Mod_valueOf 2 = .ok (.iload_n 2, 1) := by decide +kernel
theorem d_Mod_valueOf_3 : decode b_Mod_valueOf 3 = .ok (.lload_n 3, 1) := by decide +kernel
theorem d_Mod_valueOf_4 : decode b_Mod_valueOf 4 = .ok (.invokevirtual 37, 3) := by decide +kernel
theorem d_Mod_valueOf_7 : decode b_Mod_valueOf 7 = .ok (.istore 5, 2) := by decide +kernel
theorem d_Mod_valueOf_9 : decode b_Mod_valueOf 9 = .ok (.iload 5, 2) := by decide +kernel
theorem d_Mod_valueOf_11 : decode b_Mod_valueOf 11 = .ok (.ifCond .ge 7, 3) := by decide +kernel
theorem d_Mod_valueOf_14 : decode b_Mod_valueOf 14 = .ok (.lconst 0, 1) := by decide +kernel
theorem d_Mod_valueOf_15 : decode b_Mod_valueOf 15 = .ok (.goto 15, 3) := by decide +kernel
theorem d_Mod_valueOf_18 : decode b_Mod_valueOf 18 = .ok (.aload_n 0, 1) := by decide +kernel
theorem d_Mod_valueOf_19 : decode b_Mod_valueOf 19 = .ok (.getfield 20, 3) := by decide +kernel
theorem d_Mod_valueOf_22 : decode b_Mod_valueOf 22 = .ok (.bipush 64, 2) := by decide +kernel
theorem d_Mod_valueOf_24 : decode b_Mod_valueOf 24 = .ok (.iload_n 1, 1) := by decide +kernel
theorem d_Mod_valueOf_25 : decode b_Mod_valueOf 25 = .ok (.imul, 1) := by decide +kernel
theorem d_Mod_valueOf_26 : decode b_Mod_valueOf 26 = .ok (.iload 5, 2) := by decide +kernel
theorem d_Mod_valueOf_28 : decode b_Mod_valueOf 28 = .ok (.iadd, 1) := by decide +kernel
theorem d_Mod_valueOf_29 : decode b_Mod_valueOf 29 = .ok (.laload, 1) := by decide +kernel
theorem d_Mod_valueOf_30 : decode b_Mod_valueOf 30 = .ok (.lreturn, 1) := by decide +kernel
theorem d_Mod_added_0 : decode b_Mod_added 0 = .ok (.aload_n 0, 1) := by decide +kernel
theorem d_Mod_added_1 : decode b_Mod_added 1 = .ok (.aload_n 0, 1) := by decide +kernel
theorem d_Mod_added_2 : decode b_Mod_added 2 = .ok (.getfield 52, 3) := by decide +kernel
theorem d_Mod_added_5 : decode b_Mod_added 5 = .ok (.ifCond .ne 32, 3) := by decide +kernel
theorem d_Mod_added_8 : decode b_Mod_added 8 = .ok (.lload_n 3, 1) := by decide +kernel
theorem d_Mod_added_9 : decode b_Mod_added 9 = .ok (.lconst 0, 1) := by decide +kernel
theorem d_Mod_added_10 : decode b_Mod_added 10 = .ok (.lcmp, 1) := by decide +kernel
theorem d_Mod_added_11 : decode b_Mod_added 11 = .ok (.ifCond .le 16, 3) := by decide +kernel
theorem d_Mod_added_14 : decode b_Mod_added 14 = .ok (.lload_n 1, 1) := by decide +kernel
theorem d_Mod_added_15 : decode b_Mod_added 15 = .ok (.ldc2_w 56, 3) := by decide +kernel
theorem d_Mod_added_18 : decode b_Mod_added 18 = .ok (.lload_n 3, 1) := by decide +kernel
theorem d_Mod_added_19 : decode b_Mod_added 19 = .ok (.lsub, 1) := by decide +kernel
theorem d_Mod_added_20 : decode b_Mod_added 20 = .ok (.lcmp, 1) := by decide +kernel
theorem d_Mod_added_21 : decode b_Mod_added 21 = .ok (.ifCond .le 20, 3) := by decide +kernel
theorem d_Mod_added_24 : decode b_Mod_added 24 = .ok (.goto 13, 3) := by decide +kernel
theorem d_Mod_added_27 : decode b_Mod_added 27 = .ok (.lload_n 1, 1) := by decide +kernel
theorem d_Mod_added_28 : decode b_Mod_added 28 = .ok (.ldc2_w 43, 3) := by decide +kernel
theorem d_Mod_added_31 : decode b_Mod_added 31 = .ok (.lload_n 3, 1) := by decide +kernel
theorem d_Mod_added_32 : decode b_Mod_added 32 = .ok (.lsub, 1) := by decide +kernel
theorem d_Mod_added_33 : decode b_Mod_added 33 = .ok (.lcmp, 1) := by decide +kernel
theorem d_Mod_added_34 : decode b_Mod_added 34 = .ok (.ifCond .ge 7, 3) := by decide +kernel
theorem d_Mod_added_37 : decode b_Mod_added 37 = .ok (.iconst 1, 1) := by decide +kernel
theorem d_Mod_added_38 : decode b_Mod_added 38 = .ok (.goto 4, 3) := by decide +kernel
theorem d_Mod_added_41 : decode b_Mod_added 41 = .ok (.iconst 0, 1) := by decide +kernel
theorem d_Mod_added_42 : decode b_Mod_added 42 = .ok (.putfield 52, 3) := by decide +kernel
theorem d_Mod_added_45 : decode b_Mod_added 45 = .ok (.lload_n 1, 1) := by decide +kernel
theorem d_Mod_added_46 : decode b_Mod_added 46 = .ok (.lload_n 3, 1) := by decide +kernel
theorem d_Mod_added_47 : decode b_Mod_added 47 = .ok (.ladd, 1) := by decide +kernel
theorem d_Mod_added_48 : decode b_Mod_added 48 = .ok (.lreturn, 1) := by decide +kernel
theorem d_Mod_sum_0 : decode b_Mod_sum 0 = .ok (.aload_n 0, 1) := by decide +kernel
theorem d_Mod_sum_1 : decode b_Mod_sum 1 = .ok (.aload_n 0, 1) := by decide +kernel
theorem d_Mod_sum_2 : decode b_Mod_sum 2 = .ok (.iload_n 1, 1) := by decide +kernel
theorem d_Mod_sum_3 : decode b_Mod_sum 3 = .ok (.iload_n 2, 1) := by decide +kernel
theorem d_Mod_sum_4 : decode b_Mod_sum 4 = .ok (.iload_n 3, 1) := by decide +kernel
theorem d_Mod_sum_5 : decode b_Mod_sum 5 = .ok (.iconst 0, 1) := by decide +kernel
theorem d_Mod_sum_6 : decode b_Mod_sum 6 = .ok (.invokevirtual 85, 3) := by decide +kernel
theorem d_Mod_sum_9 : decode b_Mod_sum 9 = .ok (.putfield 32, 3) := by decide +kernel
theorem d_Mod_sum_12 : decode b_Mod_sum 12 = .ok (.aload_n 0, 1) := by decide +kernel
theorem d_Mod_sum_13 : decode b_Mod_sum 13 = .ok (.getfield 32, 3) := by decide +kernel
theorem d_Mod_sum_16 : decode b_Mod_sum 16 = .ok (.ifCond .le 5, 3) := by decide +kernel
theorem d_Mod_sum_19 : decode b_Mod_sum 19 = .ok (.iconst 0, 1) := by decide +kernel
theorem d_Mod_sum_20 : decode b_Mod_sum 20 = .ok (.ireturn, 1) := by decide +kernel
theorem d_Mod_sum_21 : decode b_Mod_sum 21 = .ok (.aload_n 0, 1) := by decide +kernel
theorem d_Mod_sum_22 : decode b_Mod_sum 22 = .ok (.iload_n 1, 1) := by decide +kernel
theorem d_Mod_sum_23 : decode b_Mod_sum 23 = .ok (.iload_n 2, 1) := by decide +kernel
theorem d_Mod_sum_24 : decode b_Mod_sum 24 = .ok (.iconst 0, 1) := by decide +kernel
theorem d_Mod_sum_25 : decode b_Mod_sum 25 = .ok (.invokevirtual 93, 3) := by decide +kernel
theorem d_Mod_sum_28 : decode b_Mod_sum 28 = .ok (.aload_n 0, 1) := by decide +kernel
theorem d_Mod_sum_29 : decode b_Mod_sum 29 = .ok (.iload_n 3, 1) := by decide +kernel
theorem d_Mod_sum_30 : decode b_Mod_sum 30 = .ok (.invokevirtual 97, 3) := by decide +kernel
theorem d_Mod_sum_33 : decode b_Mod_sum 33 = .ok (.ireturn, 1) := by decide +kernel
theorem d_Mod_both_0 : decode b_Mod_both 0 = .ok (.aload_n 0, 1) := by decide +kernel
theorem d_Mod_both_1 : decode b_Mod_both 1 = .ok (.invokevirtual 60, 3) := by decide +kernel
theorem d_Mod_both_4 : decode b_Mod_both 4 = .ok (.iconst 0, 1) := by decide +kernel
theorem d_Mod_both_5 : decode b_Mod_both 5 = .ok (.istore 4, 2) := by decide +kernel
theorem d_Mod_both_7 : decode b_Mod_both 7 = .ok (.iload 4, 2) := by decide +kernel
theorem d_Mod_both_9 : decode b_Mod_both 9 = .ok (.iconst 2, 1) := by decide +kernel
theorem d_Mod_both_10 : decode b_Mod_both 10 = .ok (.if_icmp .ge 165, 3) := by decide +kernel
theorem d_Mod_both_13 : decode b_Mod_both 13 = .ok (.iload 4, 2) := by decide +kernel
theorem d_Mod_both_15 : decode b_Mod_both 15 = .ok (.ifCond .ne 7, 3) := by decide +kernel
theorem d_Mod_both_18 : decode b_Mod_both 18 = .ok (.iload_n 1, 1) := by decide +kernel
theorem d_Mod_both_19 : decode b_Mod_both 19 = .ok (.goto 4, 3) := by decide +kernel
theorem d_Mod_both_22 : decode b_Mod_both 22 = .ok (.iload_n 2, 1) := by decide +kernel
theorem d_Mod_both_23 : decode b_Mod_both 23 = .ok (.istore 5, 2) := by decide +kernel
theorem d_Mod_both_25 : decode b_Mod_both 25 = .ok (.iconst 0, 1) := by decide +kernel
theorem d_Mod_both_26 : decode b_Mod_both 26 = .ok (.istore 6, 2) := by decide +kernel
theorem d_Mod_both_28 : decode b_Mod_both 28 = .ok (.iload 6, 2) := by decide +kernel
theorem d_Mod_both_30 : decode b_Mod_both 30 = .ok (.aload_n 0, 1) := by decide +kernel
theorem d_Mod_both_31 : decode b_Mod_both 31 = .ok (.getfield 7, 3) := by decide +kernel
theorem d_Mod_both_34 : decode b_Mod_both 34 = .ok (.iload 5, 2) := by decide +kernel
theorem d_Mod_both_36 : decode b_Mod_both 36 = .ok (.iaload, 1) := by decide +kernel
theorem d_Mod_both_37 : decode b_Mod_both 37 = .ok (.if_icmp .ge 132, 3) := by decide +kernel
theorem d_Mod_both_40 : decode b_Mod_both 40 = .ok (.aload_n 0, 1) := by decide +kernel
theorem d_Mod_both_41 : decode b_Mod_both 41 = .ok (.getfield 13, 3) := by decide +kernel
theorem d_Mod_both_44 : decode b_Mod_both 44 = .ok (.bipush 64, 2) := by decide +kernel
theorem d_Mod_both_46 : decode b_Mod_both 46 = .ok (.iload 5, 2) := by decide +kernel
theorem d_Mod_both_48 : decode b_Mod_both 48 = .ok (.imul, 1) := by decide +kernel
theorem d_Mod_both_49 : decode b_Mod_both 49 = .ok (.iload 6, 2) := by decide +kernel
theorem d_Mod_both_51 : decode b_Mod_both 51 = .ok (.iadd, 1) := by decide +kernel
theorem d_Mod_both_52 : decode b_Mod_both 52 = .ok (.iaload, 1) := by decide +kernel
theorem d_Mod_both_53 : decode b_Mod_both 53 = .ok (.istore 7, 2) := by decide +kernel
theorem d_Mod_both_55 : decode b_Mod_both 55 = .ok (.aload_n 0, 1) := by decide +kernel
theorem d_Mod_both_56 : decode b_Mod_both 56 = .ok (.getfield 16, 3) := by decide +kernel
theorem d_Mod_both_59 : decode b_Mod_both 59 = .ok (.bipush 64, 2) := by decide +kernel
theorem d_Mod_both_61 : decode b_Mod_both 61 = .ok (.iload 5, 2) := by decide +kernel
theorem d_Mod_both_63 : decode b_Mod_both 63 = .ok (.imul, 1) := by decide +kernel
theorem d_Mod_both_64 : decode b_Mod_both 64 = .ok (.iload 6, 2) := by decide +kernel
theorem d_Mod_both_66 : decode b_Mod_both 66 = .ok (.iadd, 1) := by decide +kernel
theorem d_Mod_both_67 : decode b_Mod_both 67 = .ok (.laload, 1) := by decide +kernel
theorem d_Mod_both_68 : decode b_Mod_both 68 = .ok (.lstore 8, 2) := by decide +kernel
theorem d_Mod_both_70 : decode b_Mod_both 70 = .ok (.iload 4, 2) := by decide +kernel
theorem d_Mod_both_72 : decode b_Mod_both 72 = .ok (.ifCond .eq 15, 3) := by decide +kernel
theorem d_Mod_both_75 : decode b_Mod_both 75 = .ok (.aload_n 0, 1) := by decide +kernel
theorem d_Mod_both_76 : decode b_Mod_both 76 = .ok (.iload_n 1, 1) := by decide +kernel
theorem d_Mod_both_77 : decode b_Mod_both 77 = .ok (.iload 7, 2) := by decide +kernel
theorem d_Mod_both_79 : decode b_Mod_both 79 = .ok (.lload 8, 2) := by decide +kernel
theorem d_Mod_both_81 : decode b_Mod_both 81 = .ok (.invokevirtual 37, 3) := by decide +kernel
theorem d_Mod_both_84 : decode b_Mod_both 84 = .ok (.ifCond .ge 79, 3) := by decide +kernel
theorem d_Mod_both_87 : decode b_Mod_both 87 = .ok (.aload_n 0, 1) := by decide +kernel
theorem d_Mod_both_88 : decode b_Mod_both 88 = .ok (.iload_n 1, 1) := by decide +kernel
theorem d_Mod_both_89 : decode b_Mod_both 89 = .ok (.iload 7, 2) := by decide +kernel
theorem d_Mod_both_91 : decode b_Mod_both 91 = .ok (.lload 8, 2) := by decide +kernel
theorem d_Mod_both_93 : decode b_Mod_both 93 = .ok (.invokevirtual 63, 3) := by decide +kernel
theorem d_Mod_both_96 : decode b_Mod_both 96 = .ok (.lstore 10, 2) := by decide +kernel
theorem d_Mod_both_98 : decode b_Mod_both 98 = .ok (.aload_n 0, 1) := by decide +kernel
theorem d_Mod_both_99 : decode b_Mod_both 99 = .ok (.iload_n 2, 1) := by decide +kernel
theorem d_Mod_both_100 : decode b_Mod_both 100 = .ok (.iload 7, 2) := by decide +kernel
theorem d_Mod_both_102 : decode b_Mod_both 102 = .ok (.lload 8, 2) := by decide +kernel
theorem d_Mod_both_104 : decode b_Mod_both 104 = .ok (.invokevirtual 63, 3) := by decide +kernel
theorem d_Mod_both_107 : decode b_Mod_both 107 = .ok (.lstore 12, 2) := by decide +kernel
theorem d_Mod_both_109 : decode b_Mod_both 109 = .ok (.aload_n 0, 1) := by decide +kernel
theorem d_Mod_both_110 : decode b_Mod_both 110 = .ok (.iload 7, 2) := by decide +kernel
theorem d_Mod_both_112 : decode b_Mod_both 112 = .ok (.lload 8, 2) := by decide +kernel
theorem d_Mod_both_114 : decode b_Mod_both 114 = .ok (.iload_n 3, 1) := by decide +kernel
theorem d_Mod_both_115 : decode b_Mod_both 115 = .ok (.ifCond .ne 14, 3) := by decide +kernel
theorem d_Mod_both_118 : decode b_Mod_both 118 = .ok (.aload_n 0, 1) := by decide +kernel
theorem d_Mod_both_119 : decode b_Mod_both 119 = .ok (.lload 10, 2) := by decide +kernel
theorem d_Mod_both_121 : decode b_Mod_both 121 = .ok (.lload 12, 2) := by decide +kernel
theorem d_Mod_both_123 : decode b_Mod_both 123 = .ok (.invokevirtual 67, 3) := by decide +kernel
theorem d_Mod_both_126 : decode b_Mod_both 126 = .ok (.goto 34, 3) := by decide +kernel
theorem d_Mod_both_129 : decode b_Mod_both 129 = .ok (.iload_n 3, 1) := by decide +kernel
theorem d_Mod_both_130 : decode b_Mod_both 130 = .ok (.iconst 1, 1) := by decide +kernel
theorem d_Mod_both_131 : decode b_Mod_both 131 = .ok (.if_icmp .ne 14, 3) := by decide +kernel
theorem d_Mod_both_134 : decode b_Mod_both 134 = .ok (.aload_n 0, 1) := by decide +kernel
theorem d_Mod_both_135 : decode b_Mod_both 135 = .ok (.lload 10, 2) := by decide +kernel
theorem d_Mod_both_137 : decode b_Mod_both 137 = .ok (.lload 12, 2) := by decide +kernel
theorem d_Mod_both_139 : decode b_Mod_both 139 = .ok (.invokevirtual 71, 3) := by decide +kernel
theorem d_Mod_both_142 : decode b_Mod_both 142 = .ok (.goto 18, 3) := by decide +kernel
theorem d_Mod_both_145 : decode b_Mod_both 145 = .ok (.lload 10, 2) := by decide +kernel
theorem d_Mod_both_147 : decode b_Mod_both 147 = .ok (.lload 12, 2) := by decide +kernel
theorem d_Mod_both_149 : decode b_Mod_both 149 = .ok (.lcmp, 1) := by decide +kernel
theorem d_Mod_both_150 : decode b_Mod_both 150 = .ok (.ifCond .ge 8, 3) := by decide +kernel
theorem d_Mod_both_153 : decode b_Mod_both 153 = .ok (.lload 10, 2) := by decide +kernel
theorem d_Mod_both_155 : decode b_Mod_both 155 = .ok (.goto 5, 3) := by decide +kernel
theorem d_Mod_both_158 : decode b_Mod_both 158 = .ok (.lload 12, 2) := by decide +kernel
theorem d_Mod_both_160 : decode b_Mod_both 160 = .ok (.invokevirtual 74, 3) := by decide +kernel
theorem d_Mod_both_163 : decode b_Mod_both 163 = .ok (.iinc 6 1, 3) := by decide +kernel
theorem d_Mod_both_166 : decode b_Mod_both 166 = .ok (.goto (-138), 3) := by decide +kernel
theorem d_Mod_both_169 : decode b_Mod_both 169 = .ok (.iinc 4 1, 3) := by decide +kernel
theorem d_Mod_both_172 : decode b_Mod_both 172 = .ok (.goto (-165), 3) := by decide +kernel
theorem d_Mod_both_175 : decode b_Mod_both 175 = .ok (.return_, 1) := by decide +kernel
theorem d_Mod_begin_0 : decode b_Mod_begin 0 = .ok (.aload_n 0, 1) := by decide +kernel
theorem d_Mod_begin_1 : decode b_Mod_begin 1 = .ok (.iconst 0, 1) := by decide +kernel
theorem d_Mod_begin_2 : decode b_Mod_begin 2 = .ok (.putfield 49, 3) := by decide +kernel
theorem d_Mod_begin_5 : decode b_Mod_begin 5 = .ok (.aload_n 0, 1) := by decide +kernel
theorem d_Mod_begin_6 : decode b_Mod_begin 6 = .ok (.iconst 0, 1) := by decide +kernel
theorem d_Mod_begin_7 : decode b_Mod_begin 7 = .ok (.putfield 52, 3) := by decide +kernel
theorem d_Mod_begin_10 : decode b_Mod_begin 10 = .ok (.return_, 1) := by decide +kernel
theorem d_Mod_subtracted_0 : decode b_Mod_subtracted 0 = .ok (.aload_n 0, 1) := by decide +kernel
theorem d_Mod_subtracted_1 : decode b_Mod_subtracted 1 = .ok (.aload_n 0, 1) := by decide +kernel
theorem d_Mod_subtracted_2 : decode b_Mod_subtracted 2 = .ok (.getfield 52, 3) := by decide +kernel
theorem d_Mod_subtracted_5 : decode b_Mod_subtracted 5 = .ok (.ifCond .ne 32, 3) := by decide +kernel
theorem d_Mod_subtracted_8 : decode b_Mod_subtracted 8 = .ok (.lload_n 3, 1) := by decide +kernel
theorem d_Mod_subtracted_9 : decode b_Mod_subtracted 9 = .ok (.lconst 0, 1) := by decide +kernel
theorem d_Mod_subtracted_10 : decode b_Mod_subtracted 10 = .ok (.lcmp, 1) := by decide +kernel
theorem d_Mod_subtracted_11 : decode b_Mod_subtracted 11 = .ok (.ifCond .ge 16, 3) := by decide +kernel
theorem d_Mod_subtracted_14 : decode b_Mod_subtracted 14 = .ok (.lload_n 1, 1) := by decide +kernel
theorem d_Mod_subtracted_15 : decode b_Mod_subtracted 15 = .ok (.ldc2_w 56, 3) := by decide +kernel
theorem d_Mod_subtracted_18 : decode b_Mod_subtracted 18 = .ok (.lload_n 3, 1) := by decide +kernel
theorem d_Mod_subtracted_19 : decode b_Mod_subtracted 19 = .ok (.ladd, 1) := by decide +kernel
theorem d_Mod_subtracted_20 : decode b_Mod_subtracted 20 = .ok (.lcmp, 1) := by decide +kernel
theorem d_Mod_subtracted_21 : decode b_Mod_subtracted 21 = .ok (.ifCond .le 20, 3) := by decide +kernel
theorem d_Mod_subtracted_24 : decode b_Mod_subtracted 24 = .ok (.goto 13, 3) := by decide +kernel
theorem d_Mod_subtracted_27 : decode b_Mod_subtracted 27 = .ok (.lload_n 1, 1) := by decide +kernel
theorem d_Mod_subtracted_28 : decode b_Mod_subtracted 28 = .ok (.ldc2_w 43, 3) := by decide +kernel
theorem d_Mod_subtracted_31 : decode b_Mod_subtracted 31 = .ok (.lload_n 3, 1) := by decide +kernel
theorem d_Mod_subtracted_32 : decode b_Mod_subtracted 32 = .ok (.ladd, 1) := by decide +kernel
theorem d_Mod_subtracted_33 : decode b_Mod_subtracted 33 = .ok (.lcmp, 1) := by decide +kernel
theorem d_Mod_subtracted_34 : decode b_Mod_subtracted 34 = .ok (.ifCond .ge 7, 3) := by decide +kernel
theorem d_Mod_subtracted_37 : decode b_Mod_subtracted 37 = .ok (.iconst 1, 1) := by decide +kernel
theorem d_Mod_subtracted_38 : decode b_Mod_subtracted 38 = .ok (.goto 4, 3) := by decide +kernel
theorem d_Mod_subtracted_41 : decode b_Mod_subtracted 41 = .ok (.iconst 0, 1) := by decide +kernel
theorem d_Mod_subtracted_42 : decode b_Mod_subtracted 42 = .ok (.putfield 52, 3) := by decide +kernel
theorem d_Mod_subtracted_45 : decode b_Mod_subtracted 45 = .ok (.lload_n 1, 1) := by decide +kernel
theorem d_Mod_subtracted_46 : decode b_Mod_subtracted 46 = .ok (.lload_n 3, 1) := by decide +kernel
theorem d_Mod_subtracted_47 : decode b_Mod_subtracted 47 = .ok (.lsub, 1) := by decide +kernel
theorem d_Mod_subtracted_48 : decode b_Mod_subtracted 48 = .ok (.lreturn, 1) := by decide +kernel
theorem d_Mod_lay_0 : decode b_Mod_lay 0 = .ok (.lload 4, 2) := by decide +kernel
theorem d_Mod_lay_2 : decode b_Mod_lay 2 = .ok (.lconst 0, 1) := by decide +kernel
theorem d_Mod_lay_3 : decode b_Mod_lay 3 = .ok (.lcmp, 1) := by decide +kernel
theorem d_Mod_lay_4 : decode b_Mod_lay 4 = .ok (.ifCond .eq 44, 3) := by decide +kernel
theorem d_Mod_lay_7 : decode b_Mod_lay 7 = .ok (.aload_n 0, 1) := by decide +kernel
theorem d_Mod_lay_8 : decode b_Mod_lay 8 = .ok (.getfield 23, 3) := by decide +kernel
theorem d_Mod_lay_11 : decode b_Mod_lay 11 = .ok (.aload_n 0, 1) := by decide +kernel
theorem d_Mod_lay_12 : decode b_Mod_lay 12 = .ok (.getfield 49, 3) := by decide +kernel
theorem d_Mod_lay_15 : decode b_Mod_lay 15 = .ok (.iload_n 1, 1) := by decide +kernel
theorem d_Mod_lay_16 : decode b_Mod_lay 16 = .ok (.iastore, 1) := by decide +kernel
theorem d_Mod_lay_17 : decode b_Mod_lay 17 = .ok (.aload_n 0, 1) := by decide +kernel
theorem d_Mod_lay_18 : decode b_Mod_lay 18 = .ok (.getfield 26, 3) := by decide +kernel
theorem d_Mod_lay_21 : decode b_Mod_lay 21 = .ok (.aload_n 0, 1) := by decide +kernel
theorem d_Mod_lay_22 : decode b_Mod_lay 22 = .ok (.getfield 49, 3) := by decide +kernel
theorem d_Mod_lay_25 : decode b_Mod_lay 25 = .ok (.lload_n 2, 1) := by decide +kernel
theorem d_Mod_lay_26 : decode b_Mod_lay 26 = .ok (.lastore, 1) := by decide +kernel
theorem d_Mod_lay_27 : decode b_Mod_lay 27 = .ok (.aload_n 0, 1) := by decide +kernel
theorem d_Mod_lay_28 : decode b_Mod_lay 28 = .ok (.getfield 29, 3) := by decide +kernel
theorem d_Mod_lay_31 : decode b_Mod_lay 31 = .ok (.aload_n 0, 1) := by decide +kernel
theorem d_Mod_lay_32 : decode b_Mod_lay 32 = .ok (.getfield 49, 3) := by decide +kernel
theorem d_Mod_lay_35 : decode b_Mod_lay 35 = .ok (.lload 4, 2) := by decide +kernel
theorem d_Mod_lay_37 : decode b_Mod_lay 37 = .ok (.lastore, 1) := by decide +kernel
theorem d_Mod_lay_38 : decode b_Mod_lay 38 = .ok (.aload_n 0, 1) := by decide +kernel
theorem d_Mod_lay_39 : decode b_Mod_lay 39 = .ok (.dup, 1) := by decide +kernel
theorem d_Mod_lay_40 : decode b_Mod_lay 40 = .ok (.getfield 49, 3) := by decide +kernel
theorem d_Mod_lay_43 : decode b_Mod_lay 43 = .ok (.iconst 1, 1) := by decide +kernel
theorem d_Mod_lay_44 : decode b_Mod_lay 44 = .ok (.iadd, 1) := by decide +kernel
theorem d_Mod_lay_45 : decode b_Mod_lay 45 = .ok (.putfield 49, 3) := by decide +kernel
theorem d_Mod_lay_48 : decode b_Mod_lay 48 = .ok (.return_, 1) := by decide +kernel
theorem d_Mod_becomes_0 : decode b_Mod_becomes 0 = .ok (.aload_n 0, 1) := by decide +kernel
theorem d_Mod_becomes_1 : decode b_Mod_becomes 1 = .ok (.getfield 52, 3) := by decide +kernel
theorem d_Mod_becomes_4 : decode b_Mod_becomes 4 = .ok (.ifCond .ne 12, 3) := by decide +kernel
theorem d_Mod_becomes_7 : decode b_Mod_becomes 7 = .ok (.aload_n 0, 1) := by decide +kernel
theorem d_Mod_becomes_8 : decode b_Mod_becomes 8 = .ok (.getfield 49, 3) := by decide +kernel
theorem d_Mod_becomes_11 : decode b_Mod_becomes 11 = .ok (.bipush 64, 2) := by decide +kernel
theorem d_Mod_becomes_13 : decode b_Mod_becomes 13 = .ok (.if_icmp .le 5, 3) := by decide +kernel
theorem d_Mod_becomes_16 : decode b_Mod_becomes 16 = .ok (.iconst 0, 1) := by decide +kernel
theorem d_Mod_becomes_17 : decode b_Mod_becomes 17 = .ok (.ireturn, 1) := by decide +kernel
theorem d_Mod_becomes_18 : decode b_Mod_becomes 18 = .ok (.aload_n 0, 1) := by decide +kernel
theorem d_Mod_becomes_19 : decode b_Mod_becomes 19 = .ok (.getfield 7, 3) := by decide +kernel
theorem d_Mod_becomes_22 : decode b_Mod_becomes 22 = .ok (.iload_n 1, 1) := by decide +kernel
theorem d_Mod_becomes_23 : decode b_Mod_becomes 23 = .ok (.aload_n 0, 1) := by decide +kernel
theorem d_Mod_becomes_24 : decode b_Mod_becomes 24 = .ok (.getfield 49, 3) := by decide +kernel
theorem d_Mod_becomes_27 : decode b_Mod_becomes 27 = .ok (.iastore, 1) := by decide +kernel
theorem d_Mod_becomes_28 : decode b_Mod_becomes 28 = .ok (.iconst 0, 1) := by decide +kernel
theorem d_Mod_becomes_29 : decode b_Mod_becomes 29 = .ok (.istore_n 2, 1) := by decide +kernel
theorem d_Mod_becomes_30 : decode b_Mod_becomes 30 = .ok (.iload_n 2, 1) := by decide +kernel
theorem d_Mod_becomes_31 : decode b_Mod_becomes 31 = .ok (.aload_n 0, 1) := by decide +kernel
theorem d_Mod_becomes_32 : decode b_Mod_becomes 32 = .ok (.getfield 49, 3) := by decide +kernel
theorem d_Mod_becomes_35 : decode b_Mod_becomes 35 = .ok (.if_icmp .ge 60, 3) := by decide +kernel
theorem d_Mod_becomes_38 : decode b_Mod_becomes 38 = .ok (.aload_n 0, 1) := by decide +kernel
theorem d_Mod_becomes_39 : decode b_Mod_becomes 39 = .ok (.getfield 13, 3) := by decide +kernel
theorem d_Mod_becomes_42 : decode b_Mod_becomes 42 = .ok (.bipush 64, 2) := by decide +kernel
theorem d_Mod_becomes_44 : decode b_Mod_becomes 44 = .ok (.iload_n 1, 1) := by decide +kernel
theorem d_Mod_becomes_45 : decode b_Mod_becomes 45 = .ok (.imul, 1) := by decide +kernel
theorem d_Mod_becomes_46 : decode b_Mod_becomes 46 = .ok (.iload_n 2, 1) := by decide +kernel
theorem d_Mod_becomes_47 : decode b_Mod_becomes 47 = .ok (.iadd, 1) := by decide +kernel
theorem d_Mod_becomes_48 : decode b_Mod_becomes 48 = .ok (.aload_n 0, 1) := by decide +kernel
theorem d_Mod_becomes_49 : decode b_Mod_becomes 49 = .ok (.getfield 23, 3) := by decide +kernel
theorem d_Mod_becomes_52 : decode b_Mod_becomes 52 = .ok (.iload_n 2, 1) := by decide +kernel
theorem d_Mod_becomes_53 : decode b_Mod_becomes 53 = .ok (.iaload, 1) := by decide +kernel
theorem d_Mod_becomes_54 : decode b_Mod_becomes 54 = .ok (.iastore, 1) := by decide +kernel
theorem d_Mod_becomes_55 : decode b_Mod_becomes 55 = .ok (.aload_n 0, 1) := by decide +kernel
theorem d_Mod_becomes_56 : decode b_Mod_becomes 56 = .ok (.getfield 16, 3) := by decide +kernel
theorem d_Mod_becomes_59 : decode b_Mod_becomes 59 = .ok (.bipush 64, 2) := by decide +kernel
theorem d_Mod_becomes_61 : decode b_Mod_becomes 61 = .ok (.iload_n 1, 1) := by decide +kernel
theorem d_Mod_becomes_62 : decode b_Mod_becomes 62 = .ok (.imul, 1) := by decide +kernel
theorem d_Mod_becomes_63 : decode b_Mod_becomes 63 = .ok (.iload_n 2, 1) := by decide +kernel
theorem d_Mod_becomes_64 : decode b_Mod_becomes 64 = .ok (.iadd, 1) := by decide +kernel
theorem d_Mod_becomes_65 : decode b_Mod_becomes 65 = .ok (.aload_n 0, 1) := by decide +kernel
theorem d_Mod_becomes_66 : decode b_Mod_becomes 66 = .ok (.getfield 26, 3) := by decide +kernel
theorem d_Mod_becomes_69 : decode b_Mod_becomes 69 = .ok (.iload_n 2, 1) := by decide +kernel
theorem d_Mod_becomes_70 : decode b_Mod_becomes 70 = .ok (.laload, 1) := by decide +kernel
theorem d_Mod_becomes_71 : decode b_Mod_becomes 71 = .ok (.lastore, 1) := by decide +kernel
theorem d_Mod_becomes_72 : decode b_Mod_becomes 72 = .ok (.aload_n 0, 1) := by decide +kernel
theorem d_Mod_becomes_73 : decode b_Mod_becomes 73 = .ok (.getfield 20, 3) := by decide +kernel
theorem d_Mod_becomes_76 : decode b_Mod_becomes 76 = .ok (.bipush 64, 2) := by decide +kernel
theorem d_Mod_becomes_78 : decode b_Mod_becomes 78 = .ok (.iload_n 1, 1) := by decide +kernel
theorem d_Mod_becomes_79 : decode b_Mod_becomes 79 = .ok (.imul, 1) := by decide +kernel
theorem d_Mod_becomes_80 : decode b_Mod_becomes 80 = .ok (.iload_n 2, 1) := by decide +kernel
theorem d_Mod_becomes_81 : decode b_Mod_becomes 81 = .ok (.iadd, 1) := by decide +kernel
theorem d_Mod_becomes_82 : decode b_Mod_becomes 82 = .ok (.aload_n 0, 1) := by decide +kernel
theorem d_Mod_becomes_83 : decode b_Mod_becomes 83 = .ok (.getfield 29, 3) := by decide +kernel
theorem d_Mod_becomes_86 : decode b_Mod_becomes 86 = .ok (.iload_n 2, 1) := by decide +kernel
theorem d_Mod_becomes_87 : decode b_Mod_becomes 87 = .ok (.laload, 1) := by decide +kernel
theorem d_Mod_becomes_88 : decode b_Mod_becomes 88 = .ok (.lastore, 1) := by decide +kernel
theorem d_Mod_becomes_89 : decode b_Mod_becomes 89 = .ok (.iinc 2 1, 3) := by decide +kernel
theorem d_Mod_becomes_92 : decode b_Mod_becomes 92 = .ok (.goto (-62), 3) := by decide +kernel
theorem d_Mod_becomes_95 : decode b_Mod_becomes 95 = .ok (.iconst 1, 1) := by decide +kernel
theorem d_Mod_becomes_96 : decode b_Mod_becomes 96 = .ok (.ireturn, 1) := by decide +kernel
theorem d_Mod_less_0 : decode b_Mod_less 0 = .ok (.aload_n 0, 1) := by decide +kernel
theorem d_Mod_less_1 : decode b_Mod_less 1 = .ok (.aload_n 0, 1) := by decide +kernel
theorem d_Mod_less_2 : decode b_Mod_less 2 = .ok (.iload_n 1, 1) := by decide +kernel
theorem d_Mod_less_3 : decode b_Mod_less 3 = .ok (.iload_n 2, 1) := by decide +kernel
theorem d_Mod_less_4 : decode b_Mod_less 4 = .ok (.iload_n 3, 1) := by decide +kernel
theorem d_Mod_less_5 : decode b_Mod_less 5 = .ok (.iconst 0, 1) := by decide +kernel
theorem d_Mod_less_6 : decode b_Mod_less 6 = .ok (.invokevirtual 85, 3) := by decide +kernel
theorem d_Mod_less_9 : decode b_Mod_less 9 = .ok (.putfield 32, 3) := by decide +kernel
theorem d_Mod_less_12 : decode b_Mod_less 12 = .ok (.aload_n 0, 1) := by decide +kernel
theorem d_Mod_less_13 : decode b_Mod_less 13 = .ok (.getfield 32, 3) := by decide +kernel
theorem d_Mod_less_16 : decode b_Mod_less 16 = .ok (.ifCond .le 5, 3) := by decide +kernel
theorem d_Mod_less_19 : decode b_Mod_less 19 = .ok (.iconst 0, 1) := by decide +kernel
theorem d_Mod_less_20 : decode b_Mod_less 20 = .ok (.ireturn, 1) := by decide +kernel
theorem d_Mod_less_21 : decode b_Mod_less 21 = .ok (.aload_n 0, 1) := by decide +kernel
theorem d_Mod_less_22 : decode b_Mod_less 22 = .ok (.iload_n 1, 1) := by decide +kernel
theorem d_Mod_less_23 : decode b_Mod_less 23 = .ok (.iload_n 2, 1) := by decide +kernel
theorem d_Mod_less_24 : decode b_Mod_less 24 = .ok (.iconst 1, 1) := by decide +kernel
theorem d_Mod_less_25 : decode b_Mod_less 25 = .ok (.invokevirtual 93, 3) := by decide +kernel
theorem d_Mod_less_28 : decode b_Mod_less 28 = .ok (.aload_n 0, 1) := by decide +kernel
theorem d_Mod_less_29 : decode b_Mod_less 29 = .ok (.iload_n 3, 1) := by decide +kernel
theorem d_Mod_less_30 : decode b_Mod_less 30 = .ok (.invokevirtual 97, 3) := by decide +kernel
theorem d_Mod_less_33 : decode b_Mod_less 33 = .ok (.ireturn, 1) := by decide +kernel
theorem d_Mod_times_0 : decode b_Mod_times 0 = .ok (.aload_n 0, 1) := by decide +kernel
theorem d_Mod_times_1 : decode b_Mod_times 1 = .ok (.aload_n 0, 1) := by decide +kernel
theorem d_Mod_times_2 : decode b_Mod_times 2 = .ok (.iload_n 1, 1) := by decide +kernel
theorem d_Mod_times_3 : decode b_Mod_times 3 = .ok (.iload 4, 2) := by decide +kernel
theorem d_Mod_times_5 : decode b_Mod_times 5 = .ok (.iconst 0, 1) := by decide +kernel
theorem d_Mod_times_6 : decode b_Mod_times 6 = .ok (.iconst 0, 1) := by decide +kernel
theorem d_Mod_times_7 : decode b_Mod_times 7 = .ok (.invokevirtual 85, 3) := by decide +kernel
theorem d_Mod_times_10 : decode b_Mod_times 10 = .ok (.putfield 32, 3) := by decide +kernel
theorem d_Mod_times_13 : decode b_Mod_times 13 = .ok (.aload_n 0, 1) := by decide +kernel
theorem d_Mod_times_14 : decode b_Mod_times 14 = .ok (.getfield 32, 3) := by decide +kernel
theorem d_Mod_times_17 : decode b_Mod_times 17 = .ok (.ifCond .le 5, 3) := by decide +kernel
theorem d_Mod_times_20 : decode b_Mod_times 20 = .ok (.iconst 0, 1) := by decide +kernel
theorem d_Mod_times_21 : decode b_Mod_times 21 = .ok (.ireturn, 1) := by decide +kernel
theorem d_Mod_times_22 : decode b_Mod_times 22 = .ok (.aload_n 0, 1) := by decide +kernel
theorem d_Mod_times_23 : decode b_Mod_times 23 = .ok (.invokevirtual 60, 3) := by decide +kernel
theorem d_Mod_times_26 : decode b_Mod_times 26 = .ok (.bipush 64, 2) := by decide +kernel
theorem d_Mod_times_28 : decode b_Mod_times 28 = .ok (.iload_n 1, 1) := by decide +kernel
theorem d_Mod_times_29 : decode b_Mod_times 29 = .ok (.imul, 1) := by decide +kernel
theorem d_Mod_times_30 : decode b_Mod_times 30 = .ok (.istore 5, 2) := by decide +kernel
theorem d_Mod_times_32 : decode b_Mod_times 32 = .ok (.iload 5, 2) := by decide +kernel
theorem d_Mod_times_34 : decode b_Mod_times 34 = .ok (.bipush 64, 2) := by decide +kernel
theorem d_Mod_times_36 : decode b_Mod_times 36 = .ok (.iload_n 1, 1) := by decide +kernel
theorem d_Mod_times_37 : decode b_Mod_times 37 = .ok (.imul, 1) := by decide +kernel
theorem d_Mod_times_38 : decode b_Mod_times 38 = .ok (.aload_n 0, 1) := by decide +kernel
theorem d_Mod_times_39 : decode b_Mod_times 39 = .ok (.getfield 7, 3) := by decide +kernel
theorem d_Mod_times_42 : decode b_Mod_times 42 = .ok (.iload_n 1, 1) := by decide +kernel
theorem d_Mod_times_43 : decode b_Mod_times 43 = .ok (.iaload, 1) := by decide +kernel
theorem d_Mod_times_44 : decode b_Mod_times 44 = .ok (.iadd, 1) := by decide +kernel
theorem d_Mod_times_45 : decode b_Mod_times 45 = .ok (.if_icmp .ge 39, 3) := by decide +kernel
theorem d_Mod_times_48 : decode b_Mod_times 48 = .ok (.aload_n 0, 1) := by decide +kernel
theorem d_Mod_times_49 : decode b_Mod_times 49 = .ok (.aload_n 0, 1) := by decide +kernel
theorem d_Mod_times_50 : decode b_Mod_times 50 = .ok (.getfield 13, 3) := by decide +kernel
theorem d_Mod_times_53 : decode b_Mod_times 53 = .ok (.iload 5, 2) := by decide +kernel
theorem d_Mod_times_55 : decode b_Mod_times 55 = .ok (.iaload, 1) := by decide +kernel
theorem d_Mod_times_56 : decode b_Mod_times 56 = .ok (.aload_n 0, 1) := by decide +kernel
theorem d_Mod_times_57 : decode b_Mod_times 57 = .ok (.getfield 16, 3) := by decide +kernel
theorem d_Mod_times_60 : decode b_Mod_times 60 = .ok (.iload 5, 2) := by decide +kernel
theorem d_Mod_times_62 : decode b_Mod_times 62 = .ok (.laload, 1) := by decide +kernel
theorem d_Mod_times_63 : decode b_Mod_times 63 = .ok (.aload_n 0, 1) := by decide +kernel
theorem d_Mod_times_64 : decode b_Mod_times 64 = .ok (.aload_n 0, 1) := by decide +kernel
theorem d_Mod_times_65 : decode b_Mod_times 65 = .ok (.getfield 20, 3) := by decide +kernel
theorem d_Mod_times_68 : decode b_Mod_times 68 = .ok (.iload 5, 2) := by decide +kernel
theorem d_Mod_times_70 : decode b_Mod_times 70 = .ok (.laload, 1) := by decide +kernel
theorem d_Mod_times_71 : decode b_Mod_times 71 = .ok (.lload_n 2, 1) := by decide +kernel
theorem d_Mod_times_72 : decode b_Mod_times 72 = .ok (.invokevirtual 100, 3) := by decide +kernel
theorem d_Mod_times_75 : decode b_Mod_times 75 = .ok (.invokevirtual 74, 3) := by decide +kernel
theorem d_Mod_times_78 : decode b_Mod_times 78 = .ok (.iinc 5 1, 3) := by decide +kernel
theorem d_Mod_times_81 : decode b_Mod_times 81 = .ok (.goto (-49), 3) := by decide +kernel
theorem d_Mod_times_84 : decode b_Mod_times 84 = .ok (.aload_n 0, 1) := by decide +kernel
theorem d_Mod_times_85 : decode b_Mod_times 85 = .ok (.iload 4, 2) := by decide +kernel
theorem d_Mod_times_87 : decode b_Mod_times 87 = .ok (.invokevirtual 97, 3) := by decide +kernel
theorem d_Mod_times_90 : decode b_Mod_times 90 = .ok (.ireturn, 1) := by decide +kernel
theorem d_Mod_multiplied_0 : decode b_Mod_multiplied 0 = .ok (.lload_n 1, 1) := by decide +kernel
theorem d_Mod_multiplied_1 : decode b_Mod_multiplied 1 = .ok (.ldc2_w 43, 3) := by decide +kernel
theorem d_Mod_multiplied_4 : decode b_Mod_multiplied 4 = .ok (.lcmp, 1) := by decide +kernel
theorem d_Mod_multiplied_5 : decode b_Mod_multiplied 5 = .ok (.ifCond .ne 11, 3) := by decide +kernel
theorem d_Mod_multiplied_8 : decode b_Mod_multiplied 8 = .ok (.lload_n 3, 1) := by decide +kernel
theorem d_Mod_multiplied_9 : decode b_Mod_multiplied 9 = .ok (.ldc2_w 58, 3) := by decide +kernel
theorem d_Mod_multiplied_12 : decode b_Mod_multiplied 12 = .ok (.lcmp, 1) := by decide +kernel
theorem d_Mod_multiplied_13 : decode b_Mod_multiplied 13 = .ok (.ifCond .eq 19, 3) := by decide +kernel
theorem d_Mod_multiplied_16 : decode b_Mod_multiplied 16 = .ok (.lload_n 3, 1) := by decide +kernel
theorem d_Mod_multiplied_17 : decode b_Mod_multiplied 17 = .ok (.ldc2_w 43, 3) := by decide +kernel
theorem d_Mod_multiplied_20 : decode b_Mod_multiplied 20 = .ok (.lcmp, 1) := by decide +kernel
theorem d_Mod_multiplied_21 : decode b_Mod_multiplied 21 = .ok (.ifCond .ne 15, 3) := by decide +kernel
theorem d_Mod_multiplied_24 : decode b_Mod_multiplied 24 = .ok (.lload_n 1, 1) := by decide +kernel
theorem d_Mod_multiplied_25 : decode b_Mod_multiplied 25 = .ok (.ldc2_w 58, 3) := by decide +kernel
theorem d_Mod_multiplied_28 : decode b_Mod_multiplied 28 = .ok (.lcmp, 1) := by decide +kernel
theorem d_Mod_multiplied_29 : decode b_Mod_multiplied 29 = .ok (.ifCond .ne 7, 3) := by decide +kernel
theorem d_Mod_multiplied_32 : decode b_Mod_multiplied 32 = .ok (.iconst 1, 1) := by decide +kernel
theorem d_Mod_multiplied_33 : decode b_Mod_multiplied 33 = .ok (.goto 4, 3) := by decide +kernel
theorem d_Mod_multiplied_36 : decode b_Mod_multiplied 36 = .ok (.iconst 0, 1) := by decide +kernel
theorem d_Mod_multiplied_37 : decode b_Mod_multiplied 37 = .ok (.istore 5, 2) := by decide +kernel
theorem d_Mod_multiplied_39 : decode b_Mod_multiplied 39 = .ok (.aload_n 0, 1) := by decide +kernel
theorem d_Mod_multiplied_40 : decode b_Mod_multiplied 40 = .ok (.aload_n 0, 1) := by decide +kernel
theorem d_Mod_multiplied_41 : decode b_Mod_multiplied 41 = .ok (.getfield 52, 3) := by decide +kernel
theorem d_Mod_multiplied_44 : decode b_Mod_multiplied 44 = .ok (.ifCond .ne 24, 3) := by decide +kernel
theorem d_Mod_multiplied_47 : decode b_Mod_multiplied 47 = .ok (.iload 5, 2) := by decide +kernel
theorem d_Mod_multiplied_49 : decode b_Mod_multiplied 49 = .ok (.ifCond .ne 19, 3) := by decide +kernel
theorem d_Mod_multiplied_52 : decode b_Mod_multiplied 52 = .ok (.lload_n 1, 1) := by decide +kernel
theorem d_Mod_multiplied_53 : decode b_Mod_multiplied 53 = .ok (.lconst 0, 1) := by decide +kernel
theorem d_Mod_multiplied_54 : decode b_Mod_multiplied 54 = .ok (.lcmp, 1) := by decide +kernel
theorem d_Mod_multiplied_55 : decode b_Mod_multiplied 55 = .ok (.ifCond .eq 17, 3) := by decide +kernel
theorem d_Mod_multiplied_58 : decode b_Mod_multiplied 58 = .ok (.lload_n 1, 1) := by decide +kernel
theorem d_Mod_multiplied_59 : decode b_Mod_multiplied 59 = .ok (.lload_n 3, 1) := by decide +kernel
theorem d_Mod_multiplied_60 : decode b_Mod_multiplied 60 = .ok (.lmul, 1) := by decide +kernel
theorem d_Mod_multiplied_61 : decode b_Mod_multiplied 61 = .ok (.lload_n 1, 1) := by decide +kernel
theorem d_Mod_multiplied_62 : decode b_Mod_multiplied 62 = .ok (.ldiv, 1) := by decide +kernel
theorem d_Mod_multiplied_63 : decode b_Mod_multiplied 63 = .ok (.lload_n 3, 1) := by decide +kernel
theorem d_Mod_multiplied_64 : decode b_Mod_multiplied 64 = .ok (.lcmp, 1) := by decide +kernel
theorem d_Mod_multiplied_65 : decode b_Mod_multiplied 65 = .ok (.ifCond .eq 7, 3) := by decide +kernel
theorem d_Mod_multiplied_68 : decode b_Mod_multiplied 68 = .ok (.iconst 1, 1) := by decide +kernel
theorem d_Mod_multiplied_69 : decode b_Mod_multiplied 69 = .ok (.goto 4, 3) := by decide +kernel
theorem d_Mod_multiplied_72 : decode b_Mod_multiplied 72 = .ok (.iconst 0, 1) := by decide +kernel
theorem d_Mod_multiplied_73 : decode b_Mod_multiplied 73 = .ok (.putfield 52, 3) := by decide +kernel
theorem d_Mod_multiplied_76 : decode b_Mod_multiplied 76 = .ok (.lload_n 1, 1) := by decide +kernel
theorem d_Mod_multiplied_77 : decode b_Mod_multiplied 77 = .ok (.lload_n 3, 1) := by decide +kernel
theorem d_Mod_multiplied_78 : decode b_Mod_multiplied 78 = .ok (.lmul, 1) := by decide +kernel
theorem d_Mod_multiplied_79 : decode b_Mod_multiplied 79 = .ok (.lreturn, 1) := by decide +kernel
theorem d_Mod_only_0 : decode b_Mod_only 0 = .ok (.aload_n 0, 1) := by decide +kernel
theorem d_Mod_only_1 : decode b_Mod_only 1 = .ok (.aload_n 0, 1) := by decide +kernel
theorem d_Mod_only_2 : decode b_Mod_only 2 = .ok (.iload_n 1, 1) := by decide +kernel
theorem d_Mod_only_3 : decode b_Mod_only 3 = .ok (.iload 4, 2) := by decide +kernel
theorem d_Mod_only_5 : decode b_Mod_only 5 = .ok (.iconst 0, 1) := by decide +kernel
theorem d_Mod_only_6 : decode b_Mod_only 6 = .ok (.iload_n 2, 1) := by decide +kernel
theorem d_Mod_only_7 : decode b_Mod_only 7 = .ok (.invokevirtual 85, 3) := by decide +kernel
theorem d_Mod_only_10 : decode b_Mod_only 10 = .ok (.putfield 32, 3) := by decide +kernel
theorem d_Mod_only_13 : decode b_Mod_only 13 = .ok (.aload_n 0, 1) := by decide +kernel
theorem d_Mod_only_14 : decode b_Mod_only 14 = .ok (.getfield 32, 3) := by decide +kernel
theorem d_Mod_only_17 : decode b_Mod_only 17 = .ok (.ifCond .le 4, 3) := by decide +kernel
theorem d_Mod_only_20 : decode b_Mod_only 20 = .ok (.return_, 1) := by decide +kernel
theorem d_Mod_only_21 : decode b_Mod_only 21 = .ok (.aload_n 0, 1) := by decide +kernel
theorem d_Mod_only_22 : decode b_Mod_only 22 = .ok (.invokevirtual 60, 3) := by decide +kernel
theorem d_Mod_only_25 : decode b_Mod_only 25 = .ok (.bipush 64, 2) := by decide +kernel
theorem d_Mod_only_27 : decode b_Mod_only 27 = .ok (.iload_n 1, 1) := by decide +kernel
theorem d_Mod_only_28 : decode b_Mod_only 28 = .ok (.imul, 1) := by decide +kernel
theorem d_Mod_only_29 : decode b_Mod_only 29 = .ok (.istore 5, 2) := by decide +kernel
theorem d_Mod_only_31 : decode b_Mod_only 31 = .ok (.iload 5, 2) := by decide +kernel
theorem d_Mod_only_33 : decode b_Mod_only 33 = .ok (.bipush 64, 2) := by decide +kernel
theorem d_Mod_only_35 : decode b_Mod_only 35 = .ok (.iload_n 1, 1) := by decide +kernel
theorem d_Mod_only_36 : decode b_Mod_only 36 = .ok (.imul, 1) := by decide +kernel
theorem d_Mod_only_37 : decode b_Mod_only 37 = .ok (.aload_n 0, 1) := by decide +kernel
theorem d_Mod_only_38 : decode b_Mod_only 38 = .ok (.getfield 7, 3) := by decide +kernel
theorem d_Mod_only_41 : decode b_Mod_only 41 = .ok (.iload_n 1, 1) := by decide +kernel
theorem d_Mod_only_42 : decode b_Mod_only 42 = .ok (.iaload, 1) := by decide +kernel
theorem d_Mod_only_43 : decode b_Mod_only 43 = .ok (.iadd, 1) := by decide +kernel
theorem d_Mod_only_44 : decode b_Mod_only 44 = .ok (.if_icmp .ge 54, 3) := by decide +kernel
theorem d_Mod_only_47 : decode b_Mod_only 47 = .ok (.aload_n 0, 1) := by decide +kernel
theorem d_Mod_only_48 : decode b_Mod_only 48 = .ok (.getfield 13, 3) := by decide +kernel
theorem d_Mod_only_51 : decode b_Mod_only 51 = .ok (.iload 5, 2) := by decide +kernel
theorem d_Mod_only_53 : decode b_Mod_only 53 = .ok (.iaload, 1) := by decide +kernel
theorem d_Mod_only_54 : decode b_Mod_only 54 = .ok (.iload_n 2, 1) := by decide +kernel
theorem d_Mod_only_55 : decode b_Mod_only 55 = .ok (.if_icmp .ne 7, 3) := by decide +kernel
theorem d_Mod_only_58 : decode b_Mod_only 58 = .ok (.iconst 1, 1) := by decide +kernel
theorem d_Mod_only_59 : decode b_Mod_only 59 = .ok (.goto 4, 3) := by decide +kernel
theorem d_Mod_only_62 : decode b_Mod_only 62 = .ok (.iconst 0, 1) := by decide +kernel
theorem d_Mod_only_63 : decode b_Mod_only 63 = .ok (.iload_n 3, 1) := by decide +kernel
theorem d_Mod_only_64 : decode b_Mod_only 64 = .ok (.if_icmp .ne 28, 3) := by decide +kernel
theorem d_Mod_only_67 : decode b_Mod_only 67 = .ok (.aload_n 0, 1) := by decide +kernel
theorem d_Mod_only_68 : decode b_Mod_only 68 = .ok (.aload_n 0, 1) := by decide +kernel
theorem d_Mod_only_69 : decode b_Mod_only 69 = .ok (.getfield 13, 3) := by decide +kernel
theorem d_Mod_only_72 : decode b_Mod_only 72 = .ok (.iload 5, 2) := by decide +kernel
theorem d_Mod_only_74 : decode b_Mod_only 74 = .ok (.iaload, 1) := by decide +kernel
theorem d_Mod_only_75 : decode b_Mod_only 75 = .ok (.aload_n 0, 1) := by decide +kernel
theorem d_Mod_only_76 : decode b_Mod_only 76 = .ok (.getfield 16, 3) := by decide +kernel
theorem d_Mod_only_79 : decode b_Mod_only 79 = .ok (.iload 5, 2) := by decide +kernel
theorem d_Mod_only_81 : decode b_Mod_only 81 = .ok (.laload, 1) := by decide +kernel
theorem d_Mod_only_82 : decode b_Mod_only 82 = .ok (.aload_n 0, 1) := by decide +kernel
theorem d_Mod_only_83 : decode b_Mod_only 83 = .ok (.getfield 20, 3) := by decide +kernel
theorem d_Mod_only_86 : decode b_Mod_only 86 = .ok (.iload 5, 2) := by decide +kernel
theorem d_Mod_only_88 : decode b_Mod_only 88 = .ok (.laload, 1) := by decide +kernel
theorem d_Mod_only_89 : decode b_Mod_only 89 = .ok (.invokevirtual 74, 3) := by decide +kernel
theorem d_Mod_only_92 : decode b_Mod_only 92 = .ok (.iinc 5 1, 3) := by decide +kernel
theorem d_Mod_only_95 : decode b_Mod_only 95 = .ok (.goto (-64), 3) := by decide +kernel
theorem d_Mod_only_98 : decode b_Mod_only 98 = .ok (.aload_n 0, 1) := by decide +kernel
theorem d_Mod_only_99 : decode b_Mod_only 99 = .ok (.iload 4, 2) := by decide +kernel
theorem d_Mod_only_101 : decode b_Mod_only 101 = .ok (.invokevirtual 97, 3) := by decide +kernel
theorem d_Mod_only_104 : decode b_Mod_only 104 = .ok (.istore 5, 2) := by decide +kernel
theorem d_Mod_only_106 : decode b_Mod_only 106 = .ok (.return_, 1) := by decide +kernel
theorem d_Mod_part_0 : decode b_Mod_part 0 = .ok (.aload_n 0, 1) := by decide +kernel
theorem d_Mod_part_1 : decode b_Mod_part 1 = .ok (.aload_n 0, 1) := by decide +kernel
theorem d_Mod_part_2 : decode b_Mod_part 2 = .ok (.iload_n 1, 1) := by decide +kernel
theorem d_Mod_part_3 : decode b_Mod_part 3 = .ok (.iload_n 3, 1) := by decide +kernel
theorem d_Mod_part_4 : decode b_Mod_part 4 = .ok (.iconst 0, 1) := by decide +kernel
theorem d_Mod_part_5 : decode b_Mod_part 5 = .ok (.iconst 0, 1) := by decide +kernel
theorem d_Mod_part_6 : decode b_Mod_part 6 = .ok (.invokevirtual 85, 3) := by decide +kernel
theorem d_Mod_part_9 : decode b_Mod_part 9 = .ok (.putfield 32, 3) := by decide +kernel
theorem d_Mod_part_12 : decode b_Mod_part 12 = .ok (.aload_n 0, 1) := by decide +kernel
theorem d_Mod_part_13 : decode b_Mod_part 13 = .ok (.getfield 32, 3) := by decide +kernel
theorem d_Mod_part_16 : decode b_Mod_part 16 = .ok (.ifCond .gt 13, 3) := by decide +kernel
theorem d_Mod_part_19 : decode b_Mod_part 19 = .ok (.iload_n 2, 1) := by decide +kernel
theorem d_Mod_part_20 : decode b_Mod_part 20 = .ok (.iconst 1, 1) := by decide +kernel
theorem d_Mod_part_21 : decode b_Mod_part 21 = .ok (.if_icmp .eq 10, 3) := by decide +kernel
theorem d_Mod_part_24 : decode b_Mod_part 24 = .ok (.iload_n 2, 1) := by decide +kernel
theorem d_Mod_part_25 : decode b_Mod_part 25 = .ok (.iconst (-1), 1) := by decide +kernel
theorem d_Mod_part_26 : decode b_Mod_part 26 = .ok (.if_icmp .eq 5, 3) := by decide +kernel
theorem d_Mod_part_29 : decode b_Mod_part 29 = .ok (.iconst 0, 1) := by decide +kernel
theorem d_Mod_part_30 : decode b_Mod_part 30 = .ok (.ireturn, 1) := by decide +kernel
theorem d_Mod_part_31 : decode b_Mod_part 31 = .ok (.aload_n 0, 1) := by decide +kernel
theorem d_Mod_part_32 : decode b_Mod_part 32 = .ok (.invokevirtual 60, 3) := by decide +kernel
theorem d_Mod_part_35 : decode b_Mod_part 35 = .ok (.bipush 64, 2) := by decide +kernel
theorem d_Mod_part_37 : decode b_Mod_part 37 = .ok (.iload_n 1, 1) := by decide +kernel
theorem d_Mod_part_38 : decode b_Mod_part 38 = .ok (.imul, 1) := by decide +kernel
theorem d_Mod_part_39 : decode b_Mod_part 39 = .ok (.istore 4, 2) := by decide +kernel
theorem d_Mod_part_41 : decode b_Mod_part 41 = .ok (.iload 4, 2) := by decide +kernel
theorem d_Mod_part_43 : decode b_Mod_part 43 = .ok (.bipush 64, 2) := by decide +kernel
theorem d_Mod_part_45 : decode b_Mod_part 45 = .ok (.iload_n 1, 1) := by decide +kernel
theorem d_Mod_part_46 : decode b_Mod_part 46 = .ok (.imul, 1) := by decide +kernel
theorem d_Mod_part_47 : decode b_Mod_part 47 = .ok (.aload_n 0, 1) := by decide +kernel
theorem d_Mod_part_48 : decode b_Mod_part 48 = .ok (.getfield 7, 3) := by decide +kernel
theorem d_Mod_part_51 : decode b_Mod_part 51 = .ok (.iload_n 1, 1) := by decide +kernel
theorem d_Mod_part_52 : decode b_Mod_part 52 = .ok (.iaload, 1) := by decide +kernel
theorem d_Mod_part_53 : decode b_Mod_part 53 = .ok (.iadd, 1) := by decide +kernel
theorem d_Mod_part_54 : decode b_Mod_part 54 = .ok (.if_icmp .ge 70, 3) := by decide +kernel
theorem d_Mod_part_57 : decode b_Mod_part 57 = .ok (.aload_n 0, 1) := by decide +kernel
theorem d_Mod_part_58 : decode b_Mod_part 58 = .ok (.getfield 20, 3) := by decide +kernel
theorem d_Mod_part_61 : decode b_Mod_part 61 = .ok (.iload 4, 2) := by decide +kernel
theorem d_Mod_part_63 : decode b_Mod_part 63 = .ok (.laload, 1) := by decide +kernel
theorem d_Mod_part_64 : decode b_Mod_part 64 = .ok (.lconst 0, 1) := by decide +kernel
theorem d_Mod_part_65 : decode b_Mod_part 65 = .ok (.lcmp, 1) := by decide +kernel
theorem d_Mod_part_66 : decode b_Mod_part 66 = .ok (.ifCond .le 7, 3) := by decide +kernel
theorem d_Mod_part_69 : decode b_Mod_part 69 = .ok (.iconst 1, 1) := by decide +kernel
theorem d_Mod_part_70 : decode b_Mod_part 70 = .ok (.goto 4, 3) := by decide +kernel
theorem d_Mod_part_73 : decode b_Mod_part 73 = .ok (.iconst 0, 1) := by decide +kernel
theorem d_Mod_part_74 : decode b_Mod_part 74 = .ok (.iload_n 2, 1) := by decide +kernel
theorem d_Mod_part_75 : decode b_Mod_part 75 = .ok (.iconst 1, 1) := by decide +kernel
theorem d_Mod_part_76 : decode b_Mod_part 76 = .ok (.if_icmp .ne 7, 3) := by decide +kernel
theorem d_Mod_part_79 : decode b_Mod_part 79 = .ok (.iconst 1, 1) := by decide +kernel
theorem d_Mod_part_80 : decode b_Mod_part 80 = .ok (.goto 4, 3) := by decide +kernel
theorem d_Mod_part_83 : decode b_Mod_part 83 = .ok (.iconst 0, 1) := by decide +kernel
theorem d_Mod_part_84 : decode b_Mod_part 84 = .ok (.if_icmp .ne 34, 3) := by decide +kernel
theorem d_Mod_part_87 : decode b_Mod_part 87 = .ok (.aload_n 0, 1) := by decide +kernel
theorem d_Mod_part_88 : decode b_Mod_part 88 = .ok (.aload_n 0, 1) := by decide +kernel
theorem d_Mod_part_89 : decode b_Mod_part 89 = .ok (.getfield 13, 3) := by decide +kernel
theorem d_Mod_part_92 : decode b_Mod_part 92 = .ok (.iload 4, 2) := by decide +kernel
theorem d_Mod_part_94 : decode b_Mod_part 94 = .ok (.iaload, 1) := by decide +kernel
theorem d_Mod_part_95 : decode b_Mod_part 95 = .ok (.aload_n 0, 1) := by decide +kernel
theorem d_Mod_part_96 : decode b_Mod_part 96 = .ok (.getfield 16, 3) := by decide +kernel
theorem d_Mod_part_99 : decode b_Mod_part 99 = .ok (.iload 4, 2) := by decide +kernel
theorem d_Mod_part_101 : decode b_Mod_part 101 = .ok (.laload, 1) := by decide +kernel
theorem d_Mod_part_102 : decode b_Mod_part 102 = .ok (.aload_n 0, 1) := by decide +kernel
theorem d_Mod_part_103 : decode b_Mod_part 103 = .ok (.aload_n 0, 1) := by decide +kernel
theorem d_Mod_part_104 : decode b_Mod_part 104 = .ok (.getfield 20, 3) := by decide +kernel
theorem d_Mod_part_107 : decode b_Mod_part 107 = .ok (.iload 4, 2) := by decide +kernel
theorem d_Mod_part_109 : decode b_Mod_part 109 = .ok (.laload, 1) := by decide +kernel
theorem d_Mod_part_110 : decode b_Mod_part 110 = .ok (.iload_n 2, 1) := by decide +kernel
theorem d_Mod_part_111 : decode b_Mod_part 111 = .ok (.i2l, 1) := by decide +kernel
theorem d_Mod_part_112 : decode b_Mod_part 112 = .ok (.invokevirtual 100, 3) := by decide +kernel
theorem d_Mod_part_115 : decode b_Mod_part 115 = .ok (.invokevirtual 74, 3) := by decide +kernel
theorem d_Mod_part_118 : decode b_Mod_part 118 = .ok (.iinc 4 1, 3) := by decide +kernel
theorem d_Mod_part_121 : decode b_Mod_part 121 = .ok (.goto (-80), 3) := by decide +kernel
theorem d_Mod_part_124 : decode b_Mod_part 124 = .ok (.aload_n 0, 1) := by decide +kernel
theorem d_Mod_part_125 : decode b_Mod_part 125 = .ok (.iload_n 3, 1) := by decide +kernel
theorem d_Mod_part_126 : decode b_Mod_part 126 = .ok (.invokevirtual 97, 3) := by decide +kernel
theorem d_Mod_part_129 : decode b_Mod_part 129 = .ok (.ireturn, 1) := by decide +kernel
theorem d_Mod_clear_0 : decode b_Mod_clear 0 = .ok (.aload_n 0, 1) := by decide +kernel
theorem d_Mod_clear_1 : decode b_Mod_clear 1 = .ok (.iload_n 1, 1) := by decide +kernel
theorem d_Mod_clear_2 : decode b_Mod_clear 2 = .ok (.invokestatic 78, 3) := by decide +kernel
theorem d_Mod_clear_5 : decode b_Mod_clear 5 = .ok (.ifCond .eq 7, 3) := by decide +kernel
theorem d_Mod_clear_8 : decode b_Mod_clear 8 = .ok (.iconst 0, 1) := by decide +kernel
theorem d_Mod_clear_9 : decode b_Mod_clear 9 = .ok (.goto 4, 3) := by decide +kernel
theorem d_Mod_clear_12 : decode b_Mod_clear 12 = .ok (.iconst 1, 1) := by decide +kernel
theorem d_Mod_clear_13 : decode b_Mod_clear 13 = .ok (.putfield 32, 3) := by decide +kernel
theorem d_Mod_clear_16 : decode b_Mod_clear 16 = .ok (.aload_n 0, 1) := by decide +kernel
theorem d_Mod_clear_17 : decode b_Mod_clear 17 = .ok (.getfield 32, 3) := by decide +kernel
theorem d_Mod_clear_20 : decode b_Mod_clear 20 = .ok (.ifCond .ne 10, 3) := by decide +kernel
theorem d_Mod_clear_23 : decode b_Mod_clear 23 = .ok (.aload_n 0, 1) := by decide +kernel
theorem d_Mod_clear_24 : decode b_Mod_clear 24 = .ok (.getfield 7, 3) := by decide +kernel
theorem d_Mod_clear_27 : decode b_Mod_clear 27 = .ok (.iload_n 1, 1) := by decide +kernel
theorem d_Mod_clear_28 : decode b_Mod_clear 28 = .ok (.iconst 0, 1) := by decide +kernel
theorem d_Mod_clear_29 : decode b_Mod_clear 29 = .ok (.iastore, 1) := by decide +kernel
theorem d_Mod_clear_30 : decode b_Mod_clear 30 = .ok (.return_, 1) := by decide +kernel
theorem d_Mod_least_0 : decode b_Mod_least 0 = .ok (.aload_n 0, 1) := by decide +kernel
theorem d_Mod_least_1 : decode b_Mod_least 1 = .ok (.aload_n 0, 1) := by decide +kernel
theorem d_Mod_least_2 : decode b_Mod_least 2 = .ok (.iload_n 1, 1) := by decide +kernel
theorem d_Mod_least_3 : decode b_Mod_least 3 = .ok (.iload_n 2, 1) := by decide +kernel
theorem d_Mod_least_4 : decode b_Mod_least 4 = .ok (.iload_n 3, 1) := by decide +kernel
theorem d_Mod_least_5 : decode b_Mod_least 5 = .ok (.iconst 0, 1) := by decide +kernel
theorem d_Mod_least_6 : decode b_Mod_least 6 = .ok (.invokevirtual 85, 3) := by decide +kernel
theorem d_Mod_least_9 : decode b_Mod_least 9 = .ok (.putfield 32, 3) := by decide +kernel
theorem d_Mod_least_12 : decode b_Mod_least 12 = .ok (.aload_n 0, 1) := by decide +kernel
theorem d_Mod_least_13 : decode b_Mod_least 13 = .ok (.getfield 32, 3) := by decide +kernel
theorem d_Mod_least_16 : decode b_Mod_least 16 = .ok (.ifCond .le 5, 3) := by decide +kernel
theorem d_Mod_least_19 : decode b_Mod_least 19 = .ok (.iconst 0, 1) := by decide +kernel
theorem d_Mod_least_20 : decode b_Mod_least 20 = .ok (.ireturn, 1) := by decide +kernel
theorem d_Mod_least_21 : decode b_Mod_least 21 = .ok (.aload_n 0, 1) := by decide +kernel
theorem d_Mod_least_22 : decode b_Mod_least 22 = .ok (.iload_n 1, 1) := by decide +kernel
theorem d_Mod_least_23 : decode b_Mod_least 23 = .ok (.iload_n 2, 1) := by decide +kernel
theorem d_Mod_least_24 : decode b_Mod_least 24 = .ok (.iconst 2, 1) := by decide +kernel
theorem d_Mod_least_25 : decode b_Mod_least 25 = .ok (.invokevirtual 93, 3) := by decide +kernel
theorem d_Mod_least_28 : decode b_Mod_least 28 = .ok (.aload_n 0, 1) := by decide +kernel
theorem d_Mod_least_29 : decode b_Mod_least 29 = .ok (.iload_n 3, 1) := by decide +kernel
theorem d_Mod_least_30 : decode b_Mod_least 30 = .ok (.invokevirtual 97, 3) := by decide +kernel
theorem d_Mod_least_33 : decode b_Mod_least 33 = .ok (.ireturn, 1) := by decide +kernel
theorem d_Mod_amount_0 : decode b_Mod_amount 0 = .ok (.aload_n 0, 1) := by decide +kernel
theorem d_Mod_amount_1 : decode b_Mod_amount 1 = .ok (.aload_n 0, 1) := by decide +kernel
theorem d_Mod_amount_2 : decode b_Mod_amount 2 = .ok (.iload_n 1, 1) := by decide +kernel
theorem d_Mod_amount_3 : decode b_Mod_amount 3 = .ok (.iconst 0, 1) := by decide +kernel
theorem d_Mod_amount_4 : decode b_Mod_amount 4 = .ok (.iconst 0, 1) := by decide +kernel
theorem d_Mod_amount_5 : decode b_Mod_amount 5 = .ok (.iload_n 2, 1) := by decide +kernel
theorem d_Mod_amount_6 : decode b_Mod_amount 6 = .ok (.invokevirtual 85, 3) := by decide +kernel
theorem d_Mod_amount_9 : decode b_Mod_amount 9 = .ok (.putfield 32, 3) := by decide +kernel
theorem d_Mod_amount_12 : decode b_Mod_amount 12 = .ok (.aload_n 0, 1) := by decide +kernel
theorem d_Mod_amount_13 : decode b_Mod_amount 13 = .ok (.getfield 32, 3) := by decide +kernel
theorem d_Mod_amount_16 : decode b_Mod_amount 16 = .ok (.ifCond .le 7, 3) := by decide +kernel
theorem d_Mod_amount_19 : decode b_Mod_amount 19 = .ok (.lconst 0, 1) := by decide +kernel
theorem d_Mod_amount_20 : decode b_Mod_amount 20 = .ok (.goto 10, 3) := by decide +kernel
theorem d_Mod_amount_23 : decode b_Mod_amount 23 = .ok (.aload_n 0, 1) := by decide +kernel
theorem d_Mod_amount_24 : decode b_Mod_amount 24 = .ok (.iload_n 1, 1) := by decide +kernel
theorem d_Mod_amount_25 : decode b_Mod_amount 25 = .ok (.iload_n 2, 1) := by decide +kernel
theorem d_Mod_amount_26 : decode b_Mod_amount 26 = .ok (.lload_n 3, 1) := by decide +kernel
theorem d_Mod_amount_27 : decode b_Mod_amount 27 = .ok (.invokevirtual 63, 3) := by decide +kernel
theorem d_Mod_amount_30 : decode b_Mod_amount 30 = .ok (.lreturn, 1) := by decide +kernel
theorem d_Mod_size_0 : decode b_Mod_size 0 = .ok (.aload_n 0, 1) := by decide +kernel
theorem d_Mod_size_1 : decode b_Mod_size 1 = .ok (.iload_n 1, 1) := by decide +kernel
theorem d_Mod_size_2 : decode b_Mod_size 2 = .ok (.invokestatic 78, 3) := by decide +kernel
theorem d_Mod_size_5 : decode b_Mod_size 5 = .ok (.ifCond .eq 7, 3) := by decide +kernel
theorem d_Mod_size_8 : decode b_Mod_size 8 = .ok (.iconst 0, 1) := by decide +kernel
theorem d_Mod_size_9 : decode b_Mod_size 9 = .ok (.goto 4, 3) := by decide +kernel
theorem d_Mod_size_12 : decode b_Mod_size 12 = .ok (.iconst 1, 1) := by decide +kernel
theorem d_Mod_size_13 : decode b_Mod_size 13 = .ok (.putfield 32, 3) := by decide +kernel
theorem d_Mod_size_16 : decode b_Mod_size 16 = .ok (.aload_n 0, 1) := by decide +kernel
theorem d_Mod_size_17 : decode b_Mod_size 17 = .ok (.getfield 32, 3) := by decide +kernel
theorem d_Mod_size_20 : decode b_Mod_size 20 = .ok (.ifCond .le 7, 3) := by decide +kernel
theorem d_Mod_size_23 : decode b_Mod_size 23 = .ok (.iconst 0, 1) := by decide +kernel
theorem d_Mod_size_24 : decode b_Mod_size 24 = .ok (.goto 9, 3) := by decide +kernel
theorem d_Mod_size_27 : decode b_Mod_size 27 = .ok (.aload_n 0, 1) := by decide +kernel
theorem d_Mod_size_28 : decode b_Mod_size 28 = .ok (.getfield 7, 3) := by decide +kernel
theorem d_Mod_size_31 : decode b_Mod_size 31 = .ok (.iload_n 1, 1) := by decide +kernel
theorem d_Mod_size_32 : decode b_Mod_size 32 = .ok (.iaload, 1) := by decide +kernel
theorem d_Mod_size_33 : decode b_Mod_size 33 = .ok (.ireturn, 1) := by decide +kernel
theorem d_Mod_at_0 : decode b_Mod_at 0 = .ok (.aload_n 0, 1) := by decide +kernel
theorem d_Mod_at_1 : decode b_Mod_at 1 = .ok (.iload_n 1, 1) := by decide +kernel
theorem d_Mod_at_2 : decode b_Mod_at 2 = .ok (.invokestatic 78, 3) := by decide +kernel
theorem d_Mod_at_5 : decode b_Mod_at 5 = .ok (.ifCond .ne 7, 3) := by decide +kernel
theorem d_Mod_at_8 : decode b_Mod_at 8 = .ok (.iconst 1, 1) := by decide +kernel
theorem d_Mod_at_9 : decode b_Mod_at 9 = .ok (.goto 31, 3) := by decide +kernel
theorem d_Mod_at_12 : decode b_Mod_at 12 = .ok (.iload_n 2, 1) := by decide +kernel
theorem d_Mod_at_13 : decode b_Mod_at 13 = .ok (.ifCond .lt 22, 3) := by decide +kernel
theorem d_Mod_at_16 : decode b_Mod_at 16 = .ok (.iload_n 2, 1) := by decide +kernel
theorem d_Mod_at_17 : decode b_Mod_at 17 = .ok (.aload_n 0, 1) := by decide +kernel
theorem d_Mod_at_18 : decode b_Mod_at 18 = .ok (.getfield 7, 3) := by decide +kernel
theorem d_Mod_at_21 : decode b_Mod_at 21 = .ok (.iload_n 1, 1) := by decide +kernel
theorem d_Mod_at_22 : decode b_Mod_at 22 = .ok (.iaload, 1) := by decide +kernel
theorem d_Mod_at_23 : decode b_Mod_at 23 = .ok (.if_icmp .ge 12, 3) := by decide +kernel
theorem d_Mod_at_26 : decode b_Mod_at 26 = .ok (.iload_n 3, 1) := by decide +kernel
theorem d_Mod_at_27 : decode b_Mod_at 27 = .ok (.ifCond .lt 8, 3) := by decide +kernel
theorem d_Mod_at_30 : decode b_Mod_at 30 = .ok (.iload_n 3, 1) := by decide +kernel
theorem d_Mod_at_31 : decode b_Mod_at 31 = .ok (.iconst 2, 1) := by decide +kernel
theorem d_Mod_at_32 : decode b_Mod_at 32 = .ok (.if_icmp .le 7, 3) := by decide +kernel
theorem d_Mod_at_35 : decode b_Mod_at 35 = .ok (.iconst 1, 1) := by decide +kernel
theorem d_Mod_at_36 : decode b_Mod_at 36 = .ok (.goto 4, 3) := by decide +kernel
theorem d_Mod_at_39 : decode b_Mod_at 39 = .ok (.iconst 0, 1) := by decide +kernel
theorem d_Mod_at_40 : decode b_Mod_at 40 = .ok (.putfield 32, 3) := by decide +kernel
theorem d_Mod_at_43 : decode b_Mod_at 43 = .ok (.aload_n 0, 1) := by decide +kernel
theorem d_Mod_at_44 : decode b_Mod_at 44 = .ok (.getfield 32, 3) := by decide +kernel
theorem d_Mod_at_47 : decode b_Mod_at 47 = .ok (.ifCond .le 5, 3) := by decide +kernel
theorem d_Mod_at_50 : decode b_Mod_at 50 = .ok (.lconst 0, 1) := by decide +kernel
theorem d_Mod_at_51 : decode b_Mod_at 51 = .ok (.lreturn, 1) := by decide +kernel
theorem d_Mod_at_52 : decode b_Mod_at 52 = .ok (.bipush 64, 2) := by decide +kernel
theorem d_Mod_at_54 : decode b_Mod_at 54 = .ok (.iload_n 1, 1) := by decide +kernel
theorem d_Mod_at_55 : decode b_Mod_at 55 = .ok (.imul, 1) := by decide +kernel
theorem d_Mod_at_56 : decode b_Mod_at 56 = .ok (.aload_n 0, 1) := by decide +kernel
theorem d_Mod_at_57 : decode b_Mod_at 57 = .ok (.iload_n 1, 1) := by decide +kernel
theorem d_Mod_at_58 : decode b_Mod_at 58 = .ok (.iload_n 2, 1) := by decide +kernel
theorem d_Mod_at_59 : decode b_Mod_at 59 = .ok (.invokevirtual 103, 3) := by decide +kernel
theorem d_Mod_at_62 : decode b_Mod_at 62 = .ok (.iadd, 1) := by decide +kernel
theorem d_Mod_at_63 : decode b_Mod_at 63 = .ok (.istore 4, 2) := by decide +kernel
theorem d_Mod_at_65 : decode b_Mod_at 65 = .ok (.iload_n 3, 1) := by decide +kernel
theorem d_Mod_at_66 : decode b_Mod_at 66 = .ok (.ifCond .ne 14, 3) := by decide +kernel
theorem d_Mod_at_69 : decode b_Mod_at 69 = .ok (.aload_n 0, 1) := by decide +kernel
theorem d_Mod_at_70 : decode b_Mod_at 70 = .ok (.getfield 13, 3) := by decide +kernel
theorem d_Mod_at_73 : decode b_Mod_at 73 = .ok (.iload 4, 2) := by decide +kernel
theorem d_Mod_at_75 : decode b_Mod_at 75 = .ok (.iaload, 1) := by decide +kernel
theorem d_Mod_at_76 : decode b_Mod_at 76 = .ok (.i2l, 1) := by decide +kernel
theorem d_Mod_at_77 : decode b_Mod_at 77 = .ok (.goto 25, 3) := by decide +kernel
theorem d_Mod_at_80 : decode b_Mod_at 80 = .ok (.iload_n 3, 1) := by decide +kernel
theorem d_Mod_at_81 : decode b_Mod_at 81 = .ok (.iconst 1, 1) := by decide +kernel
theorem d_Mod_at_82 : decode b_Mod_at 82 = .ok (.if_icmp .ne 13, 3) := by decide +kernel
theorem d_Mod_at_85 : decode b_Mod_at 85 = .ok (.aload_n 0, 1) := by decide +kernel
theorem d_Mod_at_86 : decode b_Mod_at 86 = .ok (.getfield 16, 3) := by decide +kernel
theorem d_Mod_at_89 : decode b_Mod_at 89 = .ok (.iload 4, 2) := by decide +kernel
theorem d_Mod_at_91 : decode b_Mod_at 91 = .ok (.laload, 1) := by decide +kernel
theorem d_Mod_at_92 : decode b_Mod_at 92 = .ok (.goto 10, 3) := by decide +kernel
theorem d_Mod_at_95 : decode b_Mod_at 95 = .ok (.aload_n 0, 1) := by decide +kernel
theorem d_Mod_at_96 : decode b_Mod_at 96 = .ok (.getfield 20, 3) := by decide +kernel
theorem d_Mod_at_99 : decode b_Mod_at 99 = .ok (.iload 4, 2) := by decide +kernel
theorem d_Mod_at_101 : decode b_Mod_at 101 = .ok (.laload, 1) := by decide +kernel
theorem d_Mod_at_102 : decode b_Mod_at 102 = .ok (.lreturn, 1) := by decide +kernel
theorem d_Mod_inOrder_0 : decode b_Mod_inOrder 0 = .ok (.iconst (-1), 1) := by decide +kernel
theorem d_Mod_inOrder_1 : decode b_Mod_inOrder 1 = .ok (.istore_n 3, 1) := by decide +kernel
theorem d_Mod_inOrder_2 : decode b_Mod_inOrder 2 = .ok (.iconst 0, 1) := by decide +kernel
theorem d_Mod_inOrder_3 : decode b_Mod_inOrder 3 = .ok (.istore 4, 2) := by decide +kernel
theorem d_Mod_inOrder_5 : decode b_Mod_inOrder 5 = .ok (.iload 4, 2) := by decide +kernel
theorem d_Mod_inOrder_7 : decode b_Mod_inOrder 7 = .ok (.aload_n 0, 1) := by decide +kernel
theorem d_Mod_inOrder_8 : decode b_Mod_inOrder 8 = .ok (.getfield 7, 3) := by decide +kernel
theorem d_Mod_inOrder_11 : decode b_Mod_inOrder 11 = .ok (.iload_n 1, 1) := by decide +kernel
theorem d_Mod_inOrder_12 : decode b_Mod_inOrder 12 = .ok (.iaload, 1) := by decide +kernel
theorem d_Mod_inOrder_13 : decode b_Mod_inOrder 13 = .ok (.if_icmp .ge 67, 3) := by decide +kernel
theorem d_Mod_inOrder_16 : decode b_Mod_inOrder 16 = .ok (.iconst 0, 1) := by decide +kernel
theorem d_Mod_inOrder_17 : decode b_Mod_inOrder 17 = .ok (.istore 5, 2) := by decide +kernel
theorem d_Mod_inOrder_19 : decode b_Mod_inOrder 19 = .ok (.iconst 0, 1) := by decide +kernel
theorem d_Mod_inOrder_20 : decode b_Mod_inOrder 20 = .ok (.istore 6, 2) := by decide +kernel
theorem d_Mod_inOrder_22 : decode b_Mod_inOrder 22 = .ok (.iload 6, 2) := by decide +kernel
theorem d_Mod_inOrder_24 : decode b_Mod_inOrder 24 = .ok (.aload_n 0, 1) := by decide +kernel
theorem d_Mod_inOrder_25 : decode b_Mod_inOrder 25 = .ok (.getfield 7, 3) := by decide +kernel
theorem d_Mod_inOrder_28 : decode b_Mod_inOrder 28 = .ok (.iload_n 1, 1) := by decide +kernel
theorem d_Mod_inOrder_29 : decode b_Mod_inOrder 29 = .ok (.iaload, 1) := by decide +kernel
theorem d_Mod_inOrder_30 : decode b_Mod_inOrder 30 = .ok (.if_icmp .ge 31, 3) := by decide +kernel
theorem d_Mod_inOrder_33 : decode b_Mod_inOrder 33 = .ok (.iload 5, 2) := by decide +kernel
theorem d_Mod_inOrder_35 : decode b_Mod_inOrder 35 = .ok (.aload_n 0, 1) := by decide +kernel
theorem d_Mod_inOrder_36 : decode b_Mod_inOrder 36 = .ok (.iload_n 1, 1) := by decide +kernel
theorem d_Mod_inOrder_37 : decode b_Mod_inOrder 37 = .ok (.iload 6, 2) := by decide +kernel
theorem d_Mod_inOrder_39 : decode b_Mod_inOrder 39 = .ok (.iload 4, 2) := by decide +kernel
theorem d_Mod_inOrder_41 : decode b_Mod_inOrder 41 = .ok (.invokevirtual 45, 3) := by decide +kernel
theorem d_Mod_inOrder_44 : decode b_Mod_inOrder 44 = .ok (.ifCond .eq 7, 3) := by decide +kernel
theorem d_Mod_inOrder_47 : decode b_Mod_inOrder 47 = .ok (.iconst 1, 1) := by decide +kernel
theorem d_Mod_inOrder_48 : decode b_Mod_inOrder 48 = .ok (.goto 4, 3) := by decide +kernel
theorem d_Mod_inOrder_51 : decode b_Mod_inOrder 51 = .ok (.iconst 0, 1) := by decide +kernel
theorem d_Mod_inOrder_52 : decode b_Mod_inOrder 52 = .ok (.iadd, 1) := by decide +kernel
theorem d_Mod_inOrder_53 : decode b_Mod_inOrder 53 = .ok (.istore 5, 2) := by decide +kernel
theorem d_Mod_inOrder_55 : decode b_Mod_inOrder 55 = .ok (.iinc 6 1, 3) := by decide +kernel
theorem d_Mod_inOrder_58 : decode b_Mod_inOrder 58 = .ok (.goto (-36), 3) := by decide +kernel
theorem d_Mod_inOrder_61 : decode b_Mod_inOrder 61 = .ok (.iload 5, 2) := by decide +kernel
theorem d_Mod_inOrder_63 : decode b_Mod_inOrder 63 = .ok (.iload_n 2, 1) := by decide +kernel
theorem d_Mod_inOrder_64 : decode b_Mod_inOrder 64 = .ok (.if_icmp .ne 8, 3) := by decide +kernel
theorem d_Mod_inOrder_67 : decode b_Mod_inOrder 67 = .ok (.iload 4, 2) := by decide +kernel
theorem d_Mod_inOrder_69 : decode b_Mod_inOrder 69 = .ok (.goto 4, 3) := by decide +kernel
theorem d_Mod_inOrder_72 : decode b_Mod_inOrder 72 = .ok (.iload_n 3, 1) := by decide +kernel
theorem d_Mod_inOrder_73 : decode b_Mod_inOrder 73 = .ok (.istore_n 3, 1) := by decide +kernel
theorem d_Mod_inOrder_74 : decode b_Mod_inOrder 74 = .ok (.iinc 4 1, 3) := by decide +kernel
theorem d_Mod_inOrder_77 : decode b_Mod_inOrder 77 = .ok (.goto (-72), 3) := by decide +kernel
theorem d_Mod_inOrder_80 : decode b_Mod_inOrder 80 = .ok (.iload_n 3, 1) := by decide +kernel
theorem d_Mod_inOrder_81 : decode b_Mod_inOrder 81 = .ok (.ireturn, 1) := by decide +kernel
theorem d_Mod_isBefore_0 : decode b_Mod_isBefore 0 = .ok (.bipush 64, 2) := by decide +kernel
theorem d_Mod_isBefore_2 : decode b_Mod_isBefore 2 = .ok (.iload_n 1, 1) := by decide +kernel
theorem d_Mod_isBefore_3 : decode b_Mod_isBefore 3 = .ok (.imul, 1) := by decide +kernel
theorem d_Mod_isBefore_4 : decode b_Mod_isBefore 4 = .ok (.iload_n 2, 1) := by decide +kernel
theorem d_Mod_isBefore_5 : decode b_Mod_isBefore 5 = .ok (.iadd, 1) := by decide +kernel
theorem d_Mod_isBefore_6 : decode b_Mod_isBefore 6 = .ok (.istore 4, 2) := by decide +kernel
theorem d_Mod_isBefore_8 : decode b_Mod_isBefore 8 = .ok (.bipush 64, 2) := by decide +kernel
theorem d_Mod_isBefore_10 : decode b_Mod_isBefore 10 = .ok (.iload_n 1, 1) := by decide +kernel
theorem d_Mod_isBefore_11 : decode b_Mod_isBefore 11 = .ok (.imul, 1) := by decide +kernel
theorem d_Mod_isBefore_12 : decode b_Mod_isBefore 12 = .ok (.iload_n 3, 1) := by decide +kernel
theorem d_Mod_isBefore_13 : decode b_Mod_isBefore 13 = .ok (.iadd, 1) := by decide +kernel
theorem d_Mod_isBefore_14 : decode b_Mod_isBefore 14 = .ok (.istore 5, 2) := by decide +kernel
theorem d_Mod_isBefore_16 : decode b_Mod_isBefore 16 = .ok (.aload_n 0, 1) := by decide +kernel
theorem d_Mod_isBefore_17 : decode b_Mod_isBefore 17 = .ok (.getfield 13, 3) := by decide +kernel
theorem d_Mod_isBefore_20 : decode b_Mod_isBefore 20 = .ok (.iload 4, 2) := by decide +kernel
theorem d_Mod_isBefore_22 : decode b_Mod_isBefore 22 = .ok (.iaload, 1) := by decide +kernel
theorem d_Mod_isBefore_23 : decode b_Mod_isBefore 23 = .ok (.aload_n 0, 1) := by decide +kernel
theorem d_Mod_isBefore_24 : decode b_Mod_isBefore 24 = .ok (.getfield 13, 3) := by decide +kernel
theorem d_Mod_isBefore_27 : decode b_Mod_isBefore 27 = .ok (.iload 5, 2) := by decide +kernel
theorem d_Mod_isBefore_29 : decode b_Mod_isBefore 29 = .ok (.iaload, 1) := by decide +kernel
theorem d_Mod_isBefore_30 : decode b_Mod_isBefore 30 = .ok (.if_icmp .lt 46, 3) := by decide +kernel
theorem d_Mod_isBefore_33 : decode b_Mod_isBefore 33 = .ok (.aload_n 0, 1) := by decide +kernel
theorem d_Mod_isBefore_34 : decode b_Mod_isBefore 34 = .ok (.getfield 13, 3) := by decide +kernel
theorem d_Mod_isBefore_37 : decode b_Mod_isBefore 37 = .ok (.iload 4, 2) := by decide +kernel
theorem d_Mod_isBefore_39 : decode b_Mod_isBefore 39 = .ok (.iaload, 1) := by decide +kernel
theorem d_Mod_isBefore_40 : decode b_Mod_isBefore 40 = .ok (.aload_n 0, 1) := by decide +kernel
theorem d_Mod_isBefore_41 : decode b_Mod_isBefore 41 = .ok (.getfield 13, 3) := by decide +kernel
theorem d_Mod_isBefore_44 : decode b_Mod_isBefore 44 = .ok (.iload 5, 2) := by decide +kernel
theorem d_Mod_isBefore_46 : decode b_Mod_isBefore 46 = .ok (.iaload, 1) := by decide +kernel
theorem d_Mod_isBefore_47 : decode b_Mod_isBefore 47 = .ok (.if_icmp .ne 33, 3) := by decide +kernel
theorem d_Mod_isBefore_50 : decode b_Mod_isBefore 50 = .ok (.aload_n 0, 1) := by decide +kernel
theorem d_Mod_isBefore_51 : decode b_Mod_isBefore 51 = .ok (.getfield 16, 3) := by decide +kernel
theorem d_Mod_isBefore_54 : decode b_Mod_isBefore 54 = .ok (.iload 4, 2) := by decide +kernel
theorem d_Mod_isBefore_56 : decode b_Mod_isBefore 56 = .ok (.laload, 1) := by decide +kernel
theorem d_Mod_isBefore_57 : decode b_Mod_isBefore 57 = .ok (.ldc2_w 43, 3) := by decide +kernel
theorem d_Mod_isBefore_60 : decode b_Mod_isBefore 60 = .ok (.ladd, 1) := by decide +kernel
theorem d_Mod_isBefore_61 : decode b_Mod_isBefore 61 = .ok (.aload_n 0, 1) := by decide +kernel
theorem d_Mod_isBefore_62 : decode b_Mod_isBefore 62 = .ok (.getfield 16, 3) := by decide +kernel
theorem d_Mod_isBefore_65 : decode b_Mod_isBefore 65 = .ok (.iload 5, 2) := by decide +kernel
theorem d_Mod_isBefore_67 : decode b_Mod_isBefore 67 = .ok (.laload, 1) := by decide +kernel
theorem d_Mod_isBefore_68 : decode b_Mod_isBefore 68 = .ok (.ldc2_w 43, 3) := by decide +kernel
theorem d_Mod_isBefore_71 : decode b_Mod_isBefore 71 = .ok (.ladd, 1) := by decide +kernel
theorem d_Mod_isBefore_72 : decode b_Mod_isBefore 72 = .ok (.lcmp, 1) := by decide +kernel
theorem d_Mod_isBefore_73 : decode b_Mod_isBefore 73 = .ok (.ifCond .ge 7, 3) := by decide +kernel
theorem d_Mod_isBefore_76 : decode b_Mod_isBefore 76 = .ok (.iconst 1, 1) := by decide +kernel
theorem d_Mod_isBefore_77 : decode b_Mod_isBefore 77 = .ok (.goto 4, 3) := by decide +kernel
theorem d_Mod_isBefore_80 : decode b_Mod_isBefore 80 = .ok (.iconst 0, 1) := by decide +kernel
theorem d_Mod_isBefore_81 : decode b_Mod_isBefore 81 = .ok (.ireturn, 1) := by decide +kernel
theorem d_Mod_compare_0 : decode b_Mod_compare 0 = .ok (.aload_n 0, 1) := by decide +kernel
theorem d_Mod_compare_1 : decode b_Mod_compare 1 = .ok (.aload_n 0, 1) := by decide +kernel
theorem d_Mod_compare_2 : decode b_Mod_compare 2 = .ok (.iload_n 1, 1) := by decide +kernel
theorem d_Mod_compare_3 : decode b_Mod_compare 3 = .ok (.iload_n 2, 1) := by decide +kernel
theorem d_Mod_compare_4 : decode b_Mod_compare 4 = .ok (.iconst 0, 1) := by decide +kernel
theorem d_Mod_compare_5 : decode b_Mod_compare 5 = .ok (.iconst 0, 1) := by decide +kernel
theorem d_Mod_compare_6 : decode b_Mod_compare 6 = .ok (.invokevirtual 85, 3) := by decide +kernel
theorem d_Mod_compare_9 : decode b_Mod_compare 9 = .ok (.putfield 32, 3) := by decide +kernel
theorem d_Mod_compare_12 : decode b_Mod_compare 12 = .ok (.aload_n 0, 1) := by decide +kernel
theorem d_Mod_compare_13 : decode b_Mod_compare 13 = .ok (.getfield 32, 3) := by decide +kernel
theorem d_Mod_compare_16 : decode b_Mod_compare 16 = .ok (.ifCond .le 5, 3) := by decide +kernel
theorem d_Mod_compare_19 : decode b_Mod_compare 19 = .ok (.iconst 0, 1) := by decide +kernel
theorem d_Mod_compare_20 : decode b_Mod_compare 20 = .ok (.ireturn, 1) := by decide +kernel
theorem d_Mod_compare_21 : decode b_Mod_compare 21 = .ok (.iconst 0, 1) := by decide +kernel
theorem d_Mod_compare_22 : decode b_Mod_compare 22 = .ok (.istore_n 3, 1) := by decide +kernel
theorem d_Mod_compare_23 : decode b_Mod_compare 23 = .ok (.iconst 0, 1) := by decide +kernel
theorem d_Mod_compare_24 : decode b_Mod_compare 24 = .ok (.istore 4, 2) := by decide +kernel
theorem d_Mod_compare_26 : decode b_Mod_compare 26 = .ok (.iconst 0, 1) := by decide +kernel
theorem d_Mod_compare_27 : decode b_Mod_compare 27 = .ok (.istore 5, 2) := by decide +kernel
theorem d_Mod_compare_29 : decode b_Mod_compare 29 = .ok (.iload 5, 2) := by decide +kernel
theorem d_Mod_compare_31 : decode b_Mod_compare 31 = .ok (.iconst 2, 1) := by decide +kernel
theorem d_Mod_compare_32 : decode b_Mod_compare 32 = .ok (.if_icmp .ge 132, 3) := by decide +kernel
theorem d_Mod_compare_35 : decode b_Mod_compare 35 = .ok (.iload 5, 2) := by decide +kernel
theorem d_Mod_compare_37 : decode b_Mod_compare 37 = .ok (.ifCond .ne 7, 3) := by decide +kernel
theorem d_Mod_compare_40 : decode b_Mod_compare 40 = .ok (.iload_n 1, 1) := by decide +kernel
theorem d_Mod_compare_41 : decode b_Mod_compare 41 = .ok (.goto 4, 3) := by decide +kernel
theorem d_Mod_compare_44 : decode b_Mod_compare 44 = .ok (.iload_n 2, 1) := by decide +kernel
end
section
theorem d_Mod_compare_45 : decode b_Mod_compare 45 = .ok (.istore 6, 2) := by decide +kernel
theorem d_Mod_compare_47 : decode b_Mod_compare 47 = .ok (.bipush 64, 2) := by decide +kernel
theorem d_Mod_compare_49 : decode b_Mod_compare 49 = .ok (.iload 6, 2) := by decide +kernel
theorem d_Mod_compare_51 : decode b_Mod_compare 51 = .ok (.imul, 1) := by decide +kernel
theorem d_Mod_compare_52 : decode b_Mod_compare 52 = .ok (.istore 7, 2) := by decide +kernel
theorem d_Mod_compare_54 : decode b_Mod_compare 54 = .ok (.iload 7, 2) := by decide +kernel
theorem d_Mod_compare_56 : decode b_Mod_compare 56 = .ok (.bipush 64, 2) := by decide +kernel
theorem d_Mod_compare_58 : decode b_Mod_compare 58 = .ok (.iload 6, 2) := by decide +kernel
theorem d_Mod_compare_60 : decode b_Mod_compare 60 = .ok (.imul, 1) := by decide +kernel
theorem d_Mod_compare_61 : decode b_Mod_compare 61 = .ok (.aload_n 0, 1) := by decide +kernel
theorem d_Mod_compare_62 : decode b_Mod_compare 62 = .ok (.getfield 7, 3) := by decide +kernel
theorem d_Mod_compare_65 : decode b_Mod_compare 65 = .ok (.iload 6, 2) := by decide +kernel
theorem d_Mod_compare_67 : decode b_Mod_compare 67 = .ok (.iaload, 1) := by decide +kernel
theorem d_Mod_compare_68 : decode b_Mod_compare 68 = .ok (.iadd, 1) := by decide +kernel
theorem d_Mod_compare_69 : decode b_Mod_compare 69 = .ok (.if_icmp .ge 89, 3) := by decide +kernel
theorem d_Mod_compare_72 : decode b_Mod_compare 72 = .ok (.aload_n 0, 1) := by decide +kernel
theorem d_Mod_compare_73 : decode b_Mod_compare 73 = .ok (.iload_n 1, 1) := by decide +kernel
theorem d_Mod_compare_74 : decode b_Mod_compare 74 = .ok (.aload_n 0, 1) := by decide +kernel
theorem d_Mod_compare_75 : decode b_Mod_compare 75 = .ok (.getfield 13, 3) := by decide +kernel
theorem d_Mod_compare_78 : decode b_Mod_compare 78 = .ok (.iload 7, 2) := by decide +kernel
theorem d_Mod_compare_80 : decode b_Mod_compare 80 = .ok (.iaload, 1) := by decide +kernel
theorem d_Mod_compare_81 : decode b_Mod_compare 81 = .ok (.aload_n 0, 1) := by decide +kernel
theorem d_Mod_compare_82 : decode b_Mod_compare 82 = .ok (.getfield 16, 3) := by decide +kernel
theorem d_Mod_compare_85 : decode b_Mod_compare 85 = .ok (.iload 7, 2) := by decide +kernel
theorem d_Mod_compare_87 : decode b_Mod_compare 87 = .ok (.laload, 1) := by decide +kernel
theorem d_Mod_compare_88 : decode b_Mod_compare 88 = .ok (.invokevirtual 63, 3) := by decide +kernel
theorem d_Mod_compare_91 : decode b_Mod_compare 91 = .ok (.lstore 8, 2) := by decide +kernel
theorem d_Mod_compare_93 : decode b_Mod_compare 93 = .ok (.aload_n 0, 1) := by decide +kernel
theorem d_Mod_compare_94 : decode b_Mod_compare 94 = .ok (.iload_n 2, 1) := by decide +kernel
theorem d_Mod_compare_95 : decode b_Mod_compare 95 = .ok (.aload_n 0, 1) := by decide +kernel
theorem d_Mod_compare_96 : decode b_Mod_compare 96 = .ok (.getfield 13, 3) := by decide +kernel
theorem d_Mod_compare_99 : decode b_Mod_compare 99 = .ok (.iload 7, 2) := by decide +kernel
theorem d_Mod_compare_101 : decode b_Mod_compare 101 = .ok (.iaload, 1) := by decide +kernel
theorem d_Mod_compare_102 : decode b_Mod_compare 102 = .ok (.aload_n 0, 1) := by decide +kernel
theorem d_Mod_compare_103 : decode b_Mod_compare 103 = .ok (.getfield 16, 3) := by decide +kernel
theorem d_Mod_compare_106 : decode b_Mod_compare 106 = .ok (.iload 7, 2) := by decide +kernel
theorem d_Mod_compare_108 : decode b_Mod_compare 108 = .ok (.laload, 1) := by decide +kernel
theorem d_Mod_compare_109 : decode b_Mod_compare 109 = .ok (.invokevirtual 63, 3) := by decide +kernel
theorem d_Mod_compare_112 : decode b_Mod_compare 112 = .ok (.lstore 10, 2) := by decide +kernel
theorem d_Mod_compare_114 : decode b_Mod_compare 114 = .ok (.iload_n 3, 1) := by decide +kernel
theorem d_Mod_compare_115 : decode b_Mod_compare 115 = .ok (.ifCond .ne 11, 3) := by decide +kernel
theorem d_Mod_compare_118 : decode b_Mod_compare 118 = .ok (.lload 8, 2) := by decide +kernel
theorem d_Mod_compare_120 : decode b_Mod_compare 120 = .ok (.lload 10, 2) := by decide +kernel
theorem d_Mod_compare_122 : decode b_Mod_compare 122 = .ok (.lcmp, 1) := by decide +kernel
theorem d_Mod_compare_123 : decode b_Mod_compare 123 = .ok (.ifCond .le 7, 3) := by decide +kernel
theorem d_Mod_compare_126 : decode b_Mod_compare 126 = .ok (.iconst 1, 1) := by decide +kernel
theorem d_Mod_compare_127 : decode b_Mod_compare 127 = .ok (.goto 4, 3) := by decide +kernel
theorem d_Mod_compare_130 : decode b_Mod_compare 130 = .ok (.iconst 0, 1) := by decide +kernel
theorem d_Mod_compare_131 : decode b_Mod_compare 131 = .ok (.istore_n 3, 1) := by decide +kernel
theorem d_Mod_compare_132 : decode b_Mod_compare 132 = .ok (.iload 4, 2) := by decide +kernel
theorem d_Mod_compare_134 : decode b_Mod_compare 134 = .ok (.ifCond .ne 11, 3) := by decide +kernel
theorem d_Mod_compare_137 : decode b_Mod_compare 137 = .ok (.lload 8, 2) := by decide +kernel
theorem d_Mod_compare_139 : decode b_Mod_compare 139 = .ok (.lload 10, 2) := by decide +kernel
theorem d_Mod_compare_141 : decode b_Mod_compare 141 = .ok (.lcmp, 1) := by decide +kernel
theorem d_Mod_compare_142 : decode b_Mod_compare 142 = .ok (.ifCond .ge 7, 3) := by decide +kernel
theorem d_Mod_compare_145 : decode b_Mod_compare 145 = .ok (.iconst 1, 1) := by decide +kernel
theorem d_Mod_compare_146 : decode b_Mod_compare 146 = .ok (.goto 4, 3) := by decide +kernel
theorem d_Mod_compare_149 : decode b_Mod_compare 149 = .ok (.iconst 0, 1) := by decide +kernel
theorem d_Mod_compare_150 : decode b_Mod_compare 150 = .ok (.istore 4, 2) := by decide +kernel
theorem d_Mod_compare_152 : decode b_Mod_compare 152 = .ok (.iinc 7 1, 3) := by decide +kernel
theorem d_Mod_compare_155 : decode b_Mod_compare 155 = .ok (.goto (-101), 3) := by decide +kernel
theorem d_Mod_compare_158 : decode b_Mod_compare 158 = .ok (.iinc 5 1, 3) := by decide +kernel
theorem d_Mod_compare_161 : decode b_Mod_compare 161 = .ok (.goto (-132), 3) := by decide +kernel
theorem d_Mod_compare_164 : decode b_Mod_compare 164 = .ok (.iload_n 3, 1) := by decide +kernel
theorem d_Mod_compare_165 : decode b_Mod_compare 165 = .ok (.ifCond .eq 16, 3) := by decide +kernel
theorem d_Mod_compare_168 : decode b_Mod_compare 168 = .ok (.iload 4, 2) := by decide +kernel
theorem d_Mod_compare_170 : decode b_Mod_compare 170 = .ok (.ifCond .eq 7, 3) := by decide +kernel
theorem d_Mod_compare_173 : decode b_Mod_compare 173 = .ok (.iconst 3, 1) := by decide +kernel
theorem d_Mod_compare_174 : decode b_Mod_compare 174 = .ok (.goto 17, 3) := by decide +kernel
theorem d_Mod_compare_177 : decode b_Mod_compare 177 = .ok (.iconst 1, 1) := by decide +kernel
theorem d_Mod_compare_178 : decode b_Mod_compare 178 = .ok (.goto 13, 3) := by decide +kernel
theorem d_Mod_compare_181 : decode b_Mod_compare 181 = .ok (.iload 4, 2) := by decide +kernel
theorem d_Mod_compare_183 : decode b_Mod_compare 183 = .ok (.ifCond .eq 7, 3) := by decide +kernel
theorem d_Mod_compare_186 : decode b_Mod_compare 186 = .ok (.iconst 2, 1) := by decide +kernel
theorem d_Mod_compare_187 : decode b_Mod_compare 187 = .ok (.goto 4, 3) := by decide +kernel
theorem d_Mod_compare_190 : decode b_Mod_compare 190 = .ok (.iconst 0, 1) := by decide +kernel
theorem d_Mod_compare_191 : decode b_Mod_compare 191 = .ok (.ireturn, 1) := by decide +kernel
theorem d_Mod_into_0 : decode b_Mod_into 0 = .ok (.aload_n 0, 1) := by decide +kernel
theorem d_Mod_into_1 : decode b_Mod_into 1 = .ok (.aload_n 0, 1) := by decide +kernel
theorem d_Mod_into_2 : decode b_Mod_into 2 = .ok (.iload_n 1, 1) := by decide +kernel
theorem d_Mod_into_3 : decode b_Mod_into 3 = .ok (.iload_n 2, 1) := by decide +kernel
theorem d_Mod_into_4 : decode b_Mod_into 4 = .ok (.iconst 0, 1) := by decide +kernel
theorem d_Mod_into_5 : decode b_Mod_into 5 = .ok (.iconst 0, 1) := by decide +kernel
theorem d_Mod_into_6 : decode b_Mod_into 6 = .ok (.invokevirtual 85, 3) := by decide +kernel
theorem d_Mod_into_9 : decode b_Mod_into 9 = .ok (.putfield 32, 3) := by decide +kernel
theorem d_Mod_into_12 : decode b_Mod_into 12 = .ok (.aload_n 0, 1) := by decide +kernel
theorem d_Mod_into_13 : decode b_Mod_into 13 = .ok (.getfield 32, 3) := by decide +kernel
theorem d_Mod_into_16 : decode b_Mod_into 16 = .ok (.ifCond .le 5, 3) := by decide +kernel
theorem d_Mod_into_19 : decode b_Mod_into 19 = .ok (.lconst 0, 1) := by decide +kernel
theorem d_Mod_into_20 : decode b_Mod_into 20 = .ok (.lreturn, 1) := by decide +kernel
theorem d_Mod_into_21 : decode b_Mod_into 21 = .ok (.lconst 0, 1) := by decide +kernel
theorem d_Mod_into_22 : decode b_Mod_into 22 = .ok (.lstore_n 3, 1) := by decide +kernel
theorem d_Mod_into_23 : decode b_Mod_into 23 = .ok (.ldc2_w 58, 3) := by decide +kernel
theorem d_Mod_into_26 : decode b_Mod_into 26 = .ok (.lstore 5, 2) := by decide +kernel
theorem d_Mod_into_28 : decode b_Mod_into 28 = .ok (.iconst 1, 1) := by decide +kernel
theorem d_Mod_into_29 : decode b_Mod_into 29 = .ok (.istore 7, 2) := by decide +kernel
theorem d_Mod_into_31 : decode b_Mod_into 31 = .ok (.iconst 0, 1) := by decide +kernel
theorem d_Mod_into_32 : decode b_Mod_into 32 = .ok (.istore 8, 2) := by decide +kernel
theorem d_Mod_into_34 : decode b_Mod_into 34 = .ok (.iload 8, 2) := by decide +kernel
theorem d_Mod_into_36 : decode b_Mod_into 36 = .ok (.iconst 2, 1) := by decide +kernel
theorem d_Mod_into_37 : decode b_Mod_into 37 = .ok (.if_icmp .ge 255, 3) := by decide +kernel
theorem d_Mod_into_40 : decode b_Mod_into 40 = .ok (.iload 8, 2) := by decide +kernel
theorem d_Mod_into_42 : decode b_Mod_into 42 = .ok (.ifCond .ne 7, 3) := by decide +kernel
theorem d_Mod_into_45 : decode b_Mod_into 45 = .ok (.iload_n 1, 1) := by decide +kernel
theorem d_Mod_into_46 : decode b_Mod_into 46 = .ok (.goto 4, 3) := by decide +kernel
theorem d_Mod_into_49 : decode b_Mod_into 49 = .ok (.iload_n 2, 1) := by decide +kernel
theorem d_Mod_into_50 : decode b_Mod_into 50 = .ok (.istore 9, 2) := by decide +kernel
theorem d_Mod_into_52 : decode b_Mod_into 52 = .ok (.bipush 64, 2) := by decide +kernel
theorem d_Mod_into_54 : decode b_Mod_into 54 = .ok (.iload 9, 2) := by decide +kernel
theorem d_Mod_into_56 : decode b_Mod_into 56 = .ok (.imul, 1) := by decide +kernel
theorem d_Mod_into_57 : decode b_Mod_into 57 = .ok (.istore 10, 2) := by decide +kernel
theorem d_Mod_into_59 : decode b_Mod_into 59 = .ok (.iload 10, 2) := by decide +kernel
theorem d_Mod_into_61 : decode b_Mod_into 61 = .ok (.bipush 64, 2) := by decide +kernel
theorem d_Mod_into_63 : decode b_Mod_into 63 = .ok (.iload 9, 2) := by decide +kernel
theorem d_Mod_into_65 : decode b_Mod_into 65 = .ok (.imul, 1) := by decide +kernel
theorem d_Mod_into_66 : decode b_Mod_into 66 = .ok (.aload_n 0, 1) := by decide +kernel
theorem d_Mod_into_67 : decode b_Mod_into 67 = .ok (.getfield 7, 3) := by decide +kernel
theorem d_Mod_into_70 : decode b_Mod_into 70 = .ok (.iload 9, 2) := by decide +kernel
theorem d_Mod_into_72 : decode b_Mod_into 72 = .ok (.iaload, 1) := by decide +kernel
theorem d_Mod_into_73 : decode b_Mod_into 73 = .ok (.iadd, 1) := by decide +kernel
theorem d_Mod_into_74 : decode b_Mod_into 74 = .ok (.if_icmp .ge 212, 3) := by decide +kernel
theorem d_Mod_into_77 : decode b_Mod_into 77 = .ok (.aload_n 0, 1) := by decide +kernel
theorem d_Mod_into_78 : decode b_Mod_into 78 = .ok (.iload_n 1, 1) := by decide +kernel
theorem d_Mod_into_79 : decode b_Mod_into 79 = .ok (.aload_n 0, 1) := by decide +kernel
theorem d_Mod_into_80 : decode b_Mod_into 80 = .ok (.getfield 13, 3) := by decide +kernel
theorem d_Mod_into_83 : decode b_Mod_into 83 = .ok (.iload 10, 2) := by decide +kernel
theorem d_Mod_into_85 : decode b_Mod_into 85 = .ok (.iaload, 1) := by decide +kernel
theorem d_Mod_into_86 : decode b_Mod_into 86 = .ok (.aload_n 0, 1) := by decide +kernel
theorem d_Mod_into_87 : decode b_Mod_into 87 = .ok (.getfield 16, 3) := by decide +kernel
theorem d_Mod_into_90 : decode b_Mod_into 90 = .ok (.iload 10, 2) := by decide +kernel
theorem d_Mod_into_92 : decode b_Mod_into 92 = .ok (.laload, 1) := by decide +kernel
theorem d_Mod_into_93 : decode b_Mod_into 93 = .ok (.invokevirtual 63, 3) := by decide +kernel
theorem d_Mod_into_96 : decode b_Mod_into 96 = .ok (.lstore 11, 2) := by decide +kernel
theorem d_Mod_into_98 : decode b_Mod_into 98 = .ok (.aload_n 0, 1) := by decide +kernel
theorem d_Mod_into_99 : decode b_Mod_into 99 = .ok (.iload_n 2, 1) := by decide +kernel
theorem d_Mod_into_100 : decode b_Mod_into 100 = .ok (.aload_n 0, 1) := by decide +kernel
theorem d_Mod_into_101 : decode b_Mod_into 101 = .ok (.getfield 13, 3) := by decide +kernel
theorem d_Mod_into_104 : decode b_Mod_into 104 = .ok (.iload 10, 2) := by decide +kernel
theorem d_Mod_into_106 : decode b_Mod_into 106 = .ok (.iaload, 1) := by decide +kernel
theorem d_Mod_into_107 : decode b_Mod_into 107 = .ok (.aload_n 0, 1) := by decide +kernel
theorem d_Mod_into_108 : decode b_Mod_into 108 = .ok (.getfield 16, 3) := by decide +kernel
theorem d_Mod_into_111 : decode b_Mod_into 111 = .ok (.iload 10, 2) := by decide +kernel
theorem d_Mod_into_113 : decode b_Mod_into 113 = .ok (.laload, 1) := by decide +kernel
theorem d_Mod_into_114 : decode b_Mod_into 114 = .ok (.invokevirtual 63, 3) := by decide +kernel
theorem d_Mod_into_117 : decode b_Mod_into 117 = .ok (.lstore 13, 2) := by decide +kernel
theorem d_Mod_into_119 : decode b_Mod_into 119 = .ok (.lload 13, 2) := by decide +kernel
theorem d_Mod_into_121 : decode b_Mod_into 121 = .ok (.lconst 0, 1) := by decide +kernel
theorem d_Mod_into_122 : decode b_Mod_into 122 = .ok (.lcmp, 1) := by decide +kernel
theorem d_Mod_into_123 : decode b_Mod_into 123 = .ok (.ifCond .lt 62, 3) := by decide +kernel
theorem d_Mod_into_126 : decode b_Mod_into 126 = .ok (.iload 7, 2) := by decide +kernel
theorem d_Mod_into_128 : decode b_Mod_into 128 = .ok (.ifCond .eq 14, 3) := by decide +kernel
theorem d_Mod_into_131 : decode b_Mod_into 131 = .ok (.lload 11, 2) := by decide +kernel
theorem d_Mod_into_133 : decode b_Mod_into 133 = .ok (.lconst 0, 1) := by decide +kernel
theorem d_Mod_into_134 : decode b_Mod_into 134 = .ok (.lcmp, 1) := by decide +kernel
theorem d_Mod_into_135 : decode b_Mod_into 135 = .ok (.ifCond .lt 7, 3) := by decide +kernel
theorem d_Mod_into_138 : decode b_Mod_into 138 = .ok (.iconst 1, 1) := by decide +kernel
theorem d_Mod_into_139 : decode b_Mod_into 139 = .ok (.goto 4, 3) := by decide +kernel
theorem d_Mod_into_142 : decode b_Mod_into 142 = .ok (.iconst 0, 1) := by decide +kernel
theorem d_Mod_into_143 : decode b_Mod_into 143 = .ok (.istore 7, 2) := by decide +kernel
theorem d_Mod_into_145 : decode b_Mod_into 145 = .ok (.lload 13, 2) := by decide +kernel
theorem d_Mod_into_147 : decode b_Mod_into 147 = .ok (.lconst 0, 1) := by decide +kernel
theorem d_Mod_into_148 : decode b_Mod_into 148 = .ok (.lcmp, 1) := by decide +kernel
theorem d_Mod_into_149 : decode b_Mod_into 149 = .ok (.ifCond .le 29, 3) := by decide +kernel
theorem d_Mod_into_152 : decode b_Mod_into 152 = .ok (.lload 5, 2) := by decide +kernel
theorem d_Mod_into_154 : decode b_Mod_into 154 = .ok (.lconst 0, 1) := by decide +kernel
theorem d_Mod_into_155 : decode b_Mod_into 155 = .ok (.lcmp, 1) := by decide +kernel
theorem d_Mod_into_156 : decode b_Mod_into 156 = .ok (.ifCond .lt 14, 3) := by decide +kernel
theorem d_Mod_into_159 : decode b_Mod_into 159 = .ok (.lload 11, 2) := by decide +kernel
theorem d_Mod_into_161 : decode b_Mod_into 161 = .ok (.lload 13, 2) := by decide +kernel
theorem d_Mod_into_163 : decode b_Mod_into 163 = .ok (.ldiv, 1) := by decide +kernel
theorem d_Mod_into_164 : decode b_Mod_into 164 = .ok (.lload 5, 2) := by decide +kernel
theorem d_Mod_into_166 : decode b_Mod_into 166 = .ok (.lcmp, 1) := by decide +kernel
theorem d_Mod_into_167 : decode b_Mod_into 167 = .ok (.ifCond .ge 11, 3) := by decide +kernel
theorem d_Mod_into_170 : decode b_Mod_into 170 = .ok (.lload 11, 2) := by decide +kernel
theorem d_Mod_into_172 : decode b_Mod_into 172 = .ok (.lload 13, 2) := by decide +kernel
theorem d_Mod_into_174 : decode b_Mod_into 174 = .ok (.ldiv, 1) := by decide +kernel
theorem d_Mod_into_175 : decode b_Mod_into 175 = .ok (.goto 5, 3) := by decide +kernel
theorem d_Mod_into_178 : decode b_Mod_into 178 = .ok (.lload 5, 2) := by decide +kernel
theorem d_Mod_into_180 : decode b_Mod_into 180 = .ok (.lstore 5, 2) := by decide +kernel
theorem d_Mod_into_182 : decode b_Mod_into 182 = .ok (.goto 98, 3) := by decide +kernel
theorem d_Mod_into_185 : decode b_Mod_into 185 = .ok (.lload 11, 2) := by decide +kernel
theorem d_Mod_into_187 : decode b_Mod_into 187 = .ok (.lconst 0, 1) := by decide +kernel
theorem d_Mod_into_188 : decode b_Mod_into 188 = .ok (.lcmp, 1) := by decide +kernel
theorem d_Mod_into_189 : decode b_Mod_into 189 = .ok (.ifCond .ge 91, 3) := by decide +kernel
theorem d_Mod_into_192 : decode b_Mod_into 192 = .ok (.lload 11, 2) := by decide +kernel
theorem d_Mod_into_194 : decode b_Mod_into 194 = .ok (.ldc2_w 43, 3) := by decide +kernel
theorem d_Mod_into_197 : decode b_Mod_into 197 = .ok (.lcmp, 1) := by decide +kernel
theorem d_Mod_into_198 : decode b_Mod_into 198 = .ok (.ifCond .ne 16, 3) := by decide +kernel
theorem d_Mod_into_201 : decode b_Mod_into 201 = .ok (.lload 13, 2) := by decide +kernel
theorem d_Mod_into_203 : decode b_Mod_into 203 = .ok (.ldc2_w 58, 3) := by decide +kernel
theorem d_Mod_into_206 : decode b_Mod_into 206 = .ok (.lcmp, 1) := by decide +kernel
theorem d_Mod_into_207 : decode b_Mod_into 207 = .ok (.ifCond .ne 7, 3) := by decide +kernel
theorem d_Mod_into_210 : decode b_Mod_into 210 = .ok (.iconst 1, 1) := by decide +kernel
theorem d_Mod_into_211 : decode b_Mod_into 211 = .ok (.goto 4, 3) := by decide +kernel
theorem d_Mod_into_214 : decode b_Mod_into 214 = .ok (.iconst 0, 1) := by decide +kernel
theorem d_Mod_into_215 : decode b_Mod_into 215 = .ok (.istore 15, 2) := by decide +kernel
theorem d_Mod_into_217 : decode b_Mod_into 217 = .ok (.iload 7, 2) := by decide +kernel
theorem d_Mod_into_219 : decode b_Mod_into 219 = .ok (.ifCond .eq 12, 3) := by decide +kernel
theorem d_Mod_into_222 : decode b_Mod_into 222 = .ok (.iload 15, 2) := by decide +kernel
theorem d_Mod_into_224 : decode b_Mod_into 224 = .ok (.ifCond .ne 7, 3) := by decide +kernel
theorem d_Mod_into_227 : decode b_Mod_into 227 = .ok (.iconst 1, 1) := by decide +kernel
theorem d_Mod_into_228 : decode b_Mod_into 228 = .ok (.goto 4, 3) := by decide +kernel
theorem d_Mod_into_231 : decode b_Mod_into 231 = .ok (.iconst 0, 1) := by decide +kernel
theorem d_Mod_into_232 : decode b_Mod_into 232 = .ok (.istore 7, 2) := by decide +kernel
theorem d_Mod_into_234 : decode b_Mod_into 234 = .ok (.iload 15, 2) := by decide +kernel
theorem d_Mod_into_236 : decode b_Mod_into 236 = .ok (.ifCond .eq 7, 3) := by decide +kernel
theorem d_Mod_into_239 : decode b_Mod_into 239 = .ok (.lconst 0, 1) := by decide +kernel
theorem d_Mod_into_240 : decode b_Mod_into 240 = .ok (.goto 24, 3) := by decide +kernel
theorem d_Mod_into_243 : decode b_Mod_into 243 = .ok (.lload 11, 2) := by decide +kernel
theorem d_Mod_into_245 : decode b_Mod_into 245 = .ok (.lload 13, 2) := by decide +kernel
theorem d_Mod_into_247 : decode b_Mod_into 247 = .ok (.ldiv, 1) := by decide +kernel
theorem d_Mod_into_248 : decode b_Mod_into 248 = .ok (.lload 11, 2) := by decide +kernel
theorem d_Mod_into_250 : decode b_Mod_into 250 = .ok (.lload 13, 2) := by decide +kernel
theorem d_Mod_into_252 : decode b_Mod_into 252 = .ok (.lrem, 1) := by decide +kernel
theorem d_Mod_into_253 : decode b_Mod_into 253 = .ok (.lconst 0, 1) := by decide +kernel
theorem d_Mod_into_254 : decode b_Mod_into 254 = .ok (.lcmp, 1) := by decide +kernel
theorem d_Mod_into_255 : decode b_Mod_into 255 = .ok (.ifCond .eq 7, 3) := by decide +kernel
theorem d_Mod_into_258 : decode b_Mod_into 258 = .ok (.lconst 1, 1) := by decide +kernel
theorem d_Mod_into_259 : decode b_Mod_into 259 = .ok (.goto 4, 3) := by decide +kernel
theorem d_Mod_into_262 : decode b_Mod_into 262 = .ok (.lconst 0, 1) := by decide +kernel
theorem d_Mod_into_263 : decode b_Mod_into 263 = .ok (.ladd, 1) := by decide +kernel
theorem d_Mod_into_264 : decode b_Mod_into 264 = .ok (.lstore 16, 2) := by decide +kernel
theorem d_Mod_into_266 : decode b_Mod_into 266 = .ok (.lload 16, 2) := by decide +kernel
theorem d_Mod_into_268 : decode b_Mod_into 268 = .ok (.lload_n 3, 1) := by decide +kernel
theorem d_Mod_into_269 : decode b_Mod_into 269 = .ok (.lcmp, 1) := by decide +kernel
theorem d_Mod_into_270 : decode b_Mod_into 270 = .ok (.ifCond .le 8, 3) := by decide +kernel
theorem d_Mod_into_273 : decode b_Mod_into 273 = .ok (.lload 16, 2) := by decide +kernel
theorem d_Mod_into_275 : decode b_Mod_into 275 = .ok (.goto 4, 3) := by decide +kernel
theorem d_Mod_into_278 : decode b_Mod_into 278 = .ok (.lload_n 3, 1) := by decide +kernel
theorem d_Mod_into_279 : decode b_Mod_into 279 = .ok (.lstore_n 3, 1) := by decide +kernel
theorem d_Mod_into_280 : decode b_Mod_into 280 = .ok (.iinc 10 1, 3) := by decide +kernel
theorem d_Mod_into_283 : decode b_Mod_into 283 = .ok (.goto (-224), 3) := by decide +kernel
theorem d_Mod_into_286 : decode b_Mod_into 286 = .ok (.iinc 8 1, 3) := by decide +kernel
theorem d_Mod_into_289 : decode b_Mod_into 289 = .ok (.goto (-255), 3) := by decide +kernel
theorem d_Mod_into_292 : decode b_Mod_into 292 = .ok (.iload 7, 2) := by decide +kernel
theorem d_Mod_into_294 : decode b_Mod_into 294 = .ok (.ifCond .eq 15, 3) := by decide +kernel
theorem d_Mod_into_297 : decode b_Mod_into 297 = .ok (.lload 5, 2) := by decide +kernel
theorem d_Mod_into_299 : decode b_Mod_into 299 = .ok (.lload_n 3, 1) := by decide +kernel
theorem d_Mod_into_300 : decode b_Mod_into 300 = .ok (.lcmp, 1) := by decide +kernel
theorem d_Mod_into_301 : decode b_Mod_into 301 = .ok (.ifCond .lt 8, 3) := by decide +kernel
theorem d_Mod_into_304 : decode b_Mod_into 304 = .ok (.lload 5, 2) := by decide +kernel
theorem d_Mod_into_306 : decode b_Mod_into 306 = .ok (.goto 6, 3) := by decide +kernel
theorem d_Mod_into_309 : decode b_Mod_into 309 = .ok (.ldc2_w 58, 3) := by decide +kernel
theorem d_Mod_into_312 : decode b_Mod_into 312 = .ok (.lreturn, 1) := by decide +kernel
theorem d_Mod_look_0 : decode b_Mod_look 0 = .ok (.aload_n 0, 1) := by decide +kernel
theorem d_Mod_look_1 : decode b_Mod_look 1 = .ok (.iload_n 1, 1) := by decide +kernel
theorem d_Mod_look_2 : decode b_Mod_look 2 = .ok (.invokestatic 78, 3) := by decide +kernel
theorem d_Mod_look_5 : decode b_Mod_look 5 = .ok (.ifCond .eq 7, 3) := by decide +kernel
theorem d_Mod_look_8 : decode b_Mod_look 8 = .ok (.iconst 0, 1) := by decide +kernel
theorem d_Mod_look_9 : decode b_Mod_look 9 = .ok (.goto 4, 3) := by decide +kernel
theorem d_Mod_look_12 : decode b_Mod_look 12 = .ok (.iconst 1, 1) := by decide +kernel
theorem d_Mod_look_13 : decode b_Mod_look 13 = .ok (.putfield 32, 3) := by decide +kernel
theorem d_Mod_look_16 : decode b_Mod_look 16 = .ok (.aload_n 0, 1) := by decide +kernel
theorem d_Mod_look_17 : decode b_Mod_look 17 = .ok (.getfield 32, 3) := by decide +kernel
theorem d_Mod_look_20 : decode b_Mod_look 20 = .ok (.ifCond .le 5, 3) := by decide +kernel
theorem d_Mod_look_23 : decode b_Mod_look 23 = .ok (.iconst 0, 1) := by decide +kernel
theorem d_Mod_look_24 : decode b_Mod_look 24 = .ok (.ireturn, 1) := by decide +kernel
theorem d_Mod_look_25 : decode b_Mod_look 25 = .ok (.iconst 0, 1) := by decide +kernel
theorem d_Mod_look_26 : decode b_Mod_look 26 = .ok (.istore_n 3, 1) := by decide +kernel
theorem d_Mod_look_27 : decode b_Mod_look 27 = .ok (.iconst 0, 1) := by decide +kernel
theorem d_Mod_look_28 : decode b_Mod_look 28 = .ok (.istore 4, 2) := by decide +kernel
theorem d_Mod_look_30 : decode b_Mod_look 30 = .ok (.iconst (-1), 1) := by decide +kernel
theorem d_Mod_look_31 : decode b_Mod_look 31 = .ok (.istore 5, 2) := by decide +kernel
theorem d_Mod_look_33 : decode b_Mod_look 33 = .ok (.iconst 0, 1) := by decide +kernel
theorem d_Mod_look_34 : decode b_Mod_look 34 = .ok (.istore 6, 2) := by decide +kernel
theorem d_Mod_look_36 : decode b_Mod_look 36 = .ok (.iload 6, 2) := by decide +kernel
theorem d_Mod_look_38 : decode b_Mod_look 38 = .ok (.aload_n 0, 1) := by decide +kernel
theorem d_Mod_look_39 : decode b_Mod_look 39 = .ok (.getfield 7, 3) := by decide +kernel
theorem d_Mod_look_42 : decode b_Mod_look 42 = .ok (.iload_n 1, 1) := by decide +kernel
theorem d_Mod_look_43 : decode b_Mod_look 43 = .ok (.iaload, 1) := by decide +kernel
theorem d_Mod_look_44 : decode b_Mod_look 44 = .ok (.if_icmp .ge 151, 3) := by decide +kernel
theorem d_Mod_look_47 : decode b_Mod_look 47 = .ok (.bipush 64, 2) := by decide +kernel
theorem d_Mod_look_49 : decode b_Mod_look 49 = .ok (.iload_n 1, 1) := by decide +kernel
theorem d_Mod_look_50 : decode b_Mod_look 50 = .ok (.imul, 1) := by decide +kernel
theorem d_Mod_look_51 : decode b_Mod_look 51 = .ok (.aload_n 0, 1) := by decide +kernel
theorem d_Mod_look_52 : decode b_Mod_look 52 = .ok (.iload_n 1, 1) := by decide +kernel
theorem d_Mod_look_53 : decode b_Mod_look 53 = .ok (.iload 6, 2) := by decide +kernel
theorem d_Mod_look_55 : decode b_Mod_look 55 = .ok (.invokevirtual 103, 3) := by decide +kernel
theorem d_Mod_look_58 : decode b_Mod_look 58 = .ok (.iadd, 1) := by decide +kernel
theorem d_Mod_look_59 : decode b_Mod_look 59 = .ok (.istore 7, 2) := by decide +kernel
theorem d_Mod_look_61 : decode b_Mod_look 61 = .ok (.iload 6, 2) := by decide +kernel
theorem d_Mod_look_63 : decode b_Mod_look 63 = .ok (.ifCond .ne 7, 3) := by decide +kernel
theorem d_Mod_look_66 : decode b_Mod_look 66 = .ok (.iconst 0, 1) := by decide +kernel
theorem d_Mod_look_67 : decode b_Mod_look 67 = .ok (.goto 17, 3) := by decide +kernel
theorem d_Mod_look_70 : decode b_Mod_look 70 = .ok (.bipush 64, 2) := by decide +kernel
theorem d_Mod_look_72 : decode b_Mod_look 72 = .ok (.iload_n 1, 1) := by decide +kernel
theorem d_Mod_look_73 : decode b_Mod_look 73 = .ok (.imul, 1) := by decide +kernel
theorem d_Mod_look_74 : decode b_Mod_look 74 = .ok (.aload_n 0, 1) := by decide +kernel
theorem d_Mod_look_75 : decode b_Mod_look 75 = .ok (.iload_n 1, 1) := by decide +kernel
theorem d_Mod_look_76 : decode b_Mod_look 76 = .ok (.iload 6, 2) := by decide +kernel
theorem d_Mod_look_78 : decode b_Mod_look 78 = .ok (.iconst 1, 1) := by decide +kernel
theorem d_Mod_look_79 : decode b_Mod_look 79 = .ok (.isub, 1) := by decide +kernel
theorem d_Mod_look_80 : decode b_Mod_look 80 = .ok (.invokevirtual 103, 3) := by decide +kernel
theorem d_Mod_look_83 : decode b_Mod_look 83 = .ok (.iadd, 1) := by decide +kernel
theorem d_Mod_look_84 : decode b_Mod_look 84 = .ok (.istore 8, 2) := by decide +kernel
theorem d_Mod_look_86 : decode b_Mod_look 86 = .ok (.iload_n 3, 1) := by decide +kernel
theorem d_Mod_look_87 : decode b_Mod_look 87 = .ok (.iload 6, 2) := by decide +kernel
theorem d_Mod_look_89 : decode b_Mod_look 89 = .ok (.ifCond .eq 20, 3) := by decide +kernel
theorem d_Mod_look_92 : decode b_Mod_look 92 = .ok (.aload_n 0, 1) := by decide +kernel
theorem d_Mod_look_93 : decode b_Mod_look 93 = .ok (.getfield 13, 3) := by decide +kernel
theorem d_Mod_look_96 : decode b_Mod_look 96 = .ok (.iload 8, 2) := by decide +kernel
theorem d_Mod_look_98 : decode b_Mod_look 98 = .ok (.iaload, 1) := by decide +kernel
theorem d_Mod_look_99 : decode b_Mod_look 99 = .ok (.aload_n 0, 1) := by decide +kernel
theorem d_Mod_look_100 : decode b_Mod_look 100 = .ok (.getfield 13, 3) := by decide +kernel
theorem d_Mod_look_103 : decode b_Mod_look 103 = .ok (.iload 7, 2) := by decide +kernel
theorem d_Mod_look_105 : decode b_Mod_look 105 = .ok (.iaload, 1) := by decide +kernel
theorem d_Mod_look_106 : decode b_Mod_look 106 = .ok (.if_icmp .eq 7, 3) := by decide +kernel
theorem d_Mod_look_109 : decode b_Mod_look 109 = .ok (.iconst 1, 1) := by decide +kernel
theorem d_Mod_look_110 : decode b_Mod_look 110 = .ok (.goto 4, 3) := by decide +kernel
theorem d_Mod_look_113 : decode b_Mod_look 113 = .ok (.iconst 0, 1) := by decide +kernel
theorem d_Mod_look_114 : decode b_Mod_look 114 = .ok (.iadd, 1) := by decide +kernel
theorem d_Mod_look_115 : decode b_Mod_look 115 = .ok (.istore_n 3, 1) := by decide +kernel
theorem d_Mod_look_116 : decode b_Mod_look 116 = .ok (.iload 4, 2) := by decide +kernel
theorem d_Mod_look_118 : decode b_Mod_look 118 = .ok (.aload_n 0, 1) := by decide +kernel
theorem d_Mod_look_119 : decode b_Mod_look 119 = .ok (.getfield 20, 3) := by decide +kernel
theorem d_Mod_look_122 : decode b_Mod_look 122 = .ok (.iload 7, 2) := by decide +kernel
theorem d_Mod_look_124 : decode b_Mod_look 124 = .ok (.laload, 1) := by decide +kernel
theorem d_Mod_look_125 : decode b_Mod_look 125 = .ok (.lconst 0, 1) := by decide +kernel
theorem d_Mod_look_126 : decode b_Mod_look 126 = .ok (.lcmp, 1) := by decide +kernel
theorem d_Mod_look_127 : decode b_Mod_look 127 = .ok (.ifCond .ge 7, 3) := by decide +kernel
theorem d_Mod_look_130 : decode b_Mod_look 130 = .ok (.iconst 1, 1) := by decide +kernel
theorem d_Mod_look_131 : decode b_Mod_look 131 = .ok (.goto 4, 3) := by decide +kernel
theorem d_Mod_look_134 : decode b_Mod_look 134 = .ok (.iconst 0, 1) := by decide +kernel
theorem d_Mod_look_135 : decode b_Mod_look 135 = .ok (.iadd, 1) := by decide +kernel
theorem d_Mod_look_136 : decode b_Mod_look 136 = .ok (.istore 4, 2) := by decide +kernel
theorem d_Mod_look_138 : decode b_Mod_look 138 = .ok (.iload 5, 2) := by decide +kernel
theorem d_Mod_look_140 : decode b_Mod_look 140 = .ok (.ifCond .lt 40, 3) := by decide +kernel
theorem d_Mod_look_143 : decode b_Mod_look 143 = .ok (.aload_n 0, 1) := by decide +kernel
theorem d_Mod_look_144 : decode b_Mod_look 144 = .ok (.getfield 20, 3) := by decide +kernel
theorem d_Mod_look_147 : decode b_Mod_look 147 = .ok (.iload 7, 2) := by decide +kernel
theorem d_Mod_look_149 : decode b_Mod_look 149 = .ok (.laload, 1) := by decide +kernel
theorem d_Mod_look_150 : decode b_Mod_look 150 = .ok (.aload_n 0, 1) := by decide +kernel
theorem d_Mod_look_151 : decode b_Mod_look 151 = .ok (.getfield 20, 3) := by decide +kernel
theorem d_Mod_look_154 : decode b_Mod_look 154 = .ok (.bipush 64, 2) := by decide +kernel
theorem d_Mod_look_156 : decode b_Mod_look 156 = .ok (.iload_n 1, 1) := by decide +kernel
theorem d_Mod_look_157 : decode b_Mod_look 157 = .ok (.imul, 1) := by decide +kernel
theorem d_Mod_look_158 : decode b_Mod_look 158 = .ok (.aload_n 0, 1) := by decide +kernel
theorem d_Mod_look_159 : decode b_Mod_look 159 = .ok (.iload_n 1, 1) := by decide +kernel
theorem d_Mod_look_160 : decode b_Mod_look 160 = .ok (.iload 5, 2) := by decide +kernel
theorem d_Mod_look_162 : decode b_Mod_look 162 = .ok (.ifCond .ge 7, 3) := by decide +kernel
theorem d_Mod_look_165 : decode b_Mod_look 165 = .ok (.iconst 0, 1) := by decide +kernel
theorem d_Mod_look_166 : decode b_Mod_look 166 = .ok (.goto 5, 3) := by decide +kernel
theorem d_Mod_look_169 : decode b_Mod_look 169 = .ok (.iload 5, 2) := by decide +kernel
theorem d_Mod_look_171 : decode b_Mod_look 171 = .ok (.invokevirtual 103, 3) := by decide +kernel
theorem d_Mod_look_174 : decode b_Mod_look 174 = .ok (.iadd, 1) := by decide +kernel
theorem d_Mod_look_175 : decode b_Mod_look 175 = .ok (.laload, 1) := by decide +kernel
theorem d_Mod_look_176 : decode b_Mod_look 176 = .ok (.lcmp, 1) := by decide +kernel
theorem d_Mod_look_177 : decode b_Mod_look 177 = .ok (.ifCond .le 8, 3) := by decide +kernel
theorem d_Mod_look_180 : decode b_Mod_look 180 = .ok (.iload 6, 2) := by decide +kernel
theorem d_Mod_look_182 : decode b_Mod_look 182 = .ok (.goto 5, 3) := by decide +kernel
theorem d_Mod_look_185 : decode b_Mod_look 185 = .ok (.iload 5, 2) := by decide +kernel
theorem d_Mod_look_187 : decode b_Mod_look 187 = .ok (.istore 5, 2) := by decide +kernel
theorem d_Mod_look_189 : decode b_Mod_look 189 = .ok (.iinc 6 1, 3) := by decide +kernel
theorem d_Mod_look_192 : decode b_Mod_look 192 = .ok (.goto (-156), 3) := by decide +kernel
theorem d_Mod_look_195 : decode b_Mod_look 195 = .ok (.iload_n 2, 1) := by decide +kernel
theorem d_Mod_look_196 : decode b_Mod_look 196 = .ok (.ifCond .ne 7, 3) := by decide +kernel
theorem d_Mod_look_199 : decode b_Mod_look 199 = .ok (.iload_n 3, 1) := by decide +kernel
theorem d_Mod_look_200 : decode b_Mod_look 200 = .ok (.goto 24, 3) := by decide +kernel
theorem d_Mod_look_203 : decode b_Mod_look 203 = .ok (.iload_n 2, 1) := by decide +kernel
theorem d_Mod_look_204 : decode b_Mod_look 204 = .ok (.iconst 1, 1) := by decide +kernel
theorem d_Mod_look_205 : decode b_Mod_look 205 = .ok (.if_icmp .ne 8, 3) := by decide +kernel
theorem d_Mod_look_208 : decode b_Mod_look 208 = .ok (.iload 4, 2) := by decide +kernel
theorem d_Mod_look_210 : decode b_Mod_look 210 = .ok (.goto 14, 3) := by decide +kernel
theorem d_Mod_look_213 : decode b_Mod_look 213 = .ok (.iload_n 2, 1) := by decide +kernel
theorem d_Mod_look_214 : decode b_Mod_look 214 = .ok (.iconst 2, 1) := by decide +kernel
theorem d_Mod_look_215 : decode b_Mod_look 215 = .ok (.if_icmp .ne 8, 3) := by decide +kernel
theorem d_Mod_look_218 : decode b_Mod_look 218 = .ok (.iload 5, 2) := by decide +kernel
theorem d_Mod_look_220 : decode b_Mod_look 220 = .ok (.goto 4, 3) := by decide +kernel
theorem d_Mod_look_223 : decode b_Mod_look 223 = .ok (.iconst (-1), 1) := by decide +kernel
theorem d_Mod_look_224 : decode b_Mod_look 224 = .ok (.ireturn, 1) := by decide +kernel
theorem d_Law_law_0 : decode code 0 = .ok (.new 8, 3) := by decide +kernel
theorem d_Law_law_3 : decode code 3 = .ok (.dup, 1) := by decide +kernel
theorem d_Law_law_4 : decode code 4 = .ok (.invokespecial 68, 3) := by decide +kernel
theorem d_Law_law_7 : decode code 7 = .ok (.astore_n 1, 1) := by decide +kernel
theorem d_Law_law_8 : decode code 8 = .ok (.new 69, 3) := by decide +kernel
theorem d_Law_law_11 : decode code 11 = .ok (.dup, 1) := by decide +kernel
theorem d_Law_law_12 : decode code 12 = .ok (.invokespecial 71, 3) := by decide +kernel
theorem d_Law_law_15 : decode code 15 = .ok (.astore_n 2, 1) := by decide +kernel
theorem d_Law_law_16 : decode code 16 = .ok (.iconst 1, 1) := by decide +kernel
theorem d_Law_law_17 : decode code 17 = .ok (.newarray .long, 2) := by decide +kernel
theorem d_Law_law_19 : decode code 19 = .ok (.astore_n 3, 1) := by decide +kernel
theorem d_Law_law_20 : decode code 20 = .ok (.iconst 0, 1) := by decide +kernel
theorem d_Law_law_21 : decode code 21 = .ok (.istore 4, 2) := by decide +kernel
theorem d_Law_law_23 : decode code 23 = .ok (.iload 4, 2) := by decide +kernel
theorem d_Law_law_25 : decode code 25 = .ok (.aload_n 0, 1) := by decide +kernel
theorem d_Law_law_26 : decode code 26 = .ok (.arraylength, 1) := by decide +kernel
theorem d_Law_law_27 : decode code 27 = .ok (.bipush 7, 2) := by decide +kernel
theorem d_Law_law_29 : decode code 29 = .ok (.isub, 1) := by decide +kernel
theorem d_Law_law_30 : decode code 30 = .ok (.if_icmp .gt 1462, 3) := by decide +kernel
theorem d_Law_law_33 : decode code 33 = .ok (.aload_n 0, 1) := by decide +kernel
theorem d_Law_law_34 : decode code 34 = .ok (.iload 4, 2) := by decide +kernel
theorem d_Law_law_36 : decode code 36 = .ok (.iaload, 1) := by decide +kernel
theorem d_Law_law_37 : decode code 37 = .ok (.bipush 15, 2) := by decide +kernel
theorem d_Law_law_39 : decode code 39 = .ok (.iand, 1) := by decide +kernel
theorem d_Law_law_40 : decode code 40 = .ok (.tableswitch 1446 0 14 #[76, 241, 406, 493, 580, 699, 787, 874, 910, 1021, 1077, 1156, 1224, 1311, 1378], 76) := by decide +kernel
theorem d_Law_law_116 : decode code 116 = .ok (.aload_n 1, 1) := by decide +kernel
theorem d_Law_law_117 : decode code 117 = .ok (.aload_n 0, 1) := by decide +kernel
theorem d_Law_law_118 : decode code 118 = .ok (.iload 4, 2) := by decide +kernel
theorem d_Law_law_120 : decode code 120 = .ok (.iconst 1, 1) := by decide +kernel
theorem d_Law_law_121 : decode code 121 = .ok (.iadd, 1) := by decide +kernel
theorem d_Law_law_122 : decode code 122 = .ok (.iaload, 1) := by decide +kernel
theorem d_Law_law_123 : decode code 123 = .ok (.aload_n 0, 1) := by decide +kernel
theorem d_Law_law_124 : decode code 124 = .ok (.iload 4, 2) := by decide +kernel
theorem d_Law_law_126 : decode code 126 = .ok (.iconst 2, 1) := by decide +kernel
theorem d_Law_law_127 : decode code 127 = .ok (.iadd, 1) := by decide +kernel
theorem d_Law_law_128 : decode code 128 = .ok (.iaload, 1) := by decide +kernel
theorem d_Law_law_129 : decode code 129 = .ok (.aload_n 0, 1) := by decide +kernel
theorem d_Law_law_130 : decode code 130 = .ok (.iload 4, 2) := by decide +kernel
theorem d_Law_law_132 : decode code 132 = .ok (.iconst 3, 1) := by decide +kernel
theorem d_Law_law_133 : decode code 133 = .ok (.iadd, 1) := by decide +kernel
theorem d_Law_law_134 : decode code 134 = .ok (.iaload, 1) := by decide +kernel
theorem d_Law_law_135 : decode code 135 = .ok (.i2l, 1) := by decide +kernel
theorem d_Law_law_136 : decode code 136 = .ok (.bipush 32, 2) := by decide +kernel
theorem d_Law_law_138 : decode code 138 = .ok (.lshl, 1) := by decide +kernel
theorem d_Law_law_139 : decode code 139 = .ok (.aload_n 0, 1) := by decide +kernel
theorem d_Law_law_140 : decode code 140 = .ok (.iload 4, 2) := by decide +kernel
theorem d_Law_law_142 : decode code 142 = .ok (.iconst 4, 1) := by decide +kernel
theorem d_Law_law_143 : decode code 143 = .ok (.iadd, 1) := by decide +kernel
theorem d_Law_law_144 : decode code 144 = .ok (.iaload, 1) := by decide +kernel
theorem d_Law_law_145 : decode code 145 = .ok (.i2l, 1) := by decide +kernel
theorem d_Law_law_146 : decode code 146 = .ok (.ldc2_w 72, 3) := by decide +kernel
theorem d_Law_law_149 : decode code 149 = .ok (.land, 1) := by decide +kernel
theorem d_Law_law_150 : decode code 150 = .ok (.lor, 1) := by decide +kernel
theorem d_Law_law_151 : decode code 151 = .ok (.aload_n 0, 1) := by decide +kernel
theorem d_Law_law_152 : decode code 152 = .ok (.iload 4, 2) := by decide +kernel
theorem d_Law_law_154 : decode code 154 = .ok (.iconst 5, 1) := by decide +kernel
theorem d_Law_law_155 : decode code 155 = .ok (.iadd, 1) := by decide +kernel
theorem d_Law_law_156 : decode code 156 = .ok (.iaload, 1) := by decide +kernel
theorem d_Law_law_157 : decode code 157 = .ok (.i2l, 1) := by decide +kernel
theorem d_Law_law_158 : decode code 158 = .ok (.bipush 32, 2) := by decide +kernel
theorem d_Law_law_160 : decode code 160 = .ok (.lshl, 1) := by decide +kernel
theorem d_Law_law_161 : decode code 161 = .ok (.aload_n 0, 1) := by decide +kernel
theorem d_Law_law_162 : decode code 162 = .ok (.iload 4, 2) := by decide +kernel
theorem d_Law_law_164 : decode code 164 = .ok (.bipush 6, 2) := by decide +kernel
theorem d_Law_law_166 : decode code 166 = .ok (.iadd, 1) := by decide +kernel
theorem d_Law_law_167 : decode code 167 = .ok (.iaload, 1) := by decide +kernel
theorem d_Law_law_168 : decode code 168 = .ok (.i2l, 1) := by decide +kernel
theorem d_Law_law_169 : decode code 169 = .ok (.ldc2_w 72, 3) := by decide +kernel
theorem d_Law_law_172 : decode code 172 = .ok (.land, 1) := by decide +kernel
theorem d_Law_law_173 : decode code 173 = .ok (.lor, 1) := by decide +kernel
theorem d_Law_law_174 : decode code 174 = .ok (.aload_n 3, 1) := by decide +kernel
theorem d_Law_law_175 : decode code 175 = .ok (.invokestatic 74, 3) := by decide +kernel
theorem d_Law_law_178 : decode code 178 = .ok (.istore 5, 2) := by decide +kernel
theorem d_Law_law_180 : decode code 180 = .ok (.aload_n 2, 1) := by decide +kernel
theorem d_Law_law_181 : decode code 181 = .ok (.aload_n 0, 1) := by decide +kernel
theorem d_Law_law_182 : decode code 182 = .ok (.iload 4, 2) := by decide +kernel
theorem d_Law_law_184 : decode code 184 = .ok (.iconst 1, 1) := by decide +kernel
theorem d_Law_law_185 : decode code 185 = .ok (.iadd, 1) := by decide +kernel
theorem d_Law_law_186 : decode code 186 = .ok (.iaload, 1) := by decide +kernel
theorem d_Law_law_187 : decode code 187 = .ok (.aload_n 0, 1) := by decide +kernel
theorem d_Law_law_188 : decode code 188 = .ok (.iload 4, 2) := by decide +kernel
theorem d_Law_law_190 : decode code 190 = .ok (.iconst 2, 1) := by decide +kernel
theorem d_Law_law_191 : decode code 191 = .ok (.iadd, 1) := by decide +kernel
theorem d_Law_law_192 : decode code 192 = .ok (.iaload, 1) := by decide +kernel
theorem d_Law_law_193 : decode code 193 = .ok (.aload_n 0, 1) := by decide +kernel
theorem d_Law_law_194 : decode code 194 = .ok (.iload 4, 2) := by decide +kernel
theorem d_Law_law_196 : decode code 196 = .ok (.iconst 3, 1) := by decide +kernel
theorem d_Law_law_197 : decode code 197 = .ok (.iadd, 1) := by decide +kernel
theorem d_Law_law_198 : decode code 198 = .ok (.iaload, 1) := by decide +kernel
theorem d_Law_law_199 : decode code 199 = .ok (.i2l, 1) := by decide +kernel
theorem d_Law_law_200 : decode code 200 = .ok (.bipush 32, 2) := by decide +kernel
theorem d_Law_law_202 : decode code 202 = .ok (.lshl, 1) := by decide +kernel
theorem d_Law_law_203 : decode code 203 = .ok (.aload_n 0, 1) := by decide +kernel
theorem d_Law_law_204 : decode code 204 = .ok (.iload 4, 2) := by decide +kernel
theorem d_Law_law_206 : decode code 206 = .ok (.iconst 4, 1) := by decide +kernel
theorem d_Law_law_207 : decode code 207 = .ok (.iadd, 1) := by decide +kernel
theorem d_Law_law_208 : decode code 208 = .ok (.iaload, 1) := by decide +kernel
theorem d_Law_law_209 : decode code 209 = .ok (.i2l, 1) := by decide +kernel
theorem d_Law_law_210 : decode code 210 = .ok (.ldc2_w 72, 3) := by decide +kernel
theorem d_Law_law_213 : decode code 213 = .ok (.land, 1) := by decide +kernel
theorem d_Law_law_214 : decode code 214 = .ok (.lor, 1) := by decide +kernel
theorem d_Law_law_215 : decode code 215 = .ok (.aload_n 0, 1) := by decide +kernel
theorem d_Law_law_216 : decode code 216 = .ok (.iload 4, 2) := by decide +kernel
theorem d_Law_law_218 : decode code 218 = .ok (.iconst 5, 1) := by decide +kernel
theorem d_Law_law_219 : decode code 219 = .ok (.iadd, 1) := by decide +kernel
theorem d_Law_law_220 : decode code 220 = .ok (.iaload, 1) := by decide +kernel
theorem d_Law_law_221 : decode code 221 = .ok (.i2l, 1) := by decide +kernel
theorem d_Law_law_222 : decode code 222 = .ok (.bipush 32, 2) := by decide +kernel
theorem d_Law_law_224 : decode code 224 = .ok (.lshl, 1) := by decide +kernel
theorem d_Law_law_225 : decode code 225 = .ok (.aload_n 0, 1) := by decide +kernel
theorem d_Law_law_226 : decode code 226 = .ok (.iload 4, 2) := by decide +kernel
theorem d_Law_law_228 : decode code 228 = .ok (.bipush 6, 2) := by decide +kernel
theorem d_Law_law_230 : decode code 230 = .ok (.iadd, 1) := by decide +kernel
theorem d_Law_law_231 : decode code 231 = .ok (.iaload, 1) := by decide +kernel
theorem d_Law_law_232 : decode code 232 = .ok (.i2l, 1) := by decide +kernel
theorem d_Law_law_233 : decode code 233 = .ok (.ldc2_w 72, 3) := by decide +kernel
theorem d_Law_law_236 : decode code 236 = .ok (.land, 1) := by decide +kernel
theorem d_Law_law_237 : decode code 237 = .ok (.lor, 1) := by decide +kernel
theorem d_Law_law_238 : decode code 238 = .ok (.invokevirtual 79, 3) := by decide +kernel
theorem d_Law_law_241 : decode code 241 = .ok (.istore 6, 2) := by decide +kernel
theorem d_Law_law_243 : decode code 243 = .ok (.aload_n 2, 1) := by decide +kernel
theorem d_Law_law_244 : decode code 244 = .ok (.invokevirtual 80, 3) := by decide +kernel
theorem d_Law_law_247 : decode code 247 = .ok (.iload 5, 2) := by decide +kernel
theorem d_Law_law_249 : decode code 249 = .ok (.if_icmp .eq 5, 3) := by decide +kernel
theorem d_Law_law_252 : decode code 252 = .ok (.iconst 0, 1) := by decide +kernel
theorem d_Law_law_253 : decode code 253 = .ok (.ireturn, 1) := by decide +kernel
theorem d_Law_law_254 : decode code 254 = .ok (.iload 5, 2) := by decide +kernel
theorem d_Law_law_256 : decode code 256 = .ok (.ifCond .ne 22, 3) := by decide +kernel
theorem d_Law_law_259 : decode code 259 = .ok (.aload_n 3, 1) := by decide +kernel
theorem d_Law_law_260 : decode code 260 = .ok (.iconst 0, 1) := by decide +kernel
theorem d_Law_law_261 : decode code 261 = .ok (.laload, 1) := by decide +kernel
theorem d_Law_law_262 : decode code 262 = .ok (.iload 6, 2) := by decide +kernel
theorem d_Law_law_264 : decode code 264 = .ok (.ifCond .eq 7, 3) := by decide +kernel
theorem d_Law_law_267 : decode code 267 = .ok (.lconst 1, 1) := by decide +kernel
theorem d_Law_law_268 : decode code 268 = .ok (.goto 4, 3) := by decide +kernel
theorem d_Law_law_271 : decode code 271 = .ok (.lconst 0, 1) := by decide +kernel
theorem d_Law_law_272 : decode code 272 = .ok (.lcmp, 1) := by decide +kernel
theorem d_Law_law_273 : decode code 273 = .ok (.ifCond .eq 5, 3) := by decide +kernel
theorem d_Law_law_276 : decode code 276 = .ok (.iconst 0, 1) := by decide +kernel
theorem d_Law_law_277 : decode code 277 = .ok (.ireturn, 1) := by decide +kernel
theorem d_Law_law_278 : decode code 278 = .ok (.goto 1208, 3) := by decide +kernel
theorem d_Law_law_281 : decode code 281 = .ok (.aload_n 1, 1) := by decide +kernel
theorem d_Law_law_282 : decode code 282 = .ok (.aload_n 0, 1) := by decide +kernel
theorem d_Law_law_283 : decode code 283 = .ok (.iload 4, 2) := by decide +kernel
theorem d_Law_law_285 : decode code 285 = .ok (.iconst 1, 1) := by decide +kernel
theorem d_Law_law_286 : decode code 286 = .ok (.iadd, 1) := by decide +kernel
theorem d_Law_law_287 : decode code 287 = .ok (.iaload, 1) := by decide +kernel
theorem d_Law_law_288 : decode code 288 = .ok (.aload_n 0, 1) := by decide +kernel
theorem d_Law_law_289 : decode code 289 = .ok (.iload 4, 2) := by decide +kernel
theorem d_Law_law_291 : decode code 291 = .ok (.iconst 2, 1) := by decide +kernel
theorem d_Law_law_292 : decode code 292 = .ok (.iadd, 1) := by decide +kernel
theorem d_Law_law_293 : decode code 293 = .ok (.iaload, 1) := by decide +kernel
theorem d_Law_law_294 : decode code 294 = .ok (.aload_n 0, 1) := by decide +kernel
theorem d_Law_law_295 : decode code 295 = .ok (.iload 4, 2) := by decide +kernel
theorem d_Law_law_297 : decode code 297 = .ok (.iconst 3, 1) := by decide +kernel
theorem d_Law_law_298 : decode code 298 = .ok (.iadd, 1) := by decide +kernel
theorem d_Law_law_299 : decode code 299 = .ok (.iaload, 1) := by decide +kernel
theorem d_Law_law_300 : decode code 300 = .ok (.i2l, 1) := by decide +kernel
theorem d_Law_law_301 : decode code 301 = .ok (.bipush 32, 2) := by decide +kernel
theorem d_Law_law_303 : decode code 303 = .ok (.lshl, 1) := by decide +kernel
theorem d_Law_law_304 : decode code 304 = .ok (.aload_n 0, 1) := by decide +kernel
theorem d_Law_law_305 : decode code 305 = .ok (.iload 4, 2) := by decide +kernel
theorem d_Law_law_307 : decode code 307 = .ok (.iconst 4, 1) := by decide +kernel
theorem d_Law_law_308 : decode code 308 = .ok (.iadd, 1) := by decide +kernel
theorem d_Law_law_309 : decode code 309 = .ok (.iaload, 1) := by decide +kernel
theorem d_Law_law_310 : decode code 310 = .ok (.i2l, 1) := by decide +kernel
theorem d_Law_law_311 : decode code 311 = .ok (.ldc2_w 72, 3) := by decide +kernel
theorem d_Law_law_314 : decode code 314 = .ok (.land, 1) := by decide +kernel
theorem d_Law_law_315 : decode code 315 = .ok (.lor, 1) := by decide +kernel
theorem d_Law_law_316 : decode code 316 = .ok (.aload_n 0, 1) := by decide +kernel
theorem d_Law_law_317 : decode code 317 = .ok (.iload 4, 2) := by decide +kernel
theorem d_Law_law_319 : decode code 319 = .ok (.iconst 5, 1) := by decide +kernel
theorem d_Law_law_320 : decode code 320 = .ok (.iadd, 1) := by decide +kernel
theorem d_Law_law_321 : decode code 321 = .ok (.iaload, 1) := by decide +kernel
theorem d_Law_law_322 : decode code 322 = .ok (.i2l, 1) := by decide +kernel
theorem d_Law_law_323 : decode code 323 = .ok (.bipush 32, 2) := by decide +kernel
theorem d_Law_law_325 : decode code 325 = .ok (.lshl, 1) := by decide +kernel
theorem d_Law_law_326 : decode code 326 = .ok (.aload_n 0, 1) := by decide +kernel
theorem d_Law_law_327 : decode code 327 = .ok (.iload 4, 2) := by decide +kernel
theorem d_Law_law_329 : decode code 329 = .ok (.bipush 6, 2) := by decide +kernel
theorem d_Law_law_331 : decode code 331 = .ok (.iadd, 1) := by decide +kernel
theorem d_Law_law_332 : decode code 332 = .ok (.iaload, 1) := by decide +kernel
theorem d_Law_law_333 : decode code 333 = .ok (.i2l, 1) := by decide +kernel
theorem d_Law_law_334 : decode code 334 = .ok (.ldc2_w 72, 3) := by decide +kernel
theorem d_Law_law_337 : decode code 337 = .ok (.land, 1) := by decide +kernel
theorem d_Law_law_338 : decode code 338 = .ok (.lor, 1) := by decide +kernel
theorem d_Law_law_339 : decode code 339 = .ok (.aload_n 3, 1) := by decide +kernel
theorem d_Law_law_340 : decode code 340 = .ok (.invokestatic 84, 3) := by decide +kernel
theorem d_Law_law_343 : decode code 343 = .ok (.istore 5, 2) := by decide +kernel
theorem d_Law_law_345 : decode code 345 = .ok (.aload_n 2, 1) := by decide +kernel
theorem d_Law_law_346 : decode code 346 = .ok (.aload_n 0, 1) := by decide +kernel
theorem d_Law_law_347 : decode code 347 = .ok (.iload 4, 2) := by decide +kernel
theorem d_Law_law_349 : decode code 349 = .ok (.iconst 1, 1) := by decide +kernel
theorem d_Law_law_350 : decode code 350 = .ok (.iadd, 1) := by decide +kernel
theorem d_Law_law_351 : decode code 351 = .ok (.iaload, 1) := by decide +kernel
theorem d_Law_law_352 : decode code 352 = .ok (.aload_n 0, 1) := by decide +kernel
theorem d_Law_law_353 : decode code 353 = .ok (.iload 4, 2) := by decide +kernel
theorem d_Law_law_355 : decode code 355 = .ok (.iconst 2, 1) := by decide +kernel
theorem d_Law_law_356 : decode code 356 = .ok (.iadd, 1) := by decide +kernel
theorem d_Law_law_357 : decode code 357 = .ok (.iaload, 1) := by decide +kernel
theorem d_Law_law_358 : decode code 358 = .ok (.aload_n 0, 1) := by decide +kernel
theorem d_Law_law_359 : decode code 359 = .ok (.iload 4, 2) := by decide +kernel
theorem d_Law_law_361 : decode code 361 = .ok (.iconst 3, 1) := by decide +kernel
theorem d_Law_law_362 : decode code 362 = .ok (.iadd, 1) := by decide +kernel
theorem d_Law_law_363 : decode code 363 = .ok (.iaload, 1) := by decide +kernel
theorem d_Law_law_364 : decode code 364 = .ok (.i2l, 1) := by decide +kernel
theorem d_Law_law_365 : decode code 365 = .ok (.bipush 32, 2) := by decide +kernel
theorem d_Law_law_367 : decode code 367 = .ok (.lshl, 1) := by decide +kernel
theorem d_Law_law_368 : decode code 368 = .ok (.aload_n 0, 1) := by decide +kernel
theorem d_Law_law_369 : decode code 369 = .ok (.iload 4, 2) := by decide +kernel
theorem d_Law_law_371 : decode code 371 = .ok (.iconst 4, 1) := by decide +kernel
theorem d_Law_law_372 : decode code 372 = .ok (.iadd, 1) := by decide +kernel
theorem d_Law_law_373 : decode code 373 = .ok (.iaload, 1) := by decide +kernel
theorem d_Law_law_374 : decode code 374 = .ok (.i2l, 1) := by decide +kernel
theorem d_Law_law_375 : decode code 375 = .ok (.ldc2_w 72, 3) := by decide +kernel
theorem d_Law_law_378 : decode code 378 = .ok (.land, 1) := by decide +kernel
theorem d_Law_law_379 : decode code 379 = .ok (.lor, 1) := by decide +kernel
theorem d_Law_law_380 : decode code 380 = .ok (.aload_n 0, 1) := by decide +kernel
theorem d_Law_law_381 : decode code 381 = .ok (.iload 4, 2) := by decide +kernel
theorem d_Law_law_383 : decode code 383 = .ok (.iconst 5, 1) := by decide +kernel
theorem d_Law_law_384 : decode code 384 = .ok (.iadd, 1) := by decide +kernel
theorem d_Law_law_385 : decode code 385 = .ok (.iaload, 1) := by decide +kernel
theorem d_Law_law_386 : decode code 386 = .ok (.i2l, 1) := by decide +kernel
theorem d_Law_law_387 : decode code 387 = .ok (.bipush 32, 2) := by decide +kernel
theorem d_Law_law_389 : decode code 389 = .ok (.lshl, 1) := by decide +kernel
theorem d_Law_law_390 : decode code 390 = .ok (.aload_n 0, 1) := by decide +kernel
theorem d_Law_law_391 : decode code 391 = .ok (.iload 4, 2) := by decide +kernel
theorem d_Law_law_393 : decode code 393 = .ok (.bipush 6, 2) := by decide +kernel
theorem d_Law_law_395 : decode code 395 = .ok (.iadd, 1) := by decide +kernel
theorem d_Law_law_396 : decode code 396 = .ok (.iaload, 1) := by decide +kernel
theorem d_Law_law_397 : decode code 397 = .ok (.i2l, 1) := by decide +kernel
theorem d_Law_law_398 : decode code 398 = .ok (.ldc2_w 72, 3) := by decide +kernel
theorem d_Law_law_401 : decode code 401 = .ok (.land, 1) := by decide +kernel
theorem d_Law_law_402 : decode code 402 = .ok (.lor, 1) := by decide +kernel
theorem d_Law_law_403 : decode code 403 = .ok (.invokevirtual 86, 3) := by decide +kernel
theorem d_Law_law_406 : decode code 406 = .ok (.istore 6, 2) := by decide +kernel
theorem d_Law_law_408 : decode code 408 = .ok (.aload_n 2, 1) := by decide +kernel
theorem d_Law_law_409 : decode code 409 = .ok (.invokevirtual 80, 3) := by decide +kernel
theorem d_Law_law_412 : decode code 412 = .ok (.iload 5, 2) := by decide +kernel
theorem d_Law_law_414 : decode code 414 = .ok (.if_icmp .eq 5, 3) := by decide +kernel
theorem d_Law_law_417 : decode code 417 = .ok (.iconst 0, 1) := by decide +kernel
theorem d_Law_law_418 : decode code 418 = .ok (.ireturn, 1) := by decide +kernel
theorem d_Law_law_419 : decode code 419 = .ok (.iload 5, 2) := by decide +kernel
theorem d_Law_law_421 : decode code 421 = .ok (.ifCond .ne 22, 3) := by decide +kernel
theorem d_Law_law_424 : decode code 424 = .ok (.aload_n 3, 1) := by decide +kernel
theorem d_Law_law_425 : decode code 425 = .ok (.iconst 0, 1) := by decide +kernel
theorem d_Law_law_426 : decode code 426 = .ok (.laload, 1) := by decide +kernel
theorem d_Law_law_427 : decode code 427 = .ok (.iload 6, 2) := by decide +kernel
theorem d_Law_law_429 : decode code 429 = .ok (.ifCond .eq 7, 3) := by decide +kernel
theorem d_Law_law_432 : decode code 432 = .ok (.lconst 1, 1) := by decide +kernel
theorem d_Law_law_433 : decode code 433 = .ok (.goto 4, 3) := by decide +kernel
theorem d_Law_law_436 : decode code 436 = .ok (.lconst 0, 1) := by decide +kernel
theorem d_Law_law_437 : decode code 437 = .ok (.lcmp, 1) := by decide +kernel
theorem d_Law_law_438 : decode code 438 = .ok (.ifCond .eq 5, 3) := by decide +kernel
theorem d_Law_law_441 : decode code 441 = .ok (.iconst 0, 1) := by decide +kernel
theorem d_Law_law_442 : decode code 442 = .ok (.ireturn, 1) := by decide +kernel
theorem d_Law_law_443 : decode code 443 = .ok (.goto 1043, 3) := by decide +kernel
theorem d_Law_law_446 : decode code 446 = .ok (.aload_n 1, 1) := by decide +kernel
theorem d_Law_law_447 : decode code 447 = .ok (.aload_n 0, 1) := by decide +kernel
theorem d_Law_law_448 : decode code 448 = .ok (.iload 4, 2) := by decide +kernel
theorem d_Law_law_450 : decode code 450 = .ok (.iconst 1, 1) := by decide +kernel
theorem d_Law_law_451 : decode code 451 = .ok (.iadd, 1) := by decide +kernel
theorem d_Law_law_452 : decode code 452 = .ok (.iaload, 1) := by decide +kernel
theorem d_Law_law_453 : decode code 453 = .ok (.aload_n 0, 1) := by decide +kernel
theorem d_Law_law_454 : decode code 454 = .ok (.iload 4, 2) := by decide +kernel
theorem d_Law_law_456 : decode code 456 = .ok (.iconst 2, 1) := by decide +kernel
theorem d_Law_law_457 : decode code 457 = .ok (.iadd, 1) := by decide +kernel
theorem d_Law_law_458 : decode code 458 = .ok (.iaload, 1) := by decide +kernel
theorem d_Law_law_459 : decode code 459 = .ok (.aload_n 0, 1) := by decide +kernel
theorem d_Law_law_460 : decode code 460 = .ok (.iload 4, 2) := by decide +kernel
theorem d_Law_law_462 : decode code 462 = .ok (.iconst 3, 1) := by decide +kernel
theorem d_Law_law_463 : decode code 463 = .ok (.iadd, 1) := by decide +kernel
theorem d_Law_law_464 : decode code 464 = .ok (.iaload, 1) := by decide +kernel
theorem d_Law_law_465 : decode code 465 = .ok (.aload_n 3, 1) := by decide +kernel
theorem d_Law_law_466 : decode code 466 = .ok (.invokestatic 87, 3) := by decide +kernel
theorem d_Law_law_469 : decode code 469 = .ok (.istore 5, 2) := by decide +kernel
theorem d_Law_law_471 : decode code 471 = .ok (.aload_n 2, 1) := by decide +kernel
theorem d_Law_law_472 : decode code 472 = .ok (.aload_n 0, 1) := by decide +kernel
theorem d_Law_law_473 : decode code 473 = .ok (.iload 4, 2) := by decide +kernel
theorem d_Law_law_475 : decode code 475 = .ok (.iconst 1, 1) := by decide +kernel
theorem d_Law_law_476 : decode code 476 = .ok (.iadd, 1) := by decide +kernel
theorem d_Law_law_477 : decode code 477 = .ok (.iaload, 1) := by decide +kernel
theorem d_Law_law_478 : decode code 478 = .ok (.aload_n 0, 1) := by decide +kernel
theorem d_Law_law_479 : decode code 479 = .ok (.iload 4, 2) := by decide +kernel
theorem d_Law_law_481 : decode code 481 = .ok (.iconst 2, 1) := by decide +kernel
theorem d_Law_law_482 : decode code 482 = .ok (.iadd, 1) := by decide +kernel
theorem d_Law_law_483 : decode code 483 = .ok (.iaload, 1) := by decide +kernel
theorem d_Law_law_484 : decode code 484 = .ok (.aload_n 0, 1) := by decide +kernel
theorem d_Law_law_485 : decode code 485 = .ok (.iload 4, 2) := by decide +kernel
theorem d_Law_law_487 : decode code 487 = .ok (.iconst 3, 1) := by decide +kernel
theorem d_Law_law_488 : decode code 488 = .ok (.iadd, 1) := by decide +kernel
theorem d_Law_law_489 : decode code 489 = .ok (.iaload, 1) := by decide +kernel
theorem d_Law_law_490 : decode code 490 = .ok (.invokevirtual 90, 3) := by decide +kernel
theorem d_Law_law_493 : decode code 493 = .ok (.istore 6, 2) := by decide +kernel
theorem d_Law_law_495 : decode code 495 = .ok (.aload_n 2, 1) := by decide +kernel
theorem d_Law_law_496 : decode code 496 = .ok (.invokevirtual 80, 3) := by decide +kernel
theorem d_Law_law_499 : decode code 499 = .ok (.iload 5, 2) := by decide +kernel
theorem d_Law_law_501 : decode code 501 = .ok (.if_icmp .eq 5, 3) := by decide +kernel
theorem d_Law_law_504 : decode code 504 = .ok (.iconst 0, 1) := by decide +kernel
theorem d_Law_law_505 : decode code 505 = .ok (.ireturn, 1) := by decide +kernel
theorem d_Law_law_506 : decode code 506 = .ok (.iload 5, 2) := by decide +kernel
theorem d_Law_law_508 : decode code 508 = .ok (.ifCond .ne 22, 3) := by decide +kernel
theorem d_Law_law_511 : decode code 511 = .ok (.aload_n 3, 1) := by decide +kernel
theorem d_Law_law_512 : decode code 512 = .ok (.iconst 0, 1) := by decide +kernel
theorem d_Law_law_513 : decode code 513 = .ok (.laload, 1) := by decide +kernel
theorem d_Law_law_514 : decode code 514 = .ok (.iload 6, 2) := by decide +kernel
theorem d_Law_law_516 : decode code 516 = .ok (.ifCond .eq 7, 3) := by decide +kernel
theorem d_Law_law_519 : decode code 519 = .ok (.lconst 1, 1) := by decide +kernel
theorem d_Law_law_520 : decode code 520 = .ok (.goto 4, 3) := by decide +kernel
theorem d_Law_law_523 : decode code 523 = .ok (.lconst 0, 1) := by decide +kernel
theorem d_Law_law_524 : decode code 524 = .ok (.lcmp, 1) := by decide +kernel
theorem d_Law_law_525 : decode code 525 = .ok (.ifCond .eq 5, 3) := by decide +kernel
theorem d_Law_law_528 : decode code 528 = .ok (.iconst 0, 1) := by decide +kernel
theorem d_Law_law_529 : decode code 529 = .ok (.ireturn, 1) := by decide +kernel
theorem d_Law_law_530 : decode code 530 = .ok (.goto 956, 3) := by decide +kernel
theorem d_Law_law_533 : decode code 533 = .ok (.aload_n 1, 1) := by decide +kernel
theorem d_Law_law_534 : decode code 534 = .ok (.aload_n 0, 1) := by decide +kernel
theorem d_Law_law_535 : decode code 535 = .ok (.iload 4, 2) := by decide +kernel
theorem d_Law_law_537 : decode code 537 = .ok (.iconst 1, 1) := by decide +kernel
theorem d_Law_law_538 : decode code 538 = .ok (.iadd, 1) := by decide +kernel
theorem d_Law_law_539 : decode code 539 = .ok (.iaload, 1) := by decide +kernel
theorem d_Law_law_540 : decode code 540 = .ok (.aload_n 0, 1) := by decide +kernel
theorem d_Law_law_541 : decode code 541 = .ok (.iload 4, 2) := by decide +kernel
theorem d_Law_law_543 : decode code 543 = .ok (.iconst 2, 1) := by decide +kernel
theorem d_Law_law_544 : decode code 544 = .ok (.iadd, 1) := by decide +kernel
theorem d_Law_law_545 : decode code 545 = .ok (.iaload, 1) := by decide +kernel
theorem d_Law_law_546 : decode code 546 = .ok (.aload_n 0, 1) := by decide +kernel
theorem d_Law_law_547 : decode code 547 = .ok (.iload 4, 2) := by decide +kernel
theorem d_Law_law_549 : decode code 549 = .ok (.iconst 3, 1) := by decide +kernel
theorem d_Law_law_550 : decode code 550 = .ok (.iadd, 1) := by decide +kernel
theorem d_Law_law_551 : decode code 551 = .ok (.iaload, 1) := by decide +kernel
theorem d_Law_law_552 : decode code 552 = .ok (.aload_n 3, 1) := by decide +kernel
theorem d_Law_law_553 : decode code 553 = .ok (.invokestatic 91, 3) := by decide +kernel
theorem d_Law_law_556 : decode code 556 = .ok (.istore 5, 2) := by decide +kernel
theorem d_Law_law_558 : decode code 558 = .ok (.aload_n 2, 1) := by decide +kernel
theorem d_Law_law_559 : decode code 559 = .ok (.aload_n 0, 1) := by decide +kernel
theorem d_Law_law_560 : decode code 560 = .ok (.iload 4, 2) := by decide +kernel
theorem d_Law_law_562 : decode code 562 = .ok (.iconst 1, 1) := by decide +kernel
theorem d_Law_law_563 : decode code 563 = .ok (.iadd, 1) := by decide +kernel
theorem d_Law_law_564 : decode code 564 = .ok (.iaload, 1) := by decide +kernel
theorem d_Law_law_565 : decode code 565 = .ok (.aload_n 0, 1) := by decide +kernel
theorem d_Law_law_566 : decode code 566 = .ok (.iload 4, 2) := by decide +kernel
theorem d_Law_law_568 : decode code 568 = .ok (.iconst 2, 1) := by decide +kernel
theorem d_Law_law_569 : decode code 569 = .ok (.iadd, 1) := by decide +kernel
theorem d_Law_law_570 : decode code 570 = .ok (.iaload, 1) := by decide +kernel
theorem d_Law_law_571 : decode code 571 = .ok (.aload_n 0, 1) := by decide +kernel
theorem d_Law_law_572 : decode code 572 = .ok (.iload 4, 2) := by decide +kernel
theorem d_Law_law_574 : decode code 574 = .ok (.iconst 3, 1) := by decide +kernel
theorem d_Law_law_575 : decode code 575 = .ok (.iadd, 1) := by decide +kernel
theorem d_Law_law_576 : decode code 576 = .ok (.iaload, 1) := by decide +kernel
theorem d_Law_law_577 : decode code 577 = .ok (.invokevirtual 93, 3) := by decide +kernel
theorem d_Law_law_580 : decode code 580 = .ok (.istore 6, 2) := by decide +kernel
theorem d_Law_law_582 : decode code 582 = .ok (.aload_n 2, 1) := by decide +kernel
theorem d_Law_law_583 : decode code 583 = .ok (.invokevirtual 80, 3) := by decide +kernel
theorem d_Law_law_586 : decode code 586 = .ok (.iload 5, 2) := by decide +kernel
theorem d_Law_law_588 : decode code 588 = .ok (.if_icmp .eq 5, 3) := by decide +kernel
theorem d_Law_law_591 : decode code 591 = .ok (.iconst 0, 1) := by decide +kernel
theorem d_Law_law_592 : decode code 592 = .ok (.ireturn, 1) := by decide +kernel
theorem d_Law_law_593 : decode code 593 = .ok (.iload 5, 2) := by decide +kernel
theorem d_Law_law_595 : decode code 595 = .ok (.ifCond .ne 22, 3) := by decide +kernel
theorem d_Law_law_598 : decode code 598 = .ok (.aload_n 3, 1) := by decide +kernel
theorem d_Law_law_599 : decode code 599 = .ok (.iconst 0, 1) := by decide +kernel
theorem d_Law_law_600 : decode code 600 = .ok (.laload, 1) := by decide +kernel
theorem d_Law_law_601 : decode code 601 = .ok (.iload 6, 2) := by decide +kernel
theorem d_Law_law_603 : decode code 603 = .ok (.ifCond .eq 7, 3) := by decide +kernel
theorem d_Law_law_606 : decode code 606 = .ok (.lconst 1, 1) := by decide +kernel
theorem d_Law_law_607 : decode code 607 = .ok (.goto 4, 3) := by decide +kernel
theorem d_Law_law_610 : decode code 610 = .ok (.lconst 0, 1) := by decide +kernel
theorem d_Law_law_611 : decode code 611 = .ok (.lcmp, 1) := by decide +kernel
theorem d_Law_law_612 : decode code 612 = .ok (.ifCond .eq 5, 3) := by decide +kernel
theorem d_Law_law_615 : decode code 615 = .ok (.iconst 0, 1) := by decide +kernel
theorem d_Law_law_616 : decode code 616 = .ok (.ireturn, 1) := by decide +kernel
theorem d_Law_law_617 : decode code 617 = .ok (.goto 869, 3) := by decide +kernel
theorem d_Law_law_620 : decode code 620 = .ok (.aload_n 1, 1) := by decide +kernel
theorem d_Law_law_621 : decode code 621 = .ok (.aload_n 0, 1) := by decide +kernel
theorem d_Law_law_622 : decode code 622 = .ok (.iload 4, 2) := by decide +kernel
theorem d_Law_law_624 : decode code 624 = .ok (.iconst 1, 1) := by decide +kernel
theorem d_Law_law_625 : decode code 625 = .ok (.iadd, 1) := by decide +kernel
theorem d_Law_law_626 : decode code 626 = .ok (.iaload, 1) := by decide +kernel
theorem d_Law_law_627 : decode code 627 = .ok (.aload_n 0, 1) := by decide +kernel
theorem d_Law_law_628 : decode code 628 = .ok (.iload 4, 2) := by decide +kernel
theorem d_Law_law_630 : decode code 630 = .ok (.iconst 2, 1) := by decide +kernel
theorem d_Law_law_631 : decode code 631 = .ok (.iadd, 1) := by decide +kernel
theorem d_Law_law_632 : decode code 632 = .ok (.iaload, 1) := by decide +kernel
theorem d_Law_law_633 : decode code 633 = .ok (.i2l, 1) := by decide +kernel
theorem d_Law_law_634 : decode code 634 = .ok (.bipush 32, 2) := by decide +kernel
theorem d_Law_law_636 : decode code 636 = .ok (.lshl, 1) := by decide +kernel
theorem d_Law_law_637 : decode code 637 = .ok (.aload_n 0, 1) := by decide +kernel
theorem d_Law_law_638 : decode code 638 = .ok (.iload 4, 2) := by decide +kernel
theorem d_Law_law_640 : decode code 640 = .ok (.iconst 3, 1) := by decide +kernel
theorem d_Law_law_641 : decode code 641 = .ok (.iadd, 1) := by decide +kernel
theorem d_Law_law_642 : decode code 642 = .ok (.iaload, 1) := by decide +kernel
theorem d_Law_law_643 : decode code 643 = .ok (.i2l, 1) := by decide +kernel
theorem d_Law_law_644 : decode code 644 = .ok (.ldc2_w 72, 3) := by decide +kernel
theorem d_Law_law_647 : decode code 647 = .ok (.land, 1) := by decide +kernel
theorem d_Law_law_648 : decode code 648 = .ok (.lor, 1) := by decide +kernel
theorem d_Law_law_649 : decode code 649 = .ok (.aload_n 0, 1) := by decide +kernel
theorem d_Law_law_650 : decode code 650 = .ok (.iload 4, 2) := by decide +kernel
theorem d_Law_law_652 : decode code 652 = .ok (.iconst 4, 1) := by decide +kernel
theorem d_Law_law_653 : decode code 653 = .ok (.iadd, 1) := by decide +kernel
theorem d_Law_law_654 : decode code 654 = .ok (.iaload, 1) := by decide +kernel
theorem d_Law_law_655 : decode code 655 = .ok (.aload_n 3, 1) := by decide +kernel
theorem d_Law_law_656 : decode code 656 = .ok (.invokestatic 94, 3) := by decide +kernel
theorem d_Law_law_659 : decode code 659 = .ok (.istore 5, 2) := by decide +kernel
theorem d_Law_law_661 : decode code 661 = .ok (.aload_n 2, 1) := by decide +kernel
theorem d_Law_law_662 : decode code 662 = .ok (.aload_n 0, 1) := by decide +kernel
theorem d_Law_law_663 : decode code 663 = .ok (.iload 4, 2) := by decide +kernel
theorem d_Law_law_665 : decode code 665 = .ok (.iconst 1, 1) := by decide +kernel
theorem d_Law_law_666 : decode code 666 = .ok (.iadd, 1) := by decide +kernel
theorem d_Law_law_667 : decode code 667 = .ok (.iaload, 1) := by decide +kernel
theorem d_Law_law_668 : decode code 668 = .ok (.aload_n 0, 1) := by decide +kernel
theorem d_Law_law_669 : decode code 669 = .ok (.iload 4, 2) := by decide +kernel
theorem d_Law_law_671 : decode code 671 = .ok (.iconst 2, 1) := by decide +kernel
theorem d_Law_law_672 : decode code 672 = .ok (.iadd, 1) := by decide +kernel
theorem d_Law_law_673 : decode code 673 = .ok (.iaload, 1) := by decide +kernel
theorem d_Law_law_674 : decode code 674 = .ok (.i2l, 1) := by decide +kernel
theorem d_Law_law_675 : decode code 675 = .ok (.bipush 32, 2) := by decide +kernel
theorem d_Law_law_677 : decode code 677 = .ok (.lshl, 1) := by decide +kernel
theorem d_Law_law_678 : decode code 678 = .ok (.aload_n 0, 1) := by decide +kernel
theorem d_Law_law_679 : decode code 679 = .ok (.iload 4, 2) := by decide +kernel
theorem d_Law_law_681 : decode code 681 = .ok (.iconst 3, 1) := by decide +kernel
theorem d_Law_law_682 : decode code 682 = .ok (.iadd, 1) := by decide +kernel
theorem d_Law_law_683 : decode code 683 = .ok (.iaload, 1) := by decide +kernel
theorem d_Law_law_684 : decode code 684 = .ok (.i2l, 1) := by decide +kernel
theorem d_Law_law_685 : decode code 685 = .ok (.ldc2_w 72, 3) := by decide +kernel
theorem d_Law_law_688 : decode code 688 = .ok (.land, 1) := by decide +kernel
theorem d_Law_law_689 : decode code 689 = .ok (.lor, 1) := by decide +kernel
theorem d_Law_law_690 : decode code 690 = .ok (.aload_n 0, 1) := by decide +kernel
theorem d_Law_law_691 : decode code 691 = .ok (.iload 4, 2) := by decide +kernel
theorem d_Law_law_693 : decode code 693 = .ok (.iconst 4, 1) := by decide +kernel
theorem d_Law_law_694 : decode code 694 = .ok (.iadd, 1) := by decide +kernel
theorem d_Law_law_695 : decode code 695 = .ok (.iaload, 1) := by decide +kernel
theorem d_Law_law_696 : decode code 696 = .ok (.invokevirtual 97, 3) := by decide +kernel
theorem d_Law_law_699 : decode code 699 = .ok (.istore 6, 2) := by decide +kernel
theorem d_Law_law_701 : decode code 701 = .ok (.aload_n 2, 1) := by decide +kernel
theorem d_Law_law_702 : decode code 702 = .ok (.invokevirtual 80, 3) := by decide +kernel
theorem d_Law_law_705 : decode code 705 = .ok (.iload 5, 2) := by decide +kernel
theorem d_Law_law_707 : decode code 707 = .ok (.if_icmp .eq 5, 3) := by decide +kernel
theorem d_Law_law_710 : decode code 710 = .ok (.iconst 0, 1) := by decide +kernel
theorem d_Law_law_711 : decode code 711 = .ok (.ireturn, 1) := by decide +kernel
theorem d_Law_law_712 : decode code 712 = .ok (.iload 5, 2) := by decide +kernel
theorem d_Law_law_714 : decode code 714 = .ok (.ifCond .ne 22, 3) := by decide +kernel
theorem d_Law_law_717 : decode code 717 = .ok (.aload_n 3, 1) := by decide +kernel
theorem d_Law_law_718 : decode code 718 = .ok (.iconst 0, 1) := by decide +kernel
theorem d_Law_law_719 : decode code 719 = .ok (.laload, 1) := by decide +kernel
theorem d_Law_law_720 : decode code 720 = .ok (.iload 6, 2) := by decide +kernel
theorem d_Law_law_722 : decode code 722 = .ok (.ifCond .eq 7, 3) := by decide +kernel
theorem d_Law_law_725 : decode code 725 = .ok (.lconst 1, 1) := by decide +kernel
theorem d_Law_law_726 : decode code 726 = .ok (.goto 4, 3) := by decide +kernel
theorem d_Law_law_729 : decode code 729 = .ok (.lconst 0, 1) := by decide +kernel
theorem d_Law_law_730 : decode code 730 = .ok (.lcmp, 1) := by decide +kernel
theorem d_Law_law_731 : decode code 731 = .ok (.ifCond .eq 5, 3) := by decide +kernel
theorem d_Law_law_734 : decode code 734 = .ok (.iconst 0, 1) := by decide +kernel
theorem d_Law_law_735 : decode code 735 = .ok (.ireturn, 1) := by decide +kernel
theorem d_Law_law_736 : decode code 736 = .ok (.goto 750, 3) := by decide +kernel
theorem d_Law_law_739 : decode code 739 = .ok (.aload_n 1, 1) := by decide +kernel
theorem d_Law_law_740 : decode code 740 = .ok (.aload_n 0, 1) := by decide +kernel
theorem d_Law_law_741 : decode code 741 = .ok (.iload 4, 2) := by decide +kernel
theorem d_Law_law_743 : decode code 743 = .ok (.iconst 1, 1) := by decide +kernel
theorem d_Law_law_744 : decode code 744 = .ok (.iadd, 1) := by decide +kernel
theorem d_Law_law_745 : decode code 745 = .ok (.iaload, 1) := by decide +kernel
theorem d_Law_law_746 : decode code 746 = .ok (.aload_n 0, 1) := by decide +kernel
theorem d_Law_law_747 : decode code 747 = .ok (.iload 4, 2) := by decide +kernel
theorem d_Law_law_749 : decode code 749 = .ok (.iconst 2, 1) := by decide +kernel
theorem d_Law_law_750 : decode code 750 = .ok (.iadd, 1) := by decide +kernel
theorem d_Law_law_751 : decode code 751 = .ok (.iaload, 1) := by decide +kernel
theorem d_Law_law_752 : decode code 752 = .ok (.aload_n 0, 1) := by decide +kernel
theorem d_Law_law_753 : decode code 753 = .ok (.iload 4, 2) := by decide +kernel
theorem d_Law_law_755 : decode code 755 = .ok (.iconst 3, 1) := by decide +kernel
theorem d_Law_law_756 : decode code 756 = .ok (.iadd, 1) := by decide +kernel
theorem d_Law_law_757 : decode code 757 = .ok (.iaload, 1) := by decide +kernel
theorem d_Law_law_758 : decode code 758 = .ok (.ifCond .eq 7, 3) := by decide +kernel
theorem d_Law_law_761 : decode code 761 = .ok (.iconst 1, 1) := by decide +kernel
theorem d_Law_law_762 : decode code 762 = .ok (.goto 4, 3) := by decide +kernel
theorem d_Law_law_765 : decode code 765 = .ok (.iconst 0, 1) := by decide +kernel
theorem d_Law_law_766 : decode code 766 = .ok (.aload_n 0, 1) := by decide +kernel
theorem d_Law_law_767 : decode code 767 = .ok (.iload 4, 2) := by decide +kernel
theorem d_Law_law_769 : decode code 769 = .ok (.iconst 4, 1) := by decide +kernel
theorem d_Law_law_770 : decode code 770 = .ok (.iadd, 1) := by decide +kernel
theorem d_Law_law_771 : decode code 771 = .ok (.iaload, 1) := by decide +kernel
theorem d_Law_law_772 : decode code 772 = .ok (.invokestatic 98, 3) := by decide +kernel
theorem d_Law_law_775 : decode code 775 = .ok (.istore 5, 2) := by decide +kernel
theorem d_Law_law_777 : decode code 777 = .ok (.aload_n 2, 1) := by decide +kernel
theorem d_Law_law_778 : decode code 778 = .ok (.aload_n 0, 1) := by decide +kernel
theorem d_Law_law_779 : decode code 779 = .ok (.iload 4, 2) := by decide +kernel
theorem d_Law_law_781 : decode code 781 = .ok (.iconst 1, 1) := by decide +kernel
theorem d_Law_law_782 : decode code 782 = .ok (.iadd, 1) := by decide +kernel
theorem d_Law_law_783 : decode code 783 = .ok (.iaload, 1) := by decide +kernel
theorem d_Law_law_784 : decode code 784 = .ok (.aload_n 0, 1) := by decide +kernel
theorem d_Law_law_785 : decode code 785 = .ok (.iload 4, 2) := by decide +kernel
theorem d_Law_law_787 : decode code 787 = .ok (.iconst 2, 1) := by decide +kernel
theorem d_Law_law_788 : decode code 788 = .ok (.iadd, 1) := by decide +kernel
theorem d_Law_law_789 : decode code 789 = .ok (.iaload, 1) := by decide +kernel
theorem d_Law_law_790 : decode code 790 = .ok (.aload_n 0, 1) := by decide +kernel
theorem d_Law_law_791 : decode code 791 = .ok (.iload 4, 2) := by decide +kernel
theorem d_Law_law_793 : decode code 793 = .ok (.iconst 3, 1) := by decide +kernel
theorem d_Law_law_794 : decode code 794 = .ok (.iadd, 1) := by decide +kernel
theorem d_Law_law_795 : decode code 795 = .ok (.iaload, 1) := by decide +kernel
theorem d_Law_law_796 : decode code 796 = .ok (.ifCond .eq 7, 3) := by decide +kernel
theorem d_Law_law_799 : decode code 799 = .ok (.iconst 1, 1) := by decide +kernel
theorem d_Law_law_800 : decode code 800 = .ok (.goto 4, 3) := by decide +kernel
theorem d_Law_law_803 : decode code 803 = .ok (.iconst 0, 1) := by decide +kernel
theorem d_Law_law_804 : decode code 804 = .ok (.aload_n 0, 1) := by decide +kernel
theorem d_Law_law_805 : decode code 805 = .ok (.iload 4, 2) := by decide +kernel
theorem d_Law_law_807 : decode code 807 = .ok (.iconst 4, 1) := by decide +kernel
theorem d_Law_law_808 : decode code 808 = .ok (.iadd, 1) := by decide +kernel
theorem d_Law_law_809 : decode code 809 = .ok (.iaload, 1) := by decide +kernel
theorem d_Law_law_810 : decode code 810 = .ok (.invokevirtual 101, 3) := by decide +kernel
theorem d_Law_law_813 : decode code 813 = .ok (.aload_n 2, 1) := by decide +kernel
theorem d_Law_law_814 : decode code 814 = .ok (.invokevirtual 80, 3) := by decide +kernel
theorem d_Law_law_817 : decode code 817 = .ok (.iload 5, 2) := by decide +kernel
theorem d_Law_law_819 : decode code 819 = .ok (.if_icmp .eq 5, 3) := by decide +kernel
theorem d_Law_law_822 : decode code 822 = .ok (.iconst 0, 1) := by decide +kernel
theorem d_Law_law_823 : decode code 823 = .ok (.ireturn, 1) := by decide +kernel
theorem d_Law_law_824 : decode code 824 = .ok (.goto 662, 3) := by decide +kernel
theorem d_Law_law_827 : decode code 827 = .ok (.aload_n 1, 1) := by decide +kernel
theorem d_Law_law_828 : decode code 828 = .ok (.aload_n 0, 1) := by decide +kernel
theorem d_Law_law_829 : decode code 829 = .ok (.iload 4, 2) := by decide +kernel
theorem d_Law_law_831 : decode code 831 = .ok (.iconst 1, 1) := by decide +kernel
theorem d_Law_law_832 : decode code 832 = .ok (.iadd, 1) := by decide +kernel
theorem d_Law_law_833 : decode code 833 = .ok (.iaload, 1) := by decide +kernel
theorem d_Law_law_834 : decode code 834 = .ok (.aload_n 0, 1) := by decide +kernel
theorem d_Law_law_835 : decode code 835 = .ok (.iload 4, 2) := by decide +kernel
theorem d_Law_law_837 : decode code 837 = .ok (.iconst 2, 1) := by decide +kernel
theorem d_Law_law_838 : decode code 838 = .ok (.iadd, 1) := by decide +kernel
theorem d_Law_law_839 : decode code 839 = .ok (.iaload, 1) := by decide +kernel
theorem d_Law_law_840 : decode code 840 = .ok (.aload_n 0, 1) := by decide +kernel
theorem d_Law_law_841 : decode code 841 = .ok (.iload 4, 2) := by decide +kernel
theorem d_Law_law_843 : decode code 843 = .ok (.iconst 3, 1) := by decide +kernel
theorem d_Law_law_844 : decode code 844 = .ok (.iadd, 1) := by decide +kernel
theorem d_Law_law_845 : decode code 845 = .ok (.iaload, 1) := by decide +kernel
theorem d_Law_law_846 : decode code 846 = .ok (.aload_n 3, 1) := by decide +kernel
theorem d_Law_law_847 : decode code 847 = .ok (.invokestatic 102, 3) := by decide +kernel
theorem d_Law_law_850 : decode code 850 = .ok (.istore 5, 2) := by decide +kernel
theorem d_Law_law_852 : decode code 852 = .ok (.aload_n 2, 1) := by decide +kernel
theorem d_Law_law_853 : decode code 853 = .ok (.aload_n 0, 1) := by decide +kernel
theorem d_Law_law_854 : decode code 854 = .ok (.iload 4, 2) := by decide +kernel
theorem d_Law_law_856 : decode code 856 = .ok (.iconst 1, 1) := by decide +kernel
theorem d_Law_law_857 : decode code 857 = .ok (.iadd, 1) := by decide +kernel
theorem d_Law_law_858 : decode code 858 = .ok (.iaload, 1) := by decide +kernel
theorem d_Law_law_859 : decode code 859 = .ok (.aload_n 0, 1) := by decide +kernel
theorem d_Law_law_860 : decode code 860 = .ok (.iload 4, 2) := by decide +kernel
theorem d_Law_law_862 : decode code 862 = .ok (.iconst 2, 1) := by decide +kernel
theorem d_Law_law_863 : decode code 863 = .ok (.iadd, 1) := by decide +kernel
theorem d_Law_law_864 : decode code 864 = .ok (.iaload, 1) := by decide +kernel
theorem d_Law_law_865 : decode code 865 = .ok (.aload_n 0, 1) := by decide +kernel
theorem d_Law_law_866 : decode code 866 = .ok (.iload 4, 2) := by decide +kernel
theorem d_Law_law_868 : decode code 868 = .ok (.iconst 3, 1) := by decide +kernel
theorem d_Law_law_869 : decode code 869 = .ok (.iadd, 1) := by decide +kernel
theorem d_Law_law_870 : decode code 870 = .ok (.iaload, 1) := by decide +kernel
theorem d_Law_law_871 : decode code 871 = .ok (.invokevirtual 104, 3) := by decide +kernel
theorem d_Law_law_874 : decode code 874 = .ok (.istore 6, 2) := by decide +kernel
theorem d_Law_law_876 : decode code 876 = .ok (.aload_n 2, 1) := by decide +kernel
theorem d_Law_law_877 : decode code 877 = .ok (.invokevirtual 80, 3) := by decide +kernel
theorem d_Law_law_880 : decode code 880 = .ok (.iload 5, 2) := by decide +kernel
theorem d_Law_law_882 : decode code 882 = .ok (.if_icmp .eq 5, 3) := by decide +kernel
theorem d_Law_law_885 : decode code 885 = .ok (.iconst 0, 1) := by decide +kernel
theorem d_Law_law_886 : decode code 886 = .ok (.ireturn, 1) := by decide +kernel
theorem d_Law_law_887 : decode code 887 = .ok (.iload 5, 2) := by decide +kernel
theorem d_Law_law_889 : decode code 889 = .ok (.ifCond .ne 22, 3) := by decide +kernel
theorem d_Law_law_892 : decode code 892 = .ok (.aload_n 3, 1) := by decide +kernel
theorem d_Law_law_893 : decode code 893 = .ok (.iconst 0, 1) := by decide +kernel
theorem d_Law_law_894 : decode code 894 = .ok (.laload, 1) := by decide +kernel
theorem d_Law_law_895 : decode code 895 = .ok (.iload 6, 2) := by decide +kernel
theorem d_Law_law_897 : decode code 897 = .ok (.ifCond .eq 7, 3) := by decide +kernel
theorem d_Law_law_900 : decode code 900 = .ok (.lconst 1, 1) := by decide +kernel
theorem d_Law_law_901 : decode code 901 = .ok (.goto 4, 3) := by decide +kernel
theorem d_Law_law_904 : decode code 904 = .ok (.lconst 0, 1) := by decide +kernel
theorem d_Law_law_905 : decode code 905 = .ok (.lcmp, 1) := by decide +kernel
theorem d_Law_law_906 : decode code 906 = .ok (.ifCond .eq 5, 3) := by decide +kernel
theorem d_Law_law_909 : decode code 909 = .ok (.iconst 0, 1) := by decide +kernel
theorem d_Law_law_910 : decode code 910 = .ok (.ireturn, 1) := by decide +kernel
theorem d_Law_law_911 : decode code 911 = .ok (.goto 575, 3) := by decide +kernel
theorem d_Law_law_914 : decode code 914 = .ok (.aload_n 1, 1) := by decide +kernel
theorem d_Law_law_915 : decode code 915 = .ok (.aload_n 0, 1) := by decide +kernel
theorem d_Law_law_916 : decode code 916 = .ok (.iload 4, 2) := by decide +kernel
theorem d_Law_law_918 : decode code 918 = .ok (.iconst 1, 1) := by decide +kernel
theorem d_Law_law_919 : decode code 919 = .ok (.iadd, 1) := by decide +kernel
theorem d_Law_law_920 : decode code 920 = .ok (.iaload, 1) := by decide +kernel
theorem d_Law_law_921 : decode code 921 = .ok (.invokestatic 105, 3) := by decide +kernel
theorem d_Law_law_924 : decode code 924 = .ok (.istore 5, 2) := by decide +kernel
theorem d_Law_law_926 : decode code 926 = .ok (.aload_n 2, 1) := by decide +kernel
theorem d_Law_law_927 : decode code 927 = .ok (.aload_n 0, 1) := by decide +kernel
theorem d_Law_law_928 : decode code 928 = .ok (.iload 4, 2) := by decide +kernel
theorem d_Law_law_930 : decode code 930 = .ok (.iconst 1, 1) := by decide +kernel
theorem d_Law_law_931 : decode code 931 = .ok (.iadd, 1) := by decide +kernel
theorem d_Law_law_932 : decode code 932 = .ok (.iaload, 1) := by decide +kernel
theorem d_Law_law_933 : decode code 933 = .ok (.invokevirtual 108, 3) := by decide +kernel
theorem d_Law_law_936 : decode code 936 = .ok (.aload_n 2, 1) := by decide +kernel
theorem d_Law_law_937 : decode code 937 = .ok (.invokevirtual 80, 3) := by decide +kernel
theorem d_Law_law_940 : decode code 940 = .ok (.iload 5, 2) := by decide +kernel
theorem d_Law_law_942 : decode code 942 = .ok (.if_icmp .eq 5, 3) := by decide +kernel
theorem d_Law_law_945 : decode code 945 = .ok (.iconst 0, 1) := by decide +kernel
theorem d_Law_law_946 : decode code 946 = .ok (.ireturn, 1) := by decide +kernel
theorem d_Law_law_947 : decode code 947 = .ok (.goto 539, 3) := by decide +kernel
theorem d_Law_law_950 : decode code 950 = .ok (.aload_n 1, 1) := by decide +kernel
theorem d_Law_law_951 : decode code 951 = .ok (.aload_n 0, 1) := by decide +kernel
theorem d_Law_law_952 : decode code 952 = .ok (.iload 4, 2) := by decide +kernel
theorem d_Law_law_954 : decode code 954 = .ok (.iconst 1, 1) := by decide +kernel
theorem d_Law_law_955 : decode code 955 = .ok (.iadd, 1) := by decide +kernel
theorem d_Law_law_956 : decode code 956 = .ok (.iaload, 1) := by decide +kernel
theorem d_Law_law_957 : decode code 957 = .ok (.aload_n 0, 1) := by decide +kernel
theorem d_Law_law_958 : decode code 958 = .ok (.iload 4, 2) := by decide +kernel
theorem d_Law_law_960 : decode code 960 = .ok (.iconst 2, 1) := by decide +kernel
theorem d_Law_law_961 : decode code 961 = .ok (.iadd, 1) := by decide +kernel
theorem d_Law_law_962 : decode code 962 = .ok (.iaload, 1) := by decide +kernel
theorem d_Law_law_963 : decode code 963 = .ok (.aload_n 0, 1) := by decide +kernel
theorem d_Law_law_964 : decode code 964 = .ok (.iload 4, 2) := by decide +kernel
theorem d_Law_law_966 : decode code 966 = .ok (.iconst 3, 1) := by decide +kernel
theorem d_Law_law_967 : decode code 967 = .ok (.iadd, 1) := by decide +kernel
theorem d_Law_law_968 : decode code 968 = .ok (.iaload, 1) := by decide +kernel
theorem d_Law_law_969 : decode code 969 = .ok (.i2l, 1) := by decide +kernel
theorem d_Law_law_970 : decode code 970 = .ok (.bipush 32, 2) := by decide +kernel
theorem d_Law_law_972 : decode code 972 = .ok (.lshl, 1) := by decide +kernel
theorem d_Law_law_973 : decode code 973 = .ok (.aload_n 0, 1) := by decide +kernel
theorem d_Law_law_974 : decode code 974 = .ok (.iload 4, 2) := by decide +kernel
theorem d_Law_law_976 : decode code 976 = .ok (.iconst 4, 1) := by decide +kernel
theorem d_Law_law_977 : decode code 977 = .ok (.iadd, 1) := by decide +kernel
theorem d_Law_law_978 : decode code 978 = .ok (.iaload, 1) := by decide +kernel
theorem d_Law_law_979 : decode code 979 = .ok (.i2l, 1) := by decide +kernel
theorem d_Law_law_980 : decode code 980 = .ok (.ldc2_w 72, 3) := by decide +kernel
theorem d_Law_law_983 : decode code 983 = .ok (.land, 1) := by decide +kernel
theorem d_Law_law_984 : decode code 984 = .ok (.lor, 1) := by decide +kernel
theorem d_Law_law_985 : decode code 985 = .ok (.aload_n 3, 1) := by decide +kernel
theorem d_Law_law_986 : decode code 986 = .ok (.invokestatic 109, 3) := by decide +kernel
theorem d_Law_law_989 : decode code 989 = .ok (.istore 5, 2) := by decide +kernel
theorem d_Law_law_991 : decode code 991 = .ok (.aload_n 2, 1) := by decide +kernel
theorem d_Law_law_992 : decode code 992 = .ok (.aload_n 0, 1) := by decide +kernel
theorem d_Law_law_993 : decode code 993 = .ok (.iload 4, 2) := by decide +kernel
theorem d_Law_law_995 : decode code 995 = .ok (.iconst 1, 1) := by decide +kernel
theorem d_Law_law_996 : decode code 996 = .ok (.iadd, 1) := by decide +kernel
theorem d_Law_law_997 : decode code 997 = .ok (.iaload, 1) := by decide +kernel
theorem d_Law_law_998 : decode code 998 = .ok (.aload_n 0, 1) := by decide +kernel
theorem d_Law_law_999 : decode code 999 = .ok (.iload 4, 2) := by decide +kernel
theorem d_Law_law_1001 : decode code 1001 = .ok (.iconst 2, 1) := by decide +kernel
theorem d_Law_law_1002 : decode code 1002 = .ok (.iadd, 1) := by decide +kernel
theorem d_Law_law_1003 : decode code 1003 = .ok (.iaload, 1) := by decide +kernel
theorem d_Law_law_1004 : decode code 1004 = .ok (.aload_n 0, 1) := by decide +kernel
theorem d_Law_law_1005 : decode code 1005 = .ok (.iload 4, 2) := by decide +kernel
theorem d_Law_law_1007 : decode code 1007 = .ok (.iconst 3, 1) := by decide +kernel
theorem d_Law_law_1008 : decode code 1008 = .ok (.iadd, 1) := by decide +kernel
theorem d_Law_law_1009 : decode code 1009 = .ok (.iaload, 1) := by decide +kernel
theorem d_Law_law_1010 : decode code 1010 = .ok (.i2l, 1) := by decide +kernel
theorem d_Law_law_1011 : decode code 1011 = .ok (.bipush 32, 2) := by decide +kernel
theorem d_Law_law_1013 : decode code 1013 = .ok (.lshl, 1) := by decide +kernel
theorem d_Law_law_1014 : decode code 1014 = .ok (.aload_n 0, 1) := by decide +kernel
theorem d_Law_law_1015 : decode code 1015 = .ok (.iload 4, 2) := by decide +kernel
theorem d_Law_law_1017 : decode code 1017 = .ok (.iconst 4, 1) := by decide +kernel
theorem d_Law_law_1018 : decode code 1018 = .ok (.iadd, 1) := by decide +kernel
theorem d_Law_law_1019 : decode code 1019 = .ok (.iaload, 1) := by decide +kernel
theorem d_Law_law_1020 : decode code 1020 = .ok (.i2l, 1) := by decide +kernel
theorem d_Law_law_1021 : decode code 1021 = .ok (.ldc2_w 72, 3) := by decide +kernel
theorem d_Law_law_1024 : decode code 1024 = .ok (.land, 1) := by decide +kernel
theorem d_Law_law_1025 : decode code 1025 = .ok (.lor, 1) := by decide +kernel
theorem d_Law_law_1026 : decode code 1026 = .ok (.invokevirtual 112, 3) := by decide +kernel
theorem d_Law_law_1029 : decode code 1029 = .ok (.lstore 6, 2) := by decide +kernel
theorem d_Law_law_1031 : decode code 1031 = .ok (.aload_n 2, 1) := by decide +kernel
theorem d_Law_law_1032 : decode code 1032 = .ok (.invokevirtual 80, 3) := by decide +kernel
theorem d_Law_law_1035 : decode code 1035 = .ok (.iload 5, 2) := by decide +kernel
theorem d_Law_law_1037 : decode code 1037 = .ok (.if_icmp .eq 5, 3) := by decide +kernel
theorem d_Law_law_1040 : decode code 1040 = .ok (.iconst 0, 1) := by decide +kernel
theorem d_Law_law_1041 : decode code 1041 = .ok (.ireturn, 1) := by decide +kernel
theorem d_Law_law_1042 : decode code 1042 = .ok (.iload 5, 2) := by decide +kernel
theorem d_Law_law_1044 : decode code 1044 = .ok (.ifCond .ne 14, 3) := by decide +kernel
theorem d_Law_law_1047 : decode code 1047 = .ok (.aload_n 3, 1) := by decide +kernel
theorem d_Law_law_1048 : decode code 1048 = .ok (.iconst 0, 1) := by decide +kernel
theorem d_Law_law_1049 : decode code 1049 = .ok (.laload, 1) := by decide +kernel
theorem d_Law_law_1050 : decode code 1050 = .ok (.lload 6, 2) := by decide +kernel
theorem d_Law_law_1052 : decode code 1052 = .ok (.lcmp, 1) := by decide +kernel
theorem d_Law_law_1053 : decode code 1053 = .ok (.ifCond .eq 5, 3) := by decide +kernel
theorem d_Law_law_1056 : decode code 1056 = .ok (.iconst 0, 1) := by decide +kernel
theorem d_Law_law_1057 : decode code 1057 = .ok (.ireturn, 1) := by decide +kernel
theorem d_Law_law_1058 : decode code 1058 = .ok (.goto 428, 3) := by decide +kernel
theorem d_Law_law_1061 : decode code 1061 = .ok (.aload_n 1, 1) := by decide +kernel
theorem d_Law_law_1062 : decode code 1062 = .ok (.aload_n 0, 1) := by decide +kernel
theorem d_Law_law_1063 : decode code 1063 = .ok (.iload 4, 2) := by decide +kernel
theorem d_Law_law_1065 : decode code 1065 = .ok (.iconst 1, 1) := by decide +kernel
theorem d_Law_law_1066 : decode code 1066 = .ok (.iadd, 1) := by decide +kernel
theorem d_Law_law_1067 : decode code 1067 = .ok (.iaload, 1) := by decide +kernel
theorem d_Law_law_1068 : decode code 1068 = .ok (.aload_n 3, 1) := by decide +kernel
theorem d_Law_law_1069 : decode code 1069 = .ok (.invokestatic 113, 3) := by decide +kernel
theorem d_Law_law_1072 : decode code 1072 = .ok (.istore 5, 2) := by decide +kernel
theorem d_Law_law_1074 : decode code 1074 = .ok (.aload_n 2, 1) := by decide +kernel
theorem d_Law_law_1075 : decode code 1075 = .ok (.aload_n 0, 1) := by decide +kernel
theorem d_Law_law_1076 : decode code 1076 = .ok (.iload 4, 2) := by decide +kernel
theorem d_Law_law_1078 : decode code 1078 = .ok (.iconst 1, 1) := by decide +kernel
theorem d_Law_law_1079 : decode code 1079 = .ok (.iadd, 1) := by decide +kernel
theorem d_Law_law_1080 : decode code 1080 = .ok (.iaload, 1) := by decide +kernel
theorem d_Law_law_1081 : decode code 1081 = .ok (.invokevirtual 116, 3) := by decide +kernel
theorem d_Law_law_1084 : decode code 1084 = .ok (.istore 6, 2) := by decide +kernel
theorem d_Law_law_1086 : decode code 1086 = .ok (.aload_n 2, 1) := by decide +kernel
theorem d_Law_law_1087 : decode code 1087 = .ok (.invokevirtual 80, 3) := by decide +kernel
theorem d_Law_law_1090 : decode code 1090 = .ok (.iload 5, 2) := by decide +kernel
theorem d_Law_law_1092 : decode code 1092 = .ok (.if_icmp .eq 5, 3) := by decide +kernel
theorem d_Law_law_1095 : decode code 1095 = .ok (.iconst 0, 1) := by decide +kernel
theorem d_Law_law_1096 : decode code 1096 = .ok (.ireturn, 1) := by decide +kernel
theorem d_Law_law_1097 : decode code 1097 = .ok (.iload 5, 2) := by decide +kernel
theorem d_Law_law_1099 : decode code 1099 = .ok (.ifCond .ne 15, 3) := by decide +kernel
theorem d_Law_law_1102 : decode code 1102 = .ok (.aload_n 3, 1) := by decide +kernel
theorem d_Law_law_1103 : decode code 1103 = .ok (.iconst 0, 1) := by decide +kernel
theorem d_Law_law_1104 : decode code 1104 = .ok (.laload, 1) := by decide +kernel
theorem d_Law_law_1105 : decode code 1105 = .ok (.iload 6, 2) := by decide +kernel
theorem d_Law_law_1107 : decode code 1107 = .ok (.i2l, 1) := by decide +kernel
theorem d_Law_law_1108 : decode code 1108 = .ok (.lcmp, 1) := by decide +kernel
theorem d_Law_law_1109 : decode code 1109 = .ok (.ifCond .eq 5, 3) := by decide +kernel
theorem d_Law_law_1112 : decode code 1112 = .ok (.iconst 0, 1) := by decide +kernel
theorem d_Law_law_1113 : decode code 1113 = .ok (.ireturn, 1) := by decide +kernel
theorem d_Law_law_1114 : decode code 1114 = .ok (.goto 372, 3) := by decide +kernel
theorem d_Law_law_1117 : decode code 1117 = .ok (.aload_n 1, 1) := by decide +kernel
theorem d_Law_law_1118 : decode code 1118 = .ok (.aload_n 0, 1) := by decide +kernel
theorem d_Law_law_1119 : decode code 1119 = .ok (.iload 4, 2) := by decide +kernel
theorem d_Law_law_1121 : decode code 1121 = .ok (.iconst 1, 1) := by decide +kernel
theorem d_Law_law_1122 : decode code 1122 = .ok (.iadd, 1) := by decide +kernel
theorem d_Law_law_1123 : decode code 1123 = .ok (.iaload, 1) := by decide +kernel
theorem d_Law_law_1124 : decode code 1124 = .ok (.aload_n 0, 1) := by decide +kernel
theorem d_Law_law_1125 : decode code 1125 = .ok (.iload 4, 2) := by decide +kernel
theorem d_Law_law_1127 : decode code 1127 = .ok (.iconst 2, 1) := by decide +kernel
theorem d_Law_law_1128 : decode code 1128 = .ok (.iadd, 1) := by decide +kernel
theorem d_Law_law_1129 : decode code 1129 = .ok (.iaload, 1) := by decide +kernel
theorem d_Law_law_1130 : decode code 1130 = .ok (.aload_n 0, 1) := by decide +kernel
theorem d_Law_law_1131 : decode code 1131 = .ok (.iload 4, 2) := by decide +kernel
theorem d_Law_law_1133 : decode code 1133 = .ok (.iconst 3, 1) := by decide +kernel
theorem d_Law_law_1134 : decode code 1134 = .ok (.iadd, 1) := by decide +kernel
theorem d_Law_law_1135 : decode code 1135 = .ok (.iaload, 1) := by decide +kernel
theorem d_Law_law_1136 : decode code 1136 = .ok (.aload_n 3, 1) := by decide +kernel
theorem d_Law_law_1137 : decode code 1137 = .ok (.invokestatic 117, 3) := by decide +kernel
theorem d_Law_law_1140 : decode code 1140 = .ok (.istore 5, 2) := by decide +kernel
theorem d_Law_law_1142 : decode code 1142 = .ok (.aload_n 2, 1) := by decide +kernel
theorem d_Law_law_1143 : decode code 1143 = .ok (.aload_n 0, 1) := by decide +kernel
theorem d_Law_law_1144 : decode code 1144 = .ok (.iload 4, 2) := by decide +kernel
theorem d_Law_law_1146 : decode code 1146 = .ok (.iconst 1, 1) := by decide +kernel
theorem d_Law_law_1147 : decode code 1147 = .ok (.iadd, 1) := by decide +kernel
theorem d_Law_law_1148 : decode code 1148 = .ok (.iaload, 1) := by decide +kernel
theorem d_Law_law_1149 : decode code 1149 = .ok (.aload_n 0, 1) := by decide +kernel
theorem d_Law_law_1150 : decode code 1150 = .ok (.iload 4, 2) := by decide +kernel
theorem d_Law_law_1152 : decode code 1152 = .ok (.iconst 2, 1) := by decide +kernel
theorem d_Law_law_1153 : decode code 1153 = .ok (.iadd, 1) := by decide +kernel
theorem d_Law_law_1154 : decode code 1154 = .ok (.iaload, 1) := by decide +kernel
theorem d_Law_law_1155 : decode code 1155 = .ok (.aload_n 0, 1) := by decide +kernel
theorem d_Law_law_1156 : decode code 1156 = .ok (.iload 4, 2) := by decide +kernel
theorem d_Law_law_1158 : decode code 1158 = .ok (.iconst 3, 1) := by decide +kernel
theorem d_Law_law_1159 : decode code 1159 = .ok (.iadd, 1) := by decide +kernel
theorem d_Law_law_1160 : decode code 1160 = .ok (.iaload, 1) := by decide +kernel
theorem d_Law_law_1161 : decode code 1161 = .ok (.invokevirtual 119, 3) := by decide +kernel
theorem d_Law_law_1164 : decode code 1164 = .ok (.lstore 6, 2) := by decide +kernel
theorem d_Law_law_1166 : decode code 1166 = .ok (.aload_n 2, 1) := by decide +kernel
theorem d_Law_law_1167 : decode code 1167 = .ok (.invokevirtual 80, 3) := by decide +kernel
theorem d_Law_law_1170 : decode code 1170 = .ok (.iload 5, 2) := by decide +kernel
theorem d_Law_law_1172 : decode code 1172 = .ok (.if_icmp .eq 5, 3) := by decide +kernel
theorem d_Law_law_1175 : decode code 1175 = .ok (.iconst 0, 1) := by decide +kernel
theorem d_Law_law_1176 : decode code 1176 = .ok (.ireturn, 1) := by decide +kernel
theorem d_Law_law_1177 : decode code 1177 = .ok (.iload 5, 2) := by decide +kernel
theorem d_Law_law_1179 : decode code 1179 = .ok (.ifCond .ne 14, 3) := by decide +kernel
theorem d_Law_law_1182 : decode code 1182 = .ok (.aload_n 3, 1) := by decide +kernel
theorem d_Law_law_1183 : decode code 1183 = .ok (.iconst 0, 1) := by decide +kernel
theorem d_Law_law_1184 : decode code 1184 = .ok (.laload, 1) := by decide +kernel
theorem d_Law_law_1185 : decode code 1185 = .ok (.lload 6, 2) := by decide +kernel
theorem d_Law_law_1187 : decode code 1187 = .ok (.lcmp, 1) := by decide +kernel
theorem d_Law_law_1188 : decode code 1188 = .ok (.ifCond .eq 5, 3) := by decide +kernel
theorem d_Law_law_1191 : decode code 1191 = .ok (.iconst 0, 1) := by decide +kernel
theorem d_Law_law_1192 : decode code 1192 = .ok (.ireturn, 1) := by decide +kernel
theorem d_Law_law_1193 : decode code 1193 = .ok (.goto 293, 3) := by decide +kernel
theorem d_Law_law_1196 : decode code 1196 = .ok (.aload_n 1, 1) := by decide +kernel
theorem d_Law_law_1197 : decode code 1197 = .ok (.aload_n 0, 1) := by decide +kernel
theorem d_Law_law_1198 : decode code 1198 = .ok (.iload 4, 2) := by decide +kernel
theorem d_Law_law_1200 : decode code 1200 = .ok (.iconst 1, 1) := by decide +kernel
theorem d_Law_law_1201 : decode code 1201 = .ok (.iadd, 1) := by decide +kernel
theorem d_Law_law_1202 : decode code 1202 = .ok (.iaload, 1) := by decide +kernel
theorem d_Law_law_1203 : decode code 1203 = .ok (.aload_n 0, 1) := by decide +kernel
theorem d_Law_law_1204 : decode code 1204 = .ok (.iload 4, 2) := by decide +kernel
theorem d_Law_law_1206 : decode code 1206 = .ok (.iconst 2, 1) := by decide +kernel
theorem d_Law_law_1207 : decode code 1207 = .ok (.iadd, 1) := by decide +kernel
theorem d_Law_law_1208 : decode code 1208 = .ok (.iaload, 1) := by decide +kernel
theorem d_Law_law_1209 : decode code 1209 = .ok (.aload_n 3, 1) := by decide +kernel
theorem d_Law_law_1210 : decode code 1210 = .ok (.invokestatic 120, 3) := by decide +kernel
theorem d_Law_law_1213 : decode code 1213 = .ok (.istore 5, 2) := by decide +kernel
theorem d_Law_law_1215 : decode code 1215 = .ok (.aload_n 2, 1) := by decide +kernel
theorem d_Law_law_1216 : decode code 1216 = .ok (.aload_n 0, 1) := by decide +kernel
theorem d_Law_law_1217 : decode code 1217 = .ok (.iload 4, 2) := by decide +kernel
theorem d_Law_law_1219 : decode code 1219 = .ok (.iconst 1, 1) := by decide +kernel
theorem d_Law_law_1220 : decode code 1220 = .ok (.iadd, 1) := by decide +kernel
theorem d_Law_law_1221 : decode code 1221 = .ok (.iaload, 1) := by decide +kernel
theorem d_Law_law_1222 : decode code 1222 = .ok (.aload_n 0, 1) := by decide +kernel
theorem d_Law_law_1223 : decode code 1223 = .ok (.iload 4, 2) := by decide +kernel
theorem d_Law_law_1225 : decode code 1225 = .ok (.iconst 2, 1) := by decide +kernel
theorem d_Law_law_1226 : decode code 1226 = .ok (.iadd, 1) := by decide +kernel
theorem d_Law_law_1227 : decode code 1227 = .ok (.iaload, 1) := by decide +kernel
theorem d_Law_law_1228 : decode code 1228 = .ok (.invokevirtual 123, 3) := by decide +kernel
theorem d_Law_law_1231 : decode code 1231 = .ok (.istore 6, 2) := by decide +kernel
theorem d_Law_law_1233 : decode code 1233 = .ok (.aload_n 2, 1) := by decide +kernel
theorem d_Law_law_1234 : decode code 1234 = .ok (.invokevirtual 80, 3) := by decide +kernel
theorem d_Law_law_1237 : decode code 1237 = .ok (.iload 5, 2) := by decide +kernel
theorem d_Law_law_1239 : decode code 1239 = .ok (.if_icmp .eq 5, 3) := by decide +kernel
theorem d_Law_law_1242 : decode code 1242 = .ok (.iconst 0, 1) := by decide +kernel
theorem d_Law_law_1243 : decode code 1243 = .ok (.ireturn, 1) := by decide +kernel
theorem d_Law_law_1244 : decode code 1244 = .ok (.iload 5, 2) := by decide +kernel
theorem d_Law_law_1246 : decode code 1246 = .ok (.ifCond .ne 15, 3) := by decide +kernel
theorem d_Law_law_1249 : decode code 1249 = .ok (.aload_n 3, 1) := by decide +kernel
theorem d_Law_law_1250 : decode code 1250 = .ok (.iconst 0, 1) := by decide +kernel
theorem d_Law_law_1251 : decode code 1251 = .ok (.laload, 1) := by decide +kernel
theorem d_Law_law_1252 : decode code 1252 = .ok (.iload 6, 2) := by decide +kernel
theorem d_Law_law_1254 : decode code 1254 = .ok (.i2l, 1) := by decide +kernel
theorem d_Law_law_1255 : decode code 1255 = .ok (.lcmp, 1) := by decide +kernel
theorem d_Law_law_1256 : decode code 1256 = .ok (.ifCond .eq 5, 3) := by decide +kernel
theorem d_Law_law_1259 : decode code 1259 = .ok (.iconst 0, 1) := by decide +kernel
theorem d_Law_law_1260 : decode code 1260 = .ok (.ireturn, 1) := by decide +kernel
theorem d_Law_law_1261 : decode code 1261 = .ok (.goto 225, 3) := by decide +kernel
theorem d_Law_law_1264 : decode code 1264 = .ok (.aload_n 1, 1) := by decide +kernel
theorem d_Law_law_1265 : decode code 1265 = .ok (.aload_n 0, 1) := by decide +kernel
theorem d_Law_law_1266 : decode code 1266 = .ok (.iload 4, 2) := by decide +kernel
theorem d_Law_law_1268 : decode code 1268 = .ok (.iconst 1, 1) := by decide +kernel
theorem d_Law_law_1269 : decode code 1269 = .ok (.iadd, 1) := by decide +kernel
theorem d_Law_law_1270 : decode code 1270 = .ok (.iaload, 1) := by decide +kernel
theorem d_Law_law_1271 : decode code 1271 = .ok (.aload_n 0, 1) := by decide +kernel
theorem d_Law_law_1272 : decode code 1272 = .ok (.iload 4, 2) := by decide +kernel
theorem d_Law_law_1274 : decode code 1274 = .ok (.iconst 2, 1) := by decide +kernel
theorem d_Law_law_1275 : decode code 1275 = .ok (.iadd, 1) := by decide +kernel
theorem d_Law_law_1276 : decode code 1276 = .ok (.iaload, 1) := by decide +kernel
theorem d_Law_law_1277 : decode code 1277 = .ok (.aload_n 0, 1) := by decide +kernel
theorem d_Law_law_1278 : decode code 1278 = .ok (.iload 4, 2) := by decide +kernel
theorem d_Law_law_1280 : decode code 1280 = .ok (.iconst 3, 1) := by decide +kernel
theorem d_Law_law_1281 : decode code 1281 = .ok (.iadd, 1) := by decide +kernel
theorem d_Law_law_1282 : decode code 1282 = .ok (.iaload, 1) := by decide +kernel
theorem d_Law_law_1283 : decode code 1283 = .ok (.aload_n 3, 1) := by decide +kernel
theorem d_Law_law_1284 : decode code 1284 = .ok (.invokestatic 124, 3) := by decide +kernel
theorem d_Law_law_1287 : decode code 1287 = .ok (.istore 5, 2) := by decide +kernel
theorem d_Law_law_1289 : decode code 1289 = .ok (.aload_n 2, 1) := by decide +kernel
theorem d_Law_law_1290 : decode code 1290 = .ok (.aload_n 0, 1) := by decide +kernel
theorem d_Law_law_1291 : decode code 1291 = .ok (.iload 4, 2) := by decide +kernel
theorem d_Law_law_1293 : decode code 1293 = .ok (.iconst 1, 1) := by decide +kernel
theorem d_Law_law_1294 : decode code 1294 = .ok (.iadd, 1) := by decide +kernel
theorem d_Law_law_1295 : decode code 1295 = .ok (.iaload, 1) := by decide +kernel
theorem d_Law_law_1296 : decode code 1296 = .ok (.aload_n 0, 1) := by decide +kernel
theorem d_Law_law_1297 : decode code 1297 = .ok (.iload 4, 2) := by decide +kernel
theorem d_Law_law_1299 : decode code 1299 = .ok (.iconst 2, 1) := by decide +kernel
theorem d_Law_law_1300 : decode code 1300 = .ok (.iadd, 1) := by decide +kernel
theorem d_Law_law_1301 : decode code 1301 = .ok (.iaload, 1) := by decide +kernel
theorem d_Law_law_1302 : decode code 1302 = .ok (.aload_n 0, 1) := by decide +kernel
theorem d_Law_law_1303 : decode code 1303 = .ok (.iload 4, 2) := by decide +kernel
theorem d_Law_law_1305 : decode code 1305 = .ok (.iconst 3, 1) := by decide +kernel
theorem d_Law_law_1306 : decode code 1306 = .ok (.iadd, 1) := by decide +kernel
theorem d_Law_law_1307 : decode code 1307 = .ok (.iaload, 1) := by decide +kernel
theorem d_Law_law_1308 : decode code 1308 = .ok (.invokevirtual 126, 3) := by decide +kernel
theorem d_Law_law_1311 : decode code 1311 = .ok (.istore 6, 2) := by decide +kernel
theorem d_Law_law_1313 : decode code 1313 = .ok (.aload_n 2, 1) := by decide +kernel
theorem d_Law_law_1314 : decode code 1314 = .ok (.invokevirtual 80, 3) := by decide +kernel
theorem d_Law_law_1317 : decode code 1317 = .ok (.iload 5, 2) := by decide +kernel
theorem d_Law_law_1319 : decode code 1319 = .ok (.if_icmp .eq 5, 3) := by decide +kernel
theorem d_Law_law_1322 : decode code 1322 = .ok (.iconst 0, 1) := by decide +kernel
theorem d_Law_law_1323 : decode code 1323 = .ok (.ireturn, 1) := by decide +kernel
theorem d_Law_law_1324 : decode code 1324 = .ok (.iload 5, 2) := by decide +kernel
theorem d_Law_law_1326 : decode code 1326 = .ok (.ifCond .ne 22, 3) := by decide +kernel
theorem d_Law_law_1329 : decode code 1329 = .ok (.aload_n 3, 1) := by decide +kernel
theorem d_Law_law_1330 : decode code 1330 = .ok (.iconst 0, 1) := by decide +kernel
theorem d_Law_law_1331 : decode code 1331 = .ok (.laload, 1) := by decide +kernel
theorem d_Law_law_1332 : decode code 1332 = .ok (.iload 6, 2) := by decide +kernel
theorem d_Law_law_1334 : decode code 1334 = .ok (.ifCond .eq 7, 3) := by decide +kernel
theorem d_Law_law_1337 : decode code 1337 = .ok (.lconst 1, 1) := by decide +kernel
theorem d_Law_law_1338 : decode code 1338 = .ok (.goto 4, 3) := by decide +kernel
theorem d_Law_law_1341 : decode code 1341 = .ok (.lconst 0, 1) := by decide +kernel
theorem d_Law_law_1342 : decode code 1342 = .ok (.lcmp, 1) := by decide +kernel
theorem d_Law_law_1343 : decode code 1343 = .ok (.ifCond .eq 5, 3) := by decide +kernel
theorem d_Law_law_1346 : decode code 1346 = .ok (.iconst 0, 1) := by decide +kernel
theorem d_Law_law_1347 : decode code 1347 = .ok (.ireturn, 1) := by decide +kernel
theorem d_Law_law_1348 : decode code 1348 = .ok (.goto 138, 3) := by decide +kernel
theorem d_Law_law_1351 : decode code 1351 = .ok (.aload_n 1, 1) := by decide +kernel
theorem d_Law_law_1352 : decode code 1352 = .ok (.aload_n 0, 1) := by decide +kernel
theorem d_Law_law_1353 : decode code 1353 = .ok (.iload 4, 2) := by decide +kernel
theorem d_Law_law_1355 : decode code 1355 = .ok (.iconst 1, 1) := by decide +kernel
theorem d_Law_law_1356 : decode code 1356 = .ok (.iadd, 1) := by decide +kernel
theorem d_Law_law_1357 : decode code 1357 = .ok (.iaload, 1) := by decide +kernel
theorem d_Law_law_1358 : decode code 1358 = .ok (.aload_n 0, 1) := by decide +kernel
theorem d_Law_law_1359 : decode code 1359 = .ok (.iload 4, 2) := by decide +kernel
theorem d_Law_law_1361 : decode code 1361 = .ok (.iconst 2, 1) := by decide +kernel
theorem d_Law_law_1362 : decode code 1362 = .ok (.iadd, 1) := by decide +kernel
theorem d_Law_law_1363 : decode code 1363 = .ok (.iaload, 1) := by decide +kernel
theorem d_Law_law_1364 : decode code 1364 = .ok (.aload_n 3, 1) := by decide +kernel
theorem d_Law_law_1365 : decode code 1365 = .ok (.invokestatic 127, 3) := by decide +kernel
theorem d_Law_law_1368 : decode code 1368 = .ok (.istore 5, 2) := by decide +kernel
theorem d_Law_law_1370 : decode code 1370 = .ok (.aload_n 2, 1) := by decide +kernel
theorem d_Law_law_1371 : decode code 1371 = .ok (.aload_n 0, 1) := by decide +kernel
theorem d_Law_law_1372 : decode code 1372 = .ok (.iload 4, 2) := by decide +kernel
theorem d_Law_law_1374 : decode code 1374 = .ok (.iconst 1, 1) := by decide +kernel
theorem d_Law_law_1375 : decode code 1375 = .ok (.iadd, 1) := by decide +kernel
theorem d_Law_law_1376 : decode code 1376 = .ok (.iaload, 1) := by decide +kernel
theorem d_Law_law_1377 : decode code 1377 = .ok (.aload_n 0, 1) := by decide +kernel
theorem d_Law_law_1378 : decode code 1378 = .ok (.iload 4, 2) := by decide +kernel
theorem d_Law_law_1380 : decode code 1380 = .ok (.iconst 2, 1) := by decide +kernel
theorem d_Law_law_1381 : decode code 1381 = .ok (.iadd, 1) := by decide +kernel
theorem d_Law_law_1382 : decode code 1382 = .ok (.iaload, 1) := by decide +kernel
theorem d_Law_law_1383 : decode code 1383 = .ok (.invokevirtual 129, 3) := by decide +kernel
theorem d_Law_law_1386 : decode code 1386 = .ok (.lstore 6, 2) := by decide +kernel
theorem d_Law_law_1388 : decode code 1388 = .ok (.aload_n 2, 1) := by decide +kernel
theorem d_Law_law_1389 : decode code 1389 = .ok (.invokevirtual 80, 3) := by decide +kernel
theorem d_Law_law_1392 : decode code 1392 = .ok (.iload 5, 2) := by decide +kernel
theorem d_Law_law_1394 : decode code 1394 = .ok (.if_icmp .eq 5, 3) := by decide +kernel
theorem d_Law_law_1397 : decode code 1397 = .ok (.iconst 0, 1) := by decide +kernel
theorem d_Law_law_1398 : decode code 1398 = .ok (.ireturn, 1) := by decide +kernel
theorem d_Law_law_1399 : decode code 1399 = .ok (.iload 5, 2) := by decide +kernel
theorem d_Law_law_1401 : decode code 1401 = .ok (.ifCond .ne 14, 3) := by decide +kernel
theorem d_Law_law_1404 : decode code 1404 = .ok (.aload_n 3, 1) := by decide +kernel
theorem d_Law_law_1405 : decode code 1405 = .ok (.iconst 0, 1) := by decide +kernel
theorem d_Law_law_1406 : decode code 1406 = .ok (.laload, 1) := by decide +kernel
theorem d_Law_law_1407 : decode code 1407 = .ok (.lload 6, 2) := by decide +kernel
theorem d_Law_law_1409 : decode code 1409 = .ok (.lcmp, 1) := by decide +kernel
theorem d_Law_law_1410 : decode code 1410 = .ok (.ifCond .eq 5, 3) := by decide +kernel
theorem d_Law_law_1413 : decode code 1413 = .ok (.iconst 0, 1) := by decide +kernel
theorem d_Law_law_1414 : decode code 1414 = .ok (.ireturn, 1) := by decide +kernel
theorem d_Law_law_1415 : decode code 1415 = .ok (.goto 71, 3) := by decide +kernel
theorem d_Law_law_1418 : decode code 1418 = .ok (.aload_n 1, 1) := by decide +kernel
theorem d_Law_law_1419 : decode code 1419 = .ok (.aload_n 0, 1) := by decide +kernel
theorem d_Law_law_1420 : decode code 1420 = .ok (.iload 4, 2) := by decide +kernel
theorem d_Law_law_1422 : decode code 1422 = .ok (.iconst 1, 1) := by decide +kernel
theorem d_Law_law_1423 : decode code 1423 = .ok (.iadd, 1) := by decide +kernel
theorem d_Law_law_1424 : decode code 1424 = .ok (.iaload, 1) := by decide +kernel
theorem d_Law_law_1425 : decode code 1425 = .ok (.aload_n 0, 1) := by decide +kernel
theorem d_Law_law_1426 : decode code 1426 = .ok (.iload 4, 2) := by decide +kernel
theorem d_Law_law_1428 : decode code 1428 = .ok (.iconst 2, 1) := by decide +kernel
theorem d_Law_law_1429 : decode code 1429 = .ok (.iadd, 1) := by decide +kernel
theorem d_Law_law_1430 : decode code 1430 = .ok (.iaload, 1) := by decide +kernel
theorem d_Law_law_1431 : decode code 1431 = .ok (.aload_n 3, 1) := by decide +kernel
theorem d_Law_law_1432 : decode code 1432 = .ok (.invokestatic 130, 3) := by decide +kernel
theorem d_Law_law_1435 : decode code 1435 = .ok (.istore 5, 2) := by decide +kernel
theorem d_Law_law_1437 : decode code 1437 = .ok (.aload_n 2, 1) := by decide +kernel
theorem d_Law_law_1438 : decode code 1438 = .ok (.aload_n 0, 1) := by decide +kernel
theorem d_Law_law_1439 : decode code 1439 = .ok (.iload 4, 2) := by decide +kernel
theorem d_Law_law_1441 : decode code 1441 = .ok (.iconst 1, 1) := by decide +kernel
theorem d_Law_law_1442 : decode code 1442 = .ok (.iadd, 1) := by decide +kernel
theorem d_Law_law_1443 : decode code 1443 = .ok (.iaload, 1) := by decide +kernel
theorem d_Law_law_1444 : decode code 1444 = .ok (.aload_n 0, 1) := by decide +kernel
theorem d_Law_law_1445 : decode code 1445 = .ok (.iload 4, 2) := by decide +kernel
theorem d_Law_law_1447 : decode code 1447 = .ok (.iconst 2, 1) := by decide +kernel
theorem d_Law_law_1448 : decode code 1448 = .ok (.iadd, 1) := by decide +kernel
theorem d_Law_law_1449 : decode code 1449 = .ok (.iaload, 1) := by decide +kernel
theorem d_Law_law_1450 : decode code 1450 = .ok (.invokevirtual 132, 3) := by decide +kernel
theorem d_Law_law_1453 : decode code 1453 = .ok (.istore 6, 2) := by decide +kernel
theorem d_Law_law_1455 : decode code 1455 = .ok (.aload_n 2, 1) := by decide +kernel
theorem d_Law_law_1456 : decode code 1456 = .ok (.invokevirtual 80, 3) := by decide +kernel
theorem d_Law_law_1459 : decode code 1459 = .ok (.iload 5, 2) := by decide +kernel
theorem d_Law_law_1461 : decode code 1461 = .ok (.if_icmp .eq 5, 3) := by decide +kernel
theorem d_Law_law_1464 : decode code 1464 = .ok (.iconst 0, 1) := by decide +kernel
theorem d_Law_law_1465 : decode code 1465 = .ok (.ireturn, 1) := by decide +kernel
theorem d_Law_law_1466 : decode code 1466 = .ok (.iload 5, 2) := by decide +kernel
theorem d_Law_law_1468 : decode code 1468 = .ok (.ifCond .ne 15, 3) := by decide +kernel
theorem d_Law_law_1471 : decode code 1471 = .ok (.aload_n 3, 1) := by decide +kernel
theorem d_Law_law_1472 : decode code 1472 = .ok (.iconst 0, 1) := by decide +kernel
theorem d_Law_law_1473 : decode code 1473 = .ok (.laload, 1) := by decide +kernel
theorem d_Law_law_1474 : decode code 1474 = .ok (.iload 6, 2) := by decide +kernel
theorem d_Law_law_1476 : decode code 1476 = .ok (.i2l, 1) := by decide +kernel
theorem d_Law_law_1477 : decode code 1477 = .ok (.lcmp, 1) := by decide +kernel
theorem d_Law_law_1478 : decode code 1478 = .ok (.ifCond .eq 5, 3) := by decide +kernel
theorem d_Law_law_1481 : decode code 1481 = .ok (.iconst 0, 1) := by decide +kernel
theorem d_Law_law_1482 : decode code 1482 = .ok (.ireturn, 1) := by decide +kernel
theorem d_Law_law_1483 : decode code 1483 = .ok (.goto 3, 3) := by decide +kernel
theorem d_Law_law_1486 : decode code 1486 = .ok (.iinc 4 7, 3) := by decide +kernel
theorem d_Law_law_1489 : decode code 1489 = .ok (.goto (-1466), 3) := by decide +kernel
theorem d_Law_law_1492 : decode code 1492 = .ok (.iconst 1, 1) := by decide +kernel
theorem d_Law_law_1493 : decode code 1493 = .ok (.ireturn, 1) := by decide +kernel
end
section
/-! KINDS as numbers; enumerations of a BAG's KINDS; counting. Pure rows: no machine here. -/
def kv (p : Int32) (n : Int64) : Int := p.toInt * 18446744073709551616 + (n + (-9223372036854775808)).toInt
theorem kv_lt {p q : Int32} {n m : Int64} : kv p n < kv q m ↔ (p < q ∨ (p = q ∧ n + (-9223372036854775808) < m + (-9223372036854775808))) := by
  have a := (n + (-9223372036854775808)).toInt_lt
  have b := (n + (-9223372036854775808)).le_toInt
  have a' := (m + (-9223372036854775808)).toInt_lt
  have b' := (m + (-9223372036854775808)).le_toInt
  rw [Int32.lt_iff_toInt_lt, Int64.lt_iff_toInt_lt, ← Int32.toInt_inj]
  unfold kv
  omega
theorem kv_inj {p q : Int32} {n m : Int64} : kv p n = kv q m ↔ (p = q ∧ n = m) := by
  constructor
  · intro h
    have a := (n + (-9223372036854775808)).toInt_lt
    have b := (n + (-9223372036854775808)).le_toInt
    have a' := (m + (-9223372036854775808)).toInt_lt
    have b' := (m + (-9223372036854775808)).le_toInt
    have h1 : p.toInt = q.toInt := by unfold kv at h; omega
    have h2 : (n + (-9223372036854775808)).toInt = (m + (-9223372036854775808)).toInt := by unfold kv at h; omega
    exact ⟨Int32.toInt_inj.mp h1, (Int64.add_left_inj _).mp (Int64.toInt_inj.mp h2)⟩
  · rintro ⟨rfl, rfl⟩
    rfl
def eI (c : Nat) (k : Nat → Int) : Prop := ∀ i j, i < c → j < c → k i = k j → i = j
def eS (c : Nat) (k : Nat → Int) : Prop := ∀ i j, i < j → j < c → k i < k j
def eF (c : Nat) (k : Nat → Int) (F : Int → Int64) : Prop := (∀ i, i < c → ¬ F (k i) = 0) ∧ ∀ x, ¬ F x = 0 → ∃ i, i < c ∧ k i = x
/-- at most 64 KINDS -/
def eC (F : Int → Int64) : Prop := ∃ (c : Nat) (k : Nat → Int), c ≤ 64 ∧ ∀ x, ¬ F x = 0 → ∃ i, i < c ∧ k i = x
theorem eS_I {c : Nat} {k : Nat → Int} (h : eS c k) : eI c k := by
  intro i j hi hj e
  rcases Nat.lt_trichotomy i j with q | q | q
  · exact absurd (h i j q hj) (by omega)
  · exact q
  · exact absurd (h j i q hi) (by omega)
theorem eS_lt {c : Nat} {k : Nat → Int} (h : eS c k) {i j : Nat} (hi : i < c) (hj : j < c) (e : k i < k j) : i < j := by
  rcases Nat.lt_trichotomy i j with q | q | q
  · exact q
  · subst q
    omega
  · have := h j i q hi
    omega
theorem pig (d : Nat) : ∀ (c : Nat) (f g : Nat → Int), eI c f → (∀ i, i < c → ∃ j, j < d ∧ f i = g j) → c ≤ d := by
  induction d with
  | zero =>
    intro c f g _ h
    cases c with
    | zero => exact Nat.le_refl _
    | succ c =>
      obtain ⟨j, hj, -⟩ := h 0 (by omega)
      omega
  | succ d ih =>
    intro c f g hi h
    by_cases hx : ∃ a, a < c ∧ f a = g d
    · obtain ⟨a, ha, ea⟩ := hx
      obtain ⟨c', rfl⟩ : ∃ c', c = c' + 1 := ⟨c - 1, by omega⟩
      have key : c' ≤ d := by
        refine ih c' (fun i => if i = a then f c' else f i) g ?_ ?_
        · intro i j h1 h2 e
          have e : (if i = a then f c' else f i) = (if j = a then f c' else f j) := e
          by_cases p : i = a <;> by_cases q : j = a
          · omega
          · rw [if_pos p, if_neg q] at e
            have := hi c' j (by omega) (by omega) e
            omega
          · rw [if_neg p, if_pos q] at e
            have := hi i c' (by omega) (by omega) e
            omega
          · rw [if_neg p, if_neg q] at e
            exact hi i j (by omega) (by omega) e
        · intro i h1
          show ∃ j, j < d ∧ (if i = a then f c' else f i) = g j
          by_cases p : i = a
          · rw [if_pos p]
            obtain ⟨j, hj, ej⟩ := h c' (by omega)
            by_cases q : j = d
            · subst q
              have := hi c' a (by omega) ha (ej.trans ea.symm)
              omega
            · exact ⟨j, by omega, ej⟩
          · rw [if_neg p]
            obtain ⟨j, hj, ej⟩ := h i (by omega)
            by_cases q : j = d
            · subst q
              exact absurd (hi i a (by omega) ha (ej.trans ea.symm)) p
            · exact ⟨j, by omega, ej⟩
      omega
    · have := ih c f g hi (fun i h1 => by
        obtain ⟨j, hj, ej⟩ := h i h1
        by_cases q : j = d
        · subst q
          exact absurd ⟨i, h1, ej⟩ hx
        · exact ⟨j, by omega, ej⟩)
      omega
theorem card_le {c d : Nat} {k k' : Nat → Int} {F : Int → Int64} (h1 : eI c k) (h2 : ∀ i, i < c → ¬ F (k i) = 0) (h3 : ∀ x, ¬ F x = 0 → ∃ i, i < d ∧ k' i = x) : c ≤ d :=
  pig d c k k' h1 (fun i hi => by
    obtain ⟨j, hj, e⟩ := h3 (k i) (h2 i hi)
    exact ⟨j, hj, e.symm⟩)
theorem card_eq {c d : Nat} {k k' : Nat → Int} {F : Int → Int64} (h1 : eI c k) (h2 : eF c k F) (h3 : eI d k') (h4 : eF d k' F) : c = d := by
  have a := card_le h1 h2.1 h4.2
  have b := card_le h3 h4.1 h2.2
  omega
theorem eC_not {c : Nat} {k : Nat → Int} {F : Int → Int64} (h1 : eI c k) (h2 : ∀ i, i < c → ¬ F (k i) = 0) (hc : 64 < c) : ¬ eC F := by
  rintro ⟨d, k', hd, h3⟩
  have := card_le h1 h2 h3
  omega
theorem eC_of {c : Nat} {k : Nat → Int} {F : Int → Int64} (h : ∀ x, ¬ F x = 0 → ∃ i, i < c ∧ k i = x) (hc : c ≤ 64) : eC F := ⟨c, k, hc, h⟩
/-- two sorted enumerations of one BAG are one -/
theorem sort_eq {c : Nat} {k k' : Nat → Int} {F : Int → Int64} (h1 : eS c k) (h2 : eF c k F) (h3 : eS c k') (h4 : eF c k' F) : ∀ n i, i < n → i < c → k i = k' i := by
  intro n
  induction n with
  | zero => intro i h; omega
  | succ n ih =>
    intro i hn hi
    obtain ⟨a, ha, ea⟩ := h2.2 (k' i) (h4.1 i hi)
    obtain ⟨b, hb, eb⟩ := h4.2 (k i) (h2.1 i hi)
    have q1 : ¬ a < i := fun q => by
      have e1 := ih a (by omega) ha
      have := eS_I h3 a i ha hi (e1.symm.trans ea)
      omega
    have q2 : ¬ b < i := fun q => by
      have e1 := ih b (by omega) hb
      have := eS_I h1 b i hb hi (e1.trans eb)
      omega
    have r1 : k i ≤ k a := by
      by_cases z : i = a
      · subst z; omega
      · have := h1 i a (by omega) ha
        omega
    have r2 : k' i ≤ k' b := by
      by_cases z : i = b
      · subst z; omega
      · have := h3 i b (by omega) hb
        omega
    omega
/-- how many lie below x -/
def cLt (m : Nat → Int) (x : Int) : Nat → Nat
  | 0 => 0
  | c + 1 => cLt m x c + (if m c < x then 1 else 0)
theorem cLt_enum (m : Nat → Int) (x : Int) : ∀ c, eI c m → ∃ e : Nat → Int, eI (cLt m x c) e ∧ (∀ t, t < cLt m x c → ∃ j, j < c ∧ e t = m j ∧ m j < x) ∧ (∀ j, j < c → m j < x → ∃ t, t < cLt m x c ∧ e t = m j) := by
  intro c
  induction c with
  | zero =>
    intro _
    exact ⟨m, fun i j h => absurd h (Nat.not_lt_zero _), fun t h => absurd h (Nat.not_lt_zero _), fun j h => absurd h (Nat.not_lt_zero _)⟩
  | succ c ih =>
    intro h
    obtain ⟨e, h1, h2, h3⟩ := ih (fun i j a b => h i j (by omega) (by omega))
    by_cases q : m c < x
    · have ec : cLt m x (c + 1) = cLt m x c + 1 := by simp [cLt, q]
      rw [ec]
      refine ⟨fun t => if t = cLt m x c then m c else e t, ?_, ?_, ?_⟩
      · intro i j hi hj e1
        have e1 : (if i = cLt m x c then m c else e i) = (if j = cLt m x c then m c else e j) := e1
        by_cases u : i = cLt m x c <;> by_cases v : j = cLt m x c
        · omega
        · rw [if_pos u, if_neg v] at e1
          obtain ⟨a, ha, ea, -⟩ := h2 j (by omega)
          have := h c a (by omega) (by omega) (e1.trans ea)
          omega
        · rw [if_neg u, if_pos v] at e1
          obtain ⟨a, ha, ea, -⟩ := h2 i (by omega)
          have := h c a (by omega) (by omega) (e1.symm.trans ea)
          omega
        · rw [if_neg u, if_neg v] at e1
          exact h1 i j (by omega) (by omega) e1
      · intro t ht
        show ∃ j, j < c + 1 ∧ (if t = cLt m x c then m c else e t) = m j ∧ m j < x
        by_cases u : t = cLt m x c
        · rw [if_pos u]
          exact ⟨c, by omega, rfl, q⟩
        · rw [if_neg u]
          obtain ⟨j, hj, ej, hx⟩ := h2 t (by omega)
          exact ⟨j, by omega, ej, hx⟩
      · intro j hj hx
        show ∃ t, t < cLt m x c + 1 ∧ (if t = cLt m x c then m c else e t) = m j
        by_cases u : j = c
        · subst u
          exact ⟨cLt m x j, by omega, if_pos rfl⟩
        · obtain ⟨t, ht, et⟩ := h3 j (by omega) hx
          exact ⟨t, by omega, by rw [if_neg (by omega)]; exact et⟩
    · have ec : cLt m x (c + 1) = cLt m x c := by simp [cLt, q]
      rw [ec]
      refine ⟨e, h1, fun t ht => ?_, fun j hj hx => ?_⟩
      · obtain ⟨j, hj, ej, hx⟩ := h2 t ht
        exact ⟨j, by omega, ej, hx⟩
      · by_cases u : j = c
        · subst u
          exact absurd hx q
        · exact h3 j (by omega) hx
theorem cLt_le (m : Nat → Int) (x : Int) (c : Nat) : cLt m x c ≤ c := by
  induction c with
  | zero => exact Nat.le_refl _
  | succ c ih =>
    have : cLt m x (c + 1) = cLt m x c + (if m c < x then 1 else 0) := rfl
    rw [this]
    split <;> omega
/-- the i-th KIND has i KINDS ahead -/
theorem rank_eq {c : Nat} {m k : Nat → Int} {F : Int → Int64} (hm : eI c m) (hmF : eF c m F) (hk : eS c k) (hkF : eF c k F) {i : Nat} (hi : i < c) : cLt m (k i) c = i := by
  obtain ⟨e, h1, h2, h3⟩ := cLt_enum m (k i) c hm
  have a : cLt m (k i) c ≤ i := by
    refine pig i _ e k h1 (fun t ht => ?_)
    obtain ⟨j, hj, ej, hx⟩ := h2 t ht
    obtain ⟨b, hb, eb⟩ := hkF.2 (m j) (hmF.1 j hj)
    exact ⟨b, eS_lt hk hb hi (by omega), by omega⟩
  have b : i ≤ cLt m (k i) c := by
    refine pig _ i k e (fun x y hx hy => eS_I hk x y (by omega) (by omega)) (fun t ht => ?_)
    obtain ⟨j, hj, ej⟩ := hmF.2 (k t) (hkF.1 t (by omega))
    obtain ⟨u, hu, eu⟩ := h3 j hj (by rw [ej]; exact hk t i ht hi)
    exact ⟨u, hu, by omega⟩
  omega
theorem rank_at {c : Nat} {m k : Nat → Int} {F : Int → Int64} (hm : eI c m) (hmF : eF c m F) (hk : eS c k) (hkF : eF c k F) {i j : Nat} (hi : i < c) (hj : j < c) (h : cLt m (m j) c = i) : m j = k i := by
  obtain ⟨a, ha, ea⟩ := hkF.2 (m j) (hmF.1 j hj)
  have := rank_eq hm hmF hk hkF ha
  rw [ea, h] at this
  subst this
  exact ea.symm
/-! what look counts, over a sorted enumeration -/
def cP (p : Nat → Int32) : Nat → Nat
  | 0 => 0
  | i + 1 => cP p i + (if i = 0 ∨ ¬ p i = p (i - 1) then 1 else 0)
def cN (a : Nat → Int64) : Nat → Nat
  | 0 => 0
  | i + 1 => cN a i + (if a i < 0 then 1 else 0)
/-- the place of the first greatest, plus one; 0: there is none -/
def cGr (a : Nat → Int64) : Nat → Nat
  | 0 => 0
  | i + 1 => if cGr a i = 0 ∨ a (cGr a i - 1) < a i then i + 1 else cGr a i
theorem cP_le (p : Nat → Int32) (c : Nat) : cP p c ≤ c := by
  induction c with
  | zero => exact Nat.le_refl _
  | succ c ih =>
    have : cP p (c + 1) = cP p c + (if c = 0 ∨ ¬ p c = p (c - 1) then 1 else 0) := rfl
    rw [this]
    split <;> omega
theorem cN_le (a : Nat → Int64) (c : Nat) : cN a c ≤ c := by
  induction c with
  | zero => exact Nat.le_refl _
  | succ c ih =>
    have : cN a (c + 1) = cN a c + (if a c < 0 then 1 else 0) := rfl
    rw [this]
    split <;> omega
theorem cGr_le (a : Nat → Int64) (c : Nat) : cGr a c ≤ c := by
  induction c with
  | zero => exact Nat.le_refl _
  | succ c ih =>
    have : cGr a (c + 1) = if cGr a c = 0 ∨ a (cGr a c - 1) < a c then c + 1 else cGr a c := rfl
    rw [this]
    split <;> omega
/-! sums, differences, least, products: when they fit -/
def fH (how : Nat) (x y : Int64) : Prop := (how = 0 → -9223372036854775808 ≤ x.toInt + y.toInt ∧ x.toInt + y.toInt < 9223372036854775808) ∧ (how = 1 → -9223372036854775808 ≤ x.toInt - y.toInt ∧ x.toInt - y.toInt < 9223372036854775808)
def cH (how : Nat) (x y : Int64) : Int64 := if how = 0 then x + y else if how = 1 then x - y else if y < x then y else x
def fM (x n : Int64) : Prop := -9223372036854775808 ≤ x.toInt * n.toInt ∧ x.toInt * n.toInt < 9223372036854775808
theorem cH_00 (how : Nat) : cH how 0 0 = 0 := by
  unfold cH
  split
  · rfl
  · split
    · rfl
    · split <;> rfl
theorem fH_00 (how : Nat) : fH how 0 0 := by
  unfold fH
  simp
theorem fH_2 (how : Nat) (h0 : ¬ how = 0) (h1 : ¬ how = 1) (x y : Int64) : fH how x y := ⟨fun h => absurd h h0, fun h => absurd h h1⟩
/-! numbers: when a sum, a difference, a product is a long; how often one AMOUNT goes into another -/
theorem z_max : (9223372036854775807 : Int64).toInt = 9223372036854775807 := by decide +kernel
theorem z_min : (-9223372036854775808 : Int64).toInt = -9223372036854775808 := by decide +kernel
theorem z_0 : (0 : Int64).toInt = 0 := by decide +kernel
theorem z_1 : (1 : Int64).toInt = 1 := by decide +kernel
theorem z_m1 : (-1 : Int64).toInt = -1 := by decide +kernel
theorem z_ne {x y : Int64} (h : ¬ x = y) : x.toInt ≠ y.toInt := fun e => h (Int64.toInt_inj.mp e)
theorem sum_ge {x y : Int64} (hy : 0 ≤ y) : x ≤ 9223372036854775807 - y ↔ fH 0 x y := by
  have a := x.toInt_lt
  have b := x.le_toInt
  have a' := y.toInt_lt
  have hy' : 0 ≤ y.toInt := Jvm.Kit.i64_nonneg.mp hy
  have e : (9223372036854775807 - y : Int64).toInt = 9223372036854775807 - y.toInt := by
    rw [Jvm.Kit.i64_sub (by rw [z_max]; omega) (by rw [z_max]; omega), z_max]
  rw [Int64.le_iff_toInt_le, e]
  unfold fH
  constructor
  · intro h
    exact ⟨fun _ => by omega, fun h => absurd h (by decide)⟩
  · intro h
    have := h.1 rfl
    omega
theorem sum_lt {x y : Int64} (hy : ¬ 0 < y) : -9223372036854775808 - y ≤ x ↔ fH 0 x y := by
  have a := x.toInt_lt
  have b := x.le_toInt
  have a' := y.le_toInt
  have hy' : ¬ 0 < y.toInt := fun h => hy (Int64.lt_iff_toInt_lt.mpr (by rw [z_0]; exact h))
  have e : (-9223372036854775808 - y : Int64).toInt = -9223372036854775808 - y.toInt := by
    rw [Jvm.Kit.i64_sub (by rw [z_min]; omega) (by rw [z_min]; omega), z_min]
  rw [Int64.le_iff_toInt_le, e]
  unfold fH
  constructor
  · intro h
    exact ⟨fun _ => by omega, fun h => absurd h (by decide)⟩
  · intro h
    have := h.1 rfl
    omega
theorem dif_ge {x y : Int64} (hy : 0 ≤ y) : -9223372036854775808 + y ≤ x ↔ fH 1 x y := by
  have a := x.toInt_lt
  have b := x.le_toInt
  have a' := y.toInt_lt
  have hy' : 0 ≤ y.toInt := Jvm.Kit.i64_nonneg.mp hy
  have e : (-9223372036854775808 + y : Int64).toInt = -9223372036854775808 + y.toInt := by
    rw [Jvm.Kit.i64_add (by rw [z_min]; omega) (by rw [z_min]; omega), z_min]
  rw [Int64.le_iff_toInt_le, e]
  unfold fH
  constructor
  · intro h
    exact ⟨fun h => absurd h (by decide), fun _ => by omega⟩
  · intro h
    have := h.2 rfl
    omega
theorem dif_lt {x y : Int64} (hy : ¬ 0 ≤ y) : x ≤ 9223372036854775807 + y ↔ fH 1 x y := by
  have a := x.toInt_lt
  have b := x.le_toInt
  have a' := y.le_toInt
  have hy' : ¬ 0 ≤ y.toInt := fun h => hy (Jvm.Kit.i64_nonneg.mpr h)
  have e : (9223372036854775807 + y : Int64).toInt = 9223372036854775807 + y.toInt := by
    rw [Jvm.Kit.i64_add (by rw [z_max]; omega) (by rw [z_max]; omega), z_max]
  rw [Int64.le_iff_toInt_le, e]
  unfold fH
  constructor
  · intro h
    exact ⟨fun h => absurd h (by decide), fun _ => by omega⟩
  · intro h
    have := h.2 rfl
    omega
theorem mul_fits {x n : Int64} (h0 : ¬ n = 0) (h1 : ¬ n = -1) : x * n / n = x ↔ fM x n := by
  have hN0 : n.toInt ≠ 0 := by have := z_ne h0; rw [z_0] at this; exact this
  have hN1 : n.toInt ≠ -1 := by have := z_ne h1; rw [z_m1] at this; exact this
  have ed : (x * n / n).toInt = (x * n).toInt.tdiv n.toInt := Jvm.Kit.i64_div (fun h => hN1 h.2)
  have em : (x * n).toInt = (x.toInt * n.toInt).bmod (2 ^ 64) := Int64.toInt_mul x n
  have bn := n.toInt_lt
  have bn' := n.le_toInt
  have bw := (x * n).toInt_lt
  have bw' := (x * n).le_toInt
  rw [← Int64.toInt_inj, ed]
  unfold fM
  constructor
  · intro h
    have h2 := Int.tdiv_mul_add_tmod (x * n).toInt n.toInt
    rw [h] at h2
    have h3 : ((x * n).toInt.tmod n.toInt).natAbs < n.toInt.natAbs := by
      rw [Int.natAbs_tmod]
      exact Nat.mod_lt _ (by omega)
    generalize (x * n).toInt.tmod n.toInt = r at h2 h3
    rw [Int.bmod_def] at em
    generalize x.toInt * n.toInt = P at em h2 ⊢
    omega
  · intro h
    rw [em, Jvm.Kit.bmod64 (by omega) (by omega), Int.mul_tdiv_cancel _ hN0]
theorem fM_comm {x n : Int64} : fM x n ↔ fM n x := by
  unfold fM
  rw [Int.mul_comm]
theorem fM_0 (x : Int64) : fM x 0 := by
  unfold fM
  rw [z_0]
  omega
theorem fM_0l (x : Int64) : fM 0 x := fM_comm.mp (fM_0 x)
theorem fM_m1 {x : Int64} : fM x (-1) ↔ ¬ x = -9223372036854775808 := by
  have a := x.toInt_lt
  have b := x.le_toInt
  rw [← Int64.toInt_inj, z_min]
  unfold fM
  rw [z_m1]
  omega
theorem fM_1 (x : Int64) : fM x 1 := by
  have a := x.toInt_lt
  have b := x.le_toInt
  unfold fM
  rw [z_1]
  omega
theorem mul_fits2 {a b : Int64} (h0 : ¬ a = 0) (h1 : ¬ (a = -9223372036854775808 ∧ b = -1)) (h2 : ¬ (b = -9223372036854775808 ∧ a = -1)) : a * b / a = b ↔ fM a b := by
  by_cases h : a = -1
  · subst h
    have hb : ¬ b = -9223372036854775808 := fun e => h2 ⟨e, rfl⟩
    have f : fM (-1) b := fM_comm.mp (fM_m1.mpr hb)
    have x1 := b.toInt_lt
    have x2 := b.le_toInt
    have hb' : b.toInt ≠ -9223372036854775808 := by have := z_ne hb; rw [z_min] at this; exact this
    have e1 : (-1 * b : Int64).toInt = -b.toInt := by
      rw [Jvm.Kit.i64_mul (by rw [z_m1]; omega) (by rw [z_m1]; omega), z_m1]
      omega
    refine ⟨fun _ => f, fun _ => Int64.toInt_inj.mp ?_⟩
    rw [Jvm.Kit.i64_div (by rw [e1]; omega), e1, z_m1, Int.tdiv_neg, Int.tdiv_one]
    omega
  · rw [Int64.mul_comm, mul_fits h0 h, fM_comm]
theorem fM_bad1 {a b : Int64} (h : (a = -9223372036854775808 ∧ b = -1) ∨ (b = -9223372036854775808 ∧ a = -1)) : ¬ fM a b := by
  rcases h with ⟨rfl, rfl⟩ | ⟨rfl, rfl⟩ <;> (unfold fM; rw [z_m1, z_min]; omega)
/-! promise 15: x the AMOUNT in a, y the AMOUNT in b -/
/-- no n fits this KIND -/
def iB (x y : Int64) : Prop := (x < 0 ∧ 0 ≤ y) ∨ (x = -9223372036854775808 ∧ y = -1)
/-- the least n that fits this KIND where y is below 0 -/
def iN (x y : Int64) : Int := if x < 0 ∧ y < 0 then x.toInt.tdiv y.toInt + (if x.toInt.tmod y.toInt = 0 then 0 else 1) else 0
/-- the greatest n that fits this KIND where y is above 0 -/
def iQ (x y : Int64) : Int := x.toInt.tdiv y.toInt
def iR (Fa Fb : Int → Int64) (r : Int64) : Prop :=
  (r = -1 ∧ ((∃ k, iB (Fa k) (Fb k)) ∨ (∀ k, ¬ 0 < Fb k) ∨ ∃ k k', 0 < Fb k ∧ iQ (Fa k) (Fb k) < iN (Fa k') (Fb k'))) ∨
  ((∀ k, ¬ iB (Fa k) (Fb k)) ∧ (∃ k, 0 < Fb k ∧ r.toInt = iQ (Fa k) (Fb k)) ∧ (∀ k, 0 < Fb k → r.toInt ≤ iQ (Fa k) (Fb k)) ∧ ∀ k, iN (Fa k) (Fb k) ≤ r.toInt)
theorem iR_eq {Fa Fb : Int → Int64} {r r' : Int64} (h : iR Fa Fb r) (h' : iR Fa Fb r') : r = r' := by
  have key : ∀ {r r' : Int64}, (r = -1 ∧ ((∃ k, iB (Fa k) (Fb k)) ∨ (∀ k, ¬ 0 < Fb k) ∨ ∃ k k', 0 < Fb k ∧ iQ (Fa k) (Fb k) < iN (Fa k') (Fb k'))) →
      ((∀ k, ¬ iB (Fa k) (Fb k)) ∧ (∃ k, 0 < Fb k ∧ r'.toInt = iQ (Fa k) (Fb k)) ∧ (∀ k, 0 < Fb k → r'.toInt ≤ iQ (Fa k) (Fb k)) ∧ ∀ k, iN (Fa k) (Fb k) ≤ r'.toInt) → False := by
    intro r r' h1 h2
    rcases h1.2 with ⟨k, hk⟩ | hk | ⟨k, k', hk, hl⟩
    · exact h2.1 k hk
    · obtain ⟨k, h3, -⟩ := h2.2.1
      exact hk k h3
    · have a := h2.2.2.1 k hk
      have b := h2.2.2.2 k'
      omega
  rcases h with h | h <;> rcases h' with h' | h'
  · rw [h.1, h'.1]
  · exact (key h h').elim
  · exact (key h' h).elim
  · obtain ⟨k, hk, ek⟩ := h.2.1
    obtain ⟨k', hk', ek'⟩ := h'.2.1
    have a := h.2.2.1 k' hk'
    have b := h'.2.2.1 k hk
    exact Int64.toInt_inj.mp (by omega)
/-! division: floorDiv by a number above 0, the least n where both are below 0 -/
theorem z_msb (x : Int64) : x.toBitVec.msb = decide (x.toInt < 0) := BitVec.msb_eq_toInt
theorem z_xor (x y : Int64) : (x ^^^ y).toInt < 0 ↔ ¬ (x.toInt < 0 ↔ y.toInt < 0) := by
  have h := z_msb (x ^^^ y)
  rw [Int64.toBitVec_xor, BitVec.msb_xor, z_msb, z_msb] at h
  by_cases a : x.toInt < 0 <;> by_cases b : y.toInt < 0 <;> by_cases c : (x ^^^ y).toInt < 0 <;> simp_all <;> omega
theorem z_lt0 {x : Int64} : x < 0 ↔ x.toInt < 0 := by rw [Int64.lt_iff_toInt_lt, z_0]
theorem z_0lt {x : Int64} : 0 < x ↔ 0 < x.toInt := by rw [Int64.lt_iff_toInt_lt, z_0]
theorem z_tdiv_neg {X Y : Int} (hX : X < 0) (hY : 0 < Y) : X.tdiv Y ≤ 0 := by
  have e : X.tdiv Y = -((-X).tdiv Y) := by rw [Int.neg_tdiv, Int.neg_neg]
  rw [e, Int.tdiv_eq_ediv_of_nonneg (by omega)]
  have := Int.ediv_nonneg (a := -X) (b := Y) (by omega) (by omega)
  omega
theorem z_tdiv_nn {X Y : Int} (hX : X < 0) (hY : Y < 0) : 0 ≤ X.tdiv Y := by
  rw [← Int.neg_tdiv_neg, Int.tdiv_eq_ediv_of_nonneg (by omega)]
  exact Int.ediv_nonneg (by omega) (by omega)
theorem z_tdiv_pp {X Y : Int} (hX : 0 ≤ X) (hY : 0 ≤ Y) : 0 ≤ X.tdiv Y := by
  rw [Int.tdiv_eq_ediv_of_nonneg hX]
  exact Int.ediv_nonneg hX hY
theorem z_half {X Y : Int} (hY : 2 ≤ Y.natAbs) : (X.tdiv Y).natAbs ≤ X.natAbs / 2 := by
  rw [Int.natAbs_tdiv]
  exact Nat.div_le_div_left hY (by decide)
theorem fd_toInt {x y : Int64} (hy : 0 < y) : (x / y).toInt = x.toInt.tdiv y.toInt := by
  have := z_0lt.mp hy
  exact Jvm.Kit.i64_div (fun h => by omega)
theorem fd_exact {x y : Int64} (hx : x < 0) (hy : 0 < y) (e : x / y * y = x) : x / y < 0 := by
  have h1 := z_lt0.mp hx
  have h2 := z_0lt.mp hy
  have h3 := z_tdiv_neg h1 h2
  rw [← fd_toInt hy] at h3
  by_cases z : x / y = 0
  · rw [z, Int64.zero_mul] at e
    rw [← e] at h1
    rw [z_0] at h1
    omega
  · have := z_ne z
    rw [z_0] at this
    exact z_lt0.mpr (by omega)
theorem fd_down {x y : Int64} (hx : x < 0) (hy : 0 < y) (e : ¬ x / y * y = x) : x / y - 1 < 0 := by
  have h1 := z_lt0.mp hx
  have h2 := z_0lt.mp hy
  have b := x.le_toInt
  have h3 := z_tdiv_neg h1 h2
  have h4 : 2 ≤ y.toInt.natAbs := by
    by_cases z : y.toInt = 1
    · have y1 : y = 1 := Int64.toInt_inj.mp (by rw [z, z_1])
      exfalso
      apply e
      apply Int64.toInt_inj.mp
      rw [y1, Int64.mul_one, fd_toInt (by rw [← y1]; exact hy), z_1, Int.tdiv_one]
    · omega
  have h5 := z_half (X := x.toInt) h4
  rw [← fd_toInt hy] at h3 h5
  apply z_lt0.mpr
  rw [Jvm.Kit.i64_sub (by rw [z_1]; omega) (by rw [z_1]; omega), z_1]
  omega
theorem iN_0 (x y : Int64) : 0 ≤ iN x y := by
  unfold iN
  split
  · rename_i h
    have := z_tdiv_nn (z_lt0.mp h.1) (z_lt0.mp h.2)
    split <;> omega
  · omega
theorem iN_e0 {x y : Int64} (hx : x < 0) (hy : y < 0) (hb : ¬ (x = -9223372036854775808 ∧ y = -1)) (hr : x - x / y * y = 0) : (x / y).toInt = iN x y := by
  have h0 : x.toInt.tmod y.toInt = 0 := by rw [← Jvm.Kit.i64_rem, hr, z_0]
  unfold iN
  rw [if_pos (And.intro hx hy), if_pos h0, Jvm.Kit.i64_div (fun h => hb ⟨Int64.toInt_inj.mp (by have := h.1; rw [z_min]; omega), Int64.toInt_inj.mp (by rw [h.2, z_m1])⟩)]
  omega
theorem iN_e1 {x y : Int64} (hx : x < 0) (hy : y < 0) (hr : ¬ x - x / y * y = 0) : (x / y + 1).toInt = iN x y := by
  have h0 : ¬ x.toInt.tmod y.toInt = 0 := fun z => hr (Int64.toInt_inj.mp (by rw [Jvm.Kit.i64_rem, z, z_0]))
  have h1 := z_lt0.mp hx
  have h2 := z_lt0.mp hy
  have b := x.le_toInt
  have h4 : 2 ≤ y.toInt.natAbs := by
    by_cases z : y.toInt = -1
    · exfalso
      apply h0
      rw [z, Int.tmod_neg, Int.tmod_one]
    · omega
  have h5 := z_half (X := x.toInt) h4
  have h6 := z_tdiv_nn h1 h2
  have e : (x / y).toInt = x.toInt.tdiv y.toInt := Jvm.Kit.i64_div (fun h => by omega)
  unfold iN
  rw [if_pos (And.intro hx hy), if_neg h0, Jvm.Kit.i64_add (by rw [z_1]; omega) (by rw [z_1]; omega), z_1, e]
theorem iN_pos {x y : Int64} (h : ¬ (x < 0 ∧ y < 0)) : iN x y = 0 := by
  unfold iN
  rw [if_neg h]
/-! the compares and tests that the code makes, in its own forms -/
theorem sumHi {x y : Int64} (hy : ¬ y < 0) : (9223372036854775807 - y < x) ↔ ¬ fH 0 x y := Int64.not_le.symm.trans (not_congr (sum_ge (Int64.not_lt.mp hy)))
theorem sumLo {x y : Int64} (hy : ¬ 0 < y) : (x < -9223372036854775808 - y) ↔ ¬ fH 0 x y := Int64.not_le.symm.trans (not_congr (sum_lt hy))
theorem difLo {x y : Int64} (hy : ¬ y < 0) : (x < -9223372036854775808 + y) ↔ ¬ fH 1 x y := Int64.not_le.symm.trans (not_congr (dif_ge (Int64.not_lt.mp hy)))
theorem difHi {x y : Int64} (hy : y < 0) : (9223372036854775807 + y < x) ↔ ¬ fH 1 x y := Int64.not_le.symm.trans (not_congr (dif_lt (Int64.not_le.mpr hy)))
theorem sumHiN {x y : Int64} (hy : ¬ y < 0) : ¬ (9223372036854775807 - y < x) ↔ fH 0 x y := by rw [sumHi hy, Classical.not_not]
theorem sumLoN {x y : Int64} (hy : ¬ 0 < y) : ¬ (x < -9223372036854775808 - y) ↔ fH 0 x y := by rw [sumLo hy, Classical.not_not]
theorem difLoN {x y : Int64} (hy : ¬ y < 0) : ¬ (x < -9223372036854775808 + y) ↔ fH 1 x y := by rw [difLo hy, Classical.not_not]
theorem difHiN {x y : Int64} (hy : y < 0) : ¬ (9223372036854775807 + y < x) ↔ fH 1 x y := by rw [difHi hy, Classical.not_not]
theorem ltN0 {y : Int64} (hy : y < 0) : ¬ 0 < y := lg_lt_not hy
theorem gtN0 {y : Int64} (hy : 0 < y) : ¬ y < 0 := lg_lt_not hy
def c32 (x y : Int32) : Int32 := if x < y then -1 else if x = y then 0 else 1
def c64 (x y : Int64) : Int32 := if x < y then -1 else if x = y then 0 else 1
theorem ord_p {p q : Int32} {n m : Int64} (h : ¬ p = q) : (c32 p q < 0 ↔ kv p n < kv q m) ∧ (c32 p q = 0 ↔ kv p n = kv q m) := by
  rw [kv_lt, kv_inj]
  unfold c32
  by_cases a : p < q
  · rw [if_pos a]
    exact ⟨⟨fun _ => Or.inl a, fun _ => by decide⟩, ⟨fun z => absurd z (by decide), fun z => absurd z.1 h⟩⟩
  · rw [if_neg a, if_neg h]
    exact ⟨⟨fun z => absurd z (by decide), fun z => z.elim (fun z => absurd z a) (fun z => absurd z.1 h)⟩, ⟨fun z => absurd z (by decide), fun z => absurd z.1 h⟩⟩
theorem ord_n {p : Int32} {n m : Int64} : (c64 (n + (-9223372036854775808)) (m + (-9223372036854775808)) < 0 ↔ kv p n < kv p m) ∧ (c64 (n + (-9223372036854775808)) (m + (-9223372036854775808)) = 0 ↔ kv p n = kv p m) := by
  rw [kv_lt, kv_inj]
  unfold c64
  by_cases a : n + (-9223372036854775808) < m + (-9223372036854775808)
  · rw [if_pos a]
    exact ⟨⟨fun _ => Or.inr ⟨rfl, a⟩, fun _ => by decide⟩, ⟨fun z => absurd z (by decide), fun z => by rw [z.2] at a; exact absurd a Int64.lt_irrefl⟩⟩
  · rw [if_neg a]
    by_cases b : n + (-9223372036854775808) = m + (-9223372036854775808)
    · rw [if_pos b]
      exact ⟨⟨fun z => absurd z (by decide), fun z => z.elim (fun z => absurd z Int32.lt_irrefl) (fun z => absurd z.2 a)⟩, ⟨fun _ => ⟨rfl, (Int64.add_left_inj _).mp b⟩, fun _ => rfl⟩⟩
    · rw [if_neg b]
      exact ⟨⟨fun z => absurd z (by decide), fun z => z.elim (fun z => absurd z Int32.lt_irrefl) (fun z => absurd z.2 a)⟩, ⟨fun z => absurd z (by decide), fun z => absurd (by rw [z.2]) b⟩⟩
/-- the POLICY of a KIND -/
def pO (x : Int) : Int := (x + 9223372036854775808) / 18446744073709551616
theorem pO_kv (p : Int32) (n : Int64) : pO (kv p n) = p.toInt := by
  have a := (n + (-9223372036854775808)).toInt_lt
  have b := (n + (-9223372036854775808)).le_toInt
  unfold pO kv
  omega
theorem pO_iff {p q : Int32} {n : Int64} : p = q ↔ pO (kv p n) = q.toInt := by
  rw [pO_kv, Int32.toInt_inj]
end
section
/-! what the rows of numbers stand for: the class's (sorted), the reference's (each KIND once) -/
def kk (p : Nat → Int32) (n : Nat → Int64) (i : Nat) : Int := kv (p i) (n i)
def cRep (c : Nat) (p : Nat → Int32) (n a : Nat → Int64) (F : Int → Int64) : Prop := c ≤ 64 ∧ eS c (kk p n) ∧ eF c (kk p n) F ∧ ∀ i, i < c → a i = F (kk p n i)
def mRep (c : Nat) (p : Nat → Int32) (n a : Nat → Int64) (F : Int → Int64) : Prop := eI c (kk p n) ∧ eF c (kk p n) F ∧ ∀ i, i < c → a i = F (kk p n i)
def fUp (F : Int → Int64) (x : Int) (v : Int64) : Int → Int64 := fun y => if y = x then v else F y
theorem fUp_s {F : Int → Int64} {x : Int} {v : Int64} : fUp F x v x = v := if_pos rfl
theorem fUp_n {F : Int → Int64} {x y : Int} {v : Int64} (h : ¬ y = x) : fUp F x v y = F y := if_neg h
theorem fUp_id {F : Int → Int64} {x : Int} : fUp F x (F x) = F := by
  funext y
  by_cases h : y = x
  · rw [h, fUp_s]
  · rw [fUp_n h]
/-- of G what lies in S -/
noncomputable def gS (G : Int → Int64) (S : Int → Prop) : Int → Int64 := fun x => @ite _ (S x) (Classical.propDecidable _) (G x) 0
theorem gS_y {G : Int → Int64} {S : Int → Prop} {x : Int} (h : S x) : gS G S x = G x := by
  unfold gS
  exact if_pos h
theorem gS_no {G : Int → Int64} {S : Int → Prop} {x : Int} (h : ¬ S x) : gS G S x = 0 := by
  unfold gS
  exact if_neg h
theorem gS_add {G : Int → Int64} {S : Int → Prop} {x : Int} : gS G (fun y => S y ∨ y = x) = fUp (gS G S) x (G x) := by
  funext y
  by_cases h : y = x
  · rw [h, fUp_s, gS_y (Or.inr rfl)]
  · rw [fUp_n h]
    by_cases q : S y
    · rw [gS_y (Or.inl q), gS_y q]
    · rw [gS_no (fun z => z.elim q h), gS_no q]
theorem gS_skip {G : Int → Int64} {S : Int → Prop} {x : Int} (h0 : G x = 0) : gS G (fun y => S y ∨ y = x) = gS G S := by
  funext y
  by_cases q : S y
  · rw [gS_y (Or.inl q), gS_y q]
  · rw [gS_no q]
    by_cases h : y = x
    · rw [gS_y (Or.inr h), h, h0]
    · rw [gS_no (fun z => z.elim q h)]
theorem gS_congr {G : Int → Int64} {S S' : Int → Prop} (h : ∀ y, S y ↔ S' y) : gS G S = gS G S' := by
  rw [show S = S' from funext fun y => propext (h y)]
theorem gS_all {G : Int → Int64} {S : Int → Prop} (h : ∀ x, ¬ G x = 0 → S x) : gS G S = G := by
  funext x
  by_cases q : S x
  · exact gS_y q
  · rw [gS_no q]
    by_cases z : G x = 0
    · exact z.symm
    · exact absurd (h x z) q
theorem gS_none {G : Int → Int64} {S : Int → Prop} (h : ∀ x, ¬ S x) : gS G S = fun _ => 0 := by
  funext x
  exact gS_no (h x)
/-- the first i of k -/
def sU (k : Nat → Int) (i : Nat) : Int → Prop := fun x => ∃ j, j < i ∧ k j = x
theorem sU_s {k : Nat → Int} {i : Nat} (y : Int) : sU k (i + 1) y ↔ (sU k i y ∨ y = k i) := by
  constructor
  · rintro ⟨j, hj, e⟩
    by_cases h : j = i
    · subst h
      exact Or.inr e.symm
    · exact Or.inl ⟨j, by omega, e⟩
  · rintro (⟨j, hj, e⟩ | h)
    · exact ⟨j, by omega, e⟩
    · exact ⟨i, by omega, h.symm⟩
theorem sU_0 {k : Nat → Int} (x : Int) : ¬ sU k 0 x := fun ⟨j, hj, _⟩ => absurd hj (Nat.not_lt_zero _)
theorem gS_step {G : Int → Int64} {k : Nat → Int} {i : Nat} : gS G (sU k (i + 1)) = fUp (gS G (sU k i)) (k i) (G (k i)) := (gS_congr sU_s).trans gS_add
theorem gS_step0 {G : Int → Int64} {k : Nat → Int} {i : Nat} (h : G (k i) = 0) : gS G (sU k (i + 1)) = gS G (sU k i) := (gS_congr sU_s).trans (gS_skip h)
theorem cRep_0 (p : Nat → Int32) (n a : Nat → Int64) : cRep 0 p n a (fun _ => 0) :=
  ⟨by omega, fun i j _ h => absurd h (Nat.not_lt_zero _), ⟨fun i h => absurd h (Nat.not_lt_zero _), fun x h => absurd rfl h⟩, fun i h => absurd h (Nat.not_lt_zero _)⟩
theorem mRep_0 (p : Nat → Int32) (n a : Nat → Int64) : mRep 0 p n a (fun _ => 0) :=
  ⟨fun i j h => absurd h (Nat.not_lt_zero _), ⟨fun i h => absurd h (Nat.not_lt_zero _), fun x h => absurd rfl h⟩, fun i h => absurd h (Nat.not_lt_zero _)⟩
theorem cRep_M {c : Nat} {p : Nat → Int32} {n a : Nat → Int64} {F : Int → Int64} (h : cRep c p n a F) : mRep c p n a F := ⟨eS_I h.2.1, h.2.2⟩
theorem cRep_C {c : Nat} {p : Nat → Int32} {n a : Nat → Int64} {F : Int → Int64} (h : cRep c p n a F) : eC F := eC_of h.2.2.1.2 h.1
/-- keys that agree as far as they count -/
theorem eS_cg {c : Nat} {k k' : Nat → Int} (h : eS c k) (e : ∀ i, i < c → k' i = k i) : eS c k' := fun i j hi hj => by rw [e i (by omega), e j hj]; exact h i j hi hj
/-- one behind all -/
theorem eF_app {c : Nat} {k k' : Nat → Int} {F : Int → Int64} {x : Int} {v : Int64} (h : eF c k F) (hx : ∀ i, i < c → ¬ k i = x) (hv : ¬ v = 0) (e : ∀ i, i < c → k' i = k i) (ex : k' c = x) : eF (c + 1) k' (fUp F x v) := by
  refine ⟨fun i hi => ?_, fun y hy => ?_⟩
  · by_cases q : i = c
    · rw [q, ex, fUp_s]
      exact hv
    · rw [e i (by omega), fUp_n (hx i (by omega))]
      exact h.1 i (by omega)
  · by_cases q : y = x
    · exact ⟨c, by omega, by rw [ex, q]⟩
    · rw [fUp_n q] at hy
      obtain ⟨i, hi, ei⟩ := h.2 y hy
      exact ⟨i, by omega, by rw [e i hi]; exact ei⟩
theorem kk_app_n {p : Nat → Int32} {n : Nat → Int64} {c i : Nat} {q : Int32} {m : Int64} (h : i < c) : kk (upd p c q) (vp_updL n c m) i = kk p n i := by
  unfold kk
  rw [pk_un (by omega), pk_uLn (by omega)]
theorem kk_app_s {p : Nat → Int32} {n : Nat → Int64} {c : Nat} {q : Int32} {m : Int64} : kk (upd p c q) (vp_updL n c m) c = kv q m := by
  unfold kk
  rw [pk_us, pk_uLs]
theorem am_app {p p' : Nat → Int32} {n n' a : Nat → Int64} {F : Int → Int64} {c : Nat} {x : Int} {v : Int64} (h : ∀ i, i < c → a i = F (kk p n i)) (hx : ∀ i, i < c → ¬ kk p n i = x) (e : ∀ i, i < c → kk p' n' i = kk p n i) (ex : kk p' n' c = x) : ∀ i, i < c + 1 → vp_updL a c v i = fUp F x v (kk p' n' i) := by
  intro i hi
  by_cases q : i = c
  · rw [q, pk_uLs, ex, fUp_s]
  · rw [pk_uLn q, e i (by omega), fUp_n (hx i (by omega))]
    exact h i (by omega)
theorem cRep_app {c : Nat} {p : Nat → Int32} {n a : Nat → Int64} {F : Int → Int64} {q : Int32} {m v : Int64} (h : cRep c p n a F) (hc : c < 64) (hl : ∀ i, i < c → kk p n i < kv q m) (hv : ¬ v = 0) : cRep (c + 1) (upd p c q) (vp_updL n c m) (vp_updL a c v) (fUp F (kv q m) v) := by
  obtain ⟨h1, h2, h3, h4⟩ := h
  have hx : ∀ i, i < c → ¬ kk p n i = kv q m := fun i hi e => by
    have := hl i hi
    omega
  refine ⟨by omega, fun i j hi hj => ?_, eF_app h3 hx hv (fun i hi => kk_app_n hi) kk_app_s, am_app h4 hx (fun i hi => kk_app_n hi) kk_app_s⟩
  by_cases z : j = c
  · rw [z, kk_app_s, kk_app_n (by omega)]
    exact hl i (by omega)
  · rw [kk_app_n (by omega), kk_app_n (by omega)]
    exact h2 i j hi (by omega)
theorem mRep_app {c : Nat} {p : Nat → Int32} {n a : Nat → Int64} {F : Int → Int64} {q : Int32} {m v : Int64} (h : mRep c p n a F) (h0 : F (kv q m) = 0) (hv : ¬ v = 0) : mRep (c + 1) (upd p c q) (vp_updL n c m) (vp_updL a c v) (fUp F (kv q m) v) := by
  obtain ⟨h2, h3, h4⟩ := h
  have hx : ∀ i, i < c → ¬ kk p n i = kv q m := fun i hi e => h3.1 i hi (by rw [e]; exact h0)
  refine ⟨fun i j hi hj e => ?_, eF_app h3 hx hv (fun i hi => kk_app_n hi) kk_app_s, am_app h4 hx (fun i hi => kk_app_n hi) kk_app_s⟩
  by_cases z : j = c <;> by_cases y : i = c
  · omega
  · rw [z, kk_app_s, kk_app_n (by omega)] at e
    exact absurd e (hx i (by omega))
  · rw [y, kk_app_s, kk_app_n (by omega)] at e
    exact absurd e.symm (hx j (by omega))
  · rw [kk_app_n (by omega), kk_app_n (by omega)] at e
    exact h2 i j (by omega) (by omega) e
/-- where a KIND is, or would have to be put -/
def cPl (c : Nat) (p : Nat → Int32) (n : Nat → Int64) (x : Int) (i : Nat) : Prop := i ≤ c ∧ (∀ j, j < i → kk p n j < x) ∧ (i < c → x ≤ kk p n i)
theorem look_y {c i : Nat} {p : Nat → Int32} {n a : Nat → Int64} {F : Int → Int64} {x : Int} (h : cRep c p n a F) (hi : i < c) (e : kk p n i = x) : F x = a i := by
  rw [h.2.2.2 i hi, e]
theorem look_n {c i : Nat} {p : Nat → Int32} {n a : Nat → Int64} {F : Int → Int64} {x : Int} (h : cRep c p n a F) (hp : cPl c p n x i) (hno : ¬ (i < c ∧ kk p n i = x)) : F x = 0 := by
  by_cases z : F x = 0
  · exact z
  · obtain ⟨j, hj, ej⟩ := h.2.2.1.2 x z
    have q1 : ¬ j < i := fun q => by
      have := hp.2.1 j q
      omega
    have hi : i < c := by omega
    have q2 := hp.2.2 hi
    have q3 : kk p n i ≤ kk p n j := by
      by_cases w : i = j
      · rw [w]
        omega
      · have := h.2.1 i j (by omega) hj
        omega
    exact absurd ⟨hi, by omega⟩ hno
theorem rep_set {c i : Nat} {p : Nat → Int32} {n a : Nat → Int64} {F : Int → Int64} {x : Int} {v : Int64} (h : cRep c p n a F) (hi : i < c) (e : kk p n i = x) (hv : ¬ v = 0) : cRep c p n (vp_updL a i v) (fUp F x v) := by
  obtain ⟨h1, h2, h3, h4⟩ := h
  refine ⟨h1, h2, ⟨fun j hj => ?_, fun y hy => ?_⟩, fun j hj => ?_⟩
  · by_cases z : kk p n j = x
    · rw [z, fUp_s]
      exact hv
    · rw [fUp_n z]
      exact h3.1 j hj
  · by_cases z : y = x
    · exact ⟨i, hi, by rw [e, z]⟩
    · rw [fUp_n z] at hy
      exact h3.2 y hy
  · by_cases z : j = i
    · rw [z, pk_uLs, e, fUp_s]
    · rw [pk_uLn z, fUp_n (fun q => z (eS_I h2 j i hj hi (q.trans e.symm)))]
      exact h4 j hj
/-- a row with one put in at place i -/
theorem ins_at {α : Type} {f f' : Nat → α} {c i : Nat} {v : α} (hi : i ≤ c) (e : ∀ j, f' j = if j = i then v else va_cpy f f i (i + 1) (c - i) j) : ∀ j, j < c + 1 → f' j = if j < i then f j else if j = i then v else f (j - 1) := by
  intro j hj
  rw [e]
  by_cases h1 : j < i
  · rw [if_pos h1, if_neg (by omega), pk_cpy_out (by omega)]
  · rw [if_neg h1]
    by_cases h2 : j = i
    · rw [if_pos h2, if_pos h2]
    · rw [if_neg h2, if_neg h2, pk_cpy_in (by omega) (by omega)]
      congr 1
      omega
theorem rep_ins {c i : Nat} {p p' : Nat → Int32} {n n' a a' : Nat → Int64} {F : Int → Int64} {x : Int} {q : Int32} {m v : Int64} (h : cRep c p n a F) (hc : c < 64) (hp : cPl c p n x i) (hno : ¬ (i < c ∧ kk p n i = x)) (ex : kv q m = x) (hv : ¬ v = 0)
    (ep : ∀ j, p' j = if j = i then q else va_cpy p p i (i + 1) (c - i) j) (en : ∀ j, n' j = if j = i then m else va_cpy n n i (i + 1) (c - i) j) (ea : ∀ j, a' j = if j = i then v else va_cpy a a i (i + 1) (c - i) j) : cRep (c + 1) p' n' a' (fUp F x v) := by
  obtain ⟨h1, h2, h3, h4⟩ := id h
  obtain ⟨p1, p2, p3⟩ := id hp
  have bp := ins_at p1 ep
  have bn := ins_at p1 en
  have ba := ins_at p1 ea
  have gt : ∀ j, i ≤ j → j < c → x < kk p n j := by
    intro j hj hjc
    have := p3 (by omega)
    by_cases z : i = j
    · subst z
      have : ¬ kk p n i = x := fun z => hno ⟨hjc, z⟩
      omega
    · have := h2 i j (by omega) hjc
      omega
  have key : ∀ j, j < c + 1 → kk p' n' j = if j < i then kk p n j else if j = i then x else kk p n (j - 1) := by
    intro j hj
    unfold kk
    rw [bp j hj, bn j hj]
    by_cases z1 : j < i
    · rw [if_pos z1, if_pos z1, if_pos z1]
    · rw [if_neg z1, if_neg z1, if_neg z1]
      by_cases z2 : j = i
      · rw [if_pos z2, if_pos z2, if_pos z2]
        exact ex
      · rw [if_neg z2, if_neg z2, if_neg z2]
  refine ⟨by omega, fun j1 j2 hj hjc => ?_, ⟨fun j hj => ?_, fun y hy => ?_⟩, fun j hj => ?_⟩
  · rw [key j1 (by omega), key j2 hjc]
    by_cases z1 : j1 < i <;> by_cases z2 : j2 < i
    · rw [if_pos z1, if_pos z2]
      exact h2 j1 j2 hj (by omega)
    · rw [if_pos z1, if_neg z2]
      by_cases z3 : j2 = i
      · rw [if_pos z3]
        exact p2 j1 z1
      · rw [if_neg z3]
        have := p2 j1 z1
        have := gt (j2 - 1) (by omega) (by omega)
        omega
    · omega
    · rw [if_neg z1, if_neg z2, if_neg (show ¬ j2 = i by omega)]
      by_cases z3 : j1 = i
      · rw [if_pos z3]
        exact gt (j2 - 1) (by omega) (by omega)
      · rw [if_neg z3]
        exact h2 (j1 - 1) (j2 - 1) (by omega) (by omega)
  · rw [key j hj]
    by_cases z1 : j < i
    · rw [if_pos z1, fUp_n (by have := p2 j z1; omega)]
      exact h3.1 j (by omega)
    · rw [if_neg z1]
      by_cases z2 : j = i
      · rw [if_pos z2, fUp_s]
        exact hv
      · rw [if_neg z2, fUp_n (by have := gt (j - 1) (by omega) (by omega); omega)]
        exact h3.1 (j - 1) (by omega)
  · by_cases z : y = x
    · exact ⟨i, by omega, by rw [key i (by omega), if_neg (by omega), if_pos rfl, z]⟩
    · rw [fUp_n z] at hy
      obtain ⟨j, hj, ej⟩ := h3.2 y hy
      by_cases z1 : j < i
      · exact ⟨j, by omega, by rw [key j (by omega), if_pos z1]; exact ej⟩
      · exact ⟨j + 1, by omega, by rw [key (j + 1) (by omega), if_neg (by omega), if_neg (by omega), Nat.add_sub_cancel]; exact ej⟩
  · rw [key j hj, ba j hj]
    by_cases z1 : j < i
    · rw [if_pos z1, if_pos z1, fUp_n (by have := p2 j z1; omega)]
      exact h4 j (by omega)
    · rw [if_neg z1, if_neg z1]
      by_cases z2 : j = i
      · rw [if_pos z2, if_pos z2, fUp_s]
      · rw [if_neg z2, if_neg z2, fUp_n (by have := gt (j - 1) (by omega) (by omega); omega)]
        exact h4 (j - 1) (by omega)
theorem del_at {α : Type} {f : Nat → α} {c i : Nat} (hi : i < c) : ∀ j, j < c - 1 → va_cpy f f (i + 1) i (c - i - 1) j = if j < i then f j else f (j + 1) := by
  intro j hj
  by_cases h1 : j < i
  · rw [if_pos h1, pk_cpy_out (by omega)]
  · rw [if_neg h1, pk_cpy_in (by omega) (by omega)]
    congr 1
    omega
theorem rep_del {c i : Nat} {p : Nat → Int32} {n a : Nat → Int64} {F : Int → Int64} {x : Int} (h : cRep c p n a F) (hi : i < c) (e : kk p n i = x) : cRep (c - 1) (va_cpy p p (i + 1) i (c - i - 1)) (va_cpy n n (i + 1) i (c - i - 1)) (va_cpy a a (i + 1) i (c - i - 1)) (fUp F x 0) := by
  obtain ⟨h1, h2, h3, h4⟩ := id h
  have key : ∀ j, j < c - 1 → kk (va_cpy p p (i + 1) i (c - i - 1)) (va_cpy n n (i + 1) i (c - i - 1)) j = if j < i then kk p n j else kk p n (j + 1) := by
    intro j hj
    unfold kk
    rw [del_at hi j hj, del_at hi j hj]
    by_cases z1 : j < i
    · rw [if_pos z1, if_pos z1, if_pos z1]
    · rw [if_neg z1, if_neg z1, if_neg z1]
  have nx : ∀ j, j < c → ¬ j = i → ¬ kk p n j = x := fun j hj z q => z (eS_I h2 j i hj hi (q.trans e.symm))
  refine ⟨by omega, fun j1 j2 hj hjc => ?_, ⟨fun j hj => ?_, fun y hy => ?_⟩, fun j hj => ?_⟩
  · rw [key j1 (by omega), key j2 hjc]
    by_cases z1 : j1 < i <;> by_cases z2 : j2 < i
    · rw [if_pos z1, if_pos z2]
      exact h2 j1 j2 hj (by omega)
    · rw [if_pos z1, if_neg z2]
      exact h2 j1 (j2 + 1) (by omega) (by omega)
    · omega
    · rw [if_neg z1, if_neg z2]
      exact h2 (j1 + 1) (j2 + 1) (by omega) (by omega)
  · rw [key j hj]
    by_cases z1 : j < i
    · rw [if_pos z1, fUp_n (nx j (by omega) (by omega))]
      exact h3.1 j (by omega)
    · rw [if_neg z1, fUp_n (nx (j + 1) (by omega) (by omega))]
      exact h3.1 (j + 1) (by omega)
  · have z : ¬ y = x := fun q => hy (by rw [q, fUp_s])
    rw [fUp_n z] at hy
    obtain ⟨j, hj, ej⟩ := h3.2 y hy
    have ji : ¬ j = i := fun q => z (by rw [← ej, q, e])
    by_cases z1 : j < i
    · exact ⟨j, by omega, by rw [key j (by omega), if_pos z1]; exact ej⟩
    · exact ⟨j - 1, by omega, by rw [key (j - 1) (by omega), if_neg (by omega), show j - 1 + 1 = j by omega]; exact ej⟩
  · rw [key j hj, del_at hi j hj]
    by_cases z1 : j < i
    · rw [if_pos z1, if_pos z1, fUp_n (nx j (by omega) (by omega))]
      exact h4 j (by omega)
    · rw [if_neg z1, if_neg z1, fUp_n (nx (j + 1) (by omega) (by omega))]
      exact h4 (j + 1) (by omega)
/-- a full BAG takes no further KIND -/
theorem full_not {c : Nat} {p : Nat → Int32} {n a : Nat → Int64} {F : Int → Int64} {x : Int} {v : Int64} (h : mRep c p n a F) (hc : 64 ≤ c) (h0 : F x = 0) (hv : ¬ v = 0) : ¬ eC (fUp F x v) := by
  obtain ⟨h2, h3, -⟩ := h
  have hx : ∀ i, i < c → ¬ kk p n i = x := fun i hi e => h3.1 i hi (by rw [e]; exact h0)
  refine eC_not (c := c + 1) (k := fun j => if j = c then x else kk p n j) (fun i j hi hj e => ?_) (fun i hi => ?_) (by omega)
  · have e : (if i = c then x else kk p n i) = (if j = c then x else kk p n j) := e
    by_cases z : i = c <;> by_cases y : j = c
    · omega
    · rw [if_pos z, if_neg y] at e
      exact absurd e.symm (hx j (by omega))
    · rw [if_neg z, if_pos y] at e
      exact absurd e (hx i (by omega))
    · rw [if_neg z, if_neg y] at e
      exact h2 i j (by omega) (by omega) e
  · show ¬ fUp F x v (if i = c then x else kk p n i) = 0
    by_cases z : i = c
    · rw [if_pos z, fUp_s]
      exact hv
    · rw [if_neg z, fUp_n (hx i (by omega))]
      exact h3.1 i (by omega)
theorem eC_sub {G : Int → Int64} {S : Int → Prop} (h : eC G) : eC (gS G S) := by
  obtain ⟨c, k, hc, h1⟩ := h
  refine ⟨c, k, hc, fun x hx => h1 x (fun z => hx ?_)⟩
  by_cases q : S x
  · rw [gS_y q, z]
  · exact gS_no q
/-- what has been laid so far lies ahead of the next KIND -/
theorem gS_lt {c c0 i : Nat} {p : Nat → Int32} {n a : Nat → Int64} {G : Int → Int64} {k : Nat → Int} (h : cRep c p n a (gS G (sU k i))) (hk : eS c0 k) (hi : i < c0) : ∀ t, t < c → kk p n t < k i := by
  intro t ht
  have h1 := h.2.2.1.1 t ht
  by_cases q : sU k i (kk p n t)
  · obtain ⟨j, hj, e⟩ := q
    rw [← e]
    exact hk j i hj hi
  · exact absurd (gS_no q) h1
theorem gS_fresh {c0 i : Nat} {G : Int → Int64} {k : Nat → Int} (hk : eI c0 k) (hi : i < c0) : gS G (sU k i) (k i) = 0 := by
  refine gS_no (fun ⟨j, hj, e⟩ => ?_)
  have := hk j i (by omega) hi e
  omega
/-- laid one more -/
theorem lay_y {c c0 i : Nat} {p : Nat → Int32} {n a : Nat → Int64} {G : Int → Int64} {k : Nat → Int} {q : Int32} {m : Int64} (h : cRep c p n a (gS G (sU k i))) (hk : eS c0 k) (hi : i < c0) (e : k i = kv q m) (hc : c < 64) (hv : ¬ G (k i) = 0) : cRep (c + 1) (upd p c q) (vp_updL n c m) (vp_updL a c (G (k i))) (gS G (sU k (i + 1))) := by
  rw [gS_step, e]
  rw [e] at hv
  exact cRep_app h hc (fun t ht => by rw [← e]; exact gS_lt h hk hi t ht) hv
theorem lay_n {c i : Nat} {p : Nat → Int32} {n a : Nat → Int64} {G : Int → Int64} {k : Nat → Int} (h : cRep c p n a (gS G (sU k i))) (hv : G (k i) = 0) : cRep c p n a (gS G (sU k (i + 1))) := by
  rw [gS_step0 hv]
  exact h
theorem lay_full {c c0 i : Nat} {p : Nat → Int32} {n a : Nat → Int64} {G : Int → Int64} {k : Nat → Int} (h : cRep c p n a (gS G (sU k i))) (hk : eS c0 k) (hi : i < c0) (hc : 64 ≤ c) (hv : ¬ G (k i) = 0) : ¬ eC G := fun z =>
  full_not (cRep_M h) hc (gS_fresh (eS_I hk) hi) hv (gS_step ▸ eC_sub (S := sU k (i + 1)) z)
theorem lay_0 {G : Int → Int64} {k : Nat → Int} (p : Nat → Int32) (n a : Nat → Int64) : cRep 0 p n a (gS G (sU k 0)) := by
  rw [gS_none sU_0]
  exact cRep_0 p n a
theorem lay_end {c c0 : Nat} {p : Nat → Int32} {n a : Nat → Int64} {G : Int → Int64} {k : Nat → Int} (h : cRep c p n a (gS G (sU k c0))) (hG : ∀ x, ¬ G x = 0 → ∃ j, j < c0 ∧ k j = x) : cRep c p n a G := by
  rw [gS_all (S := sU k c0) hG] at h
  exact h
/-! two sorted rows laid side by side -/
def pRep (c : Nat) (p : Nat → Int32) (n L R : Nat → Int64) (Fa Fb : Int → Int64) : Prop := eS c (kk p n) ∧ (∀ i, i < c → L i = Fa (kk p n i) ∧ R i = Fb (kk p n i)) ∧ ∀ x, (¬ Fa x = 0 ∨ ¬ Fb x = 0) → ∃ i, i < c ∧ kk p n i = x
/-- i of the first and j of the second have been laid: c rows -/
def mG (ca : Nat) (ka : Nat → Int) (Fa : Int → Int64) (cb : Nat) (kb : Nat → Int) (Fb : Int → Int64) (i j c : Nat) (p : Nat → Int32) (n L R : Nat → Int64) : Prop :=
  (i ≤ ca ∧ j ≤ cb ∧ c ≤ i + j) ∧ eS c (kk p n) ∧ (∀ t, t < c → L t = Fa (kk p n t) ∧ R t = Fb (kk p n t)) ∧ (∀ t, t < c → (i < ca → kk p n t < ka i) ∧ (j < cb → kk p n t < kb j)) ∧ (∀ t, t < i → ∃ u, u < c ∧ kk p n u = ka t) ∧ ∀ t, t < j → ∃ u, u < c ∧ kk p n u = kb t
theorem mG_0 {ca cb : Nat} {ka kb : Nat → Int} {Fa Fb : Int → Int64} (p : Nat → Int32) (n L R : Nat → Int64) : mG ca ka Fa cb kb Fb 0 0 0 p n L R :=
  ⟨⟨by omega, by omega, by omega⟩, fun i j _ h => absurd h (Nat.not_lt_zero _), fun i h => absurd h (Nat.not_lt_zero _), fun i h => absurd h (Nat.not_lt_zero _), fun i h => absurd h (Nat.not_lt_zero _), fun i h => absurd h (Nat.not_lt_zero _)⟩
theorem mG_step {ca cb : Nat} {ka kb : Nat → Int} {Fa Fb : Int → Int64} {i j i' j' c : Nat} {p : Nat → Int32} {n L R : Nat → Int64} {q : Int32} {m lv rv : Int64} (h : mG ca ka Fa cb kb Fb i j c p n L R) (hlt : ∀ t, t < c → kk p n t < kv q m) (eL : lv = Fa (kv q m)) (eR : rv = Fb (kv q m))
    (hi : i' = i ∨ (i' = i + 1 ∧ i < ca ∧ ka i = kv q m)) (hj : j' = j ∨ (j' = j + 1 ∧ j < cb ∧ kb j = kv q m)) (hne : i + j < i' + j') (ha : i' < ca → kv q m < ka i') (hb : j' < cb → kv q m < kb j') : mG ca ka Fa cb kb Fb i' j' (c + 1) (upd p c q) (vp_updL n c m) (vp_updL L c lv) (vp_updL R c rv) := by
  obtain ⟨⟨g1, g2, g3⟩, g4, g5, g6, g7, g8⟩ := h
  refine ⟨⟨by omega, by omega, by omega⟩, fun a b hab hbc => ?_, fun t ht => ?_, fun t ht => ?_, fun t ht => ?_, fun t ht => ?_⟩
  · by_cases z : b = c
    · rw [z, kk_app_s, kk_app_n (by omega)]
      exact hlt a (by omega)
    · rw [kk_app_n (by omega), kk_app_n (by omega)]
      exact g4 a b hab (by omega)
  · by_cases z : t = c
    · rw [z, kk_app_s, pk_uLs, pk_uLs]
      exact ⟨eL, eR⟩
    · rw [kk_app_n (by omega), pk_uLn z, pk_uLn z]
      exact g5 t (by omega)
  · by_cases z : t = c
    · rw [z, kk_app_s]
      exact ⟨ha, hb⟩
    · rw [kk_app_n (by omega)]
      have := hlt t (by omega)
      exact ⟨fun w => by have := ha w; omega, fun w => by have := hb w; omega⟩
  · rcases hi with e | ⟨e, hic, ek⟩
    · obtain ⟨u, hu, eu⟩ := g7 t (by omega)
      exact ⟨u, by omega, by rw [kk_app_n hu]; exact eu⟩
    · by_cases z : t = i
      · exact ⟨c, by omega, by rw [kk_app_s, z]; exact ek.symm⟩
      · obtain ⟨u, hu, eu⟩ := g7 t (by omega)
        exact ⟨u, by omega, by rw [kk_app_n hu]; exact eu⟩
  · rcases hj with e | ⟨e, hjc, ek⟩
    · obtain ⟨u, hu, eu⟩ := g8 t (by omega)
      exact ⟨u, by omega, by rw [kk_app_n hu]; exact eu⟩
    · by_cases z : t = j
      · exact ⟨c, by omega, by rw [kk_app_s, z]; exact ek.symm⟩
      · obtain ⟨u, hu, eu⟩ := g8 t (by omega)
        exact ⟨u, by omega, by rw [kk_app_n hu]; exact eu⟩
/-- a KIND that lies between the laid and the rest isn't there -/
theorem mG_no {cb j c : Nat} {kb k : Nat → Int} {Fb : Int → Int64} {x : Int} (hs : eS cb kb) (hF : eF cb kb Fb) (hcov : ∀ t, t < j → ∃ u, u < c ∧ k u = kb t) (hlt : ∀ u, u < c → k u < x) (hx : j < cb → x < kb j) : Fb x = 0 := by
  by_cases z : Fb x = 0
  · exact z
  · obtain ⟨t, ht, et⟩ := hF.2 x z
    by_cases q : t < j
    · obtain ⟨u, hu, eu⟩ := hcov t q
      have := hlt u hu
      omega
    · have h1 := hx (by omega)
      by_cases w : t = j
      · subst w
        omega
      · have := hs j t (by omega) ht
        omega
theorem mG_end {ca cb c : Nat} {ka kb : Nat → Int} {Fa Fb : Int → Int64} {p : Nat → Int32} {n L R : Nat → Int64} (hFa : eF ca ka Fa) (hFb : eF cb kb Fb) (h : mG ca ka Fa cb kb Fb ca cb c p n L R) : pRep c p n L R Fa Fb := by
  obtain ⟨-, g4, g5, -, g7, g8⟩ := h
  refine ⟨g4, g5, fun x hx => ?_⟩
  rcases hx with hx | hx
  · obtain ⟨t, ht, et⟩ := hFa.2 x hx
    obtain ⟨u, hu, eu⟩ := g7 t ht
    exact ⟨u, hu, eu.trans et⟩
  · obtain ⟨t, ht, et⟩ := hFb.2 x hx
    obtain ⟨u, hu, eu⟩ := g8 t ht
    exact ⟨u, hu, eu.trans et⟩
/-! promise 13 -/
theorem cmp_iff {c : Nat} {p : Nat → Int32} {n L R : Nat → Int64} {Fa Fb : Int → Int64} (h : pRep c p n L R Fa Fb) : ((∃ i, i < c ∧ R i < L i) ↔ ∃ x, Fb x < Fa x) ∧ ((∃ i, i < c ∧ L i < R i) ↔ ∃ x, Fa x < Fb x) := by
  obtain ⟨-, h2, h3⟩ := h
  have up : ∀ x, ¬ Fa x = Fb x → ∃ i, i < c ∧ kk p n i = x := fun x hx => h3 x (by
    by_cases z : Fa x = 0
    · exact Or.inr (fun y => hx (by rw [z, y]))
    · exact Or.inl z)
  constructor
  · constructor
    · rintro ⟨i, hi, h⟩
      exact ⟨kk p n i, by rw [← (h2 i hi).1, ← (h2 i hi).2]; exact h⟩
    · rintro ⟨x, hx⟩
      obtain ⟨i, hi, e⟩ := up x (fun z => by rw [z] at hx; exact absurd hx (Int64.lt_irrefl))
      exact ⟨i, hi, by rw [(h2 i hi).1, (h2 i hi).2, e]; exact hx⟩
  · constructor
    · rintro ⟨i, hi, h⟩
      exact ⟨kk p n i, by rw [← (h2 i hi).1, ← (h2 i hi).2]; exact h⟩
    · rintro ⟨x, hx⟩
      obtain ⟨i, hi, e⟩ := up x (fun z => by rw [z] at hx; exact absurd hx (Int64.lt_irrefl))
      exact ⟨i, hi, by rw [(h2 i hi).1, (h2 i hi).2, e]; exact hx⟩
/-! the reference's rows -/
theorem mlay_y {c : Nat} {p : Nat → Int32} {n a : Nat → Int64} {G : Int → Int64} {S : Int → Prop} {q : Int32} {m : Int64} (h : mRep c p n a (gS G S)) (hx : ¬ S (kv q m)) (hv : ¬ G (kv q m) = 0) : mRep (c + 1) (upd p c q) (vp_updL n c m) (vp_updL a c (G (kv q m))) (gS G (fun y => S y ∨ y = kv q m)) := by
  rw [gS_add]
  exact mRep_app h (gS_no hx) hv
theorem mlay_n {c : Nat} {p : Nat → Int32} {n a : Nat → Int64} {G : Int → Int64} {S : Int → Prop} {x : Int} (h : mRep c p n a (gS G S)) (hv : G x = 0) : mRep c p n a (gS G (fun y => S y ∨ y = x)) := by
  rw [gS_skip hv]
  exact h
theorem mRep_cg {c : Nat} {p p' : Nat → Int32} {n n' a a' : Nat → Int64} {F : Int → Int64} (h : mRep c p n a F) (e : ∀ i, i < c → p' i = p i ∧ n' i = n i ∧ a' i = a i) : mRep c p' n' a' F := by
  obtain ⟨h1, h2, h3⟩ := h
  have ek : ∀ i, i < c → kk p' n' i = kk p n i := fun i hi => by
    unfold kk
    rw [(e i hi).1, (e i hi).2.1]
  refine ⟨fun i j hi hj q => h1 i j hi hj (by rw [← ek i hi, ← ek j hj]; exact q), ⟨fun i hi => by rw [ek i hi]; exact h2.1 i hi, fun x hx => ?_⟩, fun i hi => by rw [(e i hi).2.2, ek i hi]; exact h3 i hi⟩
  obtain ⟨i, hi, q⟩ := h2.2 x hx
  exact ⟨i, hi, by rw [ek i hi]; exact q⟩
theorem mlook_y {c i : Nat} {p : Nat → Int32} {n a : Nat → Int64} {F : Int → Int64} {x : Int} (h : mRep c p n a F) (hi : i < c) (e : kk p n i = x) : F x = a i := by
  rw [h.2.2 i hi, e]
theorem mlook_n {c : Nat} {p : Nat → Int32} {n a : Nat → Int64} {F : Int → Int64} {x : Int} (h : mRep c p n a F) (hno : ∀ i, i < c → ¬ kk p n i = x) : F x = 0 := by
  by_cases z : F x = 0
  · exact z
  · obtain ⟨i, hi, e⟩ := h.2.1.2 x z
    exact absurd e (hno i hi)
theorem mRep_set {c i : Nat} {p : Nat → Int32} {n a a' : Nat → Int64} {F : Int → Int64} {x : Int} {v : Int64} (h : mRep c p n a F) (hi : i < c) (e : kk p n i = x) (hv : ¬ v = 0) (ea : ∀ j, j < c → a' j = if j = i then v else a j) : mRep c p n a' (fUp F x v) := by
  obtain ⟨h2, h3, h4⟩ := h
  refine ⟨h2, ⟨fun j hj => ?_, fun y hy => ?_⟩, fun j hj => ?_⟩
  · by_cases z : kk p n j = x
    · rw [z, fUp_s]
      exact hv
    · rw [fUp_n z]
      exact h3.1 j hj
  · by_cases z : y = x
    · exact ⟨i, hi, by rw [e, z]⟩
    · rw [fUp_n z] at hy
      exact h3.2 y hy
  · rw [ea j hj]
    by_cases z : j = i
    · rw [if_pos z, z, e, fUp_s]
    · rw [if_neg z, fUp_n (fun q => z (h2 j i hj hi (q.trans e.symm)))]
      exact h4 j hj
/-- the last one comes into the gap -/
theorem mRep_del {c i : Nat} {p p' : Nat → Int32} {n n' a a' : Nat → Int64} {F : Int → Int64} {x : Int} (h : mRep c p n a F) (hi : i < c) (e : kk p n i = x) (e' : ∀ j, j < c - 1 → p' j = (if j = i then p (c - 1) else p j) ∧ n' j = (if j = i then n (c - 1) else n j) ∧ a' j = (if j = i then a (c - 1) else a j)) : mRep (c - 1) p' n' a' (fUp F x 0) := by
  obtain ⟨h2, h3, h4⟩ := h
  have key : ∀ j, j < c - 1 → kk p' n' j = if j = i then kk p n (c - 1) else kk p n j := by
    intro j hj
    unfold kk
    rw [(e' j hj).1, (e' j hj).2.1]
    by_cases z : j = i
    · rw [if_pos z, if_pos z, if_pos z]
    · rw [if_neg z, if_neg z, if_neg z]
  have nx : ∀ j, j < c → ¬ j = i → ¬ kk p n j = x := fun j hj z q => z (h2 j i hj hi (q.trans e.symm))
  refine ⟨fun j1 j2 hj1 hj2 q => ?_, ⟨fun j hj => ?_, fun y hy => ?_⟩, fun j hj => ?_⟩
  · rw [key j1 hj1, key j2 hj2] at q
    by_cases z1 : j1 = i <;> by_cases z2 : j2 = i
    · omega
    · rw [if_pos z1, if_neg z2] at q
      have := h2 _ _ (by omega) (by omega) q
      omega
    · rw [if_neg z1, if_pos z2] at q
      have := h2 _ _ (by omega) (by omega) q
      omega
    · rw [if_neg z1, if_neg z2] at q
      exact h2 _ _ (by omega) (by omega) q
  · rw [key j hj]
    by_cases z : j = i
    · rw [if_pos z, fUp_n (nx (c - 1) (by omega) (by omega))]
      exact h3.1 _ (by omega)
    · rw [if_neg z, fUp_n (nx j (by omega) z)]
      exact h3.1 _ (by omega)
  · have z : ¬ y = x := fun q => hy (by rw [q, fUp_s])
    rw [fUp_n z] at hy
    obtain ⟨j, hj, ej⟩ := h3.2 y hy
    have ji : ¬ j = i := fun q => z (by rw [← ej, q, e])
    by_cases z1 : j = c - 1
    · exact ⟨i, by omega, by rw [key i (by omega), if_pos rfl, ← z1]; exact ej⟩
    · exact ⟨j, by omega, by rw [key j (by omega), if_neg ji]; exact ej⟩
  · rw [key j hj, (e' j hj).2.2]
    by_cases z : j = i
    · rw [if_pos z, if_pos z, fUp_n (nx (c - 1) (by omega) (by omega))]
      exact h4 _ (by omega)
    · rw [if_neg z, if_neg z, fUp_n (nx j (by omega) z)]
      exact h4 _ (by omega)
/-- a row of more than 64 KINDS is too many -/
theorem mRep_big {c : Nat} {p : Nat → Int32} {n a : Nat → Int64} {F : Int → Int64} (h : mRep c p n a F) (hc : 64 < c) : ¬ eC F := eC_not h.1 h.2.1.1 hc
theorem mRep_C {c : Nat} {p : Nat → Int32} {n a : Nat → Int64} {F : Int → Int64} (h : mRep c p n a F) (hc : c ≤ 64) : eC F := eC_of h.2.1.2 hc
/-- a setting to 0 or over what is there never is too much -/
theorem up_C0 {F : Int → Int64} {x : Int} {v : Int64} (h : eC F) (hv : v = 0 ∨ ¬ F x = 0) : eC (fUp F x v) := by
  obtain ⟨c, k, hc, h1⟩ := h
  refine ⟨c, k, hc, fun y hy => ?_⟩
  by_cases z : y = x
  · rw [z, fUp_s] at hy
    rw [z]
    exact h1 x (hv.resolve_left hy)
  · rw [fUp_n z] at hy
    exact h1 y hy
theorem fUp_0 {F : Int → Int64} {x : Int} (h : F x = 0) : fUp F x 0 = F := by
  funext y
  by_cases z : y = x
  · rw [z, fUp_s, h]
  · rw [fUp_n z]
/-- the class's way to promise 15: what its loop holds gives the answer -/
theorem into_c {c : Nat} {p : Nat → Int32} {n L R : Nat → Int64} {Fa Fb : Int → Int64} (h : pRep c p n L R Fa Fb) {most few : Int64}
    (h1 : ∀ j, j < c → 0 < R j → (0 ≤ (L j).toInt → most.toInt ≤ iQ (L j) (R j)) ∧ (L j < 0 → most < 0))
    (h2 : (most < 0 ∧ ∃ j, j < c ∧ 0 < R j ∧ L j < 0) ∨ (∃ j, j < c ∧ 0 < R j ∧ 0 ≤ (L j).toInt ∧ most.toInt = iQ (L j) (R j)))
    (h3 : ∀ j, j < c → ¬ 0 < R j → ¬ iB (L j) (R j) ∧ iN (L j) (R j) ≤ few.toInt) (h4 : few.toInt = 0 ∨ ∃ j, j < c ∧ ¬ 0 < R j ∧ few.toInt = iN (L j) (R j)) :
    (few ≤ most → iR Fa Fb most) ∧ (¬ few ≤ most → iR Fa Fb (-1)) := by
  obtain ⟨-, g2, g3⟩ := h
  have few0 : 0 ≤ few.toInt := by
    rcases h4 with e | ⟨j, -, -, e⟩
    · omega
    · rw [e]
      exact iN_0 _ _
  constructor
  · intro hle
    rw [Int64.le_iff_toInt_le] at hle
    have mn : ¬ most < 0 := fun z => by
      have := z_lt0.mp z
      omega
    have pos : ∀ j, j < c → 0 < R j → ¬ L j < 0 := fun j hj hR z => mn ((h1 j hj hR).2 z)
    rcases h2 with ⟨z, -⟩ | ⟨j0, hj0, hR0, hL0, e0⟩
    · exact absurd z mn
    · refine Or.inr ⟨fun x hb => ?_, ⟨kk p n j0, ?_, ?_⟩, fun x hx => ?_, fun x => ?_⟩
      · by_cases z : ¬ Fa x = 0 ∨ ¬ Fb x = 0
        · obtain ⟨j, hj, e⟩ := g3 x z
          rw [← e, ← (g2 j hj).1, ← (g2 j hj).2] at hb
          by_cases q : 0 < R j
          · rcases hb with ⟨b1, -⟩ | ⟨-, b2⟩
            · exact pos j hj q b1
            · rw [b2] at q
              exact absurd q (by decide)
          · exact (h3 j hj q).1 hb
        · have za : Fa x = 0 := Classical.byContradiction fun q => z (Or.inl q)
          rw [za] at hb
          rcases hb with ⟨b1, -⟩ | ⟨b1, -⟩
          · exact absurd b1 (by decide)
          · exact absurd b1 (by decide)
      · rw [← (g2 j0 hj0).2]
        exact hR0
      · rw [← (g2 j0 hj0).1, ← (g2 j0 hj0).2]
        exact e0
      · obtain ⟨j, hj, e⟩ := g3 x (Or.inr (fun z => by rw [z] at hx; exact absurd hx (by decide)))
        rw [← e, ← (g2 j hj).1, ← (g2 j hj).2]
        rw [← e, ← (g2 j hj).2] at hx
        have := pos j hj hx
        exact (h1 j hj hx).1 (Int.not_lt.mp (fun z => this (z_lt0.mpr z)))
      · by_cases z : ¬ Fa x = 0 ∨ ¬ Fb x = 0
        · obtain ⟨j, hj, e⟩ := g3 x z
          rw [← e, ← (g2 j hj).1, ← (g2 j hj).2]
          by_cases q : 0 < R j
          · rw [iN_pos (fun w => absurd (z_lt0.mp w.2) (by have := z_0lt.mp q; omega))]
            omega
          · have := (h3 j hj q).2
            omega
        · have za : Fa x = 0 := Classical.byContradiction fun q => z (Or.inl q)
          rw [za, iN_pos (fun w => absurd w.1 (by decide))]
          omega
  · intro hle
    refine Or.inl ⟨rfl, ?_⟩
    rw [Int64.le_iff_toInt_le] at hle
    rcases h2 with ⟨-, j, hj, hR, hL⟩ | ⟨j0, hj0, hR0, hL0, e0⟩
    · exact Or.inl ⟨kk p n j, by rw [← (g2 j hj).1, ← (g2 j hj).2]; exact Or.inl ⟨hL, Int64.le_iff_toInt_le.mpr (by rw [z_0]; have := z_0lt.mp hR; omega)⟩⟩
    · have q0 : 0 ≤ iQ (L j0) (R j0) := z_tdiv_pp hL0 (by have := z_0lt.mp hR0; omega)
      rcases h4 with e | ⟨j, hj, -, e⟩
      · omega
      · exact Or.inr (Or.inr ⟨kk p n j0, kk p n j, by rw [← (g2 j0 hj0).2]; exact hR0, by rw [← (g2 j0 hj0).1, ← (g2 j0 hj0).2, ← (g2 j hj).1, ← (g2 j hj).2]; omega⟩)
theorem into_no {c : Nat} {p : Nat → Int32} {n L R : Nat → Int64} {Fa Fb : Int → Int64} (h : pRep c p n L R Fa Fb) (h1 : ∀ j, j < c → ¬ 0 < R j) : iR Fa Fb (-1) := by
  obtain ⟨-, g2, g3⟩ := h
  refine Or.inl ⟨rfl, Or.inr (Or.inl fun x hx => ?_)⟩
  obtain ⟨j, hj, e⟩ := g3 x (Or.inr (fun z => by rw [z] at hx; exact absurd hx (by decide)))
  exact h1 j hj (by rw [(g2 j hj).2, e]; exact hx)
theorem into_bad {c j : Nat} {p : Nat → Int32} {n L R : Nat → Int64} {Fa Fb : Int → Int64} (h : pRep c p n L R Fa Fb) (hj : j < c) (h1 : iB (L j) (R j)) : iR Fa Fb (-1) := by
  obtain ⟨-, g2, -⟩ := h
  refine Or.inl ⟨rfl, Or.inl ⟨kk p n j, ?_⟩⟩
  rw [← (g2 j hj).1, ← (g2 j hj).2]
  exact h1
end
section
/-! One world for all: the cells at the addresses ad 0 .. ad (n - 1), the k-th holding w k. -/
def wsW (n : Nat) (ad : Nat → Nat) (w : Nat → va_E) : va_W := (List.range n).map (fun k => (ad k, w k))
theorem wsW_len (n : Nat) (ad : Nat → Nat) (w : Nat → va_E) : (wsW n ad w).length = n := by
  rw [wsW, List.length_map, List.length_range]
theorem wsW_get {n : Nat} {ad : Nat → Nat} {w : Nat → va_E} {k : Nat} (h : k < n) : (wsW n ad w)[k]? = some (ad k, w k) := by
  rw [wsW, List.getElem?_map, List.getElem?_range h]
  rfl
theorem wsW_at {n : Nat} {ad : Nat → Nat} {w : Nat → va_E} {k : Nat} {e : va_E} (h : k < n) (hw : w k = e) : (wsW n ad w)[k]? = some (ad k, e) := by
  rw [wsW_get h, hw]
theorem wsW_set {n : Nat} {ad : Nat → Nat} {w : Nat → va_E} {k : Nat} {e : va_E} (h : k < n) : (wsW n ad w).set k (ad k, e) = wsW n ad (va_up w k e) := by
  apply List.ext_getElem?
  intro j
  by_cases hj : j = k
  · subst hj
    rw [List.getElem?_set_self (by rw [wsW_len]; exact h), wsW_get h, va_up_self]
  · rw [List.getElem?_set_ne (Ne.symm hj)]
    by_cases hn : j < n
    · rw [wsW_get hn, wsW_get hn, va_up_ne _ _ hj]
    · rw [List.getElem?_eq_none (by rw [wsW_len]; omega), List.getElem?_eq_none (by rw [wsW_len]; omega)]
theorem wsW_push {n : Nat} {ad : Nat → Nat} {w : Nat → va_E} {q : Nat} {e : va_E} : wsW n ad w ++ [(q, e)] = wsW (n + 1) (va_up ad n q) (va_up w n e) := by
  rw [wsW, wsW, List.range_succ, List.map_append]
  congr 1
  · apply List.map_congr_left
    intro k hk
    have : k ≠ n := by
      have := List.mem_range.mp hk
      omega
    rw [va_up_ne _ _ this, va_up_ne _ _ this]
  · show [(q, e)] = [(va_up ad n q n, va_up w n e n)]
    rw [va_up_self, va_up_self]
/-- the world, and that nothing else of the old has changed -/
def sZ (D : va_G) (cl : List vw_C) (n : Nat) (ad : Nat → Nat) (A : Nat → Prop) (H0 : Heap) (w : Nat → va_E) (H : Heap) (locs : List Loc) : Prop := va_P D cl (wsW n ad w) H ∧ va_D A (wsW n ad w) ∧ va_S A H0 H locs
/-! what holds of the start and stays: words that aren't kept by the list, the statics and the texts that a throw uses -/
def fW : List Cond := lw_tbl.filter (fun w => w.onTables && w.keepsFace)
def sAm (N0 : Nat) (U : State) : Prop :=
  (∀ w ∈ fW, va_Nw w U) ∧ va_Nw (.methodLinkNest "CoinBag" 15 y_Bag_init "CoinBag") U ∧ va_Nw (.methodLinkNest "CoinBag" 18 y_Prs_init "CoinBag") U ∧ va_Nw (.methodLinkNest "CoinBag$Bag" 41 y_CB_orderOf "CoinBag") U ∧ va_Nw (.methodLinkNest "CoinBag$Pairs" 41 y_CB_orderOf "CoinBag") U ∧
  vx_Zq Bundle.tN "UNASSIGNED_STACK" Bundle.steD (fun q => N0 ≤ q) U U.heap ∧ vx_Zq Bundle.tN "SUPPRESSED_SENTINEL" Bundle.listD (fun q => N0 ≤ q) U U.heap ∧
  (∃ a, vk_R "CoinBag" 128 "there is no such BAG" a U) ∧ (∃ a, vk_R "CoinBag" 133 "there is no such POLICY" a U) ∧ (∃ a, vk_R "CoinBag" 79 "there is no such KIND" a U) ∧ (∃ a, vk_R "CoinBag" 84 "there is no such what" a U) ∧
  va_Nc "java/lang/IllegalArgumentException" "java/lang/IndexOutOfBoundsException" U
theorem nw_mv {w : Cond} {s U : State} (h1 : w.onTables = true) (h2 : w.keepsFace = true) (hW : s.WarmedH U.vm) (h : va_Nw w s) : va_Nw w U := va_tabs h1 (rfl : (s.setVm U.vm).vm = U.vm) (Cond.before_shiftedFace (State.Shifted.of_warmed hW) _ h2 h)
theorem sAm_mv {N0 : Nat} {s t : State} {H : Heap} {locs : List Loc} (h : sAm N0 s) (hS : va_S (fun q => N0 ≤ q) s.heap H locs) (ht : t.heap = H) (hW : s.WarmedH t.vm) : sAm N0 t := by
  obtain ⟨h0, h1, h2, h3, h4, h5, h6, ⟨a7, h7⟩, ⟨a8, h8⟩, ⟨a9, h9⟩, ⟨a10, h10⟩, h11⟩ := h
  refine ⟨fun w hw => ?_, va_Nw.warmM hW h1, va_Nw.warmM hW h2, va_Nw.warmM hW h3, va_Nw.warmM hW h4, ?_, ?_, ⟨a7, vk_R.warm hW h7⟩, ⟨a8, vk_R.warm hW h8⟩, ⟨a9, vk_R.warm hW h9⟩, ⟨a10, vk_R.warm hW h10⟩, h11.moved hW.alike⟩
  · have hw' := (List.mem_filter.mp hw).2
    simp only [Bool.and_eq_true] at hw'
    exact nw_mv hw'.1 hw'.2 hW (h0 w hw)
  · rw [ht]
    exact vx_Zq.moved hW.alike (h5.kept hS.2.1)
  · rw [ht]
    exact vx_Zq.moved hW.alike (h6.kept hS.2.1)
theorem sAm_call {N0 : Nat} {U : State} {g : JFrame} {mk : MethodId} {a : Array Value} (h : sAm N0 U) : sAm N0 (U.calling g mk a) :=
  sAm_mv (H := U.heap) (locs := []) h va_S.rf rfl (State.WarmedH.refl U)
/-- what a method finds, and leaves: the world w -/
def sPr (D : va_G) (cl : List vw_C) (tys : List (ClassId × FieldType)) (n : Nat) (ad : Nat → Nat) (N0 : Nat) (w : Nat → va_E) (U : State) : Prop := va_P D cl (wsW n ad w) U.heap ∧ va_K D cl tys U ∧ va_D (fun q => N0 ≤ q) (wsW n ad w) ∧ N0 ≤ U.heap.size ∧ sAm N0 U
theorem sPr.blind {D : va_G} {cl : List vw_C} {tys : List (ClassId × FieldType)} {n : Nat} {ad : Nat → Nat} {N0 : Nat} {w : Nat → va_E} {av : List Value} : FrameBlind (va_Pc av (sPr D cl tys n ad N0 w)) := by
  intro a U g mk q
  obtain ⟨q0, qP, qK, qD, qN, qA⟩ := q
  exact ⟨q0, qP, va_K.moved (u := U) (U := U.calling g mk a) (Vm.Alike.refl U.vm) qK, qD, qN, sAm_call qA⟩
/-! words of the one list -/
theorem gm {c w : Cond} (h : w ∈ gW) : w ∈ c :: gW := List.mem_cons_of_mem _ h
theorem gI {c c2 : Cond} (h : c2 ∈ gW) : GoodIn (c :: gW) (c2 :: gW) := fun w hw => by
  rcases List.mem_cons.mp hw with e | e
  · rw [e]
    exact ⟨gm h, good_of_word (gW_good h)⟩
  · exact ⟨gm e, good_of_word (gW_good e)⟩
theorem gI_S {c c2 : Cond} {own : String} {idx : Nat} {y : MethodName} (h : c2 ∈ gW) (h1 : .methodLink own idx y ∈ gW) (h2 : .static y ∈ gW) (h3 : .initialized y.cls ∈ gW) : GoodIn (c :: gW) (va_wsS own idx y (c2 :: gW)) := fun w hw => by
  unfold va_wsS at hw
  rcases List.mem_append.mp hw with e | e
  · have : w ∈ gW := by
      simp only [List.mem_cons, List.not_mem_nil, or_false] at e
      rcases e with e | e | e <;> (rw [e]; assumption)
    exact ⟨gm this, good_of_word (gW_good this)⟩
  · exact gI h w e
theorem gI_V {c c2 : Cond} {own C : String} {idx : Nat} {y : MethodName} (h : c2 ∈ gW) (h1 : .methodLink own idx y ∈ gW) (h2 : .instanceMethod y ∈ gW) (h3 : .selects C y y ∈ gW) (h4 : .initialized C ∈ gW) : GoodIn (c :: gW) (wsV own idx C y (c2 :: gW)) := fun w hw => by
  unfold wsV at hw
  rcases List.mem_append.mp hw with e | e
  · have : w ∈ gW := by
      simp only [List.mem_cons, List.not_mem_nil, or_false] at e
      rcases e with e | e | e | e <;> (rw [e]; assumption)
    exact ⟨gm this, good_of_word (gW_good this)⟩
  · exact gI h w e
section QW
variable {p : Program} {l : Launch} {e : Env} {R : Room} {s : State} {m : MethodId} {args : Array Value} {below : List Frame} {meth : Method} {c : Code} {H : Heap} {locs : List Loc} {cells slots : Nat} {Q : State → Prop}
variable {cc : ByteArray} {pc : Nat} {ls : Array Slot} {rest : List Value} {D : va_G} {cl : List vw_C} {A : Nat → Prop} {tys : List (ClassId × FieldType)} {n N0 : Nat} {ad : Nat → Nat} {w : Nat → va_E} {H0 : Heap}
theorem q_topi {x y : Int32} (h : x = y) (k : W p l e R s m args below meth c H locs cells slots Q (F0 m pc ls (.int y :: rest))) : W p l e R s m args below meth c H locs cells slots Q (F0 m pc ls (.int x :: rest)) := h ▸ k
theorem q_topl {x y : Int64} (h : x = y) (k : W p l e R s m args below meth c H locs cells slots Q (F0 m pc ls (.long y :: rest))) : W p l e R s m args below meth c H locs cells slots Q (F0 m pc ls (.long x :: rest)) := h ▸ k
theorem q_topv {x y : Value} (h : x = y) (k : W p l e R s m args below meth c H locs cells slots Q (F0 m pc ls (y :: rest))) : W p l e R s m args below meth c H locs cells slots Q (F0 m pc ls (x :: rest)) := h ▸ k
theorem q_iald (hx : p.tables.exec = Jvm.exec) (hb : c.code = cc) (hK : va_K D cl tys s) (hZ : sZ D cl n ad A H0 w H locs) (k t0 j : Nat) (hk : k < n) {cA : ClassId} {N : Nat} {f : Nat → Int32} (hw : w k = .inl (cA, N, .inl f)) (ht : tys[t0]? = some (cA, .int)) {i : Int32} (hi : i = nI j) (hj : j < N) (hN : N < 2 ^ 31) (hdg : decode cc pc = .ok (.iaload, 1))
    (kk : W p l e R s m args below meth c H locs cells slots Q (F0 m (pc + 1) ls (.int (f j) :: rest))) : W p l e R s m args below meth c H locs cells slots Q (F0 m pc ls (.int i :: .ref (ad k) :: rest)) := by
  subst hi
  refine va_iald hx hb hK hZ.1 k t0 (wsW_at hk hw) ht (vp_in_nI hj hN) hdg ?_
  rw [nI_clamp (Nat.lt_trans hj hN)]
  exact kk
theorem q_lald (hx : p.tables.exec = Jvm.exec) (hb : c.code = cc) (hK : va_K D cl tys s) (hZ : sZ D cl n ad A H0 w H locs) (k t0 j : Nat) (hk : k < n) {cA : ClassId} {N : Nat} {f : Nat → Int64} (hw : w k = .inl (cA, N, .inr (.inl f))) (ht : tys[t0]? = some (cA, .long)) {i : Int32} (hi : i = nI j) (hj : j < N) (hN : N < 2 ^ 31) (hdg : decode cc pc = .ok (.laload, 1))
    (kk : W p l e R s m args below meth c H locs cells slots Q (F0 m (pc + 1) ls (.long (f j) :: rest))) : W p l e R s m args below meth c H locs cells slots Q (F0 m pc ls (.int i :: .ref (ad k) :: rest)) := by
  subst hi
  refine va_lald hx hb hK hZ.1 k t0 (wsW_at hk hw) ht (vp_in_nI hj hN) hdg ?_
  rw [nI_clamp (Nat.lt_trans hj hN)]
  exact kk
theorem q_aald (hx : p.tables.exec = Jvm.exec) (hb : c.code = cc) (hK : va_K D cl tys s) (hZ : sZ D cl n ad A H0 w H locs) (k t0 j : Nat) (hk : k < n) {cA : ClassId} {C : String} {N : Nat} {f : Nat → Option Nat} (hw : w k = .inl (cA, N, .inr (.inr (.inr (.inr f))))) (ht : tys[t0]? = some (cA, .object C)) {i : Int32} (hi : i = nI j) (hj : j < N) (hN : N < 2 ^ 31) {y : Nat} (hf : f j = some y) (hdg : decode cc pc = .ok (.aaload, 1))
    (kk : W p l e R s m args below meth c H locs cells slots Q (F0 m (pc + 1) ls (.ref y :: rest))) : W p l e R s m args below meth c H locs cells slots Q (F0 m pc ls (.int i :: .ref (ad k) :: rest)) := by
  subst hi
  refine va_aldq hx hb hK hZ.1 k t0 (wsW_at hk hw) ht (vp_in_nI hj hN) hdg ?_
  rw [nI_clamp (Nat.lt_trans hj hN), hf]
  exact kk
theorem q_iast (hx : p.tables.exec = Jvm.exec) (hb : c.code = cc) (hK : va_K D cl tys s) (hZ : sZ D cl n ad A H0 w H locs) (k t0 j : Nat) (hk : k < n) {cA : ClassId} {N : Nat} {f : Nat → Int32} (hw : w k = .inl (cA, N, .inl f)) (ht : tys[t0]? = some (cA, .int)) {i x : Int32} (hi : i = nI j) (hj : j < N) (hN : N < 2 ^ 31) (hdg : decode cc pc = .ok (.iastore, 1))
    (kk : ∀ (H1 : Heap) (locs1 : List Loc), sZ D cl n ad A H0 (va_up w k (.inl (cA, N, .inl (upd f j x)))) H1 locs1 → W p l e R s m args below meth c H1 locs1 cells slots Q (F0 m (pc + 1) ls rest)) : W p l e R s m args below meth c H locs cells slots Q (F0 m pc ls (.int x :: .int i :: .ref (ad k) :: rest)) := by
  subst hi
  refine va_iast hx hb hK hZ.1 hZ.2.1 hZ.2.2 k t0 (wsW_at hk hw) ht (vp_in_nI hj hN) hdg (fun H1 locs1 h1 h2 h3 => kk H1 locs1 ?_)
  rw [nI_clamp (Nat.lt_trans hj hN), wsW_set hk] at h1 h2
  exact ⟨h1, h2, h3⟩
theorem q_last (hx : p.tables.exec = Jvm.exec) (hb : c.code = cc) (hK : va_K D cl tys s) (hZ : sZ D cl n ad A H0 w H locs) (k t0 j : Nat) (hk : k < n) {cA : ClassId} {N : Nat} {f : Nat → Int64} (hw : w k = .inl (cA, N, .inr (.inl f))) (ht : tys[t0]? = some (cA, .long)) {i : Int32} {x : Int64} (hi : i = nI j) (hj : j < N) (hN : N < 2 ^ 31) (hdg : decode cc pc = .ok (.lastore, 1))
    (kk : ∀ (H1 : Heap) (locs1 : List Loc), sZ D cl n ad A H0 (va_up w k (.inl (cA, N, .inr (.inl (vp_updL f j x))))) H1 locs1 → W p l e R s m args below meth c H1 locs1 cells slots Q (F0 m (pc + 1) ls rest)) : W p l e R s m args below meth c H locs cells slots Q (F0 m pc ls (.long x :: .int i :: .ref (ad k) :: rest)) := by
  subst hi
  refine va_last hx hb hK hZ.1 hZ.2.1 hZ.2.2 k t0 (wsW_at hk hw) ht (vp_in_nI hj hN) hdg (fun H1 locs1 h1 h2 h3 => kk H1 locs1 ?_)
  rw [nI_clamp (Nat.lt_trans hj hN), wsW_set hk] at h1 h2
  exact ⟨h1, h2, h3⟩
theorem q_aast (hx : p.tables.exec = Jvm.exec) (hb : c.code = cc) (hK : va_K D cl tys s) (hZ : sZ D cl n ad A H0 w H locs) (k t0 j kq ci : Nat) (hk : k < n) (hkq : kq < n) {cA : ClassId} {r : vw_C} {N : Nat} {vs : List Value} {f : Nat → Option Nat} (hw : w k = .inl (cA, N, .inr (.inr (.inr (.inr f))))) (ht : tys[t0]? = some (cA, .object r.1)) (hv : w kq = .inr (ci, vs)) (hc : cl[ci]? = some r) {i : Int32} (hi : i = nI j) (hj : j < N) (hN : N < 2 ^ 31) (hdg : decode cc pc = .ok (.aastore, 1))
    (kk : ∀ (H1 : Heap) (locs1 : List Loc), sZ D cl n ad A H0 (va_up w k (.inl (cA, N, .inr (.inr (.inr (.inr (va_up f j (some (ad kq)))))))) ) H1 locs1 → W p l e R s m args below meth c H1 locs1 cells slots Q (F0 m (pc + 1) ls rest)) : W p l e R s m args below meth c H locs cells slots Q (F0 m pc ls (.ref (ad kq) :: .int i :: .ref (ad k) :: rest)) := by
  subst hi
  refine va_astq hx hb hK hZ.1 hZ.2.1 hZ.2.2 k t0 kq ci (wsW_at hk hw) ht (wsW_at hkq hv) hc (vp_in_nI hj hN) hdg (fun H1 locs1 h1 h2 h3 => kk H1 locs1 ?_)
  rw [nI_clamp (Nat.lt_trans hj hN), wsW_set hk] at h1 h2
  exact ⟨h1, h2, h3⟩
theorem q_get {own ref C : String} {T : u_T} {N ci index : Nat} {Ts : List Cond} (hx : p.tables.exec = Jvm.exec) (hb : c.code = cc) (hts : ∀ w ∈ Ts, w.before args s = true) (hin : ∀ w ∈ u_ws C T N, w ∈ Ts) (hown : s.vm.findClass own = some m.cls) (hK : va_K D cl tys s) (hZ : sZ D cl n ad A H0 w H locs) (k0 : Nat) (hk0 : k0 < n) {fs : List Value} (hw : w k0 = .inr (ci, fs)) (hc : cl[ci]? = some (C, T, N)) (k : Nat) (hk : k < N) (hlink : (Cond.fieldLink own index ref (T k).2.1 (T k).2.2.1).before args s = true) (hsame : ∀ x, s.fieldFound? (T k).1 (T k).2.1 (T k).2.2.1 = some x → s.fieldFound? ref (T k).2.1 (T k).2.2.1 = some x) {v : Value} (hv : fs[k]? = some v) (hdg : decode cc pc = .ok (.getfield index, 3))
    (kk : W p l e R s m args below meth c H locs cells slots Q (F0 m (pc + 3) ls (v :: rest))) : W p l e R s m args below meth c H locs cells slots Q (F0 m pc ls (.ref (ad k0) :: rest)) :=
  va_get hx hb hts hin hown hK hZ.1 k0 (wsW_at hk0 hw) hc k hk hlink hsame hv hdg kk
theorem q_getN {own ref C host : String} {T : u_T} {N ci index : Nat} {Ts : List Cond} (hx : p.tables.exec = Jvm.exec) (hb : c.code = cc) (hts : ∀ w ∈ Ts, w.before args s = true) (hin : ∀ w ∈ u_ws C T N, w ∈ Ts) (hown : s.vm.findClass own = some m.cls) (hK : va_K D cl tys s) (hZ : sZ D cl n ad A H0 w H locs) (k0 : Nat) (hk0 : k0 < n) {fs : List Value} (hw : w k0 = .inr (ci, fs)) (hc : cl[ci]? = some (C, T, N)) (k : Nat) (hk : k < N) (hlink : (Cond.fieldLinkNest own index ref (T k).2.1 (T k).2.2.1 host).before args s = true) (hsame : ∀ x, s.fieldFound? (T k).1 (T k).2.1 (T k).2.2.1 = some x → s.fieldFound? ref (T k).2.1 (T k).2.2.1 = some x) {v : Value} (hv : fs[k]? = some v) (hdg : decode cc pc = .ok (.getfield index, 3))
    (kk : W p l e R s m args below meth c H locs cells slots Q (F0 m (pc + 3) ls (v :: rest))) : W p l e R s m args below meth c H locs cells slots Q (F0 m pc ls (.ref (ad k0) :: rest)) :=
  va_getN hx hb hts hin hown hK hZ.1 k0 (wsW_at hk0 hw) hc k hk hlink hsame hv hdg kk
theorem q_put {own ref C : String} {T : u_T} {N ci index : Nat} {Ts : List Cond} (hx : p.tables.exec = Jvm.exec) (hb : c.code = cc) (hts : ∀ w ∈ Ts, w.before args s = true) (hin : ∀ w ∈ u_ws C T N, w ∈ Ts) (ty0 : Nat → FieldType) (hty : ∀ k, k < N → parseFieldDescriptor (T k).2.2.1 = some (ty0 k)) (hnm : ∀ a, a < N → ∀ b, b < N → a ≠ b → (T a).2.1 ≠ (T b).2.1) (hown : s.vm.findClass own = some m.cls) (hK : va_K D cl tys s) (hZ : sZ D cl n ad A H0 w H locs) (k0 : Nat) (hk0 : k0 < n) {fs : List Value} (hw : w k0 = .inr (ci, fs)) (hc : cl[ci]? = some (C, T, N)) (k : Nat) (hk : k < N) (hlink : (Cond.fieldLink own index ref (T k).2.1 (T k).2.2.1).before args s = true) (hsame : ∀ x, s.fieldFound? (T k).1 (T k).2.1 (T k).2.2.1 = some x → s.fieldFound? ref (T k).2.1 (T k).2.2.1 = some x) (hfin : (T k).2.2.2 = false) {ty : FieldType} {v : Value} (hd : parseFieldDescriptor (T k).2.2.1 = some ty) (hn : narrow ty v = v) (hfit : fits ty v = true) (hl : k < fs.length)
    (hdg : decode cc pc = .ok (.putfield index, 3)) (kk : ∀ (H1 : Heap) (locs1 : List Loc), sZ D cl n ad A H0 (va_up w k0 (.inr (ci, fs.set k v))) H1 locs1 → W p l e R s m args below meth c H1 locs1 cells slots Q (F0 m (pc + 3) ls rest)) : W p l e R s m args below meth c H locs cells slots Q (F0 m pc ls (v :: .ref (ad k0) :: rest)) := by
  refine va_put hx hb hts hin ty0 hty hnm hown hK hZ.1 hZ.2.1 hZ.2.2 k0 (wsW_at hk0 hw) hc k hk hlink hsame hfin hd hn hfit hl hdg (fun H1 locs1 h1 h2 h3 => kk H1 locs1 ?_)
  rw [wsW_set hk0] at h1 h2
  exact ⟨h1, h2, h3⟩
theorem q_end (hK : va_K D cl tys s) (hAm : sAm N0 s) (hZ : sZ D cl n ad (fun q => N0 ≤ q) s.heap w H locs) (hN : N0 ≤ s.heap.size) (t : State) (ht : t.heap = H) (hW : s.WarmedH t.vm) : sPr D cl tys n ad N0 w t :=
  ⟨by rw [ht]; exact hZ.1, va_K.moved hW.alike hK, hZ.2.1, by rw [ht]; exact Nat.le_trans hN hZ.2.2.1, sAm_mv hAm hZ.2.2 ht hW⟩
theorem q_iret {post : Int32 → (Nat → va_E) → Prop} {v : Int32} (hx : p.tables.exec = Jvm.exec) (hb : c.code = cc) (hr : meth.sig.returnType = some .int) (hlocks : meth.locks = false) (hK : va_K D cl tys s) (hAm : sAm N0 s) (hZ : sZ D cl n ad (fun q => N0 ≤ q) s.heap w H locs) (hN : N0 ≤ s.heap.size) (hp : post v w) (hdg : decode cc pc = .ok (.ireturn, 1)) :
    W p l e R s m args below meth c H locs cells slots (MQ below (va_Qi post (sPr D cl tys n ad N0) (fun q => N0 ≤ q)) args s cells slots (fun q => N0 ≤ q)) (F0 m pc ls [.int v]) :=
  W.iret hx hb hr (fun t ht hW => ⟨⟨v, w, rfl, hp, q_end hK hAm hZ hN t ht hW⟩, hZ.2.2.F ht⟩) hZ.2.2.2.2 hdg hlocks
theorem q_zret {post : Int32 → (Nat → va_E) → Prop} {v : Int32} {ty : FieldType} (hx : p.tables.exec = Jvm.exec) (hb : c.code = cc) (hr : meth.sig.returnType = some ty) (hn : narrow ty (.int v) = .int v) (hlocks : meth.locks = false) (hK : va_K D cl tys s) (hAm : sAm N0 s) (hZ : sZ D cl n ad (fun q => N0 ≤ q) s.heap w H locs) (hN : N0 ≤ s.heap.size) (hp : post v w) (hdg : decode cc pc = .ok (.ireturn, 1)) :
    W p l e R s m args below meth c H locs cells slots (MQ below (va_Qi post (sPr D cl tys n ad N0) (fun q => N0 ≤ q)) args s cells slots (fun q => N0 ≤ q)) (F0 m pc ls [.int v]) :=
  W.zret hx hb hr hn (fun t ht hW => ⟨⟨v, w, rfl, hp, q_end hK hAm hZ hN t ht hW⟩, hZ.2.2.F ht⟩) hZ.2.2.2.2 hdg hlocks
theorem q_lret {post : Int64 → (Nat → va_E) → Prop} {v : Int64} (hx : p.tables.exec = Jvm.exec) (hb : c.code = cc) (hr : meth.sig.returnType = some .long) (hlocks : meth.locks = false) (hK : va_K D cl tys s) (hAm : sAm N0 s) (hZ : sZ D cl n ad (fun q => N0 ≤ q) s.heap w H locs) (hN : N0 ≤ s.heap.size) (hp : post v w) (hdg : decode cc pc = .ok (.lreturn, 1)) :
    W p l e R s m args below meth c H locs cells slots (MQ below (va_Ql post (sPr D cl tys n ad N0) (fun q => N0 ≤ q)) args s cells slots (fun q => N0 ≤ q)) (F0 m pc ls [.long v]) :=
  W.lret hx hb hr (fun t ht hW => ⟨⟨v, w, rfl, hp, q_end hK hAm hZ hN t ht hW⟩, hZ.2.2.F ht⟩) hZ.2.2.2.2 hdg hlocks
theorem q_vret {post : (Nat → va_E) → Prop} (hx : p.tables.exec = Jvm.exec) (hb : c.code = cc) (hr : meth.sig.returnType = none) (hlocks : meth.locks = false) (hK : va_K D cl tys s) (hAm : sAm N0 s) (hZ : sZ D cl n ad (fun q => N0 ≤ q) s.heap w H locs) (hN : N0 ≤ s.heap.size) (hp : post w) (hdg : decode cc pc = .ok (.return_, 1)) :
    W p l e R s m args below meth c H locs cells slots (MQ below (va_Qv post (sPr D cl tys n ad N0) (fun q => N0 ≤ q)) args s cells slots (fun q => N0 ≤ q)) (F0 m pc ls []) :=
  W.vret hx hb hr (fun t ht hW => ⟨⟨w, rfl, hp, q_end hK hAm hZ hN t ht hW⟩, hZ.2.2.F ht⟩) hZ.2.2.2.2 hdg hlocks
theorem q_pre (hK : va_K D cl tys s) (hAm : sAm N0 s) (hZ : sZ D cl n ad (fun q => N0 ≤ q) s.heap w H locs) (hN : N0 ≤ s.heap.size) (As : List Value) : PreS s H (va_Pc As (sPr D cl tys n ad N0 w)) As :=
  ⟨sPr.blind, fun U hU hW => ⟨rfl, q_end hK hAm hZ hN U hU hW⟩⟩
theorem q_preV (hK : va_K D cl tys s) (hAm : sAm N0 s) (hZ : sZ D cl n ad (fun q => N0 ≤ q) s.heap w H locs) (hN : N0 ≤ s.heap.size) (As : List Value) (k ci : Nat) (hk : k < n) {r : vw_C} {fs : List Value} (hw : w k = .inr (ci, fs)) (hc : cl[ci]? = some r) : PreV s H r.1 (ad k) (va_Pc (.ref (ad k) :: As) (sPr D cl tys n ad N0 w)) As :=
  ⟨sPr.blind, va_recv hK hZ.1 hc (wsW_at hk hw), fun U hU hW => ⟨rfl, q_end hK hAm hZ hN U hU hW⟩⟩
theorem q_back {t : State} {H1 : Heap} {u : Nat → va_E} (hB : sPr D cl tys n ad N0 u t) (ht : t.heap = H1) (hS : va_S (fun q => N0 ≤ q) H0 H1 locs) : sZ D cl n ad (fun q => N0 ≤ q) H0 u H1 locs :=
  ⟨by rw [← ht]; exact hB.1, hB.2.2.1, hS⟩
theorem q_calli {a : Array Value} {st0 : List Value} {post : Int32 → (Nat → va_E) → Prop} (hr : va_Run p l e R s m args below meth c H locs cells slots 0 0 (F0 m pc ls st0) rest (va_Qi post (sPr D cl tys n ad N0) (fun q => N0 ≤ q) a) (fun q => N0 ≤ q)) (hZ : sZ D cl n ad (fun q => N0 ≤ q) H0 w H locs)
    (kk : ∀ (r : Int32) (u : Nat → va_E) (H1 : Heap) (locs1 : List Loc), post r u → sZ D cl n ad (fun q => N0 ≤ q) H0 u H1 locs1 → W p l e R s m args below meth c H1 locs1 cells slots Q (F0 m (pc + 3) ls (.int r :: rest))) : W p l e R s m args below meth c H locs cells slots Q (F0 m pc ls st0) :=
  va_calli hr hZ.2.2 (fun _ _ h => h) (fun _ h => h) (fun r u t H1 locs1 ht _ hp hB _ _ hS => kk r u H1 locs1 hp (q_back hB ht hS))
theorem q_calll {a : Array Value} {st0 : List Value} {post : Int64 → (Nat → va_E) → Prop} (hr : va_Run p l e R s m args below meth c H locs cells slots 0 0 (F0 m pc ls st0) rest (va_Ql post (sPr D cl tys n ad N0) (fun q => N0 ≤ q) a) (fun q => N0 ≤ q)) (hZ : sZ D cl n ad (fun q => N0 ≤ q) H0 w H locs)
    (kk : ∀ (r : Int64) (u : Nat → va_E) (H1 : Heap) (locs1 : List Loc), post r u → sZ D cl n ad (fun q => N0 ≤ q) H0 u H1 locs1 → W p l e R s m args below meth c H1 locs1 cells slots Q (F0 m (pc + 3) ls (.long r :: rest))) : W p l e R s m args below meth c H locs cells slots Q (F0 m pc ls st0) :=
  va_calll hr hZ.2.2 (fun _ _ h => h) (fun _ h => h) (fun r u t H1 locs1 ht _ hp hB _ _ hS => kk r u H1 locs1 hp (q_back hB ht hS))
theorem q_callv {a : Array Value} {st0 : List Value} {post : (Nat → va_E) → Prop} (hr : va_Run p l e R s m args below meth c H locs cells slots 0 0 (F0 m pc ls st0) rest (va_Qv post (sPr D cl tys n ad N0) (fun q => N0 ≤ q) a) (fun q => N0 ≤ q)) (hZ : sZ D cl n ad (fun q => N0 ≤ q) H0 w H locs)
    (kk : ∀ (u : Nat → va_E) (H1 : Heap) (locs1 : List Loc), post u → sZ D cl n ad (fun q => N0 ≤ q) H0 u H1 locs1 → W p l e R s m args below meth c H1 locs1 cells slots Q (F0 m (pc + 3) ls rest)) : W p l e R s m args below meth c H locs cells slots Q (F0 m pc ls st0) :=
  va_callv hr hZ.2.2 (fun _ _ h => h) (fun _ h => h) (fun u t H1 locs1 ht _ hp hB _ _ hS => kk u H1 locs1 hp (q_back hB ht hS))
/-- a callee that touches no cell -/
theorem q_callSi {a : Array Value} {st0 : List Value} {post : Int32 → Prop} (hr : va_Run p l e R s m args below meth c H locs cells slots 0 0 (F0 m pc ls st0) rest (vp_Si post a) (fun _ => False))
    (kk : ∀ r : Int32, post r → W p l e R s m args below meth c H locs cells slots Q (F0 m (pc + 3) ls (.int r :: rest))) : W p l e R s m args below meth c H locs cells slots Q (F0 m pc ls st0) := by
  intro T hT X
  obtain ⟨v, st₀, t, T', L, h0, X', hL, e1, e2, ⟨r, hv, hp, hh⟩, st⟩ := hr T hT X
  cases hv
  obtain ⟨t2, a1, b1⟩ := kk r hp T' (by rw [e1, hh, h0]) (Stand.forget X' (fun q h => (hL q h).elim))
  exact ⟨t2, st t2 a1, b1⟩
theorem q_callSl {a : Array Value} {st0 : List Value} {post : Int64 → Prop} (hr : va_Run p l e R s m args below meth c H locs cells slots 0 0 (F0 m pc ls st0) rest (vp_Sl post a) (fun _ => False))
    (kk : ∀ r : Int64, post r → W p l e R s m args below meth c H locs cells slots Q (F0 m (pc + 3) ls (.long r :: rest))) : W p l e R s m args below meth c H locs cells slots Q (F0 m pc ls st0) := by
  intro T hT X
  obtain ⟨v, st₀, t, T', L, h0, X', hL, e1, e2, ⟨r, hv, hp, hh⟩, st⟩ := hr T hT X
  cases hv
  obtain ⟨t2, a1, b1⟩ := kk r hp T' (by rw [e1, hh, h0]) (Stand.forget X' (fun q h => (hL q h).elim))
  exact ⟨t2, st t2 a1, b1⟩
end QW
end
section
/-! the cells: 0 CoinBag, 1 its row of Bags, bb k .. bb k + 3 the k-th Bag (nine of them), 34 .. 38 Pairs, 43 .. 50 the reference, 51 the law's own row -/
def bb (k : Nat) : Nat := if k < 8 then 2 + 4 * k else 39
theorem bb_r {k : Nat} (h : k < 9) : 2 ≤ bb k ∧ bb k + 3 < 43 ∧ (bb k + 3 < 34 ∨ 39 ≤ bb k) := by
  unfold bb
  split <;> omega
theorem bb_a {k j : Nat} (hk : k < 9) (hj : j < 9) (h : ¬ k = j) : bb k + 3 < bb j ∨ bb j + 3 < bb k := by
  unfold bb
  split <;> split <;> omega
/-- the world changed in lo .. hi alone -/
def fr (w u : Nat → va_E) (lo hi : Nat) : Prop := ∀ j, (j < lo ∨ hi < j) → u j = w j
theorem fr_rf {w : Nat → va_E} {lo hi : Nat} : fr w w lo hi := fun _ _ => rfl
theorem fr_up {w u : Nat → va_E} {lo hi x : Nat} {e : va_E} (h : fr w u lo hi) (h1 : lo ≤ x) (h2 : x ≤ hi) : fr w (va_up u x e) lo hi := fun j hj => by
  rw [va_up_ne _ _ (by omega)]
  exact h j hj
theorem fr_tr {w u v : Nat → va_E} {lo hi a b : Nat} (h : fr w u lo hi) (h2 : fr u v a b) (h3 : lo ≤ a) (h4 : b ≤ hi) : fr w v lo hi := fun j hj => (h2 j (by omega)).trans (h j hj)
def isBag (ad : Nat → Nat) (cI cL : ClassId) (w : Nat → va_E) (k c : Nat) (p : Nat → Int32) (n a : Nat → Int64) : Prop :=
  w (bb k) = .inr (0, [.ref (ad (bb k + 1)), .ref (ad (bb k + 2)), .ref (ad (bb k + 3)), .int (nI c)]) ∧ w (bb k + 1) = .inl (cI, 64, .inl p) ∧ w (bb k + 2) = .inl (cL, 64, .inr (.inl n)) ∧ w (bb k + 3) = .inl (cL, 64, .inr (.inl a)) ∧ c ≤ 64
section ISB
variable {ad : Nat → Nat} {cI cL : ClassId} {w u : Nat → va_E} {k c : Nat} {p : Nat → Int32} {n a : Nat → Int64}
theorem isBag.keep (h : isBag ad cI cL w k c p n a) (hf : ∀ j, bb k ≤ j → j ≤ bb k + 3 → u j = w j) : isBag ad cI cL u k c p n a := by
  obtain ⟨h1, h2, h3, h4, h5⟩ := h
  exact ⟨(hf _ (by omega) (by omega)).trans h1, (hf _ (by omega) (by omega)).trans h2, (hf _ (by omega) (by omega)).trans h3, (hf _ (by omega) (by omega)).trans h4, h5⟩
theorem isBag.off (h : isBag ad cI cL w k c p n a) {x : Nat} {e : va_E} (hx : x < bb k ∨ bb k + 3 < x) : isBag ad cI cL (va_up w x e) k c p n a := h.keep (fun j h1 h2 => va_up_ne _ _ (by omega))
theorem isBag.fr (h : isBag ad cI cL w k c p n a) {lo hi : Nat} (hf : fr w u lo hi) (hx : hi < bb k ∨ bb k + 3 < lo) : isBag ad cI cL u k c p n a := h.keep (fun j h1 h2 => hf j (by omega))
theorem isBag.upP (h : isBag ad cI cL w k c p n a) (p' : Nat → Int32) : isBag ad cI cL (va_up w (bb k + 1) (.inl (cI, 64, .inl p'))) k c p' n a := by
  obtain ⟨h1, h2, h3, h4, h5⟩ := h
  exact ⟨(va_up_ne _ _ (by omega)).trans h1, va_up_self _ _ _, (va_up_ne _ _ (by omega)).trans h3, (va_up_ne _ _ (by omega)).trans h4, h5⟩
theorem isBag.upN (h : isBag ad cI cL w k c p n a) (n' : Nat → Int64) : isBag ad cI cL (va_up w (bb k + 2) (.inl (cL, 64, .inr (.inl n')))) k c p n' a := by
  obtain ⟨h1, h2, h3, h4, h5⟩ := h
  exact ⟨(va_up_ne _ _ (by omega)).trans h1, (va_up_ne _ _ (by omega)).trans h2, va_up_self _ _ _, (va_up_ne _ _ (by omega)).trans h4, h5⟩
theorem isBag.upA (h : isBag ad cI cL w k c p n a) (a' : Nat → Int64) : isBag ad cI cL (va_up w (bb k + 3) (.inl (cL, 64, .inr (.inl a')))) k c p n a' := by
  obtain ⟨h1, h2, h3, h4, h5⟩ := h
  exact ⟨(va_up_ne _ _ (by omega)).trans h1, (va_up_ne _ _ (by omega)).trans h2, (va_up_ne _ _ (by omega)).trans h3, va_up_self _ _ _, h5⟩
theorem isBag.upC (h : isBag ad cI cL w k c p n a) {c' : Nat} (hc : c' ≤ 64) : isBag ad cI cL (va_up w (bb k) (.inr (0, [.ref (ad (bb k + 1)), .ref (ad (bb k + 2)), .ref (ad (bb k + 3)), .int (nI c')]))) k c' p n a := by
  obtain ⟨h1, h2, h3, h4, h5⟩ := h
  exact ⟨va_up_self _ _ _, (va_up_ne _ _ (by omega)).trans h2, (va_up_ne _ _ (by omega)).trans h3, (va_up_ne _ _ (by omega)).trans h4, hc⟩
end ISB
def isPrs (ad : Nat → Nat) (cI cL : ClassId) (w : Nat → va_E) (c : Nat) (p : Nat → Int32) (n L R : Nat → Int64) : Prop :=
  w 34 = .inr (1, [.ref (ad 35), .ref (ad 36), .ref (ad 37), .ref (ad 38), .int (nI c)]) ∧ w 35 = .inl (cI, 128, .inl p) ∧ w 36 = .inl (cL, 128, .inr (.inl n)) ∧ w 37 = .inl (cL, 128, .inr (.inl L)) ∧ w 38 = .inl (cL, 128, .inr (.inl R)) ∧ c ≤ 128
section ISP
variable {ad : Nat → Nat} {cI cL : ClassId} {w u : Nat → va_E} {c : Nat} {p : Nat → Int32} {n L R : Nat → Int64}
theorem isPrs.keep (h : isPrs ad cI cL w c p n L R) (hf : ∀ j, 34 ≤ j → j ≤ 38 → u j = w j) : isPrs ad cI cL u c p n L R := by
  obtain ⟨h1, h2, h3, h4, h5, h6⟩ := h
  exact ⟨(hf _ (by omega) (by omega)).trans h1, (hf _ (by omega) (by omega)).trans h2, (hf _ (by omega) (by omega)).trans h3, (hf _ (by omega) (by omega)).trans h4, (hf _ (by omega) (by omega)).trans h5, h6⟩
theorem isPrs.off (h : isPrs ad cI cL w c p n L R) {x : Nat} {e : va_E} (hx : x < 34 ∨ 38 < x) : isPrs ad cI cL (va_up w x e) c p n L R := h.keep (fun j h1 h2 => va_up_ne _ _ (by omega))
theorem isPrs.fr (h : isPrs ad cI cL w c p n L R) {lo hi : Nat} (hf : fr w u lo hi) (hx : hi < 34 ∨ 38 < lo) : isPrs ad cI cL u c p n L R := h.keep (fun j h1 h2 => hf j (by omega))
theorem isPrs.upP (h : isPrs ad cI cL w c p n L R) (p' : Nat → Int32) : isPrs ad cI cL (va_up w 35 (.inl (cI, 128, .inl p'))) c p' n L R := by
  obtain ⟨h1, h2, h3, h4, h5, h6⟩ := h
  exact ⟨(va_up_ne _ _ (by omega)).trans h1, va_up_self _ _ _, (va_up_ne _ _ (by omega)).trans h3, (va_up_ne _ _ (by omega)).trans h4, (va_up_ne _ _ (by omega)).trans h5, h6⟩
theorem isPrs.upN (h : isPrs ad cI cL w c p n L R) (n' : Nat → Int64) : isPrs ad cI cL (va_up w 36 (.inl (cL, 128, .inr (.inl n')))) c p n' L R := by
  obtain ⟨h1, h2, h3, h4, h5, h6⟩ := h
  exact ⟨(va_up_ne _ _ (by omega)).trans h1, (va_up_ne _ _ (by omega)).trans h2, va_up_self _ _ _, (va_up_ne _ _ (by omega)).trans h4, (va_up_ne _ _ (by omega)).trans h5, h6⟩
theorem isPrs.upL (h : isPrs ad cI cL w c p n L R) (L' : Nat → Int64) : isPrs ad cI cL (va_up w 37 (.inl (cL, 128, .inr (.inl L')))) c p n L' R := by
  obtain ⟨h1, h2, h3, h4, h5, h6⟩ := h
  exact ⟨(va_up_ne _ _ (by omega)).trans h1, (va_up_ne _ _ (by omega)).trans h2, (va_up_ne _ _ (by omega)).trans h3, va_up_self _ _ _, (va_up_ne _ _ (by omega)).trans h5, h6⟩
theorem isPrs.upR (h : isPrs ad cI cL w c p n L R) (R' : Nat → Int64) : isPrs ad cI cL (va_up w 38 (.inl (cL, 128, .inr (.inl R')))) c p n L R' := by
  obtain ⟨h1, h2, h3, h4, h5, h6⟩ := h
  exact ⟨(va_up_ne _ _ (by omega)).trans h1, (va_up_ne _ _ (by omega)).trans h2, (va_up_ne _ _ (by omega)).trans h3, (va_up_ne _ _ (by omega)).trans h4, va_up_self _ _ _, h6⟩
theorem isPrs.upC (h : isPrs ad cI cL w c p n L R) {c' : Nat} (hc : c' ≤ 128) : isPrs ad cI cL (va_up w 34 (.inr (1, [.ref (ad 35), .ref (ad 36), .ref (ad 37), .ref (ad 38), .int (nI c')]))) c' p n L R := by
  obtain ⟨h1, h2, h3, h4, h5, h6⟩ := h
  exact ⟨va_up_self _ _ _, (va_up_ne _ _ (by omega)).trans h2, (va_up_ne _ _ (by omega)).trans h3, (va_up_ne _ _ (by omega)).trans h4, (va_up_ne _ _ (by omega)).trans h5, hc⟩
end ISP
/-- the class's state: BAG j stands for F j -/
def sC (ad : Nat → Nat) (cI cL cB : ClassId) (w : Nat → va_E) (F : Nat → Int → Int64) : Prop := ∃ (f : Nat → Option Nat) (pi : Nat → Nat) (sp : Nat),
  w 0 = .inr (2, [.ref (ad 1), .ref (ad 34), .ref (ad (bb sp))]) ∧ w 1 = .inl (cB, 8, .inr (.inr (.inr (.inr f)))) ∧ (∀ j, j < 8 → f j = some (ad (bb (pi j)))) ∧ (∀ j, j < 8 → pi j < 9 ∧ ¬ pi j = sp) ∧ (∀ i j, i < 8 → j < 8 → pi i = pi j → i = j) ∧ sp < 9 ∧
  (∀ j, j < 8 → ∃ (c : Nat) (p : Nat → Int32) (n a : Nat → Int64), isBag ad cI cL w (pi j) c p n a ∧ cRep c p n a (F j)) ∧ (∃ (c : Nat) (p : Nat → Int32) (n a : Nat → Int64), isBag ad cI cL w sp c p n a) ∧ ∃ (c : Nat) (p : Nat → Int32) (n L R : Nat → Int64), isPrs ad cI cL w c p n L R
/-- the reference's cells -/
def isMod (ad : Nat → Nat) (cI cL : ClassId) (w : Nat → va_E) (t : Int32) (mn P : Nat → Int32) (N A : Nat → Int64) (rm : Int32) (rP : Nat → Int32) (rN rA : Nat → Int64) (bd : Int32) : Prop :=
  w 43 = .inr (3, [.int t, .ref (ad 44), .ref (ad 45), .ref (ad 46), .ref (ad 47), .int rm, .ref (ad 48), .ref (ad 49), .ref (ad 50), .int bd]) ∧ w 44 = .inl (cI, 8, .inl mn) ∧ w 45 = .inl (cI, 512, .inl P) ∧ w 46 = .inl (cL, 512, .inr (.inl N)) ∧ w 47 = .inl (cL, 512, .inr (.inl A)) ∧ w 48 = .inl (cI, 130, .inl rP) ∧ w 49 = .inl (cL, 130, .inr (.inl rN)) ∧ w 50 = .inl (cL, 130, .inr (.inl rA))
/-- BAG j of the reference stands for F j -/
def mBag (mn P : Nat → Int32) (N A : Nat → Int64) (F : Nat → Int → Int64) : Prop := ∀ j, j < 8 → ∃ c, c ≤ 64 ∧ mn j = nI c ∧ mRep c (fun i => P (64 * j + i)) (fun i => N (64 * j + i)) (fun i => A (64 * j + i)) (F j)
end
section
/-! methods that touch no cell -/
theorem few_neg {y : Int64} (h0 : ¬ y = 0) (hy : ¬ 0 < y) : y < 0 := (lg_tri y 0).resolve_right (fun z => z.elim h0 hy)
theorem few_nb {x y : Int64} (h0 : ¬ y = 0) (h1 : ¬ (x = -9223372036854775808 ∧ y = -1)) (hy : ¬ 0 < y) : ¬ iB x y := fun z => z.elim (fun z => lg_lt_not_le (few_neg h0 hy) z.2) h1
theorem fd_xx {x y : Int64} (hx : x < 0) (hy : 0 < y) : x ^^^ y < 0 := z_lt0.mpr ((z_xor x y).mpr (fun z => by have a := z_lt0.mp hx; have b := z_0lt.mp hy; have := z.mp a; omega))
theorem fd_xn {x y : Int64} (hy : 0 < y) (h : x ^^^ y < 0) : x < 0 := z_lt0.mpr (Classical.byContradiction fun a => (z_xor x y).mp (z_lt0.mp h) (by have b := z_0lt.mp hy; constructor <;> intro <;> omega))
set_option maxHeartbeats 4000000 in
set_option maxRecDepth 100000 in
theorem c_CB_sumFits (l : Launch) (x y : Int64)  : Met l y_CB_sumFits ws_CB_sumFits ({ frames := 0, cells := 0, slots := 0, locals := 0 } : Room) (va_Pc [.long x, .long y] (fun _ => True)) (vp_Si (fun r => (fH 0 x y ∧ r = 1) ∨ (¬ fH 0 x y ∧ r = 0))) 0 0 (fun _ => False) := by
  refine Met.ofW (cc := b_CB_sumFits) (maxL := 4) (ret := (some .boolean)) (by decide) rfl ?_
  intro p e s m args below meth c s₁ B hml hv
  obtain ⟨rfl, -⟩ := hv
  have hx := B.exec
  have hb := B.bytes
  have hr := B.returns
  have hts := atoms_spec (ws := ws_CB_sumFits) B.pre
  have hown : s.vm.findClass "CoinBag" = some m.cls := findClass_of_methodNamed B.named
  have hlocks := B.notSynchronized
  have hl := lv_entry ([.long x, .long y]) (n := 4) (Nat.le_of_ble_eq_true rfl)
  rw [lg_entry_eq]
  generalize (lg_sl ([.long x, .long y]) ++ List.replicate (4 - (lg_sl ([.long x, .long y])).length) Slot.unset).toArray = ls at hl ⊢
  have hl : lv_has ls 4 [(0, .long x), (2, .long y)] := hl
  refine lv_lload_n hx hb d_CB_sumFits_0 rfl (lv_at hl 1 rfl) ?_
  refine lv_lconst (v := 0) hx hb d_CB_sumFits_1 rfl ?_
  refine W.lcmp hx hb d_CB_sumFits_2 ?_
  refine lv_if_lt (tgt := 24) hx hb d_CB_sumFits_3 (by decide) (fun h3 => ?_) (fun h3 => ?_)
  · skip
    rw [lg_cmp_lt] at h3
    refine lv_lload_n hx hb d_CB_sumFits_24 rfl (lv_at hl 0 rfl) ?_
    refine lv_ldc2 (v := (-9223372036854775808)) hx hb hown (hts _ (gm k_259)) d_CB_sumFits_25 ?_
    refine lv_lload_n hx hb d_CB_sumFits_28 rfl (lv_at hl 1 rfl) ?_
    refine lv_lsub hx hb d_CB_sumFits_29 ?_
    refine W.lcmp hx hb d_CB_sumFits_30 ?_
    refine lv_if_lt (tgt := 38) hx hb d_CB_sumFits_31 (by decide) (fun h31 => ?_) (fun h31 => ?_)
    · skip
      rw [lg_cmp_lt] at h31
      refine lv_iconst (v := (nI 0)) hx hb d_CB_sumFits_38 rfl ?_
      exact W.zret hx hb hr rfl (fun t ht hW => ⟨_, rfl, (by first | exact Or.inl ⟨(sumHiN h3).mp h13, rfl⟩ | exact Or.inr ⟨(sumHi h3).mp h13, rfl⟩ | exact Or.inl ⟨(sumLoN (ltN0 h3)).mp h31, rfl⟩ | exact Or.inr ⟨(sumLo (ltN0 h3)).mp h31, rfl⟩), ht⟩) (fun q h => nomatch h) d_CB_sumFits_39
    · skip
      rw [lg_cmp_lt] at h31
      refine lv_iconst (v := (nI 1)) hx hb d_CB_sumFits_34 rfl ?_
      refine lv_goto (tgt := 39) hx hb d_CB_sumFits_35 (by decide) ?_
      exact W.zret hx hb hr rfl (fun t ht hW => ⟨_, rfl, (by first | exact Or.inl ⟨(sumHiN h3).mp h13, rfl⟩ | exact Or.inr ⟨(sumHi h3).mp h13, rfl⟩ | exact Or.inl ⟨(sumLoN (ltN0 h3)).mp h31, rfl⟩ | exact Or.inr ⟨(sumLo (ltN0 h3)).mp h31, rfl⟩), ht⟩) (fun q h => nomatch h) d_CB_sumFits_39
  · skip
    rw [lg_cmp_lt] at h3
    refine lv_lload_n hx hb d_CB_sumFits_6 rfl (lv_at hl 0 rfl) ?_
    refine lv_ldc2 (v := 9223372036854775807) hx hb hown (hts _ (gm k_258)) d_CB_sumFits_7 ?_
    refine lv_lload_n hx hb d_CB_sumFits_10 rfl (lv_at hl 1 rfl) ?_
    refine lv_lsub hx hb d_CB_sumFits_11 ?_
    refine W.lcmp hx hb d_CB_sumFits_12 ?_
    refine lv_if_gt (tgt := 20) hx hb d_CB_sumFits_13 (by decide) (fun h13 => ?_) (fun h13 => ?_)
    · skip
      rw [lg_cmp_gt] at h13
      refine lv_iconst (v := (nI 0)) hx hb d_CB_sumFits_20 rfl ?_
      refine lv_goto (tgt := 39) hx hb d_CB_sumFits_21 (by decide) ?_
      exact W.zret hx hb hr rfl (fun t ht hW => ⟨_, rfl, (by first | exact Or.inl ⟨(sumHiN h3).mp h13, rfl⟩ | exact Or.inr ⟨(sumHi h3).mp h13, rfl⟩ | exact Or.inl ⟨(sumLoN (ltN0 h3)).mp h31, rfl⟩ | exact Or.inr ⟨(sumLo (ltN0 h3)).mp h31, rfl⟩), ht⟩) (fun q h => nomatch h) d_CB_sumFits_39
    · skip
      rw [lg_cmp_gt] at h13
      refine lv_iconst (v := (nI 1)) hx hb d_CB_sumFits_16 rfl ?_
      refine lv_goto (tgt := 39) hx hb d_CB_sumFits_17 (by decide) ?_
      exact W.zret hx hb hr rfl (fun t ht hW => ⟨_, rfl, (by first | exact Or.inl ⟨(sumHiN h3).mp h13, rfl⟩ | exact Or.inr ⟨(sumHi h3).mp h13, rfl⟩ | exact Or.inl ⟨(sumLoN (ltN0 h3)).mp h31, rfl⟩ | exact Or.inr ⟨(sumLo (ltN0 h3)).mp h31, rfl⟩), ht⟩) (fun q h => nomatch h) d_CB_sumFits_39
set_option maxHeartbeats 4000000 in
set_option maxRecDepth 100000 in
theorem c_CB_differenceFits (l : Launch) (x y : Int64)  : Met l y_CB_differenceFits ws_CB_differenceFits ({ frames := 0, cells := 0, slots := 0, locals := 0 } : Room) (va_Pc [.long x, .long y] (fun _ => True)) (vp_Si (fun r => (fH 1 x y ∧ r = 1) ∨ (¬ fH 1 x y ∧ r = 0))) 0 0 (fun _ => False) := by
  refine Met.ofW (cc := b_CB_differenceFits) (maxL := 4) (ret := (some .boolean)) (by decide) rfl ?_
  intro p e s m args below meth c s₁ B hml hv
  obtain ⟨rfl, -⟩ := hv
  have hx := B.exec
  have hb := B.bytes
  have hr := B.returns
  have hts := atoms_spec (ws := ws_CB_differenceFits) B.pre
  have hown : s.vm.findClass "CoinBag" = some m.cls := findClass_of_methodNamed B.named
  have hlocks := B.notSynchronized
  have hl := lv_entry ([.long x, .long y]) (n := 4) (Nat.le_of_ble_eq_true rfl)
  rw [lg_entry_eq]
  generalize (lg_sl ([.long x, .long y]) ++ List.replicate (4 - (lg_sl ([.long x, .long y])).length) Slot.unset).toArray = ls at hl ⊢
  have hl : lv_has ls 4 [(0, .long x), (2, .long y)] := hl
  refine lv_lload_n hx hb d_CB_differenceFits_0 rfl (lv_at hl 1 rfl) ?_
  refine lv_lconst (v := 0) hx hb d_CB_differenceFits_1 rfl ?_
  refine W.lcmp hx hb d_CB_differenceFits_2 ?_
  refine lv_if_lt (tgt := 24) hx hb d_CB_differenceFits_3 (by decide) (fun h3 => ?_) (fun h3 => ?_)
  · skip
    rw [lg_cmp_lt] at h3
    refine lv_lload_n hx hb d_CB_differenceFits_24 rfl (lv_at hl 0 rfl) ?_
    refine lv_ldc2 (v := 9223372036854775807) hx hb hown (hts _ (gm k_258)) d_CB_differenceFits_25 ?_
    refine lv_lload_n hx hb d_CB_differenceFits_28 rfl (lv_at hl 1 rfl) ?_
    refine lv_ladd hx hb d_CB_differenceFits_29 ?_
    refine W.lcmp hx hb d_CB_differenceFits_30 ?_
    refine lv_if_gt (tgt := 38) hx hb d_CB_differenceFits_31 (by decide) (fun h31 => ?_) (fun h31 => ?_)
    · skip
      rw [lg_cmp_gt] at h31
      refine lv_iconst (v := (nI 0)) hx hb d_CB_differenceFits_38 rfl ?_
      exact W.zret hx hb hr rfl (fun t ht hW => ⟨_, rfl, (by first | exact Or.inl ⟨(difLoN h3).mp h13, rfl⟩ | exact Or.inr ⟨(difLo h3).mp h13, rfl⟩ | exact Or.inl ⟨(difHiN h3).mp h31, rfl⟩ | exact Or.inr ⟨(difHi h3).mp h31, rfl⟩), ht⟩) (fun q h => nomatch h) d_CB_differenceFits_39
    · skip
      rw [lg_cmp_gt] at h31
      refine lv_iconst (v := (nI 1)) hx hb d_CB_differenceFits_34 rfl ?_
      refine lv_goto (tgt := 39) hx hb d_CB_differenceFits_35 (by decide) ?_
      exact W.zret hx hb hr rfl (fun t ht hW => ⟨_, rfl, (by first | exact Or.inl ⟨(difLoN h3).mp h13, rfl⟩ | exact Or.inr ⟨(difLo h3).mp h13, rfl⟩ | exact Or.inl ⟨(difHiN h3).mp h31, rfl⟩ | exact Or.inr ⟨(difHi h3).mp h31, rfl⟩), ht⟩) (fun q h => nomatch h) d_CB_differenceFits_39
  · skip
    rw [lg_cmp_lt] at h3
    refine lv_lload_n hx hb d_CB_differenceFits_6 rfl (lv_at hl 0 rfl) ?_
    refine lv_ldc2 (v := (-9223372036854775808)) hx hb hown (hts _ (gm k_259)) d_CB_differenceFits_7 ?_
    refine lv_lload_n hx hb d_CB_differenceFits_10 rfl (lv_at hl 1 rfl) ?_
    refine lv_ladd hx hb d_CB_differenceFits_11 ?_
    refine W.lcmp hx hb d_CB_differenceFits_12 ?_
    refine lv_if_lt (tgt := 20) hx hb d_CB_differenceFits_13 (by decide) (fun h13 => ?_) (fun h13 => ?_)
    · skip
      rw [lg_cmp_lt] at h13
      refine lv_iconst (v := (nI 0)) hx hb d_CB_differenceFits_20 rfl ?_
      refine lv_goto (tgt := 39) hx hb d_CB_differenceFits_21 (by decide) ?_
      exact W.zret hx hb hr rfl (fun t ht hW => ⟨_, rfl, (by first | exact Or.inl ⟨(difLoN h3).mp h13, rfl⟩ | exact Or.inr ⟨(difLo h3).mp h13, rfl⟩ | exact Or.inl ⟨(difHiN h3).mp h31, rfl⟩ | exact Or.inr ⟨(difHi h3).mp h31, rfl⟩), ht⟩) (fun q h => nomatch h) d_CB_differenceFits_39
    · skip
      rw [lg_cmp_lt] at h13
      refine lv_iconst (v := (nI 1)) hx hb d_CB_differenceFits_16 rfl ?_
      refine lv_goto (tgt := 39) hx hb d_CB_differenceFits_17 (by decide) ?_
      exact W.zret hx hb hr rfl (fun t ht hW => ⟨_, rfl, (by first | exact Or.inl ⟨(difLoN h3).mp h13, rfl⟩ | exact Or.inr ⟨(difLo h3).mp h13, rfl⟩ | exact Or.inl ⟨(difHiN h3).mp h31, rfl⟩ | exact Or.inr ⟨(difHi h3).mp h31, rfl⟩), ht⟩) (fun q h => nomatch h) d_CB_differenceFits_39
set_option maxHeartbeats 4000000 in
set_option maxRecDepth 100000 in
theorem c_CB_productFits (l : Launch) (x n : Int64)  : Met l y_CB_productFits ws_CB_productFits ({ frames := 0, cells := 0, slots := 0, locals := 0 } : Room) (va_Pc [.long x, .long n] (fun _ => True)) (vp_Si (fun r => (fM x n ∧ r = 1) ∨ (¬ fM x n ∧ r = 0))) 0 0 (fun _ => False) := by
  refine Met.ofW (cc := b_CB_productFits) (maxL := 4) (ret := (some .boolean)) (by decide) rfl ?_
  intro p e s m args below meth c s₁ B hml hv
  obtain ⟨rfl, -⟩ := hv
  have hx := B.exec
  have hb := B.bytes
  have hr := B.returns
  have hts := atoms_spec (ws := ws_CB_productFits) B.pre
  have hown : s.vm.findClass "CoinBag" = some m.cls := findClass_of_methodNamed B.named
  have hlocks := B.notSynchronized
  have hl := lv_entry ([.long x, .long n]) (n := 4) (Nat.le_of_ble_eq_true rfl)
  rw [lg_entry_eq]
  generalize (lg_sl ([.long x, .long n]) ++ List.replicate (4 - (lg_sl ([.long x, .long n])).length) Slot.unset).toArray = ls at hl ⊢
  have hl : lv_has ls 4 [(0, .long x), (2, .long n)] := hl
  refine lv_lload_n hx hb d_CB_productFits_0 rfl (lv_at hl 1 rfl) ?_
  refine lv_lconst (v := 0) hx hb d_CB_productFits_1 rfl ?_
  refine W.lcmp hx hb d_CB_productFits_2 ?_
  refine lv_if_ne (tgt := 8) hx hb d_CB_productFits_3 (by decide) (fun h3 => ?_) (fun h3 => ?_)
  · skip
    rw [lg_cmp_eq] at h3
    refine lv_lload_n hx hb d_CB_productFits_8 rfl (lv_at hl 1 rfl) ?_
    refine lv_ldc2 (v := (-1)) hx hb hown (hts _ (gm k_320)) d_CB_productFits_9 ?_
    refine W.lcmp hx hb d_CB_productFits_12 ?_
    refine lv_if_ne (tgt := 30) hx hb d_CB_productFits_13 (by decide) (fun h13 => ?_) (fun h13 => ?_)
    · skip
      rw [lg_cmp_eq] at h13
      refine lv_lload_n hx hb d_CB_productFits_30 rfl (lv_at hl 0 rfl) ?_
      refine lv_lload_n hx hb d_CB_productFits_31 rfl (lv_at hl 1 rfl) ?_
      refine lv_lmul hx hb d_CB_productFits_32 ?_
      refine lv_lload_n hx hb d_CB_productFits_33 rfl (lv_at hl 1 rfl) ?_
      refine lv_ldiv hx hb d_CB_productFits_34 (h3) ?_
      refine lv_lload_n hx hb d_CB_productFits_35 rfl (lv_at hl 0 rfl) ?_
      refine W.lcmp hx hb d_CB_productFits_36 ?_
      refine lv_if_ne (tgt := 44) hx hb d_CB_productFits_37 (by decide) (fun h37 => ?_) (fun h37 => ?_)
      · skip
        rw [lg_cmp_eq] at h37
        refine lv_iconst (v := (nI 0)) hx hb d_CB_productFits_44 rfl ?_
        exact W.zret hx hb hr rfl (fun t ht hW => ⟨_, rfl, (by first | exact Or.inl ⟨(mul_fits h3 h13).mp h37, rfl⟩ | exact Or.inr ⟨fun z => h37 ((mul_fits h3 h13).mpr z), rfl⟩), ht⟩) (fun q h => nomatch h) d_CB_productFits_45
      · skip
        rw [lg_cmp_eq] at h37
        refine lv_iconst (v := (nI 1)) hx hb d_CB_productFits_40 rfl ?_
        refine lv_goto (tgt := 45) hx hb d_CB_productFits_41 (by decide) ?_
        exact W.zret hx hb hr rfl (fun t ht hW => ⟨_, rfl, (by first | exact Or.inl ⟨(mul_fits h3 h13).mp h37, rfl⟩ | exact Or.inr ⟨fun z => h37 ((mul_fits h3 h13).mpr z), rfl⟩), ht⟩) (fun q h => nomatch h) d_CB_productFits_45
    · skip
      rw [lg_cmp_eq] at h13
      refine lv_lload_n hx hb d_CB_productFits_16 rfl (lv_at hl 0 rfl) ?_
      refine lv_ldc2 (v := (-9223372036854775808)) hx hb hown (hts _ (gm k_259)) d_CB_productFits_17 ?_
      refine W.lcmp hx hb d_CB_productFits_20 ?_
      refine lv_if_eq (tgt := 28) hx hb d_CB_productFits_21 (by decide) (fun h21 => ?_) (fun h21 => ?_)
      · skip
        rw [lg_cmp_eq] at h21
        refine lv_iconst (v := (nI 0)) hx hb d_CB_productFits_28 rfl ?_
        exact W.zret hx hb hr rfl (fun t ht hW => ⟨_, rfl, (by first | exact Or.inl ⟨by rw [h13]; exact fM_m1.mpr h21, rfl⟩ | exact Or.inr ⟨by rw [h13, fM_m1]; exact fun z => z h21, rfl⟩), ht⟩) (fun q h => nomatch h) d_CB_productFits_29
      · skip
        rw [lg_cmp_eq] at h21
        refine lv_iconst (v := (nI 1)) hx hb d_CB_productFits_24 rfl ?_
        refine lv_goto (tgt := 29) hx hb d_CB_productFits_25 (by decide) ?_
        exact W.zret hx hb hr rfl (fun t ht hW => ⟨_, rfl, (by first | exact Or.inl ⟨by rw [h13]; exact fM_m1.mpr h21, rfl⟩ | exact Or.inr ⟨by rw [h13, fM_m1]; exact fun z => z h21, rfl⟩), ht⟩) (fun q h => nomatch h) d_CB_productFits_29
  · skip
    rw [lg_cmp_eq] at h3
    refine lv_iconst (v := (nI 1)) hx hb d_CB_productFits_6 rfl ?_
    exact W.zret hx hb hr rfl (fun t ht hW => ⟨_, rfl, Or.inl ⟨by rw [h3]; exact fM_0 x, rfl⟩, ht⟩) (fun q h => nomatch h) d_CB_productFits_7
set_option maxHeartbeats 4000000 in
set_option maxRecDepth 100000 in
theorem c_CB_fewestTimes (l : Launch) (x y : Int64) (hy : ¬ 0 < y) : Met l y_CB_fewestTimes ws_CB_fewestTimes ({ frames := 0, cells := 0, slots := 0, locals := 0 } : Room) (va_Pc [.long x, .long y] (fun _ => True)) (vp_Sl (fun r => (0 ≤ x.toInt ∧ r = 0) ∨ (x < 0 ∧ (y = 0 ∨ (y = -1 ∧ x = -9223372036854775808)) ∧ r = -1) ∨ (x < 0 ∧ ¬ iB x y ∧ r.toInt = iN x y))) 0 0 (fun _ => False) := by
  refine Met.ofW (cc := b_CB_fewestTimes) (maxL := 6) (ret := (some .long)) (by decide) rfl ?_
  intro p e s m args below meth c s₁ B hml hv
  obtain ⟨rfl, -⟩ := hv
  have hx := B.exec
  have hb := B.bytes
  have hr := B.returns
  have hts := atoms_spec (ws := ws_CB_fewestTimes) B.pre
  have hown : s.vm.findClass "CoinBag" = some m.cls := findClass_of_methodNamed B.named
  have hlocks := B.notSynchronized
  have hl := lv_entry ([.long x, .long y]) (n := 6) (Nat.le_of_ble_eq_true rfl)
  rw [lg_entry_eq]
  generalize (lg_sl ([.long x, .long y]) ++ List.replicate (6 - (lg_sl ([.long x, .long y])).length) Slot.unset).toArray = ls at hl ⊢
  have hl : lv_has ls 6 [(0, .long x), (2, .long y)] := hl
  refine lv_lload_n hx hb d_CB_fewestTimes_0 rfl (lv_at hl 0 rfl) ?_
  refine lv_lconst (v := 0) hx hb d_CB_fewestTimes_1 rfl ?_
  refine W.lcmp hx hb d_CB_fewestTimes_2 ?_
  refine lv_if_lt (tgt := 8) hx hb d_CB_fewestTimes_3 (by decide) (fun h3 => ?_) (fun h3 => ?_)
  · skip
    rw [lg_cmp_lt] at h3
    refine lv_lload_n hx hb d_CB_fewestTimes_8 rfl (lv_at hl 1 rfl) ?_
    refine lv_lconst (v := 0) hx hb d_CB_fewestTimes_9 rfl ?_
    refine W.lcmp hx hb d_CB_fewestTimes_10 ?_
    refine lv_if_eq (tgt := 30) hx hb d_CB_fewestTimes_11 (by decide) (fun h11 => ?_) (fun h11 => ?_)
    · skip
      rw [lg_cmp_eq] at h11
      refine lv_ldc2 (v := (-1)) hx hb hown (hts _ (gm k_320)) d_CB_fewestTimes_30 ?_
      exact W.lret hx hb hr (fun t ht hW => ⟨_, rfl, (by first | exact Or.inr (Or.inl ⟨h3, Or.inl h11, rfl⟩) | exact Or.inr (Or.inl ⟨h3, Or.inr ⟨h19, h27⟩, rfl⟩)), ht⟩) (fun q h => nomatch h) d_CB_fewestTimes_33
    · skip
      rw [lg_cmp_eq] at h11
      refine lv_lload_n hx hb d_CB_fewestTimes_14 rfl (lv_at hl 1 rfl) ?_
      refine lv_ldc2 (v := (-1)) hx hb hown (hts _ (gm k_320)) d_CB_fewestTimes_15 ?_
      refine W.lcmp hx hb d_CB_fewestTimes_18 ?_
      refine lv_if_ne (tgt := 34) hx hb d_CB_fewestTimes_19 (by decide) (fun h19 => ?_) (fun h19 => ?_)
      · skip
        rw [lg_cmp_eq] at h19
        refine lv_lload_n hx hb d_CB_fewestTimes_34 rfl (lv_at hl 0 rfl) ?_
        refine lv_lload_n hx hb d_CB_fewestTimes_35 rfl (lv_at hl 1 rfl) ?_
        refine lv_ldiv hx hb d_CB_fewestTimes_36 (h11) ?_
        refine lv_lstore (lv' := [(4, .long (x / y)), (0, .long x), (2, .long y)]) hx hb d_CB_fewestTimes_37 hl (by decide) rfl (fun ls hl => ?_)
        refine lv_lload_n hx hb d_CB_fewestTimes_39 rfl (lv_at hl 1 rfl) ?_
        refine lv_lload_n hx hb d_CB_fewestTimes_40 rfl (lv_at hl 2 rfl) ?_
        refine lv_lrem hx hb d_CB_fewestTimes_41 (h11) ?_
        refine lv_lconst (v := 0) hx hb d_CB_fewestTimes_42 rfl ?_
        refine W.lcmp hx hb d_CB_fewestTimes_43 ?_
        refine lv_if_ne (tgt := 52) hx hb d_CB_fewestTimes_44 (by decide) (fun h44 => ?_) (fun h44 => ?_)
        · skip
          rw [lg_cmp_eq] at h44
          refine lv_lload hx hb d_CB_fewestTimes_52 (lv_at hl 0 rfl) ?_
          refine lv_lconst (v := 1) hx hb d_CB_fewestTimes_54 rfl ?_
          refine lv_ladd hx hb d_CB_fewestTimes_55 ?_
          exact W.lret hx hb hr (fun t ht hW => ⟨_, rfl, (by first | exact Or.inr (Or.inr ⟨h3, few_nb h11 (fun z => h19 z.2) hy, iN_e0 h3 (few_neg h11 hy) (fun z => h19 z.2) h44⟩) | exact Or.inr (Or.inr ⟨h3, few_nb h11 (fun z => h27 z.1) hy, iN_e0 h3 (few_neg h11 hy) (fun z => h27 z.1) h44⟩) | exact Or.inr (Or.inr ⟨h3, few_nb h11 (fun z => h19 z.2) hy, iN_e1 h3 (few_neg h11 hy) h44⟩) | exact Or.inr (Or.inr ⟨h3, few_nb h11 (fun z => h27 z.1) hy, iN_e1 h3 (few_neg h11 hy) h44⟩)), ht⟩) (fun q h => nomatch h) d_CB_fewestTimes_56
        · skip
          rw [lg_cmp_eq] at h44
          refine lv_lload hx hb d_CB_fewestTimes_47 (lv_at hl 0 rfl) ?_
          refine lv_goto (tgt := 56) hx hb d_CB_fewestTimes_49 (by decide) ?_
          exact W.lret hx hb hr (fun t ht hW => ⟨_, rfl, (by first | exact Or.inr (Or.inr ⟨h3, few_nb h11 (fun z => h19 z.2) hy, iN_e0 h3 (few_neg h11 hy) (fun z => h19 z.2) h44⟩) | exact Or.inr (Or.inr ⟨h3, few_nb h11 (fun z => h27 z.1) hy, iN_e0 h3 (few_neg h11 hy) (fun z => h27 z.1) h44⟩) | exact Or.inr (Or.inr ⟨h3, few_nb h11 (fun z => h19 z.2) hy, iN_e1 h3 (few_neg h11 hy) h44⟩) | exact Or.inr (Or.inr ⟨h3, few_nb h11 (fun z => h27 z.1) hy, iN_e1 h3 (few_neg h11 hy) h44⟩)), ht⟩) (fun q h => nomatch h) d_CB_fewestTimes_56
      · skip
        rw [lg_cmp_eq] at h19
        refine lv_lload_n hx hb d_CB_fewestTimes_22 rfl (lv_at hl 0 rfl) ?_
        refine lv_ldc2 (v := (-9223372036854775808)) hx hb hown (hts _ (gm k_259)) d_CB_fewestTimes_23 ?_
        refine W.lcmp hx hb d_CB_fewestTimes_26 ?_
        refine lv_if_ne (tgt := 34) hx hb d_CB_fewestTimes_27 (by decide) (fun h27 => ?_) (fun h27 => ?_)
        · skip
          rw [lg_cmp_eq] at h27
          refine lv_lload_n hx hb d_CB_fewestTimes_34 rfl (lv_at hl 0 rfl) ?_
          refine lv_lload_n hx hb d_CB_fewestTimes_35 rfl (lv_at hl 1 rfl) ?_
          refine lv_ldiv hx hb d_CB_fewestTimes_36 (h11) ?_
          refine lv_lstore (lv' := [(4, .long (x / y)), (0, .long x), (2, .long y)]) hx hb d_CB_fewestTimes_37 hl (by decide) rfl (fun ls hl => ?_)
          refine lv_lload_n hx hb d_CB_fewestTimes_39 rfl (lv_at hl 1 rfl) ?_
          refine lv_lload_n hx hb d_CB_fewestTimes_40 rfl (lv_at hl 2 rfl) ?_
          refine lv_lrem hx hb d_CB_fewestTimes_41 (h11) ?_
          refine lv_lconst (v := 0) hx hb d_CB_fewestTimes_42 rfl ?_
          refine W.lcmp hx hb d_CB_fewestTimes_43 ?_
          refine lv_if_ne (tgt := 52) hx hb d_CB_fewestTimes_44 (by decide) (fun h44 => ?_) (fun h44 => ?_)
          · skip
            rw [lg_cmp_eq] at h44
            refine lv_lload hx hb d_CB_fewestTimes_52 (lv_at hl 0 rfl) ?_
            refine lv_lconst (v := 1) hx hb d_CB_fewestTimes_54 rfl ?_
            refine lv_ladd hx hb d_CB_fewestTimes_55 ?_
            exact W.lret hx hb hr (fun t ht hW => ⟨_, rfl, (by first | exact Or.inr (Or.inr ⟨h3, few_nb h11 (fun z => h19 z.2) hy, iN_e0 h3 (few_neg h11 hy) (fun z => h19 z.2) h44⟩) | exact Or.inr (Or.inr ⟨h3, few_nb h11 (fun z => h27 z.1) hy, iN_e0 h3 (few_neg h11 hy) (fun z => h27 z.1) h44⟩) | exact Or.inr (Or.inr ⟨h3, few_nb h11 (fun z => h19 z.2) hy, iN_e1 h3 (few_neg h11 hy) h44⟩) | exact Or.inr (Or.inr ⟨h3, few_nb h11 (fun z => h27 z.1) hy, iN_e1 h3 (few_neg h11 hy) h44⟩)), ht⟩) (fun q h => nomatch h) d_CB_fewestTimes_56
          · skip
            rw [lg_cmp_eq] at h44
            refine lv_lload hx hb d_CB_fewestTimes_47 (lv_at hl 0 rfl) ?_
            refine lv_goto (tgt := 56) hx hb d_CB_fewestTimes_49 (by decide) ?_
            exact W.lret hx hb hr (fun t ht hW => ⟨_, rfl, (by first | exact Or.inr (Or.inr ⟨h3, few_nb h11 (fun z => h19 z.2) hy, iN_e0 h3 (few_neg h11 hy) (fun z => h19 z.2) h44⟩) | exact Or.inr (Or.inr ⟨h3, few_nb h11 (fun z => h27 z.1) hy, iN_e0 h3 (few_neg h11 hy) (fun z => h27 z.1) h44⟩) | exact Or.inr (Or.inr ⟨h3, few_nb h11 (fun z => h19 z.2) hy, iN_e1 h3 (few_neg h11 hy) h44⟩) | exact Or.inr (Or.inr ⟨h3, few_nb h11 (fun z => h27 z.1) hy, iN_e1 h3 (few_neg h11 hy) h44⟩)), ht⟩) (fun q h => nomatch h) d_CB_fewestTimes_56
        · skip
          rw [lg_cmp_eq] at h27
          refine lv_ldc2 (v := (-1)) hx hb hown (hts _ (gm k_320)) d_CB_fewestTimes_30 ?_
          exact W.lret hx hb hr (fun t ht hW => ⟨_, rfl, (by first | exact Or.inr (Or.inl ⟨h3, Or.inl h11, rfl⟩) | exact Or.inr (Or.inl ⟨h3, Or.inr ⟨h19, h27⟩, rfl⟩)), ht⟩) (fun q h => nomatch h) d_CB_fewestTimes_33
  · skip
    rw [lg_cmp_lt] at h3
    refine lv_lconst (v := 0) hx hb d_CB_fewestTimes_6 rfl ?_
    exact W.lret hx hb hr (fun t ht hW => ⟨_, rfl, Or.inl ⟨Int.not_lt.mp (fun z => h3 (z_lt0.mpr z)), rfl⟩, ht⟩) (fun q h => nomatch h) d_CB_fewestTimes_7
set_option maxHeartbeats 4000000 in
set_option maxRecDepth 100000 in
theorem c_JI_compare (l : Launch) (x y : Int32)  : Met l y_JI_compare ws_JI_compare ({ frames := 0, cells := 0, slots := 0, locals := 0 } : Room) (va_Pc [.int x, .int y] (fun _ => True)) (vp_Si (fun r => r = c32 x y)) 0 0 (fun _ => False) := by
  refine Met.ofW (cc := b_JI_compare) (maxL := 2) (ret := (some .int)) (by decide) rfl ?_
  intro p e s m args below meth c s₁ B hml hv
  obtain ⟨rfl, -⟩ := hv
  have hx := B.exec
  have hb := B.bytes
  have hr := B.returns
  have hts := atoms_spec (ws := ws_JI_compare) B.pre
  have hown : s.vm.findClass "java/lang/Integer" = some m.cls := findClass_of_methodNamed B.named
  have hlocks := B.notSynchronized
  have hl := lv_entry ([.int x, .int y]) (n := 2) (Nat.le_of_ble_eq_true rfl)
  rw [lg_entry_eq]
  generalize (lg_sl ([.int x, .int y]) ++ List.replicate (2 - (lg_sl ([.int x, .int y])).length) Slot.unset).toArray = ls at hl ⊢
  have hl : lv_has ls 2 [(0, .int x), (1, .int y)] := hl
  refine lv_iload_n hx hb d_JI_compare_0 rfl (lv_at hl 0 rfl) ?_
  refine lv_iload_n hx hb d_JI_compare_1 rfl (lv_at hl 1 rfl) ?_
  refine lv_icmp_ge (tgt := 9) hx hb d_JI_compare_2 (by decide) (fun h2 => ?_) (fun h2 => ?_)
  · skip
    refine lv_iload_n hx hb d_JI_compare_9 rfl (lv_at hl 0 rfl) ?_
    refine lv_iload_n hx hb d_JI_compare_10 rfl (lv_at hl 1 rfl) ?_
    refine lv_icmp_ne (tgt := 18) hx hb d_JI_compare_11 (by decide) (fun h11 => ?_) (fun h11 => ?_)
    · skip
      refine lv_iconst (v := (nI 1)) hx hb d_JI_compare_18 rfl ?_
      exact W.iret hx hb hr (fun t ht hW => ⟨_, rfl, (by first | (unfold c32; rw [if_pos (Int32.not_le.mp h2)]) | (unfold c32; rw [if_neg (Int32.not_lt.mpr h2), if_pos h11]; rfl) | (unfold c32; rw [if_neg (Int32.not_lt.mpr h2), if_neg h11]; rfl)), ht⟩) (fun q h => nomatch h) d_JI_compare_19
    · skip
      refine lv_iconst (v := (nI 0)) hx hb d_JI_compare_14 rfl ?_
      refine lv_goto (tgt := 19) hx hb d_JI_compare_15 (by decide) ?_
      exact W.iret hx hb hr (fun t ht hW => ⟨_, rfl, (by first | (unfold c32; rw [if_pos (Int32.not_le.mp h2)]) | (unfold c32; rw [if_neg (Int32.not_lt.mpr h2), if_pos h11]; rfl) | (unfold c32; rw [if_neg (Int32.not_lt.mpr h2), if_neg h11]; rfl)), ht⟩) (fun q h => nomatch h) d_JI_compare_19
  · skip
    refine lv_iconst (v := (-1)) hx hb d_JI_compare_5 rfl ?_
    refine lv_goto (tgt := 19) hx hb d_JI_compare_6 (by decide) ?_
    exact W.iret hx hb hr (fun t ht hW => ⟨_, rfl, (by first | (unfold c32; rw [if_pos (Int32.not_le.mp h2)]) | (unfold c32; rw [if_neg (Int32.not_lt.mpr h2), if_pos h11]; rfl) | (unfold c32; rw [if_neg (Int32.not_lt.mpr h2), if_neg h11]; rfl)), ht⟩) (fun q h => nomatch h) d_JI_compare_19
set_option maxHeartbeats 4000000 in
set_option maxRecDepth 100000 in
theorem c_JL_compare (l : Launch) (x y : Int64)  : Met l y_JL_compare ws_JL_compare ({ frames := 0, cells := 0, slots := 0, locals := 0 } : Room) (va_Pc [.long x, .long y] (fun _ => True)) (vp_Si (fun r => r = c64 x y)) 0 0 (fun _ => False) := by
  refine Met.ofW (cc := b_JL_compare) (maxL := 4) (ret := (some .int)) (by decide) rfl ?_
  intro p e s m args below meth c s₁ B hml hv
  obtain ⟨rfl, -⟩ := hv
  have hx := B.exec
  have hb := B.bytes
  have hr := B.returns
  have hts := atoms_spec (ws := ws_JL_compare) B.pre
  have hown : s.vm.findClass "java/lang/Long" = some m.cls := findClass_of_methodNamed B.named
  have hlocks := B.notSynchronized
  have hl := lv_entry ([.long x, .long y]) (n := 4) (Nat.le_of_ble_eq_true rfl)
  rw [lg_entry_eq]
  generalize (lg_sl ([.long x, .long y]) ++ List.replicate (4 - (lg_sl ([.long x, .long y])).length) Slot.unset).toArray = ls at hl ⊢
  have hl : lv_has ls 4 [(0, .long x), (2, .long y)] := hl
  refine lv_lload_n hx hb d_JL_compare_0 rfl (lv_at hl 0 rfl) ?_
  refine lv_lload_n hx hb d_JL_compare_1 rfl (lv_at hl 1 rfl) ?_
  refine W.lcmp hx hb d_JL_compare_2 ?_
  refine lv_if_ge (tgt := 10) hx hb d_JL_compare_3 (by decide) (fun h3 => ?_) (fun h3 => ?_)
  · skip
    rw [lg_cmp_ge] at h3
    refine lv_lload_n hx hb d_JL_compare_10 rfl (lv_at hl 0 rfl) ?_
    refine lv_lload_n hx hb d_JL_compare_11 rfl (lv_at hl 1 rfl) ?_
    refine W.lcmp hx hb d_JL_compare_12 ?_
    refine lv_if_ne (tgt := 20) hx hb d_JL_compare_13 (by decide) (fun h13 => ?_) (fun h13 => ?_)
    · skip
      rw [lg_cmp_eq] at h13
      refine lv_iconst (v := (nI 1)) hx hb d_JL_compare_20 rfl ?_
      exact W.iret hx hb hr (fun t ht hW => ⟨_, rfl, (by first | (unfold c64; rw [if_pos (Int64.not_le.mp h3)]) | (unfold c64; rw [if_neg (Int64.not_lt.mpr h3), if_pos h13]; rfl) | (unfold c64; rw [if_neg (Int64.not_lt.mpr h3), if_neg h13]; rfl)), ht⟩) (fun q h => nomatch h) d_JL_compare_21
    · skip
      rw [lg_cmp_eq] at h13
      refine lv_iconst (v := (nI 0)) hx hb d_JL_compare_16 rfl ?_
      refine lv_goto (tgt := 21) hx hb d_JL_compare_17 (by decide) ?_
      exact W.iret hx hb hr (fun t ht hW => ⟨_, rfl, (by first | (unfold c64; rw [if_pos (Int64.not_le.mp h3)]) | (unfold c64; rw [if_neg (Int64.not_lt.mpr h3), if_pos h13]; rfl) | (unfold c64; rw [if_neg (Int64.not_lt.mpr h3), if_neg h13]; rfl)), ht⟩) (fun q h => nomatch h) d_JL_compare_21
  · skip
    rw [lg_cmp_ge] at h3
    refine lv_iconst (v := (-1)) hx hb d_JL_compare_6 rfl ?_
    refine lv_goto (tgt := 21) hx hb d_JL_compare_7 (by decide) ?_
    exact W.iret hx hb hr (fun t ht hW => ⟨_, rfl, (by first | (unfold c64; rw [if_pos (Int64.not_le.mp h3)]) | (unfold c64; rw [if_neg (Int64.not_lt.mpr h3), if_pos h13]; rfl) | (unfold c64; rw [if_neg (Int64.not_lt.mpr h3), if_neg h13]; rfl)), ht⟩) (fun q h => nomatch h) d_JL_compare_21
set_option maxHeartbeats 4000000 in
set_option maxRecDepth 100000 in
theorem c_JL_compareUnsigned (l : Launch) (x y : Int64)  : Met l y_JL_compareUnsigned ws_JL_compareUnsigned ({ frames := 1, cells := 0, slots := 0, locals := 23 } : Room) (va_Pc [.long x, .long y] (fun _ => True)) (vp_Si (fun r => r = c64 (x + (-9223372036854775808)) (y + (-9223372036854775808)))) 0 0 (fun _ => False) := by
  refine Met.ofW (cc := b_JL_compareUnsigned) (maxL := 4) (ret := (some .int)) (by decide) rfl ?_
  intro p e s m args below meth c s₁ B hml hv
  obtain ⟨rfl, -⟩ := hv
  have hx := B.exec
  have hb := B.bytes
  have hr := B.returns
  have hts := atoms_spec (ws := ws_JL_compareUnsigned) B.pre
  have hown : s.vm.findClass "java/lang/Long" = some m.cls := findClass_of_methodNamed B.named
  have hlocks := B.notSynchronized
  have hl := lv_entry ([.long x, .long y]) (n := 4) (Nat.le_of_ble_eq_true rfl)
  rw [lg_entry_eq]
  generalize (lg_sl ([.long x, .long y]) ++ List.replicate (4 - (lg_sl ([.long x, .long y])).length) Slot.unset).toArray = ls at hl ⊢
  have hl : lv_has ls 4 [(0, .long x), (2, .long y)] := hl
  refine lv_lload_n hx hb d_JL_compareUnsigned_0 rfl (lv_at hl 0 rfl) ?_
  refine lv_ldc2 (v := (-9223372036854775808)) hx hb hown (hts _ (gm k_225)) d_JL_compareUnsigned_1 ?_
  refine lv_ladd hx hb d_JL_compareUnsigned_4 ?_
  refine lv_lload_n hx hb d_JL_compareUnsigned_5 rfl (lv_at hl 1 rfl) ?_
  refine lv_ldc2 (v := (-9223372036854775808)) hx hb hown (hts _ (gm k_225)) d_JL_compareUnsigned_6 ?_
  refine lv_ladd hx hb d_JL_compareUnsigned_9 ?_
  refine q_callSi (va_runS (As := [.long (x + (-9223372036854775808)), .long (y + (-9223372036854775808))]) (rest := []) ⟨hx, hb, hml, hown, hts⟩ (c_JL_compare l _ _) (va_cwS 2 hts (gI_S k_228 k_226 k_227 k_31) rfl rfl rfl (by decide +kernel) ⟨Nat.le_of_ble_eq_true rfl, Nat.le_of_ble_eq_true rfl⟩) ⟨fun _ _ _ _ q => q, fun _ _ _ => ⟨rfl, trivial⟩⟩ rfl rfl hl.1 rfl (lv_room (Nat.le_of_ble_eq_true rfl)) d_JL_compareUnsigned_10 ⟨Nat.zero_le _, Nat.zero_le _⟩) (fun r h_r => ?_)
  exact W.iret hx hb hr (fun t ht hW => ⟨_, rfl, h_r, ht⟩) (fun q h => nomatch h) d_JL_compareUnsigned_13
set_option maxHeartbeats 4000000 in
set_option maxRecDepth 100000 in
theorem c_CB_orderOf (l : Launch) (a : Int32) (n : Int64) (b : Int32) (k : Int64)  : Met l y_CB_orderOf ws_CB_orderOf ({ frames := 2, cells := 0, slots := 0, locals := 46 } : Room) (va_Pc [.int a, .long n, .int b, .long k] (fun _ => True)) (vp_Si (fun r => (r < 0 ↔ kv a n < kv b k) ∧ (r = 0 ↔ kv a n = kv b k))) 0 0 (fun _ => False) := by
  refine Met.ofW (cc := b_CB_orderOf) (maxL := 6) (ret := (some .int)) (by decide) rfl ?_
  intro p e s m args below meth c s₁ B hml hv
  obtain ⟨rfl, -⟩ := hv
  have hx := B.exec
  have hb := B.bytes
  have hr := B.returns
  have hts := atoms_spec (ws := ws_CB_orderOf) B.pre
  have hown : s.vm.findClass "CoinBag" = some m.cls := findClass_of_methodNamed B.named
  have hlocks := B.notSynchronized
  have hl := lv_entry ([.int a, .long n, .int b, .long k]) (n := 6) (Nat.le_of_ble_eq_true rfl)
  rw [lg_entry_eq]
  generalize (lg_sl ([.int a, .long n, .int b, .long k]) ++ List.replicate (6 - (lg_sl ([.int a, .long n, .int b, .long k])).length) Slot.unset).toArray = ls at hl ⊢
  have hl : lv_has ls 6 [(0, .int a), (1, .long n), (3, .int b), (4, .long k)] := hl
  refine lv_iload_n hx hb d_CB_orderOf_0 rfl (lv_at hl 0 rfl) ?_
  refine lv_iload_n hx hb d_CB_orderOf_1 rfl (lv_at hl 2 rfl) ?_
  refine lv_icmp_eq (tgt := 11) hx hb d_CB_orderOf_2 (by decide) (fun h2 => ?_) (fun h2 => ?_)
  · skip
    refine lv_lload_n hx hb d_CB_orderOf_11 rfl (lv_at hl 1 rfl) ?_
    refine lv_lload hx hb d_CB_orderOf_12 (lv_at hl 3 rfl) ?_
    refine q_callSi (va_runS (As := [.long n, .long k]) (rest := []) ⟨hx, hb, hml, hown, hts⟩ (c_JL_compareUnsigned l _ _) (va_cwS 2 hts (gI_S k_224 k_222 k_223 k_31) rfl rfl rfl (by decide +kernel) ⟨Nat.le_of_ble_eq_true rfl, Nat.le_of_ble_eq_true rfl⟩) ⟨fun _ _ _ _ q => q, fun _ _ _ => ⟨rfl, trivial⟩⟩ rfl rfl hl.1 rfl (lv_room (Nat.le_of_ble_eq_true rfl)) d_CB_orderOf_14 ⟨Nat.zero_le _, Nat.zero_le _⟩) (fun r h_r => ?_)
    exact W.iret hx hb hr (fun t ht hW => ⟨_, rfl, (by rw [h_r, h2]; exact ord_n), ht⟩) (fun q h => nomatch h) d_CB_orderOf_17
  · skip
    refine lv_iload_n hx hb d_CB_orderOf_5 rfl (lv_at hl 0 rfl) ?_
    refine lv_iload_n hx hb d_CB_orderOf_6 rfl (lv_at hl 2 rfl) ?_
    refine q_callSi (va_runS (As := [.int a, .int b]) (rest := []) ⟨hx, hb, hml, hown, hts⟩ (c_JI_compare l _ _) (va_cwS 2 hts (gI_S k_221 k_219 k_220 k_30) rfl rfl rfl (by decide +kernel) ⟨Nat.le_of_ble_eq_true rfl, Nat.le_of_ble_eq_true rfl⟩) ⟨fun _ _ _ _ q => q, fun _ _ _ => ⟨rfl, trivial⟩⟩ rfl rfl hl.1 rfl (lv_room (Nat.le_of_ble_eq_true rfl)) d_CB_orderOf_7 ⟨Nat.zero_le _, Nat.zero_le _⟩) (fun r h_r => ?_)
    exact W.iret hx hb hr (fun t ht hW => ⟨_, rfl, (by rw [h_r]; exact ord_p h2), ht⟩) (fun q h => nomatch h) d_CB_orderOf_10
set_option maxHeartbeats 4000000 in
set_option maxRecDepth 100000 in
theorem c_JM_floorDiv (l : Launch) (x y : Int64) (hy : 0 < y) : Met l y_JM_floorDiv ws_JM_floorDiv ({ frames := 0, cells := 0, slots := 0, locals := 0 } : Room) (va_Pc [.long x, .long y] (fun _ => True)) (vp_Sl (fun r => (0 ≤ x.toInt → r.toInt = iQ x y) ∧ (x < 0 → r < 0))) 0 0 (fun _ => False) := by
  refine va_MetF (cc := b_JM_floorDiv) (maxL := 6) (ret := (some .long)) (by decide +kernel) rfl ?_
  intro p e s m args below meth c s₁ B hml hv
  obtain ⟨rfl, -⟩ := hv
  have hx := B.exec
  have hb := B.bytes
  have hr := B.returns
  have hts := atoms_spec (ws := ws_JM_floorDiv) B.pre
  have hown : s.vm.findClass "java/lang/Math" = some m.cls := findClass_of_methodNamed B.named
  have hlocks := B.notSynchronized
  have hl := lv_entry ([.long x, .long y]) (n := 6) (Nat.le_of_ble_eq_true rfl)
  rw [lg_entry_eq]
  generalize (lg_sl ([.long x, .long y]) ++ List.replicate (6 - (lg_sl ([.long x, .long y])).length) Slot.unset).toArray = ls at hl ⊢
  have hl : lv_has ls 6 [(0, .long x), (2, .long y)] := hl
  refine lv_lload_n hx hb d_JM_floorDiv_0 rfl (lv_at hl 0 rfl) ?_
  refine lv_lload_n hx hb d_JM_floorDiv_1 rfl (lv_at hl 1 rfl) ?_
  refine lv_ldiv hx hb d_JM_floorDiv_2 (fun z => by rw [z] at hy; exact absurd hy (by decide)) ?_
  refine lv_lstore (lv' := [(4, .long (x / y)), (0, .long x), (2, .long y)]) hx hb d_JM_floorDiv_3 hl (by decide) rfl (fun ls hl => ?_)
  refine lv_lload_n hx hb d_JM_floorDiv_5 rfl (lv_at hl 1 rfl) ?_
  refine lv_lload_n hx hb d_JM_floorDiv_6 rfl (lv_at hl 2 rfl) ?_
  refine lv_lxor hx hb d_JM_floorDiv_7 ?_
  refine lv_lconst (v := 0) hx hb d_JM_floorDiv_8 rfl ?_
  refine W.lcmp hx hb d_JM_floorDiv_9 ?_
  refine lv_if_ge (tgt := 27) hx hb d_JM_floorDiv_10 (by decide) (fun h10 => ?_) (fun h10 => ?_)
  · skip
    rw [lg_cmp_ge] at h10
    refine lv_lload hx hb d_JM_floorDiv_27 (lv_at hl 0 rfl) ?_
    exact W.lret hx hb hr (fun t ht hW => ⟨_, rfl, (by first | exact ⟨fun z => fd_toInt hy, fun z => absurd (fd_xx z hy) (Int64.not_lt.mpr h10)⟩ | exact ⟨fun z => fd_toInt hy, fun z => fd_exact z hy h19⟩), ht⟩) (fun q h => nomatch h) d_JM_floorDiv_29
  · skip
    rw [lg_cmp_ge] at h10
    refine lv_lload hx hb d_JM_floorDiv_13 (lv_at hl 0 rfl) ?_
    refine lv_lload_n hx hb d_JM_floorDiv_15 rfl (lv_at hl 2 rfl) ?_
    refine lv_lmul hx hb d_JM_floorDiv_16 ?_
    refine lv_lload_n hx hb d_JM_floorDiv_17 rfl (lv_at hl 1 rfl) ?_
    refine W.lcmp hx hb d_JM_floorDiv_18 ?_
    refine lv_if_eq (tgt := 27) hx hb d_JM_floorDiv_19 (by decide) (fun h19 => ?_) (fun h19 => ?_)
    · skip
      rw [lg_cmp_eq] at h19
      refine lv_lload hx hb d_JM_floorDiv_27 (lv_at hl 0 rfl) ?_
      exact W.lret hx hb hr (fun t ht hW => ⟨_, rfl, (by first | exact ⟨fun z => fd_toInt hy, fun z => absurd (fd_xx z hy) (Int64.not_lt.mpr h10)⟩ | exact ⟨fun z => fd_toInt hy, fun z => fd_exact z hy h19⟩), ht⟩) (fun q h => nomatch h) d_JM_floorDiv_29
    · skip
      rw [lg_cmp_eq] at h19
      refine lv_lload hx hb d_JM_floorDiv_22 (lv_at hl 0 rfl) ?_
      refine lv_lconst (v := 1) hx hb d_JM_floorDiv_24 rfl ?_
      refine lv_lsub hx hb d_JM_floorDiv_25 ?_
      exact W.lret hx hb hr (fun t ht hW => ⟨_, rfl, ⟨fun z => absurd (z_lt0.mp (fd_xn hy (Int64.not_le.mp h10))) (by omega), fun z => fd_down z hy h19⟩, ht⟩) (fun q h => nomatch h) d_JM_floorDiv_26
set_option maxHeartbeats 4000000 in
set_option maxRecDepth 100000 in
theorem c_Mod_isBag (l : Launch) (b : Int32)  : Met l y_Mod_isBag ws_Mod_isBag ({ frames := 0, cells := 0, slots := 0, locals := 0 } : Room) (va_Pc [.int b] (fun _ => True)) (vp_Si (fun r => ((¬ b < 0 ∧ ¬ nI 8 ≤ b) ∧ r = 1) ∨ (¬ (¬ b < 0 ∧ ¬ nI 8 ≤ b) ∧ r = 0))) 0 0 (fun _ => False) := by
  refine Met.ofW (cc := b_Mod_isBag) (maxL := 1) (ret := (some .boolean)) (by decide) rfl ?_
  intro p e s m args below meth c s₁ B hml hv
  obtain ⟨rfl, -⟩ := hv
  have hx := B.exec
  have hb := B.bytes
  have hr := B.returns
  have hts := atoms_spec (ws := ws_Mod_isBag) B.pre
  have hown : s.vm.findClass "CoinBagModel" = some m.cls := findClass_of_methodNamed B.named
  have hlocks := B.notSynchronized
  have hl := lv_entry ([.int b]) (n := 1) (Nat.le_of_ble_eq_true rfl)
  rw [lg_entry_eq]
  generalize (lg_sl ([.int b]) ++ List.replicate (1 - (lg_sl ([.int b])).length) Slot.unset).toArray = ls at hl ⊢
  have hl : lv_has ls 1 [(0, .int b)] := hl
  refine lv_iload_n hx hb d_Mod_isBag_0 rfl (lv_at hl 0 rfl) ?_
  refine lv_if_lt (tgt := 14) hx hb d_Mod_isBag_1 (by decide) (fun h1 => ?_) (fun h1 => ?_)
  · skip
    refine lv_iconst (v := (nI 0)) hx hb d_Mod_isBag_14 rfl ?_
    exact W.zret hx hb hr rfl (fun t ht hW => ⟨_, rfl, (by first | exact Or.inl ⟨⟨h1, h7⟩, rfl⟩ | exact Or.inr ⟨fun z => z.1 h1, rfl⟩ | exact Or.inr ⟨fun z => z.2 h7, rfl⟩), ht⟩) (fun q h => nomatch h) d_Mod_isBag_15
  · skip
    refine lv_iload_n hx hb d_Mod_isBag_4 rfl (lv_at hl 0 rfl) ?_
    refine lv_bipush (v := (nI 8)) hx hb d_Mod_isBag_5 rfl ?_
    refine lv_icmp_ge (tgt := 14) hx hb d_Mod_isBag_7 (by decide) (fun h7 => ?_) (fun h7 => ?_)
    · skip
      refine lv_iconst (v := (nI 0)) hx hb d_Mod_isBag_14 rfl ?_
      exact W.zret hx hb hr rfl (fun t ht hW => ⟨_, rfl, (by first | exact Or.inl ⟨⟨h1, h7⟩, rfl⟩ | exact Or.inr ⟨fun z => z.1 h1, rfl⟩ | exact Or.inr ⟨fun z => z.2 h7, rfl⟩), ht⟩) (fun q h => nomatch h) d_Mod_isBag_15
    · skip
      refine lv_iconst (v := (nI 1)) hx hb d_Mod_isBag_10 rfl ?_
      refine lv_goto (tgt := 15) hx hb d_Mod_isBag_11 (by decide) ?_
      exact W.zret hx hb hr rfl (fun t ht hW => ⟨_, rfl, (by first | exact Or.inl ⟨⟨h1, h7⟩, rfl⟩ | exact Or.inr ⟨fun z => z.1 h1, rfl⟩ | exact Or.inr ⟨fun z => z.2 h7, rfl⟩), ht⟩) (fun q h => nomatch h) d_Mod_isBag_15
set_option maxHeartbeats 4000000 in
set_option maxRecDepth 100000 in
theorem c_Mod_isPolicy (l : Launch) (b : Int32)  : Met l y_Mod_isPolicy ws_Mod_isPolicy ({ frames := 0, cells := 0, slots := 0, locals := 0 } : Room) (va_Pc [.int b] (fun _ => True)) (vp_Si (fun r => ((¬ b < 0 ∧ ¬ 65536 ≤ b) ∧ r = 1) ∨ (¬ (¬ b < 0 ∧ ¬ 65536 ≤ b) ∧ r = 0))) 0 0 (fun _ => False) := by
  refine Met.ofW (cc := b_Mod_isPolicy) (maxL := 1) (ret := (some .boolean)) (by decide) rfl ?_
  intro p e s m args below meth c s₁ B hml hv
  obtain ⟨rfl, -⟩ := hv
  have hx := B.exec
  have hb := B.bytes
  have hr := B.returns
  have hts := atoms_spec (ws := ws_Mod_isPolicy) B.pre
  have hown : s.vm.findClass "CoinBagModel" = some m.cls := findClass_of_methodNamed B.named
  have hlocks := B.notSynchronized
  have hl := lv_entry ([.int b]) (n := 1) (Nat.le_of_ble_eq_true rfl)
  rw [lg_entry_eq]
  generalize (lg_sl ([.int b]) ++ List.replicate (1 - (lg_sl ([.int b])).length) Slot.unset).toArray = ls at hl ⊢
  have hl : lv_has ls 1 [(0, .int b)] := hl
  refine lv_iload_n hx hb d_Mod_isPolicy_0 rfl (lv_at hl 0 rfl) ?_
  refine lv_if_lt (tgt := 14) hx hb d_Mod_isPolicy_1 (by decide) (fun h1 => ?_) (fun h1 => ?_)
  · skip
    refine lv_iconst (v := (nI 0)) hx hb d_Mod_isPolicy_14 rfl ?_
    exact W.zret hx hb hr rfl (fun t ht hW => ⟨_, rfl, (by first | exact Or.inl ⟨⟨h1, h7⟩, rfl⟩ | exact Or.inr ⟨fun z => z.1 h1, rfl⟩ | exact Or.inr ⟨fun z => z.2 h7, rfl⟩), ht⟩) (fun q h => nomatch h) d_Mod_isPolicy_15
  · skip
    refine lv_iload_n hx hb d_Mod_isPolicy_4 rfl (lv_at hl 0 rfl) ?_
    refine lv_ldc (v := 65536) hx hb hown (hts _ (gm k_469)) d_Mod_isPolicy_5 ?_
    refine lv_icmp_ge (tgt := 14) hx hb d_Mod_isPolicy_7 (by decide) (fun h7 => ?_) (fun h7 => ?_)
    · skip
      refine lv_iconst (v := (nI 0)) hx hb d_Mod_isPolicy_14 rfl ?_
      exact W.zret hx hb hr rfl (fun t ht hW => ⟨_, rfl, (by first | exact Or.inl ⟨⟨h1, h7⟩, rfl⟩ | exact Or.inr ⟨fun z => z.1 h1, rfl⟩ | exact Or.inr ⟨fun z => z.2 h7, rfl⟩), ht⟩) (fun q h => nomatch h) d_Mod_isPolicy_15
    · skip
      refine lv_iconst (v := (nI 1)) hx hb d_Mod_isPolicy_10 rfl ?_
      refine lv_goto (tgt := 15) hx hb d_Mod_isPolicy_11 (by decide) ?_
      exact W.zret hx hb hr rfl (fun t ht hW => ⟨_, rfl, (by first | exact Or.inl ⟨⟨h1, h7⟩, rfl⟩ | exact Or.inr ⟨fun z => z.1 h1, rfl⟩ | exact Or.inr ⟨fun z => z.2 h7, rfl⟩), ht⟩) (fun q h => nomatch h) d_Mod_isPolicy_15
end
section
/-! System.arraycopy within one row -/
section QCP
variable {p : Program} {l : Launch} {e : Env} {R : Room} {s : State} {m : MethodId} {args : Array Value} {below : List Frame} {meth : Method} {c : Code} {H : Heap} {locs : List Loc} {cells slots : Nat} {Q : State → Prop}
variable {cc : ByteArray} {pc : Nat} {ls : Array Slot} {rest : List Value} {D : va_G} {cl : List vw_C} {A : Nat → Prop} {tys : List (ClassId × FieldType)} {n N0 : Nat} {ad : Nat → Nat} {w : Nat → va_E} {H0 : Heap}
theorem q_cpi {own : String} {index : Nat} (hx : p.tables.exec = Jvm.exec) (hb : c.code = cc) (hml : c.maxLocals = ls.size) (hown : s.vm.findClass own = some m.cls) (hlink : (Cond.methodLink own index arraycopyName).before args s = true) (hnat : (Cond.native arraycopyName).before args s = true) (hstat : (Cond.static arraycopyName).before args s = true) (hini : (Cond.initialized "java/lang/System").before args s = true)
    (hK : va_K D cl tys s) (hZ : sZ D cl n ad A H0 w H locs) (k t0 a b ln : Nat) (hk : k < n) {cA : ClassId} {N : Nat} {f : Nat → Int32} (hw : w k = .inl (cA, N, .inl f)) (ht : tys[t0]? = some (cA, .int)) (h1 : a + ln ≤ N) (h2 : b + ln ≤ N) (hN : N < 2 ^ 31) (hfr : 1 ≤ R.frames) (hlo : (rest.map fun v => v.category).sum + (nativeFrameWords "java/lang/System" "arraycopy" 5 + 11) ≤ R.locals) (hdg : decode cc pc = .ok (.invokestatic index, 3))
    (kk : ∀ (H1 : Heap) (locs1 : List Loc), sZ D cl n ad A H0 (va_up w k (.inl (cA, N, .inl (va_cpy f f a b ln)))) H1 locs1 → W p l e R s m args below meth c H1 locs1 cells slots Q (F0 m (pc + 3) ls rest)) : W p l e R s m args below meth c H locs cells slots Q (F0 m pc ls (.int (nI ln) :: .int (nI b) :: .ref (ad k) :: .int (nI a) :: .ref (ad k) :: rest)) := by
  have ea : (nI a).toNatClampNeg = a := nI_clamp (by omega)
  have eb : (nI b).toNatClampNeg = b := nI_clamp (by omega)
  have el : (nI ln).toNatClampNeg = ln := nI_clamp (by omega)
  refine va_copyi (ty := .int) hx hb hml hown hlink hnat hstat hini hK hZ.1 hZ.2.1 hZ.2.2 k k t0 t0 (wsW_at hk hw) (wsW_at hk hw) ht ht rfl (nI_pos (by omega)) (nI_pos (by omega)) (nI_pos (by omega)) (by rw [ea, el]; exact h1) (by rw [eb, el]; exact h2) (fun i _ => rfl) hfr hlo hdg (fun H1 locs1 g1 g2 g3 => kk H1 locs1 ?_)
  rw [ea, eb, el, wsW_set hk] at g1 g2
  exact ⟨g1, g2, g3⟩
theorem q_cpl {own : String} {index : Nat} (hx : p.tables.exec = Jvm.exec) (hb : c.code = cc) (hml : c.maxLocals = ls.size) (hown : s.vm.findClass own = some m.cls) (hlink : (Cond.methodLink own index arraycopyName).before args s = true) (hnat : (Cond.native arraycopyName).before args s = true) (hstat : (Cond.static arraycopyName).before args s = true) (hini : (Cond.initialized "java/lang/System").before args s = true)
    (hK : va_K D cl tys s) (hZ : sZ D cl n ad A H0 w H locs) (k t0 a b ln : Nat) (hk : k < n) {cA : ClassId} {N : Nat} {f : Nat → Int64} (hw : w k = .inl (cA, N, .inr (.inl f))) (ht : tys[t0]? = some (cA, .long)) (h1 : a + ln ≤ N) (h2 : b + ln ≤ N) (hN : N < 2 ^ 31) (hfr : 1 ≤ R.frames) (hlo : (rest.map fun v => v.category).sum + (nativeFrameWords "java/lang/System" "arraycopy" 5 + 11) ≤ R.locals) (hdg : decode cc pc = .ok (.invokestatic index, 3))
    (kk : ∀ (H1 : Heap) (locs1 : List Loc), sZ D cl n ad A H0 (va_up w k (.inl (cA, N, .inr (.inl (va_cpy f f a b ln))))) H1 locs1 → W p l e R s m args below meth c H1 locs1 cells slots Q (F0 m (pc + 3) ls rest)) : W p l e R s m args below meth c H locs cells slots Q (F0 m pc ls (.int (nI ln) :: .int (nI b) :: .ref (ad k) :: .int (nI a) :: .ref (ad k) :: rest)) := by
  have ea : (nI a).toNatClampNeg = a := nI_clamp (by omega)
  have eb : (nI b).toNatClampNeg = b := nI_clamp (by omega)
  have el : (nI ln).toNatClampNeg = ln := nI_clamp (by omega)
  refine va_copyl (ty := .long) hx hb hml hown hlink hnat hstat hini hK hZ.1 hZ.2.1 hZ.2.2 k k t0 t0 (wsW_at hk hw) (wsW_at hk hw) ht ht rfl (nI_pos (by omega)) (nI_pos (by omega)) (nI_pos (by omega)) (by rw [ea, el]; exact h1) (by rw [eb, el]; exact h2) (fun i _ => rfl) hfr hlo hdg (fun H1 locs1 g1 g2 g3 => kk H1 locs1 ?_)
  rw [ea, eb, el, wsW_set hk] at g1 g2
  exact ⟨g1, g2, g3⟩
end QCP
end
section
/-! the class Bag -/
set_option maxHeartbeats 4000000 in
set_option maxRecDepth 100000 in
/-- where the KIND is, or would have to be put -/
theorem c_Bag_placeFor (l : Launch) (dC : Nat → ClassId) (dI : Nat → Nat → Nat) (cI cL cB : ClassId) (ad : Nat → Nat) (N0 : Nat) (w : Nat → va_E) (k z : Nat) (P : Nat → Int32) (N A : Nat → Int64) (q : Int32) (x : Int64) (hk : k < 9) (hB : isBag ad cI cL w k z P N A) : Met l y_Bag_placeFor ws_Bag_placeFor ({ frames := 3, cells := 0, slots := 0, locals := 71 } : Room) (va_Pc [.ref (ad (bb k)), .int q, .long x] (sPr (dC, dI) vCl [(cI, .int), (cL, .long), (cB, .object "CoinBag$Bag")] 52 ad N0 w)) (va_Qi (fun r u => u = w ∧ ∃ i, r = nI i ∧ cPl z P N (kv q x) i) (sPr (dC, dI) vCl [(cI, .int), (cL, .long), (cB, .object "CoinBag$Bag")] 52 ad N0) (fun q => N0 ≤ q)) 0 0 (fun q => N0 ≤ q) := by
  refine Met.ofW (cc := b_Bag_placeFor) (maxL := 5) (ret := (some .int)) (by decide) rfl ?_
  intro p e s m args below meth c s₁ B hml hv
  obtain ⟨rfl, hP, hK, hD, hN, hAm⟩ := hv
  have hx := B.exec
  have hb := B.bytes
  have hr := B.returns
  have hts := atoms_spec (ws := ws_Bag_placeFor) B.pre
  have hown : s.vm.findClass "CoinBag$Bag" = some m.cls := findClass_of_methodNamed B.named
  have hlocks := B.notSynchronized
  have hZ : sZ (dC, dI) vCl 52 ad (fun q => N0 ≤ q) s.heap w s.heap [] := ⟨hP, hD, va_S.rf⟩
  have hl := lv_entry ([.ref (ad (bb k)), .int q, .long x]) (n := 5) (Nat.le_of_ble_eq_true rfl)
  rw [lg_entry_eq]
  generalize (lg_sl ([.ref (ad (bb k)), .int q, .long x]) ++ List.replicate (5 - (lg_sl ([.ref (ad (bb k)), .int q, .long x])).length) Slot.unset).toArray = ls at hl ⊢
  have hl : lv_has ls 5 [(0, .ref (ad (bb k))), (1, .int q), (2, .long x)] := hl
  have hz : z ≤ 64 := hB.2.2.2.2
  refine lv_iconst (v := (nI 0)) hx hb d_Bag_placeFor_0 rfl ?_
  refine lv_istore (lv' := [(4, .int (nI 0)), (0, .ref (ad (bb k))), (1, .int q), (2, .long x)]) hx hb d_Bag_placeFor_1 hl (by decide) rfl (fun ls hl => ?_)
  have loop3 : ∀ (fu3 : Nat) (i : Nat) (H : Heap) (locs : List Loc) (ls : Array Slot), (i ≤ z) → (z + 1 ≤ i + fu3) → (∀ j, j < i → kk P N j < kv q x) → sZ (dC, dI) vCl 52 ad (fun q => N0 ≤ q) s.heap w H locs → lv_has ls 5 [(4, .int (nI i)), (0, .ref (ad (bb k))), (1, .int q), (2, .long x)] → W p l e (headSpec ws_Bag_placeFor ({ frames := 3, cells := 0, slots := 0, locals := 71 } : Room)).room s m ([.ref (ad (bb k)), .int q, .long x]).toArray below meth c H locs 0 0 (MQ below (va_Qi (fun r u => u = w ∧ ∃ i, r = nI i ∧ cPl z P N (kv q x) i) (sPr (dC, dI) vCl [(cI, .int), (cL, .long), (cB, .object "CoinBag$Bag")] 52 ad N0) (fun q => N0 ≤ q)) ([.ref (ad (bb k)), .int q, .long x]).toArray s 0 0 (fun q => N0 ≤ q)) (F0 m 3 ls []) := by
    intro fu3
    induction fu3 with
    | zero =>
      intro i H locs ls hi hf hv
      omega
    | succ fu3 ih3 =>
      intro i H locs ls hi hf hv hZ hl
      refine lv_iload hx hb d_Bag_placeFor_3 (lv_at hl 0 rfl) ?_
      refine lv_aload_n hx hb d_Bag_placeFor_5 rfl (lv_at hl 1 rfl) ?_
      refine q_get (C := R_Bag) (T := T_Bag) (N := 4) hx hb hts (fun w h => gm (inT_Bag w h)) hown hK hZ (bb k) (by have := bb_r hk; omega) hB.1 rfl 3 (by decide) (hts _ (gm k_58)) (fun _ h9 => h9) rfl d_Bag_placeFor_6 ?_
      refine lv_icmp_ge (tgt := 43) hx hb d_Bag_placeFor_9 (by decide) (fun h9 => ?_) (fun h9 => ?_)
      · skip
        have h9 : z ≤ i := (nI_leI (a := z) (b := i) (by omega) (by omega)).mp h9
        refine lv_aload_n hx hb d_Bag_placeFor_43 rfl (lv_at hl 1 rfl) ?_
        refine q_get (C := R_Bag) (T := T_Bag) (N := 4) hx hb hts (fun w h => gm (inT_Bag w h)) hown hK hZ (bb k) (by have := bb_r hk; omega) hB.1 rfl 3 (by decide) (hts _ (gm k_58)) (fun _ h9 => h9) rfl d_Bag_placeFor_44 ?_
        exact q_iret hx hb hr hlocks hK hAm hZ hN (⟨rfl, z, rfl, Nat.le_refl z, fun j hj => hv j (by omega), fun h => absurd h (Nat.lt_irrefl z)⟩) d_Bag_placeFor_47
      · skip
        have h9 : i < z := Nat.lt_of_not_le (fun z9 => h9 ((nI_leI (a := z) (b := i) (by omega) (by omega)).mpr z9))
        refine lv_aload_n hx hb d_Bag_placeFor_12 rfl (lv_at hl 1 rfl) ?_
        refine q_get (C := R_Bag) (T := T_Bag) (N := 4) hx hb hts (fun w h => gm (inT_Bag w h)) hown hK hZ (bb k) (by have := bb_r hk; omega) hB.1 rfl 0 (by decide) (hts _ (gm k_49)) (fun _ h9 => h9) rfl d_Bag_placeFor_13 ?_
        refine lv_iload hx hb d_Bag_placeFor_16 (lv_at hl 0 rfl) ?_
        refine q_iald hx hb hK hZ (bb k + 1) 0 (i) (by have := bb_r hk; omega) hB.2.1 rfl rfl (by omega) (by decide) d_Bag_placeFor_18 ?_
        refine lv_aload_n hx hb d_Bag_placeFor_19 rfl (lv_at hl 1 rfl) ?_
        refine q_get (C := R_Bag) (T := T_Bag) (N := 4) hx hb hts (fun w h => gm (inT_Bag w h)) hown hK hZ (bb k) (by have := bb_r hk; omega) hB.1 rfl 1 (by decide) (hts _ (gm k_52)) (fun _ h9 => h9) rfl d_Bag_placeFor_20 ?_
        refine lv_iload hx hb d_Bag_placeFor_23 (lv_at hl 0 rfl) ?_
        refine q_lald hx hb hK hZ (bb k + 2) 1 (i) (by have := bb_r hk; omega) hB.2.2.1 rfl rfl (by omega) (by decide) d_Bag_placeFor_25 ?_
        refine lv_iload_n hx hb d_Bag_placeFor_26 rfl (lv_at hl 2 rfl) ?_
        refine lv_lload_n hx hb d_Bag_placeFor_27 rfl (lv_at hl 3 rfl) ?_
        refine q_callSi (va_runSN (As := [.int (P i), .long (N i), .int q, .long x]) (rest := []) ⟨hx, hb, hml, hown, hts⟩ (c_CB_orderOf l _ _ _ _) ⟨va_cnB 4 hts (gI k_218) rfl rfl rfl (hAm.2.2.2.1) (hts _ (gm k_21)) (by decide +kernel) ⟨Nat.le_of_ble_eq_true rfl, Nat.le_of_ble_eq_true rfl⟩, hts _ (gm k_217), trivial⟩ ⟨fun _ _ _ _ q => q, fun _ _ _ => ⟨rfl, trivial⟩⟩ rfl rfl hl.1 rfl (lv_room (Nat.le_of_ble_eq_true rfl)) d_Bag_placeFor_28 ⟨Nat.zero_le _, Nat.zero_le _⟩) (fun r h_r => ?_)
        refine lv_if_lt (tgt := 37) hx hb d_Bag_placeFor_31 (by decide) (fun h31 => ?_) (fun h31 => ?_)
        · skip
          refine lv_iinc (v := (nI (i + 1))) (lv' := [(4, .int (nI (i + 1))), (0, .ref (ad (bb k))), (1, .int q), (2, .long x)]) hx hb d_Bag_placeFor_37 hl (k := 0) rfl (nI_1 _) (by decide) rfl (fun ls hl => ?_)
          refine lv_goto (tgt := 3) hx hb d_Bag_placeFor_40 (by decide) ?_
          exact ih3 (i + 1) _ _ _ (by omega) (by omega) (lt_s hv (h_r.1.mp h31)) hZ (lv_sub hl [0, 1, 2, 3] rfl)
        · skip
          refine lv_iload hx hb d_Bag_placeFor_34 (lv_at hl 0 rfl) ?_
          exact q_iret hx hb hr hlocks hK hAm hZ hN (⟨rfl, i, rfl, by omega, hv, fun _ => by have h : ¬ kv (P i) (N i) < kv q x := fun y => h31 (h_r.1.mpr y); show kv q x ≤ kv (P i) (N i); omega⟩) d_Bag_placeFor_36
  exact loop3 (z + 1) 0 _ _ _ (Nat.zero_le z) (by omega) (fun j h => absurd h (Nat.not_lt_zero _)) hZ (lv_sub hl [0, 1, 2, 3] rfl)
set_option maxHeartbeats 4000000 in
set_option maxRecDepth 100000 in
theorem c_Bag_holdsAt (l : Launch) (dC : Nat → ClassId) (dI : Nat → Nat → Nat) (cI cL cB : ClassId) (ad : Nat → Nat) (N0 : Nat) (w : Nat → va_E) (k z : Nat) (P : Nat → Int32) (N A : Nat → Int64) (i : Nat) (q : Int32) (x : Int64) (hk : k < 9) (hB : isBag ad cI cL w k z P N A) (hi : i ≤ 64) : Met l y_Bag_holdsAt ws_Bag_holdsAt ({ frames := 0, cells := 0, slots := 0, locals := 0 } : Room) (va_Pc [.ref (ad (bb k)), .int (nI i), .int q, .long x] (sPr (dC, dI) vCl [(cI, .int), (cL, .long), (cB, .object "CoinBag$Bag")] 52 ad N0 w)) (va_Qi (fun r u => u = w ∧ (((i < z ∧ kk P N i = kv q x) ∧ r = 1) ∨ (¬ (i < z ∧ kk P N i = kv q x) ∧ r = 0))) (sPr (dC, dI) vCl [(cI, .int), (cL, .long), (cB, .object "CoinBag$Bag")] 52 ad N0) (fun q => N0 ≤ q)) 0 0 (fun q => N0 ≤ q) := by
  refine Met.ofW (cc := b_Bag_holdsAt) (maxL := 5) (ret := (some .boolean)) (by decide) rfl ?_
  intro p e s m args below meth c s₁ B hml hv
  obtain ⟨rfl, hP, hK, hD, hN, hAm⟩ := hv
  have hx := B.exec
  have hb := B.bytes
  have hr := B.returns
  have hts := atoms_spec (ws := ws_Bag_holdsAt) B.pre
  have hown : s.vm.findClass "CoinBag$Bag" = some m.cls := findClass_of_methodNamed B.named
  have hlocks := B.notSynchronized
  have hZ : sZ (dC, dI) vCl 52 ad (fun q => N0 ≤ q) s.heap w s.heap [] := ⟨hP, hD, va_S.rf⟩
  have hl := lv_entry ([.ref (ad (bb k)), .int (nI i), .int q, .long x]) (n := 5) (Nat.le_of_ble_eq_true rfl)
  rw [lg_entry_eq]
  generalize (lg_sl ([.ref (ad (bb k)), .int (nI i), .int q, .long x]) ++ List.replicate (5 - (lg_sl ([.ref (ad (bb k)), .int (nI i), .int q, .long x])).length) Slot.unset).toArray = ls at hl ⊢
  have hl : lv_has ls 5 [(0, .ref (ad (bb k))), (1, .int (nI i)), (2, .int q), (3, .long x)] := hl
  have hz : z ≤ 64 := hB.2.2.2.2
  refine lv_iload_n hx hb d_Bag_holdsAt_0 rfl (lv_at hl 1 rfl) ?_
  refine lv_aload_n hx hb d_Bag_holdsAt_1 rfl (lv_at hl 0 rfl) ?_
  refine q_get (C := R_Bag) (T := T_Bag) (N := 4) hx hb hts (fun w h => gm (inT_Bag w h)) hown hK hZ (bb k) (by have := bb_r hk; omega) hB.1 rfl 3 (by decide) (hts _ (gm k_58)) (fun _ h9 => h9) rfl d_Bag_holdsAt_2 ?_
  refine lv_icmp_ge (tgt := 33) hx hb d_Bag_holdsAt_5 (by decide) (fun h5 => ?_) (fun h5 => ?_)
  · skip
    have h5 : z ≤ i := (nI_leI (a := z) (b := i) (by omega) (by omega)).mp h5
    refine lv_iconst (v := (nI 0)) hx hb d_Bag_holdsAt_33 rfl ?_
    exact q_zret hx hb hr rfl hlocks hK hAm hZ hN ((by first | exact ⟨rfl, Or.inl ⟨⟨h5, kv_inj.mpr ⟨h15, h26⟩⟩, rfl⟩⟩ | exact ⟨rfl, Or.inr ⟨fun y => h26 (kv_inj.mp y.2).2, rfl⟩⟩ | exact ⟨rfl, Or.inr ⟨fun y => h15 (kv_inj.mp y.2).1, rfl⟩⟩ | exact ⟨rfl, Or.inr ⟨fun y => by omega, rfl⟩⟩)) d_Bag_holdsAt_34
  · skip
    have h5 : i < z := Nat.lt_of_not_le (fun z9 => h5 ((nI_leI (a := z) (b := i) (by omega) (by omega)).mpr z9))
    refine lv_aload_n hx hb d_Bag_holdsAt_8 rfl (lv_at hl 0 rfl) ?_
    refine q_get (C := R_Bag) (T := T_Bag) (N := 4) hx hb hts (fun w h => gm (inT_Bag w h)) hown hK hZ (bb k) (by have := bb_r hk; omega) hB.1 rfl 0 (by decide) (hts _ (gm k_49)) (fun _ h9 => h9) rfl d_Bag_holdsAt_9 ?_
    refine lv_iload_n hx hb d_Bag_holdsAt_12 rfl (lv_at hl 1 rfl) ?_
    refine q_iald hx hb hK hZ (bb k + 1) 0 (i) (by have := bb_r hk; omega) hB.2.1 rfl rfl (by omega) (by decide) d_Bag_holdsAt_13 ?_
    refine lv_iload_n hx hb d_Bag_holdsAt_14 rfl (lv_at hl 2 rfl) ?_
    refine lv_icmp_ne (tgt := 33) hx hb d_Bag_holdsAt_15 (by decide) (fun h15 => ?_) (fun h15 => ?_)
    · skip
      refine lv_iconst (v := (nI 0)) hx hb d_Bag_holdsAt_33 rfl ?_
      exact q_zret hx hb hr rfl hlocks hK hAm hZ hN ((by first | exact ⟨rfl, Or.inl ⟨⟨h5, kv_inj.mpr ⟨h15, h26⟩⟩, rfl⟩⟩ | exact ⟨rfl, Or.inr ⟨fun y => h26 (kv_inj.mp y.2).2, rfl⟩⟩ | exact ⟨rfl, Or.inr ⟨fun y => h15 (kv_inj.mp y.2).1, rfl⟩⟩ | exact ⟨rfl, Or.inr ⟨fun y => by omega, rfl⟩⟩)) d_Bag_holdsAt_34
    · skip
      refine lv_aload_n hx hb d_Bag_holdsAt_18 rfl (lv_at hl 0 rfl) ?_
      refine q_get (C := R_Bag) (T := T_Bag) (N := 4) hx hb hts (fun w h => gm (inT_Bag w h)) hown hK hZ (bb k) (by have := bb_r hk; omega) hB.1 rfl 1 (by decide) (hts _ (gm k_52)) (fun _ h9 => h9) rfl d_Bag_holdsAt_19 ?_
      refine lv_iload_n hx hb d_Bag_holdsAt_22 rfl (lv_at hl 1 rfl) ?_
      refine q_lald hx hb hK hZ (bb k + 2) 1 (i) (by have := bb_r hk; omega) hB.2.2.1 rfl rfl (by omega) (by decide) d_Bag_holdsAt_23 ?_
      refine lv_lload_n hx hb d_Bag_holdsAt_24 rfl (lv_at hl 3 rfl) ?_
      refine W.lcmp hx hb d_Bag_holdsAt_25 ?_
      refine lv_if_ne (tgt := 33) hx hb d_Bag_holdsAt_26 (by decide) (fun h26 => ?_) (fun h26 => ?_)
      · skip
        rw [lg_cmp_eq] at h26
        refine lv_iconst (v := (nI 0)) hx hb d_Bag_holdsAt_33 rfl ?_
        exact q_zret hx hb hr rfl hlocks hK hAm hZ hN ((by first | exact ⟨rfl, Or.inl ⟨⟨h5, kv_inj.mpr ⟨h15, h26⟩⟩, rfl⟩⟩ | exact ⟨rfl, Or.inr ⟨fun y => h26 (kv_inj.mp y.2).2, rfl⟩⟩ | exact ⟨rfl, Or.inr ⟨fun y => h15 (kv_inj.mp y.2).1, rfl⟩⟩ | exact ⟨rfl, Or.inr ⟨fun y => by omega, rfl⟩⟩)) d_Bag_holdsAt_34
      · skip
        rw [lg_cmp_eq] at h26
        refine lv_iconst (v := (nI 1)) hx hb d_Bag_holdsAt_29 rfl ?_
        refine lv_goto (tgt := 34) hx hb d_Bag_holdsAt_30 (by decide) ?_
        exact q_zret hx hb hr rfl hlocks hK hAm hZ hN ((by first | exact ⟨rfl, Or.inl ⟨⟨h5, kv_inj.mpr ⟨h15, h26⟩⟩, rfl⟩⟩ | exact ⟨rfl, Or.inr ⟨fun y => h26 (kv_inj.mp y.2).2, rfl⟩⟩ | exact ⟨rfl, Or.inr ⟨fun y => h15 (kv_inj.mp y.2).1, rfl⟩⟩ | exact ⟨rfl, Or.inr ⟨fun y => by omega, rfl⟩⟩)) d_Bag_holdsAt_34
set_option maxHeartbeats 4000000 in
set_option maxRecDepth 100000 in
theorem c_Bag_amountOf (l : Launch) (dC : Nat → ClassId) (dI : Nat → Nat → Nat) (cI cL cB : ClassId) (ad : Nat → Nat) (N0 : Nat) (w : Nat → va_E) (k z : Nat) (P : Nat → Int32) (N A : Nat → Int64) (q : Int32) (x : Int64) (F : Int → Int64) (hk : k < 9) (hB : isBag ad cI cL w k z P N A) (hC : cRep z P N A F) : Met l y_Bag_amountOf ws_Bag_amountOf ({ frames := 4, cells := 0, slots := 0, locals := 95 } : Room) (va_Pc [.ref (ad (bb k)), .int q, .long x] (sPr (dC, dI) vCl [(cI, .int), (cL, .long), (cB, .object "CoinBag$Bag")] 52 ad N0 w)) (va_Ql (fun r u => u = w ∧ r = F (kv q x)) (sPr (dC, dI) vCl [(cI, .int), (cL, .long), (cB, .object "CoinBag$Bag")] 52 ad N0) (fun q => N0 ≤ q)) 0 0 (fun q => N0 ≤ q) := by
  refine Met.ofW (cc := b_Bag_amountOf) (maxL := 5) (ret := (some .long)) (by decide) rfl ?_
  intro p e s m args below meth c s₁ B hml hv
  obtain ⟨rfl, hP, hK, hD, hN, hAm⟩ := hv
  have hx := B.exec
  have hb := B.bytes
  have hr := B.returns
  have hts := atoms_spec (ws := ws_Bag_amountOf) B.pre
  have hown : s.vm.findClass "CoinBag$Bag" = some m.cls := findClass_of_methodNamed B.named
  have hlocks := B.notSynchronized
  have hZ : sZ (dC, dI) vCl 52 ad (fun q => N0 ≤ q) s.heap w s.heap [] := ⟨hP, hD, va_S.rf⟩
  have hl := lv_entry ([.ref (ad (bb k)), .int q, .long x]) (n := 5) (Nat.le_of_ble_eq_true rfl)
  rw [lg_entry_eq]
  generalize (lg_sl ([.ref (ad (bb k)), .int q, .long x]) ++ List.replicate (5 - (lg_sl ([.ref (ad (bb k)), .int q, .long x])).length) Slot.unset).toArray = ls at hl ⊢
  have hl : lv_has ls 5 [(0, .ref (ad (bb k))), (1, .int q), (2, .long x)] := hl
  have hz : z ≤ 64 := hB.2.2.2.2
  refine lv_aload_n hx hb d_Bag_amountOf_0 rfl (lv_at hl 0 rfl) ?_
  refine lv_iload_n hx hb d_Bag_amountOf_1 rfl (lv_at hl 1 rfl) ?_
  refine lv_lload_n hx hb d_Bag_amountOf_2 rfl (lv_at hl 2 rfl) ?_
  refine q_calli (va_runV (As := [.int q, .long x]) (rest := []) ⟨hx, hb, hml, hown, hts⟩ (c_Bag_placeFor l dC dI cI cL cB ad N0 w k z P N A q x hk hB) (cwV 2 hts (gI_V k_215 k_212 k_214 k_1 k_22) rfl rfl rfl (by decide +kernel) ⟨Nat.le_of_ble_eq_true rfl, Nat.le_of_ble_eq_true rfl⟩) (q_preV hK hAm hZ hN [.int q, .long x] (bb k) 0 (by have := bb_r hk; omega) hB.1 rfl) rfl rfl hl.1 rfl (lv_room (Nat.le_of_ble_eq_true rfl)) d_Bag_amountOf_3 ⟨Nat.zero_le _, Nat.zero_le _⟩) hZ (fun r u_r H locs h_r hZ => ?_)
  obtain ⟨e_r, i, rfl, hp⟩ := h_r
  rw [e_r] at hZ
  have hi : i ≤ z := hp.1
  refine lv_istore (lv' := [(4, .int (nI i)), (0, .ref (ad (bb k))), (1, .int q), (2, .long x)]) hx hb d_Bag_amountOf_6 hl (by decide) rfl (fun ls hl => ?_)
  refine lv_aload_n hx hb d_Bag_amountOf_8 rfl (lv_at hl 1 rfl) ?_
  refine lv_iload hx hb d_Bag_amountOf_9 (lv_at hl 0 rfl) ?_
  refine lv_iload_n hx hb d_Bag_amountOf_11 rfl (lv_at hl 2 rfl) ?_
  refine lv_lload_n hx hb d_Bag_amountOf_12 rfl (lv_at hl 3 rfl) ?_
  refine q_calli (va_runV (As := [.int (nI i), .int q, .long x]) (rest := []) ⟨hx, hb, hml, hown, hts⟩ (c_Bag_holdsAt l dC dI cI cL cB ad N0 w k z P N A i q x hk hB (by omega)) (cwV 3 hts (gI_V k_232 k_229 k_231 k_2 k_22) rfl rfl rfl (by decide +kernel) ⟨Nat.le_of_ble_eq_true rfl, Nat.le_of_ble_eq_true rfl⟩) (q_preV hK hAm hZ hN [.int (nI i), .int q, .long x] (bb k) 0 (by have := bb_r hk; omega) hB.1 rfl) rfl rfl hl.1 rfl (lv_room (Nat.le_of_ble_eq_true rfl)) d_Bag_amountOf_13 ⟨Nat.zero_le _, Nat.zero_le _⟩) hZ (fun t u_t H locs h_t hZ => ?_)
  obtain ⟨e_t, ht⟩ := h_t
  rw [e_t] at hZ
  refine lv_if_eq (tgt := 29) hx hb d_Bag_amountOf_16 (by decide) (fun h16 => ?_) (fun h16 => ?_)
  · skip
    have ht0 : ¬ (i < z ∧ kk P N i = kv q x) := ht.elim (fun y => absurd (y.2.symm.trans h16) (by decide)) (fun y => y.1)
    refine lv_lconst (v := 0) hx hb d_Bag_amountOf_29 rfl ?_
    exact q_lret hx hb hr hlocks hK hAm hZ hN ((by first | exact ⟨rfl, (look_y hC ht0.1 ht0.2).symm⟩ | exact ⟨rfl, (look_n hC hp ht0).symm⟩)) d_Bag_amountOf_30
  · skip
    have ht0 : i < z ∧ kk P N i = kv q x := ht.elim (fun y => y.1) (fun y => absurd y.2 h16)
    have hiz := ht0.1
    refine lv_aload_n hx hb d_Bag_amountOf_19 rfl (lv_at hl 1 rfl) ?_
    refine q_get (C := R_Bag) (T := T_Bag) (N := 4) hx hb hts (fun w h => gm (inT_Bag w h)) hown hK hZ (bb k) (by have := bb_r hk; omega) hB.1 rfl 2 (by decide) (hts _ (gm k_55)) (fun _ h9 => h9) rfl d_Bag_amountOf_20 ?_
    refine lv_iload hx hb d_Bag_amountOf_23 (lv_at hl 0 rfl) ?_
    refine q_lald hx hb hK hZ (bb k + 3) 1 (i) (by have := bb_r hk; omega) hB.2.2.2.1 rfl rfl (by omega) (by decide) d_Bag_amountOf_25 ?_
    refine lv_goto (tgt := 30) hx hb d_Bag_amountOf_26 (by decide) ?_
    exact q_lret hx hb hr hlocks hK hAm hZ hN ((by first | exact ⟨rfl, (look_y hC ht0.1 ht0.2).symm⟩ | exact ⟨rfl, (look_n hC hp ht0).symm⟩)) d_Bag_amountOf_30
set_option maxHeartbeats 4000000 in
set_option maxRecDepth 100000 in
theorem c_Bag_empty (l : Launch) (dC : Nat → ClassId) (dI : Nat → Nat → Nat) (cI cL cB : ClassId) (ad : Nat → Nat) (N0 : Nat) (w : Nat → va_E) (k z : Nat) (P : Nat → Int32) (N A : Nat → Int64)  (hk : k < 9) (hB : isBag ad cI cL w k z P N A) : Met l y_Bag_empty ws_Bag_empty ({ frames := 0, cells := 0, slots := 0, locals := 0 } : Room) (va_Pc [.ref (ad (bb k))] (sPr (dC, dI) vCl [(cI, .int), (cL, .long), (cB, .object "CoinBag$Bag")] 52 ad N0 w)) (va_Qv (fun u => isBag ad cI cL u k 0 P N A ∧ fr w u (bb k) (bb k + 3)) (sPr (dC, dI) vCl [(cI, .int), (cL, .long), (cB, .object "CoinBag$Bag")] 52 ad N0) (fun q => N0 ≤ q)) 0 0 (fun q => N0 ≤ q) := by
  refine Met.ofW (cc := b_Bag_empty) (maxL := 1) (ret := none) (by decide) rfl ?_
  intro p e s m args below meth c s₁ B hml hv
  obtain ⟨rfl, hP, hK, hD, hN, hAm⟩ := hv
  have hx := B.exec
  have hb := B.bytes
  have hr := B.returns
  have hts := atoms_spec (ws := ws_Bag_empty) B.pre
  have hown : s.vm.findClass "CoinBag$Bag" = some m.cls := findClass_of_methodNamed B.named
  have hlocks := B.notSynchronized
  have hZ : sZ (dC, dI) vCl 52 ad (fun q => N0 ≤ q) s.heap w s.heap [] := ⟨hP, hD, va_S.rf⟩
  have hl := lv_entry ([.ref (ad (bb k))]) (n := 1) (Nat.le_of_ble_eq_true rfl)
  rw [lg_entry_eq]
  generalize (lg_sl ([.ref (ad (bb k))]) ++ List.replicate (1 - (lg_sl ([.ref (ad (bb k))])).length) Slot.unset).toArray = ls at hl ⊢
  have hl : lv_has ls 1 [(0, .ref (ad (bb k)))] := hl
  have hz : z ≤ 64 := hB.2.2.2.2
  have hfr : fr w w (bb k) (bb k + 3) := fr_rf
  refine lv_aload_n hx hb d_Bag_empty_0 rfl (lv_at hl 0 rfl) ?_
  refine lv_iconst (v := (nI 0)) hx hb d_Bag_empty_1 rfl ?_
  refine q_put (C := R_Bag) (T := T_Bag) (N := 4) (ty := .int) (v := .int (nI 0)) hx hb hts (fun w h => gm (inT_Bag w h)) ty_Bag tyo_Bag nm_Bag hown hK hZ (bb k) (by have := bb_r hk; omega) hB.1 rfl 3 (by decide) (hts _ (gm k_58)) (fun _ h9 => h9) rfl (by decide +kernel) (rfl) (rfl) (Nat.le_of_ble_eq_true rfl) d_Bag_empty_2 (fun H locs hZ => ?_)
  have hB := hB.upC (c' := 0) (by omega)
  have hZ : sZ (dC, dI) vCl 52 ad (fun q => N0 ≤ q) s.heap (va_up w (bb k) (.inr (0, [.ref (ad (bb k + 1)), .ref (ad (bb k + 2)), .ref (ad (bb k + 3)), .int (nI 0)]))) H locs := hZ
  have hfr := fr_up (x := bb k) (e := .inr (0, [.ref (ad (bb k + 1)), .ref (ad (bb k + 2)), .ref (ad (bb k + 3)), .int (nI 0)])) hfr (by omega) (by omega)
  generalize va_up w (bb k) (.inr (0, [.ref (ad (bb k + 1)), .ref (ad (bb k + 2)), .ref (ad (bb k + 3)), .int (nI 0)])) = w1 at hZ hB hfr
  exact q_vret hx hb hr hlocks hK hAm hZ hN (⟨hB, hfr⟩) d_Bag_empty_5
set_option maxHeartbeats 4000000 in
set_option maxRecDepth 100000 in
theorem c_Bag_append (l : Launch) (dC : Nat → ClassId) (dI : Nat → Nat → Nat) (cI cL cB : ClassId) (ad : Nat → Nat) (N0 : Nat) (w : Nat → va_E) (k z : Nat) (P : Nat → Int32) (N A : Nat → Int64) (q : Int32) (x : Int64) (v : Int64) (hk : k < 9) (hB : isBag ad cI cL w k z P N A) : Met l y_Bag_append ws_Bag_append ({ frames := 0, cells := 0, slots := 0, locals := 0 } : Room) (va_Pc [.ref (ad (bb k)), .int q, .long x, .long v] (sPr (dC, dI) vCl [(cI, .int), (cL, .long), (cB, .object "CoinBag$Bag")] 52 ad N0 w)) (va_Qi (fun r u => (v = 0 ∧ r = 1 ∧ u = w) ∨ (¬ v = 0 ∧ 64 ≤ z ∧ r = 0 ∧ u = w) ∨ (¬ v = 0 ∧ z < 64 ∧ r = 1 ∧ isBag ad cI cL u k (z + 1) (upd P z q) (vp_updL N z x) (vp_updL A z v) ∧ fr w u (bb k) (bb k + 3))) (sPr (dC, dI) vCl [(cI, .int), (cL, .long), (cB, .object "CoinBag$Bag")] 52 ad N0) (fun q => N0 ≤ q)) 0 0 (fun q => N0 ≤ q) := by
  refine Met.ofW (cc := b_Bag_append) (maxL := 6) (ret := (some .boolean)) (by decide) rfl ?_
  intro p e s m args below meth c s₁ B hml hv
  obtain ⟨rfl, hP, hK, hD, hN, hAm⟩ := hv
  have hx := B.exec
  have hb := B.bytes
  have hr := B.returns
  have hts := atoms_spec (ws := ws_Bag_append) B.pre
  have hown : s.vm.findClass "CoinBag$Bag" = some m.cls := findClass_of_methodNamed B.named
  have hlocks := B.notSynchronized
  have hZ : sZ (dC, dI) vCl 52 ad (fun q => N0 ≤ q) s.heap w s.heap [] := ⟨hP, hD, va_S.rf⟩
  have hl := lv_entry ([.ref (ad (bb k)), .int q, .long x, .long v]) (n := 6) (Nat.le_of_ble_eq_true rfl)
  rw [lg_entry_eq]
  generalize (lg_sl ([.ref (ad (bb k)), .int q, .long x, .long v]) ++ List.replicate (6 - (lg_sl ([.ref (ad (bb k)), .int q, .long x, .long v])).length) Slot.unset).toArray = ls at hl ⊢
  have hl : lv_has ls 6 [(0, .ref (ad (bb k))), (1, .int q), (2, .long x), (4, .long v)] := hl
  have hz : z ≤ 64 := hB.2.2.2.2
  have hfr : fr w w (bb k) (bb k + 3) := fr_rf
  refine lv_lload hx hb d_Bag_append_0 (lv_at hl 3 rfl) ?_
  refine lv_lconst (v := 0) hx hb d_Bag_append_2 rfl ?_
  refine W.lcmp hx hb d_Bag_append_3 ?_
  refine lv_if_ne (tgt := 9) hx hb d_Bag_append_4 (by decide) (fun h4 => ?_) (fun h4 => ?_)
  · skip
    rw [lg_cmp_eq] at h4
    refine lv_aload_n hx hb d_Bag_append_9 rfl (lv_at hl 0 rfl) ?_
    refine q_get (C := R_Bag) (T := T_Bag) (N := 4) hx hb hts (fun w h => gm (inT_Bag w h)) hown hK hZ (bb k) (by have := bb_r hk; omega) hB.1 rfl 3 (by decide) (hts _ (gm k_58)) (fun _ h9 => h9) rfl d_Bag_append_10 ?_
    refine lv_bipush (v := (nI 64)) hx hb d_Bag_append_13 rfl ?_
    refine lv_icmp_lt (tgt := 20) hx hb d_Bag_append_15 (by decide) (fun h15 => ?_) (fun h15 => ?_)
    · skip
      have h15 : z < 64 := (nI_ltI (a := z) (b := 64) (by omega) (by omega)).mp h15
      refine lv_aload_n hx hb d_Bag_append_20 rfl (lv_at hl 0 rfl) ?_
      refine q_get (C := R_Bag) (T := T_Bag) (N := 4) hx hb hts (fun w h => gm (inT_Bag w h)) hown hK hZ (bb k) (by have := bb_r hk; omega) hB.1 rfl 0 (by decide) (hts _ (gm k_49)) (fun _ h9 => h9) rfl d_Bag_append_21 ?_
      refine lv_aload_n hx hb d_Bag_append_24 rfl (lv_at hl 0 rfl) ?_
      refine q_get (C := R_Bag) (T := T_Bag) (N := 4) hx hb hts (fun w h => gm (inT_Bag w h)) hown hK hZ (bb k) (by have := bb_r hk; omega) hB.1 rfl 3 (by decide) (hts _ (gm k_58)) (fun _ h9 => h9) rfl d_Bag_append_25 ?_
      refine lv_iload_n hx hb d_Bag_append_28 rfl (lv_at hl 1 rfl) ?_
      refine q_iast hx hb hK hZ (bb k + 1) 0 (z) (by have := bb_r hk; omega) hB.2.1 rfl rfl (by omega) (by decide) d_Bag_append_29 (fun H locs hZ => ?_)
      have hB := hB.upP ((upd P z q))
      have hZ : sZ (dC, dI) vCl 52 ad (fun q => N0 ≤ q) s.heap (va_up w (bb k + 1) (.inl (cI, 64, .inl (upd P z q)))) H locs := hZ
      have hfr := fr_up (x := bb k + 1) (e := .inl (cI, 64, .inl (upd P z q))) hfr (by omega) (by omega)
      generalize va_up w (bb k + 1) (.inl (cI, 64, .inl (upd P z q))) = w2 at hZ hB hfr
      refine lv_aload_n hx hb d_Bag_append_30 rfl (lv_at hl 0 rfl) ?_
      refine q_get (C := R_Bag) (T := T_Bag) (N := 4) hx hb hts (fun w h => gm (inT_Bag w h)) hown hK hZ (bb k) (by have := bb_r hk; omega) hB.1 rfl 1 (by decide) (hts _ (gm k_52)) (fun _ h9 => h9) rfl d_Bag_append_31 ?_
      refine lv_aload_n hx hb d_Bag_append_34 rfl (lv_at hl 0 rfl) ?_
      refine q_get (C := R_Bag) (T := T_Bag) (N := 4) hx hb hts (fun w h => gm (inT_Bag w h)) hown hK hZ (bb k) (by have := bb_r hk; omega) hB.1 rfl 3 (by decide) (hts _ (gm k_58)) (fun _ h9 => h9) rfl d_Bag_append_35 ?_
      refine lv_lload_n hx hb d_Bag_append_38 rfl (lv_at hl 2 rfl) ?_
      refine q_last hx hb hK hZ (bb k + 2) 1 (z) (by have := bb_r hk; omega) hB.2.2.1 rfl rfl (by omega) (by decide) d_Bag_append_39 (fun H locs hZ => ?_)
      have hB := hB.upN ((vp_updL N z x))
      have hZ : sZ (dC, dI) vCl 52 ad (fun q => N0 ≤ q) s.heap (va_up w2 (bb k + 2) (.inl (cL, 64, .inr (.inl (vp_updL N z x))))) H locs := hZ
      have hfr := fr_up (x := bb k + 2) (e := .inl (cL, 64, .inr (.inl (vp_updL N z x)))) hfr (by omega) (by omega)
      generalize va_up w2 (bb k + 2) (.inl (cL, 64, .inr (.inl (vp_updL N z x)))) = w3 at hZ hB hfr
      refine lv_aload_n hx hb d_Bag_append_40 rfl (lv_at hl 0 rfl) ?_
      refine q_get (C := R_Bag) (T := T_Bag) (N := 4) hx hb hts (fun w h => gm (inT_Bag w h)) hown hK hZ (bb k) (by have := bb_r hk; omega) hB.1 rfl 2 (by decide) (hts _ (gm k_55)) (fun _ h9 => h9) rfl d_Bag_append_41 ?_
      refine lv_aload_n hx hb d_Bag_append_44 rfl (lv_at hl 0 rfl) ?_
      refine q_get (C := R_Bag) (T := T_Bag) (N := 4) hx hb hts (fun w h => gm (inT_Bag w h)) hown hK hZ (bb k) (by have := bb_r hk; omega) hB.1 rfl 3 (by decide) (hts _ (gm k_58)) (fun _ h9 => h9) rfl d_Bag_append_45 ?_
      refine lv_lload hx hb d_Bag_append_48 (lv_at hl 3 rfl) ?_
      refine q_last hx hb hK hZ (bb k + 3) 1 (z) (by have := bb_r hk; omega) hB.2.2.2.1 rfl rfl (by omega) (by decide) d_Bag_append_50 (fun H locs hZ => ?_)
      have hB := hB.upA ((vp_updL A z v))
      have hZ : sZ (dC, dI) vCl 52 ad (fun q => N0 ≤ q) s.heap (va_up w3 (bb k + 3) (.inl (cL, 64, .inr (.inl (vp_updL A z v))))) H locs := hZ
      have hfr := fr_up (x := bb k + 3) (e := .inl (cL, 64, .inr (.inl (vp_updL A z v)))) hfr (by omega) (by omega)
      generalize va_up w3 (bb k + 3) (.inl (cL, 64, .inr (.inl (vp_updL A z v)))) = w4 at hZ hB hfr
      refine lv_aload_n hx hb d_Bag_append_51 rfl (lv_at hl 0 rfl) ?_
      refine lv_dup hx hb d_Bag_append_52 rfl ?_
      refine q_get (C := R_Bag) (T := T_Bag) (N := 4) hx hb hts (fun w h => gm (inT_Bag w h)) hown hK hZ (bb k) (by have := bb_r hk; omega) hB.1 rfl 3 (by decide) (hts _ (gm k_58)) (fun _ h9 => h9) rfl d_Bag_append_53 ?_
      refine lv_iconst (v := (nI 1)) hx hb d_Bag_append_56 rfl ?_
      refine lv_iadd hx hb d_Bag_append_57 ?_
      refine q_topi (y := nI (z + 1)) (nI_add _ _) ?_
      refine q_put (C := R_Bag) (T := T_Bag) (N := 4) (ty := .int) (v := .int (nI (z + 1))) hx hb hts (fun w h => gm (inT_Bag w h)) ty_Bag tyo_Bag nm_Bag hown hK hZ (bb k) (by have := bb_r hk; omega) hB.1 rfl 3 (by decide) (hts _ (gm k_58)) (fun _ h9 => h9) rfl (by decide +kernel) (rfl) (rfl) (Nat.le_of_ble_eq_true rfl) d_Bag_append_58 (fun H locs hZ => ?_)
      have hB := hB.upC (c' := (z + 1)) (by omega)
      have hZ : sZ (dC, dI) vCl 52 ad (fun q => N0 ≤ q) s.heap (va_up w4 (bb k) (.inr (0, [.ref (ad (bb k + 1)), .ref (ad (bb k + 2)), .ref (ad (bb k + 3)), .int (nI (z + 1))]))) H locs := hZ
      have hfr := fr_up (x := bb k) (e := .inr (0, [.ref (ad (bb k + 1)), .ref (ad (bb k + 2)), .ref (ad (bb k + 3)), .int (nI (z + 1))])) hfr (by omega) (by omega)
      generalize va_up w4 (bb k) (.inr (0, [.ref (ad (bb k + 1)), .ref (ad (bb k + 2)), .ref (ad (bb k + 3)), .int (nI (z + 1))])) = w5 at hZ hB hfr
      refine lv_iconst (v := (nI 1)) hx hb d_Bag_append_61 rfl ?_
      exact q_zret hx hb hr rfl hlocks hK hAm hZ hN (Or.inr (Or.inr ⟨h4, h15, rfl, hB, hfr⟩)) d_Bag_append_62
    · skip
      have h15 : 64 ≤ z := Nat.le_of_not_lt (fun z9 => h15 ((nI_ltI (a := z) (b := 64) (by omega) (by omega)).mpr z9))
      refine lv_iconst (v := (nI 0)) hx hb d_Bag_append_18 rfl ?_
      exact q_zret hx hb hr rfl hlocks hK hAm hZ hN (Or.inr (Or.inl ⟨h4, h15, rfl, rfl⟩)) d_Bag_append_19
  · skip
    rw [lg_cmp_eq] at h4
    refine lv_iconst (v := (nI 1)) hx hb d_Bag_append_7 rfl ?_
    exact q_zret hx hb hr rfl hlocks hK hAm hZ hN (Or.inl ⟨h4, rfl, rfl⟩) d_Bag_append_8
set_option maxHeartbeats 4000000 in
set_option maxRecDepth 100000 in
theorem c_Bag_removeAt (l : Launch) (dC : Nat → ClassId) (dI : Nat → Nat → Nat) (cI cL cB : ClassId) (ad : Nat → Nat) (N0 : Nat) (w : Nat → va_E) (k z : Nat) (P : Nat → Int32) (N A : Nat → Int64) (i : Nat) (hk : k < 9) (hB : isBag ad cI cL w k z P N A) (hi : i < z) : Met l y_Bag_removeAt ws_Bag_removeAt ({ frames := 1, cells := 0, slots := 0, locals := 64 } : Room) (va_Pc [.ref (ad (bb k)), .int (nI i)] (sPr (dC, dI) vCl [(cI, .int), (cL, .long), (cB, .object "CoinBag$Bag")] 52 ad N0 w)) (va_Qv (fun u => isBag ad cI cL u k (z - 1) (va_cpy P P (i + 1) i (z - i - 1)) (va_cpy N N (i + 1) i (z - i - 1)) (va_cpy A A (i + 1) i (z - i - 1)) ∧ fr w u (bb k) (bb k + 3)) (sPr (dC, dI) vCl [(cI, .int), (cL, .long), (cB, .object "CoinBag$Bag")] 52 ad N0) (fun q => N0 ≤ q)) 0 0 (fun q => N0 ≤ q) := by
  refine Met.ofW (cc := b_Bag_removeAt) (maxL := 3) (ret := none) (by decide) rfl ?_
  intro p e s m args below meth c s₁ B hml hv
  obtain ⟨rfl, hP, hK, hD, hN, hAm⟩ := hv
  have hx := B.exec
  have hb := B.bytes
  have hr := B.returns
  have hts := atoms_spec (ws := ws_Bag_removeAt) B.pre
  have hown : s.vm.findClass "CoinBag$Bag" = some m.cls := findClass_of_methodNamed B.named
  have hlocks := B.notSynchronized
  have hZ : sZ (dC, dI) vCl 52 ad (fun q => N0 ≤ q) s.heap w s.heap [] := ⟨hP, hD, va_S.rf⟩
  have hl := lv_entry ([.ref (ad (bb k)), .int (nI i)]) (n := 3) (Nat.le_of_ble_eq_true rfl)
  rw [lg_entry_eq]
  generalize (lg_sl ([.ref (ad (bb k)), .int (nI i)]) ++ List.replicate (3 - (lg_sl ([.ref (ad (bb k)), .int (nI i)])).length) Slot.unset).toArray = ls at hl ⊢
  have hl : lv_has ls 3 [(0, .ref (ad (bb k))), (1, .int (nI i))] := hl
  have hz : z ≤ 64 := hB.2.2.2.2
  have hfr : fr w w (bb k) (bb k + 3) := fr_rf
  refine lv_aload_n hx hb d_Bag_removeAt_0 rfl (lv_at hl 0 rfl) ?_
  refine q_get (C := R_Bag) (T := T_Bag) (N := 4) hx hb hts (fun w h => gm (inT_Bag w h)) hown hK hZ (bb k) (by have := bb_r hk; omega) hB.1 rfl 3 (by decide) (hts _ (gm k_58)) (fun _ h9 => h9) rfl d_Bag_removeAt_1 ?_
  refine lv_iload_n hx hb d_Bag_removeAt_4 rfl (lv_at hl 1 rfl) ?_
  refine lv_isub hx hb d_Bag_removeAt_5 ?_
  refine q_topi (y := nI (z - i)) (pk_sub (by omega)) ?_
  refine lv_iconst (v := (nI 1)) hx hb d_Bag_removeAt_6 rfl ?_
  refine lv_isub hx hb d_Bag_removeAt_7 ?_
  refine q_topi (y := nI ((z - i) - 1)) (pk_sub (by omega)) ?_
  refine lv_istore_n (lv' := [(2, .int (nI ((z - i) - 1))), (0, .ref (ad (bb k))), (1, .int (nI i))]) hx hb d_Bag_removeAt_8 rfl hl (by decide) rfl (fun ls hl => ?_)
  refine lv_aload_n hx hb d_Bag_removeAt_9 rfl (lv_at hl 1 rfl) ?_
  refine q_get (C := R_Bag) (T := T_Bag) (N := 4) hx hb hts (fun w h => gm (inT_Bag w h)) hown hK hZ (bb k) (by have := bb_r hk; omega) hB.1 rfl 0 (by decide) (hts _ (gm k_49)) (fun _ h9 => h9) rfl d_Bag_removeAt_10 ?_
  refine lv_iload_n hx hb d_Bag_removeAt_13 rfl (lv_at hl 2 rfl) ?_
  refine lv_iconst (v := (nI 1)) hx hb d_Bag_removeAt_14 rfl ?_
  refine lv_iadd hx hb d_Bag_removeAt_15 ?_
  refine q_topi (y := nI (i + 1)) (nI_add _ _) ?_
  refine lv_aload_n hx hb d_Bag_removeAt_16 rfl (lv_at hl 1 rfl) ?_
  refine q_get (C := R_Bag) (T := T_Bag) (N := 4) hx hb hts (fun w h => gm (inT_Bag w h)) hown hK hZ (bb k) (by have := bb_r hk; omega) hB.1 rfl 0 (by decide) (hts _ (gm k_49)) (fun _ h9 => h9) rfl d_Bag_removeAt_17 ?_
  refine lv_iload_n hx hb d_Bag_removeAt_20 rfl (lv_at hl 2 rfl) ?_
  refine lv_iload_n hx hb d_Bag_removeAt_21 rfl (lv_at hl 0 rfl) ?_
  refine q_cpi hx hb (hml.trans hl.1.symm) hown (hts _ (gm k_237)) (hts _ (gm k_239)) (hts _ (gm k_238)) (hts _ (gm k_32)) hK hZ (bb k + 1) 0 ((i + 1)) (i) (((z - i) - 1)) (by have := bb_r hk; omega) hB.2.1 rfl (by omega) (by omega) (by decide) (Nat.le_of_ble_eq_true rfl) (Nat.le_of_ble_eq_true rfl) d_Bag_removeAt_22 (fun H locs hZ => ?_)
  have hB := hB.upP ((va_cpy P P (i + 1) i ((z - i) - 1)))
  have hZ : sZ (dC, dI) vCl 52 ad (fun q => N0 ≤ q) s.heap (va_up w (bb k + 1) (.inl (cI, 64, .inl (va_cpy P P (i + 1) i ((z - i) - 1))))) H locs := hZ
  have hfr := fr_up (x := bb k + 1) (e := .inl (cI, 64, .inl (va_cpy P P (i + 1) i ((z - i) - 1)))) hfr (by omega) (by omega)
  generalize va_up w (bb k + 1) (.inl (cI, 64, .inl (va_cpy P P (i + 1) i ((z - i) - 1)))) = w6 at hZ hB hfr
  refine lv_aload_n hx hb d_Bag_removeAt_25 rfl (lv_at hl 1 rfl) ?_
  refine q_get (C := R_Bag) (T := T_Bag) (N := 4) hx hb hts (fun w h => gm (inT_Bag w h)) hown hK hZ (bb k) (by have := bb_r hk; omega) hB.1 rfl 1 (by decide) (hts _ (gm k_52)) (fun _ h9 => h9) rfl d_Bag_removeAt_26 ?_
  refine lv_iload_n hx hb d_Bag_removeAt_29 rfl (lv_at hl 2 rfl) ?_
  refine lv_iconst (v := (nI 1)) hx hb d_Bag_removeAt_30 rfl ?_
  refine lv_iadd hx hb d_Bag_removeAt_31 ?_
  refine q_topi (y := nI (i + 1)) (nI_add _ _) ?_
  refine lv_aload_n hx hb d_Bag_removeAt_32 rfl (lv_at hl 1 rfl) ?_
  refine q_get (C := R_Bag) (T := T_Bag) (N := 4) hx hb hts (fun w h => gm (inT_Bag w h)) hown hK hZ (bb k) (by have := bb_r hk; omega) hB.1 rfl 1 (by decide) (hts _ (gm k_52)) (fun _ h9 => h9) rfl d_Bag_removeAt_33 ?_
  refine lv_iload_n hx hb d_Bag_removeAt_36 rfl (lv_at hl 2 rfl) ?_
  refine lv_iload_n hx hb d_Bag_removeAt_37 rfl (lv_at hl 0 rfl) ?_
  refine q_cpl hx hb (hml.trans hl.1.symm) hown (hts _ (gm k_237)) (hts _ (gm k_239)) (hts _ (gm k_238)) (hts _ (gm k_32)) hK hZ (bb k + 2) 1 ((i + 1)) (i) (((z - i) - 1)) (by have := bb_r hk; omega) hB.2.2.1 rfl (by omega) (by omega) (by decide) (Nat.le_of_ble_eq_true rfl) (Nat.le_of_ble_eq_true rfl) d_Bag_removeAt_38 (fun H locs hZ => ?_)
  have hB := hB.upN ((va_cpy N N (i + 1) i ((z - i) - 1)))
  have hZ : sZ (dC, dI) vCl 52 ad (fun q => N0 ≤ q) s.heap (va_up w6 (bb k + 2) (.inl (cL, 64, .inr (.inl (va_cpy N N (i + 1) i ((z - i) - 1)))))) H locs := hZ
  have hfr := fr_up (x := bb k + 2) (e := .inl (cL, 64, .inr (.inl (va_cpy N N (i + 1) i ((z - i) - 1))))) hfr (by omega) (by omega)
  generalize va_up w6 (bb k + 2) (.inl (cL, 64, .inr (.inl (va_cpy N N (i + 1) i ((z - i) - 1))))) = w7 at hZ hB hfr
  refine lv_aload_n hx hb d_Bag_removeAt_41 rfl (lv_at hl 1 rfl) ?_
  refine q_get (C := R_Bag) (T := T_Bag) (N := 4) hx hb hts (fun w h => gm (inT_Bag w h)) hown hK hZ (bb k) (by have := bb_r hk; omega) hB.1 rfl 2 (by decide) (hts _ (gm k_55)) (fun _ h9 => h9) rfl d_Bag_removeAt_42 ?_
  refine lv_iload_n hx hb d_Bag_removeAt_45 rfl (lv_at hl 2 rfl) ?_
  refine lv_iconst (v := (nI 1)) hx hb d_Bag_removeAt_46 rfl ?_
  refine lv_iadd hx hb d_Bag_removeAt_47 ?_
  refine q_topi (y := nI (i + 1)) (nI_add _ _) ?_
  refine lv_aload_n hx hb d_Bag_removeAt_48 rfl (lv_at hl 1 rfl) ?_
  refine q_get (C := R_Bag) (T := T_Bag) (N := 4) hx hb hts (fun w h => gm (inT_Bag w h)) hown hK hZ (bb k) (by have := bb_r hk; omega) hB.1 rfl 2 (by decide) (hts _ (gm k_55)) (fun _ h9 => h9) rfl d_Bag_removeAt_49 ?_
  refine lv_iload_n hx hb d_Bag_removeAt_52 rfl (lv_at hl 2 rfl) ?_
  refine lv_iload_n hx hb d_Bag_removeAt_53 rfl (lv_at hl 0 rfl) ?_
  refine q_cpl hx hb (hml.trans hl.1.symm) hown (hts _ (gm k_237)) (hts _ (gm k_239)) (hts _ (gm k_238)) (hts _ (gm k_32)) hK hZ (bb k + 3) 1 ((i + 1)) (i) (((z - i) - 1)) (by have := bb_r hk; omega) hB.2.2.2.1 rfl (by omega) (by omega) (by decide) (Nat.le_of_ble_eq_true rfl) (Nat.le_of_ble_eq_true rfl) d_Bag_removeAt_54 (fun H locs hZ => ?_)
  have hB := hB.upA ((va_cpy A A (i + 1) i ((z - i) - 1)))
  have hZ : sZ (dC, dI) vCl 52 ad (fun q => N0 ≤ q) s.heap (va_up w7 (bb k + 3) (.inl (cL, 64, .inr (.inl (va_cpy A A (i + 1) i ((z - i) - 1)))))) H locs := hZ
  have hfr := fr_up (x := bb k + 3) (e := .inl (cL, 64, .inr (.inl (va_cpy A A (i + 1) i ((z - i) - 1))))) hfr (by omega) (by omega)
  generalize va_up w7 (bb k + 3) (.inl (cL, 64, .inr (.inl (va_cpy A A (i + 1) i ((z - i) - 1))))) = w8 at hZ hB hfr
  refine lv_aload_n hx hb d_Bag_removeAt_57 rfl (lv_at hl 1 rfl) ?_
  refine lv_dup hx hb d_Bag_removeAt_58 rfl ?_
  refine q_get (C := R_Bag) (T := T_Bag) (N := 4) hx hb hts (fun w h => gm (inT_Bag w h)) hown hK hZ (bb k) (by have := bb_r hk; omega) hB.1 rfl 3 (by decide) (hts _ (gm k_58)) (fun _ h9 => h9) rfl d_Bag_removeAt_59 ?_
  refine lv_iconst (v := (nI 1)) hx hb d_Bag_removeAt_62 rfl ?_
  refine lv_isub hx hb d_Bag_removeAt_63 ?_
  refine q_topi (y := nI (z - 1)) (pk_sub (by omega)) ?_
  refine q_put (C := R_Bag) (T := T_Bag) (N := 4) (ty := .int) (v := .int (nI (z - 1))) hx hb hts (fun w h => gm (inT_Bag w h)) ty_Bag tyo_Bag nm_Bag hown hK hZ (bb k) (by have := bb_r hk; omega) hB.1 rfl 3 (by decide) (hts _ (gm k_58)) (fun _ h9 => h9) rfl (by decide +kernel) (rfl) (rfl) (Nat.le_of_ble_eq_true rfl) d_Bag_removeAt_64 (fun H locs hZ => ?_)
  have hB := hB.upC (c' := (z - 1)) (by omega)
  have hZ : sZ (dC, dI) vCl 52 ad (fun q => N0 ≤ q) s.heap (va_up w8 (bb k) (.inr (0, [.ref (ad (bb k + 1)), .ref (ad (bb k + 2)), .ref (ad (bb k + 3)), .int (nI (z - 1))]))) H locs := hZ
  have hfr := fr_up (x := bb k) (e := .inr (0, [.ref (ad (bb k + 1)), .ref (ad (bb k + 2)), .ref (ad (bb k + 3)), .int (nI (z - 1))])) hfr (by omega) (by omega)
  generalize va_up w8 (bb k) (.inr (0, [.ref (ad (bb k + 1)), .ref (ad (bb k + 2)), .ref (ad (bb k + 3)), .int (nI (z - 1))])) = w9 at hZ hB hfr
  exact q_vret hx hb hr hlocks hK hAm hZ hN (⟨hB, hfr⟩) d_Bag_removeAt_67
set_option maxHeartbeats 4000000 in
set_option maxRecDepth 100000 in
theorem c_Bag_makeRoomAt (l : Launch) (dC : Nat → ClassId) (dI : Nat → Nat → Nat) (cI cL cB : ClassId) (ad : Nat → Nat) (N0 : Nat) (w : Nat → va_E) (k z : Nat) (P : Nat → Int32) (N A : Nat → Int64) (i : Nat) (hk : k < 9) (hB : isBag ad cI cL w k z P N A) (hi : i ≤ z) (hz64 : z < 64) : Met l y_Bag_makeRoomAt ws_Bag_makeRoomAt ({ frames := 1, cells := 0, slots := 0, locals := 64 } : Room) (va_Pc [.ref (ad (bb k)), .int (nI i)] (sPr (dC, dI) vCl [(cI, .int), (cL, .long), (cB, .object "CoinBag$Bag")] 52 ad N0 w)) (va_Qv (fun u => isBag ad cI cL u k (z + 1) (va_cpy P P i (i + 1) (z - i)) (va_cpy N N i (i + 1) (z - i)) (va_cpy A A i (i + 1) (z - i)) ∧ fr w u (bb k) (bb k + 3)) (sPr (dC, dI) vCl [(cI, .int), (cL, .long), (cB, .object "CoinBag$Bag")] 52 ad N0) (fun q => N0 ≤ q)) 0 0 (fun q => N0 ≤ q) := by
  refine Met.ofW (cc := b_Bag_makeRoomAt) (maxL := 3) (ret := none) (by decide) rfl ?_
  intro p e s m args below meth c s₁ B hml hv
  obtain ⟨rfl, hP, hK, hD, hN, hAm⟩ := hv
  have hx := B.exec
  have hb := B.bytes
  have hr := B.returns
  have hts := atoms_spec (ws := ws_Bag_makeRoomAt) B.pre
  have hown : s.vm.findClass "CoinBag$Bag" = some m.cls := findClass_of_methodNamed B.named
  have hlocks := B.notSynchronized
  have hZ : sZ (dC, dI) vCl 52 ad (fun q => N0 ≤ q) s.heap w s.heap [] := ⟨hP, hD, va_S.rf⟩
  have hl := lv_entry ([.ref (ad (bb k)), .int (nI i)]) (n := 3) (Nat.le_of_ble_eq_true rfl)
  rw [lg_entry_eq]
  generalize (lg_sl ([.ref (ad (bb k)), .int (nI i)]) ++ List.replicate (3 - (lg_sl ([.ref (ad (bb k)), .int (nI i)])).length) Slot.unset).toArray = ls at hl ⊢
  have hl : lv_has ls 3 [(0, .ref (ad (bb k))), (1, .int (nI i))] := hl
  have hz : z ≤ 64 := hB.2.2.2.2
  have hfr : fr w w (bb k) (bb k + 3) := fr_rf
  refine lv_aload_n hx hb d_Bag_makeRoomAt_0 rfl (lv_at hl 0 rfl) ?_
  refine q_get (C := R_Bag) (T := T_Bag) (N := 4) hx hb hts (fun w h => gm (inT_Bag w h)) hown hK hZ (bb k) (by have := bb_r hk; omega) hB.1 rfl 3 (by decide) (hts _ (gm k_58)) (fun _ h9 => h9) rfl d_Bag_makeRoomAt_1 ?_
  refine lv_iload_n hx hb d_Bag_makeRoomAt_4 rfl (lv_at hl 1 rfl) ?_
  refine lv_isub hx hb d_Bag_makeRoomAt_5 ?_
  refine q_topi (y := nI (z - i)) (pk_sub (by omega)) ?_
  refine lv_istore_n (lv' := [(2, .int (nI (z - i))), (0, .ref (ad (bb k))), (1, .int (nI i))]) hx hb d_Bag_makeRoomAt_6 rfl hl (by decide) rfl (fun ls hl => ?_)
  refine lv_aload_n hx hb d_Bag_makeRoomAt_7 rfl (lv_at hl 1 rfl) ?_
  refine q_get (C := R_Bag) (T := T_Bag) (N := 4) hx hb hts (fun w h => gm (inT_Bag w h)) hown hK hZ (bb k) (by have := bb_r hk; omega) hB.1 rfl 0 (by decide) (hts _ (gm k_49)) (fun _ h9 => h9) rfl d_Bag_makeRoomAt_8 ?_
  refine lv_iload_n hx hb d_Bag_makeRoomAt_11 rfl (lv_at hl 2 rfl) ?_
  refine lv_aload_n hx hb d_Bag_makeRoomAt_12 rfl (lv_at hl 1 rfl) ?_
  refine q_get (C := R_Bag) (T := T_Bag) (N := 4) hx hb hts (fun w h => gm (inT_Bag w h)) hown hK hZ (bb k) (by have := bb_r hk; omega) hB.1 rfl 0 (by decide) (hts _ (gm k_49)) (fun _ h9 => h9) rfl d_Bag_makeRoomAt_13 ?_
  refine lv_iload_n hx hb d_Bag_makeRoomAt_16 rfl (lv_at hl 2 rfl) ?_
  refine lv_iconst (v := (nI 1)) hx hb d_Bag_makeRoomAt_17 rfl ?_
  refine lv_iadd hx hb d_Bag_makeRoomAt_18 ?_
  refine q_topi (y := nI (i + 1)) (nI_add _ _) ?_
  refine lv_iload_n hx hb d_Bag_makeRoomAt_19 rfl (lv_at hl 0 rfl) ?_
  refine q_cpi hx hb (hml.trans hl.1.symm) hown (hts _ (gm k_237)) (hts _ (gm k_239)) (hts _ (gm k_238)) (hts _ (gm k_32)) hK hZ (bb k + 1) 0 (i) ((i + 1)) ((z - i)) (by have := bb_r hk; omega) hB.2.1 rfl (by omega) (by omega) (by decide) (Nat.le_of_ble_eq_true rfl) (Nat.le_of_ble_eq_true rfl) d_Bag_makeRoomAt_20 (fun H locs hZ => ?_)
  have hB := hB.upP ((va_cpy P P i (i + 1) (z - i)))
  have hZ : sZ (dC, dI) vCl 52 ad (fun q => N0 ≤ q) s.heap (va_up w (bb k + 1) (.inl (cI, 64, .inl (va_cpy P P i (i + 1) (z - i))))) H locs := hZ
  have hfr := fr_up (x := bb k + 1) (e := .inl (cI, 64, .inl (va_cpy P P i (i + 1) (z - i)))) hfr (by omega) (by omega)
  generalize va_up w (bb k + 1) (.inl (cI, 64, .inl (va_cpy P P i (i + 1) (z - i)))) = w10 at hZ hB hfr
  refine lv_aload_n hx hb d_Bag_makeRoomAt_23 rfl (lv_at hl 1 rfl) ?_
  refine q_get (C := R_Bag) (T := T_Bag) (N := 4) hx hb hts (fun w h => gm (inT_Bag w h)) hown hK hZ (bb k) (by have := bb_r hk; omega) hB.1 rfl 1 (by decide) (hts _ (gm k_52)) (fun _ h9 => h9) rfl d_Bag_makeRoomAt_24 ?_
  refine lv_iload_n hx hb d_Bag_makeRoomAt_27 rfl (lv_at hl 2 rfl) ?_
  refine lv_aload_n hx hb d_Bag_makeRoomAt_28 rfl (lv_at hl 1 rfl) ?_
  refine q_get (C := R_Bag) (T := T_Bag) (N := 4) hx hb hts (fun w h => gm (inT_Bag w h)) hown hK hZ (bb k) (by have := bb_r hk; omega) hB.1 rfl 1 (by decide) (hts _ (gm k_52)) (fun _ h9 => h9) rfl d_Bag_makeRoomAt_29 ?_
  refine lv_iload_n hx hb d_Bag_makeRoomAt_32 rfl (lv_at hl 2 rfl) ?_
  refine lv_iconst (v := (nI 1)) hx hb d_Bag_makeRoomAt_33 rfl ?_
  refine lv_iadd hx hb d_Bag_makeRoomAt_34 ?_
  refine q_topi (y := nI (i + 1)) (nI_add _ _) ?_
  refine lv_iload_n hx hb d_Bag_makeRoomAt_35 rfl (lv_at hl 0 rfl) ?_
  refine q_cpl hx hb (hml.trans hl.1.symm) hown (hts _ (gm k_237)) (hts _ (gm k_239)) (hts _ (gm k_238)) (hts _ (gm k_32)) hK hZ (bb k + 2) 1 (i) ((i + 1)) ((z - i)) (by have := bb_r hk; omega) hB.2.2.1 rfl (by omega) (by omega) (by decide) (Nat.le_of_ble_eq_true rfl) (Nat.le_of_ble_eq_true rfl) d_Bag_makeRoomAt_36 (fun H locs hZ => ?_)
  have hB := hB.upN ((va_cpy N N i (i + 1) (z - i)))
  have hZ : sZ (dC, dI) vCl 52 ad (fun q => N0 ≤ q) s.heap (va_up w10 (bb k + 2) (.inl (cL, 64, .inr (.inl (va_cpy N N i (i + 1) (z - i)))))) H locs := hZ
  have hfr := fr_up (x := bb k + 2) (e := .inl (cL, 64, .inr (.inl (va_cpy N N i (i + 1) (z - i))))) hfr (by omega) (by omega)
  generalize va_up w10 (bb k + 2) (.inl (cL, 64, .inr (.inl (va_cpy N N i (i + 1) (z - i))))) = w11 at hZ hB hfr
  refine lv_aload_n hx hb d_Bag_makeRoomAt_39 rfl (lv_at hl 1 rfl) ?_
  refine q_get (C := R_Bag) (T := T_Bag) (N := 4) hx hb hts (fun w h => gm (inT_Bag w h)) hown hK hZ (bb k) (by have := bb_r hk; omega) hB.1 rfl 2 (by decide) (hts _ (gm k_55)) (fun _ h9 => h9) rfl d_Bag_makeRoomAt_40 ?_
  refine lv_iload_n hx hb d_Bag_makeRoomAt_43 rfl (lv_at hl 2 rfl) ?_
  refine lv_aload_n hx hb d_Bag_makeRoomAt_44 rfl (lv_at hl 1 rfl) ?_
  refine q_get (C := R_Bag) (T := T_Bag) (N := 4) hx hb hts (fun w h => gm (inT_Bag w h)) hown hK hZ (bb k) (by have := bb_r hk; omega) hB.1 rfl 2 (by decide) (hts _ (gm k_55)) (fun _ h9 => h9) rfl d_Bag_makeRoomAt_45 ?_
  refine lv_iload_n hx hb d_Bag_makeRoomAt_48 rfl (lv_at hl 2 rfl) ?_
  refine lv_iconst (v := (nI 1)) hx hb d_Bag_makeRoomAt_49 rfl ?_
  refine lv_iadd hx hb d_Bag_makeRoomAt_50 ?_
  refine q_topi (y := nI (i + 1)) (nI_add _ _) ?_
  refine lv_iload_n hx hb d_Bag_makeRoomAt_51 rfl (lv_at hl 0 rfl) ?_
  refine q_cpl hx hb (hml.trans hl.1.symm) hown (hts _ (gm k_237)) (hts _ (gm k_239)) (hts _ (gm k_238)) (hts _ (gm k_32)) hK hZ (bb k + 3) 1 (i) ((i + 1)) ((z - i)) (by have := bb_r hk; omega) hB.2.2.2.1 rfl (by omega) (by omega) (by decide) (Nat.le_of_ble_eq_true rfl) (Nat.le_of_ble_eq_true rfl) d_Bag_makeRoomAt_52 (fun H locs hZ => ?_)
  have hB := hB.upA ((va_cpy A A i (i + 1) (z - i)))
  have hZ : sZ (dC, dI) vCl 52 ad (fun q => N0 ≤ q) s.heap (va_up w11 (bb k + 3) (.inl (cL, 64, .inr (.inl (va_cpy A A i (i + 1) (z - i)))))) H locs := hZ
  have hfr := fr_up (x := bb k + 3) (e := .inl (cL, 64, .inr (.inl (va_cpy A A i (i + 1) (z - i))))) hfr (by omega) (by omega)
  generalize va_up w11 (bb k + 3) (.inl (cL, 64, .inr (.inl (va_cpy A A i (i + 1) (z - i))))) = w12 at hZ hB hfr
  refine lv_aload_n hx hb d_Bag_makeRoomAt_55 rfl (lv_at hl 1 rfl) ?_
  refine lv_dup hx hb d_Bag_makeRoomAt_56 rfl ?_
  refine q_get (C := R_Bag) (T := T_Bag) (N := 4) hx hb hts (fun w h => gm (inT_Bag w h)) hown hK hZ (bb k) (by have := bb_r hk; omega) hB.1 rfl 3 (by decide) (hts _ (gm k_58)) (fun _ h9 => h9) rfl d_Bag_makeRoomAt_57 ?_
  refine lv_iconst (v := (nI 1)) hx hb d_Bag_makeRoomAt_60 rfl ?_
  refine lv_iadd hx hb d_Bag_makeRoomAt_61 ?_
  refine q_topi (y := nI (z + 1)) (nI_add _ _) ?_
  refine q_put (C := R_Bag) (T := T_Bag) (N := 4) (ty := .int) (v := .int (nI (z + 1))) hx hb hts (fun w h => gm (inT_Bag w h)) ty_Bag tyo_Bag nm_Bag hown hK hZ (bb k) (by have := bb_r hk; omega) hB.1 rfl 3 (by decide) (hts _ (gm k_58)) (fun _ h9 => h9) rfl (by decide +kernel) (rfl) (rfl) (Nat.le_of_ble_eq_true rfl) d_Bag_makeRoomAt_62 (fun H locs hZ => ?_)
  have hB := hB.upC (c' := (z + 1)) (by omega)
  have hZ : sZ (dC, dI) vCl 52 ad (fun q => N0 ≤ q) s.heap (va_up w12 (bb k) (.inr (0, [.ref (ad (bb k + 1)), .ref (ad (bb k + 2)), .ref (ad (bb k + 3)), .int (nI (z + 1))]))) H locs := hZ
  have hfr := fr_up (x := bb k) (e := .inr (0, [.ref (ad (bb k + 1)), .ref (ad (bb k + 2)), .ref (ad (bb k + 3)), .int (nI (z + 1))])) hfr (by omega) (by omega)
  generalize va_up w12 (bb k) (.inr (0, [.ref (ad (bb k + 1)), .ref (ad (bb k + 2)), .ref (ad (bb k + 3)), .int (nI (z + 1))])) = w13 at hZ hB hfr
  exact q_vret hx hb hr hlocks hK hAm hZ hN (⟨hB, hfr⟩) d_Bag_makeRoomAt_65
end
section
/-! the class Bag: store, and what look asks -/
/-- the place of the greatest as the class tells it -/
def bI (j : Nat) : Int32 := if j = 0 then -1 else nI (j - 1)
theorem nI_nm1 {n : Nat} (h : n < 2 ^ 31) : ¬ nI n = -1 := fun e => by
  have := nI_toInt h
  rw [e, show (-1 : Int32).toInt = -1 by decide] at this
  omega
set_option maxHeartbeats 4000000 in
set_option maxRecDepth 100000 in
theorem c_Bag_store (l : Launch) (dC : Nat → ClassId) (dI : Nat → Nat → Nat) (cI cL cB : ClassId) (ad : Nat → Nat) (N0 : Nat) (w : Nat → va_E) (k z : Nat) (P : Nat → Int32) (N A : Nat → Int64) (q : Int32) (x : Int64) (v : Int64) (F : Int → Int64) (hk : k < 9) (hB : isBag ad cI cL w k z P N A) (hC : cRep z P N A F) : Met l y_Bag_store ws_Bag_store ({ frames := 4, cells := 0, slots := 0, locals := 95 } : Room) (va_Pc [.ref (ad (bb k)), .int q, .long x, .long v] (sPr (dC, dI) vCl [(cI, .int), (cL, .long), (cB, .object "CoinBag$Bag")] 52 ad N0 w)) (va_Qi (fun r u => (eC (fUp F (kv q x) v) ∧ r = 1 ∧ (∃ (z2 : Nat) (P2 : Nat → Int32) (N2 A2 : Nat → Int64), isBag ad cI cL u k z2 P2 N2 A2 ∧ cRep z2 P2 N2 A2 (fUp F (kv q x) v)) ∧ fr w u (bb k) (bb k + 3)) ∨ (¬ eC (fUp F (kv q x) v) ∧ r = 0 ∧ u = w)) (sPr (dC, dI) vCl [(cI, .int), (cL, .long), (cB, .object "CoinBag$Bag")] 52 ad N0) (fun q => N0 ≤ q)) 0 0 (fun q => N0 ≤ q) := by
  refine Met.ofW (cc := b_Bag_store) (maxL := 8) (ret := (some .boolean)) (by decide) rfl ?_
  intro p e s m args below meth c s₁ B hml hv
  obtain ⟨rfl, hP, hK, hD, hN, hAm⟩ := hv
  have hx := B.exec
  have hb := B.bytes
  have hr := B.returns
  have hts := atoms_spec (ws := ws_Bag_store) B.pre
  have hown : s.vm.findClass "CoinBag$Bag" = some m.cls := findClass_of_methodNamed B.named
  have hlocks := B.notSynchronized
  have hZ : sZ (dC, dI) vCl 52 ad (fun q => N0 ≤ q) s.heap w s.heap [] := ⟨hP, hD, va_S.rf⟩
  have hl := lv_entry ([.ref (ad (bb k)), .int q, .long x, .long v]) (n := 8) (Nat.le_of_ble_eq_true rfl)
  rw [lg_entry_eq]
  generalize (lg_sl ([.ref (ad (bb k)), .int q, .long x, .long v]) ++ List.replicate (8 - (lg_sl ([.ref (ad (bb k)), .int q, .long x, .long v])).length) Slot.unset).toArray = ls at hl ⊢
  have hl : lv_has ls 8 [(0, .ref (ad (bb k))), (1, .int q), (2, .long x), (4, .long v)] := hl
  have hz : z ≤ 64 := hB.2.2.2.2
  have hfr : fr w w (bb k) (bb k + 3) := fr_rf
  refine lv_aload_n hx hb d_Bag_store_0 rfl (lv_at hl 0 rfl) ?_
  refine lv_iload_n hx hb d_Bag_store_1 rfl (lv_at hl 1 rfl) ?_
  refine lv_lload_n hx hb d_Bag_store_2 rfl (lv_at hl 2 rfl) ?_
  refine q_calli (va_runV (As := [.int q, .long x]) (rest := []) ⟨hx, hb, hml, hown, hts⟩ (c_Bag_placeFor l dC dI cI cL cB ad N0 w k z P N A q x hk hB) (cwV 2 hts (gI_V k_215 k_212 k_214 k_1 k_22) rfl rfl rfl (by decide +kernel) ⟨Nat.le_of_ble_eq_true rfl, Nat.le_of_ble_eq_true rfl⟩) (q_preV hK hAm hZ hN [.int q, .long x] (bb k) 0 (by have := bb_r hk; omega) hB.1 rfl) rfl rfl hl.1 rfl (lv_room (Nat.le_of_ble_eq_true rfl)) d_Bag_store_3 ⟨Nat.zero_le _, Nat.zero_le _⟩) hZ (fun r u_r H locs h_r hZ => ?_)
  obtain ⟨e_r, i, rfl, hp⟩ := h_r
  rw [e_r] at hZ
  have hi : i ≤ z := hp.1
  refine lv_istore (lv' := [(6, .int (nI i)), (0, .ref (ad (bb k))), (1, .int q), (2, .long x), (4, .long v)]) hx hb d_Bag_store_6 hl (by decide) rfl (fun ls hl => ?_)
  refine lv_aload_n hx hb d_Bag_store_8 rfl (lv_at hl 1 rfl) ?_
  refine lv_iload hx hb d_Bag_store_9 (lv_at hl 0 rfl) ?_
  refine lv_iload_n hx hb d_Bag_store_11 rfl (lv_at hl 2 rfl) ?_
  refine lv_lload_n hx hb d_Bag_store_12 rfl (lv_at hl 3 rfl) ?_
  refine q_calli (va_runV (As := [.int (nI i), .int q, .long x]) (rest := []) ⟨hx, hb, hml, hown, hts⟩ (c_Bag_holdsAt l dC dI cI cL cB ad N0 w k z P N A i q x hk hB (by omega)) (cwV 3 hts (gI_V k_232 k_229 k_231 k_2 k_22) rfl rfl rfl (by decide +kernel) ⟨Nat.le_of_ble_eq_true rfl, Nat.le_of_ble_eq_true rfl⟩) (q_preV hK hAm hZ hN [.int (nI i), .int q, .long x] (bb k) 0 (by have := bb_r hk; omega) hB.1 rfl) rfl rfl hl.1 rfl (lv_room (Nat.le_of_ble_eq_true rfl)) d_Bag_store_13 ⟨Nat.zero_le _, Nat.zero_le _⟩) hZ (fun t u_t H locs h_t hZ => ?_)
  obtain ⟨e_t, ht⟩ := h_t
  rw [e_t] at hZ
  refine lv_istore (lv' := [(7, .int t), (6, .int (nI i)), (0, .ref (ad (bb k))), (1, .int q), (2, .long x), (4, .long v)]) hx hb d_Bag_store_16 hl (by decide) rfl (fun ls hl => ?_)
  refine lv_lload hx hb d_Bag_store_18 (lv_at hl 5 rfl) ?_
  refine lv_lconst (v := 0) hx hb d_Bag_store_20 rfl ?_
  refine W.lcmp hx hb d_Bag_store_21 ?_
  refine lv_if_ne (tgt := 38) hx hb d_Bag_store_22 (by decide) (fun h22 => ?_) (fun h22 => ?_)
  · skip
    rw [lg_cmp_eq] at h22
    refine lv_iload hx hb d_Bag_store_38 (lv_at hl 0 rfl) ?_
    refine lv_if_ne (tgt := 76) hx hb d_Bag_store_40 (by decide) (fun h40 => ?_) (fun h40 => ?_)
    · skip
      have ht0 : i < z ∧ kk P N i = kv q x := ht.elim (fun y => y.1) (fun y => absurd y.2 h40)
      have hiz := ht0.1
      refine lv_aload_n hx hb d_Bag_store_76 rfl (lv_at hl 2 rfl) ?_
      refine q_get (C := R_Bag) (T := T_Bag) (N := 4) hx hb hts (fun w h => gm (inT_Bag w h)) hown hK hZ (bb k) (by have := bb_r hk; omega) hB.1 rfl 2 (by decide) (hts _ (gm k_55)) (fun _ h9 => h9) rfl d_Bag_store_77 ?_
      refine lv_iload hx hb d_Bag_store_80 (lv_at hl 1 rfl) ?_
      refine lv_lload hx hb d_Bag_store_82 (lv_at hl 5 rfl) ?_
      refine q_last hx hb hK hZ (bb k + 3) 1 (i) (by have := bb_r hk; omega) hB.2.2.2.1 rfl rfl (by omega) (by decide) d_Bag_store_84 (fun H locs hZ => ?_)
      have hB := hB.upA ((vp_updL A i v))
      have hZ : sZ (dC, dI) vCl 52 ad (fun q => N0 ≤ q) s.heap (va_up w (bb k + 3) (.inl (cL, 64, .inr (.inl (vp_updL A i v))))) H locs := hZ
      have hfr := fr_up (x := bb k + 3) (e := .inl (cL, 64, .inr (.inl (vp_updL A i v)))) hfr (by omega) (by omega)
      generalize va_up w (bb k + 3) (.inl (cL, 64, .inr (.inl (vp_updL A i v)))) = w14 at hZ hB hfr
      refine lv_iconst (v := (nI 1)) hx hb d_Bag_store_85 rfl ?_
      exact q_zret hx hb hr rfl hlocks hK hAm hZ hN ((by first | exact Or.inl ⟨cRep_C (rep_set hC ht0.1 ht0.2 h22), rfl, ⟨_, _, _, _, hB, rep_set hC ht0.1 ht0.2 h22⟩, hfr⟩ | (have hR := rep_ins hC h49 hp ht0 rfl h22 (fun j => rfl) (fun j => rfl) (fun j => rfl); exact Or.inl ⟨cRep_C hR, rfl, ⟨_, _, _, _, hB, hR⟩, hfr⟩))) d_Bag_store_86
    · skip
      have ht0 : ¬ (i < z ∧ kk P N i = kv q x) := ht.elim (fun y => absurd (y.2.symm.trans h40) (by decide)) (fun y => y.1)
      refine lv_aload_n hx hb d_Bag_store_43 rfl (lv_at hl 2 rfl) ?_
      refine q_get (C := R_Bag) (T := T_Bag) (N := 4) hx hb hts (fun w h => gm (inT_Bag w h)) hown hK hZ (bb k) (by have := bb_r hk; omega) hB.1 rfl 3 (by decide) (hts _ (gm k_58)) (fun _ h9 => h9) rfl d_Bag_store_44 ?_
      refine lv_bipush (v := (nI 64)) hx hb d_Bag_store_47 rfl ?_
      refine lv_icmp_lt (tgt := 54) hx hb d_Bag_store_49 (by decide) (fun h49 => ?_) (fun h49 => ?_)
      · skip
        have h49 : z < 64 := (nI_ltI (a := z) (b := 64) (by omega) (by omega)).mp h49
        refine lv_aload_n hx hb d_Bag_store_54 rfl (lv_at hl 2 rfl) ?_
        refine lv_iload hx hb d_Bag_store_55 (lv_at hl 1 rfl) ?_
        refine q_callv (va_runV (As := [.int (nI i)]) (rest := []) ⟨hx, hb, hml, hown, hts⟩ (c_Bag_makeRoomAt l dC dI cI cL cB ad N0 w k z P N A i hk hB (by omega) (by omega)) (cwV 1 hts (gI_V k_243 k_240 k_242 k_4 k_22) rfl rfl rfl (by decide +kernel) ⟨Nat.le_of_ble_eq_true rfl, Nat.le_of_ble_eq_true rfl⟩) (q_preV hK hAm hZ hN [.int (nI i)] (bb k) 0 (by have := bb_r hk; omega) hB.1 rfl) rfl rfl hl.1 rfl (lv_room (Nat.le_of_ble_eq_true rfl)) d_Bag_store_57 ⟨Nat.zero_le _, Nat.zero_le _⟩) hZ (fun u_s H locs h_s hZ => ?_)
        obtain ⟨hB, hfr⟩ := h_s
        refine lv_aload_n hx hb d_Bag_store_60 rfl (lv_at hl 2 rfl) ?_
        refine q_get (C := R_Bag) (T := T_Bag) (N := 4) hx hb hts (fun w h => gm (inT_Bag w h)) hown hK hZ (bb k) (by have := bb_r hk; omega) hB.1 rfl 0 (by decide) (hts _ (gm k_49)) (fun _ h9 => h9) rfl d_Bag_store_61 ?_
        refine lv_iload hx hb d_Bag_store_64 (lv_at hl 1 rfl) ?_
        refine lv_iload_n hx hb d_Bag_store_66 rfl (lv_at hl 3 rfl) ?_
        refine q_iast hx hb hK hZ (bb k + 1) 0 (i) (by have := bb_r hk; omega) hB.2.1 rfl rfl (by omega) (by decide) d_Bag_store_67 (fun H locs hZ => ?_)
        have hB := hB.upP ((upd (va_cpy P P i (i + 1) (z - i)) i q))
        have hZ : sZ (dC, dI) vCl 52 ad (fun q => N0 ≤ q) s.heap (va_up u_s (bb k + 1) (.inl (cI, 64, .inl (upd (va_cpy P P i (i + 1) (z - i)) i q)))) H locs := hZ
        have hfr := fr_up (x := bb k + 1) (e := .inl (cI, 64, .inl (upd (va_cpy P P i (i + 1) (z - i)) i q))) hfr (by omega) (by omega)
        generalize va_up u_s (bb k + 1) (.inl (cI, 64, .inl (upd (va_cpy P P i (i + 1) (z - i)) i q))) = w15 at hZ hB hfr
        refine lv_aload_n hx hb d_Bag_store_68 rfl (lv_at hl 2 rfl) ?_
        refine q_get (C := R_Bag) (T := T_Bag) (N := 4) hx hb hts (fun w h => gm (inT_Bag w h)) hown hK hZ (bb k) (by have := bb_r hk; omega) hB.1 rfl 1 (by decide) (hts _ (gm k_52)) (fun _ h9 => h9) rfl d_Bag_store_69 ?_
        refine lv_iload hx hb d_Bag_store_72 (lv_at hl 1 rfl) ?_
        refine lv_lload_n hx hb d_Bag_store_74 rfl (lv_at hl 4 rfl) ?_
        refine q_last hx hb hK hZ (bb k + 2) 1 (i) (by have := bb_r hk; omega) hB.2.2.1 rfl rfl (by omega) (by decide) d_Bag_store_75 (fun H locs hZ => ?_)
        have hB := hB.upN ((vp_updL (va_cpy N N i (i + 1) (z - i)) i x))
        have hZ : sZ (dC, dI) vCl 52 ad (fun q => N0 ≤ q) s.heap (va_up w15 (bb k + 2) (.inl (cL, 64, .inr (.inl (vp_updL (va_cpy N N i (i + 1) (z - i)) i x))))) H locs := hZ
        have hfr := fr_up (x := bb k + 2) (e := .inl (cL, 64, .inr (.inl (vp_updL (va_cpy N N i (i + 1) (z - i)) i x)))) hfr (by omega) (by omega)
        generalize va_up w15 (bb k + 2) (.inl (cL, 64, .inr (.inl (vp_updL (va_cpy N N i (i + 1) (z - i)) i x)))) = w16 at hZ hB hfr
        refine lv_aload_n hx hb d_Bag_store_76 rfl (lv_at hl 2 rfl) ?_
        refine q_get (C := R_Bag) (T := T_Bag) (N := 4) hx hb hts (fun w h => gm (inT_Bag w h)) hown hK hZ (bb k) (by have := bb_r hk; omega) hB.1 rfl 2 (by decide) (hts _ (gm k_55)) (fun _ h9 => h9) rfl d_Bag_store_77 ?_
        refine lv_iload hx hb d_Bag_store_80 (lv_at hl 1 rfl) ?_
        refine lv_lload hx hb d_Bag_store_82 (lv_at hl 5 rfl) ?_
        refine q_last hx hb hK hZ (bb k + 3) 1 (i) (by have := bb_r hk; omega) hB.2.2.2.1 rfl rfl (by omega) (by decide) d_Bag_store_84 (fun H locs hZ => ?_)
        have hB := hB.upA ((vp_updL (va_cpy A A i (i + 1) (z - i)) i v))
        have hZ : sZ (dC, dI) vCl 52 ad (fun q => N0 ≤ q) s.heap (va_up w16 (bb k + 3) (.inl (cL, 64, .inr (.inl (vp_updL (va_cpy A A i (i + 1) (z - i)) i v))))) H locs := hZ
        have hfr := fr_up (x := bb k + 3) (e := .inl (cL, 64, .inr (.inl (vp_updL (va_cpy A A i (i + 1) (z - i)) i v)))) hfr (by omega) (by omega)
        generalize va_up w16 (bb k + 3) (.inl (cL, 64, .inr (.inl (vp_updL (va_cpy A A i (i + 1) (z - i)) i v)))) = w17 at hZ hB hfr
        refine lv_iconst (v := (nI 1)) hx hb d_Bag_store_85 rfl ?_
        exact q_zret hx hb hr rfl hlocks hK hAm hZ hN ((by first | exact Or.inl ⟨cRep_C (rep_set hC ht0.1 ht0.2 h22), rfl, ⟨_, _, _, _, hB, rep_set hC ht0.1 ht0.2 h22⟩, hfr⟩ | (have hR := rep_ins hC h49 hp ht0 rfl h22 (fun j => rfl) (fun j => rfl) (fun j => rfl); exact Or.inl ⟨cRep_C hR, rfl, ⟨_, _, _, _, hB, hR⟩, hfr⟩))) d_Bag_store_86
      · skip
        have h49 : 64 ≤ z := Nat.le_of_not_lt (fun z9 => h49 ((nI_ltI (a := z) (b := 64) (by omega) (by omega)).mpr z9))
        refine lv_iconst (v := (nI 0)) hx hb d_Bag_store_52 rfl ?_
        exact q_zret hx hb hr rfl hlocks hK hAm hZ hN (Or.inr ⟨full_not (cRep_M hC) h49 (look_n hC hp ht0) h22, rfl, rfl⟩) d_Bag_store_53
  · skip
    rw [lg_cmp_eq] at h22
    subst h22
    refine lv_iload hx hb d_Bag_store_25 (lv_at hl 0 rfl) ?_
    refine lv_if_eq (tgt := 36) hx hb d_Bag_store_27 (by decide) (fun h27 => ?_) (fun h27 => ?_)
    · skip
      have ht0 : ¬ (i < z ∧ kk P N i = kv q x) := ht.elim (fun y => absurd (y.2.symm.trans h27) (by decide)) (fun y => y.1)
      refine lv_iconst (v := (nI 1)) hx hb d_Bag_store_36 rfl ?_
      exact q_zret hx hb hr rfl hlocks hK hAm hZ hN ((by first | exact Or.inl ⟨cRep_C (rep_del hC ht0.1 ht0.2), rfl, ⟨_, _, _, _, hB, rep_del hC ht0.1 ht0.2⟩, hfr⟩ | (have e0 : fUp F (kv q x) 0 = F := fUp_0 (look_n hC hp ht0); exact Or.inl ⟨by rw [e0]; exact cRep_C hC, rfl, ⟨_, _, _, _, hB, by rw [e0]; exact hC⟩, hfr⟩))) d_Bag_store_37
    · skip
      have ht0 : i < z ∧ kk P N i = kv q x := ht.elim (fun y => y.1) (fun y => absurd y.2 h27)
      have hiz := ht0.1
      refine lv_aload_n hx hb d_Bag_store_30 rfl (lv_at hl 2 rfl) ?_
      refine lv_iload hx hb d_Bag_store_31 (lv_at hl 1 rfl) ?_
      refine q_callv (va_runV (As := [.int (nI i)]) (rest := []) ⟨hx, hb, hml, hown, hts⟩ (c_Bag_removeAt l dC dI cI cL cB ad N0 w k z P N A i hk hB hiz) (cwV 1 hts (gI_V k_236 k_233 k_235 k_3 k_22) rfl rfl rfl (by decide +kernel) ⟨Nat.le_of_ble_eq_true rfl, Nat.le_of_ble_eq_true rfl⟩) (q_preV hK hAm hZ hN [.int (nI i)] (bb k) 0 (by have := bb_r hk; omega) hB.1 rfl) rfl rfl hl.1 rfl (lv_room (Nat.le_of_ble_eq_true rfl)) d_Bag_store_33 ⟨Nat.zero_le _, Nat.zero_le _⟩) hZ (fun u_s H locs h_s hZ => ?_)
      obtain ⟨hB, hfr⟩ := h_s
      refine lv_iconst (v := (nI 1)) hx hb d_Bag_store_36 rfl ?_
      exact q_zret hx hb hr rfl hlocks hK hAm hZ hN ((by first | exact Or.inl ⟨cRep_C (rep_del hC ht0.1 ht0.2), rfl, ⟨_, _, _, _, hB, rep_del hC ht0.1 ht0.2⟩, hfr⟩ | (have e0 : fUp F (kv q x) 0 = F := fUp_0 (look_n hC hp ht0); exact Or.inl ⟨by rw [e0]; exact cRep_C hC, rfl, ⟨_, _, _, _, hB, by rw [e0]; exact hC⟩, hfr⟩))) d_Bag_store_37
set_option maxHeartbeats 4000000 in
set_option maxRecDepth 100000 in
theorem c_Bag_countPolicies (l : Launch) (dC : Nat → ClassId) (dI : Nat → Nat → Nat) (cI cL cB : ClassId) (ad : Nat → Nat) (N0 : Nat) (w : Nat → va_E) (k z : Nat) (P : Nat → Int32) (N A : Nat → Int64)  (hk : k < 9) (hB : isBag ad cI cL w k z P N A) : Met l y_Bag_countPolicies ws_Bag_countPolicies ({ frames := 0, cells := 0, slots := 0, locals := 0 } : Room) (va_Pc [.ref (ad (bb k))] (sPr (dC, dI) vCl [(cI, .int), (cL, .long), (cB, .object "CoinBag$Bag")] 52 ad N0 w)) (va_Qi (fun r u => u = w ∧ r = nI (cP P z)) (sPr (dC, dI) vCl [(cI, .int), (cL, .long), (cB, .object "CoinBag$Bag")] 52 ad N0) (fun q => N0 ≤ q)) 0 0 (fun q => N0 ≤ q) := by
  refine Met.ofW (cc := b_Bag_countPolicies) (maxL := 3) (ret := (some .int)) (by decide) rfl ?_
  intro p e s m args below meth c s₁ B hml hv
  obtain ⟨rfl, hP, hK, hD, hN, hAm⟩ := hv
  have hx := B.exec
  have hb := B.bytes
  have hr := B.returns
  have hts := atoms_spec (ws := ws_Bag_countPolicies) B.pre
  have hown : s.vm.findClass "CoinBag$Bag" = some m.cls := findClass_of_methodNamed B.named
  have hlocks := B.notSynchronized
  have hZ : sZ (dC, dI) vCl 52 ad (fun q => N0 ≤ q) s.heap w s.heap [] := ⟨hP, hD, va_S.rf⟩
  have hl := lv_entry ([.ref (ad (bb k))]) (n := 3) (Nat.le_of_ble_eq_true rfl)
  rw [lg_entry_eq]
  generalize (lg_sl ([.ref (ad (bb k))]) ++ List.replicate (3 - (lg_sl ([.ref (ad (bb k))])).length) Slot.unset).toArray = ls at hl ⊢
  have hl : lv_has ls 3 [(0, .ref (ad (bb k)))] := hl
  have hz : z ≤ 64 := hB.2.2.2.2
  refine lv_iconst (v := (nI 0)) hx hb d_Bag_countPolicies_0 rfl ?_
  refine lv_istore_n (lv' := [(1, .int (nI 0)), (0, .ref (ad (bb k)))]) hx hb d_Bag_countPolicies_1 rfl hl (by decide) rfl (fun ls hl => ?_)
  refine lv_iconst (v := (nI 0)) hx hb d_Bag_countPolicies_2 rfl ?_
  refine lv_istore_n (lv' := [(2, .int (nI 0)), (1, .int (nI 0)), (0, .ref (ad (bb k)))]) hx hb d_Bag_countPolicies_3 rfl hl (by decide) rfl (fun ls hl => ?_)
  have loop4 : ∀ (fu4 : Nat) (i : Nat) (H : Heap) (locs : List Loc) (ls : Array Slot), (i ≤ z) → (z + 1 ≤ i + fu4) → sZ (dC, dI) vCl 52 ad (fun q => N0 ≤ q) s.heap w H locs → lv_has ls 3 [(1, .int (nI (cP P i))), (2, .int (nI i)), (0, .ref (ad (bb k)))] → W p l e (headSpec ws_Bag_countPolicies ({ frames := 0, cells := 0, slots := 0, locals := 0 } : Room)).room s m ([.ref (ad (bb k))]).toArray below meth c H locs 0 0 (MQ below (va_Qi (fun r u => u = w ∧ r = nI (cP P z)) (sPr (dC, dI) vCl [(cI, .int), (cL, .long), (cB, .object "CoinBag$Bag")] 52 ad N0) (fun q => N0 ≤ q)) ([.ref (ad (bb k))]).toArray s 0 0 (fun q => N0 ≤ q)) (F0 m 4 ls []) := by
    intro fu4
    induction fu4 with
    | zero =>
      intro i H locs ls hi hf
      omega
    | succ fu4 ih4 =>
      intro i H locs ls hi hf hZ hl
      refine lv_iload_n hx hb d_Bag_countPolicies_4 rfl (lv_at hl 1 rfl) ?_
      refine lv_aload_n hx hb d_Bag_countPolicies_5 rfl (lv_at hl 2 rfl) ?_
      refine q_get (C := R_Bag) (T := T_Bag) (N := 4) hx hb hts (fun w h => gm (inT_Bag w h)) hown hK hZ (bb k) (by have := bb_r hk; omega) hB.1 rfl 3 (by decide) (hts _ (gm k_58)) (fun _ h9 => h9) rfl d_Bag_countPolicies_6 ?_
      refine lv_icmp_ge (tgt := 42) hx hb d_Bag_countPolicies_9 (by decide) (fun h9 => ?_) (fun h9 => ?_)
      · skip
        have h9 : z ≤ i := (nI_leI (a := z) (b := i) (by omega) (by omega)).mp h9
        refine lv_iload_n hx hb d_Bag_countPolicies_42 rfl (lv_at hl 0 rfl) ?_
        exact q_iret hx hb hr hlocks hK hAm hZ hN (⟨rfl, by rw [show i = z by omega]⟩) d_Bag_countPolicies_43
      · skip
        have h9 : i < z := Nat.lt_of_not_le (fun z9 => h9 ((nI_leI (a := z) (b := i) (by omega) (by omega)).mpr z9))
        refine lv_iload_n hx hb d_Bag_countPolicies_12 rfl (lv_at hl 1 rfl) ?_
        refine lv_if_eq (tgt := 33) hx hb d_Bag_countPolicies_13 (by decide) (fun h13 => ?_) (fun h13 => ?_)
        · skip
          have h13 : i = 0 := (nI_eq (a := i) (b := 0) (by omega) (by omega)).mp h13
          refine lv_iinc (v := (nI ((cP P i) + 1))) (lv' := [(1, .int (nI ((cP P i) + 1))), (2, .int (nI i)), (0, .ref (ad (bb k)))]) hx hb d_Bag_countPolicies_33 hl (k := 0) rfl (nI_1 _) (by decide) rfl (fun ls hl => ?_)
          refine lv_iinc (v := (nI (i + 1))) (lv' := [(2, .int (nI (i + 1))), (1, .int (nI ((cP P i) + 1))), (0, .ref (ad (bb k)))]) hx hb d_Bag_countPolicies_36 hl (k := 1) rfl (nI_1 _) (by decide) rfl (fun ls hl => ?_)
          refine lv_goto (tgt := 4) hx hb d_Bag_countPolicies_39 (by decide) ?_
          have e9 : cP P (i + 1) = cP P i + 1 := by
            show cP P i + (if i = 0 ∨ ¬ P i = P (i - 1) then 1 else 0) = _
            rw [if_pos (by first | exact Or.inl h13 | exact Or.inr h30)]
          rw [← e9] at hl
          exact ih4 (i + 1) _ _ _ (by omega) (by omega) hZ (lv_sub hl [1, 0, 2] rfl)
        · skip
          have h13 : ¬ i = 0 := fun z9 => h13 ((nI_eq (a := i) (b := 0) (by omega) (by omega)).mpr z9)
          refine lv_aload_n hx hb d_Bag_countPolicies_16 rfl (lv_at hl 2 rfl) ?_
          refine q_get (C := R_Bag) (T := T_Bag) (N := 4) hx hb hts (fun w h => gm (inT_Bag w h)) hown hK hZ (bb k) (by have := bb_r hk; omega) hB.1 rfl 0 (by decide) (hts _ (gm k_49)) (fun _ h9 => h9) rfl d_Bag_countPolicies_17 ?_
          refine lv_iload_n hx hb d_Bag_countPolicies_20 rfl (lv_at hl 1 rfl) ?_
          refine q_iald hx hb hK hZ (bb k + 1) 0 (i) (by have := bb_r hk; omega) hB.2.1 rfl rfl (by omega) (by decide) d_Bag_countPolicies_21 ?_
          refine lv_aload_n hx hb d_Bag_countPolicies_22 rfl (lv_at hl 2 rfl) ?_
          refine q_get (C := R_Bag) (T := T_Bag) (N := 4) hx hb hts (fun w h => gm (inT_Bag w h)) hown hK hZ (bb k) (by have := bb_r hk; omega) hB.1 rfl 0 (by decide) (hts _ (gm k_49)) (fun _ h9 => h9) rfl d_Bag_countPolicies_23 ?_
          refine lv_iload_n hx hb d_Bag_countPolicies_26 rfl (lv_at hl 1 rfl) ?_
          refine lv_iconst (v := (nI 1)) hx hb d_Bag_countPolicies_27 rfl ?_
          refine lv_isub hx hb d_Bag_countPolicies_28 ?_
          refine q_topi (y := nI (i - 1)) (pk_sub (by omega)) ?_
          refine q_iald hx hb hK hZ (bb k + 1) 0 ((i - 1)) (by have := bb_r hk; omega) hB.2.1 rfl rfl (by omega) (by decide) d_Bag_countPolicies_29 ?_
          refine lv_icmp_eq (tgt := 36) hx hb d_Bag_countPolicies_30 (by decide) (fun h30 => ?_) (fun h30 => ?_)
          · skip
            refine lv_iinc (v := (nI (i + 1))) (lv' := [(2, .int (nI (i + 1))), (1, .int (nI (cP P i))), (0, .ref (ad (bb k)))]) hx hb d_Bag_countPolicies_36 hl (k := 1) rfl (nI_1 _) (by decide) rfl (fun ls hl => ?_)
            refine lv_goto (tgt := 4) hx hb d_Bag_countPolicies_39 (by decide) ?_
            have e9 : cP P (i + 1) = cP P i := by
              show cP P i + (if i = 0 ∨ ¬ P i = P (i - 1) then 1 else 0) = _
              rw [if_neg (by first | exact fun y => y.elim h13 (fun y => y h30)), Nat.add_zero]
            rw [← e9] at hl
            exact ih4 (i + 1) _ _ _ (by omega) (by omega) hZ (lv_sub hl [1, 0, 2] rfl)
          · skip
            refine lv_iinc (v := (nI ((cP P i) + 1))) (lv' := [(1, .int (nI ((cP P i) + 1))), (2, .int (nI i)), (0, .ref (ad (bb k)))]) hx hb d_Bag_countPolicies_33 hl (k := 0) rfl (nI_1 _) (by decide) rfl (fun ls hl => ?_)
            refine lv_iinc (v := (nI (i + 1))) (lv' := [(2, .int (nI (i + 1))), (1, .int (nI ((cP P i) + 1))), (0, .ref (ad (bb k)))]) hx hb d_Bag_countPolicies_36 hl (k := 1) rfl (nI_1 _) (by decide) rfl (fun ls hl => ?_)
            refine lv_goto (tgt := 4) hx hb d_Bag_countPolicies_39 (by decide) ?_
            have e9 : cP P (i + 1) = cP P i + 1 := by
              show cP P i + (if i = 0 ∨ ¬ P i = P (i - 1) then 1 else 0) = _
              rw [if_pos (by first | exact Or.inl h13 | exact Or.inr h30)]
            rw [← e9] at hl
            exact ih4 (i + 1) _ _ _ (by omega) (by omega) hZ (lv_sub hl [1, 0, 2] rfl)
  exact loop4 (z + 1) 0 _ _ _ (Nat.zero_le z) (by omega) hZ (lv_sub hl [1, 0, 2] rfl)
set_option maxHeartbeats 4000000 in
set_option maxRecDepth 100000 in
theorem c_Bag_countBelowZero (l : Launch) (dC : Nat → ClassId) (dI : Nat → Nat → Nat) (cI cL cB : ClassId) (ad : Nat → Nat) (N0 : Nat) (w : Nat → va_E) (k z : Nat) (P : Nat → Int32) (N A : Nat → Int64)  (hk : k < 9) (hB : isBag ad cI cL w k z P N A) : Met l y_Bag_countBelowZero ws_Bag_countBelowZero ({ frames := 0, cells := 0, slots := 0, locals := 0 } : Room) (va_Pc [.ref (ad (bb k))] (sPr (dC, dI) vCl [(cI, .int), (cL, .long), (cB, .object "CoinBag$Bag")] 52 ad N0 w)) (va_Qi (fun r u => u = w ∧ r = nI (cN A z)) (sPr (dC, dI) vCl [(cI, .int), (cL, .long), (cB, .object "CoinBag$Bag")] 52 ad N0) (fun q => N0 ≤ q)) 0 0 (fun q => N0 ≤ q) := by
  refine Met.ofW (cc := b_Bag_countBelowZero) (maxL := 3) (ret := (some .int)) (by decide) rfl ?_
  intro p e s m args below meth c s₁ B hml hv
  obtain ⟨rfl, hP, hK, hD, hN, hAm⟩ := hv
  have hx := B.exec
  have hb := B.bytes
  have hr := B.returns
  have hts := atoms_spec (ws := ws_Bag_countBelowZero) B.pre
  have hown : s.vm.findClass "CoinBag$Bag" = some m.cls := findClass_of_methodNamed B.named
  have hlocks := B.notSynchronized
  have hZ : sZ (dC, dI) vCl 52 ad (fun q => N0 ≤ q) s.heap w s.heap [] := ⟨hP, hD, va_S.rf⟩
  have hl := lv_entry ([.ref (ad (bb k))]) (n := 3) (Nat.le_of_ble_eq_true rfl)
  rw [lg_entry_eq]
  generalize (lg_sl ([.ref (ad (bb k))]) ++ List.replicate (3 - (lg_sl ([.ref (ad (bb k))])).length) Slot.unset).toArray = ls at hl ⊢
  have hl : lv_has ls 3 [(0, .ref (ad (bb k)))] := hl
  have hz : z ≤ 64 := hB.2.2.2.2
  refine lv_iconst (v := (nI 0)) hx hb d_Bag_countBelowZero_0 rfl ?_
  refine lv_istore_n (lv' := [(1, .int (nI 0)), (0, .ref (ad (bb k)))]) hx hb d_Bag_countBelowZero_1 rfl hl (by decide) rfl (fun ls hl => ?_)
  refine lv_iconst (v := (nI 0)) hx hb d_Bag_countBelowZero_2 rfl ?_
  refine lv_istore_n (lv' := [(2, .int (nI 0)), (1, .int (nI 0)), (0, .ref (ad (bb k)))]) hx hb d_Bag_countBelowZero_3 rfl hl (by decide) rfl (fun ls hl => ?_)
  have loop4 : ∀ (fu4 : Nat) (i : Nat) (H : Heap) (locs : List Loc) (ls : Array Slot), (i ≤ z) → (z + 1 ≤ i + fu4) → sZ (dC, dI) vCl 52 ad (fun q => N0 ≤ q) s.heap w H locs → lv_has ls 3 [(1, .int (nI (cN A i))), (2, .int (nI i)), (0, .ref (ad (bb k)))] → W p l e (headSpec ws_Bag_countBelowZero ({ frames := 0, cells := 0, slots := 0, locals := 0 } : Room)).room s m ([.ref (ad (bb k))]).toArray below meth c H locs 0 0 (MQ below (va_Qi (fun r u => u = w ∧ r = nI (cN A z)) (sPr (dC, dI) vCl [(cI, .int), (cL, .long), (cB, .object "CoinBag$Bag")] 52 ad N0) (fun q => N0 ≤ q)) ([.ref (ad (bb k))]).toArray s 0 0 (fun q => N0 ≤ q)) (F0 m 4 ls []) := by
    intro fu4
    induction fu4 with
    | zero =>
      intro i H locs ls hi hf
      omega
    | succ fu4 ih4 =>
      intro i H locs ls hi hf hZ hl
      refine lv_iload_n hx hb d_Bag_countBelowZero_4 rfl (lv_at hl 1 rfl) ?_
      refine lv_aload_n hx hb d_Bag_countBelowZero_5 rfl (lv_at hl 2 rfl) ?_
      refine q_get (C := R_Bag) (T := T_Bag) (N := 4) hx hb hts (fun w h => gm (inT_Bag w h)) hown hK hZ (bb k) (by have := bb_r hk; omega) hB.1 rfl 3 (by decide) (hts _ (gm k_58)) (fun _ h9 => h9) rfl d_Bag_countBelowZero_6 ?_
      refine lv_icmp_ge (tgt := 32) hx hb d_Bag_countBelowZero_9 (by decide) (fun h9 => ?_) (fun h9 => ?_)
      · skip
        have h9 : z ≤ i := (nI_leI (a := z) (b := i) (by omega) (by omega)).mp h9
        refine lv_iload_n hx hb d_Bag_countBelowZero_32 rfl (lv_at hl 0 rfl) ?_
        exact q_iret hx hb hr hlocks hK hAm hZ hN (⟨rfl, by rw [show i = z by omega]⟩) d_Bag_countBelowZero_33
      · skip
        have h9 : i < z := Nat.lt_of_not_le (fun z9 => h9 ((nI_leI (a := z) (b := i) (by omega) (by omega)).mpr z9))
        refine lv_aload_n hx hb d_Bag_countBelowZero_12 rfl (lv_at hl 2 rfl) ?_
        refine q_get (C := R_Bag) (T := T_Bag) (N := 4) hx hb hts (fun w h => gm (inT_Bag w h)) hown hK hZ (bb k) (by have := bb_r hk; omega) hB.1 rfl 2 (by decide) (hts _ (gm k_55)) (fun _ h9 => h9) rfl d_Bag_countBelowZero_13 ?_
        refine lv_iload_n hx hb d_Bag_countBelowZero_16 rfl (lv_at hl 1 rfl) ?_
        refine q_lald hx hb hK hZ (bb k + 3) 1 (i) (by have := bb_r hk; omega) hB.2.2.2.1 rfl rfl (by omega) (by decide) d_Bag_countBelowZero_17 ?_
        refine lv_lconst (v := 0) hx hb d_Bag_countBelowZero_18 rfl ?_
        refine W.lcmp hx hb d_Bag_countBelowZero_19 ?_
        refine lv_if_ge (tgt := 26) hx hb d_Bag_countBelowZero_20 (by decide) (fun h20 => ?_) (fun h20 => ?_)
        · skip
          rw [lg_cmp_ge] at h20
          refine lv_iinc (v := (nI (i + 1))) (lv' := [(2, .int (nI (i + 1))), (1, .int (nI (cN A i))), (0, .ref (ad (bb k)))]) hx hb d_Bag_countBelowZero_26 hl (k := 1) rfl (nI_1 _) (by decide) rfl (fun ls hl => ?_)
          refine lv_goto (tgt := 4) hx hb d_Bag_countBelowZero_29 (by decide) ?_
          have e9 : cN A (i + 1) = cN A i := by
            show cN A i + (if A i < 0 then 1 else 0) = _
            rw [if_neg (by first | exact Int64.not_lt.mpr h20), Nat.add_zero]
          rw [← e9] at hl
          exact ih4 (i + 1) _ _ _ (by omega) (by omega) hZ (lv_sub hl [1, 0, 2] rfl)
        · skip
          rw [lg_cmp_ge] at h20
          refine lv_iinc (v := (nI ((cN A i) + 1))) (lv' := [(1, .int (nI ((cN A i) + 1))), (2, .int (nI i)), (0, .ref (ad (bb k)))]) hx hb d_Bag_countBelowZero_23 hl (k := 0) rfl (nI_1 _) (by decide) rfl (fun ls hl => ?_)
          refine lv_iinc (v := (nI (i + 1))) (lv' := [(2, .int (nI (i + 1))), (1, .int (nI ((cN A i) + 1))), (0, .ref (ad (bb k)))]) hx hb d_Bag_countBelowZero_26 hl (k := 1) rfl (nI_1 _) (by decide) rfl (fun ls hl => ?_)
          refine lv_goto (tgt := 4) hx hb d_Bag_countBelowZero_29 (by decide) ?_
          have e9 : cN A (i + 1) = cN A i + 1 := by
            show cN A i + (if A i < 0 then 1 else 0) = _
            rw [if_pos (by first | exact Int64.not_le.mp h20)]
          rw [← e9] at hl
          exact ih4 (i + 1) _ _ _ (by omega) (by omega) hZ (lv_sub hl [1, 0, 2] rfl)
  exact loop4 (z + 1) 0 _ _ _ (Nat.zero_le z) (by omega) hZ (lv_sub hl [1, 0, 2] rfl)
set_option maxHeartbeats 4000000 in
set_option maxRecDepth 100000 in
theorem c_Bag_placeOfGreatest (l : Launch) (dC : Nat → ClassId) (dI : Nat → Nat → Nat) (cI cL cB : ClassId) (ad : Nat → Nat) (N0 : Nat) (w : Nat → va_E) (k z : Nat) (P : Nat → Int32) (N A : Nat → Int64)  (hk : k < 9) (hB : isBag ad cI cL w k z P N A) : Met l y_Bag_placeOfGreatest ws_Bag_placeOfGreatest ({ frames := 0, cells := 0, slots := 0, locals := 0 } : Room) (va_Pc [.ref (ad (bb k))] (sPr (dC, dI) vCl [(cI, .int), (cL, .long), (cB, .object "CoinBag$Bag")] 52 ad N0 w)) (va_Qi (fun r u => u = w ∧ r = bI (cGr A z)) (sPr (dC, dI) vCl [(cI, .int), (cL, .long), (cB, .object "CoinBag$Bag")] 52 ad N0) (fun q => N0 ≤ q)) 0 0 (fun q => N0 ≤ q) := by
  refine Met.ofW (cc := b_Bag_placeOfGreatest) (maxL := 3) (ret := (some .int)) (by decide) rfl ?_
  intro p e s m args below meth c s₁ B hml hv
  obtain ⟨rfl, hP, hK, hD, hN, hAm⟩ := hv
  have hx := B.exec
  have hb := B.bytes
  have hr := B.returns
  have hts := atoms_spec (ws := ws_Bag_placeOfGreatest) B.pre
  have hown : s.vm.findClass "CoinBag$Bag" = some m.cls := findClass_of_methodNamed B.named
  have hlocks := B.notSynchronized
  have hZ : sZ (dC, dI) vCl 52 ad (fun q => N0 ≤ q) s.heap w s.heap [] := ⟨hP, hD, va_S.rf⟩
  have hl := lv_entry ([.ref (ad (bb k))]) (n := 3) (Nat.le_of_ble_eq_true rfl)
  rw [lg_entry_eq]
  generalize (lg_sl ([.ref (ad (bb k))]) ++ List.replicate (3 - (lg_sl ([.ref (ad (bb k))])).length) Slot.unset).toArray = ls at hl ⊢
  have hl : lv_has ls 3 [(0, .ref (ad (bb k)))] := hl
  have hz : z ≤ 64 := hB.2.2.2.2
  refine lv_iconst (v := (-1)) hx hb d_Bag_placeOfGreatest_0 rfl ?_
  refine lv_istore_n (lv' := [(1, .int (-1)), (0, .ref (ad (bb k)))]) hx hb d_Bag_placeOfGreatest_1 rfl hl (by decide) rfl (fun ls hl => ?_)
  refine lv_iconst (v := (nI 0)) hx hb d_Bag_placeOfGreatest_2 rfl ?_
  refine lv_istore_n (lv' := [(2, .int (nI 0)), (1, .int (-1)), (0, .ref (ad (bb k)))]) hx hb d_Bag_placeOfGreatest_3 rfl hl (by decide) rfl (fun ls hl => ?_)
  have loop4 : ∀ (fu4 : Nat) (i : Nat) (H : Heap) (locs : List Loc) (ls : Array Slot), (i ≤ z) → (z + 1 ≤ i + fu4) → sZ (dC, dI) vCl 52 ad (fun q => N0 ≤ q) s.heap w H locs → lv_has ls 3 [(1, .int (bI (cGr A i))), (2, .int (nI i)), (0, .ref (ad (bb k)))] → W p l e (headSpec ws_Bag_placeOfGreatest ({ frames := 0, cells := 0, slots := 0, locals := 0 } : Room)).room s m ([.ref (ad (bb k))]).toArray below meth c H locs 0 0 (MQ below (va_Qi (fun r u => u = w ∧ r = bI (cGr A z)) (sPr (dC, dI) vCl [(cI, .int), (cL, .long), (cB, .object "CoinBag$Bag")] 52 ad N0) (fun q => N0 ≤ q)) ([.ref (ad (bb k))]).toArray s 0 0 (fun q => N0 ≤ q)) (F0 m 4 ls []) := by
    intro fu4
    induction fu4 with
    | zero =>
      intro i H locs ls hi hf
      omega
    | succ fu4 ih4 =>
      intro i H locs ls hi hf hZ hl
      refine lv_iload_n hx hb d_Bag_placeOfGreatest_4 rfl (lv_at hl 1 rfl) ?_
      refine lv_aload_n hx hb d_Bag_placeOfGreatest_5 rfl (lv_at hl 2 rfl) ?_
      refine q_get (C := R_Bag) (T := T_Bag) (N := 4) hx hb hts (fun w h => gm (inT_Bag w h)) hown hK hZ (bb k) (by have := bb_r hk; omega) hB.1 rfl 3 (by decide) (hts _ (gm k_58)) (fun _ h9 => h9) rfl d_Bag_placeOfGreatest_6 ?_
      refine lv_icmp_ge (tgt := 41) hx hb d_Bag_placeOfGreatest_9 (by decide) (fun h9 => ?_) (fun h9 => ?_)
      · skip
        have h9 : z ≤ i := (nI_leI (a := z) (b := i) (by omega) (by omega)).mp h9
        refine lv_iload_n hx hb d_Bag_placeOfGreatest_41 rfl (lv_at hl 0 rfl) ?_
        exact q_iret hx hb hr hlocks hK hAm hZ hN (⟨rfl, by rw [show i = z by omega]⟩) d_Bag_placeOfGreatest_42
      · skip
        have h9 : i < z := Nat.lt_of_not_le (fun z9 => h9 ((nI_leI (a := z) (b := i) (by omega) (by omega)).mpr z9))
        have hcb := cGr_le A i
        by_cases hb0 : cGr A i = 0
        · skip
          have e1 : bI (cGr A i) = (-1) := if_pos hb0
          rw [e1] at hl
          refine lv_iload_n hx hb d_Bag_placeOfGreatest_12 rfl (lv_at hl 0 rfl) ?_
          refine lv_iconst (v := (-1)) hx hb d_Bag_placeOfGreatest_13 rfl ?_
          refine lv_icmp_eq (tgt := 33) hx hb d_Bag_placeOfGreatest_14 (by decide) (fun h14 => ?_) (fun h14 => ?_)
          · skip
            refine lv_iload_n hx hb d_Bag_placeOfGreatest_33 rfl (lv_at hl 1 rfl) ?_
            refine lv_istore_n (lv' := [(1, .int (nI i)), (2, .int (nI i)), (0, .ref (ad (bb k)))]) hx hb d_Bag_placeOfGreatest_34 rfl hl (by decide) rfl (fun ls hl => ?_)
            refine lv_iinc (v := (nI (i + 1))) (lv' := [(2, .int (nI (i + 1))), (1, .int (nI i)), (0, .ref (ad (bb k)))]) hx hb d_Bag_placeOfGreatest_35 hl (k := 1) rfl (nI_1 _) (by decide) rfl (fun ls hl => ?_)
            refine lv_goto (tgt := 4) hx hb d_Bag_placeOfGreatest_38 (by decide) ?_
            have e8 : cGr A (i + 1) = i + 1 := by
              show (if cGr A i = 0 ∨ A (cGr A i - 1) < A i then i + 1 else cGr A i) = _
              rw [if_pos (by first | exact Or.inl hb0 | exact Or.inr (Int64.not_le.mp h30))]
            have e9 : bI (cGr A (i + 1)) = nI i := by rw [e8]; rfl
            rw [← e9] at hl
            exact ih4 (i + 1) _ _ _ (by omega) (by omega) hZ (lv_sub hl [1, 0, 2] rfl)
          · skip
            exact absurd rfl h14
        · skip
          have e1 : bI (cGr A i) = (nI (cGr A i - 1)) := if_neg hb0
          rw [e1] at hl
          refine lv_iload_n hx hb d_Bag_placeOfGreatest_12 rfl (lv_at hl 0 rfl) ?_
          refine lv_iconst (v := (-1)) hx hb d_Bag_placeOfGreatest_13 rfl ?_
          refine lv_icmp_eq (tgt := 33) hx hb d_Bag_placeOfGreatest_14 (by decide) (fun h14 => ?_) (fun h14 => ?_)
          · skip
            exact absurd h14 (nI_nm1 (by omega))
          · skip
            refine lv_aload_n hx hb d_Bag_placeOfGreatest_17 rfl (lv_at hl 2 rfl) ?_
            refine q_get (C := R_Bag) (T := T_Bag) (N := 4) hx hb hts (fun w h => gm (inT_Bag w h)) hown hK hZ (bb k) (by have := bb_r hk; omega) hB.1 rfl 2 (by decide) (hts _ (gm k_55)) (fun _ h9 => h9) rfl d_Bag_placeOfGreatest_18 ?_
            refine lv_iload_n hx hb d_Bag_placeOfGreatest_21 rfl (lv_at hl 1 rfl) ?_
            refine q_lald hx hb hK hZ (bb k + 3) 1 (i) (by have := bb_r hk; omega) hB.2.2.2.1 rfl rfl (by omega) (by decide) d_Bag_placeOfGreatest_22 ?_
            refine lv_aload_n hx hb d_Bag_placeOfGreatest_23 rfl (lv_at hl 2 rfl) ?_
            refine q_get (C := R_Bag) (T := T_Bag) (N := 4) hx hb hts (fun w h => gm (inT_Bag w h)) hown hK hZ (bb k) (by have := bb_r hk; omega) hB.1 rfl 2 (by decide) (hts _ (gm k_55)) (fun _ h9 => h9) rfl d_Bag_placeOfGreatest_24 ?_
            refine lv_iload_n hx hb d_Bag_placeOfGreatest_27 rfl (lv_at hl 0 rfl) ?_
            refine q_lald hx hb hK hZ (bb k + 3) 1 ((cGr A i - 1)) (by have := bb_r hk; omega) hB.2.2.2.1 rfl rfl (by omega) (by decide) d_Bag_placeOfGreatest_28 ?_
            refine W.lcmp hx hb d_Bag_placeOfGreatest_29 ?_
            refine lv_if_le (tgt := 35) hx hb d_Bag_placeOfGreatest_30 (by decide) (fun h30 => ?_) (fun h30 => ?_)
            · skip
              rw [lg_cmp_le] at h30
              refine lv_iinc (v := (nI (i + 1))) (lv' := [(2, .int (nI (i + 1))), (1, .int (nI (cGr A i - 1))), (0, .ref (ad (bb k)))]) hx hb d_Bag_placeOfGreatest_35 hl (k := 1) rfl (nI_1 _) (by decide) rfl (fun ls hl => ?_)
              refine lv_goto (tgt := 4) hx hb d_Bag_placeOfGreatest_38 (by decide) ?_
              have e8 : cGr A (i + 1) = cGr A i := by
                show (if cGr A i = 0 ∨ A (cGr A i - 1) < A i then i + 1 else cGr A i) = _
                rw [if_neg (fun y => y.elim hb0 (Int64.not_lt.mpr h30))]
              have e9 : bI (cGr A (i + 1)) = nI (cGr A i - 1) := by rw [e8]; exact e1
              rw [← e9] at hl
              exact ih4 (i + 1) _ _ _ (by omega) (by omega) hZ (lv_sub hl [1, 0, 2] rfl)
            · skip
              rw [lg_cmp_le] at h30
              refine lv_iload_n hx hb d_Bag_placeOfGreatest_33 rfl (lv_at hl 1 rfl) ?_
              refine lv_istore_n (lv' := [(1, .int (nI i)), (2, .int (nI i)), (0, .ref (ad (bb k)))]) hx hb d_Bag_placeOfGreatest_34 rfl hl (by decide) rfl (fun ls hl => ?_)
              refine lv_iinc (v := (nI (i + 1))) (lv' := [(2, .int (nI (i + 1))), (1, .int (nI i)), (0, .ref (ad (bb k)))]) hx hb d_Bag_placeOfGreatest_35 hl (k := 1) rfl (nI_1 _) (by decide) rfl (fun ls hl => ?_)
              refine lv_goto (tgt := 4) hx hb d_Bag_placeOfGreatest_38 (by decide) ?_
              have e8 : cGr A (i + 1) = i + 1 := by
                show (if cGr A i = 0 ∨ A (cGr A i - 1) < A i then i + 1 else cGr A i) = _
                rw [if_pos (by first | exact Or.inl hb0 | exact Or.inr (Int64.not_le.mp h30))]
              have e9 : bI (cGr A (i + 1)) = nI i := by rw [e8]; rfl
              rw [← e9] at hl
              exact ih4 (i + 1) _ _ _ (by omega) (by omega) hZ (lv_sub hl [1, 0, 2] rfl)
  exact loop4 (z + 1) 0 _ _ _ (Nat.zero_le z) (by omega) hZ (lv_sub hl [1, 0, 2] rfl)
end
section
/-! the class Pairs -/
theorem i32_ng {r : Int32} (h : r < 0) : ¬ 0 < r := by
  rw [Int32.lt_iff_toInt_lt] at h ⊢
  omega
theorem i32_nl {r : Int32} (h : 0 < r) : ¬ r < 0 := by
  rw [Int32.lt_iff_toInt_lt] at h ⊢
  omega
theorem i32_n0g {r : Int32} (h : r = 0) : ¬ 0 < r := by
  rw [h]
  decide
theorem i32_n0l {r : Int32} (h : r = 0) : ¬ r < 0 := by
  rw [h]
  decide
theorem al_cases {r : Int32} {za zb i j : Nat} {x y : Int} (h : (za ≤ i ∧ r = 1) ∨ (i < za ∧ zb ≤ j ∧ r = -1) ∨ (i < za ∧ j < zb ∧ (r < 0 ↔ x < y) ∧ (r = 0 ↔ x = y))) (ho : i < za ∨ j < zb) :
    (r < 0 ∧ i < za ∧ (j < zb → x < y)) ∨ (r = 0 ∧ i < za ∧ j < zb ∧ x = y) ∨ (0 < r ∧ j < zb ∧ (i < za → y < x)) := by
  rcases h with ⟨h1, h2⟩ | ⟨h1, h2, h3⟩ | ⟨h1, h2, h3, h4⟩
  · exact Or.inr (Or.inr ⟨by rw [h2]; decide, by omega, fun y => by omega⟩)
  · exact Or.inl ⟨by rw [h3]; decide, h1, fun y => by omega⟩
  · by_cases a : r < 0
    · exact Or.inl ⟨a, h1, fun _ => h3.mp a⟩
    · by_cases b : r = 0
      · exact Or.inr (Or.inl ⟨b, h1, h2, h4.mp b⟩)
      · refine Or.inr (Or.inr ⟨?_, h2, fun _ => ?_⟩)
        · rw [Int32.lt_iff_toInt_lt] at a ⊢
          have : r.toInt ≠ (0 : Int32).toInt := fun z => b (Int32.toInt_inj.mp z)
          omega
        · have a' : ¬ x < y := fun z => a (h3.mpr z)
          have b' : ¬ x = y := fun z => b (h4.mpr z)
          omega
set_option maxHeartbeats 4000000 in
set_option maxRecDepth 100000 in
theorem c_Prs_orderOfNext (l : Launch) (dC : Nat → ClassId) (dI : Nat → Nat → Nat) (cI cL cB : ClassId) (ad : Nat → Nat) (N0 : Nat) (w : Nat → va_E) (ka za : Nat) (Pa : Nat → Int32) (Na Aa : Nat → Int64) (kb zb : Nat) (Pb : Nat → Int32) (Nb Ab : Nat → Int64) (i j : Nat) (hka : ka < 9) (hA : isBag ad cI cL w ka za Pa Na Aa) (hkb : kb < 9) (hB : isBag ad cI cL w kb zb Pb Nb Ab) (hi : i ≤ za) (hj : j ≤ zb) : Met l y_Prs_orderOfNext ws_Prs_orderOfNext ({ frames := 3, cells := 0, slots := 0, locals := 71 } : Room) (va_Pc [.ref (ad (bb ka)), .int (nI i), .ref (ad (bb kb)), .int (nI j)] (sPr (dC, dI) vCl [(cI, .int), (cL, .long), (cB, .object "CoinBag$Bag")] 52 ad N0 w)) (va_Qi (fun r u => u = w ∧ ((za ≤ i ∧ r = 1) ∨ (i < za ∧ zb ≤ j ∧ r = -1) ∨ (i < za ∧ j < zb ∧ (r < 0 ↔ kk Pa Na i < kk Pb Nb j) ∧ (r = 0 ↔ kk Pa Na i = kk Pb Nb j)))) (sPr (dC, dI) vCl [(cI, .int), (cL, .long), (cB, .object "CoinBag$Bag")] 52 ad N0) (fun q => N0 ≤ q)) 0 0 (fun q => N0 ≤ q) := by
  refine Met.ofW (cc := b_Prs_orderOfNext) (maxL := 4) (ret := (some .int)) (by decide) rfl ?_
  intro p e s m args below meth c s₁ B hml hv
  obtain ⟨rfl, hP, hK, hD, hN, hAm⟩ := hv
  have hx := B.exec
  have hb := B.bytes
  have hr := B.returns
  have hts := atoms_spec (ws := ws_Prs_orderOfNext) B.pre
  have hown : s.vm.findClass "CoinBag$Pairs" = some m.cls := findClass_of_methodNamed B.named
  have hlocks := B.notSynchronized
  have hZ : sZ (dC, dI) vCl 52 ad (fun q => N0 ≤ q) s.heap w s.heap [] := ⟨hP, hD, va_S.rf⟩
  have hl := lv_entry ([.ref (ad (bb ka)), .int (nI i), .ref (ad (bb kb)), .int (nI j)]) (n := 4) (Nat.le_of_ble_eq_true rfl)
  rw [lg_entry_eq]
  generalize (lg_sl ([.ref (ad (bb ka)), .int (nI i), .ref (ad (bb kb)), .int (nI j)]) ++ List.replicate (4 - (lg_sl ([.ref (ad (bb ka)), .int (nI i), .ref (ad (bb kb)), .int (nI j)])).length) Slot.unset).toArray = ls at hl ⊢
  have hl : lv_has ls 4 [(0, .ref (ad (bb ka))), (1, .int (nI i)), (2, .ref (ad (bb kb))), (3, .int (nI j))] := hl
  have hza : za ≤ 64 := hA.2.2.2.2
  have hzb : zb ≤ 64 := hB.2.2.2.2
  refine lv_iload_n hx hb d_Prs_orderOfNext_0 rfl (lv_at hl 1 rfl) ?_
  refine lv_aload_n hx hb d_Prs_orderOfNext_1 rfl (lv_at hl 0 rfl) ?_
  refine q_get (C := R_Bag) (T := T_Bag) (N := 4) hx hb hts (fun w h => gm (inT_Bag w h)) hown hK hZ (bb ka) (by have := bb_r hka; omega) hA.1 rfl 3 (by decide) (hts _ (gm k_59)) (fun _ h9 => h9) rfl d_Prs_orderOfNext_2 ?_
  refine lv_icmp_lt (tgt := 10) hx hb d_Prs_orderOfNext_5 (by decide) (fun h5 => ?_) (fun h5 => ?_)
  · skip
    have h5 : i < za := (nI_ltI (a := i) (b := za) (by omega) (by omega)).mp h5
    refine lv_iload_n hx hb d_Prs_orderOfNext_10 rfl (lv_at hl 3 rfl) ?_
    refine lv_aload_n hx hb d_Prs_orderOfNext_11 rfl (lv_at hl 2 rfl) ?_
    refine q_get (C := R_Bag) (T := T_Bag) (N := 4) hx hb hts (fun w h => gm (inT_Bag w h)) hown hK hZ (bb kb) (by have := bb_r hkb; omega) hB.1 rfl 3 (by decide) (hts _ (gm k_59)) (fun _ h9 => h9) rfl d_Prs_orderOfNext_12 ?_
    refine lv_icmp_lt (tgt := 20) hx hb d_Prs_orderOfNext_15 (by decide) (fun h15 => ?_) (fun h15 => ?_)
    · skip
      have h15 : j < zb := (nI_ltI (a := j) (b := zb) (by omega) (by omega)).mp h15
      refine lv_aload_n hx hb d_Prs_orderOfNext_20 rfl (lv_at hl 0 rfl) ?_
      refine q_get (C := R_Bag) (T := T_Bag) (N := 4) hx hb hts (fun w h => gm (inT_Bag w h)) hown hK hZ (bb ka) (by have := bb_r hka; omega) hA.1 rfl 0 (by decide) (hts _ (gm k_50)) (fun _ h9 => h9) rfl d_Prs_orderOfNext_21 ?_
      refine lv_iload_n hx hb d_Prs_orderOfNext_24 rfl (lv_at hl 1 rfl) ?_
      refine q_iald hx hb hK hZ (bb ka + 1) 0 (i) (by have := bb_r hka; omega) hA.2.1 rfl rfl (by omega) (by decide) d_Prs_orderOfNext_25 ?_
      refine lv_aload_n hx hb d_Prs_orderOfNext_26 rfl (lv_at hl 0 rfl) ?_
      refine q_get (C := R_Bag) (T := T_Bag) (N := 4) hx hb hts (fun w h => gm (inT_Bag w h)) hown hK hZ (bb ka) (by have := bb_r hka; omega) hA.1 rfl 1 (by decide) (hts _ (gm k_53)) (fun _ h9 => h9) rfl d_Prs_orderOfNext_27 ?_
      refine lv_iload_n hx hb d_Prs_orderOfNext_30 rfl (lv_at hl 1 rfl) ?_
      refine q_lald hx hb hK hZ (bb ka + 2) 1 (i) (by have := bb_r hka; omega) hA.2.2.1 rfl rfl (by omega) (by decide) d_Prs_orderOfNext_31 ?_
      refine lv_aload_n hx hb d_Prs_orderOfNext_32 rfl (lv_at hl 2 rfl) ?_
      refine q_get (C := R_Bag) (T := T_Bag) (N := 4) hx hb hts (fun w h => gm (inT_Bag w h)) hown hK hZ (bb kb) (by have := bb_r hkb; omega) hB.1 rfl 0 (by decide) (hts _ (gm k_50)) (fun _ h9 => h9) rfl d_Prs_orderOfNext_33 ?_
      refine lv_iload_n hx hb d_Prs_orderOfNext_36 rfl (lv_at hl 3 rfl) ?_
      refine q_iald hx hb hK hZ (bb kb + 1) 0 (j) (by have := bb_r hkb; omega) hB.2.1 rfl rfl (by omega) (by decide) d_Prs_orderOfNext_37 ?_
      refine lv_aload_n hx hb d_Prs_orderOfNext_38 rfl (lv_at hl 2 rfl) ?_
      refine q_get (C := R_Bag) (T := T_Bag) (N := 4) hx hb hts (fun w h => gm (inT_Bag w h)) hown hK hZ (bb kb) (by have := bb_r hkb; omega) hB.1 rfl 1 (by decide) (hts _ (gm k_53)) (fun _ h9 => h9) rfl d_Prs_orderOfNext_39 ?_
      refine lv_iload_n hx hb d_Prs_orderOfNext_42 rfl (lv_at hl 3 rfl) ?_
      refine q_lald hx hb hK hZ (bb kb + 2) 1 (j) (by have := bb_r hkb; omega) hB.2.2.1 rfl rfl (by omega) (by decide) d_Prs_orderOfNext_43 ?_
      refine q_callSi (va_runSN (As := [.int (Pa i), .long (Na i), .int (Pb j), .long (Nb j)]) (rest := []) ⟨hx, hb, hml, hown, hts⟩ (c_CB_orderOf l _ _ _ _) ⟨va_cnB 4 hts (gI k_218) rfl rfl rfl (hAm.2.2.2.2.1) (hts _ (gm k_21)) (by decide +kernel) ⟨Nat.le_of_ble_eq_true rfl, Nat.le_of_ble_eq_true rfl⟩, hts _ (gm k_217), trivial⟩ ⟨fun _ _ _ _ q => q, fun _ _ _ => ⟨rfl, trivial⟩⟩ rfl rfl hl.1 rfl (lv_room (Nat.le_of_ble_eq_true rfl)) d_Prs_orderOfNext_44 ⟨Nat.zero_le _, Nat.zero_le _⟩) (fun r h_r => ?_)
      exact q_iret hx hb hr hlocks hK hAm hZ hN (⟨rfl, Or.inr (Or.inr ⟨h5, h15, h_r⟩)⟩) d_Prs_orderOfNext_47
    · skip
      have h15 : zb ≤ j := Nat.le_of_not_lt (fun z9 => h15 ((nI_ltI (a := j) (b := zb) (by omega) (by omega)).mpr z9))
      refine lv_iconst (v := (-1)) hx hb d_Prs_orderOfNext_18 rfl ?_
      exact q_iret hx hb hr hlocks hK hAm hZ hN (⟨rfl, Or.inr (Or.inl ⟨h5, h15, rfl⟩)⟩) d_Prs_orderOfNext_19
  · skip
    have h5 : za ≤ i := Nat.le_of_not_lt (fun z9 => h5 ((nI_ltI (a := i) (b := za) (by omega) (by omega)).mpr z9))
    refine lv_iconst (v := (nI 1)) hx hb d_Prs_orderOfNext_8 rfl ?_
    exact q_iret hx hb hr hlocks hK hAm hZ hN (⟨rfl, Or.inl ⟨h5, rfl⟩⟩) d_Prs_orderOfNext_9
set_option maxHeartbeats 4000000 in
set_option maxRecDepth 100000 in
theorem c_Prs_align (l : Launch) (dC : Nat → ClassId) (dI : Nat → Nat → Nat) (cI cL cB : ClassId) (ad : Nat → Nat) (N0 : Nat) (w : Nat → va_E) (ka za : Nat) (Pa : Nat → Int32) (Na Aa : Nat → Int64) (kb zb : Nat) (Pb : Nat → Int32) (Nb Ab : Nat → Int64) (Fa Fb : Int → Int64) (d0 : Nat) (P0 : Nat → Int32) (N1 L0 R0 : Nat → Int64) (hka : ka < 9) (hA : isBag ad cI cL w ka za Pa Na Aa) (hkb : kb < 9) (hB : isBag ad cI cL w kb zb Pb Nb Ab) (hCa : cRep za Pa Na Aa Fa) (hCb : cRep zb Pb Nb Ab Fb) (hPr : isPrs ad cI cL w d0 P0 N1 L0 R0) : Met l y_Prs_align ws_Prs_align ({ frames := 4, cells := 0, slots := 0, locals := 94 } : Room) (va_Pc [.ref (ad 34), .ref (ad (bb ka)), .ref (ad (bb kb))] (sPr (dC, dI) vCl [(cI, .int), (cL, .long), (cB, .object "CoinBag$Bag")] 52 ad N0 w)) (va_Qv (fun u => fr w u 34 38 ∧ ∃ (d : Nat) (P : Nat → Int32) (N L R : Nat → Int64), isPrs ad cI cL u d P N L R ∧ pRep d P N L R Fa Fb) (sPr (dC, dI) vCl [(cI, .int), (cL, .long), (cB, .object "CoinBag$Bag")] 52 ad N0) (fun q => N0 ≤ q)) 0 0 (fun q => N0 ≤ q) := by
  refine Met.ofW (cc := b_Prs_align) (maxL := 8) (ret := none) (by decide) rfl ?_
  intro p e s m args below meth c s₁ B hml hv
  obtain ⟨rfl, hP, hK, hD, hN, hAm⟩ := hv
  have hx := B.exec
  have hb := B.bytes
  have hr := B.returns
  have hts := atoms_spec (ws := ws_Prs_align) B.pre
  have hown : s.vm.findClass "CoinBag$Pairs" = some m.cls := findClass_of_methodNamed B.named
  have hlocks := B.notSynchronized
  have hZ : sZ (dC, dI) vCl 52 ad (fun q => N0 ≤ q) s.heap w s.heap [] := ⟨hP, hD, va_S.rf⟩
  have hl := lv_entry ([.ref (ad 34), .ref (ad (bb ka)), .ref (ad (bb kb))]) (n := 8) (Nat.le_of_ble_eq_true rfl)
  rw [lg_entry_eq]
  generalize (lg_sl ([.ref (ad 34), .ref (ad (bb ka)), .ref (ad (bb kb))]) ++ List.replicate (8 - (lg_sl ([.ref (ad 34), .ref (ad (bb ka)), .ref (ad (bb kb))])).length) Slot.unset).toArray = ls at hl ⊢
  have hl : lv_has ls 8 [(0, .ref (ad 34)), (1, .ref (ad (bb ka))), (2, .ref (ad (bb kb)))] := hl
  have hza : za ≤ 64 := hA.2.2.2.2
  have hzb : zb ≤ 64 := hB.2.2.2.2
  have hfr : fr w w 34 38 := fr_rf
  refine lv_iconst (v := (nI 0)) hx hb d_Prs_align_0 rfl ?_
  refine lv_istore_n (lv' := [(3, .int (nI 0)), (0, .ref (ad 34)), (1, .ref (ad (bb ka))), (2, .ref (ad (bb kb)))]) hx hb d_Prs_align_1 rfl hl (by decide) rfl (fun ls hl => ?_)
  refine lv_iconst (v := (nI 0)) hx hb d_Prs_align_2 rfl ?_
  refine lv_istore (lv' := [(4, .int (nI 0)), (3, .int (nI 0)), (0, .ref (ad 34)), (1, .ref (ad (bb ka))), (2, .ref (ad (bb kb)))]) hx hb d_Prs_align_3 hl (by decide) rfl (fun ls hl => ?_)
  refine lv_aload_n hx hb d_Prs_align_5 rfl (lv_at hl 2 rfl) ?_
  refine lv_iconst (v := (nI 0)) hx hb d_Prs_align_6 rfl ?_
  refine q_put (C := R_Prs) (T := T_Prs) (N := 5) (ty := .int) (v := .int (nI 0)) hx hb hts (fun w h => gm (inT_Prs w h)) ty_Prs tyo_Prs nm_Prs hown hK hZ (34) (by decide) hPr.1 rfl 4 (by decide) (hts _ (gm k_86)) (fun _ h9 => h9) rfl (by decide +kernel) (rfl) (rfl) (Nat.le_of_ble_eq_true rfl) d_Prs_align_7 (fun H locs hZ => ?_)
  have hPr := hPr.upC (c' := 0) (by omega)
  have hA := hA.off (x := 34) (e := .inr (1, [.ref (ad 35), .ref (ad 36), .ref (ad 37), .ref (ad 38), .int (nI 0)])) (by have := bb_r hka; omega)
  have hB := hB.off (x := 34) (e := .inr (1, [.ref (ad 35), .ref (ad 36), .ref (ad 37), .ref (ad 38), .int (nI 0)])) (by have := bb_r hkb; omega)
  have hfr := fr_up (x := 34) (e := .inr (1, [.ref (ad 35), .ref (ad 36), .ref (ad 37), .ref (ad 38), .int (nI 0)])) hfr (by omega) (by omega)
  have hZ : sZ (dC, dI) vCl 52 ad (fun q => N0 ≤ q) s.heap (va_up w 34 (.inr (1, [.ref (ad 35), .ref (ad 36), .ref (ad 37), .ref (ad 38), .int (nI 0)]))) H locs := hZ
  generalize va_up w 34 (.inr (1, [.ref (ad 35), .ref (ad 36), .ref (ad 37), .ref (ad 38), .int (nI 0)])) = w18 at hZ hPr hfr hA hB
  have loop10 : ∀ (fu10 : Nat) (i j d : Nat) (P : Nat → Int32) (N L R : Nat → Int64) (u : Nat → va_E) (H : Heap) (locs : List Loc) (ls : Array Slot), (za + zb + 1 ≤ i + j + fu10) → (isBag ad cI cL u ka za Pa Na Aa) → (isBag ad cI cL u kb zb Pb Nb Ab) → (isPrs ad cI cL u d P N L R) → (fr w u 34 38) → (mG za (kk Pa Na) Fa zb (kk Pb Nb) Fb i j d P N L R) → sZ (dC, dI) vCl 52 ad (fun q => N0 ≤ q) s.heap u H locs → lv_has ls 8 [(3, .int (nI i)), (4, .int (nI j)), (0, .ref (ad 34)), (1, .ref (ad (bb ka))), (2, .ref (ad (bb kb)))] → W p l e (headSpec ws_Prs_align ({ frames := 4, cells := 0, slots := 0, locals := 94 } : Room)).room s m ([.ref (ad 34), .ref (ad (bb ka)), .ref (ad (bb kb))]).toArray below meth c H locs 0 0 (MQ below (va_Qv (fun u => fr w u 34 38 ∧ ∃ (d : Nat) (P : Nat → Int32) (N L R : Nat → Int64), isPrs ad cI cL u d P N L R ∧ pRep d P N L R Fa Fb) (sPr (dC, dI) vCl [(cI, .int), (cL, .long), (cB, .object "CoinBag$Bag")] 52 ad N0) (fun q => N0 ≤ q)) ([.ref (ad 34), .ref (ad (bb ka)), .ref (ad (bb kb))]).toArray s 0 0 (fun q => N0 ≤ q)) (F0 m 10 ls []) := by
    intro fu10
    induction fu10 with
    | zero =>
      intro i j d P N L R u H locs ls hf hA hB hPr hfr hM
      exact absurd hM.1 (by omega)
    | succ fu10 ih10 =>
      intro i j d P N L R u H locs ls hf hA hB hPr hfr hM hZ hl
      have hM1 := hM.1
      have hd := hPr.2.2.2.2.2
      refine lv_aload_n hx hb d_Prs_align_10 rfl (lv_at hl 2 rfl) ?_
      refine q_get (C := R_Prs) (T := T_Prs) (N := 5) hx hb hts (fun w h => gm (inT_Prs w h)) hown hK hZ (34) (by decide) hPr.1 rfl 4 (by decide) (hts _ (gm k_86)) (fun _ h9 => h9) rfl d_Prs_align_11 ?_
      refine lv_sipush (v := (nI 128)) hx hb d_Prs_align_14 rfl ?_
      refine lv_icmp_ge (tgt := 196) hx hb d_Prs_align_17 (by decide) (fun h17 => ?_) (fun h17 => ?_)
      · skip
        have h17 : 128 ≤ d := (nI_leI (a := 128) (b := d) (by omega) (by omega)).mp h17
        exact q_vret hx hb hr hlocks hK hAm hZ hN (⟨hfr, d, _, _, _, _, hPr, mG_end hCa.2.2.1 hCb.2.2.1 (show mG za (kk Pa Na) Fa zb (kk Pb Nb) Fb za zb d _ _ _ _ from by have q1 := hM.1; have ei : i = za := (by omega); have ej : j = zb := (by omega); rw [ei, ej] at hM; exact hM)⟩) d_Prs_align_196
      · skip
        have h17 : d < 128 := Nat.lt_of_not_le (fun z9 => h17 ((nI_leI (a := 128) (b := d) (by omega) (by omega)).mpr z9))
        refine lv_iload_n hx hb d_Prs_align_20 rfl (lv_at hl 0 rfl) ?_
        refine lv_aload_n hx hb d_Prs_align_21 rfl (lv_at hl 3 rfl) ?_
        refine q_get (C := R_Bag) (T := T_Bag) (N := 4) hx hb hts (fun w h => gm (inT_Bag w h)) hown hK hZ (bb ka) (by have := bb_r hka; omega) hA.1 rfl 3 (by decide) (hts _ (gm k_59)) (fun _ h9 => h9) rfl d_Prs_align_22 ?_
        refine lv_icmp_lt (tgt := 37) hx hb d_Prs_align_25 (by decide) (fun h25 => ?_) (fun h25 => ?_)
        · skip
          have h25 : i < za := (nI_ltI (a := i) (b := za) (by omega) (by omega)).mp h25
          refine lv_aload_n hx hb d_Prs_align_37 rfl (lv_at hl 3 rfl) ?_
          refine lv_iload_n hx hb d_Prs_align_38 rfl (lv_at hl 0 rfl) ?_
          refine lv_aload_n hx hb d_Prs_align_39 rfl (lv_at hl 4 rfl) ?_
          refine lv_iload hx hb d_Prs_align_40 (lv_at hl 1 rfl) ?_
          refine q_calli (va_runS (As := [.ref (ad (bb ka)), .int (nI i), .ref (ad (bb kb)), .int (nI j)]) (rest := []) ⟨hx, hb, hml, hown, hts⟩ (c_Prs_orderOfNext l dC dI cI cL cB ad N0 u ka za Pa Na Aa kb zb Pb Nb Ab i j hka hA hkb hB (by omega) (by omega)) (va_cwS 4 hts (gI_S k_277 k_275 k_276 k_23) rfl rfl rfl (by decide +kernel) ⟨Nat.le_of_ble_eq_true rfl, Nat.le_of_ble_eq_true rfl⟩) (q_pre hK hAm hZ hN [.ref (ad (bb ka)), .int (nI i), .ref (ad (bb kb)), .int (nI j)]) rfl rfl hl.1 rfl (lv_room (Nat.le_of_ble_eq_true rfl)) d_Prs_align_42 ⟨Nat.zero_le _, Nat.zero_le _⟩) hZ (fun r u_r H locs h_r hZ => ?_)
          obtain ⟨e_r, h_r⟩ := h_r
          rw [e_r] at hZ
          rcases al_cases h_r (by first | exact Or.inl h25 | exact Or.inr h34) with hc | hc | hc
          · skip
            obtain ⟨hrs, hc⟩ := hc
            obtain ⟨hiz, hjk⟩ := hc
            refine lv_istore (lv' := [(5, .int r), (3, .int (nI i)), (4, .int (nI j)), (0, .ref (ad 34)), (1, .ref (ad (bb ka))), (2, .ref (ad (bb kb)))]) hx hb d_Prs_align_45 hl (by decide) rfl (fun ls hl => ?_)
            refine lv_iload hx hb d_Prs_align_47 (lv_at hl 0 rfl) ?_
            refine lv_if_gt (tgt := 56) hx hb d_Prs_align_49 (by decide) (fun h49 => ?_) (fun h49 => ?_)
            · skip
              exact absurd h49 (i32_ng hrs)
            · skip
              refine lv_aload_n hx hb d_Prs_align_52 rfl (lv_at hl 4 rfl) ?_
              refine lv_goto (tgt := 57) hx hb d_Prs_align_53 (by decide) ?_
              refine lv_astore (lv' := [(6, .ref (ad (bb ka))), (5, .int r), (3, .int (nI i)), (4, .int (nI j)), (0, .ref (ad 34)), (1, .ref (ad (bb ka))), (2, .ref (ad (bb kb)))]) hx hb d_Prs_align_57 hl (by decide) rfl (fun ls hl => ?_)
              refine lv_iload hx hb d_Prs_align_59 (lv_at hl 1 rfl) ?_
              refine lv_if_gt (tgt := 68) hx hb d_Prs_align_61 (by decide) (fun h61 => ?_) (fun h61 => ?_)
              · skip
                exact absurd h61 (i32_ng hrs)
              · skip
                refine lv_iload_n hx hb d_Prs_align_64 rfl (lv_at hl 2 rfl) ?_
                refine lv_goto (tgt := 70) hx hb d_Prs_align_65 (by decide) ?_
                refine lv_istore (lv' := [(7, .int (nI i)), (6, .ref (ad (bb ka))), (5, .int r), (3, .int (nI i)), (4, .int (nI j)), (0, .ref (ad 34)), (1, .ref (ad (bb ka))), (2, .ref (ad (bb kb)))]) hx hb d_Prs_align_70 hl (by decide) rfl (fun ls hl => ?_)
                refine lv_aload_n hx hb d_Prs_align_72 rfl (lv_at hl 5 rfl) ?_
                refine q_get (C := R_Prs) (T := T_Prs) (N := 5) hx hb hts (fun w h => gm (inT_Prs w h)) hown hK hZ (34) (by decide) hPr.1 rfl 0 (by decide) (hts _ (gm k_78)) (fun _ h9 => h9) rfl d_Prs_align_73 ?_
                refine lv_aload_n hx hb d_Prs_align_76 rfl (lv_at hl 5 rfl) ?_
                refine q_get (C := R_Prs) (T := T_Prs) (N := 5) hx hb hts (fun w h => gm (inT_Prs w h)) hown hK hZ (34) (by decide) hPr.1 rfl 4 (by decide) (hts _ (gm k_86)) (fun _ h9 => h9) rfl d_Prs_align_77 ?_
                refine lv_aload hx hb d_Prs_align_80 (lv_at hl 1 rfl) ?_
                refine q_get (C := R_Bag) (T := T_Bag) (N := 4) hx hb hts (fun w h => gm (inT_Bag w h)) hown hK hZ (bb ka) (by have := bb_r hka; omega) hA.1 rfl 0 (by decide) (hts _ (gm k_50)) (fun _ h9 => h9) rfl d_Prs_align_82 ?_
                refine lv_iload hx hb d_Prs_align_85 (lv_at hl 0 rfl) ?_
                refine q_iald hx hb hK hZ (bb ka + 1) 0 (i) (by have := bb_r hka; omega) hA.2.1 rfl rfl (by omega) (by decide) d_Prs_align_87 ?_
                refine q_iast hx hb hK hZ (35) 0 (d) (by decide) hPr.2.1 rfl rfl (by omega) (by decide) d_Prs_align_88 (fun H locs hZ => ?_)
                have hPr := hPr.upP ((upd P d (Pa i)))
                have hA := hA.off (x := 35) (e := .inl (cI, 128, .inl (upd P d (Pa i)))) (by have := bb_r hka; omega)
                have hB := hB.off (x := 35) (e := .inl (cI, 128, .inl (upd P d (Pa i)))) (by have := bb_r hkb; omega)
                have hfr := fr_up (x := 35) (e := .inl (cI, 128, .inl (upd P d (Pa i)))) hfr (by omega) (by omega)
                have hZ : sZ (dC, dI) vCl 52 ad (fun q => N0 ≤ q) s.heap (va_up u 35 (.inl (cI, 128, .inl (upd P d (Pa i))))) H locs := hZ
                generalize va_up u 35 (.inl (cI, 128, .inl (upd P d (Pa i)))) = w19 at hZ hPr hfr hA hB
                refine lv_aload_n hx hb d_Prs_align_89 rfl (lv_at hl 5 rfl) ?_
                refine q_get (C := R_Prs) (T := T_Prs) (N := 5) hx hb hts (fun w h => gm (inT_Prs w h)) hown hK hZ (34) (by decide) hPr.1 rfl 1 (by decide) (hts _ (gm k_80)) (fun _ h9 => h9) rfl d_Prs_align_90 ?_
                refine lv_aload_n hx hb d_Prs_align_93 rfl (lv_at hl 5 rfl) ?_
                refine q_get (C := R_Prs) (T := T_Prs) (N := 5) hx hb hts (fun w h => gm (inT_Prs w h)) hown hK hZ (34) (by decide) hPr.1 rfl 4 (by decide) (hts _ (gm k_86)) (fun _ h9 => h9) rfl d_Prs_align_94 ?_
                refine lv_aload hx hb d_Prs_align_97 (lv_at hl 1 rfl) ?_
                refine q_get (C := R_Bag) (T := T_Bag) (N := 4) hx hb hts (fun w h => gm (inT_Bag w h)) hown hK hZ (bb ka) (by have := bb_r hka; omega) hA.1 rfl 1 (by decide) (hts _ (gm k_53)) (fun _ h9 => h9) rfl d_Prs_align_99 ?_
                refine lv_iload hx hb d_Prs_align_102 (lv_at hl 0 rfl) ?_
                refine q_lald hx hb hK hZ (bb ka + 2) 1 (i) (by have := bb_r hka; omega) hA.2.2.1 rfl rfl (by omega) (by decide) d_Prs_align_104 ?_
                refine q_last hx hb hK hZ (36) 1 (d) (by decide) hPr.2.2.1 rfl rfl (by omega) (by decide) d_Prs_align_105 (fun H locs hZ => ?_)
                have hPr := hPr.upN ((vp_updL N d (Na i)))
                have hA := hA.off (x := 36) (e := .inl (cL, 128, .inr (.inl (vp_updL N d (Na i))))) (by have := bb_r hka; omega)
                have hB := hB.off (x := 36) (e := .inl (cL, 128, .inr (.inl (vp_updL N d (Na i))))) (by have := bb_r hkb; omega)
                have hfr := fr_up (x := 36) (e := .inl (cL, 128, .inr (.inl (vp_updL N d (Na i))))) hfr (by omega) (by omega)
                have hZ : sZ (dC, dI) vCl 52 ad (fun q => N0 ≤ q) s.heap (va_up w19 36 (.inl (cL, 128, .inr (.inl (vp_updL N d (Na i)))))) H locs := hZ
                generalize va_up w19 36 (.inl (cL, 128, .inr (.inl (vp_updL N d (Na i))))) = w20 at hZ hPr hfr hA hB
                refine lv_aload_n hx hb d_Prs_align_106 rfl (lv_at hl 5 rfl) ?_
                refine q_get (C := R_Prs) (T := T_Prs) (N := 5) hx hb hts (fun w h => gm (inT_Prs w h)) hown hK hZ (34) (by decide) hPr.1 rfl 2 (by decide) (hts _ (gm k_82)) (fun _ h9 => h9) rfl d_Prs_align_107 ?_
                refine lv_aload_n hx hb d_Prs_align_110 rfl (lv_at hl 5 rfl) ?_
                refine q_get (C := R_Prs) (T := T_Prs) (N := 5) hx hb hts (fun w h => gm (inT_Prs w h)) hown hK hZ (34) (by decide) hPr.1 rfl 4 (by decide) (hts _ (gm k_86)) (fun _ h9 => h9) rfl d_Prs_align_111 ?_
                refine lv_iload hx hb d_Prs_align_114 (lv_at hl 2 rfl) ?_
                refine lv_if_gt (tgt := 128) hx hb d_Prs_align_116 (by decide) (fun h116 => ?_) (fun h116 => ?_)
                · skip
                  exact absurd h116 (i32_ng hrs)
                · skip
                  refine lv_aload_n hx hb d_Prs_align_119 rfl (lv_at hl 6 rfl) ?_
                  refine q_get (C := R_Bag) (T := T_Bag) (N := 4) hx hb hts (fun w h => gm (inT_Bag w h)) hown hK hZ (bb ka) (by have := bb_r hka; omega) hA.1 rfl 2 (by decide) (hts _ (gm k_56)) (fun _ h9 => h9) rfl d_Prs_align_120 ?_
                  refine lv_iload_n hx hb d_Prs_align_123 rfl (lv_at hl 3 rfl) ?_
                  refine q_lald hx hb hK hZ (bb ka + 3) 1 (i) (by have := bb_r hka; omega) hA.2.2.2.1 rfl rfl (by omega) (by decide) d_Prs_align_124 ?_
                  refine lv_goto (tgt := 129) hx hb d_Prs_align_125 (by decide) ?_
                  refine q_last hx hb hK hZ (37) 1 (d) (by decide) hPr.2.2.2.1 rfl rfl (by omega) (by decide) d_Prs_align_129 (fun H locs hZ => ?_)
                  have hPr := hPr.upL ((vp_updL L d (Aa i)))
                  have hA := hA.off (x := 37) (e := .inl (cL, 128, .inr (.inl (vp_updL L d (Aa i))))) (by have := bb_r hka; omega)
                  have hB := hB.off (x := 37) (e := .inl (cL, 128, .inr (.inl (vp_updL L d (Aa i))))) (by have := bb_r hkb; omega)
                  have hfr := fr_up (x := 37) (e := .inl (cL, 128, .inr (.inl (vp_updL L d (Aa i))))) hfr (by omega) (by omega)
                  have hZ : sZ (dC, dI) vCl 52 ad (fun q => N0 ≤ q) s.heap (va_up w20 37 (.inl (cL, 128, .inr (.inl (vp_updL L d (Aa i)))))) H locs := hZ
                  generalize va_up w20 37 (.inl (cL, 128, .inr (.inl (vp_updL L d (Aa i))))) = w21 at hZ hPr hfr hA hB
                  refine lv_aload_n hx hb d_Prs_align_130 rfl (lv_at hl 5 rfl) ?_
                  refine q_get (C := R_Prs) (T := T_Prs) (N := 5) hx hb hts (fun w h => gm (inT_Prs w h)) hown hK hZ (34) (by decide) hPr.1 rfl 3 (by decide) (hts _ (gm k_84)) (fun _ h9 => h9) rfl d_Prs_align_131 ?_
                  refine lv_aload_n hx hb d_Prs_align_134 rfl (lv_at hl 5 rfl) ?_
                  refine q_get (C := R_Prs) (T := T_Prs) (N := 5) hx hb hts (fun w h => gm (inT_Prs w h)) hown hK hZ (34) (by decide) hPr.1 rfl 4 (by decide) (hts _ (gm k_86)) (fun _ h9 => h9) rfl d_Prs_align_135 ?_
                  refine lv_iload hx hb d_Prs_align_138 (lv_at hl 2 rfl) ?_
                  refine lv_if_lt (tgt := 153) hx hb d_Prs_align_140 (by decide) (fun h140 => ?_) (fun h140 => ?_)
                  · skip
                    refine lv_lconst (v := 0) hx hb d_Prs_align_153 rfl ?_
                    refine q_last hx hb hK hZ (38) 1 (d) (by decide) hPr.2.2.2.2.1 rfl rfl (by omega) (by decide) d_Prs_align_154 (fun H locs hZ => ?_)
                    have hPr := hPr.upR ((vp_updL R d 0))
                    have hA := hA.off (x := 38) (e := .inl (cL, 128, .inr (.inl (vp_updL R d 0)))) (by have := bb_r hka; omega)
                    have hB := hB.off (x := 38) (e := .inl (cL, 128, .inr (.inl (vp_updL R d 0)))) (by have := bb_r hkb; omega)
                    have hfr := fr_up (x := 38) (e := .inl (cL, 128, .inr (.inl (vp_updL R d 0)))) hfr (by omega) (by omega)
                    have hZ : sZ (dC, dI) vCl 52 ad (fun q => N0 ≤ q) s.heap (va_up w21 38 (.inl (cL, 128, .inr (.inl (vp_updL R d 0))))) H locs := hZ
                    generalize va_up w21 38 (.inl (cL, 128, .inr (.inl (vp_updL R d 0)))) = w22 at hZ hPr hfr hA hB
                    refine lv_iload_n hx hb d_Prs_align_155 rfl (lv_at hl 3 rfl) ?_
                    refine lv_iload hx hb d_Prs_align_156 (lv_at hl 2 rfl) ?_
                    refine lv_if_gt (tgt := 165) hx hb d_Prs_align_158 (by decide) (fun h158 => ?_) (fun h158 => ?_)
                    · skip
                      exact absurd h158 (i32_ng hrs)
                    · skip
                      refine lv_iconst (v := (nI 1)) hx hb d_Prs_align_161 rfl ?_
                      refine lv_goto (tgt := 166) hx hb d_Prs_align_162 (by decide) ?_
                      refine lv_iadd hx hb d_Prs_align_166 ?_
                      refine q_topi (y := nI (i + 1)) (nI_add _ _) ?_
                      refine lv_istore_n (lv' := [(3, .int (nI (i + 1))), (7, .int (nI i)), (6, .ref (ad (bb ka))), (5, .int r), (4, .int (nI j)), (0, .ref (ad 34)), (1, .ref (ad (bb ka))), (2, .ref (ad (bb kb)))]) hx hb d_Prs_align_167 rfl hl (by decide) rfl (fun ls hl => ?_)
                      refine lv_iload hx hb d_Prs_align_168 (lv_at hl 4 rfl) ?_
                      refine lv_iload hx hb d_Prs_align_170 (lv_at hl 3 rfl) ?_
                      refine lv_if_lt (tgt := 179) hx hb d_Prs_align_172 (by decide) (fun h172 => ?_) (fun h172 => ?_)
                      · skip
                        refine lv_iconst (v := (nI 0)) hx hb d_Prs_align_179 rfl ?_
                        refine lv_iadd hx hb d_Prs_align_180 ?_
                        refine q_topi (y := nI (j + 0)) (nI_add _ _) ?_
                        refine lv_istore (lv' := [(4, .int (nI (j + 0))), (3, .int (nI (i + 1))), (7, .int (nI i)), (6, .ref (ad (bb ka))), (5, .int r), (0, .ref (ad 34)), (1, .ref (ad (bb ka))), (2, .ref (ad (bb kb)))]) hx hb d_Prs_align_181 hl (by decide) rfl (fun ls hl => ?_)
                        refine lv_aload_n hx hb d_Prs_align_183 rfl (lv_at hl 5 rfl) ?_
                        refine lv_dup hx hb d_Prs_align_184 rfl ?_
                        refine q_get (C := R_Prs) (T := T_Prs) (N := 5) hx hb hts (fun w h => gm (inT_Prs w h)) hown hK hZ (34) (by decide) hPr.1 rfl 4 (by decide) (hts _ (gm k_86)) (fun _ h9 => h9) rfl d_Prs_align_185 ?_
                        refine lv_iconst (v := (nI 1)) hx hb d_Prs_align_188 rfl ?_
                        refine lv_iadd hx hb d_Prs_align_189 ?_
                        refine q_topi (y := nI (d + 1)) (nI_add _ _) ?_
                        refine q_put (C := R_Prs) (T := T_Prs) (N := 5) (ty := .int) (v := .int (nI (d + 1))) hx hb hts (fun w h => gm (inT_Prs w h)) ty_Prs tyo_Prs nm_Prs hown hK hZ (34) (by decide) hPr.1 rfl 4 (by decide) (hts _ (gm k_86)) (fun _ h9 => h9) rfl (by decide +kernel) (rfl) (rfl) (Nat.le_of_ble_eq_true rfl) d_Prs_align_190 (fun H locs hZ => ?_)
                        have hPr := hPr.upC (c' := (d + 1)) (by omega)
                        have hA := hA.off (x := 34) (e := .inr (1, [.ref (ad 35), .ref (ad 36), .ref (ad 37), .ref (ad 38), .int (nI (d + 1))])) (by have := bb_r hka; omega)
                        have hB := hB.off (x := 34) (e := .inr (1, [.ref (ad 35), .ref (ad 36), .ref (ad 37), .ref (ad 38), .int (nI (d + 1))])) (by have := bb_r hkb; omega)
                        have hfr := fr_up (x := 34) (e := .inr (1, [.ref (ad 35), .ref (ad 36), .ref (ad 37), .ref (ad 38), .int (nI (d + 1))])) hfr (by omega) (by omega)
                        have hZ : sZ (dC, dI) vCl 52 ad (fun q => N0 ≤ q) s.heap (va_up w22 34 (.inr (1, [.ref (ad 35), .ref (ad 36), .ref (ad 37), .ref (ad 38), .int (nI (d + 1))]))) H locs := hZ
                        generalize va_up w22 34 (.inr (1, [.ref (ad 35), .ref (ad 36), .ref (ad 37), .ref (ad 38), .int (nI (d + 1))])) = w23 at hZ hPr hfr hA hB
                        refine lv_goto (tgt := 10) hx hb d_Prs_align_193 (by decide) ?_
                        have hlt : ∀ t, t < d → kk P N t < kv (Pa i) (Na i) := fun t ht => (hM.2.2.2.1 t ht).1 hiz
                        have hM := mG_step (i' := i + 1) (j' := j + 0) (lv := Aa i) (rv := 0) hM hlt (hCa.2.2.2 i hiz) (mG_no hCb.2.1 hCb.2.2.1 hM.2.2.2.2.2 hlt hjk).symm (Or.inr ⟨rfl, hiz, rfl⟩) (Or.inl rfl) (by omega) (fun y => hCa.2.1 i (i + 1) (by omega) y) (fun y => hjk y)
                        exact ih10 (i + 1) (j + 0) (d + 1) _ _ _ _ w23 _ _ _ (by omega) hA hB hPr hfr hM hZ (lv_sub hl [1, 0, 5, 6, 7] rfl)
                      · skip
                        exact absurd hrs h172
                  · skip
                    exact absurd hrs h140
          · skip
            obtain ⟨hrs, hc⟩ := hc
            obtain ⟨hiz, hjz, heq⟩ := hc
            refine lv_istore (lv' := [(5, .int r), (3, .int (nI i)), (4, .int (nI j)), (0, .ref (ad 34)), (1, .ref (ad (bb ka))), (2, .ref (ad (bb kb)))]) hx hb d_Prs_align_45 hl (by decide) rfl (fun ls hl => ?_)
            refine lv_iload hx hb d_Prs_align_47 (lv_at hl 0 rfl) ?_
            refine lv_if_gt (tgt := 56) hx hb d_Prs_align_49 (by decide) (fun h49 => ?_) (fun h49 => ?_)
            · skip
              exact absurd h49 (i32_n0g hrs)
            · skip
              refine lv_aload_n hx hb d_Prs_align_52 rfl (lv_at hl 4 rfl) ?_
              refine lv_goto (tgt := 57) hx hb d_Prs_align_53 (by decide) ?_
              refine lv_astore (lv' := [(6, .ref (ad (bb ka))), (5, .int r), (3, .int (nI i)), (4, .int (nI j)), (0, .ref (ad 34)), (1, .ref (ad (bb ka))), (2, .ref (ad (bb kb)))]) hx hb d_Prs_align_57 hl (by decide) rfl (fun ls hl => ?_)
              refine lv_iload hx hb d_Prs_align_59 (lv_at hl 1 rfl) ?_
              refine lv_if_gt (tgt := 68) hx hb d_Prs_align_61 (by decide) (fun h61 => ?_) (fun h61 => ?_)
              · skip
                exact absurd h61 (i32_n0g hrs)
              · skip
                refine lv_iload_n hx hb d_Prs_align_64 rfl (lv_at hl 2 rfl) ?_
                refine lv_goto (tgt := 70) hx hb d_Prs_align_65 (by decide) ?_
                refine lv_istore (lv' := [(7, .int (nI i)), (6, .ref (ad (bb ka))), (5, .int r), (3, .int (nI i)), (4, .int (nI j)), (0, .ref (ad 34)), (1, .ref (ad (bb ka))), (2, .ref (ad (bb kb)))]) hx hb d_Prs_align_70 hl (by decide) rfl (fun ls hl => ?_)
                refine lv_aload_n hx hb d_Prs_align_72 rfl (lv_at hl 5 rfl) ?_
                refine q_get (C := R_Prs) (T := T_Prs) (N := 5) hx hb hts (fun w h => gm (inT_Prs w h)) hown hK hZ (34) (by decide) hPr.1 rfl 0 (by decide) (hts _ (gm k_78)) (fun _ h9 => h9) rfl d_Prs_align_73 ?_
                refine lv_aload_n hx hb d_Prs_align_76 rfl (lv_at hl 5 rfl) ?_
                refine q_get (C := R_Prs) (T := T_Prs) (N := 5) hx hb hts (fun w h => gm (inT_Prs w h)) hown hK hZ (34) (by decide) hPr.1 rfl 4 (by decide) (hts _ (gm k_86)) (fun _ h9 => h9) rfl d_Prs_align_77 ?_
                refine lv_aload hx hb d_Prs_align_80 (lv_at hl 1 rfl) ?_
                refine q_get (C := R_Bag) (T := T_Bag) (N := 4) hx hb hts (fun w h => gm (inT_Bag w h)) hown hK hZ (bb ka) (by have := bb_r hka; omega) hA.1 rfl 0 (by decide) (hts _ (gm k_50)) (fun _ h9 => h9) rfl d_Prs_align_82 ?_
                refine lv_iload hx hb d_Prs_align_85 (lv_at hl 0 rfl) ?_
                refine q_iald hx hb hK hZ (bb ka + 1) 0 (i) (by have := bb_r hka; omega) hA.2.1 rfl rfl (by omega) (by decide) d_Prs_align_87 ?_
                refine q_iast hx hb hK hZ (35) 0 (d) (by decide) hPr.2.1 rfl rfl (by omega) (by decide) d_Prs_align_88 (fun H locs hZ => ?_)
                have hPr := hPr.upP ((upd P d (Pa i)))
                have hA := hA.off (x := 35) (e := .inl (cI, 128, .inl (upd P d (Pa i)))) (by have := bb_r hka; omega)
                have hB := hB.off (x := 35) (e := .inl (cI, 128, .inl (upd P d (Pa i)))) (by have := bb_r hkb; omega)
                have hfr := fr_up (x := 35) (e := .inl (cI, 128, .inl (upd P d (Pa i)))) hfr (by omega) (by omega)
                have hZ : sZ (dC, dI) vCl 52 ad (fun q => N0 ≤ q) s.heap (va_up u 35 (.inl (cI, 128, .inl (upd P d (Pa i))))) H locs := hZ
                generalize va_up u 35 (.inl (cI, 128, .inl (upd P d (Pa i)))) = w24 at hZ hPr hfr hA hB
                refine lv_aload_n hx hb d_Prs_align_89 rfl (lv_at hl 5 rfl) ?_
                refine q_get (C := R_Prs) (T := T_Prs) (N := 5) hx hb hts (fun w h => gm (inT_Prs w h)) hown hK hZ (34) (by decide) hPr.1 rfl 1 (by decide) (hts _ (gm k_80)) (fun _ h9 => h9) rfl d_Prs_align_90 ?_
                refine lv_aload_n hx hb d_Prs_align_93 rfl (lv_at hl 5 rfl) ?_
                refine q_get (C := R_Prs) (T := T_Prs) (N := 5) hx hb hts (fun w h => gm (inT_Prs w h)) hown hK hZ (34) (by decide) hPr.1 rfl 4 (by decide) (hts _ (gm k_86)) (fun _ h9 => h9) rfl d_Prs_align_94 ?_
                refine lv_aload hx hb d_Prs_align_97 (lv_at hl 1 rfl) ?_
                refine q_get (C := R_Bag) (T := T_Bag) (N := 4) hx hb hts (fun w h => gm (inT_Bag w h)) hown hK hZ (bb ka) (by have := bb_r hka; omega) hA.1 rfl 1 (by decide) (hts _ (gm k_53)) (fun _ h9 => h9) rfl d_Prs_align_99 ?_
                refine lv_iload hx hb d_Prs_align_102 (lv_at hl 0 rfl) ?_
                refine q_lald hx hb hK hZ (bb ka + 2) 1 (i) (by have := bb_r hka; omega) hA.2.2.1 rfl rfl (by omega) (by decide) d_Prs_align_104 ?_
                refine q_last hx hb hK hZ (36) 1 (d) (by decide) hPr.2.2.1 rfl rfl (by omega) (by decide) d_Prs_align_105 (fun H locs hZ => ?_)
                have hPr := hPr.upN ((vp_updL N d (Na i)))
                have hA := hA.off (x := 36) (e := .inl (cL, 128, .inr (.inl (vp_updL N d (Na i))))) (by have := bb_r hka; omega)
                have hB := hB.off (x := 36) (e := .inl (cL, 128, .inr (.inl (vp_updL N d (Na i))))) (by have := bb_r hkb; omega)
                have hfr := fr_up (x := 36) (e := .inl (cL, 128, .inr (.inl (vp_updL N d (Na i))))) hfr (by omega) (by omega)
                have hZ : sZ (dC, dI) vCl 52 ad (fun q => N0 ≤ q) s.heap (va_up w24 36 (.inl (cL, 128, .inr (.inl (vp_updL N d (Na i)))))) H locs := hZ
                generalize va_up w24 36 (.inl (cL, 128, .inr (.inl (vp_updL N d (Na i))))) = w25 at hZ hPr hfr hA hB
                refine lv_aload_n hx hb d_Prs_align_106 rfl (lv_at hl 5 rfl) ?_
                refine q_get (C := R_Prs) (T := T_Prs) (N := 5) hx hb hts (fun w h => gm (inT_Prs w h)) hown hK hZ (34) (by decide) hPr.1 rfl 2 (by decide) (hts _ (gm k_82)) (fun _ h9 => h9) rfl d_Prs_align_107 ?_
                refine lv_aload_n hx hb d_Prs_align_110 rfl (lv_at hl 5 rfl) ?_
                refine q_get (C := R_Prs) (T := T_Prs) (N := 5) hx hb hts (fun w h => gm (inT_Prs w h)) hown hK hZ (34) (by decide) hPr.1 rfl 4 (by decide) (hts _ (gm k_86)) (fun _ h9 => h9) rfl d_Prs_align_111 ?_
                refine lv_iload hx hb d_Prs_align_114 (lv_at hl 2 rfl) ?_
                refine lv_if_gt (tgt := 128) hx hb d_Prs_align_116 (by decide) (fun h116 => ?_) (fun h116 => ?_)
                · skip
                  exact absurd h116 (i32_n0g hrs)
                · skip
                  refine lv_aload_n hx hb d_Prs_align_119 rfl (lv_at hl 6 rfl) ?_
                  refine q_get (C := R_Bag) (T := T_Bag) (N := 4) hx hb hts (fun w h => gm (inT_Bag w h)) hown hK hZ (bb ka) (by have := bb_r hka; omega) hA.1 rfl 2 (by decide) (hts _ (gm k_56)) (fun _ h9 => h9) rfl d_Prs_align_120 ?_
                  refine lv_iload_n hx hb d_Prs_align_123 rfl (lv_at hl 3 rfl) ?_
                  refine q_lald hx hb hK hZ (bb ka + 3) 1 (i) (by have := bb_r hka; omega) hA.2.2.2.1 rfl rfl (by omega) (by decide) d_Prs_align_124 ?_
                  refine lv_goto (tgt := 129) hx hb d_Prs_align_125 (by decide) ?_
                  refine q_last hx hb hK hZ (37) 1 (d) (by decide) hPr.2.2.2.1 rfl rfl (by omega) (by decide) d_Prs_align_129 (fun H locs hZ => ?_)
                  have hPr := hPr.upL ((vp_updL L d (Aa i)))
                  have hA := hA.off (x := 37) (e := .inl (cL, 128, .inr (.inl (vp_updL L d (Aa i))))) (by have := bb_r hka; omega)
                  have hB := hB.off (x := 37) (e := .inl (cL, 128, .inr (.inl (vp_updL L d (Aa i))))) (by have := bb_r hkb; omega)
                  have hfr := fr_up (x := 37) (e := .inl (cL, 128, .inr (.inl (vp_updL L d (Aa i))))) hfr (by omega) (by omega)
                  have hZ : sZ (dC, dI) vCl 52 ad (fun q => N0 ≤ q) s.heap (va_up w25 37 (.inl (cL, 128, .inr (.inl (vp_updL L d (Aa i)))))) H locs := hZ
                  generalize va_up w25 37 (.inl (cL, 128, .inr (.inl (vp_updL L d (Aa i))))) = w26 at hZ hPr hfr hA hB
                  refine lv_aload_n hx hb d_Prs_align_130 rfl (lv_at hl 5 rfl) ?_
                  refine q_get (C := R_Prs) (T := T_Prs) (N := 5) hx hb hts (fun w h => gm (inT_Prs w h)) hown hK hZ (34) (by decide) hPr.1 rfl 3 (by decide) (hts _ (gm k_84)) (fun _ h9 => h9) rfl d_Prs_align_131 ?_
                  refine lv_aload_n hx hb d_Prs_align_134 rfl (lv_at hl 5 rfl) ?_
                  refine q_get (C := R_Prs) (T := T_Prs) (N := 5) hx hb hts (fun w h => gm (inT_Prs w h)) hown hK hZ (34) (by decide) hPr.1 rfl 4 (by decide) (hts _ (gm k_86)) (fun _ h9 => h9) rfl d_Prs_align_135 ?_
                  refine lv_iload hx hb d_Prs_align_138 (lv_at hl 2 rfl) ?_
                  refine lv_if_lt (tgt := 153) hx hb d_Prs_align_140 (by decide) (fun h140 => ?_) (fun h140 => ?_)
                  · skip
                    exact absurd h140 (i32_n0l hrs)
                  · skip
                    refine lv_aload_n hx hb d_Prs_align_143 rfl (lv_at hl 7 rfl) ?_
                    refine q_get (C := R_Bag) (T := T_Bag) (N := 4) hx hb hts (fun w h => gm (inT_Bag w h)) hown hK hZ (bb kb) (by have := bb_r hkb; omega) hB.1 rfl 2 (by decide) (hts _ (gm k_56)) (fun _ h9 => h9) rfl d_Prs_align_144 ?_
                    refine lv_iload hx hb d_Prs_align_147 (lv_at hl 4 rfl) ?_
                    refine q_lald hx hb hK hZ (bb kb + 3) 1 (j) (by have := bb_r hkb; omega) hB.2.2.2.1 rfl rfl (by omega) (by decide) d_Prs_align_149 ?_
                    refine lv_goto (tgt := 154) hx hb d_Prs_align_150 (by decide) ?_
                    refine q_last hx hb hK hZ (38) 1 (d) (by decide) hPr.2.2.2.2.1 rfl rfl (by omega) (by decide) d_Prs_align_154 (fun H locs hZ => ?_)
                    have hPr := hPr.upR ((vp_updL R d (Ab j)))
                    have hA := hA.off (x := 38) (e := .inl (cL, 128, .inr (.inl (vp_updL R d (Ab j))))) (by have := bb_r hka; omega)
                    have hB := hB.off (x := 38) (e := .inl (cL, 128, .inr (.inl (vp_updL R d (Ab j))))) (by have := bb_r hkb; omega)
                    have hfr := fr_up (x := 38) (e := .inl (cL, 128, .inr (.inl (vp_updL R d (Ab j))))) hfr (by omega) (by omega)
                    have hZ : sZ (dC, dI) vCl 52 ad (fun q => N0 ≤ q) s.heap (va_up w26 38 (.inl (cL, 128, .inr (.inl (vp_updL R d (Ab j)))))) H locs := hZ
                    generalize va_up w26 38 (.inl (cL, 128, .inr (.inl (vp_updL R d (Ab j))))) = w27 at hZ hPr hfr hA hB
                    refine lv_iload_n hx hb d_Prs_align_155 rfl (lv_at hl 3 rfl) ?_
                    refine lv_iload hx hb d_Prs_align_156 (lv_at hl 2 rfl) ?_
                    refine lv_if_gt (tgt := 165) hx hb d_Prs_align_158 (by decide) (fun h158 => ?_) (fun h158 => ?_)
                    · skip
                      exact absurd h158 (i32_n0g hrs)
                    · skip
                      refine lv_iconst (v := (nI 1)) hx hb d_Prs_align_161 rfl ?_
                      refine lv_goto (tgt := 166) hx hb d_Prs_align_162 (by decide) ?_
                      refine lv_iadd hx hb d_Prs_align_166 ?_
                      refine q_topi (y := nI (i + 1)) (nI_add _ _) ?_
                      refine lv_istore_n (lv' := [(3, .int (nI (i + 1))), (7, .int (nI i)), (6, .ref (ad (bb ka))), (5, .int r), (4, .int (nI j)), (0, .ref (ad 34)), (1, .ref (ad (bb ka))), (2, .ref (ad (bb kb)))]) hx hb d_Prs_align_167 rfl hl (by decide) rfl (fun ls hl => ?_)
                      refine lv_iload hx hb d_Prs_align_168 (lv_at hl 4 rfl) ?_
                      refine lv_iload hx hb d_Prs_align_170 (lv_at hl 3 rfl) ?_
                      refine lv_if_lt (tgt := 179) hx hb d_Prs_align_172 (by decide) (fun h172 => ?_) (fun h172 => ?_)
                      · skip
                        exact absurd h172 (i32_n0l hrs)
                      · skip
                        refine lv_iconst (v := (nI 1)) hx hb d_Prs_align_175 rfl ?_
                        refine lv_goto (tgt := 180) hx hb d_Prs_align_176 (by decide) ?_
                        refine lv_iadd hx hb d_Prs_align_180 ?_
                        refine q_topi (y := nI (j + 1)) (nI_add _ _) ?_
                        refine lv_istore (lv' := [(4, .int (nI (j + 1))), (3, .int (nI (i + 1))), (7, .int (nI i)), (6, .ref (ad (bb ka))), (5, .int r), (0, .ref (ad 34)), (1, .ref (ad (bb ka))), (2, .ref (ad (bb kb)))]) hx hb d_Prs_align_181 hl (by decide) rfl (fun ls hl => ?_)
                        refine lv_aload_n hx hb d_Prs_align_183 rfl (lv_at hl 5 rfl) ?_
                        refine lv_dup hx hb d_Prs_align_184 rfl ?_
                        refine q_get (C := R_Prs) (T := T_Prs) (N := 5) hx hb hts (fun w h => gm (inT_Prs w h)) hown hK hZ (34) (by decide) hPr.1 rfl 4 (by decide) (hts _ (gm k_86)) (fun _ h9 => h9) rfl d_Prs_align_185 ?_
                        refine lv_iconst (v := (nI 1)) hx hb d_Prs_align_188 rfl ?_
                        refine lv_iadd hx hb d_Prs_align_189 ?_
                        refine q_topi (y := nI (d + 1)) (nI_add _ _) ?_
                        refine q_put (C := R_Prs) (T := T_Prs) (N := 5) (ty := .int) (v := .int (nI (d + 1))) hx hb hts (fun w h => gm (inT_Prs w h)) ty_Prs tyo_Prs nm_Prs hown hK hZ (34) (by decide) hPr.1 rfl 4 (by decide) (hts _ (gm k_86)) (fun _ h9 => h9) rfl (by decide +kernel) (rfl) (rfl) (Nat.le_of_ble_eq_true rfl) d_Prs_align_190 (fun H locs hZ => ?_)
                        have hPr := hPr.upC (c' := (d + 1)) (by omega)
                        have hA := hA.off (x := 34) (e := .inr (1, [.ref (ad 35), .ref (ad 36), .ref (ad 37), .ref (ad 38), .int (nI (d + 1))])) (by have := bb_r hka; omega)
                        have hB := hB.off (x := 34) (e := .inr (1, [.ref (ad 35), .ref (ad 36), .ref (ad 37), .ref (ad 38), .int (nI (d + 1))])) (by have := bb_r hkb; omega)
                        have hfr := fr_up (x := 34) (e := .inr (1, [.ref (ad 35), .ref (ad 36), .ref (ad 37), .ref (ad 38), .int (nI (d + 1))])) hfr (by omega) (by omega)
                        have hZ : sZ (dC, dI) vCl 52 ad (fun q => N0 ≤ q) s.heap (va_up w27 34 (.inr (1, [.ref (ad 35), .ref (ad 36), .ref (ad 37), .ref (ad 38), .int (nI (d + 1))]))) H locs := hZ
                        generalize va_up w27 34 (.inr (1, [.ref (ad 35), .ref (ad 36), .ref (ad 37), .ref (ad 38), .int (nI (d + 1))])) = w28 at hZ hPr hfr hA hB
                        refine lv_goto (tgt := 10) hx hb d_Prs_align_193 (by decide) ?_
                        have hlt : ∀ t, t < d → kk P N t < kv (Pa i) (Na i) := fun t ht => (hM.2.2.2.1 t ht).1 hiz
                        have hM := mG_step (i' := i + 1) (j' := j + 1) (lv := Aa i) (rv := Ab j) hM hlt (hCa.2.2.2 i hiz) (by rw [hCb.2.2.2 j hjz, ← heq]; rfl) (Or.inr ⟨rfl, hiz, rfl⟩) (Or.inr ⟨rfl, hjz, heq.symm⟩) (by omega) (fun y => hCa.2.1 i (i + 1) (by omega) y) (fun y => by have h9 := hCb.2.1 j (j + 1) (by omega) y; rw [← heq] at h9; exact h9)
                        exact ih10 (i + 1) (j + 1) (d + 1) _ _ _ _ w28 _ _ _ (by omega) hA hB hPr hfr hM hZ (lv_sub hl [1, 0, 5, 6, 7] rfl)
          · skip
            obtain ⟨hrs, hc⟩ := hc
            obtain ⟨hjz, hik⟩ := hc
            refine lv_istore (lv' := [(5, .int r), (3, .int (nI i)), (4, .int (nI j)), (0, .ref (ad 34)), (1, .ref (ad (bb ka))), (2, .ref (ad (bb kb)))]) hx hb d_Prs_align_45 hl (by decide) rfl (fun ls hl => ?_)
            refine lv_iload hx hb d_Prs_align_47 (lv_at hl 0 rfl) ?_
            refine lv_if_gt (tgt := 56) hx hb d_Prs_align_49 (by decide) (fun h49 => ?_) (fun h49 => ?_)
            · skip
              refine lv_aload_n hx hb d_Prs_align_56 rfl (lv_at hl 5 rfl) ?_
              refine lv_astore (lv' := [(6, .ref (ad (bb kb))), (5, .int r), (3, .int (nI i)), (4, .int (nI j)), (0, .ref (ad 34)), (1, .ref (ad (bb ka))), (2, .ref (ad (bb kb)))]) hx hb d_Prs_align_57 hl (by decide) rfl (fun ls hl => ?_)
              refine lv_iload hx hb d_Prs_align_59 (lv_at hl 1 rfl) ?_
              refine lv_if_gt (tgt := 68) hx hb d_Prs_align_61 (by decide) (fun h61 => ?_) (fun h61 => ?_)
              · skip
                refine lv_iload hx hb d_Prs_align_68 (lv_at hl 3 rfl) ?_
                refine lv_istore (lv' := [(7, .int (nI j)), (6, .ref (ad (bb kb))), (5, .int r), (3, .int (nI i)), (4, .int (nI j)), (0, .ref (ad 34)), (1, .ref (ad (bb ka))), (2, .ref (ad (bb kb)))]) hx hb d_Prs_align_70 hl (by decide) rfl (fun ls hl => ?_)
                refine lv_aload_n hx hb d_Prs_align_72 rfl (lv_at hl 5 rfl) ?_
                refine q_get (C := R_Prs) (T := T_Prs) (N := 5) hx hb hts (fun w h => gm (inT_Prs w h)) hown hK hZ (34) (by decide) hPr.1 rfl 0 (by decide) (hts _ (gm k_78)) (fun _ h9 => h9) rfl d_Prs_align_73 ?_
                refine lv_aload_n hx hb d_Prs_align_76 rfl (lv_at hl 5 rfl) ?_
                refine q_get (C := R_Prs) (T := T_Prs) (N := 5) hx hb hts (fun w h => gm (inT_Prs w h)) hown hK hZ (34) (by decide) hPr.1 rfl 4 (by decide) (hts _ (gm k_86)) (fun _ h9 => h9) rfl d_Prs_align_77 ?_
                refine lv_aload hx hb d_Prs_align_80 (lv_at hl 1 rfl) ?_
                refine q_get (C := R_Bag) (T := T_Bag) (N := 4) hx hb hts (fun w h => gm (inT_Bag w h)) hown hK hZ (bb kb) (by have := bb_r hkb; omega) hB.1 rfl 0 (by decide) (hts _ (gm k_50)) (fun _ h9 => h9) rfl d_Prs_align_82 ?_
                refine lv_iload hx hb d_Prs_align_85 (lv_at hl 0 rfl) ?_
                refine q_iald hx hb hK hZ (bb kb + 1) 0 (j) (by have := bb_r hkb; omega) hB.2.1 rfl rfl (by omega) (by decide) d_Prs_align_87 ?_
                refine q_iast hx hb hK hZ (35) 0 (d) (by decide) hPr.2.1 rfl rfl (by omega) (by decide) d_Prs_align_88 (fun H locs hZ => ?_)
                have hPr := hPr.upP ((upd P d (Pb j)))
                have hA := hA.off (x := 35) (e := .inl (cI, 128, .inl (upd P d (Pb j)))) (by have := bb_r hka; omega)
                have hB := hB.off (x := 35) (e := .inl (cI, 128, .inl (upd P d (Pb j)))) (by have := bb_r hkb; omega)
                have hfr := fr_up (x := 35) (e := .inl (cI, 128, .inl (upd P d (Pb j)))) hfr (by omega) (by omega)
                have hZ : sZ (dC, dI) vCl 52 ad (fun q => N0 ≤ q) s.heap (va_up u 35 (.inl (cI, 128, .inl (upd P d (Pb j))))) H locs := hZ
                generalize va_up u 35 (.inl (cI, 128, .inl (upd P d (Pb j)))) = w29 at hZ hPr hfr hA hB
                refine lv_aload_n hx hb d_Prs_align_89 rfl (lv_at hl 5 rfl) ?_
                refine q_get (C := R_Prs) (T := T_Prs) (N := 5) hx hb hts (fun w h => gm (inT_Prs w h)) hown hK hZ (34) (by decide) hPr.1 rfl 1 (by decide) (hts _ (gm k_80)) (fun _ h9 => h9) rfl d_Prs_align_90 ?_
                refine lv_aload_n hx hb d_Prs_align_93 rfl (lv_at hl 5 rfl) ?_
                refine q_get (C := R_Prs) (T := T_Prs) (N := 5) hx hb hts (fun w h => gm (inT_Prs w h)) hown hK hZ (34) (by decide) hPr.1 rfl 4 (by decide) (hts _ (gm k_86)) (fun _ h9 => h9) rfl d_Prs_align_94 ?_
                refine lv_aload hx hb d_Prs_align_97 (lv_at hl 1 rfl) ?_
                refine q_get (C := R_Bag) (T := T_Bag) (N := 4) hx hb hts (fun w h => gm (inT_Bag w h)) hown hK hZ (bb kb) (by have := bb_r hkb; omega) hB.1 rfl 1 (by decide) (hts _ (gm k_53)) (fun _ h9 => h9) rfl d_Prs_align_99 ?_
                refine lv_iload hx hb d_Prs_align_102 (lv_at hl 0 rfl) ?_
                refine q_lald hx hb hK hZ (bb kb + 2) 1 (j) (by have := bb_r hkb; omega) hB.2.2.1 rfl rfl (by omega) (by decide) d_Prs_align_104 ?_
                refine q_last hx hb hK hZ (36) 1 (d) (by decide) hPr.2.2.1 rfl rfl (by omega) (by decide) d_Prs_align_105 (fun H locs hZ => ?_)
                have hPr := hPr.upN ((vp_updL N d (Nb j)))
                have hA := hA.off (x := 36) (e := .inl (cL, 128, .inr (.inl (vp_updL N d (Nb j))))) (by have := bb_r hka; omega)
                have hB := hB.off (x := 36) (e := .inl (cL, 128, .inr (.inl (vp_updL N d (Nb j))))) (by have := bb_r hkb; omega)
                have hfr := fr_up (x := 36) (e := .inl (cL, 128, .inr (.inl (vp_updL N d (Nb j))))) hfr (by omega) (by omega)
                have hZ : sZ (dC, dI) vCl 52 ad (fun q => N0 ≤ q) s.heap (va_up w29 36 (.inl (cL, 128, .inr (.inl (vp_updL N d (Nb j)))))) H locs := hZ
                generalize va_up w29 36 (.inl (cL, 128, .inr (.inl (vp_updL N d (Nb j))))) = w30 at hZ hPr hfr hA hB
                refine lv_aload_n hx hb d_Prs_align_106 rfl (lv_at hl 5 rfl) ?_
                refine q_get (C := R_Prs) (T := T_Prs) (N := 5) hx hb hts (fun w h => gm (inT_Prs w h)) hown hK hZ (34) (by decide) hPr.1 rfl 2 (by decide) (hts _ (gm k_82)) (fun _ h9 => h9) rfl d_Prs_align_107 ?_
                refine lv_aload_n hx hb d_Prs_align_110 rfl (lv_at hl 5 rfl) ?_
                refine q_get (C := R_Prs) (T := T_Prs) (N := 5) hx hb hts (fun w h => gm (inT_Prs w h)) hown hK hZ (34) (by decide) hPr.1 rfl 4 (by decide) (hts _ (gm k_86)) (fun _ h9 => h9) rfl d_Prs_align_111 ?_
                refine lv_iload hx hb d_Prs_align_114 (lv_at hl 2 rfl) ?_
                refine lv_if_gt (tgt := 128) hx hb d_Prs_align_116 (by decide) (fun h116 => ?_) (fun h116 => ?_)
                · skip
                  refine lv_lconst (v := 0) hx hb d_Prs_align_128 rfl ?_
                  refine q_last hx hb hK hZ (37) 1 (d) (by decide) hPr.2.2.2.1 rfl rfl (by omega) (by decide) d_Prs_align_129 (fun H locs hZ => ?_)
                  have hPr := hPr.upL ((vp_updL L d 0))
                  have hA := hA.off (x := 37) (e := .inl (cL, 128, .inr (.inl (vp_updL L d 0)))) (by have := bb_r hka; omega)
                  have hB := hB.off (x := 37) (e := .inl (cL, 128, .inr (.inl (vp_updL L d 0)))) (by have := bb_r hkb; omega)
                  have hfr := fr_up (x := 37) (e := .inl (cL, 128, .inr (.inl (vp_updL L d 0)))) hfr (by omega) (by omega)
                  have hZ : sZ (dC, dI) vCl 52 ad (fun q => N0 ≤ q) s.heap (va_up w30 37 (.inl (cL, 128, .inr (.inl (vp_updL L d 0))))) H locs := hZ
                  generalize va_up w30 37 (.inl (cL, 128, .inr (.inl (vp_updL L d 0)))) = w31 at hZ hPr hfr hA hB
                  refine lv_aload_n hx hb d_Prs_align_130 rfl (lv_at hl 5 rfl) ?_
                  refine q_get (C := R_Prs) (T := T_Prs) (N := 5) hx hb hts (fun w h => gm (inT_Prs w h)) hown hK hZ (34) (by decide) hPr.1 rfl 3 (by decide) (hts _ (gm k_84)) (fun _ h9 => h9) rfl d_Prs_align_131 ?_
                  refine lv_aload_n hx hb d_Prs_align_134 rfl (lv_at hl 5 rfl) ?_
                  refine q_get (C := R_Prs) (T := T_Prs) (N := 5) hx hb hts (fun w h => gm (inT_Prs w h)) hown hK hZ (34) (by decide) hPr.1 rfl 4 (by decide) (hts _ (gm k_86)) (fun _ h9 => h9) rfl d_Prs_align_135 ?_
                  refine lv_iload hx hb d_Prs_align_138 (lv_at hl 2 rfl) ?_
                  refine lv_if_lt (tgt := 153) hx hb d_Prs_align_140 (by decide) (fun h140 => ?_) (fun h140 => ?_)
                  · skip
                    exact absurd h140 (i32_nl hrs)
                  · skip
                    refine lv_aload_n hx hb d_Prs_align_143 rfl (lv_at hl 7 rfl) ?_
                    refine q_get (C := R_Bag) (T := T_Bag) (N := 4) hx hb hts (fun w h => gm (inT_Bag w h)) hown hK hZ (bb kb) (by have := bb_r hkb; omega) hB.1 rfl 2 (by decide) (hts _ (gm k_56)) (fun _ h9 => h9) rfl d_Prs_align_144 ?_
                    refine lv_iload hx hb d_Prs_align_147 (lv_at hl 4 rfl) ?_
                    refine q_lald hx hb hK hZ (bb kb + 3) 1 (j) (by have := bb_r hkb; omega) hB.2.2.2.1 rfl rfl (by omega) (by decide) d_Prs_align_149 ?_
                    refine lv_goto (tgt := 154) hx hb d_Prs_align_150 (by decide) ?_
                    refine q_last hx hb hK hZ (38) 1 (d) (by decide) hPr.2.2.2.2.1 rfl rfl (by omega) (by decide) d_Prs_align_154 (fun H locs hZ => ?_)
                    have hPr := hPr.upR ((vp_updL R d (Ab j)))
                    have hA := hA.off (x := 38) (e := .inl (cL, 128, .inr (.inl (vp_updL R d (Ab j))))) (by have := bb_r hka; omega)
                    have hB := hB.off (x := 38) (e := .inl (cL, 128, .inr (.inl (vp_updL R d (Ab j))))) (by have := bb_r hkb; omega)
                    have hfr := fr_up (x := 38) (e := .inl (cL, 128, .inr (.inl (vp_updL R d (Ab j))))) hfr (by omega) (by omega)
                    have hZ : sZ (dC, dI) vCl 52 ad (fun q => N0 ≤ q) s.heap (va_up w31 38 (.inl (cL, 128, .inr (.inl (vp_updL R d (Ab j)))))) H locs := hZ
                    generalize va_up w31 38 (.inl (cL, 128, .inr (.inl (vp_updL R d (Ab j))))) = w32 at hZ hPr hfr hA hB
                    refine lv_iload_n hx hb d_Prs_align_155 rfl (lv_at hl 3 rfl) ?_
                    refine lv_iload hx hb d_Prs_align_156 (lv_at hl 2 rfl) ?_
                    refine lv_if_gt (tgt := 165) hx hb d_Prs_align_158 (by decide) (fun h158 => ?_) (fun h158 => ?_)
                    · skip
                      refine lv_iconst (v := (nI 0)) hx hb d_Prs_align_165 rfl ?_
                      refine lv_iadd hx hb d_Prs_align_166 ?_
                      refine q_topi (y := nI (i + 0)) (nI_add _ _) ?_
                      refine lv_istore_n (lv' := [(3, .int (nI (i + 0))), (7, .int (nI j)), (6, .ref (ad (bb kb))), (5, .int r), (4, .int (nI j)), (0, .ref (ad 34)), (1, .ref (ad (bb ka))), (2, .ref (ad (bb kb)))]) hx hb d_Prs_align_167 rfl hl (by decide) rfl (fun ls hl => ?_)
                      refine lv_iload hx hb d_Prs_align_168 (lv_at hl 4 rfl) ?_
                      refine lv_iload hx hb d_Prs_align_170 (lv_at hl 3 rfl) ?_
                      refine lv_if_lt (tgt := 179) hx hb d_Prs_align_172 (by decide) (fun h172 => ?_) (fun h172 => ?_)
                      · skip
                        exact absurd h172 (i32_nl hrs)
                      · skip
                        refine lv_iconst (v := (nI 1)) hx hb d_Prs_align_175 rfl ?_
                        refine lv_goto (tgt := 180) hx hb d_Prs_align_176 (by decide) ?_
                        refine lv_iadd hx hb d_Prs_align_180 ?_
                        refine q_topi (y := nI (j + 1)) (nI_add _ _) ?_
                        refine lv_istore (lv' := [(4, .int (nI (j + 1))), (3, .int (nI (i + 0))), (7, .int (nI j)), (6, .ref (ad (bb kb))), (5, .int r), (0, .ref (ad 34)), (1, .ref (ad (bb ka))), (2, .ref (ad (bb kb)))]) hx hb d_Prs_align_181 hl (by decide) rfl (fun ls hl => ?_)
                        refine lv_aload_n hx hb d_Prs_align_183 rfl (lv_at hl 5 rfl) ?_
                        refine lv_dup hx hb d_Prs_align_184 rfl ?_
                        refine q_get (C := R_Prs) (T := T_Prs) (N := 5) hx hb hts (fun w h => gm (inT_Prs w h)) hown hK hZ (34) (by decide) hPr.1 rfl 4 (by decide) (hts _ (gm k_86)) (fun _ h9 => h9) rfl d_Prs_align_185 ?_
                        refine lv_iconst (v := (nI 1)) hx hb d_Prs_align_188 rfl ?_
                        refine lv_iadd hx hb d_Prs_align_189 ?_
                        refine q_topi (y := nI (d + 1)) (nI_add _ _) ?_
                        refine q_put (C := R_Prs) (T := T_Prs) (N := 5) (ty := .int) (v := .int (nI (d + 1))) hx hb hts (fun w h => gm (inT_Prs w h)) ty_Prs tyo_Prs nm_Prs hown hK hZ (34) (by decide) hPr.1 rfl 4 (by decide) (hts _ (gm k_86)) (fun _ h9 => h9) rfl (by decide +kernel) (rfl) (rfl) (Nat.le_of_ble_eq_true rfl) d_Prs_align_190 (fun H locs hZ => ?_)
                        have hPr := hPr.upC (c' := (d + 1)) (by omega)
                        have hA := hA.off (x := 34) (e := .inr (1, [.ref (ad 35), .ref (ad 36), .ref (ad 37), .ref (ad 38), .int (nI (d + 1))])) (by have := bb_r hka; omega)
                        have hB := hB.off (x := 34) (e := .inr (1, [.ref (ad 35), .ref (ad 36), .ref (ad 37), .ref (ad 38), .int (nI (d + 1))])) (by have := bb_r hkb; omega)
                        have hfr := fr_up (x := 34) (e := .inr (1, [.ref (ad 35), .ref (ad 36), .ref (ad 37), .ref (ad 38), .int (nI (d + 1))])) hfr (by omega) (by omega)
                        have hZ : sZ (dC, dI) vCl 52 ad (fun q => N0 ≤ q) s.heap (va_up w32 34 (.inr (1, [.ref (ad 35), .ref (ad 36), .ref (ad 37), .ref (ad 38), .int (nI (d + 1))]))) H locs := hZ
                        generalize va_up w32 34 (.inr (1, [.ref (ad 35), .ref (ad 36), .ref (ad 37), .ref (ad 38), .int (nI (d + 1))])) = w33 at hZ hPr hfr hA hB
                        refine lv_goto (tgt := 10) hx hb d_Prs_align_193 (by decide) ?_
                        have hlt : ∀ t, t < d → kk P N t < kv (Pb j) (Nb j) := fun t ht => (hM.2.2.2.1 t ht).2 hjz
                        have hM := mG_step (i' := i + 0) (j' := j + 1) (lv := 0) (rv := Ab j) hM hlt (mG_no hCa.2.1 hCa.2.2.1 hM.2.2.2.2.1 hlt hik).symm (hCb.2.2.2 j hjz) (Or.inl rfl) (Or.inr ⟨rfl, hjz, rfl⟩) (by omega) (fun y => hik y) (fun y => hCb.2.1 j (j + 1) (by omega) y)
                        exact ih10 (i + 0) (j + 1) (d + 1) _ _ _ _ w33 _ _ _ (by omega) hA hB hPr hfr hM hZ (lv_sub hl [1, 0, 5, 6, 7] rfl)
                    · skip
                      exact absurd hrs h158
                · skip
                  exact absurd hrs h116
              · skip
                exact absurd hrs h61
            · skip
              exact absurd hrs h49
        · skip
          have h25 : za ≤ i := Nat.le_of_not_lt (fun z9 => h25 ((nI_ltI (a := i) (b := za) (by omega) (by omega)).mpr z9))
          refine lv_iload hx hb d_Prs_align_28 (lv_at hl 1 rfl) ?_
          refine lv_aload_n hx hb d_Prs_align_30 rfl (lv_at hl 4 rfl) ?_
          refine q_get (C := R_Bag) (T := T_Bag) (N := 4) hx hb hts (fun w h => gm (inT_Bag w h)) hown hK hZ (bb kb) (by have := bb_r hkb; omega) hB.1 rfl 3 (by decide) (hts _ (gm k_59)) (fun _ h9 => h9) rfl d_Prs_align_31 ?_
          refine lv_icmp_ge (tgt := 196) hx hb d_Prs_align_34 (by decide) (fun h34 => ?_) (fun h34 => ?_)
          · skip
            have h34 : zb ≤ j := (nI_leI (a := zb) (b := j) (by omega) (by omega)).mp h34
            exact q_vret hx hb hr hlocks hK hAm hZ hN (⟨hfr, d, _, _, _, _, hPr, mG_end hCa.2.2.1 hCb.2.2.1 (show mG za (kk Pa Na) Fa zb (kk Pb Nb) Fb za zb d _ _ _ _ from by have q1 := hM.1; have ei : i = za := (by omega); have ej : j = zb := (by omega); rw [ei, ej] at hM; exact hM)⟩) d_Prs_align_196
          · skip
            have h34 : j < zb := Nat.lt_of_not_le (fun z9 => h34 ((nI_leI (a := zb) (b := j) (by omega) (by omega)).mpr z9))
            refine lv_aload_n hx hb d_Prs_align_37 rfl (lv_at hl 3 rfl) ?_
            refine lv_iload_n hx hb d_Prs_align_38 rfl (lv_at hl 0 rfl) ?_
            refine lv_aload_n hx hb d_Prs_align_39 rfl (lv_at hl 4 rfl) ?_
            refine lv_iload hx hb d_Prs_align_40 (lv_at hl 1 rfl) ?_
            refine q_calli (va_runS (As := [.ref (ad (bb ka)), .int (nI i), .ref (ad (bb kb)), .int (nI j)]) (rest := []) ⟨hx, hb, hml, hown, hts⟩ (c_Prs_orderOfNext l dC dI cI cL cB ad N0 u ka za Pa Na Aa kb zb Pb Nb Ab i j hka hA hkb hB (by omega) (by omega)) (va_cwS 4 hts (gI_S k_277 k_275 k_276 k_23) rfl rfl rfl (by decide +kernel) ⟨Nat.le_of_ble_eq_true rfl, Nat.le_of_ble_eq_true rfl⟩) (q_pre hK hAm hZ hN [.ref (ad (bb ka)), .int (nI i), .ref (ad (bb kb)), .int (nI j)]) rfl rfl hl.1 rfl (lv_room (Nat.le_of_ble_eq_true rfl)) d_Prs_align_42 ⟨Nat.zero_le _, Nat.zero_le _⟩) hZ (fun r u_r H locs h_r hZ => ?_)
            obtain ⟨e_r, h_r⟩ := h_r
            rw [e_r] at hZ
            rcases al_cases h_r (by first | exact Or.inl h25 | exact Or.inr h34) with hc | hc | hc
            · skip
              obtain ⟨hrs, hc⟩ := hc
              obtain ⟨hiz, hjk⟩ := hc
              refine lv_istore (lv' := [(5, .int r), (3, .int (nI i)), (4, .int (nI j)), (0, .ref (ad 34)), (1, .ref (ad (bb ka))), (2, .ref (ad (bb kb)))]) hx hb d_Prs_align_45 hl (by decide) rfl (fun ls hl => ?_)
              refine lv_iload hx hb d_Prs_align_47 (lv_at hl 0 rfl) ?_
              refine lv_if_gt (tgt := 56) hx hb d_Prs_align_49 (by decide) (fun h49 => ?_) (fun h49 => ?_)
              · skip
                exact absurd h49 (i32_ng hrs)
              · skip
                refine lv_aload_n hx hb d_Prs_align_52 rfl (lv_at hl 4 rfl) ?_
                refine lv_goto (tgt := 57) hx hb d_Prs_align_53 (by decide) ?_
                refine lv_astore (lv' := [(6, .ref (ad (bb ka))), (5, .int r), (3, .int (nI i)), (4, .int (nI j)), (0, .ref (ad 34)), (1, .ref (ad (bb ka))), (2, .ref (ad (bb kb)))]) hx hb d_Prs_align_57 hl (by decide) rfl (fun ls hl => ?_)
                refine lv_iload hx hb d_Prs_align_59 (lv_at hl 1 rfl) ?_
                refine lv_if_gt (tgt := 68) hx hb d_Prs_align_61 (by decide) (fun h61 => ?_) (fun h61 => ?_)
                · skip
                  exact absurd h61 (i32_ng hrs)
                · skip
                  refine lv_iload_n hx hb d_Prs_align_64 rfl (lv_at hl 2 rfl) ?_
                  refine lv_goto (tgt := 70) hx hb d_Prs_align_65 (by decide) ?_
                  refine lv_istore (lv' := [(7, .int (nI i)), (6, .ref (ad (bb ka))), (5, .int r), (3, .int (nI i)), (4, .int (nI j)), (0, .ref (ad 34)), (1, .ref (ad (bb ka))), (2, .ref (ad (bb kb)))]) hx hb d_Prs_align_70 hl (by decide) rfl (fun ls hl => ?_)
                  refine lv_aload_n hx hb d_Prs_align_72 rfl (lv_at hl 5 rfl) ?_
                  refine q_get (C := R_Prs) (T := T_Prs) (N := 5) hx hb hts (fun w h => gm (inT_Prs w h)) hown hK hZ (34) (by decide) hPr.1 rfl 0 (by decide) (hts _ (gm k_78)) (fun _ h9 => h9) rfl d_Prs_align_73 ?_
                  refine lv_aload_n hx hb d_Prs_align_76 rfl (lv_at hl 5 rfl) ?_
                  refine q_get (C := R_Prs) (T := T_Prs) (N := 5) hx hb hts (fun w h => gm (inT_Prs w h)) hown hK hZ (34) (by decide) hPr.1 rfl 4 (by decide) (hts _ (gm k_86)) (fun _ h9 => h9) rfl d_Prs_align_77 ?_
                  refine lv_aload hx hb d_Prs_align_80 (lv_at hl 1 rfl) ?_
                  refine q_get (C := R_Bag) (T := T_Bag) (N := 4) hx hb hts (fun w h => gm (inT_Bag w h)) hown hK hZ (bb ka) (by have := bb_r hka; omega) hA.1 rfl 0 (by decide) (hts _ (gm k_50)) (fun _ h9 => h9) rfl d_Prs_align_82 ?_
                  refine lv_iload hx hb d_Prs_align_85 (lv_at hl 0 rfl) ?_
                  refine q_iald hx hb hK hZ (bb ka + 1) 0 (i) (by have := bb_r hka; omega) hA.2.1 rfl rfl (by omega) (by decide) d_Prs_align_87 ?_
                  refine q_iast hx hb hK hZ (35) 0 (d) (by decide) hPr.2.1 rfl rfl (by omega) (by decide) d_Prs_align_88 (fun H locs hZ => ?_)
                  have hPr := hPr.upP ((upd P d (Pa i)))
                  have hA := hA.off (x := 35) (e := .inl (cI, 128, .inl (upd P d (Pa i)))) (by have := bb_r hka; omega)
                  have hB := hB.off (x := 35) (e := .inl (cI, 128, .inl (upd P d (Pa i)))) (by have := bb_r hkb; omega)
                  have hfr := fr_up (x := 35) (e := .inl (cI, 128, .inl (upd P d (Pa i)))) hfr (by omega) (by omega)
                  have hZ : sZ (dC, dI) vCl 52 ad (fun q => N0 ≤ q) s.heap (va_up u 35 (.inl (cI, 128, .inl (upd P d (Pa i))))) H locs := hZ
                  generalize va_up u 35 (.inl (cI, 128, .inl (upd P d (Pa i)))) = w34 at hZ hPr hfr hA hB
                  refine lv_aload_n hx hb d_Prs_align_89 rfl (lv_at hl 5 rfl) ?_
                  refine q_get (C := R_Prs) (T := T_Prs) (N := 5) hx hb hts (fun w h => gm (inT_Prs w h)) hown hK hZ (34) (by decide) hPr.1 rfl 1 (by decide) (hts _ (gm k_80)) (fun _ h9 => h9) rfl d_Prs_align_90 ?_
                  refine lv_aload_n hx hb d_Prs_align_93 rfl (lv_at hl 5 rfl) ?_
                  refine q_get (C := R_Prs) (T := T_Prs) (N := 5) hx hb hts (fun w h => gm (inT_Prs w h)) hown hK hZ (34) (by decide) hPr.1 rfl 4 (by decide) (hts _ (gm k_86)) (fun _ h9 => h9) rfl d_Prs_align_94 ?_
                  refine lv_aload hx hb d_Prs_align_97 (lv_at hl 1 rfl) ?_
                  refine q_get (C := R_Bag) (T := T_Bag) (N := 4) hx hb hts (fun w h => gm (inT_Bag w h)) hown hK hZ (bb ka) (by have := bb_r hka; omega) hA.1 rfl 1 (by decide) (hts _ (gm k_53)) (fun _ h9 => h9) rfl d_Prs_align_99 ?_
                  refine lv_iload hx hb d_Prs_align_102 (lv_at hl 0 rfl) ?_
                  refine q_lald hx hb hK hZ (bb ka + 2) 1 (i) (by have := bb_r hka; omega) hA.2.2.1 rfl rfl (by omega) (by decide) d_Prs_align_104 ?_
                  refine q_last hx hb hK hZ (36) 1 (d) (by decide) hPr.2.2.1 rfl rfl (by omega) (by decide) d_Prs_align_105 (fun H locs hZ => ?_)
                  have hPr := hPr.upN ((vp_updL N d (Na i)))
                  have hA := hA.off (x := 36) (e := .inl (cL, 128, .inr (.inl (vp_updL N d (Na i))))) (by have := bb_r hka; omega)
                  have hB := hB.off (x := 36) (e := .inl (cL, 128, .inr (.inl (vp_updL N d (Na i))))) (by have := bb_r hkb; omega)
                  have hfr := fr_up (x := 36) (e := .inl (cL, 128, .inr (.inl (vp_updL N d (Na i))))) hfr (by omega) (by omega)
                  have hZ : sZ (dC, dI) vCl 52 ad (fun q => N0 ≤ q) s.heap (va_up w34 36 (.inl (cL, 128, .inr (.inl (vp_updL N d (Na i)))))) H locs := hZ
                  generalize va_up w34 36 (.inl (cL, 128, .inr (.inl (vp_updL N d (Na i))))) = w35 at hZ hPr hfr hA hB
                  refine lv_aload_n hx hb d_Prs_align_106 rfl (lv_at hl 5 rfl) ?_
                  refine q_get (C := R_Prs) (T := T_Prs) (N := 5) hx hb hts (fun w h => gm (inT_Prs w h)) hown hK hZ (34) (by decide) hPr.1 rfl 2 (by decide) (hts _ (gm k_82)) (fun _ h9 => h9) rfl d_Prs_align_107 ?_
                  refine lv_aload_n hx hb d_Prs_align_110 rfl (lv_at hl 5 rfl) ?_
                  refine q_get (C := R_Prs) (T := T_Prs) (N := 5) hx hb hts (fun w h => gm (inT_Prs w h)) hown hK hZ (34) (by decide) hPr.1 rfl 4 (by decide) (hts _ (gm k_86)) (fun _ h9 => h9) rfl d_Prs_align_111 ?_
                  refine lv_iload hx hb d_Prs_align_114 (lv_at hl 2 rfl) ?_
                  refine lv_if_gt (tgt := 128) hx hb d_Prs_align_116 (by decide) (fun h116 => ?_) (fun h116 => ?_)
                  · skip
                    exact absurd h116 (i32_ng hrs)
                  · skip
                    refine lv_aload_n hx hb d_Prs_align_119 rfl (lv_at hl 6 rfl) ?_
                    refine q_get (C := R_Bag) (T := T_Bag) (N := 4) hx hb hts (fun w h => gm (inT_Bag w h)) hown hK hZ (bb ka) (by have := bb_r hka; omega) hA.1 rfl 2 (by decide) (hts _ (gm k_56)) (fun _ h9 => h9) rfl d_Prs_align_120 ?_
                    refine lv_iload_n hx hb d_Prs_align_123 rfl (lv_at hl 3 rfl) ?_
                    refine q_lald hx hb hK hZ (bb ka + 3) 1 (i) (by have := bb_r hka; omega) hA.2.2.2.1 rfl rfl (by omega) (by decide) d_Prs_align_124 ?_
                    refine lv_goto (tgt := 129) hx hb d_Prs_align_125 (by decide) ?_
                    refine q_last hx hb hK hZ (37) 1 (d) (by decide) hPr.2.2.2.1 rfl rfl (by omega) (by decide) d_Prs_align_129 (fun H locs hZ => ?_)
                    have hPr := hPr.upL ((vp_updL L d (Aa i)))
                    have hA := hA.off (x := 37) (e := .inl (cL, 128, .inr (.inl (vp_updL L d (Aa i))))) (by have := bb_r hka; omega)
                    have hB := hB.off (x := 37) (e := .inl (cL, 128, .inr (.inl (vp_updL L d (Aa i))))) (by have := bb_r hkb; omega)
                    have hfr := fr_up (x := 37) (e := .inl (cL, 128, .inr (.inl (vp_updL L d (Aa i))))) hfr (by omega) (by omega)
                    have hZ : sZ (dC, dI) vCl 52 ad (fun q => N0 ≤ q) s.heap (va_up w35 37 (.inl (cL, 128, .inr (.inl (vp_updL L d (Aa i)))))) H locs := hZ
                    generalize va_up w35 37 (.inl (cL, 128, .inr (.inl (vp_updL L d (Aa i))))) = w36 at hZ hPr hfr hA hB
                    refine lv_aload_n hx hb d_Prs_align_130 rfl (lv_at hl 5 rfl) ?_
                    refine q_get (C := R_Prs) (T := T_Prs) (N := 5) hx hb hts (fun w h => gm (inT_Prs w h)) hown hK hZ (34) (by decide) hPr.1 rfl 3 (by decide) (hts _ (gm k_84)) (fun _ h9 => h9) rfl d_Prs_align_131 ?_
                    refine lv_aload_n hx hb d_Prs_align_134 rfl (lv_at hl 5 rfl) ?_
                    refine q_get (C := R_Prs) (T := T_Prs) (N := 5) hx hb hts (fun w h => gm (inT_Prs w h)) hown hK hZ (34) (by decide) hPr.1 rfl 4 (by decide) (hts _ (gm k_86)) (fun _ h9 => h9) rfl d_Prs_align_135 ?_
                    refine lv_iload hx hb d_Prs_align_138 (lv_at hl 2 rfl) ?_
                    refine lv_if_lt (tgt := 153) hx hb d_Prs_align_140 (by decide) (fun h140 => ?_) (fun h140 => ?_)
                    · skip
                      refine lv_lconst (v := 0) hx hb d_Prs_align_153 rfl ?_
                      refine q_last hx hb hK hZ (38) 1 (d) (by decide) hPr.2.2.2.2.1 rfl rfl (by omega) (by decide) d_Prs_align_154 (fun H locs hZ => ?_)
                      have hPr := hPr.upR ((vp_updL R d 0))
                      have hA := hA.off (x := 38) (e := .inl (cL, 128, .inr (.inl (vp_updL R d 0)))) (by have := bb_r hka; omega)
                      have hB := hB.off (x := 38) (e := .inl (cL, 128, .inr (.inl (vp_updL R d 0)))) (by have := bb_r hkb; omega)
                      have hfr := fr_up (x := 38) (e := .inl (cL, 128, .inr (.inl (vp_updL R d 0)))) hfr (by omega) (by omega)
                      have hZ : sZ (dC, dI) vCl 52 ad (fun q => N0 ≤ q) s.heap (va_up w36 38 (.inl (cL, 128, .inr (.inl (vp_updL R d 0))))) H locs := hZ
                      generalize va_up w36 38 (.inl (cL, 128, .inr (.inl (vp_updL R d 0)))) = w37 at hZ hPr hfr hA hB
                      refine lv_iload_n hx hb d_Prs_align_155 rfl (lv_at hl 3 rfl) ?_
                      refine lv_iload hx hb d_Prs_align_156 (lv_at hl 2 rfl) ?_
                      refine lv_if_gt (tgt := 165) hx hb d_Prs_align_158 (by decide) (fun h158 => ?_) (fun h158 => ?_)
                      · skip
                        exact absurd h158 (i32_ng hrs)
                      · skip
                        refine lv_iconst (v := (nI 1)) hx hb d_Prs_align_161 rfl ?_
                        refine lv_goto (tgt := 166) hx hb d_Prs_align_162 (by decide) ?_
                        refine lv_iadd hx hb d_Prs_align_166 ?_
                        refine q_topi (y := nI (i + 1)) (nI_add _ _) ?_
                        refine lv_istore_n (lv' := [(3, .int (nI (i + 1))), (7, .int (nI i)), (6, .ref (ad (bb ka))), (5, .int r), (4, .int (nI j)), (0, .ref (ad 34)), (1, .ref (ad (bb ka))), (2, .ref (ad (bb kb)))]) hx hb d_Prs_align_167 rfl hl (by decide) rfl (fun ls hl => ?_)
                        refine lv_iload hx hb d_Prs_align_168 (lv_at hl 4 rfl) ?_
                        refine lv_iload hx hb d_Prs_align_170 (lv_at hl 3 rfl) ?_
                        refine lv_if_lt (tgt := 179) hx hb d_Prs_align_172 (by decide) (fun h172 => ?_) (fun h172 => ?_)
                        · skip
                          refine lv_iconst (v := (nI 0)) hx hb d_Prs_align_179 rfl ?_
                          refine lv_iadd hx hb d_Prs_align_180 ?_
                          refine q_topi (y := nI (j + 0)) (nI_add _ _) ?_
                          refine lv_istore (lv' := [(4, .int (nI (j + 0))), (3, .int (nI (i + 1))), (7, .int (nI i)), (6, .ref (ad (bb ka))), (5, .int r), (0, .ref (ad 34)), (1, .ref (ad (bb ka))), (2, .ref (ad (bb kb)))]) hx hb d_Prs_align_181 hl (by decide) rfl (fun ls hl => ?_)
                          refine lv_aload_n hx hb d_Prs_align_183 rfl (lv_at hl 5 rfl) ?_
                          refine lv_dup hx hb d_Prs_align_184 rfl ?_
                          refine q_get (C := R_Prs) (T := T_Prs) (N := 5) hx hb hts (fun w h => gm (inT_Prs w h)) hown hK hZ (34) (by decide) hPr.1 rfl 4 (by decide) (hts _ (gm k_86)) (fun _ h9 => h9) rfl d_Prs_align_185 ?_
                          refine lv_iconst (v := (nI 1)) hx hb d_Prs_align_188 rfl ?_
                          refine lv_iadd hx hb d_Prs_align_189 ?_
                          refine q_topi (y := nI (d + 1)) (nI_add _ _) ?_
                          refine q_put (C := R_Prs) (T := T_Prs) (N := 5) (ty := .int) (v := .int (nI (d + 1))) hx hb hts (fun w h => gm (inT_Prs w h)) ty_Prs tyo_Prs nm_Prs hown hK hZ (34) (by decide) hPr.1 rfl 4 (by decide) (hts _ (gm k_86)) (fun _ h9 => h9) rfl (by decide +kernel) (rfl) (rfl) (Nat.le_of_ble_eq_true rfl) d_Prs_align_190 (fun H locs hZ => ?_)
                          have hPr := hPr.upC (c' := (d + 1)) (by omega)
                          have hA := hA.off (x := 34) (e := .inr (1, [.ref (ad 35), .ref (ad 36), .ref (ad 37), .ref (ad 38), .int (nI (d + 1))])) (by have := bb_r hka; omega)
                          have hB := hB.off (x := 34) (e := .inr (1, [.ref (ad 35), .ref (ad 36), .ref (ad 37), .ref (ad 38), .int (nI (d + 1))])) (by have := bb_r hkb; omega)
                          have hfr := fr_up (x := 34) (e := .inr (1, [.ref (ad 35), .ref (ad 36), .ref (ad 37), .ref (ad 38), .int (nI (d + 1))])) hfr (by omega) (by omega)
                          have hZ : sZ (dC, dI) vCl 52 ad (fun q => N0 ≤ q) s.heap (va_up w37 34 (.inr (1, [.ref (ad 35), .ref (ad 36), .ref (ad 37), .ref (ad 38), .int (nI (d + 1))]))) H locs := hZ
                          generalize va_up w37 34 (.inr (1, [.ref (ad 35), .ref (ad 36), .ref (ad 37), .ref (ad 38), .int (nI (d + 1))])) = w38 at hZ hPr hfr hA hB
                          refine lv_goto (tgt := 10) hx hb d_Prs_align_193 (by decide) ?_
                          have hlt : ∀ t, t < d → kk P N t < kv (Pa i) (Na i) := fun t ht => (hM.2.2.2.1 t ht).1 hiz
                          have hM := mG_step (i' := i + 1) (j' := j + 0) (lv := Aa i) (rv := 0) hM hlt (hCa.2.2.2 i hiz) (mG_no hCb.2.1 hCb.2.2.1 hM.2.2.2.2.2 hlt hjk).symm (Or.inr ⟨rfl, hiz, rfl⟩) (Or.inl rfl) (by omega) (fun y => hCa.2.1 i (i + 1) (by omega) y) (fun y => hjk y)
                          exact ih10 (i + 1) (j + 0) (d + 1) _ _ _ _ w38 _ _ _ (by omega) hA hB hPr hfr hM hZ (lv_sub hl [1, 0, 5, 6, 7] rfl)
                        · skip
                          exact absurd hrs h172
                    · skip
                      exact absurd hrs h140
            · skip
              obtain ⟨hrs, hc⟩ := hc
              obtain ⟨hiz, hjz, heq⟩ := hc
              refine lv_istore (lv' := [(5, .int r), (3, .int (nI i)), (4, .int (nI j)), (0, .ref (ad 34)), (1, .ref (ad (bb ka))), (2, .ref (ad (bb kb)))]) hx hb d_Prs_align_45 hl (by decide) rfl (fun ls hl => ?_)
              refine lv_iload hx hb d_Prs_align_47 (lv_at hl 0 rfl) ?_
              refine lv_if_gt (tgt := 56) hx hb d_Prs_align_49 (by decide) (fun h49 => ?_) (fun h49 => ?_)
              · skip
                exact absurd h49 (i32_n0g hrs)
              · skip
                refine lv_aload_n hx hb d_Prs_align_52 rfl (lv_at hl 4 rfl) ?_
                refine lv_goto (tgt := 57) hx hb d_Prs_align_53 (by decide) ?_
                refine lv_astore (lv' := [(6, .ref (ad (bb ka))), (5, .int r), (3, .int (nI i)), (4, .int (nI j)), (0, .ref (ad 34)), (1, .ref (ad (bb ka))), (2, .ref (ad (bb kb)))]) hx hb d_Prs_align_57 hl (by decide) rfl (fun ls hl => ?_)
                refine lv_iload hx hb d_Prs_align_59 (lv_at hl 1 rfl) ?_
                refine lv_if_gt (tgt := 68) hx hb d_Prs_align_61 (by decide) (fun h61 => ?_) (fun h61 => ?_)
                · skip
                  exact absurd h61 (i32_n0g hrs)
                · skip
                  refine lv_iload_n hx hb d_Prs_align_64 rfl (lv_at hl 2 rfl) ?_
                  refine lv_goto (tgt := 70) hx hb d_Prs_align_65 (by decide) ?_
                  refine lv_istore (lv' := [(7, .int (nI i)), (6, .ref (ad (bb ka))), (5, .int r), (3, .int (nI i)), (4, .int (nI j)), (0, .ref (ad 34)), (1, .ref (ad (bb ka))), (2, .ref (ad (bb kb)))]) hx hb d_Prs_align_70 hl (by decide) rfl (fun ls hl => ?_)
                  refine lv_aload_n hx hb d_Prs_align_72 rfl (lv_at hl 5 rfl) ?_
                  refine q_get (C := R_Prs) (T := T_Prs) (N := 5) hx hb hts (fun w h => gm (inT_Prs w h)) hown hK hZ (34) (by decide) hPr.1 rfl 0 (by decide) (hts _ (gm k_78)) (fun _ h9 => h9) rfl d_Prs_align_73 ?_
                  refine lv_aload_n hx hb d_Prs_align_76 rfl (lv_at hl 5 rfl) ?_
                  refine q_get (C := R_Prs) (T := T_Prs) (N := 5) hx hb hts (fun w h => gm (inT_Prs w h)) hown hK hZ (34) (by decide) hPr.1 rfl 4 (by decide) (hts _ (gm k_86)) (fun _ h9 => h9) rfl d_Prs_align_77 ?_
                  refine lv_aload hx hb d_Prs_align_80 (lv_at hl 1 rfl) ?_
                  refine q_get (C := R_Bag) (T := T_Bag) (N := 4) hx hb hts (fun w h => gm (inT_Bag w h)) hown hK hZ (bb ka) (by have := bb_r hka; omega) hA.1 rfl 0 (by decide) (hts _ (gm k_50)) (fun _ h9 => h9) rfl d_Prs_align_82 ?_
                  refine lv_iload hx hb d_Prs_align_85 (lv_at hl 0 rfl) ?_
                  refine q_iald hx hb hK hZ (bb ka + 1) 0 (i) (by have := bb_r hka; omega) hA.2.1 rfl rfl (by omega) (by decide) d_Prs_align_87 ?_
                  refine q_iast hx hb hK hZ (35) 0 (d) (by decide) hPr.2.1 rfl rfl (by omega) (by decide) d_Prs_align_88 (fun H locs hZ => ?_)
                  have hPr := hPr.upP ((upd P d (Pa i)))
                  have hA := hA.off (x := 35) (e := .inl (cI, 128, .inl (upd P d (Pa i)))) (by have := bb_r hka; omega)
                  have hB := hB.off (x := 35) (e := .inl (cI, 128, .inl (upd P d (Pa i)))) (by have := bb_r hkb; omega)
                  have hfr := fr_up (x := 35) (e := .inl (cI, 128, .inl (upd P d (Pa i)))) hfr (by omega) (by omega)
                  have hZ : sZ (dC, dI) vCl 52 ad (fun q => N0 ≤ q) s.heap (va_up u 35 (.inl (cI, 128, .inl (upd P d (Pa i))))) H locs := hZ
                  generalize va_up u 35 (.inl (cI, 128, .inl (upd P d (Pa i)))) = w39 at hZ hPr hfr hA hB
                  refine lv_aload_n hx hb d_Prs_align_89 rfl (lv_at hl 5 rfl) ?_
                  refine q_get (C := R_Prs) (T := T_Prs) (N := 5) hx hb hts (fun w h => gm (inT_Prs w h)) hown hK hZ (34) (by decide) hPr.1 rfl 1 (by decide) (hts _ (gm k_80)) (fun _ h9 => h9) rfl d_Prs_align_90 ?_
                  refine lv_aload_n hx hb d_Prs_align_93 rfl (lv_at hl 5 rfl) ?_
                  refine q_get (C := R_Prs) (T := T_Prs) (N := 5) hx hb hts (fun w h => gm (inT_Prs w h)) hown hK hZ (34) (by decide) hPr.1 rfl 4 (by decide) (hts _ (gm k_86)) (fun _ h9 => h9) rfl d_Prs_align_94 ?_
                  refine lv_aload hx hb d_Prs_align_97 (lv_at hl 1 rfl) ?_
                  refine q_get (C := R_Bag) (T := T_Bag) (N := 4) hx hb hts (fun w h => gm (inT_Bag w h)) hown hK hZ (bb ka) (by have := bb_r hka; omega) hA.1 rfl 1 (by decide) (hts _ (gm k_53)) (fun _ h9 => h9) rfl d_Prs_align_99 ?_
                  refine lv_iload hx hb d_Prs_align_102 (lv_at hl 0 rfl) ?_
                  refine q_lald hx hb hK hZ (bb ka + 2) 1 (i) (by have := bb_r hka; omega) hA.2.2.1 rfl rfl (by omega) (by decide) d_Prs_align_104 ?_
                  refine q_last hx hb hK hZ (36) 1 (d) (by decide) hPr.2.2.1 rfl rfl (by omega) (by decide) d_Prs_align_105 (fun H locs hZ => ?_)
                  have hPr := hPr.upN ((vp_updL N d (Na i)))
                  have hA := hA.off (x := 36) (e := .inl (cL, 128, .inr (.inl (vp_updL N d (Na i))))) (by have := bb_r hka; omega)
                  have hB := hB.off (x := 36) (e := .inl (cL, 128, .inr (.inl (vp_updL N d (Na i))))) (by have := bb_r hkb; omega)
                  have hfr := fr_up (x := 36) (e := .inl (cL, 128, .inr (.inl (vp_updL N d (Na i))))) hfr (by omega) (by omega)
                  have hZ : sZ (dC, dI) vCl 52 ad (fun q => N0 ≤ q) s.heap (va_up w39 36 (.inl (cL, 128, .inr (.inl (vp_updL N d (Na i)))))) H locs := hZ
                  generalize va_up w39 36 (.inl (cL, 128, .inr (.inl (vp_updL N d (Na i))))) = w40 at hZ hPr hfr hA hB
                  refine lv_aload_n hx hb d_Prs_align_106 rfl (lv_at hl 5 rfl) ?_
                  refine q_get (C := R_Prs) (T := T_Prs) (N := 5) hx hb hts (fun w h => gm (inT_Prs w h)) hown hK hZ (34) (by decide) hPr.1 rfl 2 (by decide) (hts _ (gm k_82)) (fun _ h9 => h9) rfl d_Prs_align_107 ?_
                  refine lv_aload_n hx hb d_Prs_align_110 rfl (lv_at hl 5 rfl) ?_
                  refine q_get (C := R_Prs) (T := T_Prs) (N := 5) hx hb hts (fun w h => gm (inT_Prs w h)) hown hK hZ (34) (by decide) hPr.1 rfl 4 (by decide) (hts _ (gm k_86)) (fun _ h9 => h9) rfl d_Prs_align_111 ?_
                  refine lv_iload hx hb d_Prs_align_114 (lv_at hl 2 rfl) ?_
                  refine lv_if_gt (tgt := 128) hx hb d_Prs_align_116 (by decide) (fun h116 => ?_) (fun h116 => ?_)
                  · skip
                    exact absurd h116 (i32_n0g hrs)
                  · skip
                    refine lv_aload_n hx hb d_Prs_align_119 rfl (lv_at hl 6 rfl) ?_
                    refine q_get (C := R_Bag) (T := T_Bag) (N := 4) hx hb hts (fun w h => gm (inT_Bag w h)) hown hK hZ (bb ka) (by have := bb_r hka; omega) hA.1 rfl 2 (by decide) (hts _ (gm k_56)) (fun _ h9 => h9) rfl d_Prs_align_120 ?_
                    refine lv_iload_n hx hb d_Prs_align_123 rfl (lv_at hl 3 rfl) ?_
                    refine q_lald hx hb hK hZ (bb ka + 3) 1 (i) (by have := bb_r hka; omega) hA.2.2.2.1 rfl rfl (by omega) (by decide) d_Prs_align_124 ?_
                    refine lv_goto (tgt := 129) hx hb d_Prs_align_125 (by decide) ?_
                    refine q_last hx hb hK hZ (37) 1 (d) (by decide) hPr.2.2.2.1 rfl rfl (by omega) (by decide) d_Prs_align_129 (fun H locs hZ => ?_)
                    have hPr := hPr.upL ((vp_updL L d (Aa i)))
                    have hA := hA.off (x := 37) (e := .inl (cL, 128, .inr (.inl (vp_updL L d (Aa i))))) (by have := bb_r hka; omega)
                    have hB := hB.off (x := 37) (e := .inl (cL, 128, .inr (.inl (vp_updL L d (Aa i))))) (by have := bb_r hkb; omega)
                    have hfr := fr_up (x := 37) (e := .inl (cL, 128, .inr (.inl (vp_updL L d (Aa i))))) hfr (by omega) (by omega)
                    have hZ : sZ (dC, dI) vCl 52 ad (fun q => N0 ≤ q) s.heap (va_up w40 37 (.inl (cL, 128, .inr (.inl (vp_updL L d (Aa i)))))) H locs := hZ
                    generalize va_up w40 37 (.inl (cL, 128, .inr (.inl (vp_updL L d (Aa i))))) = w41 at hZ hPr hfr hA hB
                    refine lv_aload_n hx hb d_Prs_align_130 rfl (lv_at hl 5 rfl) ?_
                    refine q_get (C := R_Prs) (T := T_Prs) (N := 5) hx hb hts (fun w h => gm (inT_Prs w h)) hown hK hZ (34) (by decide) hPr.1 rfl 3 (by decide) (hts _ (gm k_84)) (fun _ h9 => h9) rfl d_Prs_align_131 ?_
                    refine lv_aload_n hx hb d_Prs_align_134 rfl (lv_at hl 5 rfl) ?_
                    refine q_get (C := R_Prs) (T := T_Prs) (N := 5) hx hb hts (fun w h => gm (inT_Prs w h)) hown hK hZ (34) (by decide) hPr.1 rfl 4 (by decide) (hts _ (gm k_86)) (fun _ h9 => h9) rfl d_Prs_align_135 ?_
                    refine lv_iload hx hb d_Prs_align_138 (lv_at hl 2 rfl) ?_
                    refine lv_if_lt (tgt := 153) hx hb d_Prs_align_140 (by decide) (fun h140 => ?_) (fun h140 => ?_)
                    · skip
                      exact absurd h140 (i32_n0l hrs)
                    · skip
                      refine lv_aload_n hx hb d_Prs_align_143 rfl (lv_at hl 7 rfl) ?_
                      refine q_get (C := R_Bag) (T := T_Bag) (N := 4) hx hb hts (fun w h => gm (inT_Bag w h)) hown hK hZ (bb kb) (by have := bb_r hkb; omega) hB.1 rfl 2 (by decide) (hts _ (gm k_56)) (fun _ h9 => h9) rfl d_Prs_align_144 ?_
                      refine lv_iload hx hb d_Prs_align_147 (lv_at hl 4 rfl) ?_
                      refine q_lald hx hb hK hZ (bb kb + 3) 1 (j) (by have := bb_r hkb; omega) hB.2.2.2.1 rfl rfl (by omega) (by decide) d_Prs_align_149 ?_
                      refine lv_goto (tgt := 154) hx hb d_Prs_align_150 (by decide) ?_
                      refine q_last hx hb hK hZ (38) 1 (d) (by decide) hPr.2.2.2.2.1 rfl rfl (by omega) (by decide) d_Prs_align_154 (fun H locs hZ => ?_)
                      have hPr := hPr.upR ((vp_updL R d (Ab j)))
                      have hA := hA.off (x := 38) (e := .inl (cL, 128, .inr (.inl (vp_updL R d (Ab j))))) (by have := bb_r hka; omega)
                      have hB := hB.off (x := 38) (e := .inl (cL, 128, .inr (.inl (vp_updL R d (Ab j))))) (by have := bb_r hkb; omega)
                      have hfr := fr_up (x := 38) (e := .inl (cL, 128, .inr (.inl (vp_updL R d (Ab j))))) hfr (by omega) (by omega)
                      have hZ : sZ (dC, dI) vCl 52 ad (fun q => N0 ≤ q) s.heap (va_up w41 38 (.inl (cL, 128, .inr (.inl (vp_updL R d (Ab j)))))) H locs := hZ
                      generalize va_up w41 38 (.inl (cL, 128, .inr (.inl (vp_updL R d (Ab j))))) = w42 at hZ hPr hfr hA hB
                      refine lv_iload_n hx hb d_Prs_align_155 rfl (lv_at hl 3 rfl) ?_
                      refine lv_iload hx hb d_Prs_align_156 (lv_at hl 2 rfl) ?_
                      refine lv_if_gt (tgt := 165) hx hb d_Prs_align_158 (by decide) (fun h158 => ?_) (fun h158 => ?_)
                      · skip
                        exact absurd h158 (i32_n0g hrs)
                      · skip
                        refine lv_iconst (v := (nI 1)) hx hb d_Prs_align_161 rfl ?_
                        refine lv_goto (tgt := 166) hx hb d_Prs_align_162 (by decide) ?_
                        refine lv_iadd hx hb d_Prs_align_166 ?_
                        refine q_topi (y := nI (i + 1)) (nI_add _ _) ?_
                        refine lv_istore_n (lv' := [(3, .int (nI (i + 1))), (7, .int (nI i)), (6, .ref (ad (bb ka))), (5, .int r), (4, .int (nI j)), (0, .ref (ad 34)), (1, .ref (ad (bb ka))), (2, .ref (ad (bb kb)))]) hx hb d_Prs_align_167 rfl hl (by decide) rfl (fun ls hl => ?_)
                        refine lv_iload hx hb d_Prs_align_168 (lv_at hl 4 rfl) ?_
                        refine lv_iload hx hb d_Prs_align_170 (lv_at hl 3 rfl) ?_
                        refine lv_if_lt (tgt := 179) hx hb d_Prs_align_172 (by decide) (fun h172 => ?_) (fun h172 => ?_)
                        · skip
                          exact absurd h172 (i32_n0l hrs)
                        · skip
                          refine lv_iconst (v := (nI 1)) hx hb d_Prs_align_175 rfl ?_
                          refine lv_goto (tgt := 180) hx hb d_Prs_align_176 (by decide) ?_
                          refine lv_iadd hx hb d_Prs_align_180 ?_
                          refine q_topi (y := nI (j + 1)) (nI_add _ _) ?_
                          refine lv_istore (lv' := [(4, .int (nI (j + 1))), (3, .int (nI (i + 1))), (7, .int (nI i)), (6, .ref (ad (bb ka))), (5, .int r), (0, .ref (ad 34)), (1, .ref (ad (bb ka))), (2, .ref (ad (bb kb)))]) hx hb d_Prs_align_181 hl (by decide) rfl (fun ls hl => ?_)
                          refine lv_aload_n hx hb d_Prs_align_183 rfl (lv_at hl 5 rfl) ?_
                          refine lv_dup hx hb d_Prs_align_184 rfl ?_
                          refine q_get (C := R_Prs) (T := T_Prs) (N := 5) hx hb hts (fun w h => gm (inT_Prs w h)) hown hK hZ (34) (by decide) hPr.1 rfl 4 (by decide) (hts _ (gm k_86)) (fun _ h9 => h9) rfl d_Prs_align_185 ?_
                          refine lv_iconst (v := (nI 1)) hx hb d_Prs_align_188 rfl ?_
                          refine lv_iadd hx hb d_Prs_align_189 ?_
                          refine q_topi (y := nI (d + 1)) (nI_add _ _) ?_
                          refine q_put (C := R_Prs) (T := T_Prs) (N := 5) (ty := .int) (v := .int (nI (d + 1))) hx hb hts (fun w h => gm (inT_Prs w h)) ty_Prs tyo_Prs nm_Prs hown hK hZ (34) (by decide) hPr.1 rfl 4 (by decide) (hts _ (gm k_86)) (fun _ h9 => h9) rfl (by decide +kernel) (rfl) (rfl) (Nat.le_of_ble_eq_true rfl) d_Prs_align_190 (fun H locs hZ => ?_)
                          have hPr := hPr.upC (c' := (d + 1)) (by omega)
                          have hA := hA.off (x := 34) (e := .inr (1, [.ref (ad 35), .ref (ad 36), .ref (ad 37), .ref (ad 38), .int (nI (d + 1))])) (by have := bb_r hka; omega)
                          have hB := hB.off (x := 34) (e := .inr (1, [.ref (ad 35), .ref (ad 36), .ref (ad 37), .ref (ad 38), .int (nI (d + 1))])) (by have := bb_r hkb; omega)
                          have hfr := fr_up (x := 34) (e := .inr (1, [.ref (ad 35), .ref (ad 36), .ref (ad 37), .ref (ad 38), .int (nI (d + 1))])) hfr (by omega) (by omega)
                          have hZ : sZ (dC, dI) vCl 52 ad (fun q => N0 ≤ q) s.heap (va_up w42 34 (.inr (1, [.ref (ad 35), .ref (ad 36), .ref (ad 37), .ref (ad 38), .int (nI (d + 1))]))) H locs := hZ
                          generalize va_up w42 34 (.inr (1, [.ref (ad 35), .ref (ad 36), .ref (ad 37), .ref (ad 38), .int (nI (d + 1))])) = w43 at hZ hPr hfr hA hB
                          refine lv_goto (tgt := 10) hx hb d_Prs_align_193 (by decide) ?_
                          have hlt : ∀ t, t < d → kk P N t < kv (Pa i) (Na i) := fun t ht => (hM.2.2.2.1 t ht).1 hiz
                          have hM := mG_step (i' := i + 1) (j' := j + 1) (lv := Aa i) (rv := Ab j) hM hlt (hCa.2.2.2 i hiz) (by rw [hCb.2.2.2 j hjz, ← heq]; rfl) (Or.inr ⟨rfl, hiz, rfl⟩) (Or.inr ⟨rfl, hjz, heq.symm⟩) (by omega) (fun y => hCa.2.1 i (i + 1) (by omega) y) (fun y => by have h9 := hCb.2.1 j (j + 1) (by omega) y; rw [← heq] at h9; exact h9)
                          exact ih10 (i + 1) (j + 1) (d + 1) _ _ _ _ w43 _ _ _ (by omega) hA hB hPr hfr hM hZ (lv_sub hl [1, 0, 5, 6, 7] rfl)
            · skip
              obtain ⟨hrs, hc⟩ := hc
              obtain ⟨hjz, hik⟩ := hc
              refine lv_istore (lv' := [(5, .int r), (3, .int (nI i)), (4, .int (nI j)), (0, .ref (ad 34)), (1, .ref (ad (bb ka))), (2, .ref (ad (bb kb)))]) hx hb d_Prs_align_45 hl (by decide) rfl (fun ls hl => ?_)
              refine lv_iload hx hb d_Prs_align_47 (lv_at hl 0 rfl) ?_
              refine lv_if_gt (tgt := 56) hx hb d_Prs_align_49 (by decide) (fun h49 => ?_) (fun h49 => ?_)
              · skip
                refine lv_aload_n hx hb d_Prs_align_56 rfl (lv_at hl 5 rfl) ?_
                refine lv_astore (lv' := [(6, .ref (ad (bb kb))), (5, .int r), (3, .int (nI i)), (4, .int (nI j)), (0, .ref (ad 34)), (1, .ref (ad (bb ka))), (2, .ref (ad (bb kb)))]) hx hb d_Prs_align_57 hl (by decide) rfl (fun ls hl => ?_)
                refine lv_iload hx hb d_Prs_align_59 (lv_at hl 1 rfl) ?_
                refine lv_if_gt (tgt := 68) hx hb d_Prs_align_61 (by decide) (fun h61 => ?_) (fun h61 => ?_)
                · skip
                  refine lv_iload hx hb d_Prs_align_68 (lv_at hl 3 rfl) ?_
                  refine lv_istore (lv' := [(7, .int (nI j)), (6, .ref (ad (bb kb))), (5, .int r), (3, .int (nI i)), (4, .int (nI j)), (0, .ref (ad 34)), (1, .ref (ad (bb ka))), (2, .ref (ad (bb kb)))]) hx hb d_Prs_align_70 hl (by decide) rfl (fun ls hl => ?_)
                  refine lv_aload_n hx hb d_Prs_align_72 rfl (lv_at hl 5 rfl) ?_
                  refine q_get (C := R_Prs) (T := T_Prs) (N := 5) hx hb hts (fun w h => gm (inT_Prs w h)) hown hK hZ (34) (by decide) hPr.1 rfl 0 (by decide) (hts _ (gm k_78)) (fun _ h9 => h9) rfl d_Prs_align_73 ?_
                  refine lv_aload_n hx hb d_Prs_align_76 rfl (lv_at hl 5 rfl) ?_
                  refine q_get (C := R_Prs) (T := T_Prs) (N := 5) hx hb hts (fun w h => gm (inT_Prs w h)) hown hK hZ (34) (by decide) hPr.1 rfl 4 (by decide) (hts _ (gm k_86)) (fun _ h9 => h9) rfl d_Prs_align_77 ?_
                  refine lv_aload hx hb d_Prs_align_80 (lv_at hl 1 rfl) ?_
                  refine q_get (C := R_Bag) (T := T_Bag) (N := 4) hx hb hts (fun w h => gm (inT_Bag w h)) hown hK hZ (bb kb) (by have := bb_r hkb; omega) hB.1 rfl 0 (by decide) (hts _ (gm k_50)) (fun _ h9 => h9) rfl d_Prs_align_82 ?_
                  refine lv_iload hx hb d_Prs_align_85 (lv_at hl 0 rfl) ?_
                  refine q_iald hx hb hK hZ (bb kb + 1) 0 (j) (by have := bb_r hkb; omega) hB.2.1 rfl rfl (by omega) (by decide) d_Prs_align_87 ?_
                  refine q_iast hx hb hK hZ (35) 0 (d) (by decide) hPr.2.1 rfl rfl (by omega) (by decide) d_Prs_align_88 (fun H locs hZ => ?_)
                  have hPr := hPr.upP ((upd P d (Pb j)))
                  have hA := hA.off (x := 35) (e := .inl (cI, 128, .inl (upd P d (Pb j)))) (by have := bb_r hka; omega)
                  have hB := hB.off (x := 35) (e := .inl (cI, 128, .inl (upd P d (Pb j)))) (by have := bb_r hkb; omega)
                  have hfr := fr_up (x := 35) (e := .inl (cI, 128, .inl (upd P d (Pb j)))) hfr (by omega) (by omega)
                  have hZ : sZ (dC, dI) vCl 52 ad (fun q => N0 ≤ q) s.heap (va_up u 35 (.inl (cI, 128, .inl (upd P d (Pb j))))) H locs := hZ
                  generalize va_up u 35 (.inl (cI, 128, .inl (upd P d (Pb j)))) = w44 at hZ hPr hfr hA hB
                  refine lv_aload_n hx hb d_Prs_align_89 rfl (lv_at hl 5 rfl) ?_
                  refine q_get (C := R_Prs) (T := T_Prs) (N := 5) hx hb hts (fun w h => gm (inT_Prs w h)) hown hK hZ (34) (by decide) hPr.1 rfl 1 (by decide) (hts _ (gm k_80)) (fun _ h9 => h9) rfl d_Prs_align_90 ?_
                  refine lv_aload_n hx hb d_Prs_align_93 rfl (lv_at hl 5 rfl) ?_
                  refine q_get (C := R_Prs) (T := T_Prs) (N := 5) hx hb hts (fun w h => gm (inT_Prs w h)) hown hK hZ (34) (by decide) hPr.1 rfl 4 (by decide) (hts _ (gm k_86)) (fun _ h9 => h9) rfl d_Prs_align_94 ?_
                  refine lv_aload hx hb d_Prs_align_97 (lv_at hl 1 rfl) ?_
                  refine q_get (C := R_Bag) (T := T_Bag) (N := 4) hx hb hts (fun w h => gm (inT_Bag w h)) hown hK hZ (bb kb) (by have := bb_r hkb; omega) hB.1 rfl 1 (by decide) (hts _ (gm k_53)) (fun _ h9 => h9) rfl d_Prs_align_99 ?_
                  refine lv_iload hx hb d_Prs_align_102 (lv_at hl 0 rfl) ?_
                  refine q_lald hx hb hK hZ (bb kb + 2) 1 (j) (by have := bb_r hkb; omega) hB.2.2.1 rfl rfl (by omega) (by decide) d_Prs_align_104 ?_
                  refine q_last hx hb hK hZ (36) 1 (d) (by decide) hPr.2.2.1 rfl rfl (by omega) (by decide) d_Prs_align_105 (fun H locs hZ => ?_)
                  have hPr := hPr.upN ((vp_updL N d (Nb j)))
                  have hA := hA.off (x := 36) (e := .inl (cL, 128, .inr (.inl (vp_updL N d (Nb j))))) (by have := bb_r hka; omega)
                  have hB := hB.off (x := 36) (e := .inl (cL, 128, .inr (.inl (vp_updL N d (Nb j))))) (by have := bb_r hkb; omega)
                  have hfr := fr_up (x := 36) (e := .inl (cL, 128, .inr (.inl (vp_updL N d (Nb j))))) hfr (by omega) (by omega)
                  have hZ : sZ (dC, dI) vCl 52 ad (fun q => N0 ≤ q) s.heap (va_up w44 36 (.inl (cL, 128, .inr (.inl (vp_updL N d (Nb j)))))) H locs := hZ
                  generalize va_up w44 36 (.inl (cL, 128, .inr (.inl (vp_updL N d (Nb j))))) = w45 at hZ hPr hfr hA hB
                  refine lv_aload_n hx hb d_Prs_align_106 rfl (lv_at hl 5 rfl) ?_
                  refine q_get (C := R_Prs) (T := T_Prs) (N := 5) hx hb hts (fun w h => gm (inT_Prs w h)) hown hK hZ (34) (by decide) hPr.1 rfl 2 (by decide) (hts _ (gm k_82)) (fun _ h9 => h9) rfl d_Prs_align_107 ?_
                  refine lv_aload_n hx hb d_Prs_align_110 rfl (lv_at hl 5 rfl) ?_
                  refine q_get (C := R_Prs) (T := T_Prs) (N := 5) hx hb hts (fun w h => gm (inT_Prs w h)) hown hK hZ (34) (by decide) hPr.1 rfl 4 (by decide) (hts _ (gm k_86)) (fun _ h9 => h9) rfl d_Prs_align_111 ?_
                  refine lv_iload hx hb d_Prs_align_114 (lv_at hl 2 rfl) ?_
                  refine lv_if_gt (tgt := 128) hx hb d_Prs_align_116 (by decide) (fun h116 => ?_) (fun h116 => ?_)
                  · skip
                    refine lv_lconst (v := 0) hx hb d_Prs_align_128 rfl ?_
                    refine q_last hx hb hK hZ (37) 1 (d) (by decide) hPr.2.2.2.1 rfl rfl (by omega) (by decide) d_Prs_align_129 (fun H locs hZ => ?_)
                    have hPr := hPr.upL ((vp_updL L d 0))
                    have hA := hA.off (x := 37) (e := .inl (cL, 128, .inr (.inl (vp_updL L d 0)))) (by have := bb_r hka; omega)
                    have hB := hB.off (x := 37) (e := .inl (cL, 128, .inr (.inl (vp_updL L d 0)))) (by have := bb_r hkb; omega)
                    have hfr := fr_up (x := 37) (e := .inl (cL, 128, .inr (.inl (vp_updL L d 0)))) hfr (by omega) (by omega)
                    have hZ : sZ (dC, dI) vCl 52 ad (fun q => N0 ≤ q) s.heap (va_up w45 37 (.inl (cL, 128, .inr (.inl (vp_updL L d 0))))) H locs := hZ
                    generalize va_up w45 37 (.inl (cL, 128, .inr (.inl (vp_updL L d 0)))) = w46 at hZ hPr hfr hA hB
                    refine lv_aload_n hx hb d_Prs_align_130 rfl (lv_at hl 5 rfl) ?_
                    refine q_get (C := R_Prs) (T := T_Prs) (N := 5) hx hb hts (fun w h => gm (inT_Prs w h)) hown hK hZ (34) (by decide) hPr.1 rfl 3 (by decide) (hts _ (gm k_84)) (fun _ h9 => h9) rfl d_Prs_align_131 ?_
                    refine lv_aload_n hx hb d_Prs_align_134 rfl (lv_at hl 5 rfl) ?_
                    refine q_get (C := R_Prs) (T := T_Prs) (N := 5) hx hb hts (fun w h => gm (inT_Prs w h)) hown hK hZ (34) (by decide) hPr.1 rfl 4 (by decide) (hts _ (gm k_86)) (fun _ h9 => h9) rfl d_Prs_align_135 ?_
                    refine lv_iload hx hb d_Prs_align_138 (lv_at hl 2 rfl) ?_
                    refine lv_if_lt (tgt := 153) hx hb d_Prs_align_140 (by decide) (fun h140 => ?_) (fun h140 => ?_)
                    · skip
                      exact absurd h140 (i32_nl hrs)
                    · skip
                      refine lv_aload_n hx hb d_Prs_align_143 rfl (lv_at hl 7 rfl) ?_
                      refine q_get (C := R_Bag) (T := T_Bag) (N := 4) hx hb hts (fun w h => gm (inT_Bag w h)) hown hK hZ (bb kb) (by have := bb_r hkb; omega) hB.1 rfl 2 (by decide) (hts _ (gm k_56)) (fun _ h9 => h9) rfl d_Prs_align_144 ?_
                      refine lv_iload hx hb d_Prs_align_147 (lv_at hl 4 rfl) ?_
                      refine q_lald hx hb hK hZ (bb kb + 3) 1 (j) (by have := bb_r hkb; omega) hB.2.2.2.1 rfl rfl (by omega) (by decide) d_Prs_align_149 ?_
                      refine lv_goto (tgt := 154) hx hb d_Prs_align_150 (by decide) ?_
                      refine q_last hx hb hK hZ (38) 1 (d) (by decide) hPr.2.2.2.2.1 rfl rfl (by omega) (by decide) d_Prs_align_154 (fun H locs hZ => ?_)
                      have hPr := hPr.upR ((vp_updL R d (Ab j)))
                      have hA := hA.off (x := 38) (e := .inl (cL, 128, .inr (.inl (vp_updL R d (Ab j))))) (by have := bb_r hka; omega)
                      have hB := hB.off (x := 38) (e := .inl (cL, 128, .inr (.inl (vp_updL R d (Ab j))))) (by have := bb_r hkb; omega)
                      have hfr := fr_up (x := 38) (e := .inl (cL, 128, .inr (.inl (vp_updL R d (Ab j))))) hfr (by omega) (by omega)
                      have hZ : sZ (dC, dI) vCl 52 ad (fun q => N0 ≤ q) s.heap (va_up w46 38 (.inl (cL, 128, .inr (.inl (vp_updL R d (Ab j)))))) H locs := hZ
                      generalize va_up w46 38 (.inl (cL, 128, .inr (.inl (vp_updL R d (Ab j))))) = w47 at hZ hPr hfr hA hB
                      refine lv_iload_n hx hb d_Prs_align_155 rfl (lv_at hl 3 rfl) ?_
                      refine lv_iload hx hb d_Prs_align_156 (lv_at hl 2 rfl) ?_
                      refine lv_if_gt (tgt := 165) hx hb d_Prs_align_158 (by decide) (fun h158 => ?_) (fun h158 => ?_)
                      · skip
                        refine lv_iconst (v := (nI 0)) hx hb d_Prs_align_165 rfl ?_
                        refine lv_iadd hx hb d_Prs_align_166 ?_
                        refine q_topi (y := nI (i + 0)) (nI_add _ _) ?_
                        refine lv_istore_n (lv' := [(3, .int (nI (i + 0))), (7, .int (nI j)), (6, .ref (ad (bb kb))), (5, .int r), (4, .int (nI j)), (0, .ref (ad 34)), (1, .ref (ad (bb ka))), (2, .ref (ad (bb kb)))]) hx hb d_Prs_align_167 rfl hl (by decide) rfl (fun ls hl => ?_)
                        refine lv_iload hx hb d_Prs_align_168 (lv_at hl 4 rfl) ?_
                        refine lv_iload hx hb d_Prs_align_170 (lv_at hl 3 rfl) ?_
                        refine lv_if_lt (tgt := 179) hx hb d_Prs_align_172 (by decide) (fun h172 => ?_) (fun h172 => ?_)
                        · skip
                          exact absurd h172 (i32_nl hrs)
                        · skip
                          refine lv_iconst (v := (nI 1)) hx hb d_Prs_align_175 rfl ?_
                          refine lv_goto (tgt := 180) hx hb d_Prs_align_176 (by decide) ?_
                          refine lv_iadd hx hb d_Prs_align_180 ?_
                          refine q_topi (y := nI (j + 1)) (nI_add _ _) ?_
                          refine lv_istore (lv' := [(4, .int (nI (j + 1))), (3, .int (nI (i + 0))), (7, .int (nI j)), (6, .ref (ad (bb kb))), (5, .int r), (0, .ref (ad 34)), (1, .ref (ad (bb ka))), (2, .ref (ad (bb kb)))]) hx hb d_Prs_align_181 hl (by decide) rfl (fun ls hl => ?_)
                          refine lv_aload_n hx hb d_Prs_align_183 rfl (lv_at hl 5 rfl) ?_
                          refine lv_dup hx hb d_Prs_align_184 rfl ?_
                          refine q_get (C := R_Prs) (T := T_Prs) (N := 5) hx hb hts (fun w h => gm (inT_Prs w h)) hown hK hZ (34) (by decide) hPr.1 rfl 4 (by decide) (hts _ (gm k_86)) (fun _ h9 => h9) rfl d_Prs_align_185 ?_
                          refine lv_iconst (v := (nI 1)) hx hb d_Prs_align_188 rfl ?_
                          refine lv_iadd hx hb d_Prs_align_189 ?_
                          refine q_topi (y := nI (d + 1)) (nI_add _ _) ?_
                          refine q_put (C := R_Prs) (T := T_Prs) (N := 5) (ty := .int) (v := .int (nI (d + 1))) hx hb hts (fun w h => gm (inT_Prs w h)) ty_Prs tyo_Prs nm_Prs hown hK hZ (34) (by decide) hPr.1 rfl 4 (by decide) (hts _ (gm k_86)) (fun _ h9 => h9) rfl (by decide +kernel) (rfl) (rfl) (Nat.le_of_ble_eq_true rfl) d_Prs_align_190 (fun H locs hZ => ?_)
                          have hPr := hPr.upC (c' := (d + 1)) (by omega)
                          have hA := hA.off (x := 34) (e := .inr (1, [.ref (ad 35), .ref (ad 36), .ref (ad 37), .ref (ad 38), .int (nI (d + 1))])) (by have := bb_r hka; omega)
                          have hB := hB.off (x := 34) (e := .inr (1, [.ref (ad 35), .ref (ad 36), .ref (ad 37), .ref (ad 38), .int (nI (d + 1))])) (by have := bb_r hkb; omega)
                          have hfr := fr_up (x := 34) (e := .inr (1, [.ref (ad 35), .ref (ad 36), .ref (ad 37), .ref (ad 38), .int (nI (d + 1))])) hfr (by omega) (by omega)
                          have hZ : sZ (dC, dI) vCl 52 ad (fun q => N0 ≤ q) s.heap (va_up w47 34 (.inr (1, [.ref (ad 35), .ref (ad 36), .ref (ad 37), .ref (ad 38), .int (nI (d + 1))]))) H locs := hZ
                          generalize va_up w47 34 (.inr (1, [.ref (ad 35), .ref (ad 36), .ref (ad 37), .ref (ad 38), .int (nI (d + 1))])) = w48 at hZ hPr hfr hA hB
                          refine lv_goto (tgt := 10) hx hb d_Prs_align_193 (by decide) ?_
                          have hlt : ∀ t, t < d → kk P N t < kv (Pb j) (Nb j) := fun t ht => (hM.2.2.2.1 t ht).2 hjz
                          have hM := mG_step (i' := i + 0) (j' := j + 1) (lv := 0) (rv := Ab j) hM hlt (mG_no hCa.2.1 hCa.2.2.1 hM.2.2.2.2.1 hlt hik).symm (hCb.2.2.2 j hjz) (Or.inl rfl) (Or.inr ⟨rfl, hjz, rfl⟩) (by omega) (fun y => hik y) (fun y => hCb.2.1 j (j + 1) (by omega) y)
                          exact ih10 (i + 0) (j + 1) (d + 1) _ _ _ _ w48 _ _ _ (by omega) hA hB hPr hfr hM hZ (lv_sub hl [1, 0, 5, 6, 7] rfl)
                      · skip
                        exact absurd hrs h158
                  · skip
                    exact absurd hrs h116
                · skip
                  exact absurd hrs h61
              · skip
                exact absurd hrs h49
  exact loop10 (za + zb + 1) 0 0 0 _ _ _ _ w18 _ _ _ (by omega) hA hB hPr hfr (mG_0 _ _ _ _) hZ (lv_sub hl [1, 0, 2, 3, 4] rfl)
end
section
/-! the class's state: how it is kept and changed -/
def qSv : Array Value → State → Outcome → State → Prop := fun _ st o t => o = .returned none ∧ t.heap = st.heap
section QSV
variable {p : Program} {l : Launch} {e : Env} {R : Room} {s : State} {m : MethodId} {args : Array Value} {below : List Frame} {meth : Method} {c : Code} {H : Heap} {locs : List Loc} {cells slots : Nat} {Q : State → Prop}
variable {pc : Nat} {ls : Array Slot} {rest : List Value}
theorem q_callSv {a : Array Value} {st0 : List Value} (hr : va_Run p l e R s m args below meth c H locs cells slots 0 0 (F0 m pc ls st0) rest (qSv a) (fun _ => False))
    (kk : W p l e R s m args below meth c H locs cells slots Q (F0 m (pc + 3) ls rest)) : W p l e R s m args below meth c H locs cells slots Q (F0 m pc ls st0) := by
  intro T hT X
  obtain ⟨v, st₀, t, T', L, h0, X', hL, e1, e2, ⟨hv, hh⟩, st⟩ := hr T hT X
  cases hv
  obtain ⟨t2, a1, b1⟩ := kk T' (by rw [e1, hh, h0]) (Stand.forget X' (fun q h => (hL q h).elim))
  exact ⟨t2, st t2 a1, b1⟩
end QSV
/-- changed: Pairs and the spare Bag alone -/
def ch2 (w u : Nat → va_E) (sp : Nat) : Prop := ∀ x, (x < 34 ∨ 38 < x) → (x < bb sp ∨ bb sp + 3 < x) → u x = w x
theorem ch2_rf {w : Nat → va_E} {sp : Nat} : ch2 w w sp := fun _ _ _ => rfl
theorem ch2_b {w u v : Nat → va_E} {sp : Nat} (h : ch2 w u sp) (f : fr u v (bb sp) (bb sp + 3)) : ch2 w v sp := fun x h1 h2 => (f x h2).trans (h x h1 h2)
theorem ch2_p {w u v : Nat → va_E} {sp : Nat} (h : ch2 w u sp) (f : fr u v 34 38) : ch2 w v sp := fun x h1 h2 => (f x h1).trans (h x h1 h2)
def sCx (ad : Nat → Nat) (cI cL cB : ClassId) (w : Nat → va_E) (F : Nat → Int → Int64) (f : Nat → Option Nat) (pi : Nat → Nat) (sp : Nat) : Prop :=
  w 0 = .inr (2, [.ref (ad 1), .ref (ad 34), .ref (ad (bb sp))]) ∧ w 1 = .inl (cB, 8, .inr (.inr (.inr (.inr f)))) ∧ (∀ j, j < 8 → f j = some (ad (bb (pi j)))) ∧ (∀ j, j < 8 → pi j < 9 ∧ ¬ pi j = sp) ∧ (∀ i j, i < 8 → j < 8 → pi i = pi j → i = j) ∧ sp < 9 ∧
  (∀ j, j < 8 → ∃ (c : Nat) (p : Nat → Int32) (n a : Nat → Int64), isBag ad cI cL w (pi j) c p n a ∧ cRep c p n a (F j)) ∧ (∃ (c : Nat) (p : Nat → Int32) (n a : Nat → Int64), isBag ad cI cL w sp c p n a) ∧ ∃ (c : Nat) (p : Nat → Int32) (n L R : Nat → Int64), isPrs ad cI cL w c p n L R
section SC
variable {ad : Nat → Nat} {cI cL cB : ClassId} {w u v : Nat → va_E} {F : Nat → Int → Int64} {f : Nat → Option Nat} {pi : Nat → Nat} {sp j : Nat} {G : Int → Int64}
theorem sC_of (h : sCx ad cI cL cB w F f pi sp) : sC ad cI cL cB w F := ⟨f, pi, sp, h⟩
/-- a Bag that isn't the spare one is as it was -/
theorem ch2_bag (h : sCx ad cI cL cB w F f pi sp) (hc : ch2 w u sp) (hj : j < 8) {z : Nat} {P : Nat → Int32} {N A : Nat → Int64} (hB : isBag ad cI cL w (pi j) z P N A) : isBag ad cI cL u (pi j) z P N A := by
  obtain ⟨-, -, -, h4, -, h6, -⟩ := h
  have a := bb_r (h4 j hj).1
  have b := bb_a (h4 j hj).1 h6 (h4 j hj).2
  exact hB.keep (fun x h1 h2 => hc x (by omega) (by omega))
theorem ch2_0 (h : sCx ad cI cL cB w F f pi sp) (hc : ch2 w u sp) : u 0 = .inr (2, [.ref (ad 1), .ref (ad 34), .ref (ad (bb sp))]) := by
  have a := bb_r h.2.2.2.2.2.1
  exact (hc 0 (by omega) (by omega)).trans h.1
theorem ch2_1 (h : sCx ad cI cL cB w F f pi sp) (hc : ch2 w u sp) : u 1 = .inl (cB, 8, .inr (.inr (.inr (.inr f)))) := by
  have a := bb_r h.2.2.2.2.2.1
  exact (hc 1 (by omega) (by omega)).trans h.2.1
theorem sC_spare (h : sCx ad cI cL cB w F f pi sp) (hc : ch2 w u sp) (hS : ∃ (c : Nat) (p : Nat → Int32) (n a : Nat → Int64), isBag ad cI cL u sp c p n a) (hP : ∃ (c : Nat) (p : Nat → Int32) (n L R : Nat → Int64), isPrs ad cI cL u c p n L R) : sC ad cI cL cB u F := by
  refine ⟨f, pi, sp, ch2_0 h hc, ch2_1 h hc, h.2.2.1, h.2.2.2.1, h.2.2.2.2.1, h.2.2.2.2.2.1, fun i hi => ?_, hS, hP⟩
  obtain ⟨z, P, N, A, h1, h2⟩ := h.2.2.2.2.2.2.1 i hi
  exact ⟨z, P, N, A, ch2_bag h hc hi h1, h2⟩
theorem sC_swap (h : sCx ad cI cL cB w F f pi sp) (hc : ch2 w u sp) (hj : j < 8) {z : Nat} {P : Nat → Int32} {N A : Nat → Int64} (hS : isBag ad cI cL u sp z P N A) (hR : cRep z P N A G) (hP : ∃ (c : Nat) (p : Nat → Int32) (n L R : Nat → Int64), isPrs ad cI cL u c p n L R)
    (h0 : v 0 = .inr (2, [.ref (ad 1), .ref (ad 34), .ref (ad (bb (pi j)))])) (h1 : v 1 = .inl (cB, 8, .inr (.inr (.inr (.inr (va_up f j (some (ad (bb sp))))))))) (hv : ∀ x, 2 ≤ x → v x = u x) : sC ad cI cL cB v (va_up F j G) := by
  obtain ⟨-, -, g3, g4, g5, g6, g7, -, -⟩ := id h
  have bsp := bb_r g6
  refine ⟨va_up f j (some (ad (bb sp))), va_up pi j sp, pi j, h0, h1, fun i hi => ?_, fun i hi => ?_, fun i k hi hk e => ?_, (g4 j hj).1, fun i hi => ?_, ?_, ?_⟩
  · by_cases q : i = j
    · rw [q, va_up_self, va_up_self]
    · rw [va_up_ne _ _ q, va_up_ne _ _ q]
      exact g3 i hi
  · by_cases q : i = j
    · rw [q, va_up_self]
      exact ⟨g6, fun y => (g4 j hj).2 y.symm⟩
    · rw [va_up_ne _ _ q]
      exact ⟨(g4 i hi).1, fun y => q (g5 i j hi hj y)⟩
  · by_cases q : i = j <;> by_cases r : k = j
    · rw [q, r]
    · rw [q, va_up_self, va_up_ne _ _ r] at e
      exact absurd e.symm (g4 k hk).2
    · rw [r, va_up_self, va_up_ne _ _ q] at e
      exact absurd e (g4 i hi).2
    · rw [va_up_ne _ _ q, va_up_ne _ _ r] at e
      exact g5 i k hi hk e
  · by_cases q : i = j
    · rw [q, va_up_self, va_up_self]
      exact ⟨z, P, N, A, hS.keep (fun x h1 h2 => hv x (by omega)), hR⟩
    · rw [va_up_ne _ _ q, va_up_ne _ _ q]
      obtain ⟨z', P', N', A', q1, q2⟩ := g7 i hi
      have := bb_r (g4 i hi).1
      exact ⟨z', P', N', A', (ch2_bag h hc hi q1).keep (fun x h1 h2 => hv x (by omega)), q2⟩
  · obtain ⟨z', P', N', A', q1, q2⟩ := g7 j hj
    have := bb_r (g4 j hj).1
    exact ⟨z', P', N', A', (ch2_bag h hc hj q1).keep (fun x h1 h2 => hv x (by omega))⟩
  · obtain ⟨z', P', N', L', R', q1⟩ := hP
    exact ⟨z', P', N', L', R', q1.keep (fun x h1 h2 => hv x (by omega))⟩
/-- one BAG has changed in its place -/
theorem sC_bag (h : sCx ad cI cL cB w F f pi sp) (hj : j < 8) (hf : fr w u (bb (pi j)) (bb (pi j) + 3)) {z : Nat} {P : Nat → Int32} {N A : Nat → Int64} (hB : isBag ad cI cL u (pi j) z P N A) (hR : cRep z P N A G) : sC ad cI cL cB u (va_up F j G) := by
  obtain ⟨g1, g2, g3, g4, g5, g6, g7, ⟨z8, P8, N8, A8, g8⟩, ⟨z9, P9, N9, L9, R9, g9⟩⟩ := id h
  have bj := bb_r (g4 j hj).1
  refine ⟨f, pi, sp, (hf 0 (by omega)).trans g1, (hf 1 (by omega)).trans g2, g3, g4, g5, g6, fun i hi => ?_, ⟨z8, P8, N8, A8, ?_⟩, ⟨z9, P9, N9, L9, R9, ?_⟩⟩
  · by_cases q : i = j
    · rw [q, va_up_self]
      exact ⟨z, P, N, A, hB, hR⟩
    · rw [va_up_ne _ _ q]
      obtain ⟨z', P', N', A', q1, q2⟩ := g7 i hi
      have := bb_a (g4 i hi).1 (g4 j hj).1 (fun y => q (g5 i j hi hj y))
      exact ⟨z', P', N', A', q1.fr hf (by omega), q2⟩
  · have := bb_a (g4 j hj).1 g6 (g4 j hj).2
    exact g8.fr hf (by omega)
  · exact g9.fr hf (by omega)
theorem va_up_id {α : Type} {F : Nat → α} {j : Nat} : va_up F j (F j) = F := by
  funext i
  by_cases q : i = j
  · rw [q, va_up_self]
  · rw [va_up_ne _ _ q]
theorem sC_fr (h : sC ad cI cL cB w F) (hf : ∀ x, x < 43 → u x = w x) : sC ad cI cL cB u F := by
  obtain ⟨f, pi, sp, g1, g2, g3, g4, g5, g6, g7, ⟨z8, P8, N8, A8, g8⟩, ⟨z9, P9, N9, L9, R9, g9⟩⟩ := h
  have bs := bb_r g6
  refine ⟨f, pi, sp, (hf 0 (by omega)).trans g1, (hf 1 (by omega)).trans g2, g3, g4, g5, g6, fun i hi => ?_, ⟨z8, P8, N8, A8, g8.keep (fun x h1 h2 => hf x (by omega))⟩, ⟨z9, P9, N9, L9, R9, g9.keep (fun x h1 h2 => hf x (by omega))⟩⟩
  obtain ⟨z', P', N', A', q1, q2⟩ := g7 i hi
  have := bb_r (g4 i hi).1
  exact ⟨z', P', N', A', q1.keep (fun x h1 h2 => hf x (by omega)), q2⟩
end SC
/-- what sum, less, least make -/
def gH (how : Nat) (Fa Fb : Int → Int64) : Int → Int64 := fun x => cH how (Fa x) (Fb x)
theorem gH_cov {how c : Nat} {P : Nat → Int32} {N L R : Nat → Int64} {Fa Fb : Int → Int64} (h : pRep c P N L R Fa Fb) : ∀ x, ¬ gH how Fa Fb x = 0 → ∃ j, j < c ∧ kk P N j = x := fun x hx => h.2.2 x (by
  by_cases a : Fa x = 0
  · by_cases b : Fb x = 0
    · exfalso
      apply hx
      unfold gH
      rw [a, b]
      exact cH_00 how
    · exact Or.inr b
  · exact Or.inl a)
theorem fH_all {how c : Nat} {P : Nat → Int32} {N L R : Nat → Int64} {Fa Fb : Int → Int64} (h : pRep c P N L R Fa Fb) (hk : ∀ i, i < c → fH how (L i) (R i)) : ∀ x, fH how (Fa x) (Fb x) := fun x => by
  by_cases a : Fa x = 0
  · by_cases b : Fb x = 0
    · rw [a, b]
      exact fH_00 how
    · obtain ⟨i, hi, e⟩ := h.2.2 x (Or.inr b)
      have := hk i hi
      rw [(h.2.1 i hi).1, (h.2.1 i hi).2, e] at this
      exact this
  · obtain ⟨i, hi, e⟩ := h.2.2 x (Or.inl a)
    have := hk i hi
    rw [(h.2.1 i hi).1, (h.2.1 i hi).2, e] at this
    exact this
end
section
/-! the class CoinBag: one BAG -/
set_option maxHeartbeats 4000000 in
set_option maxRecDepth 100000 in
theorem c_JM_min (l : Launch) (x y : Int64)  : Met l y_JM_min ws_JM_min ({ frames := 0, cells := 0, slots := 0, locals := 0 } : Room) (va_Pc [.long x, .long y] (fun _ => True)) (vp_Sl (fun r => r = if y < x then y else x)) 0 0 (fun _ => False) := by
  refine va_MetF (cc := b_JM_min) (maxL := 4) (ret := (some .long)) (by decide +kernel) rfl ?_
  intro p e s m args below meth c s₁ B hml hv
  obtain ⟨rfl, -⟩ := hv
  have hx := B.exec
  have hb := B.bytes
  have hr := B.returns
  have hts := atoms_spec (ws := ws_JM_min) B.pre
  have hown : s.vm.findClass "java/lang/Math" = some m.cls := findClass_of_methodNamed B.named
  have hlocks := B.notSynchronized
  have hl := lv_entry ([.long x, .long y]) (n := 4) (Nat.le_of_ble_eq_true rfl)
  rw [lg_entry_eq]
  generalize (lg_sl ([.long x, .long y]) ++ List.replicate (4 - (lg_sl ([.long x, .long y])).length) Slot.unset).toArray = ls at hl ⊢
  have hl : lv_has ls 4 [(0, .long x), (2, .long y)] := hl
  refine lv_lload_n hx hb d_JM_min_0 rfl (lv_at hl 0 rfl) ?_
  refine lv_lload_n hx hb d_JM_min_1 rfl (lv_at hl 1 rfl) ?_
  refine W.lcmp hx hb d_JM_min_2 ?_
  refine lv_if_gt (tgt := 10) hx hb d_JM_min_3 (by decide) (fun h3 => ?_) (fun h3 => ?_)
  · skip
    rw [lg_cmp_gt] at h3
    refine lv_lload_n hx hb d_JM_min_10 rfl (lv_at hl 1 rfl) ?_
    exact W.lret hx hb hr (fun t ht hW => ⟨_, rfl, (by first | (rw [if_pos h3]) | (rw [if_neg h3])), ht⟩) (fun q h => nomatch h) d_JM_min_11
  · skip
    rw [lg_cmp_gt] at h3
    refine lv_lload_n hx hb d_JM_min_6 rfl (lv_at hl 0 rfl) ?_
    refine lv_goto (tgt := 11) hx hb d_JM_min_7 (by decide) ?_
    exact W.lret hx hb hr (fun t ht hW => ⟨_, rfl, (by first | (rw [if_pos h3]) | (rw [if_neg h3])), ht⟩) (fun q h => nomatch h) d_JM_min_11
set_option maxHeartbeats 4000000 in
set_option maxRecDepth 100000 in
theorem c_JM_max (l : Launch) (x y : Int64)  : Met l y_JM_max ws_JM_max ({ frames := 0, cells := 0, slots := 0, locals := 0 } : Room) (va_Pc [.long x, .long y] (fun _ => True)) (vp_Sl (fun r => r = if x < y then y else x)) 0 0 (fun _ => False) := by
  refine va_MetF (cc := b_JM_max) (maxL := 4) (ret := (some .long)) (by decide +kernel) rfl ?_
  intro p e s m args below meth c s₁ B hml hv
  obtain ⟨rfl, -⟩ := hv
  have hx := B.exec
  have hb := B.bytes
  have hr := B.returns
  have hts := atoms_spec (ws := ws_JM_max) B.pre
  have hown : s.vm.findClass "java/lang/Math" = some m.cls := findClass_of_methodNamed B.named
  have hlocks := B.notSynchronized
  have hl := lv_entry ([.long x, .long y]) (n := 4) (Nat.le_of_ble_eq_true rfl)
  rw [lg_entry_eq]
  generalize (lg_sl ([.long x, .long y]) ++ List.replicate (4 - (lg_sl ([.long x, .long y])).length) Slot.unset).toArray = ls at hl ⊢
  have hl : lv_has ls 4 [(0, .long x), (2, .long y)] := hl
  refine lv_lload_n hx hb d_JM_max_0 rfl (lv_at hl 0 rfl) ?_
  refine lv_lload_n hx hb d_JM_max_1 rfl (lv_at hl 1 rfl) ?_
  refine W.lcmp hx hb d_JM_max_2 ?_
  refine lv_if_lt (tgt := 10) hx hb d_JM_max_3 (by decide) (fun h3 => ?_) (fun h3 => ?_)
  · skip
    rw [lg_cmp_lt] at h3
    refine lv_lload_n hx hb d_JM_max_10 rfl (lv_at hl 1 rfl) ?_
    exact W.lret hx hb hr (fun t ht hW => ⟨_, rfl, (by first | (rw [if_pos h3]) | (rw [if_neg h3])), ht⟩) (fun q h => nomatch h) d_JM_max_11
  · skip
    rw [lg_cmp_lt] at h3
    refine lv_lload_n hx hb d_JM_max_6 rfl (lv_at hl 0 rfl) ?_
    refine lv_goto (tgt := 11) hx hb d_JM_max_7 (by decide) ?_
    exact W.lret hx hb hr (fun t ht hW => ⟨_, rfl, (by first | (rw [if_pos h3]) | (rw [if_neg h3])), ht⟩) (fun q h => nomatch h) d_JM_max_11
set_option maxHeartbeats 4000000 in
set_option maxRecDepth 100000 in
theorem c_CB_requireBag (l : Launch) (j : Nat) (hj : j < 8) : Met l y_CB_requireBag ws_CB_requireBag ({ frames := 0, cells := 0, slots := 0, locals := 0 } : Room) (va_Pc [.int (nI j)] (fun _ => True)) qSv 0 0 (fun _ => False) := by
  refine Met.ofW (cc := b_CB_requireBag) (maxL := 1) (ret := none) (by decide) rfl ?_
  intro p e s m args below meth c s₁ B hml hv
  obtain ⟨rfl, -⟩ := hv
  have hx := B.exec
  have hb := B.bytes
  have hr := B.returns
  have hts := atoms_spec (ws := ws_CB_requireBag) B.pre
  have hown : s.vm.findClass "CoinBag" = some m.cls := findClass_of_methodNamed B.named
  have hlocks := B.notSynchronized
  have hl := lv_entry ([.int (nI j)]) (n := 1) (Nat.le_of_ble_eq_true rfl)
  rw [lg_entry_eq]
  generalize (lg_sl ([.int (nI j)]) ++ List.replicate (1 - (lg_sl ([.int (nI j)])).length) Slot.unset).toArray = ls at hl ⊢
  have hl : lv_has ls 1 [(0, .int (nI j))] := hl
  refine lv_iload_n hx hb d_CB_requireBag_0 rfl (lv_at hl 0 rfl) ?_
  refine lv_if_lt (tgt := 10) hx hb d_CB_requireBag_1 (by decide) (fun h1 => ?_) (fun h1 => ?_)
  · skip
    have h1 : j < 0 := (nI_ltI (a := j) (b := 0) (by omega) (by omega)).mp h1
    exact absurd h1 (by omega)
  · skip
    have h1 : 0 ≤ j := Nat.le_of_not_lt (fun z9 => h1 ((nI_ltI (a := j) (b := 0) (by omega) (by omega)).mpr z9))
    refine lv_iload_n hx hb d_CB_requireBag_4 rfl (lv_at hl 0 rfl) ?_
    refine lv_bipush (v := (nI 8)) hx hb d_CB_requireBag_5 rfl ?_
    refine lv_icmp_lt (tgt := 20) hx hb d_CB_requireBag_7 (by decide) (fun h7 => ?_) (fun h7 => ?_)
    · skip
      have h7 : j < 8 := (nI_ltI (a := j) (b := 8) (by omega) (by omega)).mp h7
      exact W.vret hx hb hr (fun t ht hW => ⟨rfl, ht⟩) (fun q h => nomatch h) d_CB_requireBag_20
    · skip
      have h7 : 8 ≤ j := Nat.le_of_not_lt (fun z9 => h7 ((nI_ltI (a := j) (b := 8) (by omega) (by omega)).mpr z9))
      exact absurd h7 (by omega)
set_option maxHeartbeats 4000000 in
set_option maxRecDepth 100000 in
theorem c_CB_requirePolicy (l : Launch) (q : Int32) (hq : ¬ q < 0 ∧ ¬ 65536 ≤ q) : Met l y_CB_requirePolicy ws_CB_requirePolicy ({ frames := 0, cells := 0, slots := 0, locals := 0 } : Room) (va_Pc [.int q] (fun _ => True)) qSv 0 0 (fun _ => False) := by
  refine Met.ofW (cc := b_CB_requirePolicy) (maxL := 1) (ret := none) (by decide) rfl ?_
  intro p e s m args below meth c s₁ B hml hv
  obtain ⟨rfl, -⟩ := hv
  have hx := B.exec
  have hb := B.bytes
  have hr := B.returns
  have hts := atoms_spec (ws := ws_CB_requirePolicy) B.pre
  have hown : s.vm.findClass "CoinBag" = some m.cls := findClass_of_methodNamed B.named
  have hlocks := B.notSynchronized
  have hl := lv_entry ([.int q]) (n := 1) (Nat.le_of_ble_eq_true rfl)
  rw [lg_entry_eq]
  generalize (lg_sl ([.int q]) ++ List.replicate (1 - (lg_sl ([.int q])).length) Slot.unset).toArray = ls at hl ⊢
  have hl : lv_has ls 1 [(0, .int q)] := hl
  refine lv_iload_n hx hb d_CB_requirePolicy_0 rfl (lv_at hl 0 rfl) ?_
  refine lv_if_lt (tgt := 10) hx hb d_CB_requirePolicy_1 (by decide) (fun h1 => ?_) (fun h1 => ?_)
  · skip
    exact absurd h1 hq.1
  · skip
    refine lv_iload_n hx hb d_CB_requirePolicy_4 rfl (lv_at hl 0 rfl) ?_
    refine lv_ldc (v := 65536) hx hb hown (hts _ (gm k_191)) d_CB_requirePolicy_5 ?_
    refine lv_icmp_lt (tgt := 20) hx hb d_CB_requirePolicy_7 (by decide) (fun h7 => ?_) (fun h7 => ?_)
    · skip
      exact W.vret hx hb hr (fun t ht hW => ⟨rfl, ht⟩) (fun q h => nomatch h) d_CB_requirePolicy_20
    · skip
      exact absurd (Int32.not_lt.mp h7) hq.2
set_option maxHeartbeats 4000000 in
set_option maxRecDepth 100000 in
theorem c_CB_fits (l : Launch) (hw : Nat) (x y : Int64) (hh : hw ≤ 2) : Met l y_CB_fits ws_CB_fits ({ frames := 1, cells := 0, slots := 0, locals := 23 } : Room) (va_Pc [.int (nI hw), .long x, .long y] (fun _ => True)) (vp_Si (fun r => (fH hw x y ∧ r = 1) ∨ (¬ fH hw x y ∧ r = 0))) 0 0 (fun _ => False) := by
  refine Met.ofW (cc := b_CB_fits) (maxL := 5) (ret := (some .boolean)) (by decide) rfl ?_
  intro p e s m args below meth c s₁ B hml hv
  obtain ⟨rfl, -⟩ := hv
  have hx := B.exec
  have hb := B.bytes
  have hr := B.returns
  have hts := atoms_spec (ws := ws_CB_fits) B.pre
  have hown : s.vm.findClass "CoinBag" = some m.cls := findClass_of_methodNamed B.named
  have hlocks := B.notSynchronized
  have hl := lv_entry ([.int (nI hw), .long x, .long y]) (n := 5) (Nat.le_of_ble_eq_true rfl)
  rw [lg_entry_eq]
  generalize (lg_sl ([.int (nI hw), .long x, .long y]) ++ List.replicate (5 - (lg_sl ([.int (nI hw), .long x, .long y])).length) Slot.unset).toArray = ls at hl ⊢
  have hl : lv_has ls 5 [(0, .int (nI hw)), (1, .long x), (3, .long y)] := hl
  refine lv_iload_n hx hb d_CB_fits_0 rfl (lv_at hl 0 rfl) ?_
  have h3 : hw = 0 ∨ hw = 1 ∨ hw = 2 := by omega
  rcases h3 with rfl | rfl | rfl
  · skip
    refine lv_lookup (off := 27) (tgt := 28) hx hb d_CB_fits_1 (by decide +kernel) (by decide +kernel) (by decide) ?_
    refine lv_lload_n hx hb d_CB_fits_28 rfl (lv_at hl 1 rfl) ?_
    refine lv_lload_n hx hb d_CB_fits_29 rfl (lv_at hl 2 rfl) ?_
    refine q_callSi (va_runS (As := [.long x, .long y]) (rest := []) ⟨hx, hb, hml, hown, hts⟩ (c_CB_sumFits l _ _) (va_cwS 2 hts (gI_S k_257 k_255 k_256 k_21) rfl rfl rfl (by decide +kernel) ⟨Nat.le_of_ble_eq_true rfl, Nat.le_of_ble_eq_true rfl⟩) ⟨fun _ _ _ _ q => q, fun _ _ _ => ⟨rfl, trivial⟩⟩ rfl rfl hl.1 rfl (lv_room (Nat.le_of_ble_eq_true rfl)) d_CB_fits_30 ⟨Nat.zero_le _, Nat.zero_le _⟩) (fun r h_r => ?_)
    exact W.zret hx hb hr (by rcases h_r with ⟨_, e9⟩ | ⟨_, e9⟩ <;> rw [e9] <;> rfl) (fun t ht hW => ⟨_, rfl, h_r, ht⟩) (fun q h => nomatch h) d_CB_fits_33
  · skip
    refine lv_lookup (off := 33) (tgt := 34) hx hb d_CB_fits_1 (by decide +kernel) (by decide +kernel) (by decide) ?_
    refine lv_lload_n hx hb d_CB_fits_34 rfl (lv_at hl 1 rfl) ?_
    refine lv_lload_n hx hb d_CB_fits_35 rfl (lv_at hl 2 rfl) ?_
    refine q_callSi (va_runS (As := [.long x, .long y]) (rest := []) ⟨hx, hb, hml, hown, hts⟩ (c_CB_differenceFits l _ _) (va_cwS 2 hts (gI_S k_288 k_286 k_287 k_21) rfl rfl rfl (by decide +kernel) ⟨Nat.le_of_ble_eq_true rfl, Nat.le_of_ble_eq_true rfl⟩) ⟨fun _ _ _ _ q => q, fun _ _ _ => ⟨rfl, trivial⟩⟩ rfl rfl hl.1 rfl (lv_room (Nat.le_of_ble_eq_true rfl)) d_CB_fits_36 ⟨Nat.zero_le _, Nat.zero_le _⟩) (fun r h_r => ?_)
    exact W.zret hx hb hr (by rcases h_r with ⟨_, e9⟩ | ⟨_, e9⟩ <;> rw [e9] <;> rfl) (fun t ht hW => ⟨_, rfl, h_r, ht⟩) (fun q h => nomatch h) d_CB_fits_39
  · skip
    refine lv_lookup (off := 39) (tgt := 40) hx hb d_CB_fits_1 (by decide +kernel) (by decide +kernel) (by decide) ?_
    refine lv_iconst (v := (nI 1)) hx hb d_CB_fits_40 rfl ?_
    exact W.zret hx hb hr rfl (fun t ht hW => ⟨_, rfl, Or.inl ⟨fH_2 2 (by decide) (by decide) x y, rfl⟩, ht⟩) (fun q h => nomatch h) d_CB_fits_41
set_option maxHeartbeats 4000000 in
set_option maxRecDepth 100000 in
theorem c_CB_combined (l : Launch) (hw : Nat) (x y : Int64) (hh : hw ≤ 2) : Met l y_CB_combined ws_CB_combined ({ frames := 1, cells := 0, slots := 0, locals := 23 } : Room) (va_Pc [.int (nI hw), .long x, .long y] (fun _ => True)) (vp_Sl (fun r => r = cH hw x y)) 0 0 (fun _ => False) := by
  refine Met.ofW (cc := b_CB_combined) (maxL := 5) (ret := (some .long)) (by decide) rfl ?_
  intro p e s m args below meth c s₁ B hml hv
  obtain ⟨rfl, -⟩ := hv
  have hx := B.exec
  have hb := B.bytes
  have hr := B.returns
  have hts := atoms_spec (ws := ws_CB_combined) B.pre
  have hown : s.vm.findClass "CoinBag" = some m.cls := findClass_of_methodNamed B.named
  have hlocks := B.notSynchronized
  have hl := lv_entry ([.int (nI hw), .long x, .long y]) (n := 5) (Nat.le_of_ble_eq_true rfl)
  rw [lg_entry_eq]
  generalize (lg_sl ([.int (nI hw), .long x, .long y]) ++ List.replicate (5 - (lg_sl ([.int (nI hw), .long x, .long y])).length) Slot.unset).toArray = ls at hl ⊢
  have hl : lv_has ls 5 [(0, .int (nI hw)), (1, .long x), (3, .long y)] := hl
  refine lv_iload_n hx hb d_CB_combined_0 rfl (lv_at hl 0 rfl) ?_
  have h3 : hw = 0 ∨ hw = 1 ∨ hw = 2 := by omega
  rcases h3 with rfl | rfl | rfl
  · skip
    refine lv_lookup (off := 27) (tgt := 28) hx hb d_CB_combined_1 (by decide +kernel) (by decide +kernel) (by decide) ?_
    refine lv_lload_n hx hb d_CB_combined_28 rfl (lv_at hl 1 rfl) ?_
    refine lv_lload_n hx hb d_CB_combined_29 rfl (lv_at hl 2 rfl) ?_
    refine lv_ladd hx hb d_CB_combined_30 ?_
    exact W.lret hx hb hr (fun t ht hW => ⟨_, rfl, (by simp [cH]), ht⟩) (fun q h => nomatch h) d_CB_combined_31
  · skip
    refine lv_lookup (off := 31) (tgt := 32) hx hb d_CB_combined_1 (by decide +kernel) (by decide +kernel) (by decide) ?_
    refine lv_lload_n hx hb d_CB_combined_32 rfl (lv_at hl 1 rfl) ?_
    refine lv_lload_n hx hb d_CB_combined_33 rfl (lv_at hl 2 rfl) ?_
    refine lv_lsub hx hb d_CB_combined_34 ?_
    exact W.lret hx hb hr (fun t ht hW => ⟨_, rfl, (by simp [cH]), ht⟩) (fun q h => nomatch h) d_CB_combined_35
  · skip
    refine lv_lookup (off := 35) (tgt := 36) hx hb d_CB_combined_1 (by decide +kernel) (by decide +kernel) (by decide) ?_
    refine lv_lload_n hx hb d_CB_combined_36 rfl (lv_at hl 1 rfl) ?_
    refine lv_lload_n hx hb d_CB_combined_37 rfl (lv_at hl 2 rfl) ?_
    refine q_callSl (va_runS (As := [.long x, .long y]) (rest := []) ⟨hx, hb, hml, hown, hts⟩ (c_JM_min l _ _) (va_cwS 2 hts (gI_S k_294 k_292 k_293 k_33) rfl rfl rfl (by decide +kernel) ⟨Nat.le_of_ble_eq_true rfl, Nat.le_of_ble_eq_true rfl⟩) ⟨fun _ _ _ _ q => q, fun _ _ _ => ⟨rfl, trivial⟩⟩ rfl rfl hl.1 rfl (lv_room (Nat.le_of_ble_eq_true rfl)) d_CB_combined_38 ⟨Nat.zero_le _, Nat.zero_le _⟩) (fun r h_r => ?_)
    exact W.lret hx hb hr (fun t ht hW => ⟨_, rfl, (by rw [h_r]; simp [cH]), ht⟩) (fun q h => nomatch h) d_CB_combined_41
set_option maxHeartbeats 4000000 in
set_option maxRecDepth 100000 in
theorem c_CB_set (l : Launch) (dC : Nat → ClassId) (dI : Nat → Nat → Nat) (cI cL cB : ClassId) (ad : Nat → Nat) (N0 : Nat) (w : Nat → va_E) (F : Nat → Int → Int64) (j : Nat) (q : Int32) (x v : Int64) (hC : sC ad cI cL cB w F) (hj : j < 8) (hq : ¬ q < 0 ∧ ¬ 65536 ≤ q) : Met l y_CB_set ws_CB_set ({ frames := 5, cells := 0, slots := 0, locals := 122 } : Room) (va_Pc [.ref (ad 0), .int (nI j), .int q, .long x, .long v] (sPr (dC, dI) vCl [(cI, .int), (cL, .long), (cB, .object "CoinBag$Bag")] 52 ad N0 w)) (va_Qi (fun r u => ((eC (fUp (F j) (kv q x) v) ∧ r = 1 ∧ sC ad cI cL cB u (va_up F j (fUp (F j) (kv q x) v))) ∨ (¬ eC (fUp (F j) (kv q x) v) ∧ r = 0 ∧ sC ad cI cL cB u F)) ∧ ∀ y, 43 ≤ y → u y = w y) (sPr (dC, dI) vCl [(cI, .int), (cL, .long), (cB, .object "CoinBag$Bag")] 52 ad N0) (fun q => N0 ≤ q)) 0 0 (fun q => N0 ≤ q) := by
  refine Met.ofW (cc := b_CB_set) (maxL := 7) (ret := (some .boolean)) (by decide) rfl ?_
  intro p e s m args below meth c s₁ B hml hv
  obtain ⟨rfl, hP, hK, hD, hN, hAm⟩ := hv
  have hx := B.exec
  have hb := B.bytes
  have hr := B.returns
  have hts := atoms_spec (ws := ws_CB_set) B.pre
  have hown : s.vm.findClass "CoinBag" = some m.cls := findClass_of_methodNamed B.named
  have hlocks := B.notSynchronized
  have hZ : sZ (dC, dI) vCl 52 ad (fun q => N0 ≤ q) s.heap w s.heap [] := ⟨hP, hD, va_S.rf⟩
  have hl := lv_entry ([.ref (ad 0), .int (nI j), .int q, .long x, .long v]) (n := 7) (Nat.le_of_ble_eq_true rfl)
  rw [lg_entry_eq]
  generalize (lg_sl ([.ref (ad 0), .int (nI j), .int q, .long x, .long v]) ++ List.replicate (7 - (lg_sl ([.ref (ad 0), .int (nI j), .int q, .long x, .long v])).length) Slot.unset).toArray = ls at hl ⊢
  have hl : lv_has ls 7 [(0, .ref (ad 0)), (1, .int (nI j)), (2, .int q), (3, .long x), (5, .long v)] := hl
  obtain ⟨f, pi, sp, hX⟩ := hC
  have hX : sCx ad cI cL cB w F f pi sp := hX
  obtain ⟨h0, h1, hf, hpi, hinj, hsp, hbg, hspb, hprs⟩ := id hX
  obtain ⟨z, P, N, A, hB, hR⟩ := hbg j hj
  have hk := (hpi j hj).1
  have hz : z ≤ 64 := hB.2.2.2.2
  refine lv_iload_n hx hb d_CB_set_0 rfl (lv_at hl 1 rfl) ?_
  refine q_callSv (va_runS (As := [.int (nI j)]) (rest := []) ⟨hx, hb, hml, hown, hts⟩ (c_CB_requireBag l j hj) (va_cwS 1 hts (gI_S k_120 k_118 k_119 k_21) rfl rfl rfl (by decide +kernel) ⟨Nat.le_of_ble_eq_true rfl, Nat.le_of_ble_eq_true rfl⟩) ⟨fun _ _ _ _ q => q, fun _ _ _ => ⟨rfl, trivial⟩⟩ rfl rfl hl.1 rfl (lv_room (Nat.le_of_ble_eq_true rfl)) d_CB_set_1 ⟨Nat.zero_le _, Nat.zero_le _⟩) ?_
  refine lv_iload_n hx hb d_CB_set_4 rfl (lv_at hl 2 rfl) ?_
  refine q_callSv (va_runS (As := [.int q]) (rest := []) ⟨hx, hb, hml, hown, hts⟩ (c_CB_requirePolicy l q hq) (va_cwS 1 hts (gI_S k_190 k_188 k_189 k_21) rfl rfl rfl (by decide +kernel) ⟨Nat.le_of_ble_eq_true rfl, Nat.le_of_ble_eq_true rfl⟩) ⟨fun _ _ _ _ q => q, fun _ _ _ => ⟨rfl, trivial⟩⟩ rfl rfl hl.1 rfl (lv_room (Nat.le_of_ble_eq_true rfl)) d_CB_set_5 ⟨Nat.zero_le _, Nat.zero_le _⟩) ?_
  refine lv_aload_n hx hb d_CB_set_8 rfl (lv_at hl 0 rfl) ?_
  refine q_get (C := R_CB) (T := T_CB) (N := 3) hx hb hts (fun w h => gm (inT_CB w h)) hown hK hZ (0) (by decide) h0 rfl 0 (by decide) (hts _ (gm k_99)) (fun _ h9 => h9) rfl d_CB_set_9 ?_
  refine lv_iload_n hx hb d_CB_set_12 rfl (lv_at hl 1 rfl) ?_
  refine q_aald hx hb hK hZ (1) 2 (j) (by decide) h1 rfl rfl hj (by decide) (hf j hj) d_CB_set_13 ?_
  refine lv_iload_n hx hb d_CB_set_14 rfl (lv_at hl 2 rfl) ?_
  refine lv_lload_n hx hb d_CB_set_15 rfl (lv_at hl 3 rfl) ?_
  refine lv_lload hx hb d_CB_set_16 (lv_at hl 4 rfl) ?_
  refine q_calli (va_runV (As := [.int q, .long x, .long v]) (rest := []) ⟨hx, hb, hml, hown, hts⟩ (c_Bag_store l dC dI cI cL cB ad N0 w (pi j) z P N A q x v (F j) hk hB hR) (cwV 3 hts (gI_V k_211 k_208 k_209 k_210 k_22) rfl rfl rfl (by decide +kernel) ⟨Nat.le_of_ble_eq_true rfl, Nat.le_of_ble_eq_true rfl⟩) (q_preV hK hAm hZ hN [.int q, .long x, .long v] (bb (pi j)) 0 (by have := bb_r hk; omega) hB.1 rfl) rfl rfl hl.1 rfl (lv_room (Nat.le_of_ble_eq_true rfl)) d_CB_set_18 ⟨Nat.zero_le _, Nat.zero_le _⟩) hZ (fun r u_r H locs h_r hZ => ?_)
  exact q_zret hx hb hr (show narrow .boolean (.int r) = .int r from by rcases h_r with ⟨_, e9, _⟩ | ⟨_, e9, _⟩ <;> rw [e9] <;> rfl) hlocks hK hAm hZ hN (h_r.elim (fun ⟨a1, a2, ⟨z2, P2, N2, A2, a3, a4⟩, a5⟩ => ⟨Or.inl ⟨a1, a2, sC_bag hX hj a5 a3 a4⟩, fun y hy => a5 y (by have := bb_r (hpi j hj).1; omega)⟩) (fun ⟨a1, a2, a3⟩ => ⟨Or.inr ⟨a1, a2, by rw [a3]; exact sC_of hX⟩, fun y _ => by rw [a3]⟩)) d_CB_set_21
set_option maxHeartbeats 4000000 in
set_option maxRecDepth 100000 in
theorem c_CB_put (l : Launch) (dC : Nat → ClassId) (dI : Nat → Nat → Nat) (cI cL cB : ClassId) (ad : Nat → Nat) (N0 : Nat) (w : Nat → va_E) (F : Nat → Int → Int64) (j : Nat) (q : Int32) (x v : Int64) (hC : sC ad cI cL cB w F) (hj : j < 8) (hq : ¬ q < 0 ∧ ¬ 65536 ≤ q) : Met l y_CB_put ws_CB_put ({ frames := 5, cells := 0, slots := 0, locals := 122 } : Room) (va_Pc [.ref (ad 0), .int (nI j), .int q, .long x, .long v] (sPr (dC, dI) vCl [(cI, .int), (cL, .long), (cB, .object "CoinBag$Bag")] 52 ad N0 w)) (va_Qi (fun r u => (((fH 0 (F j (kv q x)) v ∧ eC (fUp (F j) (kv q x) (F j (kv q x) + v))) ∧ r = 1 ∧ sC ad cI cL cB u (va_up F j (fUp (F j) (kv q x) (F j (kv q x) + v)))) ∨ (¬ (fH 0 (F j (kv q x)) v ∧ eC (fUp (F j) (kv q x) (F j (kv q x) + v))) ∧ r = 0 ∧ sC ad cI cL cB u F)) ∧ ∀ y, 43 ≤ y → u y = w y) (sPr (dC, dI) vCl [(cI, .int), (cL, .long), (cB, .object "CoinBag$Bag")] 52 ad N0) (fun q => N0 ≤ q)) 0 0 (fun q => N0 ≤ q) := by
  refine Met.ofW (cc := b_CB_put) (maxL := 9) (ret := (some .boolean)) (by decide) rfl ?_
  intro p e s m args below meth c s₁ B hml hv
  obtain ⟨rfl, hP, hK, hD, hN, hAm⟩ := hv
  have hx := B.exec
  have hb := B.bytes
  have hr := B.returns
  have hts := atoms_spec (ws := ws_CB_put) B.pre
  have hown : s.vm.findClass "CoinBag" = some m.cls := findClass_of_methodNamed B.named
  have hlocks := B.notSynchronized
  have hZ : sZ (dC, dI) vCl 52 ad (fun q => N0 ≤ q) s.heap w s.heap [] := ⟨hP, hD, va_S.rf⟩
  have hl := lv_entry ([.ref (ad 0), .int (nI j), .int q, .long x, .long v]) (n := 9) (Nat.le_of_ble_eq_true rfl)
  rw [lg_entry_eq]
  generalize (lg_sl ([.ref (ad 0), .int (nI j), .int q, .long x, .long v]) ++ List.replicate (9 - (lg_sl ([.ref (ad 0), .int (nI j), .int q, .long x, .long v])).length) Slot.unset).toArray = ls at hl ⊢
  have hl : lv_has ls 9 [(0, .ref (ad 0)), (1, .int (nI j)), (2, .int q), (3, .long x), (5, .long v)] := hl
  obtain ⟨f, pi, sp, hX⟩ := hC
  have hX : sCx ad cI cL cB w F f pi sp := hX
  obtain ⟨h0, h1, hf, hpi, hinj, hsp, hbg, hspb, hprs⟩ := id hX
  obtain ⟨z, P, N, A, hB, hR⟩ := hbg j hj
  have hk := (hpi j hj).1
  have hz : z ≤ 64 := hB.2.2.2.2
  refine lv_iload_n hx hb d_CB_put_0 rfl (lv_at hl 1 rfl) ?_
  refine q_callSv (va_runS (As := [.int (nI j)]) (rest := []) ⟨hx, hb, hml, hown, hts⟩ (c_CB_requireBag l j hj) (va_cwS 1 hts (gI_S k_120 k_118 k_119 k_21) rfl rfl rfl (by decide +kernel) ⟨Nat.le_of_ble_eq_true rfl, Nat.le_of_ble_eq_true rfl⟩) ⟨fun _ _ _ _ q => q, fun _ _ _ => ⟨rfl, trivial⟩⟩ rfl rfl hl.1 rfl (lv_room (Nat.le_of_ble_eq_true rfl)) d_CB_put_1 ⟨Nat.zero_le _, Nat.zero_le _⟩) ?_
  refine lv_iload_n hx hb d_CB_put_4 rfl (lv_at hl 2 rfl) ?_
  refine q_callSv (va_runS (As := [.int q]) (rest := []) ⟨hx, hb, hml, hown, hts⟩ (c_CB_requirePolicy l q hq) (va_cwS 1 hts (gI_S k_190 k_188 k_189 k_21) rfl rfl rfl (by decide +kernel) ⟨Nat.le_of_ble_eq_true rfl, Nat.le_of_ble_eq_true rfl⟩) ⟨fun _ _ _ _ q => q, fun _ _ _ => ⟨rfl, trivial⟩⟩ rfl rfl hl.1 rfl (lv_room (Nat.le_of_ble_eq_true rfl)) d_CB_put_5 ⟨Nat.zero_le _, Nat.zero_le _⟩) ?_
  refine lv_aload_n hx hb d_CB_put_8 rfl (lv_at hl 0 rfl) ?_
  refine q_get (C := R_CB) (T := T_CB) (N := 3) hx hb hts (fun w h => gm (inT_CB w h)) hown hK hZ (0) (by decide) h0 rfl 0 (by decide) (hts _ (gm k_99)) (fun _ h9 => h9) rfl d_CB_put_9 ?_
  refine lv_iload_n hx hb d_CB_put_12 rfl (lv_at hl 1 rfl) ?_
  refine q_aald hx hb hK hZ (1) 2 (j) (by decide) h1 rfl rfl hj (by decide) (hf j hj) d_CB_put_13 ?_
  refine lv_iload_n hx hb d_CB_put_14 rfl (lv_at hl 2 rfl) ?_
  refine lv_lload_n hx hb d_CB_put_15 rfl (lv_at hl 3 rfl) ?_
  refine q_calll (va_runV (As := [.int q, .long x]) (rest := []) ⟨hx, hb, hml, hown, hts⟩ (c_Bag_amountOf l dC dI cI cL cB ad N0 w (pi j) z P N A q x (F j) hk hB hR) (cwV 2 hts (gI_V k_254 k_251 k_252 k_253 k_22) rfl rfl rfl (by decide +kernel) ⟨Nat.le_of_ble_eq_true rfl, Nat.le_of_ble_eq_true rfl⟩) (q_preV hK hAm hZ hN [.int q, .long x] (bb (pi j)) 0 (by have := bb_r hk; omega) hB.1 rfl) rfl rfl hl.1 rfl (lv_room (Nat.le_of_ble_eq_true rfl)) d_CB_put_16 ⟨Nat.zero_le _, Nat.zero_le _⟩) hZ (fun t u_t H locs h_t hZ => ?_)
  obtain ⟨e_t, h_t⟩ := h_t
  rw [e_t] at hZ
  subst h_t
  refine lv_lstore (lv' := [(7, .long (F j (kv q x))), (0, .ref (ad 0)), (1, .int (nI j)), (2, .int q), (3, .long x), (5, .long v)]) hx hb d_CB_put_19 hl (by decide) rfl (fun ls hl => ?_)
  refine lv_lload hx hb d_CB_put_21 (lv_at hl 0 rfl) ?_
  refine lv_lload hx hb d_CB_put_23 (lv_at hl 5 rfl) ?_
  refine q_callSi (va_runS (As := [.long (F j (kv q x)), .long v]) (rest := []) ⟨hx, hb, hml, hown, hts⟩ (c_CB_sumFits l _ _) (va_cwS 2 hts (gI_S k_257 k_255 k_256 k_21) rfl rfl rfl (by decide +kernel) ⟨Nat.le_of_ble_eq_true rfl, Nat.le_of_ble_eq_true rfl⟩) ⟨fun _ _ _ _ q => q, fun _ _ _ => ⟨rfl, trivial⟩⟩ rfl rfl hl.1 rfl (lv_room (Nat.le_of_ble_eq_true rfl)) d_CB_put_25 ⟨Nat.zero_le _, Nat.zero_le _⟩) (fun s9 h_s9 => ?_)
  refine lv_if_ne (tgt := 33) hx hb d_CB_put_28 (by decide) (fun h28 => ?_) (fun h28 => ?_)
  · skip
    have h_s1 : fH 0 (F j (kv q x)) v := h_s9.elim (fun y => y.1) (fun y => absurd y.2 h28)
    refine lv_aload_n hx hb d_CB_put_33 rfl (lv_at hl 1 rfl) ?_
    refine q_get (C := R_CB) (T := T_CB) (N := 3) hx hb hts (fun w h => gm (inT_CB w h)) hown hK hZ (0) (by decide) h0 rfl 0 (by decide) (hts _ (gm k_99)) (fun _ h9 => h9) rfl d_CB_put_34 ?_
    refine lv_iload_n hx hb d_CB_put_37 rfl (lv_at hl 2 rfl) ?_
    refine q_aald hx hb hK hZ (1) 2 (j) (by decide) h1 rfl rfl hj (by decide) (hf j hj) d_CB_put_38 ?_
    refine lv_iload_n hx hb d_CB_put_39 rfl (lv_at hl 3 rfl) ?_
    refine lv_lload_n hx hb d_CB_put_40 rfl (lv_at hl 4 rfl) ?_
    refine lv_lload hx hb d_CB_put_41 (lv_at hl 0 rfl) ?_
    refine lv_lload hx hb d_CB_put_43 (lv_at hl 5 rfl) ?_
    refine lv_ladd hx hb d_CB_put_45 ?_
    refine q_calli (va_runV (As := [.int q, .long x, .long ((F j (kv q x)) + v)]) (rest := []) ⟨hx, hb, hml, hown, hts⟩ (c_Bag_store l dC dI cI cL cB ad N0 w (pi j) z P N A q x (F j (kv q x) + v) (F j) hk hB hR) (cwV 3 hts (gI_V k_211 k_208 k_209 k_210 k_22) rfl rfl rfl (by decide +kernel) ⟨Nat.le_of_ble_eq_true rfl, Nat.le_of_ble_eq_true rfl⟩) (q_preV hK hAm hZ hN [.int q, .long x, .long ((F j (kv q x)) + v)] (bb (pi j)) 0 (by have := bb_r hk; omega) hB.1 rfl) rfl rfl hl.1 rfl (lv_room (Nat.le_of_ble_eq_true rfl)) d_CB_put_46 ⟨Nat.zero_le _, Nat.zero_le _⟩) hZ (fun r u_r H locs h_r hZ => ?_)
    exact q_zret hx hb hr (show narrow .boolean (.int r) = .int r from by rcases h_r with ⟨_, e9, _⟩ | ⟨_, e9, _⟩ <;> rw [e9] <;> rfl) hlocks hK hAm hZ hN (h_r.elim (fun ⟨a1, a2, ⟨z2, P2, N2, A2, a3, a4⟩, a5⟩ => ⟨Or.inl ⟨⟨h_s1, a1⟩, a2, sC_bag hX hj a5 a3 a4⟩, fun y hy => a5 y (by have := bb_r (hpi j hj).1; omega)⟩) (fun ⟨a1, a2, a3⟩ => ⟨Or.inr ⟨fun y => a1 y.2, a2, by rw [a3]; exact sC_of hX⟩, fun y _ => by rw [a3]⟩)) d_CB_put_49
  · skip
    have h_s0 : ¬ fH 0 (F j (kv q x)) v := h_s9.elim (fun y => absurd (y.2.symm.trans h28) (by decide)) (fun y => y.1)
    refine lv_iconst (v := (nI 0)) hx hb d_CB_put_31 rfl ?_
    exact q_zret hx hb hr rfl hlocks hK hAm hZ hN (⟨Or.inr ⟨fun y => h_s0 y.1, rfl, sC_of hX⟩, fun y _ => rfl⟩) d_CB_put_32
set_option maxHeartbeats 4000000 in
set_option maxRecDepth 100000 in
theorem c_CB_clear (l : Launch) (dC : Nat → ClassId) (dI : Nat → Nat → Nat) (cI cL cB : ClassId) (ad : Nat → Nat) (N0 : Nat) (w : Nat → va_E) (F : Nat → Int → Int64) (j : Nat) (hC : sC ad cI cL cB w F) (hj : j < 8) : Met l y_CB_clear ws_CB_clear ({ frames := 1, cells := 0, slots := 0, locals := 20 } : Room) (va_Pc [.ref (ad 0), .int (nI j)] (sPr (dC, dI) vCl [(cI, .int), (cL, .long), (cB, .object "CoinBag$Bag")] 52 ad N0 w)) (va_Qv (fun u => sC ad cI cL cB u (va_up F j (fun _ => 0)) ∧ ∀ y, 43 ≤ y → u y = w y) (sPr (dC, dI) vCl [(cI, .int), (cL, .long), (cB, .object "CoinBag$Bag")] 52 ad N0) (fun q => N0 ≤ q)) 0 0 (fun q => N0 ≤ q) := by
  refine Met.ofW (cc := b_CB_clear) (maxL := 2) (ret := none) (by decide) rfl ?_
  intro p e s m args below meth c s₁ B hml hv
  obtain ⟨rfl, hP, hK, hD, hN, hAm⟩ := hv
  have hx := B.exec
  have hb := B.bytes
  have hr := B.returns
  have hts := atoms_spec (ws := ws_CB_clear) B.pre
  have hown : s.vm.findClass "CoinBag" = some m.cls := findClass_of_methodNamed B.named
  have hlocks := B.notSynchronized
  have hZ : sZ (dC, dI) vCl 52 ad (fun q => N0 ≤ q) s.heap w s.heap [] := ⟨hP, hD, va_S.rf⟩
  have hl := lv_entry ([.ref (ad 0), .int (nI j)]) (n := 2) (Nat.le_of_ble_eq_true rfl)
  rw [lg_entry_eq]
  generalize (lg_sl ([.ref (ad 0), .int (nI j)]) ++ List.replicate (2 - (lg_sl ([.ref (ad 0), .int (nI j)])).length) Slot.unset).toArray = ls at hl ⊢
  have hl : lv_has ls 2 [(0, .ref (ad 0)), (1, .int (nI j))] := hl
  obtain ⟨f, pi, sp, hX⟩ := hC
  have hX : sCx ad cI cL cB w F f pi sp := hX
  obtain ⟨h0, h1, hf, hpi, hinj, hsp, hbg, hspb, hprs⟩ := id hX
  obtain ⟨z, P, N, A, hB, hR⟩ := hbg j hj
  have hk := (hpi j hj).1
  have hz : z ≤ 64 := hB.2.2.2.2
  refine lv_iload_n hx hb d_CB_clear_0 rfl (lv_at hl 1 rfl) ?_
  refine q_callSv (va_runS (As := [.int (nI j)]) (rest := []) ⟨hx, hb, hml, hown, hts⟩ (c_CB_requireBag l j hj) (va_cwS 1 hts (gI_S k_120 k_118 k_119 k_21) rfl rfl rfl (by decide +kernel) ⟨Nat.le_of_ble_eq_true rfl, Nat.le_of_ble_eq_true rfl⟩) ⟨fun _ _ _ _ q => q, fun _ _ _ => ⟨rfl, trivial⟩⟩ rfl rfl hl.1 rfl (lv_room (Nat.le_of_ble_eq_true rfl)) d_CB_clear_1 ⟨Nat.zero_le _, Nat.zero_le _⟩) ?_
  refine lv_aload_n hx hb d_CB_clear_4 rfl (lv_at hl 0 rfl) ?_
  refine q_get (C := R_CB) (T := T_CB) (N := 3) hx hb hts (fun w h => gm (inT_CB w h)) hown hK hZ (0) (by decide) h0 rfl 0 (by decide) (hts _ (gm k_99)) (fun _ h9 => h9) rfl d_CB_clear_5 ?_
  refine lv_iload_n hx hb d_CB_clear_8 rfl (lv_at hl 1 rfl) ?_
  refine q_aald hx hb hK hZ (1) 2 (j) (by decide) h1 rfl rfl hj (by decide) (hf j hj) d_CB_clear_9 ?_
  refine q_callv (va_runV (As := []) (rest := []) ⟨hx, hb, hml, hown, hts⟩ (c_Bag_empty l dC dI cI cL cB ad N0 w (pi j) z P N A hk hB) (cwV 0 hts (gI_V k_282 k_279 k_280 k_281 k_22) rfl rfl rfl (by decide +kernel) ⟨Nat.le_of_ble_eq_true rfl, Nat.le_of_ble_eq_true rfl⟩) (q_preV hK hAm hZ hN [] (bb (pi j)) 0 (by have := bb_r hk; omega) hB.1 rfl) rfl rfl hl.1 rfl (lv_room (Nat.le_of_ble_eq_true rfl)) d_CB_clear_10 ⟨Nat.zero_le _, Nat.zero_le _⟩) hZ (fun u_r H locs h_r hZ => ?_)
  exact q_vret hx hb hr hlocks hK hAm hZ hN (⟨sC_bag hX hj h_r.2 h_r.1 (cRep_0 _ _ _), fun y hy => h_r.2 y (by have := bb_r (hpi j hj).1; omega)⟩) d_CB_clear_13
set_option maxHeartbeats 4000000 in
set_option maxRecDepth 100000 in
theorem c_CB_amount (l : Launch) (dC : Nat → ClassId) (dI : Nat → Nat → Nat) (cI cL cB : ClassId) (ad : Nat → Nat) (N0 : Nat) (w : Nat → va_E) (F : Nat → Int → Int64) (j : Nat) (q : Int32) (x : Int64) (hC : sC ad cI cL cB w F) (hj : j < 8) (hq : ¬ q < 0 ∧ ¬ 65536 ≤ q) : Met l y_CB_amount ws_CB_amount ({ frames := 5, cells := 0, slots := 0, locals := 119 } : Room) (va_Pc [.ref (ad 0), .int (nI j), .int q, .long x] (sPr (dC, dI) vCl [(cI, .int), (cL, .long), (cB, .object "CoinBag$Bag")] 52 ad N0 w)) (va_Ql (fun r u => u = w ∧ r = F j (kv q x)) (sPr (dC, dI) vCl [(cI, .int), (cL, .long), (cB, .object "CoinBag$Bag")] 52 ad N0) (fun q => N0 ≤ q)) 0 0 (fun q => N0 ≤ q) := by
  refine Met.ofW (cc := b_CB_amount) (maxL := 5) (ret := (some .long)) (by decide) rfl ?_
  intro p e s m args below meth c s₁ B hml hv
  obtain ⟨rfl, hP, hK, hD, hN, hAm⟩ := hv
  have hx := B.exec
  have hb := B.bytes
  have hr := B.returns
  have hts := atoms_spec (ws := ws_CB_amount) B.pre
  have hown : s.vm.findClass "CoinBag" = some m.cls := findClass_of_methodNamed B.named
  have hlocks := B.notSynchronized
  have hZ : sZ (dC, dI) vCl 52 ad (fun q => N0 ≤ q) s.heap w s.heap [] := ⟨hP, hD, va_S.rf⟩
  have hl := lv_entry ([.ref (ad 0), .int (nI j), .int q, .long x]) (n := 5) (Nat.le_of_ble_eq_true rfl)
  rw [lg_entry_eq]
  generalize (lg_sl ([.ref (ad 0), .int (nI j), .int q, .long x]) ++ List.replicate (5 - (lg_sl ([.ref (ad 0), .int (nI j), .int q, .long x])).length) Slot.unset).toArray = ls at hl ⊢
  have hl : lv_has ls 5 [(0, .ref (ad 0)), (1, .int (nI j)), (2, .int q), (3, .long x)] := hl
  obtain ⟨f, pi, sp, hX⟩ := hC
  have hX : sCx ad cI cL cB w F f pi sp := hX
  obtain ⟨h0, h1, hf, hpi, hinj, hsp, hbg, hspb, hprs⟩ := id hX
  obtain ⟨z, P, N, A, hB, hR⟩ := hbg j hj
  have hk := (hpi j hj).1
  have hz : z ≤ 64 := hB.2.2.2.2
  refine lv_iload_n hx hb d_CB_amount_0 rfl (lv_at hl 1 rfl) ?_
  refine q_callSv (va_runS (As := [.int (nI j)]) (rest := []) ⟨hx, hb, hml, hown, hts⟩ (c_CB_requireBag l j hj) (va_cwS 1 hts (gI_S k_120 k_118 k_119 k_21) rfl rfl rfl (by decide +kernel) ⟨Nat.le_of_ble_eq_true rfl, Nat.le_of_ble_eq_true rfl⟩) ⟨fun _ _ _ _ q => q, fun _ _ _ => ⟨rfl, trivial⟩⟩ rfl rfl hl.1 rfl (lv_room (Nat.le_of_ble_eq_true rfl)) d_CB_amount_1 ⟨Nat.zero_le _, Nat.zero_le _⟩) ?_
  refine lv_iload_n hx hb d_CB_amount_4 rfl (lv_at hl 2 rfl) ?_
  refine q_callSv (va_runS (As := [.int q]) (rest := []) ⟨hx, hb, hml, hown, hts⟩ (c_CB_requirePolicy l q hq) (va_cwS 1 hts (gI_S k_190 k_188 k_189 k_21) rfl rfl rfl (by decide +kernel) ⟨Nat.le_of_ble_eq_true rfl, Nat.le_of_ble_eq_true rfl⟩) ⟨fun _ _ _ _ q => q, fun _ _ _ => ⟨rfl, trivial⟩⟩ rfl rfl hl.1 rfl (lv_room (Nat.le_of_ble_eq_true rfl)) d_CB_amount_5 ⟨Nat.zero_le _, Nat.zero_le _⟩) ?_
  refine lv_aload_n hx hb d_CB_amount_8 rfl (lv_at hl 0 rfl) ?_
  refine q_get (C := R_CB) (T := T_CB) (N := 3) hx hb hts (fun w h => gm (inT_CB w h)) hown hK hZ (0) (by decide) h0 rfl 0 (by decide) (hts _ (gm k_99)) (fun _ h9 => h9) rfl d_CB_amount_9 ?_
  refine lv_iload_n hx hb d_CB_amount_12 rfl (lv_at hl 1 rfl) ?_
  refine q_aald hx hb hK hZ (1) 2 (j) (by decide) h1 rfl rfl hj (by decide) (hf j hj) d_CB_amount_13 ?_
  refine lv_iload_n hx hb d_CB_amount_14 rfl (lv_at hl 2 rfl) ?_
  refine lv_lload_n hx hb d_CB_amount_15 rfl (lv_at hl 3 rfl) ?_
  refine q_calll (va_runV (As := [.int q, .long x]) (rest := []) ⟨hx, hb, hml, hown, hts⟩ (c_Bag_amountOf l dC dI cI cL cB ad N0 w (pi j) z P N A q x (F j) hk hB hR) (cwV 2 hts (gI_V k_254 k_251 k_252 k_253 k_22) rfl rfl rfl (by decide +kernel) ⟨Nat.le_of_ble_eq_true rfl, Nat.le_of_ble_eq_true rfl⟩) (q_preV hK hAm hZ hN [.int q, .long x] (bb (pi j)) 0 (by have := bb_r hk; omega) hB.1 rfl) rfl rfl hl.1 rfl (lv_room (Nat.le_of_ble_eq_true rfl)) d_CB_amount_16 ⟨Nat.zero_le _, Nat.zero_le _⟩) hZ (fun t u_t H locs h_t hZ => ?_)
  obtain ⟨e_t, h_t⟩ := h_t
  rw [e_t] at hZ
  subst h_t
  exact q_lret hx hb hr hlocks hK hAm hZ hN (⟨rfl, rfl⟩) d_CB_amount_19
set_option maxHeartbeats 4000000 in
set_option maxRecDepth 100000 in
theorem c_CB_size (l : Launch) (dC : Nat → ClassId) (dI : Nat → Nat → Nat) (cI cL cB : ClassId) (ad : Nat → Nat) (N0 : Nat) (w : Nat → va_E) (F : Nat → Int → Int64) (j : Nat) (hC : sC ad cI cL cB w F) (hj : j < 8) : Met l y_CB_size ws_CB_size ({ frames := 1, cells := 0, slots := 0, locals := 20 } : Room) (va_Pc [.ref (ad 0), .int (nI j)] (sPr (dC, dI) vCl [(cI, .int), (cL, .long), (cB, .object "CoinBag$Bag")] 52 ad N0 w)) (va_Qi (fun r u => u = w ∧ ∃ (z : Nat) (k : Nat → Int), r = nI z ∧ z ≤ 64 ∧ eS z k ∧ eF z k (F j)) (sPr (dC, dI) vCl [(cI, .int), (cL, .long), (cB, .object "CoinBag$Bag")] 52 ad N0) (fun q => N0 ≤ q)) 0 0 (fun q => N0 ≤ q) := by
  refine Met.ofW (cc := b_CB_size) (maxL := 2) (ret := (some .int)) (by decide) rfl ?_
  intro p e s m args below meth c s₁ B hml hv
  obtain ⟨rfl, hP, hK, hD, hN, hAm⟩ := hv
  have hx := B.exec
  have hb := B.bytes
  have hr := B.returns
  have hts := atoms_spec (ws := ws_CB_size) B.pre
  have hown : s.vm.findClass "CoinBag" = some m.cls := findClass_of_methodNamed B.named
  have hlocks := B.notSynchronized
  have hZ : sZ (dC, dI) vCl 52 ad (fun q => N0 ≤ q) s.heap w s.heap [] := ⟨hP, hD, va_S.rf⟩
  have hl := lv_entry ([.ref (ad 0), .int (nI j)]) (n := 2) (Nat.le_of_ble_eq_true rfl)
  rw [lg_entry_eq]
  generalize (lg_sl ([.ref (ad 0), .int (nI j)]) ++ List.replicate (2 - (lg_sl ([.ref (ad 0), .int (nI j)])).length) Slot.unset).toArray = ls at hl ⊢
  have hl : lv_has ls 2 [(0, .ref (ad 0)), (1, .int (nI j))] := hl
  obtain ⟨f, pi, sp, hX⟩ := hC
  have hX : sCx ad cI cL cB w F f pi sp := hX
  obtain ⟨h0, h1, hf, hpi, hinj, hsp, hbg, hspb, hprs⟩ := id hX
  obtain ⟨z, P, N, A, hB, hR⟩ := hbg j hj
  have hk := (hpi j hj).1
  have hz : z ≤ 64 := hB.2.2.2.2
  refine lv_iload_n hx hb d_CB_size_0 rfl (lv_at hl 1 rfl) ?_
  refine q_callSv (va_runS (As := [.int (nI j)]) (rest := []) ⟨hx, hb, hml, hown, hts⟩ (c_CB_requireBag l j hj) (va_cwS 1 hts (gI_S k_120 k_118 k_119 k_21) rfl rfl rfl (by decide +kernel) ⟨Nat.le_of_ble_eq_true rfl, Nat.le_of_ble_eq_true rfl⟩) ⟨fun _ _ _ _ q => q, fun _ _ _ => ⟨rfl, trivial⟩⟩ rfl rfl hl.1 rfl (lv_room (Nat.le_of_ble_eq_true rfl)) d_CB_size_1 ⟨Nat.zero_le _, Nat.zero_le _⟩) ?_
  refine lv_aload_n hx hb d_CB_size_4 rfl (lv_at hl 0 rfl) ?_
  refine q_get (C := R_CB) (T := T_CB) (N := 3) hx hb hts (fun w h => gm (inT_CB w h)) hown hK hZ (0) (by decide) h0 rfl 0 (by decide) (hts _ (gm k_99)) (fun _ h9 => h9) rfl d_CB_size_5 ?_
  refine lv_iload_n hx hb d_CB_size_8 rfl (lv_at hl 1 rfl) ?_
  refine q_aald hx hb hK hZ (1) 2 (j) (by decide) h1 rfl rfl hj (by decide) (hf j hj) d_CB_size_9 ?_
  refine q_get (C := R_Bag) (T := T_Bag) (N := 4) hx hb hts (fun w h => gm (inT_Bag w h)) hown hK hZ (bb (pi j)) (by have := bb_r hk; omega) hB.1 rfl 3 (by decide) (hts _ (gm k_60)) (fun _ h9 => h9) rfl d_CB_size_10 ?_
  exact q_iret hx hb hr hlocks hK hAm hZ hN (⟨rfl, z, _, rfl, hz, hR.2.1, hR.2.2.1⟩) d_CB_size_13
end
section
/-! the class CoinBag: sum, less, least -/
set_option maxHeartbeats 4000000 in
set_option maxRecDepth 100000 in
theorem c_CB_exchangeSpare (l : Launch) (dC : Nat → ClassId) (dI : Nat → Nat → Nat) (cI cL cB : ClassId) (ad : Nat → Nat) (N0 : Nat) (w : Nat → va_E) (f : Nat → Option Nat) (sp kj j z : Nat) (P : Nat → Int32) (N A : Nat → Int64) (h0 : w 0 = .inr (2, [.ref (ad 1), .ref (ad 34), .ref (ad (bb sp))])) (h1 : w 1 = .inl (cB, 8, .inr (.inr (.inr (.inr f))))) (hj : j < 8) (hfj : f j = some (ad (bb kj))) (hsp : sp < 9) (hS : isBag ad cI cL w sp z P N A) : Met l y_CB_exchangeSpare ws_CB_exchangeSpare ({ frames := 0, cells := 0, slots := 0, locals := 0 } : Room) (va_Pc [.ref (ad 0), .int (nI j)] (sPr (dC, dI) vCl [(cI, .int), (cL, .long), (cB, .object "CoinBag$Bag")] 52 ad N0 w)) (va_Qv (fun u => u 0 = .inr (2, [.ref (ad 1), .ref (ad 34), .ref (ad (bb kj))]) ∧ u 1 = .inl (cB, 8, .inr (.inr (.inr (.inr (va_up f j (some (ad (bb sp)))))))) ∧ ∀ x, 2 ≤ x → u x = w x) (sPr (dC, dI) vCl [(cI, .int), (cL, .long), (cB, .object "CoinBag$Bag")] 52 ad N0) (fun q => N0 ≤ q)) 0 0 (fun q => N0 ≤ q) := by
  refine Met.ofW (cc := b_CB_exchangeSpare) (maxL := 3) (ret := none) (by decide) rfl ?_
  intro p e s m args below meth c s₁ B hml hv
  obtain ⟨rfl, hP, hK, hD, hN, hAm⟩ := hv
  have hx := B.exec
  have hb := B.bytes
  have hr := B.returns
  have hts := atoms_spec (ws := ws_CB_exchangeSpare) B.pre
  have hown : s.vm.findClass "CoinBag" = some m.cls := findClass_of_methodNamed B.named
  have hlocks := B.notSynchronized
  have hZ : sZ (dC, dI) vCl 52 ad (fun q => N0 ≤ q) s.heap w s.heap [] := ⟨hP, hD, va_S.rf⟩
  have hl := lv_entry ([.ref (ad 0), .int (nI j)]) (n := 3) (Nat.le_of_ble_eq_true rfl)
  rw [lg_entry_eq]
  generalize (lg_sl ([.ref (ad 0), .int (nI j)]) ++ List.replicate (3 - (lg_sl ([.ref (ad 0), .int (nI j)])).length) Slot.unset).toArray = ls at hl ⊢
  have hl : lv_has ls 3 [(0, .ref (ad 0)), (1, .int (nI j))] := hl
  refine lv_aload_n hx hb d_CB_exchangeSpare_0 rfl (lv_at hl 0 rfl) ?_
  refine q_get (C := R_CB) (T := T_CB) (N := 3) hx hb hts (fun w h => gm (inT_CB w h)) hown hK hZ (0) (by decide) h0 rfl 0 (by decide) (hts _ (gm k_99)) (fun _ h9 => h9) rfl d_CB_exchangeSpare_1 ?_
  refine lv_iload_n hx hb d_CB_exchangeSpare_4 rfl (lv_at hl 1 rfl) ?_
  refine q_aald hx hb hK hZ (1) 2 (j) (by decide) h1 rfl rfl hj (by decide) (hfj) d_CB_exchangeSpare_5 ?_
  refine lv_astore_n (lv' := [(2, .ref (ad (bb kj))), (0, .ref (ad 0)), (1, .int (nI j))]) hx hb d_CB_exchangeSpare_6 rfl hl (by decide) rfl (fun ls hl => ?_)
  refine lv_aload_n hx hb d_CB_exchangeSpare_7 rfl (lv_at hl 1 rfl) ?_
  refine q_get (C := R_CB) (T := T_CB) (N := 3) hx hb hts (fun w h => gm (inT_CB w h)) hown hK hZ (0) (by decide) h0 rfl 0 (by decide) (hts _ (gm k_99)) (fun _ h9 => h9) rfl d_CB_exchangeSpare_8 ?_
  refine lv_iload_n hx hb d_CB_exchangeSpare_11 rfl (lv_at hl 2 rfl) ?_
  refine lv_aload_n hx hb d_CB_exchangeSpare_12 rfl (lv_at hl 1 rfl) ?_
  refine q_get (C := R_CB) (T := T_CB) (N := 3) hx hb hts (fun w h => gm (inT_CB w h)) hown hK hZ (0) (by decide) h0 rfl 2 (by decide) (hts _ (gm k_101)) (fun _ h9 => h9) rfl d_CB_exchangeSpare_13 ?_
  refine q_aast hx hb hK hZ (1) 2 (j) (bb sp) 0 (by decide) (by have := bb_r hsp; omega) h1 rfl hS.1 rfl rfl hj (by decide) d_CB_exchangeSpare_16 (fun H locs hZ => ?_)
  have hZ : sZ (dC, dI) vCl 52 ad (fun q => N0 ≤ q) s.heap (va_up w 1 (.inl (cB, 8, .inr (.inr (.inr (.inr (va_up f j (some (ad (bb sp)))))))))) H locs := hZ
  have h0 : va_up w 1 (.inl (cB, 8, .inr (.inr (.inr (.inr (va_up f j (some (ad (bb sp))))))))) 0 = .inr (2, [.ref (ad 1), .ref (ad 34), .ref (ad (bb sp))]) := (va_up_ne _ _ (by decide)).trans h0
  have h1 : va_up w 1 (.inl (cB, 8, .inr (.inr (.inr (.inr (va_up f j (some (ad (bb sp))))))))) 1 = .inl (cB, 8, .inr (.inr (.inr (.inr (va_up f j (some (ad (bb sp)))))))) := va_up_self _ _ _
  have hkp : ∀ x, 2 ≤ x → va_up w 1 (.inl (cB, 8, .inr (.inr (.inr (.inr (va_up f j (some (ad (bb sp))))))))) x = w x := fun x hx => va_up_ne _ _ (by omega)
  generalize va_up w 1 (.inl (cB, 8, .inr (.inr (.inr (.inr (va_up f j (some (ad (bb sp))))))))) = w1 at hZ h0 h1 hkp
  refine lv_aload_n hx hb d_CB_exchangeSpare_17 rfl (lv_at hl 1 rfl) ?_
  refine lv_aload_n hx hb d_CB_exchangeSpare_18 rfl (lv_at hl 0 rfl) ?_
  refine q_put (C := R_CB) (T := T_CB) (N := 3) (ty := .object "CoinBag$Bag") (v := .ref (ad (bb kj))) hx hb hts (fun w h => gm (inT_CB w h)) ty_CB tyo_CB nm_CB hown hK hZ (0) (by decide) h0 rfl 2 (by decide) (hts _ (gm k_101)) (fun _ h9 => h9) rfl (by decide +kernel) (rfl) (rfl) (Nat.le_of_ble_eq_true rfl) d_CB_exchangeSpare_19 (fun H locs hZ => ?_)
  have hZ : sZ (dC, dI) vCl 52 ad (fun q => N0 ≤ q) s.heap (va_up w1 0 (.inr (2, [.ref (ad 1), .ref (ad 34), .ref (ad (bb kj))]))) H locs := hZ
  have h0 : va_up w1 0 (.inr (2, [.ref (ad 1), .ref (ad 34), .ref (ad (bb kj))])) 0 = .inr (2, [.ref (ad 1), .ref (ad 34), .ref (ad (bb kj))]) := va_up_self _ _ _
  have h1 : va_up w1 0 (.inr (2, [.ref (ad 1), .ref (ad 34), .ref (ad (bb kj))])) 1 = .inl (cB, 8, .inr (.inr (.inr (.inr (va_up f j (some (ad (bb sp)))))))) := (va_up_ne _ _ (by decide)).trans h1
  have hkp : ∀ x, 2 ≤ x → va_up w1 0 (.inr (2, [.ref (ad 1), .ref (ad 34), .ref (ad (bb kj))])) x = w x := fun x hx => (va_up_ne _ _ (by omega)).trans (hkp x hx)
  exact q_vret hx hb hr hlocks hK hAm hZ hN (⟨h0, h1, hkp⟩) d_CB_exchangeSpare_22
set_option maxHeartbeats 4000000 in
set_option maxRecDepth 100000 in
theorem c_CB_combine (l : Launch) (dC : Nat → ClassId) (dI : Nat → Nat → Nat) (cI cL cB : ClassId) (ad : Nat → Nat) (N0 : Nat) (w : Nat → va_E) (F : Nat → Int → Int64) (ja jb jc hw : Nat) (hC : sC ad cI cL cB w F) (hja : ja < 8) (hjb : jb < 8) (hjc : jc < 8) (hh : hw ≤ 2) : Met l y_CB_combine ws_CB_combine ({ frames := 5, cells := 0, slots := 0, locals := 121 } : Room) (va_Pc [.ref (ad 0), .int (nI ja), .int (nI jb), .int (nI jc), .int (nI hw)] (sPr (dC, dI) vCl [(cI, .int), (cL, .long), (cB, .object "CoinBag$Bag")] 52 ad N0 w)) (va_Qi (fun r u => ((((∀ y, fH hw (F ja y) (F jb y)) ∧ eC (gH hw (F ja) (F jb))) ∧ r = 1 ∧ sC ad cI cL cB u (va_up F jc (gH hw (F ja) (F jb)))) ∨ (¬ ((∀ y, fH hw (F ja y) (F jb y)) ∧ eC (gH hw (F ja) (F jb))) ∧ r = 0 ∧ sC ad cI cL cB u F)) ∧ ∀ y, 43 ≤ y → u y = w y) (sPr (dC, dI) vCl [(cI, .int), (cL, .long), (cB, .object "CoinBag$Bag")] 52 ad N0) (fun q => N0 ≤ q)) 0 0 (fun q => N0 ≤ q) := by
  refine Met.ofW (cc := b_CB_combine) (maxL := 10) (ret := (some .boolean)) (by decide) rfl ?_
  intro p e s m args below meth c s₁ B hml hv
  obtain ⟨rfl, hP, hK, hD, hN, hAm⟩ := hv
  have hx := B.exec
  have hb := B.bytes
  have hr := B.returns
  have hts := atoms_spec (ws := ws_CB_combine) B.pre
  have hown : s.vm.findClass "CoinBag" = some m.cls := findClass_of_methodNamed B.named
  have hlocks := B.notSynchronized
  have hZ : sZ (dC, dI) vCl 52 ad (fun q => N0 ≤ q) s.heap w s.heap [] := ⟨hP, hD, va_S.rf⟩
  have hl := lv_entry ([.ref (ad 0), .int (nI ja), .int (nI jb), .int (nI jc), .int (nI hw)]) (n := 10) (Nat.le_of_ble_eq_true rfl)
  rw [lg_entry_eq]
  generalize (lg_sl ([.ref (ad 0), .int (nI ja), .int (nI jb), .int (nI jc), .int (nI hw)]) ++ List.replicate (10 - (lg_sl ([.ref (ad 0), .int (nI ja), .int (nI jb), .int (nI jc), .int (nI hw)])).length) Slot.unset).toArray = ls at hl ⊢
  have hl : lv_has ls 10 [(0, .ref (ad 0)), (1, .int (nI ja)), (2, .int (nI jb)), (3, .int (nI jc)), (4, .int (nI hw))] := hl
  obtain ⟨f, pi, sp, hX⟩ := hC
  have hX : sCx ad cI cL cB w F f pi sp := hX
  obtain ⟨h0, h1, hf, hpi, hinj, hsp, hbg, hspb, hprs⟩ := id hX
  obtain ⟨zs, Ps, Ns, As, hS⟩ := hspb
  have hch : ch2 w w sp := ch2_rf
  obtain ⟨za, Pa, Na, Aa, hBa, hRa⟩ := hbg ja hja
  have hka := (hpi ja hja).1
  have hza : za ≤ 64 := hBa.2.2.2.2
  obtain ⟨zb, Pb, Nb, Ab, hBb, hRb⟩ := hbg jb hjb
  have hkb := (hpi jb hjb).1
  have hzb : zb ≤ 64 := hBb.2.2.2.2
  refine lv_iload_n hx hb d_CB_combine_0 rfl (lv_at hl 1 rfl) ?_
  refine q_callSv (va_runS (As := [.int (nI ja)]) (rest := []) ⟨hx, hb, hml, hown, hts⟩ (c_CB_requireBag l ja hja) (va_cwS 1 hts (gI_S k_120 k_118 k_119 k_21) rfl rfl rfl (by decide +kernel) ⟨Nat.le_of_ble_eq_true rfl, Nat.le_of_ble_eq_true rfl⟩) ⟨fun _ _ _ _ q => q, fun _ _ _ => ⟨rfl, trivial⟩⟩ rfl rfl hl.1 rfl (lv_room (Nat.le_of_ble_eq_true rfl)) d_CB_combine_1 ⟨Nat.zero_le _, Nat.zero_le _⟩) ?_
  refine lv_iload_n hx hb d_CB_combine_4 rfl (lv_at hl 2 rfl) ?_
  refine q_callSv (va_runS (As := [.int (nI jb)]) (rest := []) ⟨hx, hb, hml, hown, hts⟩ (c_CB_requireBag l jb hjb) (va_cwS 1 hts (gI_S k_120 k_118 k_119 k_21) rfl rfl rfl (by decide +kernel) ⟨Nat.le_of_ble_eq_true rfl, Nat.le_of_ble_eq_true rfl⟩) ⟨fun _ _ _ _ q => q, fun _ _ _ => ⟨rfl, trivial⟩⟩ rfl rfl hl.1 rfl (lv_room (Nat.le_of_ble_eq_true rfl)) d_CB_combine_5 ⟨Nat.zero_le _, Nat.zero_le _⟩) ?_
  refine lv_iload_n hx hb d_CB_combine_8 rfl (lv_at hl 3 rfl) ?_
  refine q_callSv (va_runS (As := [.int (nI jc)]) (rest := []) ⟨hx, hb, hml, hown, hts⟩ (c_CB_requireBag l jc hjc) (va_cwS 1 hts (gI_S k_120 k_118 k_119 k_21) rfl rfl rfl (by decide +kernel) ⟨Nat.le_of_ble_eq_true rfl, Nat.le_of_ble_eq_true rfl⟩) ⟨fun _ _ _ _ q => q, fun _ _ _ => ⟨rfl, trivial⟩⟩ rfl rfl hl.1 rfl (lv_room (Nat.le_of_ble_eq_true rfl)) d_CB_combine_9 ⟨Nat.zero_le _, Nat.zero_le _⟩) ?_
  refine lv_aload_n hx hb d_CB_combine_12 rfl (lv_at hl 0 rfl) ?_
  refine q_get (C := R_CB) (T := T_CB) (N := 3) hx hb hts (fun w h => gm (inT_CB w h)) hown hK hZ (0) (by decide) h0 rfl 1 (by decide) (hts _ (gm k_100)) (fun _ h9 => h9) rfl d_CB_combine_13 ?_
  refine lv_aload_n hx hb d_CB_combine_16 rfl (lv_at hl 0 rfl) ?_
  refine q_get (C := R_CB) (T := T_CB) (N := 3) hx hb hts (fun w h => gm (inT_CB w h)) hown hK hZ (0) (by decide) h0 rfl 0 (by decide) (hts _ (gm k_99)) (fun _ h9 => h9) rfl d_CB_combine_17 ?_
  refine lv_iload_n hx hb d_CB_combine_20 rfl (lv_at hl 1 rfl) ?_
  refine q_aald hx hb hK hZ (1) 2 (ja) (by decide) h1 rfl rfl hja (by decide) (hf ja hja) d_CB_combine_21 ?_
  refine lv_aload_n hx hb d_CB_combine_22 rfl (lv_at hl 0 rfl) ?_
  refine q_get (C := R_CB) (T := T_CB) (N := 3) hx hb hts (fun w h => gm (inT_CB w h)) hown hK hZ (0) (by decide) h0 rfl 0 (by decide) (hts _ (gm k_99)) (fun _ h9 => h9) rfl d_CB_combine_23 ?_
  refine lv_iload_n hx hb d_CB_combine_26 rfl (lv_at hl 2 rfl) ?_
  refine q_aald hx hb hK hZ (1) 2 (jb) (by decide) h1 rfl rfl hjb (by decide) (hf jb hjb) d_CB_combine_27 ?_
  obtain ⟨d0, P0, N1, L0, R0, hPr⟩ := hprs
  refine q_callv (va_runV (As := [.ref (ad (bb (pi ja))), .ref (ad (bb (pi jb)))]) (rest := []) ⟨hx, hb, hml, hown, hts⟩ (c_Prs_align l dC dI cI cL cB ad N0 w (pi ja) za Pa Na Aa (pi jb) zb Pb Nb Ab (F ja) (F jb) d0 P0 N1 L0 R0 hka hBa hkb hBb hRa hRb hPr) (cwV 2 hts (gI_V k_274 k_271 k_272 k_273 k_23) rfl rfl rfl (by decide +kernel) ⟨Nat.le_of_ble_eq_true rfl, Nat.le_of_ble_eq_true rfl⟩) (q_preV hK hAm hZ hN [.ref (ad (bb (pi ja))), .ref (ad (bb (pi jb)))] (34) 1 (by decide) hPr.1 rfl) rfl rfl hl.1 rfl (lv_room (Nat.le_of_ble_eq_true rfl)) d_CB_combine_28 ⟨Nat.zero_le _, Nat.zero_le _⟩) hZ (fun u_g H locs h_g hZ => ?_)
  obtain ⟨hfg, d, P, N, L, R, hPr, hp⟩ := h_g
  have hch := ch2_p hch hfg
  have h0 := ch2_0 hX hch
  have h1 := ch2_1 hX hch
  have hS := hS.fr hfg (by have := bb_r hsp; omega)
  have hd : d ≤ 128 := hPr.2.2.2.2.2
  refine lv_aload_n hx hb d_CB_combine_31 rfl (lv_at hl 0 rfl) ?_
  refine q_get (C := R_CB) (T := T_CB) (N := 3) hx hb hts (fun w h => gm (inT_CB w h)) hown hK hZ (0) (by decide) h0 rfl 2 (by decide) (hts _ (gm k_101)) (fun _ h9 => h9) rfl d_CB_combine_32 ?_
  refine q_callv (va_runV (As := []) (rest := []) ⟨hx, hb, hml, hown, hts⟩ (c_Bag_empty l dC dI cI cL cB ad N0 u_g sp zs Ps Ns As hsp hS) (cwV 0 hts (gI_V k_282 k_279 k_280 k_281 k_22) rfl rfl rfl (by decide +kernel) ⟨Nat.le_of_ble_eq_true rfl, Nat.le_of_ble_eq_true rfl⟩) (q_preV hK hAm hZ hN [] (bb sp) 0 (by have := bb_r hsp; omega) hS.1 rfl) rfl rfl hl.1 rfl (lv_room (Nat.le_of_ble_eq_true rfl)) d_CB_combine_35 ⟨Nat.zero_le _, Nat.zero_le _⟩) hZ (fun u_e H locs h_e hZ => ?_)
  obtain ⟨hS, hfe⟩ := h_e
  have hch := ch2_b hch hfe
  have h0 := ch2_0 hX hch
  have h1 := ch2_1 hX hch
  refine lv_iconst (v := (nI 0)) hx hb d_CB_combine_38 rfl ?_
  refine lv_istore (lv' := [(5, .int (nI 0)), (0, .ref (ad 0)), (1, .int (nI ja)), (2, .int (nI jb)), (3, .int (nI jc)), (4, .int (nI hw))]) hx hb d_CB_combine_39 hl (by decide) rfl (fun ls hl => ?_)
  have loop41 : ∀ (fu41 : Nat) (i zs : Nat) (Ps : Nat → Int32) (Ns As : Nat → Int64) (u : Nat → va_E) (H : Heap) (locs : List Loc) (ls : Array Slot), (i ≤ d) → (d + 1 ≤ i + fu41) → (isBag ad cI cL u sp zs Ps Ns As) → (cRep zs Ps Ns As (gS (gH hw (F ja) (F jb)) (sU (kk P N) i))) → (∀ y, y < i → fH hw (L y) (R y)) → (isPrs ad cI cL u d P N L R) → (ch2 w u sp) → sZ (dC, dI) vCl 52 ad (fun q => N0 ≤ q) s.heap u H locs → lv_has ls 10 [(5, .int (nI i)), (0, .ref (ad 0)), (3, .int (nI jc)), (4, .int (nI hw))] → W p l e (headSpec ws_CB_combine ({ frames := 5, cells := 0, slots := 0, locals := 121 } : Room)).room s m ([.ref (ad 0), .int (nI ja), .int (nI jb), .int (nI jc), .int (nI hw)]).toArray below meth c H locs 0 0 (MQ below (va_Qi (fun r u => ((((∀ y, fH hw (F ja y) (F jb y)) ∧ eC (gH hw (F ja) (F jb))) ∧ r = 1 ∧ sC ad cI cL cB u (va_up F jc (gH hw (F ja) (F jb)))) ∨ (¬ ((∀ y, fH hw (F ja y) (F jb y)) ∧ eC (gH hw (F ja) (F jb))) ∧ r = 0 ∧ sC ad cI cL cB u F)) ∧ ∀ y, 43 ≤ y → u y = w y) (sPr (dC, dI) vCl [(cI, .int), (cL, .long), (cB, .object "CoinBag$Bag")] 52 ad N0) (fun q => N0 ≤ q)) ([.ref (ad 0), .int (nI ja), .int (nI jb), .int (nI jc), .int (nI hw)]).toArray s 0 0 (fun q => N0 ≤ q)) (F0 m 41 ls []) := by
    intro fu41
    induction fu41 with
    | zero =>
      intro i zs Ps Ns As u H locs ls hi hf9 hS hR hok hPr hch
      omega
    | succ fu41 ih41 =>
      intro i zs Ps Ns As u H locs ls hi hf9 hS hR hok hPr hch hZ hl
      have h0 := ch2_0 hX hch
      have h1 := ch2_1 hX hch
      refine lv_iload hx hb d_CB_combine_41 (lv_at hl 0 rfl) ?_
      refine lv_aload_n hx hb d_CB_combine_43 rfl (lv_at hl 1 rfl) ?_
      refine q_get (C := R_CB) (T := T_CB) (N := 3) hx hb hts (fun w h => gm (inT_CB w h)) hown hK hZ (0) (by decide) h0 rfl 1 (by decide) (hts _ (gm k_100)) (fun _ h9 => h9) rfl d_CB_combine_44 ?_
      refine q_get (C := R_Prs) (T := T_Prs) (N := 5) hx hb hts (fun w h => gm (inT_Prs w h)) hown hK hZ (34) (by decide) hPr.1 rfl 4 (by decide) (hts _ (gm k_87)) (fun _ h9 => h9) rfl d_CB_combine_47 ?_
      refine lv_icmp_ge (tgt := 138) hx hb d_CB_combine_50 (by decide) (fun h50 => ?_) (fun h50 => ?_)
      · skip
        have h50 : d ≤ i := (nI_leI (a := d) (b := i) (by omega) (by omega)).mp h50
        have ei : i = d := by omega
        rw [ei] at hR hok
        have hRe := lay_end hR (gH_cov hp)
        refine lv_aload_n hx hb d_CB_combine_138 rfl (lv_at hl 1 rfl) ?_
        refine lv_iload_n hx hb d_CB_combine_139 rfl (lv_at hl 2 rfl) ?_
        refine q_callv (va_runV (As := [.int (nI jc)]) (rest := []) ⟨hx, hb, hml, hown, hts⟩ (c_CB_exchangeSpare l dC dI cI cL cB ad N0 u f sp (pi jc) jc zs Ps Ns As h0 h1 hjc (hf jc hjc) hsp hS) (cwV 1 hts (gI_V k_302 k_299 k_301 k_6 k_21) rfl rfl rfl (by decide +kernel) ⟨Nat.le_of_ble_eq_true rfl, Nat.le_of_ble_eq_true rfl⟩) (q_preV hK hAm hZ hN [.int (nI jc)] (0) 2 (by decide) h0 rfl) rfl rfl hl.1 rfl (lv_room (Nat.le_of_ble_eq_true rfl)) d_CB_combine_140 ⟨Nat.zero_le _, Nat.zero_le _⟩) hZ (fun u_x H locs h_x hZ => ?_)
        have hsw := fun G hR hP => sC_swap (G := G) hX hch hjc hS hR hP h_x.1 h_x.2.1 h_x.2.2
        have hkp : ∀ y, 43 ≤ y → u_x y = w y := fun y hy => (h_x.2.2 y (by omega)).trans (hch y (by omega) (by have := bb_r hsp; omega))
        refine lv_iconst (v := (nI 1)) hx hb d_CB_combine_143 rfl ?_
        exact q_zret hx hb hr rfl hlocks hK hAm hZ hN (⟨Or.inl ⟨⟨fH_all hp hok, cRep_C hRe⟩, rfl, hsw _ hRe ⟨_, _, _, _, _, hPr⟩⟩, hkp⟩) d_CB_combine_144
      · skip
        have h50 : i < d := Nat.lt_of_not_le (fun z9 => h50 ((nI_leI (a := d) (b := i) (by omega) (by omega)).mpr z9))
        refine lv_aload_n hx hb d_CB_combine_53 rfl (lv_at hl 1 rfl) ?_
        refine q_get (C := R_CB) (T := T_CB) (N := 3) hx hb hts (fun w h => gm (inT_CB w h)) hown hK hZ (0) (by decide) h0 rfl 1 (by decide) (hts _ (gm k_100)) (fun _ h9 => h9) rfl d_CB_combine_54 ?_
        refine q_get (C := R_Prs) (T := T_Prs) (N := 5) hx hb hts (fun w h => gm (inT_Prs w h)) hown hK hZ (34) (by decide) hPr.1 rfl 2 (by decide) (hts _ (gm k_83)) (fun _ h9 => h9) rfl d_CB_combine_57 ?_
        refine lv_iload hx hb d_CB_combine_60 (lv_at hl 0 rfl) ?_
        refine q_lald hx hb hK hZ (37) 1 (i) (by decide) hPr.2.2.2.1 rfl rfl (by omega) (by decide) d_CB_combine_62 ?_
        refine lv_lstore (lv' := [(6, .long (L i)), (5, .int (nI i)), (0, .ref (ad 0)), (3, .int (nI jc)), (4, .int (nI hw))]) hx hb d_CB_combine_63 hl (by decide) rfl (fun ls hl => ?_)
        refine lv_aload_n hx hb d_CB_combine_65 rfl (lv_at hl 2 rfl) ?_
        refine q_get (C := R_CB) (T := T_CB) (N := 3) hx hb hts (fun w h => gm (inT_CB w h)) hown hK hZ (0) (by decide) h0 rfl 1 (by decide) (hts _ (gm k_100)) (fun _ h9 => h9) rfl d_CB_combine_66 ?_
        refine q_get (C := R_Prs) (T := T_Prs) (N := 5) hx hb hts (fun w h => gm (inT_Prs w h)) hown hK hZ (34) (by decide) hPr.1 rfl 3 (by decide) (hts _ (gm k_85)) (fun _ h9 => h9) rfl d_CB_combine_69 ?_
        refine lv_iload hx hb d_CB_combine_72 (lv_at hl 1 rfl) ?_
        refine q_lald hx hb hK hZ (38) 1 (i) (by decide) hPr.2.2.2.2.1 rfl rfl (by omega) (by decide) d_CB_combine_74 ?_
        refine lv_lstore (lv' := [(8, .long (R i)), (6, .long (L i)), (5, .int (nI i)), (0, .ref (ad 0)), (3, .int (nI jc)), (4, .int (nI hw))]) hx hb d_CB_combine_75 hl (by decide) rfl (fun ls hl => ?_)
        refine lv_iload hx hb d_CB_combine_77 (lv_at hl 5 rfl) ?_
        refine lv_lload hx hb d_CB_combine_79 (lv_at hl 1 rfl) ?_
        refine lv_lload hx hb d_CB_combine_81 (lv_at hl 0 rfl) ?_
        refine q_callSi (va_runS (As := [.int (nI hw), .long (L i), .long (R i)]) (rest := []) ⟨hx, hb, hml, hown, hts⟩ (c_CB_fits l _ _ _ hh) (va_cwS 3 hts (gI_S k_285 k_283 k_284 k_21) rfl rfl rfl (by decide +kernel) ⟨Nat.le_of_ble_eq_true rfl, Nat.le_of_ble_eq_true rfl⟩) ⟨fun _ _ _ _ q => q, fun _ _ _ => ⟨rfl, trivial⟩⟩ rfl rfl hl.1 rfl (lv_room (Nat.le_of_ble_eq_true rfl)) d_CB_combine_83 ⟨Nat.zero_le _, Nat.zero_le _⟩) (fun t h_t => ?_)
        refine lv_if_ne (tgt := 91) hx hb d_CB_combine_86 (by decide) (fun h86 => ?_) (fun h86 => ?_)
        · skip
          have h_t1 : fH hw (L i) (R i) := h_t.elim (fun y => y.1) (fun y => absurd y.2 h86)
          refine lv_aload_n hx hb d_CB_combine_91 rfl (lv_at hl 3 rfl) ?_
          refine q_get (C := R_CB) (T := T_CB) (N := 3) hx hb hts (fun w h => gm (inT_CB w h)) hown hK hZ (0) (by decide) h0 rfl 2 (by decide) (hts _ (gm k_101)) (fun _ h9 => h9) rfl d_CB_combine_92 ?_
          refine lv_aload_n hx hb d_CB_combine_95 rfl (lv_at hl 3 rfl) ?_
          refine q_get (C := R_CB) (T := T_CB) (N := 3) hx hb hts (fun w h => gm (inT_CB w h)) hown hK hZ (0) (by decide) h0 rfl 1 (by decide) (hts _ (gm k_100)) (fun _ h9 => h9) rfl d_CB_combine_96 ?_
          refine q_get (C := R_Prs) (T := T_Prs) (N := 5) hx hb hts (fun w h => gm (inT_Prs w h)) hown hK hZ (34) (by decide) hPr.1 rfl 0 (by decide) (hts _ (gm k_79)) (fun _ h9 => h9) rfl d_CB_combine_99 ?_
          refine lv_iload hx hb d_CB_combine_102 (lv_at hl 2 rfl) ?_
          refine q_iald hx hb hK hZ (35) 0 (i) (by decide) hPr.2.1 rfl rfl (by omega) (by decide) d_CB_combine_104 ?_
          refine lv_aload_n hx hb d_CB_combine_105 rfl (lv_at hl 3 rfl) ?_
          refine q_get (C := R_CB) (T := T_CB) (N := 3) hx hb hts (fun w h => gm (inT_CB w h)) hown hK hZ (0) (by decide) h0 rfl 1 (by decide) (hts _ (gm k_100)) (fun _ h9 => h9) rfl d_CB_combine_106 ?_
          refine q_get (C := R_Prs) (T := T_Prs) (N := 5) hx hb hts (fun w h => gm (inT_Prs w h)) hown hK hZ (34) (by decide) hPr.1 rfl 1 (by decide) (hts _ (gm k_81)) (fun _ h9 => h9) rfl d_CB_combine_109 ?_
          refine lv_iload hx hb d_CB_combine_112 (lv_at hl 2 rfl) ?_
          refine q_lald hx hb hK hZ (36) 1 (i) (by decide) hPr.2.2.1 rfl rfl (by omega) (by decide) d_CB_combine_114 ?_
          refine lv_iload hx hb d_CB_combine_115 (lv_at hl 5 rfl) ?_
          refine lv_lload hx hb d_CB_combine_117 (lv_at hl 1 rfl) ?_
          refine lv_lload hx hb d_CB_combine_119 (lv_at hl 0 rfl) ?_
          have eG : cH hw (L i) (R i) = gH hw (F ja) (F jb) (kk P N i) := by show _ = cH hw _ _; rw [(hp.2.1 i h50).1, (hp.2.1 i h50).2]
          refine q_callSl (va_runS (As := [.int (nI hw), .long (L i), .long (R i)]) (rest := [.long (N i), .int (P i), .ref (ad (bb sp))]) ⟨hx, hb, hml, hown, hts⟩ (c_CB_combined l _ _ _ hh) (va_cwS 3 hts (gI_S k_291 k_289 k_290 k_21) rfl rfl rfl (by decide +kernel) ⟨Nat.le_of_ble_eq_true rfl, Nat.le_of_ble_eq_true rfl⟩) ⟨fun _ _ _ _ q => q, fun _ _ _ => ⟨rfl, trivial⟩⟩ rfl rfl hl.1 rfl (lv_room (Nat.le_of_ble_eq_true rfl)) d_CB_combine_121 ⟨Nat.zero_le _, Nat.zero_le _⟩) (fun v h_v => ?_)
          subst h_v
          refine q_calli (va_runV (As := [.int (P i), .long (N i), .long (cH hw (L i) (R i))]) (rest := []) ⟨hx, hb, hml, hown, hts⟩ (c_Bag_append l dC dI cI cL cB ad N0 u sp zs Ps Ns As (P i) (N i) (cH hw (L i) (R i)) hsp hS) (cwV 3 hts (gI_V k_298 k_295 k_296 k_297 k_22) rfl rfl rfl (by decide +kernel) ⟨Nat.le_of_ble_eq_true rfl, Nat.le_of_ble_eq_true rfl⟩) (q_preV hK hAm hZ hN [.int (P i), .long (N i), .long (cH hw (L i) (R i))] (bb sp) 0 (by have := bb_r hsp; omega) hS.1 rfl) rfl rfl hl.1 rfl (lv_room (Nat.le_of_ble_eq_true rfl)) d_CB_combine_124 ⟨Nat.zero_le _, Nat.zero_le _⟩) hZ (fun r u_r H locs h_r hZ => ?_)
          rcases h_r with ⟨ha, hr1, hu⟩ | ⟨ha, hb9, hr1, hu⟩ | ⟨ha, hb9, hr1, hS9, hfa⟩
          · skip
            subst hr1
            rw [hu] at hZ
            refine lv_if_ne (tgt := 132) hx hb d_CB_combine_127 (by decide) (fun h127 => ?_) (fun h127 => ?_)
            · skip
              have h127 : ¬ 1 = 0 := fun z9 => h127 ((nI_eq (a := 1) (b := 0) (by omega) (by omega)).mpr z9)
              refine lv_iinc (v := (nI (i + 1))) (lv' := [(5, .int (nI (i + 1))), (8, .long (R i)), (6, .long (L i)), (0, .ref (ad 0)), (3, .int (nI jc)), (4, .int (nI hw))]) hx hb d_CB_combine_132 hl (k := 2) rfl (nI_1 _) (by decide) rfl (fun ls hl => ?_)
              refine lv_goto (tgt := 41) hx hb d_CB_combine_135 (by decide) ?_
              exact ih41 (i + 1) zs Ps Ns As u _ _ _ (by omega) (by omega) hS (lay_n hR (by rw [← eG]; exact ha)) (lt_s hok h_t1) hPr hch hZ (lv_sub hl [0, 3, 4, 5] rfl)
            · skip
              have h127 : 1 = 0 := (nI_eq (a := 1) (b := 0) (by omega) (by omega)).mp h127
              exact absurd h127 (by decide)
          · skip
            subst hr1
            rw [hu] at hZ
            refine lv_if_ne (tgt := 132) hx hb d_CB_combine_127 (by decide) (fun h127 => ?_) (fun h127 => ?_)
            · skip
              have h127 : ¬ 0 = 0 := fun z9 => h127 ((nI_eq (a := 0) (b := 0) (by omega) (by omega)).mpr z9)
              exact absurd rfl h127
            · skip
              have h127 : 0 = 0 := (nI_eq (a := 0) (b := 0) (by omega) (by omega)).mp h127
              refine lv_iconst (v := (nI 0)) hx hb d_CB_combine_130 rfl ?_
              exact q_zret hx hb hr rfl hlocks hK hAm hZ hN (⟨Or.inr ⟨fun y => lay_full hR hp.1 h50 hb9 (by rw [← eG]; exact ha) y.2, rfl, sC_spare hX hch ⟨_, _, _, _, hS⟩ ⟨_, _, _, _, _, hPr⟩⟩, fun y hy => hch y (by omega) (by have := bb_r hsp; omega)⟩) d_CB_combine_131
          · skip
            subst hr1
            have hch := ch2_b hch hfa
            have h0 := ch2_0 hX hch
            have h1 := ch2_1 hX hch
            refine lv_if_ne (tgt := 132) hx hb d_CB_combine_127 (by decide) (fun h127 => ?_) (fun h127 => ?_)
            · skip
              have h127 : ¬ 1 = 0 := fun z9 => h127 ((nI_eq (a := 1) (b := 0) (by omega) (by omega)).mpr z9)
              refine lv_iinc (v := (nI (i + 1))) (lv' := [(5, .int (nI (i + 1))), (8, .long (R i)), (6, .long (L i)), (0, .ref (ad 0)), (3, .int (nI jc)), (4, .int (nI hw))]) hx hb d_CB_combine_132 hl (k := 2) rfl (nI_1 _) (by decide) rfl (fun ls hl => ?_)
              refine lv_goto (tgt := 41) hx hb d_CB_combine_135 (by decide) ?_
              exact ih41 (i + 1) _ _ _ _ u_r _ _ _ (by omega) (by omega) hS9 (by have h7 := lay_y hR hp.1 h50 rfl hb9 (by rw [← eG]; exact ha); rw [← eG] at h7; exact h7) (lt_s hok h_t1) (hPr.fr hfa (by have := bb_r hsp; omega)) hch hZ (lv_sub hl [0, 3, 4, 5] rfl)
            · skip
              have h127 : 1 = 0 := (nI_eq (a := 1) (b := 0) (by omega) (by omega)).mp h127
              exact absurd h127 (by decide)
        · skip
          have h_t0 : ¬ fH hw (L i) (R i) := h_t.elim (fun y => absurd (y.2.symm.trans h86) (by decide)) (fun y => y.1)
          refine lv_iconst (v := (nI 0)) hx hb d_CB_combine_89 rfl ?_
          exact q_zret hx hb hr rfl hlocks hK hAm hZ hN (⟨Or.inr ⟨fun y => h_t0 (by rw [(hp.2.1 i h50).1, (hp.2.1 i h50).2]; exact y.1 _), rfl, sC_spare hX hch ⟨_, _, _, _, hS⟩ ⟨_, _, _, _, _, hPr⟩⟩, fun y hy => hch y (by omega) (by have := bb_r hsp; omega)⟩) d_CB_combine_90
  exact loop41 (d + 1) 0 0 Ps Ns As u_e _ _ _ (Nat.zero_le d) (by omega) hS (lay_0 _ _ _) (fun y hy => absurd hy (Nat.not_lt_zero _)) (hPr.fr hfe (by have := bb_r hsp; omega)) hch hZ (lv_sub hl [0, 1, 4, 5] rfl)
set_option maxHeartbeats 4000000 in
set_option maxRecDepth 100000 in
theorem c_CB_sum (l : Launch) (dC : Nat → ClassId) (dI : Nat → Nat → Nat) (cI cL cB : ClassId) (ad : Nat → Nat) (N0 : Nat) (w : Nat → va_E) (F : Nat → Int → Int64) (ja jb jc : Nat) (hC : sC ad cI cL cB w F) (hja : ja < 8) (hjb : jb < 8) (hjc : jc < 8) : Met l y_CB_sum ws_CB_sum ({ frames := 6, cells := 0, slots := 0, locals := 150 } : Room) (va_Pc [.ref (ad 0), .int (nI ja), .int (nI jb), .int (nI jc)] (sPr (dC, dI) vCl [(cI, .int), (cL, .long), (cB, .object "CoinBag$Bag")] 52 ad N0 w)) (va_Qi (fun r u => ((((∀ y, fH 0 (F ja y) (F jb y)) ∧ eC (gH 0 (F ja) (F jb))) ∧ r = 1 ∧ sC ad cI cL cB u (va_up F jc (gH 0 (F ja) (F jb)))) ∨ (¬ ((∀ y, fH 0 (F ja y) (F jb y)) ∧ eC (gH 0 (F ja) (F jb))) ∧ r = 0 ∧ sC ad cI cL cB u F)) ∧ ∀ y, 43 ≤ y → u y = w y) (sPr (dC, dI) vCl [(cI, .int), (cL, .long), (cB, .object "CoinBag$Bag")] 52 ad N0) (fun q => N0 ≤ q)) 0 0 (fun q => N0 ≤ q) := by
  refine Met.ofW (cc := b_CB_sum) (maxL := 4) (ret := (some .boolean)) (by decide) rfl ?_
  intro p e s m args below meth c s₁ B hml hv
  obtain ⟨rfl, hP, hK, hD, hN, hAm⟩ := hv
  have hx := B.exec
  have hb := B.bytes
  have hr := B.returns
  have hts := atoms_spec (ws := ws_CB_sum) B.pre
  have hown : s.vm.findClass "CoinBag" = some m.cls := findClass_of_methodNamed B.named
  have hlocks := B.notSynchronized
  have hZ : sZ (dC, dI) vCl 52 ad (fun q => N0 ≤ q) s.heap w s.heap [] := ⟨hP, hD, va_S.rf⟩
  have hl := lv_entry ([.ref (ad 0), .int (nI ja), .int (nI jb), .int (nI jc)]) (n := 4) (Nat.le_of_ble_eq_true rfl)
  rw [lg_entry_eq]
  generalize (lg_sl ([.ref (ad 0), .int (nI ja), .int (nI jb), .int (nI jc)]) ++ List.replicate (4 - (lg_sl ([.ref (ad 0), .int (nI ja), .int (nI jb), .int (nI jc)])).length) Slot.unset).toArray = ls at hl ⊢
  have hl : lv_has ls 4 [(0, .ref (ad 0)), (1, .int (nI ja)), (2, .int (nI jb)), (3, .int (nI jc))] := hl
  obtain ⟨f, pi, sp, hX⟩ := hC
  have hX : sCx ad cI cL cB w F f pi sp := hX
  obtain ⟨h0, h1, hf, hpi, hinj, hsp, hbg, hspb, hprs⟩ := id hX
  refine lv_aload_n hx hb d_CB_sum_0 rfl (lv_at hl 0 rfl) ?_
  refine lv_iload_n hx hb d_CB_sum_1 rfl (lv_at hl 1 rfl) ?_
  refine lv_iload_n hx hb d_CB_sum_2 rfl (lv_at hl 2 rfl) ?_
  refine lv_iload_n hx hb d_CB_sum_3 rfl (lv_at hl 3 rfl) ?_
  refine lv_iconst (v := (nI 0)) hx hb d_CB_sum_4 rfl ?_
  refine q_calli (va_runV (As := [.int (nI ja), .int (nI jb), .int (nI jc), .int (nI 0)]) (rest := []) ⟨hx, hb, hml, hown, hts⟩ (c_CB_combine l dC dI cI cL cB ad N0 w F ja jb jc 0 (sC_of hX) hja hjb hjc (by decide)) (cwV 4 hts (gI_V k_270 k_267 k_269 k_5 k_21) rfl rfl rfl (by decide +kernel) ⟨Nat.le_of_ble_eq_true rfl, Nat.le_of_ble_eq_true rfl⟩) (q_preV hK hAm hZ hN [.int (nI ja), .int (nI jb), .int (nI jc), .int (nI 0)] (0) 2 (by decide) h0 rfl) rfl rfl hl.1 rfl (lv_room (Nat.le_of_ble_eq_true rfl)) d_CB_sum_5 ⟨Nat.zero_le _, Nat.zero_le _⟩) hZ (fun r u_r H locs h_r hZ => ?_)
  exact q_zret hx hb hr (show narrow .boolean (.int r) = .int r from by rcases h_r.1 with ⟨_, e9, _⟩ | ⟨_, e9, _⟩ <;> rw [e9] <;> rfl) hlocks hK hAm hZ hN (h_r) d_CB_sum_8
set_option maxHeartbeats 4000000 in
set_option maxRecDepth 100000 in
theorem c_CB_less (l : Launch) (dC : Nat → ClassId) (dI : Nat → Nat → Nat) (cI cL cB : ClassId) (ad : Nat → Nat) (N0 : Nat) (w : Nat → va_E) (F : Nat → Int → Int64) (ja jb jc : Nat) (hC : sC ad cI cL cB w F) (hja : ja < 8) (hjb : jb < 8) (hjc : jc < 8) : Met l y_CB_less ws_CB_less ({ frames := 6, cells := 0, slots := 0, locals := 150 } : Room) (va_Pc [.ref (ad 0), .int (nI ja), .int (nI jb), .int (nI jc)] (sPr (dC, dI) vCl [(cI, .int), (cL, .long), (cB, .object "CoinBag$Bag")] 52 ad N0 w)) (va_Qi (fun r u => ((((∀ y, fH 1 (F ja y) (F jb y)) ∧ eC (gH 1 (F ja) (F jb))) ∧ r = 1 ∧ sC ad cI cL cB u (va_up F jc (gH 1 (F ja) (F jb)))) ∨ (¬ ((∀ y, fH 1 (F ja y) (F jb y)) ∧ eC (gH 1 (F ja) (F jb))) ∧ r = 0 ∧ sC ad cI cL cB u F)) ∧ ∀ y, 43 ≤ y → u y = w y) (sPr (dC, dI) vCl [(cI, .int), (cL, .long), (cB, .object "CoinBag$Bag")] 52 ad N0) (fun q => N0 ≤ q)) 0 0 (fun q => N0 ≤ q) := by
  refine Met.ofW (cc := b_CB_less) (maxL := 4) (ret := (some .boolean)) (by decide) rfl ?_
  intro p e s m args below meth c s₁ B hml hv
  obtain ⟨rfl, hP, hK, hD, hN, hAm⟩ := hv
  have hx := B.exec
  have hb := B.bytes
  have hr := B.returns
  have hts := atoms_spec (ws := ws_CB_less) B.pre
  have hown : s.vm.findClass "CoinBag" = some m.cls := findClass_of_methodNamed B.named
  have hlocks := B.notSynchronized
  have hZ : sZ (dC, dI) vCl 52 ad (fun q => N0 ≤ q) s.heap w s.heap [] := ⟨hP, hD, va_S.rf⟩
  have hl := lv_entry ([.ref (ad 0), .int (nI ja), .int (nI jb), .int (nI jc)]) (n := 4) (Nat.le_of_ble_eq_true rfl)
  rw [lg_entry_eq]
  generalize (lg_sl ([.ref (ad 0), .int (nI ja), .int (nI jb), .int (nI jc)]) ++ List.replicate (4 - (lg_sl ([.ref (ad 0), .int (nI ja), .int (nI jb), .int (nI jc)])).length) Slot.unset).toArray = ls at hl ⊢
  have hl : lv_has ls 4 [(0, .ref (ad 0)), (1, .int (nI ja)), (2, .int (nI jb)), (3, .int (nI jc))] := hl
  obtain ⟨f, pi, sp, hX⟩ := hC
  have hX : sCx ad cI cL cB w F f pi sp := hX
  obtain ⟨h0, h1, hf, hpi, hinj, hsp, hbg, hspb, hprs⟩ := id hX
  refine lv_aload_n hx hb d_CB_less_0 rfl (lv_at hl 0 rfl) ?_
  refine lv_iload_n hx hb d_CB_less_1 rfl (lv_at hl 1 rfl) ?_
  refine lv_iload_n hx hb d_CB_less_2 rfl (lv_at hl 2 rfl) ?_
  refine lv_iload_n hx hb d_CB_less_3 rfl (lv_at hl 3 rfl) ?_
  refine lv_iconst (v := (nI 1)) hx hb d_CB_less_4 rfl ?_
  refine q_calli (va_runV (As := [.int (nI ja), .int (nI jb), .int (nI jc), .int (nI 1)]) (rest := []) ⟨hx, hb, hml, hown, hts⟩ (c_CB_combine l dC dI cI cL cB ad N0 w F ja jb jc 1 (sC_of hX) hja hjb hjc (by decide)) (cwV 4 hts (gI_V k_270 k_267 k_269 k_5 k_21) rfl rfl rfl (by decide +kernel) ⟨Nat.le_of_ble_eq_true rfl, Nat.le_of_ble_eq_true rfl⟩) (q_preV hK hAm hZ hN [.int (nI ja), .int (nI jb), .int (nI jc), .int (nI 1)] (0) 2 (by decide) h0 rfl) rfl rfl hl.1 rfl (lv_room (Nat.le_of_ble_eq_true rfl)) d_CB_less_5 ⟨Nat.zero_le _, Nat.zero_le _⟩) hZ (fun r u_r H locs h_r hZ => ?_)
  exact q_zret hx hb hr (show narrow .boolean (.int r) = .int r from by rcases h_r.1 with ⟨_, e9, _⟩ | ⟨_, e9, _⟩ <;> rw [e9] <;> rfl) hlocks hK hAm hZ hN (h_r) d_CB_less_8
set_option maxHeartbeats 4000000 in
set_option maxRecDepth 100000 in
theorem c_CB_least (l : Launch) (dC : Nat → ClassId) (dI : Nat → Nat → Nat) (cI cL cB : ClassId) (ad : Nat → Nat) (N0 : Nat) (w : Nat → va_E) (F : Nat → Int → Int64) (ja jb jc : Nat) (hC : sC ad cI cL cB w F) (hja : ja < 8) (hjb : jb < 8) (hjc : jc < 8) : Met l y_CB_least ws_CB_least ({ frames := 6, cells := 0, slots := 0, locals := 150 } : Room) (va_Pc [.ref (ad 0), .int (nI ja), .int (nI jb), .int (nI jc)] (sPr (dC, dI) vCl [(cI, .int), (cL, .long), (cB, .object "CoinBag$Bag")] 52 ad N0 w)) (va_Qi (fun r u => ((((∀ y, fH 2 (F ja y) (F jb y)) ∧ eC (gH 2 (F ja) (F jb))) ∧ r = 1 ∧ sC ad cI cL cB u (va_up F jc (gH 2 (F ja) (F jb)))) ∨ (¬ ((∀ y, fH 2 (F ja y) (F jb y)) ∧ eC (gH 2 (F ja) (F jb))) ∧ r = 0 ∧ sC ad cI cL cB u F)) ∧ ∀ y, 43 ≤ y → u y = w y) (sPr (dC, dI) vCl [(cI, .int), (cL, .long), (cB, .object "CoinBag$Bag")] 52 ad N0) (fun q => N0 ≤ q)) 0 0 (fun q => N0 ≤ q) := by
  refine Met.ofW (cc := b_CB_least) (maxL := 4) (ret := (some .boolean)) (by decide) rfl ?_
  intro p e s m args below meth c s₁ B hml hv
  obtain ⟨rfl, hP, hK, hD, hN, hAm⟩ := hv
  have hx := B.exec
  have hb := B.bytes
  have hr := B.returns
  have hts := atoms_spec (ws := ws_CB_least) B.pre
  have hown : s.vm.findClass "CoinBag" = some m.cls := findClass_of_methodNamed B.named
  have hlocks := B.notSynchronized
  have hZ : sZ (dC, dI) vCl 52 ad (fun q => N0 ≤ q) s.heap w s.heap [] := ⟨hP, hD, va_S.rf⟩
  have hl := lv_entry ([.ref (ad 0), .int (nI ja), .int (nI jb), .int (nI jc)]) (n := 4) (Nat.le_of_ble_eq_true rfl)
  rw [lg_entry_eq]
  generalize (lg_sl ([.ref (ad 0), .int (nI ja), .int (nI jb), .int (nI jc)]) ++ List.replicate (4 - (lg_sl ([.ref (ad 0), .int (nI ja), .int (nI jb), .int (nI jc)])).length) Slot.unset).toArray = ls at hl ⊢
  have hl : lv_has ls 4 [(0, .ref (ad 0)), (1, .int (nI ja)), (2, .int (nI jb)), (3, .int (nI jc))] := hl
  obtain ⟨f, pi, sp, hX⟩ := hC
  have hX : sCx ad cI cL cB w F f pi sp := hX
  obtain ⟨h0, h1, hf, hpi, hinj, hsp, hbg, hspb, hprs⟩ := id hX
  refine lv_aload_n hx hb d_CB_least_0 rfl (lv_at hl 0 rfl) ?_
  refine lv_iload_n hx hb d_CB_least_1 rfl (lv_at hl 1 rfl) ?_
  refine lv_iload_n hx hb d_CB_least_2 rfl (lv_at hl 2 rfl) ?_
  refine lv_iload_n hx hb d_CB_least_3 rfl (lv_at hl 3 rfl) ?_
  refine lv_iconst (v := (nI 2)) hx hb d_CB_least_4 rfl ?_
  refine q_calli (va_runV (As := [.int (nI ja), .int (nI jb), .int (nI jc), .int (nI 2)]) (rest := []) ⟨hx, hb, hml, hown, hts⟩ (c_CB_combine l dC dI cI cL cB ad N0 w F ja jb jc 2 (sC_of hX) hja hjb hjc (by decide)) (cwV 4 hts (gI_V k_270 k_267 k_269 k_5 k_21) rfl rfl rfl (by decide +kernel) ⟨Nat.le_of_ble_eq_true rfl, Nat.le_of_ble_eq_true rfl⟩) (q_preV hK hAm hZ hN [.int (nI ja), .int (nI jb), .int (nI jc), .int (nI 2)] (0) 2 (by decide) h0 rfl) rfl rfl hl.1 rfl (lv_room (Nat.le_of_ble_eq_true rfl)) d_CB_least_5 ⟨Nat.zero_le _, Nat.zero_le _⟩) hZ (fun r u_r H locs h_r hZ => ?_)
  exact q_zret hx hb hr (show narrow .boolean (.int r) = .int r from by rcases h_r.1 with ⟨_, e9, _⟩ | ⟨_, e9, _⟩ <;> rw [e9] <;> rfl) hlocks hK hAm hZ hN (h_r) d_CB_least_8
end
