/-! throwing: the class's own refusals -/
def okB (b : Int32) : Prop := ¬ b < 0 ∧ ¬ nI 8 ≤ b
def okP (q : Int32) : Prop := ¬ q < 0 ∧ ¬ 65536 ≤ q
theorem okB_nat {b : Int32} (h : okB b) : ∃ j, j < 8 ∧ b = nI j := by
  have h1 : ¬ b.toInt < 0 := fun z => h.1 (Int32.lt_iff_toInt_lt.mpr (by simpa using z))
  have h2 : ¬ 8 ≤ b.toInt := fun z => h.2 (Int32.le_iff_toInt_le.mpr (by rw [show (nI 8).toInt = 8 from by decide]; exact z))
  refine ⟨b.toInt.toNat, by omega, ?_⟩
  have e : ((b.toInt.toNat : Nat) : Int) = b.toInt := by omega
  apply Int32.toInt_inj.mp
  rw [show (nI b.toInt.toNat).toInt = (b.toInt.toNat : Int) from nI_toInt (by omega), e]
theorem okB_nI {j : Nat} (h : j < 8) : okB (nI j) := by
  have e : (nI j).toInt = (j : Int) := nI_toInt (by omega)
  refine ⟨fun z => ?_, fun z => ?_⟩
  · have := Int32.lt_iff_toInt_lt.mp z
    rw [e, show (0 : Int32).toInt = 0 from by decide] at this
    omega
  · have := Int32.le_iff_toInt_le.mp z
    rw [e, show (nI 8).toInt = 8 from by decide] at this
    omega
theorem c_CB_requireBag2 (l : Launch) (b : Int32) (h : okB b) : Met l y_CB_requireBag ws_CB_requireBag ({ frames := 0, cells := 0, slots := 0, locals := 0 } : Room) (va_Pc [.int b] (fun _ => True)) qSv 0 0 (fun _ => False) := by
  obtain ⟨j, hj, e⟩ := okB_nat h
  rw [e]
  exact c_CB_requireBag l j hj
def qF : Array Value → State → Outcome → State → Prop := fun _ _ _ _ => False
/-- E is thrown, the world is as it was -/
def sX (D : va_G) (cl : List vw_C) (n : Nat) (ad : Nat → Nat) (N0 : Nat) (E : String) (w : Nat → va_E) : String → State → State → Prop :=
  vx_X (fun u : Nat → va_E => u = w) (fun E' u t => E' = E ∧ va_P D cl (wsW n ad u) t.heap ∧ va_D (fun q => N0 ≤ q) (wsW n ad u)) (fun q => N0 ≤ q)
section QX
variable {p : Program} {l : Launch} {e : Env} {R : Room} {s : State} {m : MethodId} {args : Array Value} {below : List Frame} {meth : Method} {c : Code} {H : Heap} {locs : List Loc} {Q : State → Prop}
variable {cc : ByteArray} {pc : Nat} {ls : Array Slot} {rest st0 : List Value} {D : va_G} {cl : List vw_C} {tys : List (ClassId × FieldType)} {n N0 : Nat} {ad : Nat → Nat} {w : Nat → va_E} {H0 : Heap} {E : String}
theorem q_xcall {a : Array Value} (hr : vx_Run p l e R s m args below meth c H locs 0 0 1 6 (F0 m pc ls st0) rest (qF a) (sX D cl n ad N0 E w) (fun q => N0 ≤ q)) (hZ : sZ D cl n ad (fun q => N0 ≤ q) H0 w H locs)
    (kk : ∀ (ce : Cell) (q9 : Addr) (H1 : Heap) (locs1 : List Loc), sZ D cl n ad (fun q => N0 ≤ q) H0 w H1 locs1 → H1[q9]? = some ce → ce.vm = .none → s.vm.findClass E = some ce.cls → vx_W p l e R s m args below meth c H1 locs1 1 6 Q (F0 m pc ls rest) q9) :
    W p l e R s m args below meth c H locs 0 0 Q (F0 m pc ls st0) := by
  intro T hT X
  rcases hr T hT X with ⟨v, st₀, t, T', L, h0, X', hL, e1, e2, hq, st⟩ | ⟨q, st₀, t, T', L, E', ce, h0, X', hL, e1, e2, ⟨u, hu, ⟨hE, hP, hD⟩, hF⟩, hce, hcv, hcl, st⟩
  · exact hq.elim
  · subst hu
    subst hE
    obtain ⟨k1, k2, k3⟩ := vx_keep h0 e1 hZ.2.2 (fun _ _ h => h) (fun _ h => h) hL hF
    obtain ⟨t2, a1, b1⟩ := kk ce q T'.heap (locs ++ L) ⟨by rw [e1]; exact hP, hD, k3⟩ (by rw [e1]; exact hce) hcv hcl T' rfl X'
    exact ⟨t2, st.trans a1, b1⟩
/-- a callee throws, and nothing here catches it -/
theorem q_xpass {a : Array Value} (hno : ∀ x ∈ c.exceptionTable.toList, False) (hlocks : meth.locks = false) (hr : vx_Run p l e R s m args below meth c H locs 0 0 1 6 (F0 m pc ls st0) rest (qF a) (sX D cl n ad N0 E w) (fun q => N0 ≤ q)) (hZ : sZ D cl n ad (fun q => N0 ≤ q) s.heap w H locs) :
    W p l e R s m args below meth c H locs 0 0 (vx_MQ below qF (sX D cl n ad N0 E w) args s 1 6 (fun q => N0 ≤ q)) (F0 m pc ls st0) :=
  q_xcall hr hZ (fun _ _ _ _ hZ1 hce hcv hcl => vx_out (fun x hx => (hno x hx).elim) hlocks hce hcv hcl (fun t ht _ => ⟨w, rfl, ⟨rfl, by rw [ht]; exact hZ1.1, hZ1.2.1⟩, hZ1.2.2.F ht⟩) hZ1.2.2.2.2 (Nat.le_refl _) (Nat.le_refl _))
/-- 'throw new E("text")' -/
theorem q_thr {cls text : String} {ik is ic sa : Nat} {c2 : Cond} (hx : p.tables.exec = Jvm.exec) (hb : c.code = cc) (hfl : l.stackTraces = false) (hts : ∀ w ∈ c2 :: gW, w.before args s = true) (hown : s.vm.findClass "CoinBag" = some m.cls) (hno : ∀ x ∈ c.exceptionTable.toList, False) (hlocks : meth.locks = false)
    (hAm : sAm N0 s) (hZ : sZ D cl n ad (fun q => N0 ≤ q) s.heap w H locs) (hcls : Bundle.fit cls = true) (hlk : .classLink "CoinBag" ik cls ∈ gW) (hin : .initialized cls ∈ gW) (hstr : vk_R "CoinBag" is text sa s)
    (hat : ∀ w ∈ vx_atS "CoinBag" ic cls ["java/lang/RuntimeException", "java/lang/Exception"], w ∈ gW ∨ w ∈ fW) (hgood : ∀ w ∈ Cond.classLink "CoinBag" ik cls :: Cond.initialized cls :: vx_atS "CoinBag" ic cls ["java/lang/RuntimeException", "java/lang/Exception"], vx_ot w = true) (hsize : ls.size = c.maxLocals)
    (d0 : decode cc pc = .ok (.new ik, 3)) (d3 : decode cc (pc + 3) = .ok (.dup, 1)) (d4 : decode cc (pc + 4) = .ok (.ldc is, 2)) (d6 : decode cc (pc + 6) = .ok (.invokespecial ic, 3)) (d9 : decode cc (pc + 9) = .ok (.athrow, 1))
    (hR : 5 < R.frames ∧ 82 ≤ R.locals ∧ 1 ≤ R.cells ∧ 6 ≤ R.slots) :
    W p l e R s m args below meth c H locs 0 0 (vx_MQ below qF (sX D cl n ad N0 cls w) args s 1 6 (fun q => N0 ≤ q)) (F0 m pc ls []) := by
  refine vx_throwS hx hb hfl (own := "CoinBag") (names := ["java/lang/RuntimeException", "java/lang/Exception"]) hown hcls (by decide +kernel) (hts _ (gm hlk)) (hts _ (gm hin)) hstr (fun w hw => ?_) hgood hAm.2.2.2.2.2.1 hAm.2.2.2.2.2.2.1 hZ.2.2 hsize d0 d3 d4 d6 d9 (fun x h => (hno x h).elim) hR.1 hR.2.1 (by rw [Nat.zero_add]; exact hR.2.2.1) (by rw [Nat.zero_add]; exact hR.2.2.2) hlocks
    (fun t _ h1 h2 => ⟨w, rfl, ⟨rfl, hZ.1.kept (fun k q hk => h2 q.1 (hZ.1 k q hk).lt), hZ.2.1⟩, ?_⟩) hZ.2.2.2.2 (Nat.le_refl _) (Nat.le_refl _)
  · rcases hat w hw with h | h
    · exact hts _ (gm h)
    · have h9 := (List.mem_filter.mp h).2
      simp only [Bool.and_eq_true] at h9
      exact va_Nw.use h9.1 (hAm.1 w h)
  · exact ⟨Nat.le_trans hZ.2.2.1 h1, fun q a1 a2 => (h2 q (Nat.lt_of_lt_of_le a1 hZ.2.2.1)).trans (hZ.2.2.2.1 q a1 a2)⟩
end QX
theorem at_I : ∀ w ∈ vx_atS "CoinBag" 81 "java/lang/IndexOutOfBoundsException" ["java/lang/RuntimeException", "java/lang/Exception"], w ∈ gW ∨ w ∈ fW := by decide +kernel
theorem gd_I : ∀ w ∈ Cond.classLink "CoinBag" 77 "java/lang/IndexOutOfBoundsException" :: Cond.initialized "java/lang/IndexOutOfBoundsException" :: vx_atS "CoinBag" 81 "java/lang/IndexOutOfBoundsException" ["java/lang/RuntimeException", "java/lang/Exception"], vx_ot w = true := by decide +kernel
theorem at_A : ∀ w ∈ vx_atS "CoinBag" 135 "java/lang/IllegalArgumentException" ["java/lang/RuntimeException", "java/lang/Exception"], w ∈ gW ∨ w ∈ fW := by decide +kernel
theorem gd_A : ∀ w ∈ Cond.classLink "CoinBag" 131 "java/lang/IllegalArgumentException" :: Cond.initialized "java/lang/IllegalArgumentException" :: vx_atS "CoinBag" 135 "java/lang/IllegalArgumentException" ["java/lang/RuntimeException", "java/lang/Exception"], vx_ot w = true := by decide +kernel
