/-! System.arraycopy within one row -/
section QCP
variable {p : Program} {l : Launch} {e : Env} {R : Room} {s : State} {m : MethodId} {args : Array Value} {below : List Frame} {meth : Method} {c : Code} {H : Heap} {locs : List Loc} {cells slots : Nat} {Q : State → Prop}
variable {cc : ByteArray} {pc : Nat} {ls : Array Slot} {rest : List Value} {D : va_G} {cl : List vw_C} {A : Nat → Prop} {tys : List (ClassId × FieldType)} {n N0 : Nat} {ad : Nat → Nat} {w : Nat → va_E} {H0 : Heap}
theorem q_cpi {own : String} {index : Nat} (hx : p.tables.exec = Jvm.exec) (hb : c.code = cc) (hml : c.maxLocals = ls.size) (hown : s.vm.findClass own = some m.cls) (hlink : (Cond.methodLink own index arraycopyName).before args s = true) (hnat : (Cond.native arraycopyName).before args s = true) (hstat : (Cond.static arraycopyName).before args s = true) (hini : (Cond.initialized "java/lang/System").before args s = true)
    (hK : va_K D cl tys s) (hZ : sZ D cl n ad A H0 w H locs) (k t0 a b ln : Nat) (hk : k < n) {cA : ClassId} {N : Nat} {f : Nat → Int32} (hw : w k = .inl (cA, N, .inl f)) (ht : tys[t0]? = some (cA, .int)) (h1 : a + ln ≤ N) (h2 : b + ln ≤ N) (hN : N < 2 ^ 31) (hfr : 1 ≤ R.frames) (hlo : (rest.map fun v => v.category).sum + (nativeFrameWords "java/lang/System" "arraycopy" 5 + 11) ≤ R.locals) (hdg : decode cc pc = .ok (.invokestatic index, 3))
    (kk : ∀ (H1 : Heap) (locs1 : List Loc), sZ D cl n ad A H0 (va_up w k (.inl (cA, N, .inl (va_cpy f f a b ln)))) H1 locs1 → W p l e R s m args below meth c H1 locs1 cells slots Q (F0 m (pc + 3) ls rest)) : W p l e R s m args below meth c H locs cells slots Q (F0 m pc ls (.int (nI ln) :: .int (nI b) :: .ref (ad k) :: .int (nI a) :: .ref (ad k) :: rest)) := by
  have ea : (nI a).toNatClampNeg = a := nI_clamp (by omega)
  have eb : (nI b).toNatClampNeg = b := nI_clamp (by omega)
  have el : (nI ln).toNatClampNeg = ln := nI_clamp (by omega)
  refine va_copyi (ty := .int) hx hb hml hown hlink hnat hstat hini hK hZ.1 hZ.2.1 hZ.2.2 k k t0 t0 (wsW_at hk hw) (wsW_at hk hw) ht ht rfl (nI_pos (by omega)) (nI_pos (by omega)) (nI_pos (by omega)) (by rw [ea, el]; exact h1) (by rw [eb, el]; exact h2) (fun i _ => rfl) hfr hlo hdg (fun H1 locs1 g1 g2 g3 => kk H1 locs1 ?_)
  rw [ea, eb, el, wsW_set hk] at g1 g2
  exact ⟨g1, g2, g3⟩
theorem q_cpl {own : String} {index : Nat} (hx : p.tables.exec = Jvm.exec) (hb : c.code = cc) (hml : c.maxLocals = ls.size) (hown : s.vm.findClass own = some m.cls) (hlink : (Cond.methodLink own index arraycopyName).before args s = true) (hnat : (Cond.native arraycopyName).before args s = true) (hstat : (Cond.static arraycopyName).before args s = true) (hini : (Cond.initialized "java/lang/System").before args s = true)
    (hK : va_K D cl tys s) (hZ : sZ D cl n ad A H0 w H locs) (k t0 a b ln : Nat) (hk : k < n) {cA : ClassId} {N : Nat} {f : Nat → Int64} (hw : w k = .inl (cA, N, .inr (.inl f))) (ht : tys[t0]? = some (cA, .long)) (h1 : a + ln ≤ N) (h2 : b + ln ≤ N) (hN : N < 2 ^ 31) (hfr : 1 ≤ R.frames) (hlo : (rest.map fun v => v.category).sum + (nativeFrameWords "java/lang/System" "arraycopy" 5 + 11) ≤ R.locals) (hdg : decode cc pc = .ok (.invokestatic index, 3))
    (kk : ∀ (H1 : Heap) (locs1 : List Loc), sZ D cl n ad A H0 (va_up w k (.inl (cA, N, .inr (.inl (va_cpy f f a b ln))))) H1 locs1 → W p l e R s m args below meth c H1 locs1 cells slots Q (F0 m (pc + 3) ls rest)) : W p l e R s m args below meth c H locs cells slots Q (F0 m pc ls (.int (nI ln) :: .int (nI b) :: .ref (ad k) :: .int (nI a) :: .ref (ad k) :: rest)) := by
  have ea : (nI a).toNatClampNeg = a := nI_clamp (by omega)
  have eb : (nI b).toNatClampNeg = b := nI_clamp (by omega)
  have el : (nI ln).toNatClampNeg = ln := nI_clamp (by omega)
  refine va_copyl (ty := .long) hx hb hml hown hlink hnat hstat hini hK hZ.1 hZ.2.1 hZ.2.2 k k t0 t0 (wsW_at hk hw) (wsW_at hk hw) ht ht rfl (nI_pos (by omega)) (nI_pos (by omega)) (nI_pos (by omega)) (by rw [ea, el]; exact h1) (by rw [eb, el]; exact h2) (fun i _ => rfl) hfr hlo hdg (fun H1 locs1 g1 g2 g3 => kk H1 locs1 ?_)
  rw [ea, eb, el, wsW_set hk] at g1 g2
  exact ⟨g1, g2, g3⟩
end QCP
