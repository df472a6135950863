/-! calls over the world; contracts out of walks -/
section ZQ
variable {p : Program} {l : Launch} {e : Env} {R : Room} {s : State} {m : MethodId} {args : Array Value} {below : List Frame} {meth : Method} {c : Code} {H : Heap} {locs : List Loc} {cells slots : Nat} {Q : State → Prop}
variable {cc : ByteArray} {pc : Nat} {ls : Array Slot} {rest : List Value} {D : va_G} {a : Nat → Nat} {cA : Nat → ClassId} {A : Nat → Prop} {sa : Nat → Nat} {σ σ' : PH} {d d' : PD} {own : String}
variable {y : MethodName} {bytes : ByteArray} {maxL nL f k n index : Nat} {ret : Option FieldType} {As st : List Value} {r0 ci N : Nat} {fs : List (Nat × Nat)} {T : u_T}
theorem zz_pre (C : ZC s m args own D a cA A sa) (hP : va_P D vwCl (wl a cA σ d) H) (hS : va_S A s.heap H locs) (av : List Value) : ∀ U : State, U.heap = H → s.WarmedH U.vm → va_Pc av (PW D a cA A sa σ d) av.toArray U := fun U hU hW =>
  ⟨rfl, by rw [hU]; exact hP, va_K.moved hW.alike C.2.2.1, C.2.2.2.1.at hS hW hU⟩
theorem zz_cwV (C : ZC s m args own D a cA A sa) (Z : ZWV own index y bytes maxL ret n) (hR : f + 1 ≤ R.frames ∧ 8 + (maxL + 11) + k ≤ R.locals) : CallW R s args own y.cls index y bytes maxL ret (.code y bytes maxL ret :: TB) { frames := f, cells := 0, slots := 0, locals := k } 0 0 n := by
  obtain ⟨z1, z2, z3, z4, z5, z6⟩ := Z
  exact ⟨callB_of n C.2.1 (goodT z5) rfl rfl rfl (C.2.1 _ z4) (C.2.1 _ z1) z6 hR, C.2.1 _ z2, C.2.1 _ z3⟩
theorem zz_cwS (C : ZC s m args own D a cA A sa) (Z : ZWS own index y bytes maxL ret n) (hR : f + 1 ≤ R.frames ∧ 8 + (maxL + 11) + k ≤ R.locals) : CallB R s args own index y bytes maxL ret (.code y bytes maxL ret :: TB) { frames := f, cells := 0, slots := 0, locals := k } 0 0 n ∧ (Cond.static y).before args s = true := by
  obtain ⟨z1, z2, z4, z5, z6⟩ := Z
  exact ⟨callB_of n C.2.1 (goodT z5) rfl rfl rfl (C.2.1 _ z4) (C.2.1 _ z1) z6 hR, C.2.1 _ z2⟩
theorem zz_callVi (hx : p.tables.exec = Jvm.exec) (hb : c.code = cc) (hml : c.maxLocals = nL) (C : ZC s m args own D a cA A sa) (hP : va_P D vwCl (wl a cA σ d) H) (hS : va_S A s.heap H locs) {rv : Int32} (hM : CTi l y bytes maxL ret f k D a cA A sa (.ref (a r0) :: As) σ d rv σ' d') (Z : ZWV own index y bytes maxL ret n) (hR : f + 1 ≤ R.frames ∧ 8 + (maxL + 11) + k ≤ R.locals) (hr : r0 < NR) (h : lay r0 = (0, ci, fs)) (hc : vwCl[ci]? = some (y.cls, T, N)) (hn : As.length = n) (hls : ls.size = nL) (hw : (rest.map fun v => v.category).sum ≤ 8) (hcs : cells ≤ R.cells ∧ slots ≤ R.slots) (hst : st = As.reverse ++ .ref (a r0) :: rest) (hdg : decode cc pc = .ok (.invokevirtual index, 3))
    (kk : ∀ (H1 : Heap) (locs1 : List Loc), va_P D vwCl (wl a cA σ' d') H1 → va_S A s.heap H1 locs1 → W p l e R s m args below meth c H1 locs1 cells slots Q (F0 m (pc + 3) ls (.int rv :: rest))) : W p l e R s m args below meth c H locs cells slots Q (F0 m pc ls st) := by
  refine va_calli (va_runV (As := As) (rest := rest) ⟨hx, hb, hml, C.1, C.2.1⟩ hM (zz_cwV C Z hR) ⟨PW_blind, wl_recv C.2.2.1 hP hr h hc, zz_pre C hP hS _⟩ rfl hn hls hst (lv_room hw) hdg hcs) hS (fun _ _ h => h) (fun _ h => h) (fun r u t H1 locs1 ht hvm hw2 hB hz1 hk1 hS1 => ?_)
  subst hw2
  exact kk H1 locs1 (by rw [← ht]; exact hB.1) hS1
theorem zz_callVl (hx : p.tables.exec = Jvm.exec) (hb : c.code = cc) (hml : c.maxLocals = nL) (C : ZC s m args own D a cA A sa) (hP : va_P D vwCl (wl a cA σ d) H) (hS : va_S A s.heap H locs) {rv : Int64} (hM : CTl l y bytes maxL ret f k D a cA A sa (.ref (a r0) :: As) σ d rv σ' d') (Z : ZWV own index y bytes maxL ret n) (hR : f + 1 ≤ R.frames ∧ 8 + (maxL + 11) + k ≤ R.locals) (hr : r0 < NR) (h : lay r0 = (0, ci, fs)) (hc : vwCl[ci]? = some (y.cls, T, N)) (hn : As.length = n) (hls : ls.size = nL) (hw : (rest.map fun v => v.category).sum ≤ 8) (hcs : cells ≤ R.cells ∧ slots ≤ R.slots) (hst : st = As.reverse ++ .ref (a r0) :: rest) (hdg : decode cc pc = .ok (.invokevirtual index, 3))
    (kk : ∀ (H1 : Heap) (locs1 : List Loc), va_P D vwCl (wl a cA σ' d') H1 → va_S A s.heap H1 locs1 → W p l e R s m args below meth c H1 locs1 cells slots Q (F0 m (pc + 3) ls (.long rv :: rest))) : W p l e R s m args below meth c H locs cells slots Q (F0 m pc ls st) := by
  refine va_calll (va_runV (As := As) (rest := rest) ⟨hx, hb, hml, C.1, C.2.1⟩ hM (zz_cwV C Z hR) ⟨PW_blind, wl_recv C.2.2.1 hP hr h hc, zz_pre C hP hS _⟩ rfl hn hls hst (lv_room hw) hdg hcs) hS (fun _ _ h => h) (fun _ h => h) (fun r u t H1 locs1 ht hvm hw2 hB hz1 hk1 hS1 => ?_)
  subst hw2
  exact kk H1 locs1 (by rw [← ht]; exact hB.1) hS1
theorem zz_callVv (hx : p.tables.exec = Jvm.exec) (hb : c.code = cc) (hml : c.maxLocals = nL) (C : ZC s m args own D a cA A sa) (hP : va_P D vwCl (wl a cA σ d) H) (hS : va_S A s.heap H locs) (hM : CTv l y bytes maxL ret f k D a cA A sa (.ref (a r0) :: As) σ d σ' d') (Z : ZWV own index y bytes maxL ret n) (hR : f + 1 ≤ R.frames ∧ 8 + (maxL + 11) + k ≤ R.locals) (hr : r0 < NR) (h : lay r0 = (0, ci, fs)) (hc : vwCl[ci]? = some (y.cls, T, N)) (hn : As.length = n) (hls : ls.size = nL) (hw : (rest.map fun v => v.category).sum ≤ 8) (hcs : cells ≤ R.cells ∧ slots ≤ R.slots) (hst : st = As.reverse ++ .ref (a r0) :: rest) (hdg : decode cc pc = .ok (.invokevirtual index, 3))
    (kk : ∀ (H1 : Heap) (locs1 : List Loc), va_P D vwCl (wl a cA σ' d') H1 → va_S A s.heap H1 locs1 → W p l e R s m args below meth c H1 locs1 cells slots Q (F0 m (pc + 3) ls rest)) : W p l e R s m args below meth c H locs cells slots Q (F0 m pc ls st) := by
  refine va_callv (va_runV (As := As) (rest := rest) ⟨hx, hb, hml, C.1, C.2.1⟩ hM (zz_cwV C Z hR) ⟨PW_blind, wl_recv C.2.2.1 hP hr h hc, zz_pre C hP hS _⟩ rfl hn hls hst (lv_room hw) hdg hcs) hS (fun _ _ h => h) (fun _ h => h) (fun u t H1 locs1 ht hvm hw2 hB hz1 hk1 hS1 => ?_)
  exact kk H1 locs1 (by rw [← ht]; exact hB.1) hS1
theorem zz_callSi (hx : p.tables.exec = Jvm.exec) (hb : c.code = cc) (hml : c.maxLocals = nL) (C : ZC s m args own D a cA A sa) (hP : va_P D vwCl (wl a cA σ d) H) (hS : va_S A s.heap H locs) {rv : Int32} (hM : CTi l y bytes maxL ret f k D a cA A sa As σ d rv σ' d') (Z : ZWS own index y bytes maxL ret n) (hR : f + 1 ≤ R.frames ∧ 8 + (maxL + 11) + k ≤ R.locals) (hn : As.length = n) (hls : ls.size = nL) (hw : (rest.map fun v => v.category).sum ≤ 8) (hcs : cells ≤ R.cells ∧ slots ≤ R.slots) (hst : st = As.reverse ++ rest) (hdg : decode cc pc = .ok (.invokestatic index, 3))
    (kk : ∀ (H1 : Heap) (locs1 : List Loc), va_P D vwCl (wl a cA σ' d') H1 → va_S A s.heap H1 locs1 → W p l e R s m args below meth c H1 locs1 cells slots Q (F0 m (pc + 3) ls (.int rv :: rest))) : W p l e R s m args below meth c H locs cells slots Q (F0 m pc ls st) := by
  refine va_calli (va_runS (As := As) (rest := rest) ⟨hx, hb, hml, C.1, C.2.1⟩ hM (zz_cwS C Z hR) ⟨PW_blind, zz_pre C hP hS _⟩ rfl hn hls hst (lv_room hw) hdg hcs) hS (fun _ _ h => h) (fun _ h => h) (fun r u t H1 locs1 ht hvm hw2 hB hz1 hk1 hS1 => ?_)
  subst hw2
  exact kk H1 locs1 (by rw [← ht]; exact hB.1) hS1
theorem zz_callSl (hx : p.tables.exec = Jvm.exec) (hb : c.code = cc) (hml : c.maxLocals = nL) (C : ZC s m args own D a cA A sa) (hP : va_P D vwCl (wl a cA σ d) H) (hS : va_S A s.heap H locs) {rv : Int64} (hM : CTl l y bytes maxL ret f k D a cA A sa As σ d rv σ' d') (Z : ZWS own index y bytes maxL ret n) (hR : f + 1 ≤ R.frames ∧ 8 + (maxL + 11) + k ≤ R.locals) (hn : As.length = n) (hls : ls.size = nL) (hw : (rest.map fun v => v.category).sum ≤ 8) (hcs : cells ≤ R.cells ∧ slots ≤ R.slots) (hst : st = As.reverse ++ rest) (hdg : decode cc pc = .ok (.invokestatic index, 3))
    (kk : ∀ (H1 : Heap) (locs1 : List Loc), va_P D vwCl (wl a cA σ' d') H1 → va_S A s.heap H1 locs1 → W p l e R s m args below meth c H1 locs1 cells slots Q (F0 m (pc + 3) ls (.long rv :: rest))) : W p l e R s m args below meth c H locs cells slots Q (F0 m pc ls st) := by
  refine va_calll (va_runS (As := As) (rest := rest) ⟨hx, hb, hml, C.1, C.2.1⟩ hM (zz_cwS C Z hR) ⟨PW_blind, zz_pre C hP hS _⟩ rfl hn hls hst (lv_room hw) hdg hcs) hS (fun _ _ h => h) (fun _ h => h) (fun r u t H1 locs1 ht hvm hw2 hB hz1 hk1 hS1 => ?_)
  subst hw2
  exact kk H1 locs1 (by rw [← ht]; exact hB.1) hS1
theorem zz_post (C : ZC s m args own D a cA A sa) {locs1 : List Loc} (hP : va_P D vwCl (wl a cA σ' d') H) (hS : va_S A s.heap H locs1) {t : State} (ht : t.heap = H) (hW : s.WarmedH t.vm) : PW D a cA A sa σ' d' t := ⟨by rw [ht]; exact hP, va_K.moved hW.alike C.2.2.1, C.2.2.2.1.at hS hW ht⟩
/-- Math.max, Math.min -/
def mxI (x z : Int32) : Int32 := if x < z then z else x
def mnI (x z : Int32) : Int32 := if z < x then z else x
theorem zz_max (hx : p.tables.exec = Jvm.exec) (hb : c.code = cc) (hml : c.maxLocals = ls.size) (C : ZC s m args own D a cA A sa) (hl : Cond.methodLink own index Lib.Math.max.name ∈ TB) (ht : Cond.static Lib.Math.max.name ∈ TB) (hi : Cond.initialized "java/lang/Math" ∈ TB) (hk : Cond.code Lib.Math.max.name Lib.Math.max.code 2 (some .int) ∈ TB) (hRf : 1 ≤ R.frames) (hRl : (rest.map fun v => v.category).sum + 13 ≤ R.locals) (hcs : cells ≤ R.cells ∧ slots ≤ R.slots) {x z : Int32} (hdg : decode cc pc = .ok (.invokestatic index, 3))
    (kk : W p l e R s m args below meth c H locs cells slots Q (F0 m (pc + 3) ls (.int (mxI x z) :: rest))) : W p l e R s m args below meth c H locs cells slots Q (F0 m pc ls (.int z :: .int x :: rest)) :=
  va_mmax hx hb hml C.1 (C.2.1 _ hl) (C.2.1 _ ht) (C.2.1 _ hi) (C.2.1 _ hk) hRf hRl hcs.1 hcs.2 hdg kk
theorem zz_min (hx : p.tables.exec = Jvm.exec) (hb : c.code = cc) (hml : c.maxLocals = ls.size) (C : ZC s m args own D a cA A sa) (hl : Cond.methodLink own index Lib.Math.min.name ∈ TB) (ht : Cond.static Lib.Math.min.name ∈ TB) (hi : Cond.initialized "java/lang/Math" ∈ TB) (hk : Cond.code Lib.Math.min.name Lib.Math.min.code 2 (some .int) ∈ TB) (hRf : 1 ≤ R.frames) (hRl : (rest.map fun v => v.category).sum + 13 ≤ R.locals) (hcs : cells ≤ R.cells ∧ slots ≤ R.slots) {x z : Int32} (hdg : decode cc pc = .ok (.invokestatic index, 3))
    (kk : W p l e R s m args below meth c H locs cells slots Q (F0 m (pc + 3) ls (.int (mnI x z) :: rest))) : W p l e R s m args below meth c H locs cells slots Q (F0 m pc ls (.int z :: .int x :: rest)) :=
  va_mmin hx hb hml C.1 (C.2.1 _ hl) (C.2.1 _ ht) (C.2.1 _ hi) (C.2.1 _ hk) hRf hRl hcs.1 hcs.2 hdg kk
end ZQ
/-- contracts out of walks -/
theorem zz_metI {l : Launch} {y : MethodName} {bytes : ByteArray} {maxL f k : Nat} {D : va_G} {a : Nat → Nat} {cA : Nat → ClassId} {A : Nat → Prop} {sa : Nat → Nat} {av : List Value} {σ σ' : PH} {d d' : PD} {rv : Int32} (hy : plainName y.cls = true) (hDA : DA a A) (hlv : (lg_sl av).length ≤ maxL)
    (body : ∀ {p : Program} {e : Env} {R : Room} {s : State} {m : MethodId} {args : Array Value} {below : List Frame} {meth : Method} {c : Code} {Q : State → Prop} {ls : Array Slot}, p.tables.exec = Jvm.exec → c.code = bytes → c.maxLocals = maxL → ZC s m args y.cls D a cA A sa → f ≤ R.frames → k ≤ R.locals →
      (∀ (H : Heap) (locs : List Loc) (ls : Array Slot) (pc : Nat), decode bytes pc = .ok (.ireturn, 1) → va_P D vwCl (wl a cA σ' d') H → va_S A s.heap H locs → W p l e R s m args below meth c H locs 0 0 Q (F0 m pc ls [.int rv])) →
      va_P D vwCl (wl a cA σ d) s.heap → va_S A s.heap s.heap [] → lv_has ls maxL (lv_args 0 av) → W p l e R s m args below meth c s.heap [] 0 0 Q (F0 m 0 ls [])) :
    CTi l y bytes maxL (some .int) f k D a cA A sa av σ d rv σ' d' := by
  refine Met.ofW (cc := bytes) (maxL := maxL) (ret := some .int) hy rfl ?_
  intro p e s m args below meth c s₁ B hml hv
  obtain ⟨rfl, hP, hK, hST⟩ := hv
  have hts : ∀ w ∈ TB, w.before av.toArray s = true := fun w hw => atoms_spec B.pre w (List.mem_cons_of_mem _ hw)
  have C : ZC s m av.toArray y.cls D a cA A sa := ⟨findClass_of_methodNamed B.named, hts, hK, hST, hDA⟩
  have hl := lv_entry av (n := maxL) hlv
  rw [lg_entry_eq]
  generalize (lg_sl av ++ List.replicate (maxL - (lg_sl av).length) Slot.unset).toArray = ls at hl ⊢
  refine body B.exec B.bytes hml C (Nat.le_refl _) (Nat.le_refl _) (fun H locs ls pc hd hP hS => ?_) hP va_S.rf hl
  have hlocks := B.notSynchronized
  exact W.iret B.exec B.bytes B.returns (fun t ht hW => ⟨⟨rv, (), rfl, rfl, zz_post C hP hS ht hW⟩, hS.F ht⟩) hS.2.2 hd
theorem zz_metZ {l : Launch} {y : MethodName} {bytes : ByteArray} {maxL f k : Nat} {ty : FieldType} {D : va_G} {a : Nat → Nat} {cA : Nat → ClassId} {A : Nat → Prop} {sa : Nat → Nat} {av : List Value} {σ σ' : PH} {d d' : PD} {rv : Int32} (hy : plainName y.cls = true) (hDA : DA a A) (hlv : (lg_sl av).length ≤ maxL)
    (body : ∀ {p : Program} {e : Env} {R : Room} {s : State} {m : MethodId} {args : Array Value} {below : List Frame} {meth : Method} {c : Code} {Q : State → Prop} {ls : Array Slot}, p.tables.exec = Jvm.exec → c.code = bytes → c.maxLocals = maxL → ZC s m args y.cls D a cA A sa → f ≤ R.frames → k ≤ R.locals →
      (∀ (H : Heap) (locs : List Loc) (ls : Array Slot) (pc : Nat), decode bytes pc = .ok (.ireturn, 1) → narrow ty (.int rv) = .int rv → va_P D vwCl (wl a cA σ' d') H → va_S A s.heap H locs → W p l e R s m args below meth c H locs 0 0 Q (F0 m pc ls [.int rv])) →
      va_P D vwCl (wl a cA σ d) s.heap → va_S A s.heap s.heap [] → lv_has ls maxL (lv_args 0 av) → W p l e R s m args below meth c s.heap [] 0 0 Q (F0 m 0 ls [])) :
    CTi l y bytes maxL (some ty) f k D a cA A sa av σ d rv σ' d' := by
  refine Met.ofW (cc := bytes) (maxL := maxL) (ret := some ty) hy rfl ?_
  intro p e s m args below meth c s₁ B hml hv
  obtain ⟨rfl, hP, hK, hST⟩ := hv
  have hts : ∀ w ∈ TB, w.before av.toArray s = true := fun w hw => atoms_spec B.pre w (List.mem_cons_of_mem _ hw)
  have C : ZC s m av.toArray y.cls D a cA A sa := ⟨findClass_of_methodNamed B.named, hts, hK, hST, hDA⟩
  have hl := lv_entry av (n := maxL) hlv
  rw [lg_entry_eq]
  generalize (lg_sl av ++ List.replicate (maxL - (lg_sl av).length) Slot.unset).toArray = ls at hl ⊢
  refine body B.exec B.bytes hml C (Nat.le_refl _) (Nat.le_refl _) (fun H locs ls pc hd hn hP hS => ?_) hP va_S.rf hl
  have hlocks := B.notSynchronized
  exact W.zret B.exec B.bytes B.returns hn (fun t ht hW => ⟨⟨rv, (), rfl, rfl, zz_post C hP hS ht hW⟩, hS.F ht⟩) hS.2.2 hd
theorem zz_metL {l : Launch} {y : MethodName} {bytes : ByteArray} {maxL f k : Nat} {D : va_G} {a : Nat → Nat} {cA : Nat → ClassId} {A : Nat → Prop} {sa : Nat → Nat} {av : List Value} {σ σ' : PH} {d d' : PD} {rv : Int64} (hy : plainName y.cls = true) (hDA : DA a A) (hlv : (lg_sl av).length ≤ maxL)
    (body : ∀ {p : Program} {e : Env} {R : Room} {s : State} {m : MethodId} {args : Array Value} {below : List Frame} {meth : Method} {c : Code} {Q : State → Prop} {ls : Array Slot}, p.tables.exec = Jvm.exec → c.code = bytes → c.maxLocals = maxL → ZC s m args y.cls D a cA A sa → f ≤ R.frames → k ≤ R.locals →
      (∀ (H : Heap) (locs : List Loc) (ls : Array Slot) (pc : Nat), decode bytes pc = .ok (.lreturn, 1) → va_P D vwCl (wl a cA σ' d') H → va_S A s.heap H locs → W p l e R s m args below meth c H locs 0 0 Q (F0 m pc ls [.long rv])) →
      va_P D vwCl (wl a cA σ d) s.heap → va_S A s.heap s.heap [] → lv_has ls maxL (lv_args 0 av) → W p l e R s m args below meth c s.heap [] 0 0 Q (F0 m 0 ls [])) :
    CTl l y bytes maxL (some .long) f k D a cA A sa av σ d rv σ' d' := by
  refine Met.ofW (cc := bytes) (maxL := maxL) (ret := some .long) hy rfl ?_
  intro p e s m args below meth c s₁ B hml hv
  obtain ⟨rfl, hP, hK, hST⟩ := hv
  have hts : ∀ w ∈ TB, w.before av.toArray s = true := fun w hw => atoms_spec B.pre w (List.mem_cons_of_mem _ hw)
  have C : ZC s m av.toArray y.cls D a cA A sa := ⟨findClass_of_methodNamed B.named, hts, hK, hST, hDA⟩
  have hl := lv_entry av (n := maxL) hlv
  rw [lg_entry_eq]
  generalize (lg_sl av ++ List.replicate (maxL - (lg_sl av).length) Slot.unset).toArray = ls at hl ⊢
  refine body B.exec B.bytes hml C (Nat.le_refl _) (Nat.le_refl _) (fun H locs ls pc hd hP hS => ?_) hP va_S.rf hl
  have hlocks := B.notSynchronized
  exact W.lret B.exec B.bytes B.returns (fun t ht hW => ⟨⟨rv, (), rfl, rfl, zz_post C hP hS ht hW⟩, hS.F ht⟩) hS.2.2 hd
theorem zz_metV {l : Launch} {y : MethodName} {bytes : ByteArray} {maxL f k : Nat} {D : va_G} {a : Nat → Nat} {cA : Nat → ClassId} {A : Nat → Prop} {sa : Nat → Nat} {av : List Value} {σ σ' : PH} {d d' : PD} (hy : plainName y.cls = true) (hDA : DA a A) (hlv : (lg_sl av).length ≤ maxL)
    (body : ∀ {p : Program} {e : Env} {R : Room} {s : State} {m : MethodId} {args : Array Value} {below : List Frame} {meth : Method} {c : Code} {Q : State → Prop} {ls : Array Slot}, p.tables.exec = Jvm.exec → c.code = bytes → c.maxLocals = maxL → ZC s m args y.cls D a cA A sa → f ≤ R.frames → k ≤ R.locals →
      (∀ (H : Heap) (locs : List Loc) (ls : Array Slot) (pc : Nat), decode bytes pc = .ok (.return_, 1) → va_P D vwCl (wl a cA σ' d') H → va_S A s.heap H locs → W p l e R s m args below meth c H locs 0 0 Q (F0 m pc ls [])) →
      va_P D vwCl (wl a cA σ d) s.heap → va_S A s.heap s.heap [] → lv_has ls maxL (lv_args 0 av) → W p l e R s m args below meth c s.heap [] 0 0 Q (F0 m 0 ls [])) :
    CTv l y bytes maxL none f k D a cA A sa av σ d σ' d' := by
  refine Met.ofW (cc := bytes) (maxL := maxL) (ret := none) hy rfl ?_
  intro p e s m args below meth c s₁ B hml hv
  obtain ⟨rfl, hP, hK, hST⟩ := hv
  have hts : ∀ w ∈ TB, w.before av.toArray s = true := fun w hw => atoms_spec B.pre w (List.mem_cons_of_mem _ hw)
  have C : ZC s m av.toArray y.cls D a cA A sa := ⟨findClass_of_methodNamed B.named, hts, hK, hST, hDA⟩
  have hl := lv_entry av (n := maxL) hlv
  rw [lg_entry_eq]
  generalize (lg_sl av ++ List.replicate (maxL - (lg_sl av).length) Slot.unset).toArray = ls at hl ⊢
  refine body B.exec B.bytes hml C (Nat.le_refl _) (Nat.le_refl _) (fun H locs ls pc hd hP hS => ?_) hP va_S.rf hl
  have hlocks := B.notSynchronized
  exact W.vret B.exec B.bytes B.returns (fun t ht hW => ⟨⟨(), rfl, trivial, zz_post C hP hS ht hW⟩, hS.F ht⟩) hS.2.2 hd
/-! what the methods' functions are written with -/
def bnd {α β : Type} (x : α) (k : α → β) : β := k x
theorem bnd_at {α β : Type} {x : α} {k : α → β} {r : β} (y : α) (h : y = x) (hf : bnd x k = r) : k y = r := by subst h; exact hf
theorem ifT {α : Type} {c : Prop} [Decidable c] {x y r : α} (h : c) (hf : (if c then x else y) = r) : x = r := by rw [if_pos h] at hf; exact hf
theorem ifF {α : Type} {c : Prop} [Decidable c] {x y r : α} (h : ¬ c) (hf : (if c then x else y) = r) : y = r := by rw [if_neg h] at hf; exact hf
def chk {α : Type} (c : Prop) [Decidable c] (t : Option α) : Option α := if c then t else none
theorem chk_some {α : Type} {c : Prop} [Decidable c] {t : Option α} {r : α} (hf : chk c t = some r) : c ∧ t = some r := by
  unfold chk at hf
  by_cases h : c
  · rw [if_pos h] at hf; exact ⟨h, hf⟩
  · rw [if_neg h] at hf; cases hf
def obd {α β : Type} (x : Option α) (k : α → Option β) : Option β := match x with
  | none => none
  | some u => k u
theorem obd_some {α β : Type} {x : Option α} {k : α → Option β} {r : β} (hf : obd x k = some r) : ∃ u, x = some u ∧ k u = some r := by
  cases x with
  | none => cases hf
  | some u => exact ⟨u, rfl, hf⟩
def loopN {S α : Type} (b : (S → Option α) → S → Option α) : Nat → S → Option α
  | 0, _ => none
  | n + 1, s => b (loopN b n) s
theorem loopN_ind {S α : Type} {b : (S → Option α) → S → Option α} {r : α} {P : S → Prop} (h : ∀ rec : S → Option α, (∀ s, rec s = some r → P s) → ∀ s, b rec s = some r → P s) : ∀ (n : Nat) (s : S), loopN b n s = some r → P s := by
  intro n
  induction n with
  | zero => intro s hf; cases hf
  | succ n ih => intro s hf; exact h _ ih s hf
def FU : Nat := 1048576
def inb (i : Int32) (n : Nat) : Bool := decide (¬ (i < 0 ∨ n ≤ i.toNatClampNeg))
theorem inb_vp {i : Int32} {n : Nat} (h : inb i n = true) : vp_in i n := by unfold inb at h; have h2 := of_decide_eq_true h; exact h2
