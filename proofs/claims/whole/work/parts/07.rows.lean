/-! statics, the whole world, the context, and the rows -/
def sf (n j : Nat) : Int32 := (([[-1, 0, 0, 1, 0, 2, 4], [1, 1, 0, 0], [3, 8, 1, 50], [3, 1, 1, 1, 1, 2, 2], [10, 11, 12, 20, 0, 0, 0, 30, 0, 0, 40, 0, 51, 0, 50, 0, 0, 60, 70, 71, 0]] : List (List Int32)).getD n []).getD j 0
def lenJ : List Nat := [6, 4, 5, 4, 3, 5, 4]
def bytJ : List (List Int32) := [[115, 105, 110, 103, 101, 114], [109, 111, 115, 116], [108, 101, 97, 115, 116], [110, 101, 97, 114], [101, 97, 114], [104, 101, 97, 114, 100], [115, 119, 97, 112]]
def txJ : List String := ["singer", "most", "least", "near", "ear", "heard", "swap"]
def SA (C n : String) (i N : Nat) (A : Nat → Prop) (sa : Nat → Nat) (U : State) (H : Heap) : Prop := va_Z C n "[I" (.ref (sa i)) A U H ∧ va_T .int (sa i) N (fun j => .int (sf i j)) A U H
def ST (A : Nat → Prop) (sa : Nat → Nat) (U : State) (H : Heap) : Prop :=
  SA RX0 "ABOVE" 0 7 A sa U H ∧ SA RX2 "FEWEST" 1 4 A sa U H ∧ SA RX2 "GREATEST" 2 4 A sa U H ∧ SA RX3 "WANTED" 3 7 A sa U H ∧ SA RX6 "BODIES" 4 21 A sa U H ∧
  vk_S 7 lenJ bytJ (fun i => sa (5 + i)) (fun i => sa (12 + i)) A U H ∧ (∀ i : Nat, i < 7 → vk_R RX3 (77 + 2 * i) (txJ.getD i "") (sa (5 + i)) U) ∧
  va_Z "java/lang/String" "COMPACT_STRINGS" "Z" (.int 1) A U H ∧ va_Zq "jdk/internal/util/Preconditions" "SIOOBE_FORMATTER" "Ljava/util/function/BiFunction;" A U H
def PW (D : va_G) (a : Nat → Nat) (cA : Nat → ClassId) (A : Nat → Prop) (sa : Nat → Nat) (σ : PH) (d : PD) (U : State) : Prop :=
  va_P D vwCl (wl a cA σ d) U.heap ∧ va_K D vwCl (tyL cA) U ∧ ST A sa U U.heap
def ZC (s : State) (m : MethodId) (args : Array Value) (own : String) (D : va_G) (a : Nat → Nat) (cA : Nat → ClassId) (A : Nat → Prop) (sa : Nat → Nat) : Prop :=
  s.vm.findClass own = some m.cls ∧ (∀ w ∈ TB, w.before args s = true) ∧ va_K D vwCl (tyL cA) s ∧ ST A sa s s.heap ∧ DA a A
theorem SA.go {C n : String} {i N : Nat} {A : Nat → Prop} {sa : Nat → Nat} {u U : State} {H H1 : Heap} (hvm : u.vm.Alike U.vm) (hq : ∀ a : Nat, a < H.size → ¬ A a → H1[a]? = H[a]?) (h : SA C n i N A sa u H) : SA C n i N A sa U H1 :=
  ⟨(va_Z.moved hvm h.1).kept hq, (va_T.moved hvm h.2).kept hq⟩
theorem ST.go {A : Nat → Prop} {sa : Nat → Nat} {u U : State} {H H1 : Heap} (hvm : u.vm.Alike U.vm) (hr : ∀ {own tx : String} {k a : Nat}, vk_R own k tx a u → vk_R own k tx a U) (hq : ∀ a : Nat, a < H.size → ¬ A a → H1[a]? = H[a]?) (h : ST A sa u H) : ST A sa U H1 := by
  obtain ⟨h1, h2, h3, h4, h5, h6, h7, h8, h9⟩ := h
  refine ⟨h1.go hvm hq, h2.go hvm hq, h3.go hvm hq, h4.go hvm hq, h5.go hvm hq, (vk_S.moved hvm h6).kept hq, fun i hi => hr (h7 i hi), (va_Z.moved hvm h8).kept hq, ?_⟩
  rcases h9 with h | ⟨t, h⟩
  · exact Or.inl ((va_Z.moved hvm h).kept hq)
  · exact Or.inr ⟨t, (va_Z.moved hvm h).kept hq⟩
theorem ST.at {A : Nat → Prop} {sa : Nat → Nat} {s U : State} {H : Heap} {locs : List Loc} (h : ST A sa s s.heap) (hS : va_S A s.heap H locs) (hW : s.WarmedH U.vm) (hU : U.heap = H) : ST A sa U U.heap :=
  h.go hW.alike (fun hv => hv.warm hW) (fun q h1 h2 => by rw [hU]; exact hS.2.1 q h1 h2)
theorem PW_blind {D : va_G} {a : Nat → Nat} {cA : Nat → ClassId} {A : Nat → Prop} {sa : Nat → Nat} {σ : PH} {d : PD} {av : List Value} : FrameBlind (va_Pc av (PW D a cA A sa σ d)) := fun ar U g mk q => by
  obtain ⟨q0, qP, qK, qS⟩ := q
  exact ⟨q0, qP, va_K.moved (u := U) (U := U.calling g mk ar) (Vm.Alike.refl U.vm) qK, qS.go (u := U) (U := U.calling g mk ar) (Vm.Alike.refl U.vm) (fun hv => vk_R.same (u := U) (U := U.calling g mk ar) rfl hv) (fun _ _ _ => rfl)⟩
/-- contracts: a method that makes nothing; answers an int, a long, nothing -/
abbrev CTi (l : Launch) (y : MethodName) (bytes : ByteArray) (maxL : Nat) (ret : Option FieldType) (f k : Nat) (D : va_G) (a : Nat → Nat) (cA : Nat → ClassId) (A : Nat → Prop) (sa : Nat → Nat) (av : List Value) (σ : PH) (d : PD) (rv : Int32) (σ' : PH) (d' : PD) : Prop :=
  Met l y (.code y bytes maxL ret :: TB) ({ frames := f, cells := 0, slots := 0, locals := k }) (va_Pc av (PW D a cA A sa σ d)) (va_Qi (fun v (_ : Unit) => v = rv) (fun _ => PW D a cA A sa σ' d') A) 0 0 A
abbrev CTl (l : Launch) (y : MethodName) (bytes : ByteArray) (maxL : Nat) (ret : Option FieldType) (f k : Nat) (D : va_G) (a : Nat → Nat) (cA : Nat → ClassId) (A : Nat → Prop) (sa : Nat → Nat) (av : List Value) (σ : PH) (d : PD) (rv : Int64) (σ' : PH) (d' : PD) : Prop :=
  Met l y (.code y bytes maxL ret :: TB) ({ frames := f, cells := 0, slots := 0, locals := k }) (va_Pc av (PW D a cA A sa σ d)) (va_Ql (fun v (_ : Unit) => v = rv) (fun _ => PW D a cA A sa σ' d') A) 0 0 A
abbrev CTv (l : Launch) (y : MethodName) (bytes : ByteArray) (maxL : Nat) (ret : Option FieldType) (f k : Nat) (D : va_G) (a : Nat → Nat) (cA : Nat → ClassId) (A : Nat → Prop) (sa : Nat → Nat) (av : List Value) (σ : PH) (d : PD) (σ' : PH) (d' : PD) : Prop :=
  Met l y (.code y bytes maxL ret :: TB) ({ frames := f, cells := 0, slots := 0, locals := k }) (va_Pc av (PW D a cA A sa σ d)) (va_Qv (fun _ : Unit => True) (fun _ => PW D a cA A sa σ' d') A) 0 0 A
def ZWV (own : String) (index : Nat) (y : MethodName) (bytes : ByteArray) (maxL : Nat) (ret : Option FieldType) (n : Nat) : Prop :=
  Cond.methodLink own index y ∈ TB ∧ Cond.instanceMethod y ∈ TB ∧ Cond.selects y.cls y y ∈ TB ∧ Cond.initialized y.cls ∈ TB ∧ Cond.code y bytes maxL ret ∈ TB ∧ (y.cls ≠ "java/lang/invoke/MethodHandle" ∧ y.cls ≠ "java/lang/invoke/VarHandle" ∧ (parseMethodDescriptor y.desc).map (fun d => d.parameters.length) = some n)
def ZWS (own : String) (index : Nat) (y : MethodName) (bytes : ByteArray) (maxL : Nat) (ret : Option FieldType) (n : Nat) : Prop :=
  Cond.methodLink own index y ∈ TB ∧ Cond.static y ∈ TB ∧ Cond.initialized y.cls ∈ TB ∧ Cond.code y bytes maxL ret ∈ TB ∧ (y.cls ≠ "java/lang/invoke/MethodHandle" ∧ y.cls ≠ "java/lang/invoke/VarHandle" ∧ (parseMethodDescriptor y.desc).map (fun d => d.parameters.length) = some n)
theorem goodT {y : MethodName} {bytes : ByteArray} {maxL : Nat} {ret : Option FieldType} (h : Cond.code y bytes maxL ret ∈ TB) : GoodIn TB (.code y bytes maxL ret :: TB) := fun w hw => by
  rcases List.mem_cons.mp hw with rfl | hw
  · exact ⟨h, TB_good h⟩
  · exact ⟨hw, TB_good hw⟩
theorem wl_recv {D : va_G} {a : Nat → Nat} {cA : Nat → ClassId} {σ : PH} {d : PD} {s : State} {H : Heap} {r ci N : Nat} {fs : List (Nat × Nat)} {Cn : String} {T : u_T} (hK : va_K D vwCl (tyL cA) s) (hP : va_P D vwCl (wl a cA σ d) H) (hr : r < NR) (h : lay r = (0, ci, fs)) (hc : vwCl[ci]? = some (Cn, T, N)) : ∃ cell : Cell, H[a r]? = some cell ∧ cell.vm.isStatics = false ∧ s.vm.findClass Cn = some cell.cls :=
  va_recv (q := (Cn, T, N)) hK hP hc (wl_o hr h)
section ZR
variable {p : Program} {l : Launch} {e : Env} {R : Room} {s : State} {m : MethodId} {args : Array Value} {below : List Frame} {meth : Method} {c : Code} {H : Heap} {locs : List Loc} {cells slots : Nat} {Q : State → Prop}
variable {cc : ByteArray} {pc : Nat} {ls : Array Slot} {rest : List Value} {D : va_G} {a : Nat → Nat} {cA : Nat → ClassId} {A : Nat → Prop} {sa : Nat → Nat} {σ σ' : PH} {d d' : PD} {own : String}
theorem zz_get (hx : p.tables.exec = Jvm.exec) (hb : c.code = cc) (C : ZC s m args own D a cA A sa) (hP : va_P D vwCl (wl a cA σ d) H) {r ci k N index : Nat} {fs : List (Nat × Nat)} {t : Nat × Nat} {ref Cn : String} {T : u_T} (hr : r < NR) (h : lay r = (0, ci, fs)) (hc : vwCl[ci]? = some (Cn, T, N)) (hu : ∀ w ∈ u_ws Cn T N, w ∈ TB) (hk : k < N) (hf : fs[k]? = some t) (hl : Cond.fieldLink own index ref (T k).2.1 (T k).2.2.1 ∈ TB) (href : (T k).1 = ref)
    (hdg : decode cc pc = .ok (.getfield index, 3)) (kk : W p l e R s m args below meth c H locs cells slots Q (F0 m (pc + 3) ls (fval a σ d r k t :: rest))) : W p l e R s m args below meth c H locs cells slots Q (F0 m pc ls (.ref (a r) :: rest)) :=
  va_get (D := D) (cl := vwCl) (tys := tyL cA) (ci := ci) hx hb C.2.1 hu C.1 C.2.2.1 hP r (wl_o hr h) hc k hk (C.2.1 _ hl) (fun x hx9 => by rw [href] at hx9; exact hx9) (fvals_at hf) hdg kk
theorem zz_putI (hx : p.tables.exec = Jvm.exec) (hb : c.code = cc) (C : ZC s m args own D a cA A sa) (hP : va_P D vwCl (wl a cA σ d) H) (hS : va_S A s.heap H locs) {r ci k N index z : Nat} {fs : List (Nat × Nat)} {ref Cn : String} {T : u_T} (ty0 : Nat → FieldType) (hty : ∀ k, k < N → parseFieldDescriptor (T k).2.2.1 = some (ty0 k)) (hnm : ∀ a, a < N → ∀ b, b < N → a ≠ b → (T a).2.1 ≠ (T b).2.1) (hr : r < NR) (h : lay r = (0, ci, fs)) (hc : vwCl[ci]? = some (Cn, T, N)) (hu : ∀ w ∈ u_ws Cn T N, w ∈ TB) (hk : k < N) (hf : fs[k]? = some (0, z)) (hl : Cond.fieldLink own index ref (T k).2.1 (T k).2.2.1 ∈ TB) (href : (T k).1 = ref) (hfin : (T k).2.2.2 = false) {ty : FieldType} (hd : parseFieldDescriptor (T k).2.2.1 = some ty) {v : Int32} (hn : narrow ty (.int v) = .int v) (hfit : fits ty (.int v) = true)
    (hdg : decode cc pc = .ok (.putfield index, 3)) (kk : ∀ σ' : PH, σ' = putI σ r k v → ∀ (H1 : Heap) (locs1 : List Loc), va_P D vwCl (wl a cA σ' d) H1 → va_S A s.heap H1 locs1 → W p l e R s m args below meth c H1 locs1 cells slots Q (F0 m (pc + 3) ls rest)) : W p l e R s m args below meth c H locs cells slots Q (F0 m pc ls (.int v :: .ref (a r) :: rest)) :=
  va_put (D := D) (cl := vwCl) (tys := tyL cA) (ci := ci) (v := .int v) (ty := ty) hx hb C.2.1 hu ty0 hty hnm C.1 C.2.2.1 hP (wl_D C.2.2.2.2) hS r (wl_o hr h) hc k hk (C.2.1 _ hl) (fun x hx9 => by rw [href] at hx9; exact hx9) hfin hd hn hfit (by rw [fvals_len]; exact (List.getElem?_eq_some_iff.mp hf).1) hdg
    (fun H1 locs1 hP1 _ hS1 => kk _ rfl H1 locs1 (by rw [← wl_putI hr h hf]; exact hP1) hS1)
theorem zz_putJ (hx : p.tables.exec = Jvm.exec) (hb : c.code = cc) (C : ZC s m args own D a cA A sa) (hP : va_P D vwCl (wl a cA σ d) H) (hS : va_S A s.heap H locs) {r ci k N index z : Nat} {fs : List (Nat × Nat)} {ref Cn : String} {T : u_T} (ty0 : Nat → FieldType) (hty : ∀ k, k < N → parseFieldDescriptor (T k).2.2.1 = some (ty0 k)) (hnm : ∀ a, a < N → ∀ b, b < N → a ≠ b → (T a).2.1 ≠ (T b).2.1) (hr : r < NR) (h : lay r = (0, ci, fs)) (hc : vwCl[ci]? = some (Cn, T, N)) (hu : ∀ w ∈ u_ws Cn T N, w ∈ TB) (hk : k < N) (hf : fs[k]? = some (1, z)) (hl : Cond.fieldLink own index ref (T k).2.1 (T k).2.2.1 ∈ TB) (href : (T k).1 = ref) (hfin : (T k).2.2.2 = false) (hd : parseFieldDescriptor (T k).2.2.1 = some .long) {v : Int64}
    (hdg : decode cc pc = .ok (.putfield index, 3)) (kk : ∀ σ' : PH, σ' = putJ σ r k v → ∀ (H1 : Heap) (locs1 : List Loc), va_P D vwCl (wl a cA σ' d) H1 → va_S A s.heap H1 locs1 → W p l e R s m args below meth c H1 locs1 cells slots Q (F0 m (pc + 3) ls rest)) : W p l e R s m args below meth c H locs cells slots Q (F0 m pc ls (.long v :: .ref (a r) :: rest)) :=
  va_put (D := D) (cl := vwCl) (tys := tyL cA) (ci := ci) (v := .long v) (ty := .long) hx hb C.2.1 hu ty0 hty hnm C.1 C.2.2.1 hP (wl_D C.2.2.2.2) hS r (wl_o hr h) hc k hk (C.2.1 _ hl) (fun x hx9 => by rw [href] at hx9; exact hx9) hfin hd rfl rfl (by rw [fvals_len]; exact (List.getElem?_eq_some_iff.mp hf).1) hdg
    (fun H1 locs1 hP1 _ hS1 => kk _ rfl H1 locs1 (by rw [← wl_putJ hr h hf]; exact hP1) hS1)
theorem zz_iald (hx : p.tables.exec = Jvm.exec) (hb : c.code = cc) (C : ZC s m args own D a cA A sa) (hP : va_P D vwCl (wl a cA σ d) H) {r n : Nat} {fs : List (Nat × Nat)} (hr : r < NR) (h : lay r = (1, n, fs)) {i : Int32} (hin : vp_in i n) (hdg : decode cc pc = .ok (.iaload, 1))
    (kk : W p l e R s m args below meth c H locs cells slots Q (F0 m (pc + 1) ls (.int (gI σ r i.toNatClampNeg) :: rest))) : W p l e R s m args below meth c H locs cells slots Q (F0 m pc ls (.int i :: .ref (a r) :: rest)) :=
  va_iald (D := D) (cl := vwCl) (tys := tyL cA) hx hb C.2.2.1 hP r 0 (wl_i hr h) rfl hin hdg kk
theorem zz_lald (hx : p.tables.exec = Jvm.exec) (hb : c.code = cc) (C : ZC s m args own D a cA A sa) (hP : va_P D vwCl (wl a cA σ d) H) {r n : Nat} {fs : List (Nat × Nat)} (hr : r < NR) (h : lay r = (2, n, fs)) {i : Int32} (hin : vp_in i n) (hdg : decode cc pc = .ok (.laload, 1))
    (kk : W p l e R s m args below meth c H locs cells slots Q (F0 m (pc + 1) ls (.long (gJ σ r i.toNatClampNeg) :: rest))) : W p l e R s m args below meth c H locs cells slots Q (F0 m pc ls (.int i :: .ref (a r) :: rest)) :=
  va_lald (D := D) (cl := vwCl) (tys := tyL cA) hx hb C.2.2.1 hP r 1 (wl_j hr h) rfl hin hdg kk
theorem zz_zald (hx : p.tables.exec = Jvm.exec) (hb : c.code = cc) (C : ZC s m args own D a cA A sa) (hP : va_P D vwCl (wl a cA σ d) H) {r n : Nat} {fs : List (Nat × Nat)} (hr : r < NR) (h : lay r = (3, n, fs)) {i : Int32} (hin : vp_in i n) (hdg : decode cc pc = .ok (.baload, 1))
    (kk : W p l e R s m args below meth c H locs cells slots Q (F0 m (pc + 1) ls (.int (gI σ r i.toNatClampNeg &&& 1) :: rest))) : W p l e R s m args below meth c H locs cells slots Q (F0 m pc ls (.int i :: .ref (a r) :: rest)) :=
  va_zald (D := D) (cl := vwCl) (tys := tyL cA) hx hb C.2.2.1 hP r 2 (wl_z hr h) rfl hin hdg kk
theorem zz_iast (hx : p.tables.exec = Jvm.exec) (hb : c.code = cc) (C : ZC s m args own D a cA A sa) (hP : va_P D vwCl (wl a cA σ d) H) (hS : va_S A s.heap H locs) {r n : Nat} {fs : List (Nat × Nat)} (hr : r < NR) (h : lay r = (1, n, fs)) {i x : Int32} (hin : vp_in i n) (hdg : decode cc pc = .ok (.iastore, 1))
    (kk : ∀ σ' : PH, σ' = putI σ r i.toNatClampNeg x → ∀ (H1 : Heap) (locs1 : List Loc), va_P D vwCl (wl a cA σ' d) H1 → va_S A s.heap H1 locs1 → W p l e R s m args below meth c H1 locs1 cells slots Q (F0 m (pc + 1) ls rest)) : W p l e R s m args below meth c H locs cells slots Q (F0 m pc ls (.int x :: .int i :: .ref (a r) :: rest)) :=
  va_iast (D := D) (cl := vwCl) (tys := tyL cA) hx hb C.2.2.1 hP (wl_D C.2.2.2.2) hS r 0 (wl_i hr h) rfl hin hdg (fun H1 locs1 hP1 _ hS1 => kk _ rfl H1 locs1 (by rw [putI, ← wl_arrI hr h]; exact hP1) hS1)
theorem zz_last (hx : p.tables.exec = Jvm.exec) (hb : c.code = cc) (C : ZC s m args own D a cA A sa) (hP : va_P D vwCl (wl a cA σ d) H) (hS : va_S A s.heap H locs) {r n : Nat} {fs : List (Nat × Nat)} (hr : r < NR) (h : lay r = (2, n, fs)) {i : Int32} {x : Int64} (hin : vp_in i n) (hdg : decode cc pc = .ok (.lastore, 1))
    (kk : ∀ σ' : PH, σ' = putJ σ r i.toNatClampNeg x → ∀ (H1 : Heap) (locs1 : List Loc), va_P D vwCl (wl a cA σ' d) H1 → va_S A s.heap H1 locs1 → W p l e R s m args below meth c H1 locs1 cells slots Q (F0 m (pc + 1) ls rest)) : W p l e R s m args below meth c H locs cells slots Q (F0 m pc ls (.long x :: .int i :: .ref (a r) :: rest)) :=
  va_last (D := D) (cl := vwCl) (tys := tyL cA) hx hb C.2.2.1 hP (wl_D C.2.2.2.2) hS r 1 (wl_j hr h) rfl hin hdg (fun H1 locs1 hP1 _ hS1 => kk _ rfl H1 locs1 (by rw [putJ, ← wl_arrJ hr h]; exact hP1) hS1)
theorem zz_zast (hx : p.tables.exec = Jvm.exec) (hb : c.code = cc) (C : ZC s m args own D a cA A sa) (hP : va_P D vwCl (wl a cA σ d) H) (hS : va_S A s.heap H locs) {r n : Nat} {fs : List (Nat × Nat)} (hr : r < NR) (h : lay r = (3, n, fs)) {i x : Int32} (hin : vp_in i n) (hdg : decode cc pc = .ok (.bastore, 1))
    (kk : ∀ σ' : PH, σ' = putI σ r i.toNatClampNeg x → ∀ (H1 : Heap) (locs1 : List Loc), va_P D vwCl (wl a cA σ' d) H1 → va_S A s.heap H1 locs1 → W p l e R s m args below meth c H1 locs1 cells slots Q (F0 m (pc + 1) ls rest)) : W p l e R s m args below meth c H locs cells slots Q (F0 m pc ls (.int x :: .int i :: .ref (a r) :: rest)) :=
  va_zast (D := D) (cl := vwCl) (tys := tyL cA) hx hb C.2.2.1 hP (wl_D C.2.2.2.2) hS r 2 (wl_z hr h) rfl hin hdg (fun H1 locs1 hP1 _ hS1 => kk _ rfl H1 locs1 (by
    rw [putI, ← wl_arrZ (n := n) (f := upd (fun i => gI σ r i &&& 1) i.toNatClampNeg (vp_nar .boolean x)) hr h (fun j => by
      by_cases hj : j = i.toNatClampNeg
      · subst hj; simp [upd]; rfl
      · simp [upd, hj])]
    exact hP1) hS1)
theorem shelf_in {i : Int32} (hin : vp_in i 8) : isShelf (14 + 2 * i.toNatClampNeg) := by
  have hlt : i.toNatClampNeg < 8 := Nat.not_le.mp fun q => hin (Or.inr q)
  unfold isShelf
  omega
theorem shelf_ts (k : Nat) (hk : k < 8) : (((([(0, 14), (0, 16), (0, 18), (0, 20), (0, 22), (0, 24), (0, 26), (0, 28)] : List (Nat × Nat))[k]?).map fun q => a q.2)) = some (a (14 + 2 * k)) := by
  rcases (show k = 0 ∨ k = 1 ∨ k = 2 ∨ k = 3 ∨ k = 4 ∨ k = 5 ∨ k = 6 ∨ k = 7 by omega) with rfl | rfl | rfl | rfl | rfl | rfl | rfl | rfl <;> rfl
theorem zz_shelf (hx : p.tables.exec = Jvm.exec) (hb : c.code = cc) (C : ZC s m args own D a cA A sa) (hP : va_P D vwCl (wl a cA σ d) H) {i : Int32} (hin : vp_in i 8) (hdg : decode cc pc = .ok (.aaload, 1))
    (kk : ∀ q : Nat, q = 14 + 2 * i.toNatClampNeg → isShelf q → W p l e R s m args below meth c H locs cells slots Q (F0 m (pc + 1) ls (.ref (a q) :: rest))) : W p l e R s m args below meth c H locs cells slots Q (F0 m pc ls (.int i :: .ref (a 1) :: rest)) := by
  have hlt : i.toNatClampNeg < 8 := Nat.not_le.mp fun q => hin (Or.inr q)
  refine va_aldq (D := D) (cl := vwCl) (tys := tyL cA) hx hb C.2.2.1 hP 1 3 (wl_q (by decide) lay_1) rfl hin hdg ?_
  rw [shelf_ts _ hlt]
  exact kk _ rfl (shelf_in hin)
theorem zz_alen (hx : p.tables.exec = Jvm.exec) (hb : c.code = cc) (C : ZC s m args own D a cA A sa) (hP : va_P D vwCl (wl a cA σ d) H) {r n : Nat} {fs : List (Nat × Nat)} (hr : r < NR) (h : lay r = (1, n, fs)) {v : Int32} (hv : Int32.ofNat n = v) (hdg : decode cc pc = .ok (.arraylength, 1))
    (kk : W p l e R s m args below meth c H locs cells slots Q (F0 m (pc + 1) ls (.int v :: rest))) : W p l e R s m args below meth c H locs cells slots Q (F0 m pc ls (.ref (a r) :: rest)) :=
  va_alen (D := D) (cl := vwCl) (tys := tyL cA) hx hb C.2.2.1 hP r 0 (wl_i hr h) rfl hv hdg kk
/-- a static array of the class's own: loaded, read, its length -/
theorem zz_sget (hx : p.tables.exec = Jvm.exec) (hb : c.code = cc) (C : ZC s m args own D a cA A sa) (hS : va_S A s.heap H locs) {Cn n : String} {i N index : Nat} (h : SA Cn n i N A sa s s.heap) (hl : Cond.fieldLink own index Cn n "[I" ∈ TB) (hdg : decode cc pc = .ok (.getstatic index, 3))
    (kk : W p l e R s m args below meth c H locs cells slots Q (F0 m (pc + 3) ls (.ref (sa i) :: rest))) : W p l e R s m args below meth c H locs cells slots Q (F0 m pc ls rest) :=
  va_gets hx hb h.1 hS C.1 (C.2.1 _ hl) (fun _ h9 => h9) hdg kk
theorem zz_sald (hx : p.tables.exec = Jvm.exec) (hb : c.code = cc) (hS : va_S A s.heap H locs) {Cn n : String} {i N : Nat} (h : SA Cn n i N A sa s s.heap) {j : Int32} (hin : vp_in j N) (hdg : decode cc pc = .ok (.iaload, 1))
    (kk : W p l e R s m args below meth c H locs cells slots Q (F0 m (pc + 1) ls (.int (sf i j.toNatClampNeg) :: rest))) : W p l e R s m args below meth c H locs cells slots Q (F0 m pc ls (.int j :: .ref (sa i) :: rest)) :=
  va_ti hx hb h.2 hS hin rfl hdg kk
theorem zz_slen (hx : p.tables.exec = Jvm.exec) (hb : c.code = cc) (hS : va_S A s.heap H locs) {Cn n : String} {i N : Nat} (h : SA Cn n i N A sa s s.heap) {v : Int32} (hv : Int32.ofNat N = v) (hdg : decode cc pc = .ok (.arraylength, 1))
    (kk : W p l e R s m args below meth c H locs cells slots Q (F0 m (pc + 1) ls (.int v :: rest))) : W p l e R s m args below meth c H locs cells slots Q (F0 m pc ls (.ref (sa i) :: rest)) :=
  va_tlen hx hb h.2 hS hv hdg kk
/-- arraycopy -/
theorem zz_cpyI (hx : p.tables.exec = Jvm.exec) (hb : c.code = cc) (hml : c.maxLocals = ls.size) (C : ZC s m args own D a cA A sa) (hP : va_P D vwCl (wl a cA σ d) H) (hS : va_S A s.heap H locs) {r0 r1 n0 n1 index : Nat} {fs0 fs1 : List (Nat × Nat)} (hr0 : r0 < NR) (hl0 : lay r0 = (1, n0, fs0)) (hr1 : r1 < NR) (hl1 : lay r1 = (1, n1, fs1)) {sp dp n : Int32} (h1 : ¬ sp < 0) (h2 : ¬ dp < 0) (h3 : ¬ n < 0) (h4 : sp.toNatClampNeg + n.toNatClampNeg ≤ n0) (h5 : dp.toNatClampNeg + n.toNatClampNeg ≤ n1) (hl : Cond.methodLink own index arraycopyName ∈ TB) (hv : Cond.native arraycopyName ∈ TB) (ht : Cond.static arraycopyName ∈ TB) (hi : Cond.initialized "java/lang/System" ∈ TB) (hRf : 1 ≤ R.frames) (hRl : (rest.map fun v => v.category).sum + (nativeFrameWords "java/lang/System" "arraycopy" 5 + 11) ≤ R.locals) (hdg : decode cc pc = .ok (.invokestatic index, 3))
    (kk : ∀ σ' : PH, σ' = arrI σ r1 (va_cpy (gI σ r0) (gI σ r1) sp.toNatClampNeg dp.toNatClampNeg n.toNatClampNeg) → ∀ (H1 : Heap) (locs1 : List Loc), va_P D vwCl (wl a cA σ' d) H1 → va_S A s.heap H1 locs1 → W p l e R s m args below meth c H1 locs1 cells slots Q (F0 m (pc + 3) ls rest)) : W p l e R s m args below meth c H locs cells slots Q (F0 m pc ls (.int n :: .int dp :: .ref (a r1) :: .int sp :: .ref (a r0) :: rest)) :=
  va_copyi (D := D) (cl := vwCl) (tys := tyL cA) (ty := .int) hx hb hml C.1 (C.2.1 _ hl) (C.2.1 _ hv) (C.2.1 _ ht) (C.2.1 _ hi) C.2.2.1 hP (wl_D C.2.2.2.2) hS r0 r1 0 0 (wl_i hr0 hl0) (wl_i hr1 hl1) rfl rfl rfl h1 h2 h3 h4 h5 (fun _ _ => rfl) hRf hRl hdg (fun H1 locs1 hP1 _ hS1 => kk _ rfl H1 locs1 (by rw [← wl_arrI hr1 hl1]; exact hP1) hS1)
theorem and1_fits (x : Int32) : fits .boolean (.int (x &&& 1)) = true := by
  have h : x &&& 1 = 0 ∨ x &&& 1 = 1 := by
    obtain ⟨j, hj, e⟩ := pk_andE x (m := 1) 1 (by decide)
    rcases (show j = 0 ∨ j = 1 by omega) with rfl | rfl
    · exact Or.inl (by rw [e]; rfl)
    · exact Or.inr (by rw [e]; rfl)
  rcases h with h | h <;> rw [h] <;> rfl
theorem zz_cpyZ (hx : p.tables.exec = Jvm.exec) (hb : c.code = cc) (hml : c.maxLocals = ls.size) (C : ZC s m args own D a cA A sa) (hP : va_P D vwCl (wl a cA σ d) H) (hS : va_S A s.heap H locs) {r0 r1 n0 n1 index : Nat} {fs0 fs1 : List (Nat × Nat)} (hr0 : r0 < NR) (hl0 : lay r0 = (3, n0, fs0)) (hr1 : r1 < NR) (hl1 : lay r1 = (3, n1, fs1)) {sp dp n : Int32} (h1 : ¬ sp < 0) (h2 : ¬ dp < 0) (h3 : ¬ n < 0) (h4 : sp.toNatClampNeg + n.toNatClampNeg ≤ n0) (h5 : dp.toNatClampNeg + n.toNatClampNeg ≤ n1) (hl : Cond.methodLink own index arraycopyName ∈ TB) (hv : Cond.native arraycopyName ∈ TB) (ht : Cond.static arraycopyName ∈ TB) (hi : Cond.initialized "java/lang/System" ∈ TB) (hRf : 1 ≤ R.frames) (hRl : (rest.map fun v => v.category).sum + (nativeFrameWords "java/lang/System" "arraycopy" 5 + 11) ≤ R.locals) (hdg : decode cc pc = .ok (.invokestatic index, 3))
    (kk : ∀ σ' : PH, σ' = arrI σ r1 (va_cpy (gI σ r0) (gI σ r1) sp.toNatClampNeg dp.toNatClampNeg n.toNatClampNeg) → ∀ (H1 : Heap) (locs1 : List Loc), va_P D vwCl (wl a cA σ' d) H1 → va_S A s.heap H1 locs1 → W p l e R s m args below meth c H1 locs1 cells slots Q (F0 m (pc + 3) ls rest)) : W p l e R s m args below meth c H locs cells slots Q (F0 m pc ls (.int n :: .int dp :: .ref (a r1) :: .int sp :: .ref (a r0) :: rest)) :=
  va_copyi (D := D) (cl := vwCl) (tys := tyL cA) (ty := .boolean) hx hb hml C.1 (C.2.1 _ hl) (C.2.1 _ hv) (C.2.1 _ ht) (C.2.1 _ hi) C.2.2.1 hP (wl_D C.2.2.2.2) hS r0 r1 2 2 (wl_z hr0 hl0) (wl_z hr1 hl1) rfl rfl rfl h1 h2 h3 h4 h5 (fun _ _ => and1_fits _) hRf hRl hdg (fun H1 locs1 hP1 _ hS1 => kk _ rfl H1 locs1 (by
    rw [← wl_arrZ (n := n1) (f := va_cpy (fun i => gI σ r0 i &&& 1) (fun i => gI σ r1 i &&& 1) sp.toNatClampNeg dp.toNatClampNeg n.toNatClampNeg) hr1 hl1 (fun j => by unfold va_cpy; split <;> rfl)]
    exact hP1) hS1)
theorem zz_cpyJ (hx : p.tables.exec = Jvm.exec) (hb : c.code = cc) (hml : c.maxLocals = ls.size) (C : ZC s m args own D a cA A sa) (hP : va_P D vwCl (wl a cA σ d) H) (hS : va_S A s.heap H locs) {r0 r1 n0 n1 index : Nat} {fs0 fs1 : List (Nat × Nat)} (hr0 : r0 < NR) (hl0 : lay r0 = (2, n0, fs0)) (hr1 : r1 < NR) (hl1 : lay r1 = (2, n1, fs1)) {sp dp n : Int32} (h1 : ¬ sp < 0) (h2 : ¬ dp < 0) (h3 : ¬ n < 0) (h4 : sp.toNatClampNeg + n.toNatClampNeg ≤ n0) (h5 : dp.toNatClampNeg + n.toNatClampNeg ≤ n1) (hl : Cond.methodLink own index arraycopyName ∈ TB) (hv : Cond.native arraycopyName ∈ TB) (ht : Cond.static arraycopyName ∈ TB) (hi : Cond.initialized "java/lang/System" ∈ TB) (hRf : 1 ≤ R.frames) (hRl : (rest.map fun v => v.category).sum + (nativeFrameWords "java/lang/System" "arraycopy" 5 + 11) ≤ R.locals) (hdg : decode cc pc = .ok (.invokestatic index, 3))
    (kk : ∀ σ' : PH, σ' = arrJ σ r1 (va_cpy (gJ σ r0) (gJ σ r1) sp.toNatClampNeg dp.toNatClampNeg n.toNatClampNeg) → ∀ (H1 : Heap) (locs1 : List Loc), va_P D vwCl (wl a cA σ' d) H1 → va_S A s.heap H1 locs1 → W p l e R s m args below meth c H1 locs1 cells slots Q (F0 m (pc + 3) ls rest)) : W p l e R s m args below meth c H locs cells slots Q (F0 m pc ls (.int n :: .int dp :: .ref (a r1) :: .int sp :: .ref (a r0) :: rest)) :=
  va_copyl (D := D) (cl := vwCl) (tys := tyL cA) (ty := .long) hx hb hml C.1 (C.2.1 _ hl) (C.2.1 _ hv) (C.2.1 _ ht) (C.2.1 _ hi) C.2.2.1 hP (wl_D C.2.2.2.2) hS r0 r1 1 1 (wl_j hr0 hl0) (wl_j hr1 hl1) rfl rfl rfl h1 h2 h3 h4 h5 (fun _ _ => rfl) hRf hRl hdg (fun H1 locs1 hP1 _ hS1 => kk _ rfl H1 locs1 (by rw [← wl_arrJ hr1 hl1]; exact hP1) hS1)
end ZR
