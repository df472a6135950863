/-! THE CLAIM OUT OF ONE WALK OF THE LAW'S BODY. Your part is whole_start (and what it stands on); all else here is the same for every law, but numbers. -/
def R_law : String := "OnlyMovesHisLipsLaw"
def lw_P (b : Addr) (xs : List Int32) (args : Array Value) (s : State) : Prop := args = #[.ref b] ∧ s.IntsAt b xs ∧ xs.length ≤ 3072 ∧ (Jvm.Cond.and given_1 narrow_1).before args s = true
def lw_Q (_ : Array Value) (s : State) (o : Outcome) (t : State) : Prop := o = .returned (some (.int 1)) ∧ Framed s o t [] 600000 7302250
def lw_Z (below : List Frame) (a : Array Value) (s : State) : State → Prop := fun t => ∃ o, t.status = .running ∧ Ended t below o ∧ lw_Q a s o t
/-- the law's own end, with 1 on the stack, nothing written that was there before, its room as the claim has it -/
theorem lw_ret {p : Program} {l : Launch} {e : Env} {s : State} {m : MethodId} {below : List Frame} {meth : Method} {c : Code} {b : Nat} (hx : p.tables.exec = Jvm.exec) (hb : c.code = code) (hr : meth.sig.returnType = ret) (hlocks : meth.locks = false) {pc : Nat} {H : Heap} {ls : Array Slot} (hdg : decode code pc = .ok (.ireturn, 1)) : W p l e room_1 s m #[Value.ref b] below meth c H [] 600000 7302250 (lw_Z below #[Value.ref b] s) (F0 m pc ls [.int 1]) := by
  intro T hT X
  obtain ⟨fs, hret, hrun, hended, hW, hframe⟩ := X.leave (v := some (.int 1)) (hlocks := hlocks) (fun h => by rw [hr] at h; cases h)
  have hmeth' : T.vm.method? m = some meth := X.method'
  refine ⟨T.setFrames fs, ?_, .returned (some (.int 1)), hrun, hended, rfl, ⟨_, rfl⟩, hW, hframe⟩
  jvm_step X.here [X.here.top, hx, hb, hdg, hmeth', hr, ret, narrow_b1]
  (try refine ⟨rfl, ?_⟩); (try refine ⟨rfl, ?_⟩)
  first | (intro acts; rw [hret _ acts rfl rfl rfl]) | rw [hret _ _ rfl rfl rfl]
  exact Steps.refl _
/-- what holds at the law's entry: the machine, the code, the tables' words (any of lw_tbl by 'hts w (by decide +kernel)'), the script of L ints xs at the cell b, what the Statement gives of the start (any of its parts by flat_of_before) -/
def lw_At (p : Program) (s : State) (m : MethodId) (meth : Method) (c : Code) (b L : Nat) (xs : Nat → Int32) : Prop :=
  p.tables.exec = Jvm.exec ∧ c.code = code ∧ meth.sig.returnType = ret ∧ c.maxLocals = 4 ∧ s.vm.findClass R_law = some m.cls ∧ (∀ w ∈ lw_tbl, w.before #[Value.ref b] s = true) ∧ va_X b L xs s s.heap ∧ b < s.heap.size ∧ meth.locks = false ∧ (Jvm.Cond.and given_1 narrow_1).before #[Value.ref b] s = true
def LS_row (Inv : PH → PD → Prop) : Prop := ∀ (σ : PH) (d : PD) (p1 : Int32) (p2 : Int32) (p3 : Int32), Inv σ d → ∃ (u : Int32 × PH) (v : Int32 × PH), f_X8_row σ p1 p2 p3 = some u ∧ f_X9_row u.2 p1 p2 p3 = some v ∧ u.1 = v.1 ∧ Inv v.2 d
def LS_set (Inv : PH → PD → Prop) : Prop := ∀ (σ : PH) (d : PD) (p1 : Int32) (p2 : Int32) (p3 : Int64), Inv σ d → ∃ (u : Int32 × PH) (v : Int32 × PH), f_X8_set σ p1 p2 p3 = some u ∧ f_X9_set u.2 p1 p2 p3 = some v ∧ u.1 = v.1 ∧ Inv v.2 d
def LS_copy (Inv : PH → PD → Prop) : Prop := ∀ (σ : PH) (d : PD) (p1 : Int32) (p2 : Int32) (p3 : Int32) (p4 : Int32) (p5 : Int32), Inv σ d → ∃ (u : Int32 × PH) (v : Int32 × PH), f_X8_copy σ p1 p2 p3 p4 p5 = some u ∧ f_X9_copy u.2 p1 p2 p3 p4 p5 = some v ∧ u.1 = v.1 ∧ Inv v.2 d
def LS_element (Inv : PH → PD → Prop) : Prop := ∀ (σ : PH) (d : PD) (p1 : Int32) (p2 : Int32), Inv σ d → ∃ (u : Int64) (v : Int64), f_X8_element σ p1 p2 = some u ∧ f_X9_element σ p1 p2 = some v ∧ u = v ∧ Inv σ d
def LS_show (Inv : PH → PD → Prop) : Prop := ∀ (σ : PH) (d : PD) (p1 : Int32) (p2 : Int32), Inv σ d → ∃ (u : Int32 × PH) (v : Int32 × PH), f_X8_show σ d p1 p2 = some u ∧ f_X9_show u.2 p1 p2 = some v ∧ u.1 = v.1 ∧ Inv v.2 d
def LS_holds (Inv : PH → PD → Prop) : Prop := ∀ (σ : PH) (d : PD) (p1 : Int32), Inv σ d → ∃ (u : Int32) (v : Int32), f_X8_holds σ p1 = some u ∧ f_X9_holds σ p1 = some v ∧ u = v ∧ Inv σ d
def LS_says (Inv : PH → PD → Prop) : Prop := ∀ (σ : PH) (d : PD) (p1 : Int32) (p2 : Int32), Inv σ d → ∃ (u : Int32 × PH) (v : Int32 × PH), f_X8_says σ d p1 p2 = some u ∧ f_X9_says u.2 p1 p2 = some v ∧ u.1 = v.1 ∧ Inv v.2 d
def LS_singer (Inv : PH → PD → Prop) : Prop := ∀ (σ : PH) (d : PD) (p1 : Int32) (p2 : Int32) (p3 : Int32), Inv σ d → ∃ (u : Int32 × PH) (v : Int32 × PH), f_X8_singer σ d p1 p2 p3 = some u ∧ f_X9_singer u.2 p1 p2 p3 = some v ∧ u.1 = v.1 ∧ Inv v.2 d
def LS_singerOf (Inv : PH → PD → Prop) : Prop := ∀ (σ : PH) (d : PD) (p1 : Int32) (p2 : Int32), Inv σ d → ∃ (u : Int32 × PH) (v : Int32 × PH), f_X8_singerOf σ d p1 p2 = some u ∧ f_X9_singerOf u.2 p1 p2 = some v ∧ u.1 = v.1 ∧ Inv v.2 d
def LS_ask (Inv : PH → PD → Prop) : Prop := ∀ (σ : PH) (d : PD) (p1 : Int32) (p2 : Int32), Inv σ d → ∃ (u : Int32 × PH) (v : Int32 × PH), f_X8_ask σ d p1 p2 = some u ∧ f_X9_ask u.2 p1 p2 = some v ∧ u.1 = v.1 ∧ Inv v.2 d
def LS_loft (Inv : PH → PD → Prop) : Prop := ∀ (σ : PH) (d : PD) (p1 : Int32), Inv σ d → ∃ (u : Int32 × PH × PD) (v : Int32 × PH), f_X8_loft σ d p1 = some u ∧ f_X9_loft u.2.1 p1 = some v ∧ u.1 = v.1 ∧ Inv v.2 u.2.2
def LS_fault (Inv : PH → PD → Prop) : Prop := ∀ (σ : PH) (d : PD), Inv σ d → ∃ (u : Int32) (v : Int32), f_X8_fault σ = u ∧ f_X9_fault σ = v ∧ u = v ∧ Inv σ d
def LS_worlds (Inv : PH → PD → Prop) : Prop := ∀ (σ : PH) (d : PD) (p1 : Int32), Inv σ d → ∃ (u : Int32 × PH) (v : Int32 × PH), f_X8_worlds σ d p1 = some u ∧ f_X9_worlds u.2 p1 = some v ∧ u.1 = v.1 ∧ Inv v.2 d
def LS_world (Inv : PH → PD → Prop) : Prop := ∀ (σ : PH) (d : PD) (p1 : Int32), Inv σ d → ∃ (u : Int32 × PH) (v : Int32 × PH), f_X8_world σ d p1 = some u ∧ f_X9_world u.2 p1 = some v ∧ u.1 = v.1 ∧ Inv v.2 d
def LS_sounds (Inv : PH → PD → Prop) : Prop := ∀ (σ : PH) (d : PD) (p1 : Int32) (p2 : Int32), Inv σ d → ∃ (u : Int32 × PH) (v : Int32 × PH), f_X8_sounds σ d p1 p2 = some u ∧ f_X9_sounds u.2 p1 p2 = some v ∧ u.1 = v.1 ∧ Inv v.2 d
def LS_heard (Inv : PH → PD → Prop) : Prop := ∀ (σ : PH) (d : PD) (p1 : Int32) (p2 : Int32), Inv σ d → ∃ (u : Int32 × PH) (v : Int32 × PH), f_X8_heard σ d p1 p2 = some u ∧ f_X9_heard u.2 p1 p2 = some v ∧ u.1 = v.1 ∧ Inv v.2 d
def LS_known (Inv : PH → PD → Prop) : Prop := ∀ (σ : PH) (d : PD) (p1 : Int32), Inv σ d → ∃ (u : Int32 × PH) (v : Int32 × PH), f_X8_known σ d p1 = some u ∧ f_X9_known u.2 p1 = some v ∧ u.1 = v.1 ∧ Inv v.2 d
def LS_forget (Inv : PH → PD → Prop) : Prop := ∀ (σ : PH) (d : PD), Inv σ d → ∃ (u : Int32 × PH) (v : Int32 × PH), f_X8_forget σ d = u ∧ f_X9_forget u.2 = v ∧ u.1 = v.1 ∧ Inv v.2 d
def LS_may (Inv : PH → PD → Prop) : Prop := ∀ (σ : PH) (d : PD) (p1 : Int32), Inv σ d → ∃ (u : Int32 × PH) (v : Int32 × PH), f_X8_may σ d p1 = some u ∧ f_X9_may u.2 p1 = some v ∧ u.1 = v.1 ∧ Inv v.2 d
def LS_likeliest (Inv : PH → PD → Prop) : Prop := ∀ (σ : PH) (d : PD), Inv σ d → ∃ (u : Int32 × PH) (v : Int32 × PH), f_X8_likeliest σ d = some u ∧ f_X9_likeliest u.2 = some v ∧ u.1 = v.1 ∧ Inv v.2 d
def LS_lawful (Inv : PH → PD → Prop) : Prop := ∀ (σ : PH) (d : PD) (p1 : Int32), Inv σ d → ∃ (u : Int32) (v : Int32), f_X8_lawful σ d p1 = some u ∧ f_X9_lawful σ p1 = some v ∧ u = v ∧ Inv σ d
def LS_parts (Inv : PH → PD → Prop) : Prop := ∀ (σ : PH) (d : PD) (p1 : Int32) (p2 : Int32), Inv σ d → ∃ (u : Int32 × PH) (v : Int32 × PH), f_X8_parts σ d p1 p2 = some u ∧ f_X9_parts u.2 p1 p2 = some v ∧ u.1 = v.1 ∧ Inv v.2 d
def LS_next (Inv : PH → PD → Prop) : Prop := ∀ (σ : PH) (d : PD), Inv σ d → ∃ (u : Int32 × PH) (v : Int32 × PH), f_X8_next σ d = some u ∧ f_X9_next u.2 = some v ∧ u.1 = v.1 ∧ Inv v.2 d
def LS_by (Inv : PH → PD → Prop) : Prop := ∀ (σ : PH) (d : PD) (p1 : Int32), Inv σ d → ∃ (u : Int32 × PH) (v : Int32 × PH), f_X8_by σ d p1 = some u ∧ f_X9_by u.2 p1 = some v ∧ u.1 = v.1 ∧ Inv v.2 d
def LS_ahead (Inv : PH → PD → Prop) : Prop := ∀ (σ : PH) (d : PD) (p1 : Int32) (p2 : Int32) (p3 : Int32), Inv σ d → ∃ (u : Int32 × PH) (v : Int32 × PH), f_X8_ahead σ d p1 p2 p3 = some u ∧ f_X9_ahead u.2 p1 p2 p3 = some v ∧ u.1 = v.1 ∧ Inv v.2 d
def LS_judge (Inv : PH → PD → Prop) : Prop := ∀ (σ : PH) (d : PD) (p1 : Int32) (p2 : Int32), Inv σ d → ∃ (u : Int32 × PH) (v : Int32 × PH), f_X8_judge σ d p1 p2 = some u ∧ f_X9_judge u.2 p1 p2 = some v ∧ u.1 = v.1 ∧ Inv v.2 d
def LS_behind (Inv : PH → PD → Prop) : Prop := ∀ (σ : PH) (d : PD) (p1 : Int32) (p2 : Int32), Inv σ d → ∃ (u : Int32 × PH) (v : Int32 × PH), f_X8_behind σ d p1 p2 = some u ∧ f_X9_behind u.2 p1 p2 = some v ∧ u.1 = v.1 ∧ Inv v.2 d
def LS_byEar (Inv : PH → PD → Prop) : Prop := ∀ (σ : PH) (d : PD) (p1 : Int32) (p2 : Int32), Inv σ d → ∃ (u : Int32 × PH) (v : Int32 × PH), f_X8_byEar σ d p1 p2 = some u ∧ f_X9_byEar u.2 p1 p2 = some v ∧ u.1 = v.1 ∧ Inv v.2 d
def LS_beside (Inv : PH → PD → Prop) : Prop := ∀ (σ : PH) (d : PD), Inv σ d → ∃ (u : Int32 × PH) (v : Int32 × PH), f_X8_beside σ d = some u ∧ f_X9_beside u.2 = some v ∧ u.1 = v.1 ∧ Inv v.2 d
def LS_quiet (Inv : PH → PD → Prop) : Prop := ∀ (σ : PH) (d : PD), Inv σ d → ∃ (u : Int32 × PH) (v : Int32 × PH), f_X8_quiet σ d = some u ∧ f_X9_quiet u.2 = some v ∧ u.1 = v.1 ∧ Inv v.2 d
def LS_swap (Inv : PH → PD → Prop) : Prop := ∀ (σ : PH) (d : PD) (p1 : Int32) (p2 : Int32), Inv σ d → ∃ (u : Int32 × PH) (v : Int32 × PH), f_X8_swap σ d p1 p2 = some u ∧ f_X9_swap u.2 p1 p2 = some v ∧ u.1 = v.1 ∧ Inv v.2 d
def LS_isTrue (Inv : PH → PD → Prop) : Prop := ∀ (σ : PH) (d : PD) (p1 : Int32), Inv σ d → ∃ (u : Int32 × PH) (v : Int32 × PH), f_X8_isTrue σ d p1 = some u ∧ f_X9_isTrue u.2 p1 = some v ∧ u.1 = v.1 ∧ Inv v.2 d
def LS_hear (Inv : PH → PD → Prop) : Prop := ∀ (σ : PH) (d : PD) (p1 : Int32), Inv σ d → ∃ (u : Int32 × PH) (v : Int32 × PH), f_X8_hear σ d p1 = some u ∧ f_X9_hear u.2 p1 = some v ∧ u.1 = v.1 ∧ Inv v.2 d
def LS_evenings (Inv : PH → PD → Prop) : Prop := ∀ (σ : PH) (d : PD) (p1 : Int32), Inv σ d → ∃ (u : Int32 × PH) (v : Int32 × PH), f_X8_evenings σ d p1 = some u ∧ f_X9_evenings u.2 p1 = some v ∧ u.1 = v.1 ∧ Inv v.2 d
def LS_seed (Inv : PH → PD → Prop) : Prop := ∀ (σ : PH) (d : PD) (p1 : Int32), Inv σ d → ∃ (u : Int32 × PH) (v : Int32 × PH), f_X8_seed σ d p1 = u ∧ f_X9_seed u.2 p1 = v ∧ u.1 = v.1 ∧ Inv v.2 d
def LS_act (Inv : PH → PD → Prop) : Prop := ∀ (σ : PH) (d : PD) (p1 : Int32) (p2 : Int32) (p3 : Int32), Inv σ d → ∃ (u : Int32 × PH) (v : Int32 × PH), f_X8_act σ d p1 p2 p3 = some u ∧ f_X9_act u.2 p1 p2 p3 = some v ∧ u.1 = v.1 ∧ Inv v.2 d
def LS_trace (Inv : PH → PD → Prop) : Prop := ∀ (σ : PH) (d : PD) (p1 : Int32), Inv σ d → ∃ (u : Int32) (v : Int32), f_X8_trace σ p1 = some u ∧ f_X9_trace σ p1 = some v ∧ u = v ∧ Inv σ d
def LS_image (Inv : PH → PD → Prop) : Prop := ∀ (σ : PH) (d : PD), Inv σ d → ∃ (u : Int32 × PH) (v : Int32 × PH), f_X8_image σ d = u ∧ f_X9_image u.2 = some v ∧ u.1 = v.1 ∧ Inv v.2 d
def LS_restore (Inv : PH → PD → Prop) : Prop := ∀ (σ : PH) (d : PD), Inv σ d → ∃ (u : Int32 × PH) (v : Int32 × PH), f_X8_restore σ d = some u ∧ f_X9_restore u.2 = some v ∧ u.1 = v.1 ∧ Inv v.2 d
def LS_status (Inv : PH → PD → Prop) : Prop := ∀ (σ : PH) (d : PD) (p1 : Int32), Inv σ d → ∃ (u : Int32) (v : Int32), f_X8_status σ d p1 = some u ∧ f_X9_status σ p1 = some v ∧ u = v ∧ Inv σ d
theorem sw_0_39 {x : Int32} (h0 : ¬ x = 0) (h1 : ¬ x = 1) (h2 : ¬ x = 2) (h3 : ¬ x = 3) (h4 : ¬ x = 4) (h5 : ¬ x = 5) (h6 : ¬ x = 6) (h7 : ¬ x = 7) (h8 : ¬ x = 8) (h9 : ¬ x = 9) (h10 : ¬ x = 10) (h11 : ¬ x = 11) (h12 : ¬ x = 12) (h13 : ¬ x = 13) (h14 : ¬ x = 14) (h15 : ¬ x = 15) (h16 : ¬ x = 16) (h17 : ¬ x = 17) (h18 : ¬ x = 18) (h19 : ¬ x = 19) (h20 : ¬ x = 20) (h21 : ¬ x = 21) (h22 : ¬ x = 22) (h23 : ¬ x = 23) (h24 : ¬ x = 24) (h25 : ¬ x = 25) (h26 : ¬ x = 26) (h27 : ¬ x = 27) (h28 : ¬ x = 28) (h29 : ¬ x = 29) (h30 : ¬ x = 30) (h31 : ¬ x = 31) (h32 : ¬ x = 32) (h33 : ¬ x = 33) (h34 : ¬ x = 34) (h35 : ¬ x = 35) (h36 : ¬ x = 36) (h37 : ¬ x = 37) (h38 : ¬ x = 38) (h39 : ¬ x = 39) : x.toInt < 0 ∨ 39 < x.toInt := by
  by_cases a : x.toInt < 0
  · exact Or.inl a
  by_cases b : 39 < x.toInt
  · exact Or.inr b
  exfalso
  rcases (show x.toInt = 0 ∨ x.toInt = 1 ∨ x.toInt = 2 ∨ x.toInt = 3 ∨ x.toInt = 4 ∨ x.toInt = 5 ∨ x.toInt = 6 ∨ x.toInt = 7 ∨ x.toInt = 8 ∨ x.toInt = 9 ∨ x.toInt = 10 ∨ x.toInt = 11 ∨ x.toInt = 12 ∨ x.toInt = 13 ∨ x.toInt = 14 ∨ x.toInt = 15 ∨ x.toInt = 16 ∨ x.toInt = 17 ∨ x.toInt = 18 ∨ x.toInt = 19 ∨ x.toInt = 20 ∨ x.toInt = 21 ∨ x.toInt = 22 ∨ x.toInt = 23 ∨ x.toInt = 24 ∨ x.toInt = 25 ∨ x.toInt = 26 ∨ x.toInt = 27 ∨ x.toInt = 28 ∨ x.toInt = 29 ∨ x.toInt = 30 ∨ x.toInt = 31 ∨ x.toInt = 32 ∨ x.toInt = 33 ∨ x.toInt = 34 ∨ x.toInt = 35 ∨ x.toInt = 36 ∨ x.toInt = 37 ∨ x.toInt = 38 ∨ x.toInt = 39 by omega) with e | e | e | e | e | e | e | e | e | e | e | e | e | e | e | e | e | e | e | e | e | e | e | e | e | e | e | e | e | e | e | e | e | e | e | e | e | e | e | e
  · exact h0 (Int32.toInt_inj.mp (e.trans rfl))
  · exact h1 (Int32.toInt_inj.mp (e.trans rfl))
  · exact h2 (Int32.toInt_inj.mp (e.trans rfl))
  · exact h3 (Int32.toInt_inj.mp (e.trans rfl))
  · exact h4 (Int32.toInt_inj.mp (e.trans rfl))
  · exact h5 (Int32.toInt_inj.mp (e.trans rfl))
  · exact h6 (Int32.toInt_inj.mp (e.trans rfl))
  · exact h7 (Int32.toInt_inj.mp (e.trans rfl))
  · exact h8 (Int32.toInt_inj.mp (e.trans rfl))
  · exact h9 (Int32.toInt_inj.mp (e.trans rfl))
  · exact h10 (Int32.toInt_inj.mp (e.trans rfl))
  · exact h11 (Int32.toInt_inj.mp (e.trans rfl))
  · exact h12 (Int32.toInt_inj.mp (e.trans rfl))
  · exact h13 (Int32.toInt_inj.mp (e.trans rfl))
  · exact h14 (Int32.toInt_inj.mp (e.trans rfl))
  · exact h15 (Int32.toInt_inj.mp (e.trans rfl))
  · exact h16 (Int32.toInt_inj.mp (e.trans rfl))
  · exact h17 (Int32.toInt_inj.mp (e.trans rfl))
  · exact h18 (Int32.toInt_inj.mp (e.trans rfl))
  · exact h19 (Int32.toInt_inj.mp (e.trans rfl))
  · exact h20 (Int32.toInt_inj.mp (e.trans rfl))
  · exact h21 (Int32.toInt_inj.mp (e.trans rfl))
  · exact h22 (Int32.toInt_inj.mp (e.trans rfl))
  · exact h23 (Int32.toInt_inj.mp (e.trans rfl))
  · exact h24 (Int32.toInt_inj.mp (e.trans rfl))
  · exact h25 (Int32.toInt_inj.mp (e.trans rfl))
  · exact h26 (Int32.toInt_inj.mp (e.trans rfl))
  · exact h27 (Int32.toInt_inj.mp (e.trans rfl))
  · exact h28 (Int32.toInt_inj.mp (e.trans rfl))
  · exact h29 (Int32.toInt_inj.mp (e.trans rfl))
  · exact h30 (Int32.toInt_inj.mp (e.trans rfl))
  · exact h31 (Int32.toInt_inj.mp (e.trans rfl))
  · exact h32 (Int32.toInt_inj.mp (e.trans rfl))
  · exact h33 (Int32.toInt_inj.mp (e.trans rfl))
  · exact h34 (Int32.toInt_inj.mp (e.trans rfl))
  · exact h35 (Int32.toInt_inj.mp (e.trans rfl))
  · exact h36 (Int32.toInt_inj.mp (e.trans rfl))
  · exact h37 (Int32.toInt_inj.mp (e.trans rfl))
  · exact h38 (Int32.toInt_inj.mp (e.trans rfl))
  · exact h39 (Int32.toInt_inj.mp (e.trans rfl))
theorem lg_cmp_self (x : Int64) : lg_cmp x x = 0 := by unfold lg_cmp; simp
theorem law_gt {L i : Nat} (hL : L ≤ 3072) (hi : i ≤ L) (h : ¬ nI L - 6 < nI i) : i + 6 ≤ L := by
  have h6 : (6 : Int32) = nI 6 := rfl
  have e := pk_sub_toInt (a := L) (b := 6) (by omega) (by omega)
  rw [← h6] at e
  have e2 : (nI i).toInt = (i : Int) := nI_toInt (by omega)
  have h3 : ¬ (nI L - 6).toInt < (nI i).toInt := fun q => h (Int32.lt_iff_toInt_lt.mpr q)
  omega
def law_cells : Nat := 106
def law_slots : Nat := 39857
set_option maxHeartbeats 40000000 in
set_option maxRecDepth 100000 in
theorem law_loop {p : Program} {l : Launch} {e : Env} {s : State} {m : MethodId} {below : List Frame} {meth : Method} {c : Code} {b L : Nat} {xs : Nat → Int32} (hL : L ≤ 3072) (C0 : lw_At p s m meth c b L xs) {D : va_G} {a : Nat → Nat} {cA : Nat → ClassId} {sa : Nat → Nat} (Inv : PH → PD → Prop) (hall : ∀ (σ : PH) (d : PD), Inv σ d → isHall d.1 ∧ isHall d.2.1) (s_row : LS_row Inv) (s_set : LS_set Inv) (s_copy : LS_copy Inv) (s_element : LS_element Inv) (s_show : LS_show Inv) (s_holds : LS_holds Inv) (s_says : LS_says Inv) (s_singer : LS_singer Inv) (s_singerOf : LS_singerOf Inv) (s_ask : LS_ask Inv) (s_loft : LS_loft Inv) (s_fault : LS_fault Inv) (s_worlds : LS_worlds Inv) (s_world : LS_world Inv) (s_sounds : LS_sounds Inv) (s_heard : LS_heard Inv) (s_known : LS_known Inv) (s_forget : LS_forget Inv) (s_may : LS_may Inv) (s_likeliest : LS_likeliest Inv) (s_lawful : LS_lawful Inv) (s_parts : LS_parts Inv) (s_next : LS_next Inv) (s_by : LS_by Inv) (s_ahead : LS_ahead Inv) (s_judge : LS_judge Inv) (s_behind : LS_behind Inv) (s_byEar : LS_byEar Inv) (s_beside : LS_beside Inv) (s_quiet : LS_quiet Inv) (s_swap : LS_swap Inv) (s_isTrue : LS_isTrue Inv) (s_hear : LS_hear Inv) (s_evenings : LS_evenings Inv) (s_seed : LS_seed Inv) (s_act : LS_act Inv) (s_trace : LS_trace Inv) (s_image : LS_image Inv) (s_restore : LS_restore Inv) (s_status : LS_status Inv) (C : ZC s m #[Value.ref b] RL D a cA (fun q : Nat => s.heap.size ≤ q) sa) :
    ∀ (n i : Nat) (x3 : Int32), i ≤ L → L + 1 ≤ i + n → x3 = nI i → ∀ (σ : PH) (d : PD), Inv σ d → ∀ (H : Heap) (locs : List Loc) (ls : Array Slot), lv_has ls 4 [(0, .ref b), (1, .ref (a 0)), (2, .ref (a 81)), (3, .int x3)] → va_P D vwCl (wl a cA σ d) H → va_S (fun q : Nat => s.heap.size ≤ q) s.heap H locs → W p l e room_1 s m #[Value.ref b] below meth c H locs 106 39857 (lw_Z below #[Value.ref b] s) (F0 m 18 ls []) := by
  obtain ⟨hx, hb, hr, hml, hown, hts, hX, hbl, hlocks, hgv⟩ := C0
  have hbA : ¬ (fun q : Nat => s.heap.size ≤ q) b := Nat.not_le.mpr hbl
  have hDA : DA a (fun q : Nat => s.heap.size ≤ q) := C.2.2.2.2
  intro n
  induction n with
  | zero =>
    intro i x3 h1 h2
    exact absurd h2 (by omega)
  | succ n ih =>
    intro i x3 hi hin ex3 σ d hI H locs ls hl hP hS
    obtain ⟨hd1, hd2⟩ := hall σ d hI
    refine lv_iload_n hx hb dL_law_18 rfl (lv_at hl 3 rfl) ?_
    refine lv_aload_n hx hb dL_law_19 rfl (lv_at hl 0 rfl) ?_
    refine va_slen hx hb hX hbl hbA hS dL_law_20 ?_
    refine lv_bipush (v := 6) hx hb dL_law_21 (by decide) ?_
    refine lv_isub hx hb dL_law_23 ?_
    refine lv_icmp_gt (tgt := 1345) hx hb dL_law_24 (by decide) (fun _ => ?_) (fun c_0 => ?_)
    · refine lv_iconst (v := 1) hx hb dL_law_1345 (by decide) ?_
      refine va_forget (fun q hq => hS.2.2 q hq) ?_
      refine W.widen (k := 600000) (n := 7302250) (Nat.le_of_ble_eq_true rfl) (Nat.le_of_ble_eq_true rfl) ?_
      exact lw_ret hx hb hr hlocks dL_law_1346
    · have h6 : i + 6 ≤ L := law_gt hL hi (by rw [← ex3]; exact c_0)
      have g_0 : vp_in (x3) L := by rw [ex3]; exact vp_in_nI (by omega) (by omega)
      have g_1 : vp_in (x3 + 1) L := by rw [ex3, show (1 : Int32) = nI 1 from rfl, nI_add]; exact vp_in_nI (by omega) (by omega)
      have g_2 : vp_in (x3 + 2) L := by rw [ex3, show (2 : Int32) = nI 2 from rfl, nI_add]; exact vp_in_nI (by omega) (by omega)
      have g_3 : vp_in (x3 + 3) L := by rw [ex3, show (3 : Int32) = nI 3 from rfl, nI_add]; exact vp_in_nI (by omega) (by omega)
      have g_4 : vp_in (x3 + 4) L := by rw [ex3, show (4 : Int32) = nI 4 from rfl, nI_add]; exact vp_in_nI (by omega) (by omega)
      have g_5 : vp_in (x3 + 5) L := by rw [ex3, show (5 : Int32) = nI 5 from rfl, nI_add]; exact vp_in_nI (by omega) (by omega)
      have hnext : ∀ (σ : PH) (d : PD), Inv σ d → ∀ (H : Heap) (locs : List Loc) (ls : Array Slot), lv_has ls 4 [(0, .ref b), (1, .ref (a 0)), (2, .ref (a 81)), (3, .int x3)] → va_P D vwCl (wl a cA σ d) H → va_S (fun q : Nat => s.heap.size ≤ q) s.heap H locs → W p l e room_1 s m #[Value.ref b] below meth c H locs 106 39857 (lw_Z below #[Value.ref b] s) (F0 m 1339 ls []) := by
        intro σ d hI H locs ls hl hP hS
        refine lv_iinc (v := nI (i + 6)) (lv' := [(3, .int (nI (i + 6))), (0, .ref b), (1, .ref (a 0)), (2, .ref (a 81))]) hx hb dL_law_1339 hl (k := 3) rfl (by rw [ex3]; exact nI_add i 6) (by decide) rfl (fun ls hl => ?_)
        refine lv_goto (tgt := 18) hx hb dL_law_1342 (by decide) ?_
        exact ih (i + 6) _ h6 (by omega) rfl σ d hI _ _ _ (lv_sub hl [1, 2, 3, 0] rfl) hP hS
      refine lv_aload_n hx hb dL_law_27 rfl (lv_at hl 0 rfl) ?_
      refine lv_iload_n hx hb dL_law_28 rfl (lv_at hl 3 rfl) ?_
      refine va_sld hx hb hX hbl hbA hS g_0 dL_law_29 ?_
      refine lv_bipush (v := 63) hx hb dL_law_30 (by decide) ?_
      refine lv_iand hx hb dL_law_32 ?_
      generalize hop : (xs x3.toNatClampNeg &&& 63) = op
      by_cases hk0 : op = 0
      · obtain ⟨u, v, hu, hv, huv, hI2⟩ := s_row σ d (xs (x3 + 1).toNatClampNeg) (xs (x3 + 2).toNatClampNeg) (xs (x3 + 3).toNatClampNeg) hI
        refine lv_tableIn (tgt := 208) hx hb dL_law_33 (by rw [hk0]; decide) (by rw [hk0]; decide) (by rw [hk0]; rfl) (by decide) ?_
        refine lv_aload_n hx hb dL_law_208 rfl (lv_at hl 1 rfl) ?_
        refine lv_aload_n hx hb dL_law_209 rfl (lv_at hl 0 rfl) ?_
        refine lv_iload_n hx hb dL_law_210 rfl (lv_at hl 3 rfl) ?_
        refine lv_iconst (v := 1) hx hb dL_law_211 (by decide) ?_
        refine lv_iadd hx hb dL_law_212 ?_
        refine va_sld hx hb hX hbl hbA hS g_1 dL_law_213 ?_
        refine lv_aload_n hx hb dL_law_214 rfl (lv_at hl 0 rfl) ?_
        refine lv_iload_n hx hb dL_law_215 rfl (lv_at hl 3 rfl) ?_
        refine lv_iconst (v := 2) hx hb dL_law_216 (by decide) ?_
        refine lv_iadd hx hb dL_law_217 ?_
        refine va_sld hx hb hX hbl hbA hS g_2 dL_law_218 ?_
        refine lv_aload_n hx hb dL_law_219 rfl (lv_at hl 0 rfl) ?_
        refine lv_iload_n hx hb dL_law_220 rfl (lv_at hl 3 rfl) ?_
        refine lv_iconst (v := 3) hx hb dL_law_221 (by decide) ?_
        refine lv_iadd hx hb dL_law_222 ?_
        refine va_sld hx hb hX hbl hbA hS g_3 dL_law_223 ?_
        refine zz_callVi (rest := []) hx hb hml C hP hS (c_X8_row l hDA (xs (x3 + 1).toNatClampNeg) (xs (x3 + 2).toNatClampNeg) (xs (x3 + 3).toNatClampNeg) hu) zw_L_13 ⟨Nat.le_of_ble_eq_true rfl, Nat.le_of_ble_eq_true rfl⟩ (by decide) lay_0 rfl rfl hl.1 (Nat.le_of_ble_eq_true rfl) ⟨Nat.le_of_ble_eq_true rfl, Nat.le_of_ble_eq_true rfl⟩ rfl dL_law_224 (fun H locs hP hS => ?_)
        refine lv_aload_n hx hb dL_law_227 rfl (lv_at hl 2 rfl) ?_
        refine lv_aload_n hx hb dL_law_228 rfl (lv_at hl 0 rfl) ?_
        refine lv_iload_n hx hb dL_law_229 rfl (lv_at hl 3 rfl) ?_
        refine lv_iconst (v := 1) hx hb dL_law_230 (by decide) ?_
        refine lv_iadd hx hb dL_law_231 ?_
        refine va_sld hx hb hX hbl hbA hS g_1 dL_law_232 ?_
        refine lv_aload_n hx hb dL_law_233 rfl (lv_at hl 0 rfl) ?_
        refine lv_iload_n hx hb dL_law_234 rfl (lv_at hl 3 rfl) ?_
        refine lv_iconst (v := 2) hx hb dL_law_235 (by decide) ?_
        refine lv_iadd hx hb dL_law_236 ?_
        refine va_sld hx hb hX hbl hbA hS g_2 dL_law_237 ?_
        refine lv_aload_n hx hb dL_law_238 rfl (lv_at hl 0 rfl) ?_
        refine lv_iload_n hx hb dL_law_239 rfl (lv_at hl 3 rfl) ?_
        refine lv_iconst (v := 3) hx hb dL_law_240 (by decide) ?_
        refine lv_iadd hx hb dL_law_241 ?_
        refine va_sld hx hb hX hbl hbA hS g_3 dL_law_242 ?_
        refine zz_callVi (rest := [.int u.1]) hx hb hml C hP hS (c_X9_row l hDA (xs (x3 + 1).toNatClampNeg) (xs (x3 + 2).toNatClampNeg) (xs (x3 + 3).toNatClampNeg) hv) zw_L_17 ⟨Nat.le_of_ble_eq_true rfl, Nat.le_of_ble_eq_true rfl⟩ (by decide) lay_81 rfl rfl hl.1 (Nat.le_of_ble_eq_true rfl) ⟨Nat.le_of_ble_eq_true rfl, Nat.le_of_ble_eq_true rfl⟩ rfl dL_law_243 (fun H locs hP hS => ?_)
        refine lv_icmp_eq (tgt := 1339) hx hb dL_law_246 (by decide) (fun _ => ?_) (fun hne => absurd huv hne)
        exact hnext _ _ hI2 _ _ _ (lv_sub hl [0, 1, 2, 3] rfl) hP hS
      by_cases hk1 : op = 1
      · obtain ⟨u, v, hu, hv, huv, hI2⟩ := s_set σ d (xs (x3 + 1).toNatClampNeg) (xs (x3 + 2).toNatClampNeg) (((xs (x3 + 3).toNatClampNeg).toInt64 <<< ((32 : Int32).toInt64 &&& 63)) ||| ((xs (x3 + 4).toNatClampNeg).toInt64 &&& 4294967295)) hI
        refine lv_tableIn (tgt := 251) hx hb dL_law_33 (by rw [hk1]; decide) (by rw [hk1]; decide) (by rw [hk1]; rfl) (by decide) ?_
        refine lv_aload_n hx hb dL_law_251 rfl (lv_at hl 1 rfl) ?_
        refine lv_aload_n hx hb dL_law_252 rfl (lv_at hl 0 rfl) ?_
        refine lv_iload_n hx hb dL_law_253 rfl (lv_at hl 3 rfl) ?_
        refine lv_iconst (v := 1) hx hb dL_law_254 (by decide) ?_
        refine lv_iadd hx hb dL_law_255 ?_
        refine va_sld hx hb hX hbl hbA hS g_1 dL_law_256 ?_
        refine lv_aload_n hx hb dL_law_257 rfl (lv_at hl 0 rfl) ?_
        refine lv_iload_n hx hb dL_law_258 rfl (lv_at hl 3 rfl) ?_
        refine lv_iconst (v := 2) hx hb dL_law_259 (by decide) ?_
        refine lv_iadd hx hb dL_law_260 ?_
        refine va_sld hx hb hX hbl hbA hS g_2 dL_law_261 ?_
        refine lv_aload_n hx hb dL_law_262 rfl (lv_at hl 0 rfl) ?_
        refine lv_iload_n hx hb dL_law_263 rfl (lv_at hl 3 rfl) ?_
        refine lv_iconst (v := 3) hx hb dL_law_264 (by decide) ?_
        refine lv_iadd hx hb dL_law_265 ?_
        refine va_sld hx hb hX hbl hbA hS g_3 dL_law_266 ?_
        refine lv_i2l hx hb dL_law_267 rfl ?_
        refine lv_bipush (v := 32) hx hb dL_law_268 (by decide) ?_
        refine lv_lshl hx hb dL_law_270 rfl ?_
        refine lv_aload_n hx hb dL_law_271 rfl (lv_at hl 0 rfl) ?_
        refine lv_iload_n hx hb dL_law_272 rfl (lv_at hl 3 rfl) ?_
        refine lv_iconst (v := 4) hx hb dL_law_273 (by decide) ?_
        refine lv_iadd hx hb dL_law_274 ?_
        refine va_sld hx hb hX hbl hbA hS g_4 dL_law_275 ?_
        refine lv_i2l hx hb dL_law_276 rfl ?_
        refine lv_ldc2 (v := 4294967295) hx hb C.1 (C.2.1 _ kk_L_18) dL_law_277 ?_
        refine lv_land hx hb dL_law_280 ?_
        refine lv_lor hx hb dL_law_281 ?_
        refine zz_callVi (rest := []) hx hb hml C hP hS (c_X8_set l hDA (xs (x3 + 1).toNatClampNeg) (xs (x3 + 2).toNatClampNeg) (((xs (x3 + 3).toNatClampNeg).toInt64 <<< ((32 : Int32).toInt64 &&& 63)) ||| ((xs (x3 + 4).toNatClampNeg).toInt64 &&& 4294967295)) hu) zw_L_20 ⟨Nat.le_of_ble_eq_true rfl, Nat.le_of_ble_eq_true rfl⟩ (by decide) lay_0 rfl rfl hl.1 (Nat.le_of_ble_eq_true rfl) ⟨Nat.le_of_ble_eq_true rfl, Nat.le_of_ble_eq_true rfl⟩ rfl dL_law_282 (fun H locs hP hS => ?_)
        refine lv_aload_n hx hb dL_law_285 rfl (lv_at hl 2 rfl) ?_
        refine lv_aload_n hx hb dL_law_286 rfl (lv_at hl 0 rfl) ?_
        refine lv_iload_n hx hb dL_law_287 rfl (lv_at hl 3 rfl) ?_
        refine lv_iconst (v := 1) hx hb dL_law_288 (by decide) ?_
        refine lv_iadd hx hb dL_law_289 ?_
        refine va_sld hx hb hX hbl hbA hS g_1 dL_law_290 ?_
        refine lv_aload_n hx hb dL_law_291 rfl (lv_at hl 0 rfl) ?_
        refine lv_iload_n hx hb dL_law_292 rfl (lv_at hl 3 rfl) ?_
        refine lv_iconst (v := 2) hx hb dL_law_293 (by decide) ?_
        refine lv_iadd hx hb dL_law_294 ?_
        refine va_sld hx hb hX hbl hbA hS g_2 dL_law_295 ?_
        refine lv_aload_n hx hb dL_law_296 rfl (lv_at hl 0 rfl) ?_
        refine lv_iload_n hx hb dL_law_297 rfl (lv_at hl 3 rfl) ?_
        refine lv_iconst (v := 3) hx hb dL_law_298 (by decide) ?_
        refine lv_iadd hx hb dL_law_299 ?_
        refine va_sld hx hb hX hbl hbA hS g_3 dL_law_300 ?_
        refine lv_i2l hx hb dL_law_301 rfl ?_
        refine lv_bipush (v := 32) hx hb dL_law_302 (by decide) ?_
        refine lv_lshl hx hb dL_law_304 rfl ?_
        refine lv_aload_n hx hb dL_law_305 rfl (lv_at hl 0 rfl) ?_
        refine lv_iload_n hx hb dL_law_306 rfl (lv_at hl 3 rfl) ?_
        refine lv_iconst (v := 4) hx hb dL_law_307 (by decide) ?_
        refine lv_iadd hx hb dL_law_308 ?_
        refine va_sld hx hb hX hbl hbA hS g_4 dL_law_309 ?_
        refine lv_i2l hx hb dL_law_310 rfl ?_
        refine lv_ldc2 (v := 4294967295) hx hb C.1 (C.2.1 _ kk_L_18) dL_law_311 ?_
        refine lv_land hx hb dL_law_314 ?_
        refine lv_lor hx hb dL_law_315 ?_
        refine zz_callVi (rest := [.int u.1]) hx hb hml C hP hS (c_X9_set l hDA (xs (x3 + 1).toNatClampNeg) (xs (x3 + 2).toNatClampNeg) (((xs (x3 + 3).toNatClampNeg).toInt64 <<< ((32 : Int32).toInt64 &&& 63)) ||| ((xs (x3 + 4).toNatClampNeg).toInt64 &&& 4294967295)) hv) zw_L_24 ⟨Nat.le_of_ble_eq_true rfl, Nat.le_of_ble_eq_true rfl⟩ (by decide) lay_81 rfl rfl hl.1 (Nat.le_of_ble_eq_true rfl) ⟨Nat.le_of_ble_eq_true rfl, Nat.le_of_ble_eq_true rfl⟩ rfl dL_law_316 (fun H locs hP hS => ?_)
        refine lv_icmp_eq (tgt := 1339) hx hb dL_law_319 (by decide) (fun _ => ?_) (fun hne => absurd huv hne)
        exact hnext _ _ hI2 _ _ _ (lv_sub hl [0, 1, 2, 3] rfl) hP hS
      by_cases hk2 : op = 2
      · obtain ⟨u, v, hu, hv, huv, hI2⟩ := s_copy σ d (xs (x3 + 1).toNatClampNeg) (xs (x3 + 2).toNatClampNeg) (xs (x3 + 3).toNatClampNeg) (xs (x3 + 4).toNatClampNeg) (xs (x3 + 5).toNatClampNeg) hI
        refine lv_tableIn (tgt := 324) hx hb dL_law_33 (by rw [hk2]; decide) (by rw [hk2]; decide) (by rw [hk2]; rfl) (by decide) ?_
        refine lv_aload_n hx hb dL_law_324 rfl (lv_at hl 1 rfl) ?_
        refine lv_aload_n hx hb dL_law_325 rfl (lv_at hl 0 rfl) ?_
        refine lv_iload_n hx hb dL_law_326 rfl (lv_at hl 3 rfl) ?_
        refine lv_iconst (v := 1) hx hb dL_law_327 (by decide) ?_
        refine lv_iadd hx hb dL_law_328 ?_
        refine va_sld hx hb hX hbl hbA hS g_1 dL_law_329 ?_
        refine lv_aload_n hx hb dL_law_330 rfl (lv_at hl 0 rfl) ?_
        refine lv_iload_n hx hb dL_law_331 rfl (lv_at hl 3 rfl) ?_
        refine lv_iconst (v := 2) hx hb dL_law_332 (by decide) ?_
        refine lv_iadd hx hb dL_law_333 ?_
        refine va_sld hx hb hX hbl hbA hS g_2 dL_law_334 ?_
        refine lv_aload_n hx hb dL_law_335 rfl (lv_at hl 0 rfl) ?_
        refine lv_iload_n hx hb dL_law_336 rfl (lv_at hl 3 rfl) ?_
        refine lv_iconst (v := 3) hx hb dL_law_337 (by decide) ?_
        refine lv_iadd hx hb dL_law_338 ?_
        refine va_sld hx hb hX hbl hbA hS g_3 dL_law_339 ?_
        refine lv_aload_n hx hb dL_law_340 rfl (lv_at hl 0 rfl) ?_
        refine lv_iload_n hx hb dL_law_341 rfl (lv_at hl 3 rfl) ?_
        refine lv_iconst (v := 4) hx hb dL_law_342 (by decide) ?_
        refine lv_iadd hx hb dL_law_343 ?_
        refine va_sld hx hb hX hbl hbA hS g_4 dL_law_344 ?_
        refine lv_aload_n hx hb dL_law_345 rfl (lv_at hl 0 rfl) ?_
        refine lv_iload_n hx hb dL_law_346 rfl (lv_at hl 3 rfl) ?_
        refine lv_iconst (v := 5) hx hb dL_law_347 (by decide) ?_
        refine lv_iadd hx hb dL_law_348 ?_
        refine va_sld hx hb hX hbl hbA hS g_5 dL_law_349 ?_
        refine zz_callVi (rest := []) hx hb hml C hP hS (c_X8_copy l hDA (xs (x3 + 1).toNatClampNeg) (xs (x3 + 2).toNatClampNeg) (xs (x3 + 3).toNatClampNeg) (xs (x3 + 4).toNatClampNeg) (xs (x3 + 5).toNatClampNeg) hu) zw_L_25 ⟨Nat.le_of_ble_eq_true rfl, Nat.le_of_ble_eq_true rfl⟩ (by decide) lay_0 rfl rfl hl.1 (Nat.le_of_ble_eq_true rfl) ⟨Nat.le_of_ble_eq_true rfl, Nat.le_of_ble_eq_true rfl⟩ rfl dL_law_350 (fun H locs hP hS => ?_)
        refine lv_aload_n hx hb dL_law_353 rfl (lv_at hl 2 rfl) ?_
        refine lv_aload_n hx hb dL_law_354 rfl (lv_at hl 0 rfl) ?_
        refine lv_iload_n hx hb dL_law_355 rfl (lv_at hl 3 rfl) ?_
        refine lv_iconst (v := 1) hx hb dL_law_356 (by decide) ?_
        refine lv_iadd hx hb dL_law_357 ?_
        refine va_sld hx hb hX hbl hbA hS g_1 dL_law_358 ?_
        refine lv_aload_n hx hb dL_law_359 rfl (lv_at hl 0 rfl) ?_
        refine lv_iload_n hx hb dL_law_360 rfl (lv_at hl 3 rfl) ?_
        refine lv_iconst (v := 2) hx hb dL_law_361 (by decide) ?_
        refine lv_iadd hx hb dL_law_362 ?_
        refine va_sld hx hb hX hbl hbA hS g_2 dL_law_363 ?_
        refine lv_aload_n hx hb dL_law_364 rfl (lv_at hl 0 rfl) ?_
        refine lv_iload_n hx hb dL_law_365 rfl (lv_at hl 3 rfl) ?_
        refine lv_iconst (v := 3) hx hb dL_law_366 (by decide) ?_
        refine lv_iadd hx hb dL_law_367 ?_
        refine va_sld hx hb hX hbl hbA hS g_3 dL_law_368 ?_
        refine lv_aload_n hx hb dL_law_369 rfl (lv_at hl 0 rfl) ?_
        refine lv_iload_n hx hb dL_law_370 rfl (lv_at hl 3 rfl) ?_
        refine lv_iconst (v := 4) hx hb dL_law_371 (by decide) ?_
        refine lv_iadd hx hb dL_law_372 ?_
        refine va_sld hx hb hX hbl hbA hS g_4 dL_law_373 ?_
        refine lv_aload_n hx hb dL_law_374 rfl (lv_at hl 0 rfl) ?_
        refine lv_iload_n hx hb dL_law_375 rfl (lv_at hl 3 rfl) ?_
        refine lv_iconst (v := 5) hx hb dL_law_376 (by decide) ?_
        refine lv_iadd hx hb dL_law_377 ?_
        refine va_sld hx hb hX hbl hbA hS g_5 dL_law_378 ?_
        refine zz_callVi (rest := [.int u.1]) hx hb hml C hP hS (c_X9_copy l hDA (xs (x3 + 1).toNatClampNeg) (xs (x3 + 2).toNatClampNeg) (xs (x3 + 3).toNatClampNeg) (xs (x3 + 4).toNatClampNeg) (xs (x3 + 5).toNatClampNeg) hv) zw_L_29 ⟨Nat.le_of_ble_eq_true rfl, Nat.le_of_ble_eq_true rfl⟩ (by decide) lay_81 rfl rfl hl.1 (Nat.le_of_ble_eq_true rfl) ⟨Nat.le_of_ble_eq_true rfl, Nat.le_of_ble_eq_true rfl⟩ rfl dL_law_379 (fun H locs hP hS => ?_)
        refine lv_icmp_eq (tgt := 1339) hx hb dL_law_382 (by decide) (fun _ => ?_) (fun hne => absurd huv hne)
        exact hnext _ _ hI2 _ _ _ (lv_sub hl [0, 1, 2, 3] rfl) hP hS
      by_cases hk3 : op = 3
      · obtain ⟨u, v, hu, hv, huv, hI2⟩ := s_element σ d (xs (x3 + 1).toNatClampNeg) (xs (x3 + 2).toNatClampNeg) hI
        refine lv_tableIn (tgt := 387) hx hb dL_law_33 (by rw [hk3]; decide) (by rw [hk3]; decide) (by rw [hk3]; rfl) (by decide) ?_
        refine lv_aload_n hx hb dL_law_387 rfl (lv_at hl 1 rfl) ?_
        refine lv_aload_n hx hb dL_law_388 rfl (lv_at hl 0 rfl) ?_
        refine lv_iload_n hx hb dL_law_389 rfl (lv_at hl 3 rfl) ?_
        refine lv_iconst (v := 1) hx hb dL_law_390 (by decide) ?_
        refine lv_iadd hx hb dL_law_391 ?_
        refine va_sld hx hb hX hbl hbA hS g_1 dL_law_392 ?_
        refine lv_aload_n hx hb dL_law_393 rfl (lv_at hl 0 rfl) ?_
        refine lv_iload_n hx hb dL_law_394 rfl (lv_at hl 3 rfl) ?_
        refine lv_iconst (v := 2) hx hb dL_law_395 (by decide) ?_
        refine lv_iadd hx hb dL_law_396 ?_
        refine va_sld hx hb hX hbl hbA hS g_2 dL_law_397 ?_
        refine zz_callVl (rest := []) hx hb hml C hP hS (c_X8_element l hDA (xs (x3 + 1).toNatClampNeg) (xs (x3 + 2).toNatClampNeg) hu) zw_L_30 ⟨Nat.le_of_ble_eq_true rfl, Nat.le_of_ble_eq_true rfl⟩ (by decide) lay_0 rfl rfl hl.1 (Nat.le_of_ble_eq_true rfl) ⟨Nat.le_of_ble_eq_true rfl, Nat.le_of_ble_eq_true rfl⟩ rfl dL_law_398 (fun H locs hP hS => ?_)
        refine lv_aload_n hx hb dL_law_401 rfl (lv_at hl 2 rfl) ?_
        refine lv_aload_n hx hb dL_law_402 rfl (lv_at hl 0 rfl) ?_
        refine lv_iload_n hx hb dL_law_403 rfl (lv_at hl 3 rfl) ?_
        refine lv_iconst (v := 1) hx hb dL_law_404 (by decide) ?_
        refine lv_iadd hx hb dL_law_405 ?_
        refine va_sld hx hb hX hbl hbA hS g_1 dL_law_406 ?_
        refine lv_aload_n hx hb dL_law_407 rfl (lv_at hl 0 rfl) ?_
        refine lv_iload_n hx hb dL_law_408 rfl (lv_at hl 3 rfl) ?_
        refine lv_iconst (v := 2) hx hb dL_law_409 (by decide) ?_
        refine lv_iadd hx hb dL_law_410 ?_
        refine va_sld hx hb hX hbl hbA hS g_2 dL_law_411 ?_
        refine zz_callVl (rest := [.long u]) hx hb hml C hP hS (c_X9_element l hDA (xs (x3 + 1).toNatClampNeg) (xs (x3 + 2).toNatClampNeg) hv) zw_L_34 ⟨Nat.le_of_ble_eq_true rfl, Nat.le_of_ble_eq_true rfl⟩ (by decide) lay_81 rfl rfl hl.1 (Nat.le_of_ble_eq_true rfl) ⟨Nat.le_of_ble_eq_true rfl, Nat.le_of_ble_eq_true rfl⟩ rfl dL_law_412 (fun H locs hP hS => ?_)
        refine W.lcmp hx hb dL_law_415 ?_
        refine lv_if_eq (tgt := 1339) hx hb dL_law_416 (by decide) (fun _ => ?_) (fun hne => absurd (by rw [huv]; exact lg_cmp_self _) hne)
        exact hnext _ _ hI2 _ _ _ (lv_sub hl [0, 1, 2, 3] rfl) hP hS
      by_cases hk4 : op = 4
      · obtain ⟨u, v, hu, hv, huv, hI2⟩ := s_show σ d (xs (x3 + 1).toNatClampNeg) (xs (x3 + 2).toNatClampNeg) hI
        refine lv_tableIn (tgt := 421) hx hb dL_law_33 (by rw [hk4]; decide) (by rw [hk4]; decide) (by rw [hk4]; rfl) (by decide) ?_
        refine lv_aload_n hx hb dL_law_421 rfl (lv_at hl 1 rfl) ?_
        refine lv_aload_n hx hb dL_law_422 rfl (lv_at hl 0 rfl) ?_
        refine lv_iload_n hx hb dL_law_423 rfl (lv_at hl 3 rfl) ?_
        refine lv_iconst (v := 1) hx hb dL_law_424 (by decide) ?_
        refine lv_iadd hx hb dL_law_425 ?_
        refine va_sld hx hb hX hbl hbA hS g_1 dL_law_426 ?_
        refine lv_aload_n hx hb dL_law_427 rfl (lv_at hl 0 rfl) ?_
        refine lv_iload_n hx hb dL_law_428 rfl (lv_at hl 3 rfl) ?_
        refine lv_iconst (v := 2) hx hb dL_law_429 (by decide) ?_
        refine lv_iadd hx hb dL_law_430 ?_
        refine va_sld hx hb hX hbl hbA hS g_2 dL_law_431 ?_
        refine zz_callVi (rest := []) hx hb hml C hP hS (c_X8_show l hDA hd1 (xs (x3 + 1).toNatClampNeg) (xs (x3 + 2).toNatClampNeg) hu) zw_L_35 ⟨Nat.le_of_ble_eq_true rfl, Nat.le_of_ble_eq_true rfl⟩ (by decide) lay_0 rfl rfl hl.1 (Nat.le_of_ble_eq_true rfl) ⟨Nat.le_of_ble_eq_true rfl, Nat.le_of_ble_eq_true rfl⟩ rfl dL_law_432 (fun H locs hP hS => ?_)
        refine lv_aload_n hx hb dL_law_435 rfl (lv_at hl 2 rfl) ?_
        refine lv_aload_n hx hb dL_law_436 rfl (lv_at hl 0 rfl) ?_
        refine lv_iload_n hx hb dL_law_437 rfl (lv_at hl 3 rfl) ?_
        refine lv_iconst (v := 1) hx hb dL_law_438 (by decide) ?_
        refine lv_iadd hx hb dL_law_439 ?_
        refine va_sld hx hb hX hbl hbA hS g_1 dL_law_440 ?_
        refine lv_aload_n hx hb dL_law_441 rfl (lv_at hl 0 rfl) ?_
        refine lv_iload_n hx hb dL_law_442 rfl (lv_at hl 3 rfl) ?_
        refine lv_iconst (v := 2) hx hb dL_law_443 (by decide) ?_
        refine lv_iadd hx hb dL_law_444 ?_
        refine va_sld hx hb hX hbl hbA hS g_2 dL_law_445 ?_
        refine zz_callVi (rest := [.int u.1]) hx hb hml C hP hS (c_X9_show l hDA (xs (x3 + 1).toNatClampNeg) (xs (x3 + 2).toNatClampNeg) hv) zw_L_39 ⟨Nat.le_of_ble_eq_true rfl, Nat.le_of_ble_eq_true rfl⟩ (by decide) lay_81 rfl rfl hl.1 (Nat.le_of_ble_eq_true rfl) ⟨Nat.le_of_ble_eq_true rfl, Nat.le_of_ble_eq_true rfl⟩ rfl dL_law_446 (fun H locs hP hS => ?_)
        refine lv_icmp_eq (tgt := 1339) hx hb dL_law_449 (by decide) (fun _ => ?_) (fun hne => absurd huv hne)
        exact hnext _ _ hI2 _ _ _ (lv_sub hl [0, 1, 2, 3] rfl) hP hS
      by_cases hk5 : op = 5
      · obtain ⟨u, v, hu, hv, huv, hI2⟩ := s_holds σ d (xs (x3 + 1).toNatClampNeg) hI
        refine lv_tableIn (tgt := 454) hx hb dL_law_33 (by rw [hk5]; decide) (by rw [hk5]; decide) (by rw [hk5]; rfl) (by decide) ?_
        refine lv_aload_n hx hb dL_law_454 rfl (lv_at hl 1 rfl) ?_
        refine lv_aload_n hx hb dL_law_455 rfl (lv_at hl 0 rfl) ?_
        refine lv_iload_n hx hb dL_law_456 rfl (lv_at hl 3 rfl) ?_
        refine lv_iconst (v := 1) hx hb dL_law_457 (by decide) ?_
        refine lv_iadd hx hb dL_law_458 ?_
        refine va_sld hx hb hX hbl hbA hS g_1 dL_law_459 ?_
        refine zz_callVi (rest := []) hx hb hml C hP hS (c_X8_holds l hDA (xs (x3 + 1).toNatClampNeg) hu) zw_L_40 ⟨Nat.le_of_ble_eq_true rfl, Nat.le_of_ble_eq_true rfl⟩ (by decide) lay_0 rfl rfl hl.1 (Nat.le_of_ble_eq_true rfl) ⟨Nat.le_of_ble_eq_true rfl, Nat.le_of_ble_eq_true rfl⟩ rfl dL_law_460 (fun H locs hP hS => ?_)
        refine lv_aload_n hx hb dL_law_463 rfl (lv_at hl 2 rfl) ?_
        refine lv_aload_n hx hb dL_law_464 rfl (lv_at hl 0 rfl) ?_
        refine lv_iload_n hx hb dL_law_465 rfl (lv_at hl 3 rfl) ?_
        refine lv_iconst (v := 1) hx hb dL_law_466 (by decide) ?_
        refine lv_iadd hx hb dL_law_467 ?_
        refine va_sld hx hb hX hbl hbA hS g_1 dL_law_468 ?_
        refine zz_callVi (rest := [.int u]) hx hb hml C hP hS (c_X9_holds l hDA (xs (x3 + 1).toNatClampNeg) hv) zw_L_44 ⟨Nat.le_of_ble_eq_true rfl, Nat.le_of_ble_eq_true rfl⟩ (by decide) lay_81 rfl rfl hl.1 (Nat.le_of_ble_eq_true rfl) ⟨Nat.le_of_ble_eq_true rfl, Nat.le_of_ble_eq_true rfl⟩ rfl dL_law_469 (fun H locs hP hS => ?_)
        refine lv_icmp_eq (tgt := 1339) hx hb dL_law_472 (by decide) (fun _ => ?_) (fun hne => absurd huv hne)
        exact hnext _ _ hI2 _ _ _ (lv_sub hl [0, 1, 2, 3] rfl) hP hS
      by_cases hk6 : op = 6
      · obtain ⟨u, v, hu, hv, huv, hI2⟩ := s_says σ d (xs (x3 + 1).toNatClampNeg) (xs (x3 + 2).toNatClampNeg) hI
        refine lv_tableIn (tgt := 477) hx hb dL_law_33 (by rw [hk6]; decide) (by rw [hk6]; decide) (by rw [hk6]; rfl) (by decide) ?_
        refine lv_aload_n hx hb dL_law_477 rfl (lv_at hl 1 rfl) ?_
        refine lv_aload_n hx hb dL_law_478 rfl (lv_at hl 0 rfl) ?_
        refine lv_iload_n hx hb dL_law_479 rfl (lv_at hl 3 rfl) ?_
        refine lv_iconst (v := 1) hx hb dL_law_480 (by decide) ?_
        refine lv_iadd hx hb dL_law_481 ?_
        refine va_sld hx hb hX hbl hbA hS g_1 dL_law_482 ?_
        refine lv_aload_n hx hb dL_law_483 rfl (lv_at hl 0 rfl) ?_
        refine lv_iload_n hx hb dL_law_484 rfl (lv_at hl 3 rfl) ?_
        refine lv_iconst (v := 2) hx hb dL_law_485 (by decide) ?_
        refine lv_iadd hx hb dL_law_486 ?_
        refine va_sld hx hb hX hbl hbA hS g_2 dL_law_487 ?_
        refine zz_callVi (rest := []) hx hb hml C hP hS (c_X8_says l hDA hd1 (xs (x3 + 1).toNatClampNeg) (xs (x3 + 2).toNatClampNeg) hu) zw_L_45 ⟨Nat.le_of_ble_eq_true rfl, Nat.le_of_ble_eq_true rfl⟩ (by decide) lay_0 rfl rfl hl.1 (Nat.le_of_ble_eq_true rfl) ⟨Nat.le_of_ble_eq_true rfl, Nat.le_of_ble_eq_true rfl⟩ rfl dL_law_488 (fun H locs hP hS => ?_)
        refine lv_aload_n hx hb dL_law_491 rfl (lv_at hl 2 rfl) ?_
        refine lv_aload_n hx hb dL_law_492 rfl (lv_at hl 0 rfl) ?_
        refine lv_iload_n hx hb dL_law_493 rfl (lv_at hl 3 rfl) ?_
        refine lv_iconst (v := 1) hx hb dL_law_494 (by decide) ?_
        refine lv_iadd hx hb dL_law_495 ?_
        refine va_sld hx hb hX hbl hbA hS g_1 dL_law_496 ?_
        refine lv_aload_n hx hb dL_law_497 rfl (lv_at hl 0 rfl) ?_
        refine lv_iload_n hx hb dL_law_498 rfl (lv_at hl 3 rfl) ?_
        refine lv_iconst (v := 2) hx hb dL_law_499 (by decide) ?_
        refine lv_iadd hx hb dL_law_500 ?_
        refine va_sld hx hb hX hbl hbA hS g_2 dL_law_501 ?_
        refine zz_callVi (rest := [.int u.1]) hx hb hml C hP hS (c_X9_says l hDA (xs (x3 + 1).toNatClampNeg) (xs (x3 + 2).toNatClampNeg) hv) zw_L_48 ⟨Nat.le_of_ble_eq_true rfl, Nat.le_of_ble_eq_true rfl⟩ (by decide) lay_81 rfl rfl hl.1 (Nat.le_of_ble_eq_true rfl) ⟨Nat.le_of_ble_eq_true rfl, Nat.le_of_ble_eq_true rfl⟩ rfl dL_law_502 (fun H locs hP hS => ?_)
        refine lv_icmp_eq (tgt := 1339) hx hb dL_law_505 (by decide) (fun _ => ?_) (fun hne => absurd huv hne)
        exact hnext _ _ hI2 _ _ _ (lv_sub hl [0, 1, 2, 3] rfl) hP hS
      by_cases hk7 : op = 7
      · obtain ⟨u, v, hu, hv, huv, hI2⟩ := s_singer σ d (xs (x3 + 1).toNatClampNeg) (xs (x3 + 2).toNatClampNeg) (xs (x3 + 3).toNatClampNeg) hI
        refine lv_tableIn (tgt := 510) hx hb dL_law_33 (by rw [hk7]; decide) (by rw [hk7]; decide) (by rw [hk7]; rfl) (by decide) ?_
        refine lv_aload_n hx hb dL_law_510 rfl (lv_at hl 1 rfl) ?_
        refine lv_aload_n hx hb dL_law_511 rfl (lv_at hl 0 rfl) ?_
        refine lv_iload_n hx hb dL_law_512 rfl (lv_at hl 3 rfl) ?_
        refine lv_iconst (v := 1) hx hb dL_law_513 (by decide) ?_
        refine lv_iadd hx hb dL_law_514 ?_
        refine va_sld hx hb hX hbl hbA hS g_1 dL_law_515 ?_
        refine lv_aload_n hx hb dL_law_516 rfl (lv_at hl 0 rfl) ?_
        refine lv_iload_n hx hb dL_law_517 rfl (lv_at hl 3 rfl) ?_
        refine lv_iconst (v := 2) hx hb dL_law_518 (by decide) ?_
        refine lv_iadd hx hb dL_law_519 ?_
        refine va_sld hx hb hX hbl hbA hS g_2 dL_law_520 ?_
        refine lv_aload_n hx hb dL_law_521 rfl (lv_at hl 0 rfl) ?_
        refine lv_iload_n hx hb dL_law_522 rfl (lv_at hl 3 rfl) ?_
        refine lv_iconst (v := 3) hx hb dL_law_523 (by decide) ?_
        refine lv_iadd hx hb dL_law_524 ?_
        refine va_sld hx hb hX hbl hbA hS g_3 dL_law_525 ?_
        refine zz_callVi (rest := []) hx hb hml C hP hS (c_X8_singer l hDA hd1 (xs (x3 + 1).toNatClampNeg) (xs (x3 + 2).toNatClampNeg) (xs (x3 + 3).toNatClampNeg) hu) zw_L_49 ⟨Nat.le_of_ble_eq_true rfl, Nat.le_of_ble_eq_true rfl⟩ (by decide) lay_0 rfl rfl hl.1 (Nat.le_of_ble_eq_true rfl) ⟨Nat.le_of_ble_eq_true rfl, Nat.le_of_ble_eq_true rfl⟩ rfl dL_law_526 (fun H locs hP hS => ?_)
        refine lv_aload_n hx hb dL_law_529 rfl (lv_at hl 2 rfl) ?_
        refine lv_aload_n hx hb dL_law_530 rfl (lv_at hl 0 rfl) ?_
        refine lv_iload_n hx hb dL_law_531 rfl (lv_at hl 3 rfl) ?_
        refine lv_iconst (v := 1) hx hb dL_law_532 (by decide) ?_
        refine lv_iadd hx hb dL_law_533 ?_
        refine va_sld hx hb hX hbl hbA hS g_1 dL_law_534 ?_
        refine lv_aload_n hx hb dL_law_535 rfl (lv_at hl 0 rfl) ?_
        refine lv_iload_n hx hb dL_law_536 rfl (lv_at hl 3 rfl) ?_
        refine lv_iconst (v := 2) hx hb dL_law_537 (by decide) ?_
        refine lv_iadd hx hb dL_law_538 ?_
        refine va_sld hx hb hX hbl hbA hS g_2 dL_law_539 ?_
        refine lv_aload_n hx hb dL_law_540 rfl (lv_at hl 0 rfl) ?_
        refine lv_iload_n hx hb dL_law_541 rfl (lv_at hl 3 rfl) ?_
        refine lv_iconst (v := 3) hx hb dL_law_542 (by decide) ?_
        refine lv_iadd hx hb dL_law_543 ?_
        refine va_sld hx hb hX hbl hbA hS g_3 dL_law_544 ?_
        refine zz_callVi (rest := [.int u.1]) hx hb hml C hP hS (c_X9_singer l hDA (xs (x3 + 1).toNatClampNeg) (xs (x3 + 2).toNatClampNeg) (xs (x3 + 3).toNatClampNeg) hv) zw_L_52 ⟨Nat.le_of_ble_eq_true rfl, Nat.le_of_ble_eq_true rfl⟩ (by decide) lay_81 rfl rfl hl.1 (Nat.le_of_ble_eq_true rfl) ⟨Nat.le_of_ble_eq_true rfl, Nat.le_of_ble_eq_true rfl⟩ rfl dL_law_545 (fun H locs hP hS => ?_)
        refine lv_icmp_eq (tgt := 1339) hx hb dL_law_548 (by decide) (fun _ => ?_) (fun hne => absurd huv hne)
        exact hnext _ _ hI2 _ _ _ (lv_sub hl [0, 1, 2, 3] rfl) hP hS
      by_cases hk8 : op = 8
      · obtain ⟨u, v, hu, hv, huv, hI2⟩ := s_singerOf σ d (xs (x3 + 1).toNatClampNeg) (xs (x3 + 2).toNatClampNeg) hI
        refine lv_tableIn (tgt := 553) hx hb dL_law_33 (by rw [hk8]; decide) (by rw [hk8]; decide) (by rw [hk8]; rfl) (by decide) ?_
        refine lv_aload_n hx hb dL_law_553 rfl (lv_at hl 1 rfl) ?_
        refine lv_aload_n hx hb dL_law_554 rfl (lv_at hl 0 rfl) ?_
        refine lv_iload_n hx hb dL_law_555 rfl (lv_at hl 3 rfl) ?_
        refine lv_iconst (v := 1) hx hb dL_law_556 (by decide) ?_
        refine lv_iadd hx hb dL_law_557 ?_
        refine va_sld hx hb hX hbl hbA hS g_1 dL_law_558 ?_
        refine lv_aload_n hx hb dL_law_559 rfl (lv_at hl 0 rfl) ?_
        refine lv_iload_n hx hb dL_law_560 rfl (lv_at hl 3 rfl) ?_
        refine lv_iconst (v := 2) hx hb dL_law_561 (by decide) ?_
        refine lv_iadd hx hb dL_law_562 ?_
        refine va_sld hx hb hX hbl hbA hS g_2 dL_law_563 ?_
        refine zz_callVi (rest := []) hx hb hml C hP hS (c_X8_singerOf l hDA hd1 (xs (x3 + 1).toNatClampNeg) (xs (x3 + 2).toNatClampNeg) hu) zw_L_53 ⟨Nat.le_of_ble_eq_true rfl, Nat.le_of_ble_eq_true rfl⟩ (by decide) lay_0 rfl rfl hl.1 (Nat.le_of_ble_eq_true rfl) ⟨Nat.le_of_ble_eq_true rfl, Nat.le_of_ble_eq_true rfl⟩ rfl dL_law_564 (fun H locs hP hS => ?_)
        refine lv_aload_n hx hb dL_law_567 rfl (lv_at hl 2 rfl) ?_
        refine lv_aload_n hx hb dL_law_568 rfl (lv_at hl 0 rfl) ?_
        refine lv_iload_n hx hb dL_law_569 rfl (lv_at hl 3 rfl) ?_
        refine lv_iconst (v := 1) hx hb dL_law_570 (by decide) ?_
        refine lv_iadd hx hb dL_law_571 ?_
        refine va_sld hx hb hX hbl hbA hS g_1 dL_law_572 ?_
        refine lv_aload_n hx hb dL_law_573 rfl (lv_at hl 0 rfl) ?_
        refine lv_iload_n hx hb dL_law_574 rfl (lv_at hl 3 rfl) ?_
        refine lv_iconst (v := 2) hx hb dL_law_575 (by decide) ?_
        refine lv_iadd hx hb dL_law_576 ?_
        refine va_sld hx hb hX hbl hbA hS g_2 dL_law_577 ?_
        refine zz_callVi (rest := [.int u.1]) hx hb hml C hP hS (c_X9_singerOf l hDA (xs (x3 + 1).toNatClampNeg) (xs (x3 + 2).toNatClampNeg) hv) zw_L_56 ⟨Nat.le_of_ble_eq_true rfl, Nat.le_of_ble_eq_true rfl⟩ (by decide) lay_81 rfl rfl hl.1 (Nat.le_of_ble_eq_true rfl) ⟨Nat.le_of_ble_eq_true rfl, Nat.le_of_ble_eq_true rfl⟩ rfl dL_law_578 (fun H locs hP hS => ?_)
        refine lv_icmp_eq (tgt := 1339) hx hb dL_law_581 (by decide) (fun _ => ?_) (fun hne => absurd huv hne)
        exact hnext _ _ hI2 _ _ _ (lv_sub hl [0, 1, 2, 3] rfl) hP hS
      by_cases hk9 : op = 9
      · obtain ⟨u, v, hu, hv, huv, hI2⟩ := s_ask σ d (xs (x3 + 1).toNatClampNeg) (xs (x3 + 2).toNatClampNeg) hI
        refine lv_tableIn (tgt := 586) hx hb dL_law_33 (by rw [hk9]; decide) (by rw [hk9]; decide) (by rw [hk9]; rfl) (by decide) ?_
        refine lv_aload_n hx hb dL_law_586 rfl (lv_at hl 1 rfl) ?_
        refine lv_aload_n hx hb dL_law_587 rfl (lv_at hl 0 rfl) ?_
        refine lv_iload_n hx hb dL_law_588 rfl (lv_at hl 3 rfl) ?_
        refine lv_iconst (v := 1) hx hb dL_law_589 (by decide) ?_
        refine lv_iadd hx hb dL_law_590 ?_
        refine va_sld hx hb hX hbl hbA hS g_1 dL_law_591 ?_
        refine lv_aload_n hx hb dL_law_592 rfl (lv_at hl 0 rfl) ?_
        refine lv_iload_n hx hb dL_law_593 rfl (lv_at hl 3 rfl) ?_
        refine lv_iconst (v := 2) hx hb dL_law_594 (by decide) ?_
        refine lv_iadd hx hb dL_law_595 ?_
        refine va_sld hx hb hX hbl hbA hS g_2 dL_law_596 ?_
        refine zz_callVi (rest := []) hx hb hml C hP hS (c_X8_ask l hDA hd1 (xs (x3 + 1).toNatClampNeg) (xs (x3 + 2).toNatClampNeg) hu) zw_L_57 ⟨Nat.le_of_ble_eq_true rfl, Nat.le_of_ble_eq_true rfl⟩ (by decide) lay_0 rfl rfl hl.1 (Nat.le_of_ble_eq_true rfl) ⟨Nat.le_of_ble_eq_true rfl, Nat.le_of_ble_eq_true rfl⟩ rfl dL_law_597 (fun H locs hP hS => ?_)
        refine lv_aload_n hx hb dL_law_600 rfl (lv_at hl 2 rfl) ?_
        refine lv_aload_n hx hb dL_law_601 rfl (lv_at hl 0 rfl) ?_
        refine lv_iload_n hx hb dL_law_602 rfl (lv_at hl 3 rfl) ?_
        refine lv_iconst (v := 1) hx hb dL_law_603 (by decide) ?_
        refine lv_iadd hx hb dL_law_604 ?_
        refine va_sld hx hb hX hbl hbA hS g_1 dL_law_605 ?_
        refine lv_aload_n hx hb dL_law_606 rfl (lv_at hl 0 rfl) ?_
        refine lv_iload_n hx hb dL_law_607 rfl (lv_at hl 3 rfl) ?_
        refine lv_iconst (v := 2) hx hb dL_law_608 (by decide) ?_
        refine lv_iadd hx hb dL_law_609 ?_
        refine va_sld hx hb hX hbl hbA hS g_2 dL_law_610 ?_
        refine zz_callVi (rest := [.int u.1]) hx hb hml C hP hS (c_X9_ask l hDA (xs (x3 + 1).toNatClampNeg) (xs (x3 + 2).toNatClampNeg) hv) zw_L_60 ⟨Nat.le_of_ble_eq_true rfl, Nat.le_of_ble_eq_true rfl⟩ (by decide) lay_81 rfl rfl hl.1 (Nat.le_of_ble_eq_true rfl) ⟨Nat.le_of_ble_eq_true rfl, Nat.le_of_ble_eq_true rfl⟩ rfl dL_law_611 (fun H locs hP hS => ?_)
        refine lv_icmp_eq (tgt := 1339) hx hb dL_law_614 (by decide) (fun _ => ?_) (fun hne => absurd huv hne)
        exact hnext _ _ hI2 _ _ _ (lv_sub hl [0, 1, 2, 3] rfl) hP hS
      by_cases hk10 : op = 10
      · obtain ⟨u, v, hu, hv, huv, hI2⟩ := s_loft σ d (xs (x3 + 1).toNatClampNeg) hI
        refine lv_tableIn (tgt := 619) hx hb dL_law_33 (by rw [hk10]; decide) (by rw [hk10]; decide) (by rw [hk10]; rfl) (by decide) ?_
        refine lv_aload_n hx hb dL_law_619 rfl (lv_at hl 1 rfl) ?_
        refine lv_aload_n hx hb dL_law_620 rfl (lv_at hl 0 rfl) ?_
        refine lv_iload_n hx hb dL_law_621 rfl (lv_at hl 3 rfl) ?_
        refine lv_iconst (v := 1) hx hb dL_law_622 (by decide) ?_
        refine lv_iadd hx hb dL_law_623 ?_
        refine va_sld hx hb hX hbl hbA hS g_1 dL_law_624 ?_
        refine zz_callVi (rest := []) hx hb hml C hP hS (c_X8_loft l hDA hd1 hd2 (xs (x3 + 1).toNatClampNeg) hu) zw_L_61 ⟨Nat.le_of_ble_eq_true rfl, Nat.le_of_ble_eq_true rfl⟩ (by decide) lay_0 rfl rfl hl.1 (Nat.le_of_ble_eq_true rfl) ⟨Nat.le_of_ble_eq_true rfl, Nat.le_of_ble_eq_true rfl⟩ rfl dL_law_625 (fun H locs hP hS => ?_)
        refine lv_aload_n hx hb dL_law_628 rfl (lv_at hl 2 rfl) ?_
        refine lv_aload_n hx hb dL_law_629 rfl (lv_at hl 0 rfl) ?_
        refine lv_iload_n hx hb dL_law_630 rfl (lv_at hl 3 rfl) ?_
        refine lv_iconst (v := 1) hx hb dL_law_631 (by decide) ?_
        refine lv_iadd hx hb dL_law_632 ?_
        refine va_sld hx hb hX hbl hbA hS g_1 dL_law_633 ?_
        refine zz_callVi (rest := [.int u.1]) hx hb hml C hP hS (c_X9_loft l hDA (xs (x3 + 1).toNatClampNeg) hv) zw_L_64 ⟨Nat.le_of_ble_eq_true rfl, Nat.le_of_ble_eq_true rfl⟩ (by decide) lay_81 rfl rfl hl.1 (Nat.le_of_ble_eq_true rfl) ⟨Nat.le_of_ble_eq_true rfl, Nat.le_of_ble_eq_true rfl⟩ rfl dL_law_634 (fun H locs hP hS => ?_)
        refine lv_icmp_eq (tgt := 1339) hx hb dL_law_637 (by decide) (fun _ => ?_) (fun hne => absurd huv hne)
        exact hnext _ _ hI2 _ _ _ (lv_sub hl [0, 1, 2, 3] rfl) hP hS
      by_cases hk11 : op = 11
      · obtain ⟨u, v, hu, hv, huv, hI2⟩ := s_fault σ d hI
        refine lv_tableIn (tgt := 642) hx hb dL_law_33 (by rw [hk11]; decide) (by rw [hk11]; decide) (by rw [hk11]; rfl) (by decide) ?_
        refine lv_aload_n hx hb dL_law_642 rfl (lv_at hl 1 rfl) ?_
        refine zz_callVi (rest := []) hx hb hml C hP hS (c_X8_fault l hDA hu) zw_L_65 ⟨Nat.le_of_ble_eq_true rfl, Nat.le_of_ble_eq_true rfl⟩ (by decide) lay_0 rfl rfl hl.1 (Nat.le_of_ble_eq_true rfl) ⟨Nat.le_of_ble_eq_true rfl, Nat.le_of_ble_eq_true rfl⟩ rfl dL_law_643 (fun H locs hP hS => ?_)
        refine lv_aload_n hx hb dL_law_646 rfl (lv_at hl 2 rfl) ?_
        refine zz_callVi (rest := [.int u]) hx hb hml C hP hS (c_X9_fault l hDA hv) zw_L_69 ⟨Nat.le_of_ble_eq_true rfl, Nat.le_of_ble_eq_true rfl⟩ (by decide) lay_81 rfl rfl hl.1 (Nat.le_of_ble_eq_true rfl) ⟨Nat.le_of_ble_eq_true rfl, Nat.le_of_ble_eq_true rfl⟩ rfl dL_law_647 (fun H locs hP hS => ?_)
        refine lv_icmp_eq (tgt := 1339) hx hb dL_law_650 (by decide) (fun _ => ?_) (fun hne => absurd huv hne)
        exact hnext _ _ hI2 _ _ _ (lv_sub hl [0, 1, 2, 3] rfl) hP hS
      by_cases hk12 : op = 12
      · obtain ⟨u, v, hu, hv, huv, hI2⟩ := s_worlds σ d (xs (x3 + 1).toNatClampNeg) hI
        refine lv_tableIn (tgt := 655) hx hb dL_law_33 (by rw [hk12]; decide) (by rw [hk12]; decide) (by rw [hk12]; rfl) (by decide) ?_
        refine lv_aload_n hx hb dL_law_655 rfl (lv_at hl 1 rfl) ?_
        refine lv_aload_n hx hb dL_law_656 rfl (lv_at hl 0 rfl) ?_
        refine lv_iload_n hx hb dL_law_657 rfl (lv_at hl 3 rfl) ?_
        refine lv_iconst (v := 1) hx hb dL_law_658 (by decide) ?_
        refine lv_iadd hx hb dL_law_659 ?_
        refine va_sld hx hb hX hbl hbA hS g_1 dL_law_660 ?_
        refine zz_callVi (rest := []) hx hb hml C hP hS (c_X8_worlds l hDA hd1 (xs (x3 + 1).toNatClampNeg) hu) zw_L_70 ⟨Nat.le_of_ble_eq_true rfl, Nat.le_of_ble_eq_true rfl⟩ (by decide) lay_0 rfl rfl hl.1 (Nat.le_of_ble_eq_true rfl) ⟨Nat.le_of_ble_eq_true rfl, Nat.le_of_ble_eq_true rfl⟩ rfl dL_law_661 (fun H locs hP hS => ?_)
        refine lv_aload_n hx hb dL_law_664 rfl (lv_at hl 2 rfl) ?_
        refine lv_aload_n hx hb dL_law_665 rfl (lv_at hl 0 rfl) ?_
        refine lv_iload_n hx hb dL_law_666 rfl (lv_at hl 3 rfl) ?_
        refine lv_iconst (v := 1) hx hb dL_law_667 (by decide) ?_
        refine lv_iadd hx hb dL_law_668 ?_
        refine va_sld hx hb hX hbl hbA hS g_1 dL_law_669 ?_
        refine zz_callVi (rest := [.int u.1]) hx hb hml C hP hS (c_X9_worlds l hDA (xs (x3 + 1).toNatClampNeg) hv) zw_L_73 ⟨Nat.le_of_ble_eq_true rfl, Nat.le_of_ble_eq_true rfl⟩ (by decide) lay_81 rfl rfl hl.1 (Nat.le_of_ble_eq_true rfl) ⟨Nat.le_of_ble_eq_true rfl, Nat.le_of_ble_eq_true rfl⟩ rfl dL_law_670 (fun H locs hP hS => ?_)
        refine lv_icmp_eq (tgt := 1339) hx hb dL_law_673 (by decide) (fun _ => ?_) (fun hne => absurd huv hne)
        exact hnext _ _ hI2 _ _ _ (lv_sub hl [0, 1, 2, 3] rfl) hP hS
      by_cases hk13 : op = 13
      · obtain ⟨u, v, hu, hv, huv, hI2⟩ := s_world σ d (xs (x3 + 1).toNatClampNeg) hI
        refine lv_tableIn (tgt := 678) hx hb dL_law_33 (by rw [hk13]; decide) (by rw [hk13]; decide) (by rw [hk13]; rfl) (by decide) ?_
        refine lv_aload_n hx hb dL_law_678 rfl (lv_at hl 1 rfl) ?_
        refine lv_aload_n hx hb dL_law_679 rfl (lv_at hl 0 rfl) ?_
        refine lv_iload_n hx hb dL_law_680 rfl (lv_at hl 3 rfl) ?_
        refine lv_iconst (v := 1) hx hb dL_law_681 (by decide) ?_
        refine lv_iadd hx hb dL_law_682 ?_
        refine va_sld hx hb hX hbl hbA hS g_1 dL_law_683 ?_
        refine zz_callVi (rest := []) hx hb hml C hP hS (c_X8_world l hDA hd1 (xs (x3 + 1).toNatClampNeg) hu) zw_L_74 ⟨Nat.le_of_ble_eq_true rfl, Nat.le_of_ble_eq_true rfl⟩ (by decide) lay_0 rfl rfl hl.1 (Nat.le_of_ble_eq_true rfl) ⟨Nat.le_of_ble_eq_true rfl, Nat.le_of_ble_eq_true rfl⟩ rfl dL_law_684 (fun H locs hP hS => ?_)
        refine lv_aload_n hx hb dL_law_687 rfl (lv_at hl 2 rfl) ?_
        refine lv_aload_n hx hb dL_law_688 rfl (lv_at hl 0 rfl) ?_
        refine lv_iload_n hx hb dL_law_689 rfl (lv_at hl 3 rfl) ?_
        refine lv_iconst (v := 1) hx hb dL_law_690 (by decide) ?_
        refine lv_iadd hx hb dL_law_691 ?_
        refine va_sld hx hb hX hbl hbA hS g_1 dL_law_692 ?_
        refine zz_callVi (rest := [.int u.1]) hx hb hml C hP hS (c_X9_world l hDA (xs (x3 + 1).toNatClampNeg) hv) zw_L_77 ⟨Nat.le_of_ble_eq_true rfl, Nat.le_of_ble_eq_true rfl⟩ (by decide) lay_81 rfl rfl hl.1 (Nat.le_of_ble_eq_true rfl) ⟨Nat.le_of_ble_eq_true rfl, Nat.le_of_ble_eq_true rfl⟩ rfl dL_law_693 (fun H locs hP hS => ?_)
        refine lv_icmp_eq (tgt := 1339) hx hb dL_law_696 (by decide) (fun _ => ?_) (fun hne => absurd huv hne)
        exact hnext _ _ hI2 _ _ _ (lv_sub hl [0, 1, 2, 3] rfl) hP hS
      by_cases hk14 : op = 14
      · obtain ⟨u, v, hu, hv, huv, hI2⟩ := s_sounds σ d (xs (x3 + 1).toNatClampNeg) (xs (x3 + 2).toNatClampNeg) hI
        refine lv_tableIn (tgt := 701) hx hb dL_law_33 (by rw [hk14]; decide) (by rw [hk14]; decide) (by rw [hk14]; rfl) (by decide) ?_
        refine lv_aload_n hx hb dL_law_701 rfl (lv_at hl 1 rfl) ?_
        refine lv_aload_n hx hb dL_law_702 rfl (lv_at hl 0 rfl) ?_
        refine lv_iload_n hx hb dL_law_703 rfl (lv_at hl 3 rfl) ?_
        refine lv_iconst (v := 1) hx hb dL_law_704 (by decide) ?_
        refine lv_iadd hx hb dL_law_705 ?_
        refine va_sld hx hb hX hbl hbA hS g_1 dL_law_706 ?_
        refine lv_aload_n hx hb dL_law_707 rfl (lv_at hl 0 rfl) ?_
        refine lv_iload_n hx hb dL_law_708 rfl (lv_at hl 3 rfl) ?_
        refine lv_iconst (v := 2) hx hb dL_law_709 (by decide) ?_
        refine lv_iadd hx hb dL_law_710 ?_
        refine va_sld hx hb hX hbl hbA hS g_2 dL_law_711 ?_
        refine zz_callVi (rest := []) hx hb hml C hP hS (c_X8_sounds l hDA hd1 (xs (x3 + 1).toNatClampNeg) (xs (x3 + 2).toNatClampNeg) hu) zw_L_78 ⟨Nat.le_of_ble_eq_true rfl, Nat.le_of_ble_eq_true rfl⟩ (by decide) lay_0 rfl rfl hl.1 (Nat.le_of_ble_eq_true rfl) ⟨Nat.le_of_ble_eq_true rfl, Nat.le_of_ble_eq_true rfl⟩ rfl dL_law_712 (fun H locs hP hS => ?_)
        refine lv_aload_n hx hb dL_law_715 rfl (lv_at hl 2 rfl) ?_
        refine lv_aload_n hx hb dL_law_716 rfl (lv_at hl 0 rfl) ?_
        refine lv_iload_n hx hb dL_law_717 rfl (lv_at hl 3 rfl) ?_
        refine lv_iconst (v := 1) hx hb dL_law_718 (by decide) ?_
        refine lv_iadd hx hb dL_law_719 ?_
        refine va_sld hx hb hX hbl hbA hS g_1 dL_law_720 ?_
        refine lv_aload_n hx hb dL_law_721 rfl (lv_at hl 0 rfl) ?_
        refine lv_iload_n hx hb dL_law_722 rfl (lv_at hl 3 rfl) ?_
        refine lv_iconst (v := 2) hx hb dL_law_723 (by decide) ?_
        refine lv_iadd hx hb dL_law_724 ?_
        refine va_sld hx hb hX hbl hbA hS g_2 dL_law_725 ?_
        refine zz_callVi (rest := [.int u.1]) hx hb hml C hP hS (c_X9_sounds l hDA (xs (x3 + 1).toNatClampNeg) (xs (x3 + 2).toNatClampNeg) hv) zw_L_81 ⟨Nat.le_of_ble_eq_true rfl, Nat.le_of_ble_eq_true rfl⟩ (by decide) lay_81 rfl rfl hl.1 (Nat.le_of_ble_eq_true rfl) ⟨Nat.le_of_ble_eq_true rfl, Nat.le_of_ble_eq_true rfl⟩ rfl dL_law_726 (fun H locs hP hS => ?_)
        refine lv_icmp_eq (tgt := 1339) hx hb dL_law_729 (by decide) (fun _ => ?_) (fun hne => absurd huv hne)
        exact hnext _ _ hI2 _ _ _ (lv_sub hl [0, 1, 2, 3] rfl) hP hS
      by_cases hk15 : op = 15
      · obtain ⟨u, v, hu, hv, huv, hI2⟩ := s_heard σ d (xs (x3 + 1).toNatClampNeg) (xs (x3 + 2).toNatClampNeg) hI
        refine lv_tableIn (tgt := 734) hx hb dL_law_33 (by rw [hk15]; decide) (by rw [hk15]; decide) (by rw [hk15]; rfl) (by decide) ?_
        refine lv_aload_n hx hb dL_law_734 rfl (lv_at hl 1 rfl) ?_
        refine lv_aload_n hx hb dL_law_735 rfl (lv_at hl 0 rfl) ?_
        refine lv_iload_n hx hb dL_law_736 rfl (lv_at hl 3 rfl) ?_
        refine lv_iconst (v := 1) hx hb dL_law_737 (by decide) ?_
        refine lv_iadd hx hb dL_law_738 ?_
        refine va_sld hx hb hX hbl hbA hS g_1 dL_law_739 ?_
        refine lv_aload_n hx hb dL_law_740 rfl (lv_at hl 0 rfl) ?_
        refine lv_iload_n hx hb dL_law_741 rfl (lv_at hl 3 rfl) ?_
        refine lv_iconst (v := 2) hx hb dL_law_742 (by decide) ?_
        refine lv_iadd hx hb dL_law_743 ?_
        refine va_sld hx hb hX hbl hbA hS g_2 dL_law_744 ?_
        refine zz_callVi (rest := []) hx hb hml C hP hS (c_X8_heard l hDA hd1 (xs (x3 + 1).toNatClampNeg) (xs (x3 + 2).toNatClampNeg) hu) zw_L_82 ⟨Nat.le_of_ble_eq_true rfl, Nat.le_of_ble_eq_true rfl⟩ (by decide) lay_0 rfl rfl hl.1 (Nat.le_of_ble_eq_true rfl) ⟨Nat.le_of_ble_eq_true rfl, Nat.le_of_ble_eq_true rfl⟩ rfl dL_law_745 (fun H locs hP hS => ?_)
        refine lv_aload_n hx hb dL_law_748 rfl (lv_at hl 2 rfl) ?_
        refine lv_aload_n hx hb dL_law_749 rfl (lv_at hl 0 rfl) ?_
        refine lv_iload_n hx hb dL_law_750 rfl (lv_at hl 3 rfl) ?_
        refine lv_iconst (v := 1) hx hb dL_law_751 (by decide) ?_
        refine lv_iadd hx hb dL_law_752 ?_
        refine va_sld hx hb hX hbl hbA hS g_1 dL_law_753 ?_
        refine lv_aload_n hx hb dL_law_754 rfl (lv_at hl 0 rfl) ?_
        refine lv_iload_n hx hb dL_law_755 rfl (lv_at hl 3 rfl) ?_
        refine lv_iconst (v := 2) hx hb dL_law_756 (by decide) ?_
        refine lv_iadd hx hb dL_law_757 ?_
        refine va_sld hx hb hX hbl hbA hS g_2 dL_law_758 ?_
        refine zz_callVi (rest := [.int u.1]) hx hb hml C hP hS (c_X9_heard l hDA (xs (x3 + 1).toNatClampNeg) (xs (x3 + 2).toNatClampNeg) hv) zw_L_85 ⟨Nat.le_of_ble_eq_true rfl, Nat.le_of_ble_eq_true rfl⟩ (by decide) lay_81 rfl rfl hl.1 (Nat.le_of_ble_eq_true rfl) ⟨Nat.le_of_ble_eq_true rfl, Nat.le_of_ble_eq_true rfl⟩ rfl dL_law_759 (fun H locs hP hS => ?_)
        refine lv_icmp_eq (tgt := 1339) hx hb dL_law_762 (by decide) (fun _ => ?_) (fun hne => absurd huv hne)
        exact hnext _ _ hI2 _ _ _ (lv_sub hl [0, 1, 2, 3] rfl) hP hS
      by_cases hk16 : op = 16
      · obtain ⟨u, v, hu, hv, huv, hI2⟩ := s_known σ d (xs (x3 + 1).toNatClampNeg) hI
        refine lv_tableIn (tgt := 767) hx hb dL_law_33 (by rw [hk16]; decide) (by rw [hk16]; decide) (by rw [hk16]; rfl) (by decide) ?_
        refine lv_aload_n hx hb dL_law_767 rfl (lv_at hl 1 rfl) ?_
        refine lv_aload_n hx hb dL_law_768 rfl (lv_at hl 0 rfl) ?_
        refine lv_iload_n hx hb dL_law_769 rfl (lv_at hl 3 rfl) ?_
        refine lv_iconst (v := 1) hx hb dL_law_770 (by decide) ?_
        refine lv_iadd hx hb dL_law_771 ?_
        refine va_sld hx hb hX hbl hbA hS g_1 dL_law_772 ?_
        refine zz_callVi (rest := []) hx hb hml C hP hS (c_X8_known l hDA hd1 (xs (x3 + 1).toNatClampNeg) hu) zw_L_86 ⟨Nat.le_of_ble_eq_true rfl, Nat.le_of_ble_eq_true rfl⟩ (by decide) lay_0 rfl rfl hl.1 (Nat.le_of_ble_eq_true rfl) ⟨Nat.le_of_ble_eq_true rfl, Nat.le_of_ble_eq_true rfl⟩ rfl dL_law_773 (fun H locs hP hS => ?_)
        refine lv_aload_n hx hb dL_law_776 rfl (lv_at hl 2 rfl) ?_
        refine lv_aload_n hx hb dL_law_777 rfl (lv_at hl 0 rfl) ?_
        refine lv_iload_n hx hb dL_law_778 rfl (lv_at hl 3 rfl) ?_
        refine lv_iconst (v := 1) hx hb dL_law_779 (by decide) ?_
        refine lv_iadd hx hb dL_law_780 ?_
        refine va_sld hx hb hX hbl hbA hS g_1 dL_law_781 ?_
        refine zz_callVi (rest := [.int u.1]) hx hb hml C hP hS (c_X9_known l hDA (xs (x3 + 1).toNatClampNeg) hv) zw_L_89 ⟨Nat.le_of_ble_eq_true rfl, Nat.le_of_ble_eq_true rfl⟩ (by decide) lay_81 rfl rfl hl.1 (Nat.le_of_ble_eq_true rfl) ⟨Nat.le_of_ble_eq_true rfl, Nat.le_of_ble_eq_true rfl⟩ rfl dL_law_782 (fun H locs hP hS => ?_)
        refine lv_icmp_eq (tgt := 1339) hx hb dL_law_785 (by decide) (fun _ => ?_) (fun hne => absurd huv hne)
        exact hnext _ _ hI2 _ _ _ (lv_sub hl [0, 1, 2, 3] rfl) hP hS
      by_cases hk17 : op = 17
      · obtain ⟨u, v, hu, hv, huv, hI2⟩ := s_forget σ d hI
        refine lv_tableIn (tgt := 790) hx hb dL_law_33 (by rw [hk17]; decide) (by rw [hk17]; decide) (by rw [hk17]; rfl) (by decide) ?_
        refine lv_aload_n hx hb dL_law_790 rfl (lv_at hl 1 rfl) ?_
        refine zz_callVi (rest := []) hx hb hml C hP hS (c_X8_forget l hDA hd1 hu) zw_L_90 ⟨Nat.le_of_ble_eq_true rfl, Nat.le_of_ble_eq_true rfl⟩ (by decide) lay_0 rfl rfl hl.1 (Nat.le_of_ble_eq_true rfl) ⟨Nat.le_of_ble_eq_true rfl, Nat.le_of_ble_eq_true rfl⟩ rfl dL_law_791 (fun H locs hP hS => ?_)
        refine lv_aload_n hx hb dL_law_794 rfl (lv_at hl 2 rfl) ?_
        refine zz_callVi (rest := [.int u.1]) hx hb hml C hP hS (c_X9_forget l hDA hv) zw_L_93 ⟨Nat.le_of_ble_eq_true rfl, Nat.le_of_ble_eq_true rfl⟩ (by decide) lay_81 rfl rfl hl.1 (Nat.le_of_ble_eq_true rfl) ⟨Nat.le_of_ble_eq_true rfl, Nat.le_of_ble_eq_true rfl⟩ rfl dL_law_795 (fun H locs hP hS => ?_)
        refine lv_icmp_eq (tgt := 1339) hx hb dL_law_798 (by decide) (fun _ => ?_) (fun hne => absurd huv hne)
        exact hnext _ _ hI2 _ _ _ (lv_sub hl [0, 1, 2, 3] rfl) hP hS
      by_cases hk18 : op = 18
      · obtain ⟨u, v, hu, hv, huv, hI2⟩ := s_may σ d (xs (x3 + 1).toNatClampNeg) hI
        refine lv_tableIn (tgt := 803) hx hb dL_law_33 (by rw [hk18]; decide) (by rw [hk18]; decide) (by rw [hk18]; rfl) (by decide) ?_
        refine lv_aload_n hx hb dL_law_803 rfl (lv_at hl 1 rfl) ?_
        refine lv_aload_n hx hb dL_law_804 rfl (lv_at hl 0 rfl) ?_
        refine lv_iload_n hx hb dL_law_805 rfl (lv_at hl 3 rfl) ?_
        refine lv_iconst (v := 1) hx hb dL_law_806 (by decide) ?_
        refine lv_iadd hx hb dL_law_807 ?_
        refine va_sld hx hb hX hbl hbA hS g_1 dL_law_808 ?_
        refine zz_callVi (rest := []) hx hb hml C hP hS (c_X8_may l hDA hd1 (xs (x3 + 1).toNatClampNeg) hu) zw_L_94 ⟨Nat.le_of_ble_eq_true rfl, Nat.le_of_ble_eq_true rfl⟩ (by decide) lay_0 rfl rfl hl.1 (Nat.le_of_ble_eq_true rfl) ⟨Nat.le_of_ble_eq_true rfl, Nat.le_of_ble_eq_true rfl⟩ rfl dL_law_809 (fun H locs hP hS => ?_)
        refine lv_aload_n hx hb dL_law_812 rfl (lv_at hl 2 rfl) ?_
        refine lv_aload_n hx hb dL_law_813 rfl (lv_at hl 0 rfl) ?_
        refine lv_iload_n hx hb dL_law_814 rfl (lv_at hl 3 rfl) ?_
        refine lv_iconst (v := 1) hx hb dL_law_815 (by decide) ?_
        refine lv_iadd hx hb dL_law_816 ?_
        refine va_sld hx hb hX hbl hbA hS g_1 dL_law_817 ?_
        refine zz_callVi (rest := [.int u.1]) hx hb hml C hP hS (c_X9_may l hDA (xs (x3 + 1).toNatClampNeg) hv) zw_L_97 ⟨Nat.le_of_ble_eq_true rfl, Nat.le_of_ble_eq_true rfl⟩ (by decide) lay_81 rfl rfl hl.1 (Nat.le_of_ble_eq_true rfl) ⟨Nat.le_of_ble_eq_true rfl, Nat.le_of_ble_eq_true rfl⟩ rfl dL_law_818 (fun H locs hP hS => ?_)
        refine lv_icmp_eq (tgt := 1339) hx hb dL_law_821 (by decide) (fun _ => ?_) (fun hne => absurd huv hne)
        exact hnext _ _ hI2 _ _ _ (lv_sub hl [0, 1, 2, 3] rfl) hP hS
      by_cases hk19 : op = 19
      · obtain ⟨u, v, hu, hv, huv, hI2⟩ := s_likeliest σ d hI
        refine lv_tableIn (tgt := 826) hx hb dL_law_33 (by rw [hk19]; decide) (by rw [hk19]; decide) (by rw [hk19]; rfl) (by decide) ?_
        refine lv_aload_n hx hb dL_law_826 rfl (lv_at hl 1 rfl) ?_
        refine zz_callVi (rest := []) hx hb hml C hP hS (c_X8_likeliest l hDA hd1 hu) zw_L_98 ⟨Nat.le_of_ble_eq_true rfl, Nat.le_of_ble_eq_true rfl⟩ (by decide) lay_0 rfl rfl hl.1 (Nat.le_of_ble_eq_true rfl) ⟨Nat.le_of_ble_eq_true rfl, Nat.le_of_ble_eq_true rfl⟩ rfl dL_law_827 (fun H locs hP hS => ?_)
        refine lv_aload_n hx hb dL_law_830 rfl (lv_at hl 2 rfl) ?_
        refine zz_callVi (rest := [.int u.1]) hx hb hml C hP hS (c_X9_likeliest l hDA hv) zw_L_101 ⟨Nat.le_of_ble_eq_true rfl, Nat.le_of_ble_eq_true rfl⟩ (by decide) lay_81 rfl rfl hl.1 (Nat.le_of_ble_eq_true rfl) ⟨Nat.le_of_ble_eq_true rfl, Nat.le_of_ble_eq_true rfl⟩ rfl dL_law_831 (fun H locs hP hS => ?_)
        refine lv_icmp_eq (tgt := 1339) hx hb dL_law_834 (by decide) (fun _ => ?_) (fun hne => absurd huv hne)
        exact hnext _ _ hI2 _ _ _ (lv_sub hl [0, 1, 2, 3] rfl) hP hS
      by_cases hk20 : op = 20
      · obtain ⟨u, v, hu, hv, huv, hI2⟩ := s_lawful σ d (xs (x3 + 1).toNatClampNeg) hI
        refine lv_tableIn (tgt := 839) hx hb dL_law_33 (by rw [hk20]; decide) (by rw [hk20]; decide) (by rw [hk20]; rfl) (by decide) ?_
        refine lv_aload_n hx hb dL_law_839 rfl (lv_at hl 1 rfl) ?_
        refine lv_aload_n hx hb dL_law_840 rfl (lv_at hl 0 rfl) ?_
        refine lv_iload_n hx hb dL_law_841 rfl (lv_at hl 3 rfl) ?_
        refine lv_iconst (v := 1) hx hb dL_law_842 (by decide) ?_
        refine lv_iadd hx hb dL_law_843 ?_
        refine va_sld hx hb hX hbl hbA hS g_1 dL_law_844 ?_
        refine zz_callVi (rest := []) hx hb hml C hP hS (c_X8_lawful l hDA hd1 (xs (x3 + 1).toNatClampNeg) hu) zw_L_102 ⟨Nat.le_of_ble_eq_true rfl, Nat.le_of_ble_eq_true rfl⟩ (by decide) lay_0 rfl rfl hl.1 (Nat.le_of_ble_eq_true rfl) ⟨Nat.le_of_ble_eq_true rfl, Nat.le_of_ble_eq_true rfl⟩ rfl dL_law_845 (fun H locs hP hS => ?_)
        refine lv_aload_n hx hb dL_law_848 rfl (lv_at hl 2 rfl) ?_
        refine lv_aload_n hx hb dL_law_849 rfl (lv_at hl 0 rfl) ?_
        refine lv_iload_n hx hb dL_law_850 rfl (lv_at hl 3 rfl) ?_
        refine lv_iconst (v := 1) hx hb dL_law_851 (by decide) ?_
        refine lv_iadd hx hb dL_law_852 ?_
        refine va_sld hx hb hX hbl hbA hS g_1 dL_law_853 ?_
        refine zz_callVi (rest := [.int u]) hx hb hml C hP hS (c_X9_lawful l hDA (xs (x3 + 1).toNatClampNeg) hv) zw_L_105 ⟨Nat.le_of_ble_eq_true rfl, Nat.le_of_ble_eq_true rfl⟩ (by decide) lay_81 rfl rfl hl.1 (Nat.le_of_ble_eq_true rfl) ⟨Nat.le_of_ble_eq_true rfl, Nat.le_of_ble_eq_true rfl⟩ rfl dL_law_854 (fun H locs hP hS => ?_)
        refine lv_icmp_eq (tgt := 1339) hx hb dL_law_857 (by decide) (fun _ => ?_) (fun hne => absurd huv hne)
        exact hnext _ _ hI2 _ _ _ (lv_sub hl [0, 1, 2, 3] rfl) hP hS
      by_cases hk21 : op = 21
      · obtain ⟨u, v, hu, hv, huv, hI2⟩ := s_parts σ d (xs (x3 + 1).toNatClampNeg) (xs (x3 + 2).toNatClampNeg) hI
        refine lv_tableIn (tgt := 862) hx hb dL_law_33 (by rw [hk21]; decide) (by rw [hk21]; decide) (by rw [hk21]; rfl) (by decide) ?_
        refine lv_aload_n hx hb dL_law_862 rfl (lv_at hl 1 rfl) ?_
        refine lv_aload_n hx hb dL_law_863 rfl (lv_at hl 0 rfl) ?_
        refine lv_iload_n hx hb dL_law_864 rfl (lv_at hl 3 rfl) ?_
        refine lv_iconst (v := 1) hx hb dL_law_865 (by decide) ?_
        refine lv_iadd hx hb dL_law_866 ?_
        refine va_sld hx hb hX hbl hbA hS g_1 dL_law_867 ?_
        refine lv_aload_n hx hb dL_law_868 rfl (lv_at hl 0 rfl) ?_
        refine lv_iload_n hx hb dL_law_869 rfl (lv_at hl 3 rfl) ?_
        refine lv_iconst (v := 2) hx hb dL_law_870 (by decide) ?_
        refine lv_iadd hx hb dL_law_871 ?_
        refine va_sld hx hb hX hbl hbA hS g_2 dL_law_872 ?_
        refine zz_callVi (rest := []) hx hb hml C hP hS (c_X8_parts l hDA hd1 (xs (x3 + 1).toNatClampNeg) (xs (x3 + 2).toNatClampNeg) hu) zw_L_106 ⟨Nat.le_of_ble_eq_true rfl, Nat.le_of_ble_eq_true rfl⟩ (by decide) lay_0 rfl rfl hl.1 (Nat.le_of_ble_eq_true rfl) ⟨Nat.le_of_ble_eq_true rfl, Nat.le_of_ble_eq_true rfl⟩ rfl dL_law_873 (fun H locs hP hS => ?_)
        refine lv_aload_n hx hb dL_law_876 rfl (lv_at hl 2 rfl) ?_
        refine lv_aload_n hx hb dL_law_877 rfl (lv_at hl 0 rfl) ?_
        refine lv_iload_n hx hb dL_law_878 rfl (lv_at hl 3 rfl) ?_
        refine lv_iconst (v := 1) hx hb dL_law_879 (by decide) ?_
        refine lv_iadd hx hb dL_law_880 ?_
        refine va_sld hx hb hX hbl hbA hS g_1 dL_law_881 ?_
        refine lv_aload_n hx hb dL_law_882 rfl (lv_at hl 0 rfl) ?_
        refine lv_iload_n hx hb dL_law_883 rfl (lv_at hl 3 rfl) ?_
        refine lv_iconst (v := 2) hx hb dL_law_884 (by decide) ?_
        refine lv_iadd hx hb dL_law_885 ?_
        refine va_sld hx hb hX hbl hbA hS g_2 dL_law_886 ?_
        refine zz_callVi (rest := [.int u.1]) hx hb hml C hP hS (c_X9_parts l hDA (xs (x3 + 1).toNatClampNeg) (xs (x3 + 2).toNatClampNeg) hv) zw_L_109 ⟨Nat.le_of_ble_eq_true rfl, Nat.le_of_ble_eq_true rfl⟩ (by decide) lay_81 rfl rfl hl.1 (Nat.le_of_ble_eq_true rfl) ⟨Nat.le_of_ble_eq_true rfl, Nat.le_of_ble_eq_true rfl⟩ rfl dL_law_887 (fun H locs hP hS => ?_)
        refine lv_icmp_eq (tgt := 1339) hx hb dL_law_890 (by decide) (fun _ => ?_) (fun hne => absurd huv hne)
        exact hnext _ _ hI2 _ _ _ (lv_sub hl [0, 1, 2, 3] rfl) hP hS
      by_cases hk22 : op = 22
      · obtain ⟨u, v, hu, hv, huv, hI2⟩ := s_next σ d hI
        refine lv_tableIn (tgt := 895) hx hb dL_law_33 (by rw [hk22]; decide) (by rw [hk22]; decide) (by rw [hk22]; rfl) (by decide) ?_
        refine lv_aload_n hx hb dL_law_895 rfl (lv_at hl 1 rfl) ?_
        refine zz_callVi (rest := []) hx hb hml C hP hS (c_X8_next l hDA hd1 hu) zw_L_110 ⟨Nat.le_of_ble_eq_true rfl, Nat.le_of_ble_eq_true rfl⟩ (by decide) lay_0 rfl rfl hl.1 (Nat.le_of_ble_eq_true rfl) ⟨Nat.le_of_ble_eq_true rfl, Nat.le_of_ble_eq_true rfl⟩ rfl dL_law_896 (fun H locs hP hS => ?_)
        refine lv_aload_n hx hb dL_law_899 rfl (lv_at hl 2 rfl) ?_
        refine zz_callVi (rest := [.int u.1]) hx hb hml C hP hS (c_X9_next l hDA hv) zw_L_113 ⟨Nat.le_of_ble_eq_true rfl, Nat.le_of_ble_eq_true rfl⟩ (by decide) lay_81 rfl rfl hl.1 (Nat.le_of_ble_eq_true rfl) ⟨Nat.le_of_ble_eq_true rfl, Nat.le_of_ble_eq_true rfl⟩ rfl dL_law_900 (fun H locs hP hS => ?_)
        refine lv_icmp_eq (tgt := 1339) hx hb dL_law_903 (by decide) (fun _ => ?_) (fun hne => absurd huv hne)
        exact hnext _ _ hI2 _ _ _ (lv_sub hl [0, 1, 2, 3] rfl) hP hS
      by_cases hk23 : op = 23
      · obtain ⟨u, v, hu, hv, huv, hI2⟩ := s_by σ d (xs (x3 + 1).toNatClampNeg) hI
        refine lv_tableIn (tgt := 908) hx hb dL_law_33 (by rw [hk23]; decide) (by rw [hk23]; decide) (by rw [hk23]; rfl) (by decide) ?_
        refine lv_aload_n hx hb dL_law_908 rfl (lv_at hl 1 rfl) ?_
        refine lv_aload_n hx hb dL_law_909 rfl (lv_at hl 0 rfl) ?_
        refine lv_iload_n hx hb dL_law_910 rfl (lv_at hl 3 rfl) ?_
        refine lv_iconst (v := 1) hx hb dL_law_911 (by decide) ?_
        refine lv_iadd hx hb dL_law_912 ?_
        refine va_sld hx hb hX hbl hbA hS g_1 dL_law_913 ?_
        refine zz_callVi (rest := []) hx hb hml C hP hS (c_X8_by l hDA hd1 (xs (x3 + 1).toNatClampNeg) hu) zw_L_114 ⟨Nat.le_of_ble_eq_true rfl, Nat.le_of_ble_eq_true rfl⟩ (by decide) lay_0 rfl rfl hl.1 (Nat.le_of_ble_eq_true rfl) ⟨Nat.le_of_ble_eq_true rfl, Nat.le_of_ble_eq_true rfl⟩ rfl dL_law_914 (fun H locs hP hS => ?_)
        refine lv_aload_n hx hb dL_law_917 rfl (lv_at hl 2 rfl) ?_
        refine lv_aload_n hx hb dL_law_918 rfl (lv_at hl 0 rfl) ?_
        refine lv_iload_n hx hb dL_law_919 rfl (lv_at hl 3 rfl) ?_
        refine lv_iconst (v := 1) hx hb dL_law_920 (by decide) ?_
        refine lv_iadd hx hb dL_law_921 ?_
        refine va_sld hx hb hX hbl hbA hS g_1 dL_law_922 ?_
        refine zz_callVi (rest := [.int u.1]) hx hb hml C hP hS (c_X9_by l hDA (xs (x3 + 1).toNatClampNeg) hv) zw_L_117 ⟨Nat.le_of_ble_eq_true rfl, Nat.le_of_ble_eq_true rfl⟩ (by decide) lay_81 rfl rfl hl.1 (Nat.le_of_ble_eq_true rfl) ⟨Nat.le_of_ble_eq_true rfl, Nat.le_of_ble_eq_true rfl⟩ rfl dL_law_923 (fun H locs hP hS => ?_)
        refine lv_icmp_eq (tgt := 1339) hx hb dL_law_926 (by decide) (fun _ => ?_) (fun hne => absurd huv hne)
        exact hnext _ _ hI2 _ _ _ (lv_sub hl [0, 1, 2, 3] rfl) hP hS
      by_cases hk24 : op = 24
      · obtain ⟨u, v, hu, hv, huv, hI2⟩ := s_ahead σ d (xs (x3 + 1).toNatClampNeg) (xs (x3 + 2).toNatClampNeg) (xs (x3 + 3).toNatClampNeg) hI
        refine lv_tableIn (tgt := 931) hx hb dL_law_33 (by rw [hk24]; decide) (by rw [hk24]; decide) (by rw [hk24]; rfl) (by decide) ?_
        refine lv_aload_n hx hb dL_law_931 rfl (lv_at hl 1 rfl) ?_
        refine lv_aload_n hx hb dL_law_932 rfl (lv_at hl 0 rfl) ?_
        refine lv_iload_n hx hb dL_law_933 rfl (lv_at hl 3 rfl) ?_
        refine lv_iconst (v := 1) hx hb dL_law_934 (by decide) ?_
        refine lv_iadd hx hb dL_law_935 ?_
        refine va_sld hx hb hX hbl hbA hS g_1 dL_law_936 ?_
        refine lv_aload_n hx hb dL_law_937 rfl (lv_at hl 0 rfl) ?_
        refine lv_iload_n hx hb dL_law_938 rfl (lv_at hl 3 rfl) ?_
        refine lv_iconst (v := 2) hx hb dL_law_939 (by decide) ?_
        refine lv_iadd hx hb dL_law_940 ?_
        refine va_sld hx hb hX hbl hbA hS g_2 dL_law_941 ?_
        refine lv_aload_n hx hb dL_law_942 rfl (lv_at hl 0 rfl) ?_
        refine lv_iload_n hx hb dL_law_943 rfl (lv_at hl 3 rfl) ?_
        refine lv_iconst (v := 3) hx hb dL_law_944 (by decide) ?_
        refine lv_iadd hx hb dL_law_945 ?_
        refine va_sld hx hb hX hbl hbA hS g_3 dL_law_946 ?_
        refine zz_callVi (rest := []) hx hb hml C hP hS (c_X8_ahead l hDA hd1 (xs (x3 + 1).toNatClampNeg) (xs (x3 + 2).toNatClampNeg) (xs (x3 + 3).toNatClampNeg) hu) zw_L_118 ⟨Nat.le_of_ble_eq_true rfl, Nat.le_of_ble_eq_true rfl⟩ (by decide) lay_0 rfl rfl hl.1 (Nat.le_of_ble_eq_true rfl) ⟨Nat.le_of_ble_eq_true rfl, Nat.le_of_ble_eq_true rfl⟩ rfl dL_law_947 (fun H locs hP hS => ?_)
        refine lv_aload_n hx hb dL_law_950 rfl (lv_at hl 2 rfl) ?_
        refine lv_aload_n hx hb dL_law_951 rfl (lv_at hl 0 rfl) ?_
        refine lv_iload_n hx hb dL_law_952 rfl (lv_at hl 3 rfl) ?_
        refine lv_iconst (v := 1) hx hb dL_law_953 (by decide) ?_
        refine lv_iadd hx hb dL_law_954 ?_
        refine va_sld hx hb hX hbl hbA hS g_1 dL_law_955 ?_
        refine lv_aload_n hx hb dL_law_956 rfl (lv_at hl 0 rfl) ?_
        refine lv_iload_n hx hb dL_law_957 rfl (lv_at hl 3 rfl) ?_
        refine lv_iconst (v := 2) hx hb dL_law_958 (by decide) ?_
        refine lv_iadd hx hb dL_law_959 ?_
        refine va_sld hx hb hX hbl hbA hS g_2 dL_law_960 ?_
        refine lv_aload_n hx hb dL_law_961 rfl (lv_at hl 0 rfl) ?_
        refine lv_iload_n hx hb dL_law_962 rfl (lv_at hl 3 rfl) ?_
        refine lv_iconst (v := 3) hx hb dL_law_963 (by decide) ?_
        refine lv_iadd hx hb dL_law_964 ?_
        refine va_sld hx hb hX hbl hbA hS g_3 dL_law_965 ?_
        refine zz_callVi (rest := [.int u.1]) hx hb hml C hP hS (c_X9_ahead l hDA (xs (x3 + 1).toNatClampNeg) (xs (x3 + 2).toNatClampNeg) (xs (x3 + 3).toNatClampNeg) hv) zw_L_121 ⟨Nat.le_of_ble_eq_true rfl, Nat.le_of_ble_eq_true rfl⟩ (by decide) lay_81 rfl rfl hl.1 (Nat.le_of_ble_eq_true rfl) ⟨Nat.le_of_ble_eq_true rfl, Nat.le_of_ble_eq_true rfl⟩ rfl dL_law_966 (fun H locs hP hS => ?_)
        refine lv_icmp_eq (tgt := 1339) hx hb dL_law_969 (by decide) (fun _ => ?_) (fun hne => absurd huv hne)
        exact hnext _ _ hI2 _ _ _ (lv_sub hl [0, 1, 2, 3] rfl) hP hS
      by_cases hk25 : op = 25
      · obtain ⟨u, v, hu, hv, huv, hI2⟩ := s_judge σ d (xs (x3 + 1).toNatClampNeg) (xs (x3 + 2).toNatClampNeg) hI
        refine lv_tableIn (tgt := 974) hx hb dL_law_33 (by rw [hk25]; decide) (by rw [hk25]; decide) (by rw [hk25]; rfl) (by decide) ?_
        refine lv_aload_n hx hb dL_law_974 rfl (lv_at hl 1 rfl) ?_
        refine lv_aload_n hx hb dL_law_975 rfl (lv_at hl 0 rfl) ?_
        refine lv_iload_n hx hb dL_law_976 rfl (lv_at hl 3 rfl) ?_
        refine lv_iconst (v := 1) hx hb dL_law_977 (by decide) ?_
        refine lv_iadd hx hb dL_law_978 ?_
        refine va_sld hx hb hX hbl hbA hS g_1 dL_law_979 ?_
        refine lv_aload_n hx hb dL_law_980 rfl (lv_at hl 0 rfl) ?_
        refine lv_iload_n hx hb dL_law_981 rfl (lv_at hl 3 rfl) ?_
        refine lv_iconst (v := 2) hx hb dL_law_982 (by decide) ?_
        refine lv_iadd hx hb dL_law_983 ?_
        refine va_sld hx hb hX hbl hbA hS g_2 dL_law_984 ?_
        refine zz_callVi (rest := []) hx hb hml C hP hS (c_X8_judge l hDA hd1 (xs (x3 + 1).toNatClampNeg) (xs (x3 + 2).toNatClampNeg) hu) zw_L_122 ⟨Nat.le_of_ble_eq_true rfl, Nat.le_of_ble_eq_true rfl⟩ (by decide) lay_0 rfl rfl hl.1 (Nat.le_of_ble_eq_true rfl) ⟨Nat.le_of_ble_eq_true rfl, Nat.le_of_ble_eq_true rfl⟩ rfl dL_law_985 (fun H locs hP hS => ?_)
        refine lv_aload_n hx hb dL_law_988 rfl (lv_at hl 2 rfl) ?_
        refine lv_aload_n hx hb dL_law_989 rfl (lv_at hl 0 rfl) ?_
        refine lv_iload_n hx hb dL_law_990 rfl (lv_at hl 3 rfl) ?_
        refine lv_iconst (v := 1) hx hb dL_law_991 (by decide) ?_
        refine lv_iadd hx hb dL_law_992 ?_
        refine va_sld hx hb hX hbl hbA hS g_1 dL_law_993 ?_
        refine lv_aload_n hx hb dL_law_994 rfl (lv_at hl 0 rfl) ?_
        refine lv_iload_n hx hb dL_law_995 rfl (lv_at hl 3 rfl) ?_
        refine lv_iconst (v := 2) hx hb dL_law_996 (by decide) ?_
        refine lv_iadd hx hb dL_law_997 ?_
        refine va_sld hx hb hX hbl hbA hS g_2 dL_law_998 ?_
        refine zz_callVi (rest := [.int u.1]) hx hb hml C hP hS (c_X9_judge l hDA (xs (x3 + 1).toNatClampNeg) (xs (x3 + 2).toNatClampNeg) hv) zw_L_125 ⟨Nat.le_of_ble_eq_true rfl, Nat.le_of_ble_eq_true rfl⟩ (by decide) lay_81 rfl rfl hl.1 (Nat.le_of_ble_eq_true rfl) ⟨Nat.le_of_ble_eq_true rfl, Nat.le_of_ble_eq_true rfl⟩ rfl dL_law_999 (fun H locs hP hS => ?_)
        refine lv_icmp_eq (tgt := 1339) hx hb dL_law_1002 (by decide) (fun _ => ?_) (fun hne => absurd huv hne)
        exact hnext _ _ hI2 _ _ _ (lv_sub hl [0, 1, 2, 3] rfl) hP hS
      by_cases hk26 : op = 26
      · obtain ⟨u, v, hu, hv, huv, hI2⟩ := s_behind σ d (xs (x3 + 1).toNatClampNeg) (xs (x3 + 2).toNatClampNeg) hI
        refine lv_tableIn (tgt := 1007) hx hb dL_law_33 (by rw [hk26]; decide) (by rw [hk26]; decide) (by rw [hk26]; rfl) (by decide) ?_
        refine lv_aload_n hx hb dL_law_1007 rfl (lv_at hl 1 rfl) ?_
        refine lv_aload_n hx hb dL_law_1008 rfl (lv_at hl 0 rfl) ?_
        refine lv_iload_n hx hb dL_law_1009 rfl (lv_at hl 3 rfl) ?_
        refine lv_iconst (v := 1) hx hb dL_law_1010 (by decide) ?_
        refine lv_iadd hx hb dL_law_1011 ?_
        refine va_sld hx hb hX hbl hbA hS g_1 dL_law_1012 ?_
        refine lv_aload_n hx hb dL_law_1013 rfl (lv_at hl 0 rfl) ?_
        refine lv_iload_n hx hb dL_law_1014 rfl (lv_at hl 3 rfl) ?_
        refine lv_iconst (v := 2) hx hb dL_law_1015 (by decide) ?_
        refine lv_iadd hx hb dL_law_1016 ?_
        refine va_sld hx hb hX hbl hbA hS g_2 dL_law_1017 ?_
        refine zz_callVi (rest := []) hx hb hml C hP hS (c_X8_behind l hDA hd1 (xs (x3 + 1).toNatClampNeg) (xs (x3 + 2).toNatClampNeg) hu) zw_L_126 ⟨Nat.le_of_ble_eq_true rfl, Nat.le_of_ble_eq_true rfl⟩ (by decide) lay_0 rfl rfl hl.1 (Nat.le_of_ble_eq_true rfl) ⟨Nat.le_of_ble_eq_true rfl, Nat.le_of_ble_eq_true rfl⟩ rfl dL_law_1018 (fun H locs hP hS => ?_)
        refine lv_aload_n hx hb dL_law_1021 rfl (lv_at hl 2 rfl) ?_
        refine lv_aload_n hx hb dL_law_1022 rfl (lv_at hl 0 rfl) ?_
        refine lv_iload_n hx hb dL_law_1023 rfl (lv_at hl 3 rfl) ?_
        refine lv_iconst (v := 1) hx hb dL_law_1024 (by decide) ?_
        refine lv_iadd hx hb dL_law_1025 ?_
        refine va_sld hx hb hX hbl hbA hS g_1 dL_law_1026 ?_
        refine lv_aload_n hx hb dL_law_1027 rfl (lv_at hl 0 rfl) ?_
        refine lv_iload_n hx hb dL_law_1028 rfl (lv_at hl 3 rfl) ?_
        refine lv_iconst (v := 2) hx hb dL_law_1029 (by decide) ?_
        refine lv_iadd hx hb dL_law_1030 ?_
        refine va_sld hx hb hX hbl hbA hS g_2 dL_law_1031 ?_
        refine zz_callVi (rest := [.int u.1]) hx hb hml C hP hS (c_X9_behind l hDA (xs (x3 + 1).toNatClampNeg) (xs (x3 + 2).toNatClampNeg) hv) zw_L_129 ⟨Nat.le_of_ble_eq_true rfl, Nat.le_of_ble_eq_true rfl⟩ (by decide) lay_81 rfl rfl hl.1 (Nat.le_of_ble_eq_true rfl) ⟨Nat.le_of_ble_eq_true rfl, Nat.le_of_ble_eq_true rfl⟩ rfl dL_law_1032 (fun H locs hP hS => ?_)
        refine lv_icmp_eq (tgt := 1339) hx hb dL_law_1035 (by decide) (fun _ => ?_) (fun hne => absurd huv hne)
        exact hnext _ _ hI2 _ _ _ (lv_sub hl [0, 1, 2, 3] rfl) hP hS
      by_cases hk27 : op = 27
      · obtain ⟨u, v, hu, hv, huv, hI2⟩ := s_byEar σ d (xs (x3 + 1).toNatClampNeg) (xs (x3 + 2).toNatClampNeg) hI
        refine lv_tableIn (tgt := 1040) hx hb dL_law_33 (by rw [hk27]; decide) (by rw [hk27]; decide) (by rw [hk27]; rfl) (by decide) ?_
        refine lv_aload_n hx hb dL_law_1040 rfl (lv_at hl 1 rfl) ?_
        refine lv_aload_n hx hb dL_law_1041 rfl (lv_at hl 0 rfl) ?_
        refine lv_iload_n hx hb dL_law_1042 rfl (lv_at hl 3 rfl) ?_
        refine lv_iconst (v := 1) hx hb dL_law_1043 (by decide) ?_
        refine lv_iadd hx hb dL_law_1044 ?_
        refine va_sld hx hb hX hbl hbA hS g_1 dL_law_1045 ?_
        refine lv_aload_n hx hb dL_law_1046 rfl (lv_at hl 0 rfl) ?_
        refine lv_iload_n hx hb dL_law_1047 rfl (lv_at hl 3 rfl) ?_
        refine lv_iconst (v := 2) hx hb dL_law_1048 (by decide) ?_
        refine lv_iadd hx hb dL_law_1049 ?_
        refine va_sld hx hb hX hbl hbA hS g_2 dL_law_1050 ?_
        refine zz_callVi (rest := []) hx hb hml C hP hS (c_X8_byEar l hDA hd1 (xs (x3 + 1).toNatClampNeg) (xs (x3 + 2).toNatClampNeg) hu) zw_L_130 ⟨Nat.le_of_ble_eq_true rfl, Nat.le_of_ble_eq_true rfl⟩ (by decide) lay_0 rfl rfl hl.1 (Nat.le_of_ble_eq_true rfl) ⟨Nat.le_of_ble_eq_true rfl, Nat.le_of_ble_eq_true rfl⟩ rfl dL_law_1051 (fun H locs hP hS => ?_)
        refine lv_aload_n hx hb dL_law_1054 rfl (lv_at hl 2 rfl) ?_
        refine lv_aload_n hx hb dL_law_1055 rfl (lv_at hl 0 rfl) ?_
        refine lv_iload_n hx hb dL_law_1056 rfl (lv_at hl 3 rfl) ?_
        refine lv_iconst (v := 1) hx hb dL_law_1057 (by decide) ?_
        refine lv_iadd hx hb dL_law_1058 ?_
        refine va_sld hx hb hX hbl hbA hS g_1 dL_law_1059 ?_
        refine lv_aload_n hx hb dL_law_1060 rfl (lv_at hl 0 rfl) ?_
        refine lv_iload_n hx hb dL_law_1061 rfl (lv_at hl 3 rfl) ?_
        refine lv_iconst (v := 2) hx hb dL_law_1062 (by decide) ?_
        refine lv_iadd hx hb dL_law_1063 ?_
        refine va_sld hx hb hX hbl hbA hS g_2 dL_law_1064 ?_
        refine zz_callVi (rest := [.int u.1]) hx hb hml C hP hS (c_X9_byEar l hDA (xs (x3 + 1).toNatClampNeg) (xs (x3 + 2).toNatClampNeg) hv) zw_L_133 ⟨Nat.le_of_ble_eq_true rfl, Nat.le_of_ble_eq_true rfl⟩ (by decide) lay_81 rfl rfl hl.1 (Nat.le_of_ble_eq_true rfl) ⟨Nat.le_of_ble_eq_true rfl, Nat.le_of_ble_eq_true rfl⟩ rfl dL_law_1065 (fun H locs hP hS => ?_)
        refine lv_icmp_eq (tgt := 1339) hx hb dL_law_1068 (by decide) (fun _ => ?_) (fun hne => absurd huv hne)
        exact hnext _ _ hI2 _ _ _ (lv_sub hl [0, 1, 2, 3] rfl) hP hS
      by_cases hk28 : op = 28
      · obtain ⟨u, v, hu, hv, huv, hI2⟩ := s_beside σ d hI
        refine lv_tableIn (tgt := 1073) hx hb dL_law_33 (by rw [hk28]; decide) (by rw [hk28]; decide) (by rw [hk28]; rfl) (by decide) ?_
        refine lv_aload_n hx hb dL_law_1073 rfl (lv_at hl 1 rfl) ?_
        refine zz_callVi (rest := []) hx hb hml C hP hS (c_X8_beside l hDA hd1 hu) zw_L_134 ⟨Nat.le_of_ble_eq_true rfl, Nat.le_of_ble_eq_true rfl⟩ (by decide) lay_0 rfl rfl hl.1 (Nat.le_of_ble_eq_true rfl) ⟨Nat.le_of_ble_eq_true rfl, Nat.le_of_ble_eq_true rfl⟩ rfl dL_law_1074 (fun H locs hP hS => ?_)
        refine lv_aload_n hx hb dL_law_1077 rfl (lv_at hl 2 rfl) ?_
        refine zz_callVi (rest := [.int u.1]) hx hb hml C hP hS (c_X9_beside l hDA hv) zw_L_137 ⟨Nat.le_of_ble_eq_true rfl, Nat.le_of_ble_eq_true rfl⟩ (by decide) lay_81 rfl rfl hl.1 (Nat.le_of_ble_eq_true rfl) ⟨Nat.le_of_ble_eq_true rfl, Nat.le_of_ble_eq_true rfl⟩ rfl dL_law_1078 (fun H locs hP hS => ?_)
        refine lv_icmp_eq (tgt := 1339) hx hb dL_law_1081 (by decide) (fun _ => ?_) (fun hne => absurd huv hne)
        exact hnext _ _ hI2 _ _ _ (lv_sub hl [0, 1, 2, 3] rfl) hP hS
      by_cases hk29 : op = 29
      · obtain ⟨u, v, hu, hv, huv, hI2⟩ := s_quiet σ d hI
        refine lv_tableIn (tgt := 1086) hx hb dL_law_33 (by rw [hk29]; decide) (by rw [hk29]; decide) (by rw [hk29]; rfl) (by decide) ?_
        refine lv_aload_n hx hb dL_law_1086 rfl (lv_at hl 1 rfl) ?_
        refine zz_callVi (rest := []) hx hb hml C hP hS (c_X8_quiet l hDA hd1 hu) zw_L_138 ⟨Nat.le_of_ble_eq_true rfl, Nat.le_of_ble_eq_true rfl⟩ (by decide) lay_0 rfl rfl hl.1 (Nat.le_of_ble_eq_true rfl) ⟨Nat.le_of_ble_eq_true rfl, Nat.le_of_ble_eq_true rfl⟩ rfl dL_law_1087 (fun H locs hP hS => ?_)
        refine lv_aload_n hx hb dL_law_1090 rfl (lv_at hl 2 rfl) ?_
        refine zz_callVi (rest := [.int u.1]) hx hb hml C hP hS (c_X9_quiet l hDA hv) zw_L_141 ⟨Nat.le_of_ble_eq_true rfl, Nat.le_of_ble_eq_true rfl⟩ (by decide) lay_81 rfl rfl hl.1 (Nat.le_of_ble_eq_true rfl) ⟨Nat.le_of_ble_eq_true rfl, Nat.le_of_ble_eq_true rfl⟩ rfl dL_law_1091 (fun H locs hP hS => ?_)
        refine lv_icmp_eq (tgt := 1339) hx hb dL_law_1094 (by decide) (fun _ => ?_) (fun hne => absurd huv hne)
        exact hnext _ _ hI2 _ _ _ (lv_sub hl [0, 1, 2, 3] rfl) hP hS
      by_cases hk30 : op = 30
      · obtain ⟨u, v, hu, hv, huv, hI2⟩ := s_swap σ d (xs (x3 + 1).toNatClampNeg) (xs (x3 + 2).toNatClampNeg) hI
        refine lv_tableIn (tgt := 1099) hx hb dL_law_33 (by rw [hk30]; decide) (by rw [hk30]; decide) (by rw [hk30]; rfl) (by decide) ?_
        refine lv_aload_n hx hb dL_law_1099 rfl (lv_at hl 1 rfl) ?_
        refine lv_aload_n hx hb dL_law_1100 rfl (lv_at hl 0 rfl) ?_
        refine lv_iload_n hx hb dL_law_1101 rfl (lv_at hl 3 rfl) ?_
        refine lv_iconst (v := 1) hx hb dL_law_1102 (by decide) ?_
        refine lv_iadd hx hb dL_law_1103 ?_
        refine va_sld hx hb hX hbl hbA hS g_1 dL_law_1104 ?_
        refine lv_aload_n hx hb dL_law_1105 rfl (lv_at hl 0 rfl) ?_
        refine lv_iload_n hx hb dL_law_1106 rfl (lv_at hl 3 rfl) ?_
        refine lv_iconst (v := 2) hx hb dL_law_1107 (by decide) ?_
        refine lv_iadd hx hb dL_law_1108 ?_
        refine va_sld hx hb hX hbl hbA hS g_2 dL_law_1109 ?_
        refine zz_callVi (rest := []) hx hb hml C hP hS (c_X8_swap l hDA hd1 (xs (x3 + 1).toNatClampNeg) (xs (x3 + 2).toNatClampNeg) hu) zw_L_142 ⟨Nat.le_of_ble_eq_true rfl, Nat.le_of_ble_eq_true rfl⟩ (by decide) lay_0 rfl rfl hl.1 (Nat.le_of_ble_eq_true rfl) ⟨Nat.le_of_ble_eq_true rfl, Nat.le_of_ble_eq_true rfl⟩ rfl dL_law_1110 (fun H locs hP hS => ?_)
        refine lv_aload_n hx hb dL_law_1113 rfl (lv_at hl 2 rfl) ?_
        refine lv_aload_n hx hb dL_law_1114 rfl (lv_at hl 0 rfl) ?_
        refine lv_iload_n hx hb dL_law_1115 rfl (lv_at hl 3 rfl) ?_
        refine lv_iconst (v := 1) hx hb dL_law_1116 (by decide) ?_
        refine lv_iadd hx hb dL_law_1117 ?_
        refine va_sld hx hb hX hbl hbA hS g_1 dL_law_1118 ?_
        refine lv_aload_n hx hb dL_law_1119 rfl (lv_at hl 0 rfl) ?_
        refine lv_iload_n hx hb dL_law_1120 rfl (lv_at hl 3 rfl) ?_
        refine lv_iconst (v := 2) hx hb dL_law_1121 (by decide) ?_
        refine lv_iadd hx hb dL_law_1122 ?_
        refine va_sld hx hb hX hbl hbA hS g_2 dL_law_1123 ?_
        refine zz_callVi (rest := [.int u.1]) hx hb hml C hP hS (c_X9_swap l hDA (xs (x3 + 1).toNatClampNeg) (xs (x3 + 2).toNatClampNeg) hv) zw_L_145 ⟨Nat.le_of_ble_eq_true rfl, Nat.le_of_ble_eq_true rfl⟩ (by decide) lay_81 rfl rfl hl.1 (Nat.le_of_ble_eq_true rfl) ⟨Nat.le_of_ble_eq_true rfl, Nat.le_of_ble_eq_true rfl⟩ rfl dL_law_1124 (fun H locs hP hS => ?_)
        refine lv_icmp_eq (tgt := 1339) hx hb dL_law_1127 (by decide) (fun _ => ?_) (fun hne => absurd huv hne)
        exact hnext _ _ hI2 _ _ _ (lv_sub hl [0, 1, 2, 3] rfl) hP hS
      by_cases hk31 : op = 31
      · obtain ⟨u, v, hu, hv, huv, hI2⟩ := s_isTrue σ d (xs (x3 + 1).toNatClampNeg) hI
        refine lv_tableIn (tgt := 1132) hx hb dL_law_33 (by rw [hk31]; decide) (by rw [hk31]; decide) (by rw [hk31]; rfl) (by decide) ?_
        refine lv_aload_n hx hb dL_law_1132 rfl (lv_at hl 1 rfl) ?_
        refine lv_aload_n hx hb dL_law_1133 rfl (lv_at hl 0 rfl) ?_
        refine lv_iload_n hx hb dL_law_1134 rfl (lv_at hl 3 rfl) ?_
        refine lv_iconst (v := 1) hx hb dL_law_1135 (by decide) ?_
        refine lv_iadd hx hb dL_law_1136 ?_
        refine va_sld hx hb hX hbl hbA hS g_1 dL_law_1137 ?_
        refine zz_callVi (rest := []) hx hb hml C hP hS (c_X8_isTrue l hDA hd1 (xs (x3 + 1).toNatClampNeg) hu) zw_L_146 ⟨Nat.le_of_ble_eq_true rfl, Nat.le_of_ble_eq_true rfl⟩ (by decide) lay_0 rfl rfl hl.1 (Nat.le_of_ble_eq_true rfl) ⟨Nat.le_of_ble_eq_true rfl, Nat.le_of_ble_eq_true rfl⟩ rfl dL_law_1138 (fun H locs hP hS => ?_)
        refine lv_aload_n hx hb dL_law_1141 rfl (lv_at hl 2 rfl) ?_
        refine lv_aload_n hx hb dL_law_1142 rfl (lv_at hl 0 rfl) ?_
        refine lv_iload_n hx hb dL_law_1143 rfl (lv_at hl 3 rfl) ?_
        refine lv_iconst (v := 1) hx hb dL_law_1144 (by decide) ?_
        refine lv_iadd hx hb dL_law_1145 ?_
        refine va_sld hx hb hX hbl hbA hS g_1 dL_law_1146 ?_
        refine zz_callVi (rest := [.int u.1]) hx hb hml C hP hS (c_X9_isTrue l hDA (xs (x3 + 1).toNatClampNeg) hv) zw_L_149 ⟨Nat.le_of_ble_eq_true rfl, Nat.le_of_ble_eq_true rfl⟩ (by decide) lay_81 rfl rfl hl.1 (Nat.le_of_ble_eq_true rfl) ⟨Nat.le_of_ble_eq_true rfl, Nat.le_of_ble_eq_true rfl⟩ rfl dL_law_1147 (fun H locs hP hS => ?_)
        refine lv_icmp_eq (tgt := 1339) hx hb dL_law_1150 (by decide) (fun _ => ?_) (fun hne => absurd huv hne)
        exact hnext _ _ hI2 _ _ _ (lv_sub hl [0, 1, 2, 3] rfl) hP hS
      by_cases hk32 : op = 32
      · obtain ⟨u, v, hu, hv, huv, hI2⟩ := s_hear σ d (xs (x3 + 1).toNatClampNeg) hI
        refine lv_tableIn (tgt := 1155) hx hb dL_law_33 (by rw [hk32]; decide) (by rw [hk32]; decide) (by rw [hk32]; rfl) (by decide) ?_
        refine lv_aload_n hx hb dL_law_1155 rfl (lv_at hl 1 rfl) ?_
        refine lv_aload_n hx hb dL_law_1156 rfl (lv_at hl 0 rfl) ?_
        refine lv_iload_n hx hb dL_law_1157 rfl (lv_at hl 3 rfl) ?_
        refine lv_iconst (v := 1) hx hb dL_law_1158 (by decide) ?_
        refine lv_iadd hx hb dL_law_1159 ?_
        refine va_sld hx hb hX hbl hbA hS g_1 dL_law_1160 ?_
        refine zz_callVi (rest := []) hx hb hml C hP hS (c_X8_hear l hDA hd1 (xs (x3 + 1).toNatClampNeg) hu) zw_L_150 ⟨Nat.le_of_ble_eq_true rfl, Nat.le_of_ble_eq_true rfl⟩ (by decide) lay_0 rfl rfl hl.1 (Nat.le_of_ble_eq_true rfl) ⟨Nat.le_of_ble_eq_true rfl, Nat.le_of_ble_eq_true rfl⟩ rfl dL_law_1161 (fun H locs hP hS => ?_)
        refine lv_aload_n hx hb dL_law_1164 rfl (lv_at hl 2 rfl) ?_
        refine lv_aload_n hx hb dL_law_1165 rfl (lv_at hl 0 rfl) ?_
        refine lv_iload_n hx hb dL_law_1166 rfl (lv_at hl 3 rfl) ?_
        refine lv_iconst (v := 1) hx hb dL_law_1167 (by decide) ?_
        refine lv_iadd hx hb dL_law_1168 ?_
        refine va_sld hx hb hX hbl hbA hS g_1 dL_law_1169 ?_
        refine zz_callVi (rest := [.int u.1]) hx hb hml C hP hS (c_X9_hear l hDA (xs (x3 + 1).toNatClampNeg) hv) zw_L_153 ⟨Nat.le_of_ble_eq_true rfl, Nat.le_of_ble_eq_true rfl⟩ (by decide) lay_81 rfl rfl hl.1 (Nat.le_of_ble_eq_true rfl) ⟨Nat.le_of_ble_eq_true rfl, Nat.le_of_ble_eq_true rfl⟩ rfl dL_law_1170 (fun H locs hP hS => ?_)
        refine lv_icmp_eq (tgt := 1339) hx hb dL_law_1173 (by decide) (fun _ => ?_) (fun hne => absurd huv hne)
        exact hnext _ _ hI2 _ _ _ (lv_sub hl [0, 1, 2, 3] rfl) hP hS
      by_cases hk33 : op = 33
      · obtain ⟨u, v, hu, hv, huv, hI2⟩ := s_evenings σ d (xs (x3 + 1).toNatClampNeg) hI
        refine lv_tableIn (tgt := 1178) hx hb dL_law_33 (by rw [hk33]; decide) (by rw [hk33]; decide) (by rw [hk33]; rfl) (by decide) ?_
        refine lv_aload_n hx hb dL_law_1178 rfl (lv_at hl 1 rfl) ?_
        refine lv_aload_n hx hb dL_law_1179 rfl (lv_at hl 0 rfl) ?_
        refine lv_iload_n hx hb dL_law_1180 rfl (lv_at hl 3 rfl) ?_
        refine lv_iconst (v := 1) hx hb dL_law_1181 (by decide) ?_
        refine lv_iadd hx hb dL_law_1182 ?_
        refine va_sld hx hb hX hbl hbA hS g_1 dL_law_1183 ?_
        refine zz_callVi (rest := []) hx hb hml C hP hS (c_X8_evenings l hDA hd1 (xs (x3 + 1).toNatClampNeg) hu) zw_L_154 ⟨Nat.le_of_ble_eq_true rfl, Nat.le_of_ble_eq_true rfl⟩ (by decide) lay_0 rfl rfl hl.1 (Nat.le_of_ble_eq_true rfl) ⟨Nat.le_of_ble_eq_true rfl, Nat.le_of_ble_eq_true rfl⟩ rfl dL_law_1184 (fun H locs hP hS => ?_)
        refine lv_aload_n hx hb dL_law_1187 rfl (lv_at hl 2 rfl) ?_
        refine lv_aload_n hx hb dL_law_1188 rfl (lv_at hl 0 rfl) ?_
        refine lv_iload_n hx hb dL_law_1189 rfl (lv_at hl 3 rfl) ?_
        refine lv_iconst (v := 1) hx hb dL_law_1190 (by decide) ?_
        refine lv_iadd hx hb dL_law_1191 ?_
        refine va_sld hx hb hX hbl hbA hS g_1 dL_law_1192 ?_
        refine zz_callVi (rest := [.int u.1]) hx hb hml C hP hS (c_X9_evenings l hDA (xs (x3 + 1).toNatClampNeg) hv) zw_L_157 ⟨Nat.le_of_ble_eq_true rfl, Nat.le_of_ble_eq_true rfl⟩ (by decide) lay_81 rfl rfl hl.1 (Nat.le_of_ble_eq_true rfl) ⟨Nat.le_of_ble_eq_true rfl, Nat.le_of_ble_eq_true rfl⟩ rfl dL_law_1193 (fun H locs hP hS => ?_)
        refine lv_icmp_eq (tgt := 1339) hx hb dL_law_1196 (by decide) (fun _ => ?_) (fun hne => absurd huv hne)
        exact hnext _ _ hI2 _ _ _ (lv_sub hl [0, 1, 2, 3] rfl) hP hS
      by_cases hk34 : op = 34
      · obtain ⟨u, v, hu, hv, huv, hI2⟩ := s_seed σ d (xs (x3 + 1).toNatClampNeg) hI
        refine lv_tableIn (tgt := 1201) hx hb dL_law_33 (by rw [hk34]; decide) (by rw [hk34]; decide) (by rw [hk34]; rfl) (by decide) ?_
        refine lv_aload_n hx hb dL_law_1201 rfl (lv_at hl 1 rfl) ?_
        refine lv_aload_n hx hb dL_law_1202 rfl (lv_at hl 0 rfl) ?_
        refine lv_iload_n hx hb dL_law_1203 rfl (lv_at hl 3 rfl) ?_
        refine lv_iconst (v := 1) hx hb dL_law_1204 (by decide) ?_
        refine lv_iadd hx hb dL_law_1205 ?_
        refine va_sld hx hb hX hbl hbA hS g_1 dL_law_1206 ?_
        refine zz_callVi (rest := []) hx hb hml C hP hS (c_X8_seed l hDA hd1 (xs (x3 + 1).toNatClampNeg) hu) zw_L_158 ⟨Nat.le_of_ble_eq_true rfl, Nat.le_of_ble_eq_true rfl⟩ (by decide) lay_0 rfl rfl hl.1 (Nat.le_of_ble_eq_true rfl) ⟨Nat.le_of_ble_eq_true rfl, Nat.le_of_ble_eq_true rfl⟩ rfl dL_law_1207 (fun H locs hP hS => ?_)
        refine lv_aload_n hx hb dL_law_1210 rfl (lv_at hl 2 rfl) ?_
        refine lv_aload_n hx hb dL_law_1211 rfl (lv_at hl 0 rfl) ?_
        refine lv_iload_n hx hb dL_law_1212 rfl (lv_at hl 3 rfl) ?_
        refine lv_iconst (v := 1) hx hb dL_law_1213 (by decide) ?_
        refine lv_iadd hx hb dL_law_1214 ?_
        refine va_sld hx hb hX hbl hbA hS g_1 dL_law_1215 ?_
        refine zz_callVi (rest := [.int u.1]) hx hb hml C hP hS (c_X9_seed l hDA (xs (x3 + 1).toNatClampNeg) hv) zw_L_161 ⟨Nat.le_of_ble_eq_true rfl, Nat.le_of_ble_eq_true rfl⟩ (by decide) lay_81 rfl rfl hl.1 (Nat.le_of_ble_eq_true rfl) ⟨Nat.le_of_ble_eq_true rfl, Nat.le_of_ble_eq_true rfl⟩ rfl dL_law_1216 (fun H locs hP hS => ?_)
        refine lv_icmp_eq (tgt := 1339) hx hb dL_law_1219 (by decide) (fun _ => ?_) (fun hne => absurd huv hne)
        exact hnext _ _ hI2 _ _ _ (lv_sub hl [0, 1, 2, 3] rfl) hP hS
      by_cases hk35 : op = 35
      · obtain ⟨u, v, hu, hv, huv, hI2⟩ := s_act σ d (xs (x3 + 1).toNatClampNeg) (xs (x3 + 2).toNatClampNeg) (xs (x3 + 3).toNatClampNeg) hI
        refine lv_tableIn (tgt := 1224) hx hb dL_law_33 (by rw [hk35]; decide) (by rw [hk35]; decide) (by rw [hk35]; rfl) (by decide) ?_
        refine lv_aload_n hx hb dL_law_1224 rfl (lv_at hl 1 rfl) ?_
        refine lv_aload_n hx hb dL_law_1225 rfl (lv_at hl 0 rfl) ?_
        refine lv_iload_n hx hb dL_law_1226 rfl (lv_at hl 3 rfl) ?_
        refine lv_iconst (v := 1) hx hb dL_law_1227 (by decide) ?_
        refine lv_iadd hx hb dL_law_1228 ?_
        refine va_sld hx hb hX hbl hbA hS g_1 dL_law_1229 ?_
        refine lv_aload_n hx hb dL_law_1230 rfl (lv_at hl 0 rfl) ?_
        refine lv_iload_n hx hb dL_law_1231 rfl (lv_at hl 3 rfl) ?_
        refine lv_iconst (v := 2) hx hb dL_law_1232 (by decide) ?_
        refine lv_iadd hx hb dL_law_1233 ?_
        refine va_sld hx hb hX hbl hbA hS g_2 dL_law_1234 ?_
        refine lv_aload_n hx hb dL_law_1235 rfl (lv_at hl 0 rfl) ?_
        refine lv_iload_n hx hb dL_law_1236 rfl (lv_at hl 3 rfl) ?_
        refine lv_iconst (v := 3) hx hb dL_law_1237 (by decide) ?_
        refine lv_iadd hx hb dL_law_1238 ?_
        refine va_sld hx hb hX hbl hbA hS g_3 dL_law_1239 ?_
        refine zz_callVi (rest := []) hx hb hml C hP hS (c_X8_act l hDA hd1 (xs (x3 + 1).toNatClampNeg) (xs (x3 + 2).toNatClampNeg) (xs (x3 + 3).toNatClampNeg) hu) zw_L_162 ⟨Nat.le_of_ble_eq_true rfl, Nat.le_of_ble_eq_true rfl⟩ (by decide) lay_0 rfl rfl hl.1 (Nat.le_of_ble_eq_true rfl) ⟨Nat.le_of_ble_eq_true rfl, Nat.le_of_ble_eq_true rfl⟩ rfl dL_law_1240 (fun H locs hP hS => ?_)
        refine lv_aload_n hx hb dL_law_1243 rfl (lv_at hl 2 rfl) ?_
        refine lv_aload_n hx hb dL_law_1244 rfl (lv_at hl 0 rfl) ?_
        refine lv_iload_n hx hb dL_law_1245 rfl (lv_at hl 3 rfl) ?_
        refine lv_iconst (v := 1) hx hb dL_law_1246 (by decide) ?_
        refine lv_iadd hx hb dL_law_1247 ?_
        refine va_sld hx hb hX hbl hbA hS g_1 dL_law_1248 ?_
        refine lv_aload_n hx hb dL_law_1249 rfl (lv_at hl 0 rfl) ?_
        refine lv_iload_n hx hb dL_law_1250 rfl (lv_at hl 3 rfl) ?_
        refine lv_iconst (v := 2) hx hb dL_law_1251 (by decide) ?_
        refine lv_iadd hx hb dL_law_1252 ?_
        refine va_sld hx hb hX hbl hbA hS g_2 dL_law_1253 ?_
        refine lv_aload_n hx hb dL_law_1254 rfl (lv_at hl 0 rfl) ?_
        refine lv_iload_n hx hb dL_law_1255 rfl (lv_at hl 3 rfl) ?_
        refine lv_iconst (v := 3) hx hb dL_law_1256 (by decide) ?_
        refine lv_iadd hx hb dL_law_1257 ?_
        refine va_sld hx hb hX hbl hbA hS g_3 dL_law_1258 ?_
        refine zz_callVi (rest := [.int u.1]) hx hb hml C hP hS (c_X9_act l hDA (xs (x3 + 1).toNatClampNeg) (xs (x3 + 2).toNatClampNeg) (xs (x3 + 3).toNatClampNeg) hv) zw_L_165 ⟨Nat.le_of_ble_eq_true rfl, Nat.le_of_ble_eq_true rfl⟩ (by decide) lay_81 rfl rfl hl.1 (Nat.le_of_ble_eq_true rfl) ⟨Nat.le_of_ble_eq_true rfl, Nat.le_of_ble_eq_true rfl⟩ rfl dL_law_1259 (fun H locs hP hS => ?_)
        refine lv_icmp_eq (tgt := 1339) hx hb dL_law_1262 (by decide) (fun _ => ?_) (fun hne => absurd huv hne)
        exact hnext _ _ hI2 _ _ _ (lv_sub hl [0, 1, 2, 3] rfl) hP hS
      by_cases hk36 : op = 36
      · obtain ⟨u, v, hu, hv, huv, hI2⟩ := s_trace σ d (xs (x3 + 1).toNatClampNeg) hI
        refine lv_tableIn (tgt := 1267) hx hb dL_law_33 (by rw [hk36]; decide) (by rw [hk36]; decide) (by rw [hk36]; rfl) (by decide) ?_
        refine lv_aload_n hx hb dL_law_1267 rfl (lv_at hl 1 rfl) ?_
        refine lv_aload_n hx hb dL_law_1268 rfl (lv_at hl 0 rfl) ?_
        refine lv_iload_n hx hb dL_law_1269 rfl (lv_at hl 3 rfl) ?_
        refine lv_iconst (v := 1) hx hb dL_law_1270 (by decide) ?_
        refine lv_iadd hx hb dL_law_1271 ?_
        refine va_sld hx hb hX hbl hbA hS g_1 dL_law_1272 ?_
        refine zz_callVi (rest := []) hx hb hml C hP hS (c_X8_trace l hDA (xs (x3 + 1).toNatClampNeg) hu) zw_L_166 ⟨Nat.le_of_ble_eq_true rfl, Nat.le_of_ble_eq_true rfl⟩ (by decide) lay_0 rfl rfl hl.1 (Nat.le_of_ble_eq_true rfl) ⟨Nat.le_of_ble_eq_true rfl, Nat.le_of_ble_eq_true rfl⟩ rfl dL_law_1273 (fun H locs hP hS => ?_)
        refine lv_aload_n hx hb dL_law_1276 rfl (lv_at hl 2 rfl) ?_
        refine lv_aload_n hx hb dL_law_1277 rfl (lv_at hl 0 rfl) ?_
        refine lv_iload_n hx hb dL_law_1278 rfl (lv_at hl 3 rfl) ?_
        refine lv_iconst (v := 1) hx hb dL_law_1279 (by decide) ?_
        refine lv_iadd hx hb dL_law_1280 ?_
        refine va_sld hx hb hX hbl hbA hS g_1 dL_law_1281 ?_
        refine zz_callVi (rest := [.int u]) hx hb hml C hP hS (c_X9_trace l hDA (xs (x3 + 1).toNatClampNeg) hv) zw_L_169 ⟨Nat.le_of_ble_eq_true rfl, Nat.le_of_ble_eq_true rfl⟩ (by decide) lay_81 rfl rfl hl.1 (Nat.le_of_ble_eq_true rfl) ⟨Nat.le_of_ble_eq_true rfl, Nat.le_of_ble_eq_true rfl⟩ rfl dL_law_1282 (fun H locs hP hS => ?_)
        refine lv_icmp_eq (tgt := 1339) hx hb dL_law_1285 (by decide) (fun _ => ?_) (fun hne => absurd huv hne)
        exact hnext _ _ hI2 _ _ _ (lv_sub hl [0, 1, 2, 3] rfl) hP hS
      by_cases hk37 : op = 37
      · obtain ⟨u, v, hu, hv, huv, hI2⟩ := s_image σ d hI
        refine lv_tableIn (tgt := 1290) hx hb dL_law_33 (by rw [hk37]; decide) (by rw [hk37]; decide) (by rw [hk37]; rfl) (by decide) ?_
        refine lv_aload_n hx hb dL_law_1290 rfl (lv_at hl 1 rfl) ?_
        refine zz_callVi (rest := []) hx hb hml C hP hS (c_X8_image l hDA hd1 hu) zw_L_170 ⟨Nat.le_of_ble_eq_true rfl, Nat.le_of_ble_eq_true rfl⟩ (by decide) lay_0 rfl rfl hl.1 (Nat.le_of_ble_eq_true rfl) ⟨Nat.le_of_ble_eq_true rfl, Nat.le_of_ble_eq_true rfl⟩ rfl dL_law_1291 (fun H locs hP hS => ?_)
        refine lv_aload_n hx hb dL_law_1294 rfl (lv_at hl 2 rfl) ?_
        refine zz_callVi (rest := [.int u.1]) hx hb hml C hP hS (c_X9_image l hDA hv) zw_L_173 ⟨Nat.le_of_ble_eq_true rfl, Nat.le_of_ble_eq_true rfl⟩ (by decide) lay_81 rfl rfl hl.1 (Nat.le_of_ble_eq_true rfl) ⟨Nat.le_of_ble_eq_true rfl, Nat.le_of_ble_eq_true rfl⟩ rfl dL_law_1295 (fun H locs hP hS => ?_)
        refine lv_icmp_eq (tgt := 1339) hx hb dL_law_1298 (by decide) (fun _ => ?_) (fun hne => absurd huv hne)
        exact hnext _ _ hI2 _ _ _ (lv_sub hl [0, 1, 2, 3] rfl) hP hS
      by_cases hk38 : op = 38
      · obtain ⟨u, v, hu, hv, huv, hI2⟩ := s_restore σ d hI
        refine lv_tableIn (tgt := 1303) hx hb dL_law_33 (by rw [hk38]; decide) (by rw [hk38]; decide) (by rw [hk38]; rfl) (by decide) ?_
        refine lv_aload_n hx hb dL_law_1303 rfl (lv_at hl 1 rfl) ?_
        refine zz_callVi (rest := []) hx hb hml C hP hS (c_X8_restore l hDA hd1 hu) zw_L_174 ⟨Nat.le_of_ble_eq_true rfl, Nat.le_of_ble_eq_true rfl⟩ (by decide) lay_0 rfl rfl hl.1 (Nat.le_of_ble_eq_true rfl) ⟨Nat.le_of_ble_eq_true rfl, Nat.le_of_ble_eq_true rfl⟩ rfl dL_law_1304 (fun H locs hP hS => ?_)
        refine lv_aload_n hx hb dL_law_1307 rfl (lv_at hl 2 rfl) ?_
        refine zz_callVi (rest := [.int u.1]) hx hb hml C hP hS (c_X9_restore l hDA hv) zw_L_177 ⟨Nat.le_of_ble_eq_true rfl, Nat.le_of_ble_eq_true rfl⟩ (by decide) lay_81 rfl rfl hl.1 (Nat.le_of_ble_eq_true rfl) ⟨Nat.le_of_ble_eq_true rfl, Nat.le_of_ble_eq_true rfl⟩ rfl dL_law_1308 (fun H locs hP hS => ?_)
        refine lv_icmp_eq (tgt := 1339) hx hb dL_law_1311 (by decide) (fun _ => ?_) (fun hne => absurd huv hne)
        exact hnext _ _ hI2 _ _ _ (lv_sub hl [0, 1, 2, 3] rfl) hP hS
      by_cases hk39 : op = 39
      · obtain ⟨u, v, hu, hv, huv, hI2⟩ := s_status σ d (xs (x3 + 1).toNatClampNeg) hI
        refine lv_tableIn (tgt := 1316) hx hb dL_law_33 (by rw [hk39]; decide) (by rw [hk39]; decide) (by rw [hk39]; rfl) (by decide) ?_
        refine lv_aload_n hx hb dL_law_1316 rfl (lv_at hl 1 rfl) ?_
        refine lv_aload_n hx hb dL_law_1317 rfl (lv_at hl 0 rfl) ?_
        refine lv_iload_n hx hb dL_law_1318 rfl (lv_at hl 3 rfl) ?_
        refine lv_iconst (v := 1) hx hb dL_law_1319 (by decide) ?_
        refine lv_iadd hx hb dL_law_1320 ?_
        refine va_sld hx hb hX hbl hbA hS g_1 dL_law_1321 ?_
        refine zz_callVi (rest := []) hx hb hml C hP hS (c_X8_status l hDA hd1 (xs (x3 + 1).toNatClampNeg) hu) zw_L_178 ⟨Nat.le_of_ble_eq_true rfl, Nat.le_of_ble_eq_true rfl⟩ (by decide) lay_0 rfl rfl hl.1 (Nat.le_of_ble_eq_true rfl) ⟨Nat.le_of_ble_eq_true rfl, Nat.le_of_ble_eq_true rfl⟩ rfl dL_law_1322 (fun H locs hP hS => ?_)
        refine lv_aload_n hx hb dL_law_1325 rfl (lv_at hl 2 rfl) ?_
        refine lv_aload_n hx hb dL_law_1326 rfl (lv_at hl 0 rfl) ?_
        refine lv_iload_n hx hb dL_law_1327 rfl (lv_at hl 3 rfl) ?_
        refine lv_iconst (v := 1) hx hb dL_law_1328 (by decide) ?_
        refine lv_iadd hx hb dL_law_1329 ?_
        refine va_sld hx hb hX hbl hbA hS g_1 dL_law_1330 ?_
        refine zz_callVi (rest := [.int u]) hx hb hml C hP hS (c_X9_status l hDA (xs (x3 + 1).toNatClampNeg) hv) zw_L_181 ⟨Nat.le_of_ble_eq_true rfl, Nat.le_of_ble_eq_true rfl⟩ (by decide) lay_81 rfl rfl hl.1 (Nat.le_of_ble_eq_true rfl) ⟨Nat.le_of_ble_eq_true rfl, Nat.le_of_ble_eq_true rfl⟩ rfl dL_law_1331 (fun H locs hP hS => ?_)
        refine lv_icmp_eq (tgt := 1339) hx hb dL_law_1334 (by decide) (fun _ => ?_) (fun hne => absurd huv hne)
        exact hnext _ _ hI2 _ _ _ (lv_sub hl [0, 1, 2, 3] rfl) hP hS
      refine lv_tableOut (tgt := 1339) hx hb dL_law_33 (sw_0_39 hk0 hk1 hk2 hk3 hk4 hk5 hk6 hk7 hk8 hk9 hk10 hk11 hk12 hk13 hk14 hk15 hk16 hk17 hk18 hk19 hk20 hk21 hk22 hk23 hk24 hk25 hk26 hk27 hk28 hk29 hk30 hk31 hk32 hk33 hk34 hk35 hk36 hk37 hk38 hk39) (by decide) ?_
      exact hnext _ _ hI _ _ _ (lv_sub hl [0, 1, 2, 3] rfl) hP hS
