/-! the law's body: two objects made, then its loop -/
def ZL (s : State) (m : MethodId) (args : Array Value) (own : String) (D : va_G) (cA : Nat → ClassId) (A : Nat → Prop) : Prop :=
  s.vm.findClass own = some m.cls ∧ (∀ w ∈ TB, w.before args s = true) ∧ va_K D vwCl (tyL cA) s ∧ va_AO "OnlyMovesHisLips$Shelf" s ∧ ∀ q, s.heap.size ≤ q → A q
section ZL1
variable {p : Program} {l : Launch} {e : Env} {R : Room} {s : State} {m : MethodId} {args : Array Value} {below : List Frame} {meth : Method} {c : Code} {H : Heap} {locs : List Loc} {cells slots : Nat} {Q : State → Prop}
variable {cc : ByteArray} {pc : Nat} {ls : Array Slot} {rest st : List Value} {D : va_G} {cA : Nat → ClassId} {A : Nat → Prop} {ws wr : va_W} {own : String}
/-- a constructor called on the newest object -/
theorem zl_call {nL maxL n index f k mc ms : Nat} {y : MethodName} {bytes : ByteArray} {q : Nat} {en : va_E} {As : List Value} {IW : va_W → Prop} (hx : p.tables.exec = Jvm.exec) (hb : c.code = cc) (hml : c.maxLocals = nL) (C : ZL s m args own D cA A) (hP : va_P D vwCl (wr ++ [(q, en)]) H) (hD : va_D A (wr ++ [(q, en)])) (hS : va_S A s.heap H locs)
    (hM : Met l y (.code y bytes maxL none :: TB) ({ frames := f, cells := mc, slots := ms, locals := k }) (va_Pc (.ref q :: As) (PI D cA H.size [(q, en)])) (va_Qv IW (PJ D cA (va_A [(q, en)] H.size)) (va_A [(q, en)] H.size)) mc ms (va_A [(q, en)] H.size))
    (z1 : Cond.methodLink own index y ∈ TB) (z2 : Cond.instanceMethod y ∈ TB) (z4 : Cond.initialized y.cls ∈ TB) (z5 : Cond.code y bytes maxL none ∈ TB) (hy1 : y.name = "<init>") (z6 : y.cls ≠ "java/lang/invoke/MethodHandle" ∧ y.cls ≠ "java/lang/invoke/VarHandle" ∧ (parseMethodDescriptor y.desc).map (fun d => d.parameters.length) = some n) (hR : f + 1 ≤ R.frames ∧ 8 + (maxL + 11) + k ≤ R.locals)
    (hn : As.length = n) (hls : ls.size = nL) (hw : (rest.map fun v => v.category).sum ≤ 8) (hcs : cells + mc ≤ R.cells ∧ slots + ms ≤ R.slots) (hst : st = As.reverse ++ .ref q :: rest) (hdg : decode cc pc = .ok (.invokespecial index, 3))
    (kk : ∀ (w : va_W) (H1 : Heap) (locs1 : List Loc), IW w → va_P D vwCl (wr ++ w) H1 → va_D A (wr ++ w) → va_S A s.heap H1 locs1 → W p l e R s m args below meth c H1 locs1 (cells + mc) (slots + ms) Q (F0 m (pc + 3) ls rest)) : W p l e R s m args below meth c H locs cells slots Q (F0 m pc ls st) := by
  have hF := zc_freeR (wr := wr) (wc := [(q, en)]) hD hS C.2.2.2.2
  have cw : CallB R s args own index y bytes maxL none (.code y bytes maxL none :: TB) { frames := f, cells := mc, slots := ms, locals := k } mc ms n ∧ y.name = "<init>" ∧ (Cond.instanceMethod y).before args s = true :=
    ⟨callB_of n C.2.1 (goodT z5) rfl rfl rfl (C.2.1 _ z4) (C.2.1 _ z1) z6 hR, hy1, C.2.1 _ z2⟩
  refine va_callv (va_runI (As := As) (rest := rest) ⟨hx, hb, hml, C.1, C.2.1⟩ hM cw ⟨PI_blind, fun U hU hW => ⟨rfl, by rw [hU], by rw [hU]; exact zc_rightP hP, va_K.moved hW.alike C.2.2.1, zc_right hD, va_AO.moved hW.alike C.2.2.2.1⟩⟩ rfl hn hls hst (lv_room hw) hdg hcs) hS (fun q _ h => hF q h) hF (fun w t H1 locs1 ht hvm hw2 hB hz1 hk1 hS1 => ?_)
  obtain ⟨hP1, hK1, hD1⟩ := hB
  rw [ht] at hP1
  obtain ⟨hP2, hD2⟩ := zc_join hP hD hk1 hF hP1 hD1
  exact kk w H1 locs1 hw2 hP2 hD2 hS1
end ZL1
def LS_all (Inv : PH → PD → Prop) : Prop := LS_row Inv ∧ LS_set Inv ∧ LS_copy Inv ∧ LS_element Inv ∧ LS_show Inv ∧ LS_holds Inv ∧ LS_says Inv ∧ LS_singer Inv ∧ LS_singerOf Inv ∧ LS_ask Inv ∧ LS_loft Inv ∧ LS_fault Inv ∧ LS_worlds Inv ∧ LS_world Inv ∧ LS_sounds Inv ∧ LS_heard Inv ∧ LS_known Inv ∧ LS_forget Inv ∧ LS_may Inv ∧ LS_likeliest Inv ∧ LS_lawful Inv ∧ LS_parts Inv ∧ LS_next Inv ∧ LS_by Inv ∧ LS_ahead Inv ∧ LS_judge Inv ∧ LS_behind Inv ∧ LS_byEar Inv ∧ LS_beside Inv ∧ LS_quiet Inv ∧ LS_swap Inv ∧ LS_isTrue Inv ∧ LS_hear Inv ∧ LS_evenings Inv ∧ LS_seed Inv ∧ LS_act Inv ∧ LS_trace Inv ∧ LS_image Inv ∧ LS_restore Inv ∧ LS_status Inv
set_option maxHeartbeats 40000000 in
set_option maxRecDepth 100000 in
theorem whole_open {p : Program} {e : Env} {s : State} {m : MethodId} {below : List Frame} {meth : Method} {c : Code} (l : Launch) {b L : Nat} {xs : Nat → Int32} (hL : L ≤ 3072) (C0 : lw_At p s m meth c b L xs) (Inv : PH → PD → Prop) (hall : ∀ (σ : PH) (d : PD), Inv σ d → isHall d.1 ∧ isHall d.2.1) (hs0 : LS_all Inv) (h0 : Inv σ0 d0) : W p l e room_1 s m #[Value.ref b] below meth c s.heap [] 0 0 (lw_Z below #[Value.ref b] s) (entryFrame m ([Value.ref b] : List Value).toArray 4) := by
  obtain ⟨hx, hb, hr, hml, hown, hts, hX, hbl, hlocks, hgv⟩ := id C0
  have htb : ∀ w ∈ TB, w.before #[Value.ref b] s = true := fun w hw => hts w (List.mem_filter.mp hw).1
  have hown' : s.vm.findClass RL = some m.cls := hown
  obtain ⟨sa, hST⟩ := start_S hts hgv
  obtain ⟨D, cA, hK, hO⟩ := start_K htb (hts _ (List.mem_append_right _ (List.mem_append_left _ (List.mem_of_getElem? (i := 28) rfl))))
  have hA : ∀ q : Nat, s.heap.size ≤ q → (fun q : Nat => s.heap.size ≤ q) q := fun _ h => h
  have CL : ZL s m #[Value.ref b] RL D cA (fun q : Nat => s.heap.size ≤ q) := ⟨hown', htb, hK, hO, hA⟩
  have hS : va_S (fun q : Nat => s.heap.size ≤ q) s.heap s.heap [] := va_S.rf
  have hP : va_P D vwCl [] s.heap := fun k q h => by simp at h
  have hD : va_D (fun q : Nat => s.heap.size ≤ q) [] := ⟨fun i j p q h => by simp at h, fun k q h => by simp at h⟩
  have hl := lv_entry ([.ref b]) (n := 4) (Nat.le_of_ble_eq_true rfl)
  rw [lg_entry_eq]
  generalize (lg_sl ([.ref b]) ++ List.replicate (4 - (lg_sl ([.ref b])).length) Slot.unset).toArray = ls at hl ⊢
  have hl : lv_has ls 4 [(0, .ref b)] := hl
  refine va_new (cl := vwCl) (ci := 8) (fs := [.null, .null, .null, .null, .null, .null, .null, .null, .null, .int 0, .int 0]) (C := RX8) (T := TX8) (N := 11) hx hb htb ku_X8 tyX8 tyX8_ok hown' (htb _ kl_L_7) (htb _ ka_X8) (htb _ kn_X8) hK hP hD hS hA rfl (fun j hj => by rcases (show j = 0 ∨ j = 1 ∨ j = 2 ∨ j = 3 ∨ j = 4 ∨ j = 5 ∨ j = 6 ∨ j = 7 ∨ j = 8 ∨ j = 9 ∨ j = 10 by omega) with rfl | rfl | rfl | rfl | rfl | rfl | rfl | rfl | rfl | rfl | rfl <;> rfl) (Nat.le_of_ble_eq_true rfl) (Nat.le_of_ble_eq_true rfl) dL_law_0 (fun h8 H hP hD hS => ?_)
  have hP : va_P D vwCl ([] ++ [(h8, .inr (8, [.null, .null, .null, .null, .null, .null, .null, .null, .null, .int 0, .int 0]))]) H := hP
  have hD : va_D (fun q : Nat => s.heap.size ≤ q) ([] ++ [(h8, .inr (8, [.null, .null, .null, .null, .null, .null, .null, .null, .null, .int 0, .int 0]))]) := hD
  refine lv_dup hx hb dL_law_3 rfl ?_
  refine zl_call (rest := [.ref h8]) (wr := []) hx hb hml CL hP hD hS (i_X8 l (D := D) (cA := cA)) km_L_9 ki_X8_init kn_X8 kc_X8_init rfl zdi_X8 ⟨Nat.le_of_ble_eq_true rfl, Nat.le_of_ble_eq_true rfl⟩ rfl hl.1 (Nat.le_of_ble_eq_true rfl) ⟨Nat.le_of_ble_eq_true rfl, Nat.le_of_ble_eq_true rfl⟩ rfl dL_law_4 (fun w8 H locs hI8 hP hD hS => ?_)
  have hP : va_P D vwCl w8 H := hP
  have hD : va_D (fun q : Nat => s.heap.size ≤ q) w8 := hD
  refine lv_astore_n (lv' := [(1, .ref h8), (0, .ref b)]) hx hb dL_law_7 rfl hl (by decide) rfl (fun ls hl => ?_)
  refine va_new (cl := vwCl) (ci := 9) (fs := [.int 0, .int 0, .int 0, .int 0, .int 0, .int 0, .int 0, .int 0, .int 0, .null, .null, .null, .null, .null, .null, .null, .null, .null, .null, .null, .null, .null, .null, .null, .null, .int 0, .int 0, .int 0, .int 0, .int 0, .null, .null, .null, .null, .int 0, .null, .null, .int 0, .int 0, .long 0, .null, .int 0, .null, .int 0, .int 0]) (C := RX9) (T := TX9) (N := 45) hx hb htb ku_X9 tyX9 tyX9_ok hown' (htb _ kl_L_10) (htb _ ka_X9) (htb _ kn_X9) hK hP hD hS hA rfl (fun j hj => by rcases (show j = 0 ∨ j = 1 ∨ j = 2 ∨ j = 3 ∨ j = 4 ∨ j = 5 ∨ j = 6 ∨ j = 7 ∨ j = 8 ∨ j = 9 ∨ j = 10 ∨ j = 11 ∨ j = 12 ∨ j = 13 ∨ j = 14 ∨ j = 15 ∨ j = 16 ∨ j = 17 ∨ j = 18 ∨ j = 19 ∨ j = 20 ∨ j = 21 ∨ j = 22 ∨ j = 23 ∨ j = 24 ∨ j = 25 ∨ j = 26 ∨ j = 27 ∨ j = 28 ∨ j = 29 ∨ j = 30 ∨ j = 31 ∨ j = 32 ∨ j = 33 ∨ j = 34 ∨ j = 35 ∨ j = 36 ∨ j = 37 ∨ j = 38 ∨ j = 39 ∨ j = 40 ∨ j = 41 ∨ j = 42 ∨ j = 43 ∨ j = 44 by omega) with rfl | rfl | rfl | rfl | rfl | rfl | rfl | rfl | rfl | rfl | rfl | rfl | rfl | rfl | rfl | rfl | rfl | rfl | rfl | rfl | rfl | rfl | rfl | rfl | rfl | rfl | rfl | rfl | rfl | rfl | rfl | rfl | rfl | rfl | rfl | rfl | rfl | rfl | rfl | rfl | rfl | rfl | rfl | rfl | rfl <;> rfl) (Nat.le_of_ble_eq_true rfl) (Nat.le_of_ble_eq_true rfl) dL_law_8 (fun h9 H hP hD hS => ?_)
  refine lv_dup hx hb dL_law_11 rfl ?_
  refine zl_call (rest := [.ref h9]) (wr := w8) hx hb hml CL hP hD hS (i_X9 l (D := D) (cA := cA)) km_L_12 ki_X9_init kn_X9 kc_X9_init rfl zdi_X9 ⟨Nat.le_of_ble_eq_true rfl, Nat.le_of_ble_eq_true rfl⟩ rfl hl.1 (Nat.le_of_ble_eq_true rfl) ⟨Nat.le_of_ble_eq_true rfl, Nat.le_of_ble_eq_true rfl⟩ rfl dL_law_12 (fun w9 H locs hI9 hP hD hS => ?_)
  refine lv_astore_n (lv' := [(2, .ref h9), (1, .ref h8), (0, .ref b)]) hx hb dL_law_15 rfl hl (by decide) rfl (fun ls hl => ?_)
  refine lv_iconst (v := 0) hx hb dL_law_16 (by decide) ?_
  refine lv_istore_n (lv' := [(3, .int 0), (2, .ref h9), (1, .ref h8), (0, .ref b)]) hx hb dL_law_17 rfl hl (by decide) rfl (fun ls hl => ?_)
  obtain ⟨a, e8, e9, hPa, hDA⟩ := start_W hI8 hI9 hP hD
  subst e8
  subst e9
  have CC : ZC s m #[Value.ref b] RL D a cA (fun q : Nat => s.heap.size ≤ q) sa := ⟨hown', htb, hK, hST, hDA⟩
  obtain ⟨q0, q1, q2, q3, q4, q5, q6, q7, q8, q9, q10, q11, q12, q13, q14, q15, q16, q17, q18, q19, q20, q21, q22, q23, q24, q25, q26, q27, q28, q29, q30, q31, q32, q33, q34, q35, q36, q37, q38, q39⟩ := hs0
  exact law_loop hL C0 Inv hall q0 q1 q2 q3 q4 q5 q6 q7 q8 q9 q10 q11 q12 q13 q14 q15 q16 q17 q18 q19 q20 q21 q22 q23 q24 q25 q26 q27 q28 q29 q30 q31 q32 q33 q34 q35 q36 q37 q38 q39 CC (L + 1) 0 0 (Nat.zero_le L) (by omega) rfl σ0 d0 h0 _ _ ls (lv_sub hl [3, 2, 1, 0] rfl) hPa hS
