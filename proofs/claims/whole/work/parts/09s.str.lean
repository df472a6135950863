/-! the Strings of the reader's words: the JDK's own members over them -/
theorem ST.str {A : Nat → Prop} {sa : Nat → Nat} {U : State} {H : Heap} (h : ST A sa U H) : vk_S 7 lenJ bytJ (fun i => sa (5 + i)) (fun i => sa (12 + i)) A U H := h.2.2.2.2.2.1
theorem ST.refs {A : Nat → Prop} {sa : Nat → Nat} {U : State} {H : Heap} (h : ST A sa U H) : ∀ i : Nat, i < 7 → vk_R RX3 (77 + 2 * i) (txJ.getD i "") (sa (5 + i)) U := h.2.2.2.2.2.2.1
theorem ST.cmp {A : Nat → Prop} {sa : Nat → Nat} {U : State} {H : Heap} (h : ST A sa U H) : va_Z "java/lang/String" "COMPACT_STRINGS" "Z" (.int 1) A U H := h.2.2.2.2.2.2.2.1
theorem ST.fmt {A : Nat → Prop} {sa : Nat → Nat} {U : State} {H : Heap} (h : ST A sa U H) : va_Zq "jdk/internal/util/Preconditions" "SIOOBE_FORMATTER" "Ljava/util/function/BiFunction;" A U H := h.2.2.2.2.2.2.2.2
theorem lenJ_lt : ∀ i, i < 7 → lenJ.getD i 0 < 2 ^ 31 := by decide
def strLen (i : Nat) : Int32 := nI (lenJ.getD i 0) >>> ((0 : Int32) &&& 31)
def strAt (i : Nat) (p : Int32) : Int32 := (((bytJ.getD i []).getD p.toNatClampNeg 0 &&& 255).toUInt32 % 65536).toInt32
section ZT
variable {p : Program} {l : Launch} {e : Env} {R : Room} {s : State} {m : MethodId} {args : Array Value} {below : List Frame} {meth : Method} {c : Code} {H : Heap} {locs : List Loc} {cells slots : Nat} {Q : State → Prop}
variable {cc : ByteArray} {pc : Nat} {ls : Array Slot} {rest : List Value} {D : va_G} {a : Nat → Nat} {cA : Nat → ClassId} {A : Nat → Prop} {sa : Nat → Nat} {σ σ' : PH} {d d' : PD} {own : String}
variable {y : MethodName} {bytes : ByteArray} {maxL nL f k n index : Nat} {ret : Option FieldType} {As st : List Value} {i : Nat}
theorem zz_callTi (hx : p.tables.exec = Jvm.exec) (hb : c.code = cc) (hml : c.maxLocals = nL) (C : ZC s m args own D a cA A sa) (hP : va_P D vwCl (wl a cA σ d) H) (hS : va_S A s.heap H locs) {rv : Int32} (hM : CTi l y bytes maxL ret f k D a cA A sa (.ref (sa (5 + i)) :: As) σ d rv σ' d') (Z : ZWV own index y bytes maxL ret n) (hR : f + 1 ≤ R.frames ∧ 8 + (maxL + 11) + k ≤ R.locals) (hi : i < 7) (hc : y.cls = "java/lang/String") (hn : As.length = n) (hls : ls.size = nL) (hw : (rest.map fun v => v.category).sum ≤ 8) (hcs : cells ≤ R.cells ∧ slots ≤ R.slots) (hst : st = As.reverse ++ .ref (sa (5 + i)) :: rest) (hdg : decode cc pc = .ok (.invokevirtual index, 3))
    (kk : ∀ (H1 : Heap) (locs1 : List Loc), va_P D vwCl (wl a cA σ' d') H1 → va_S A s.heap H1 locs1 → W p l e R s m args below meth c H1 locs1 cells slots Q (F0 m (pc + 3) ls (.int rv :: rest))) : W p l e R s m args below meth c H locs cells slots Q (F0 m pc ls st) := by
  refine va_calli (va_runV (As := As) (rest := rest) ⟨hx, hb, hml, C.1, C.2.1⟩ hM (zz_cwV C Z hR) ⟨PW_blind, by rw [hc]; exact vk_recv (adK := fun i => sa (5 + i)) C.2.2.2.1.str hi hS, zz_pre C hP hS _⟩ rfl hn hls hst (lv_room hw) hdg hcs) hS (fun _ _ h => h) (fun _ h => h) (fun r u t H1 locs1 ht hvm hw2 hB hz1 hk1 hS1 => ?_)
  subst hw2
  exact kk H1 locs1 (by rw [← ht]; exact hB.1) hS1
theorem zz_callSv (hx : p.tables.exec = Jvm.exec) (hb : c.code = cc) (hml : c.maxLocals = nL) (C : ZC s m args own D a cA A sa) (hP : va_P D vwCl (wl a cA σ d) H) (hS : va_S A s.heap H locs) (hM : CTv l y bytes maxL ret f k D a cA A sa As σ d σ' d') (Z : ZWS own index y bytes maxL ret n) (hR : f + 1 ≤ R.frames ∧ 8 + (maxL + 11) + k ≤ R.locals) (hn : As.length = n) (hls : ls.size = nL) (hw : (rest.map fun v => v.category).sum ≤ 8) (hcs : cells ≤ R.cells ∧ slots ≤ R.slots) (hst : st = As.reverse ++ rest) (hdg : decode cc pc = .ok (.invokestatic index, 3))
    (kk : ∀ (H1 : Heap) (locs1 : List Loc), va_P D vwCl (wl a cA σ' d') H1 → va_S A s.heap H1 locs1 → W p l e R s m args below meth c H1 locs1 cells slots Q (F0 m (pc + 3) ls rest)) : W p l e R s m args below meth c H locs cells slots Q (F0 m pc ls st) := by
  refine va_callv (va_runS (As := As) (rest := rest) ⟨hx, hb, hml, C.1, C.2.1⟩ hM (zz_cwS C Z hR) ⟨PW_blind, zz_pre C hP hS _⟩ rfl hn hls hst (lv_room hw) hdg hcs) hS (fun _ _ h => h) (fun _ h => h) (fun u t H1 locs1 ht hvm hw2 hB hz1 hk1 hS1 => ?_)
  exact kk H1 locs1 (by rw [← ht]; exact hB.1) hS1
abbrev CTr (l : Launch) (y : MethodName) (bytes : ByteArray) (maxL : Nat) (ret : Option FieldType) (f k : Nat) (D : va_G) (a : Nat → Nat) (cA : Nat → ClassId) (A : Nat → Prop) (sa : Nat → Nat) (av : List Value) (σ : PH) (d : PD) (rv : Nat) (σ' : PH) (d' : PD) : Prop :=
  Met l y (.code y bytes maxL ret :: TB) ({ frames := f, cells := 0, slots := 0, locals := k }) (va_Pc av (PW D a cA A sa σ d)) (va_Qr (fun _ : Unit => True) (fun _ b t => b = sa (5 + rv) ∧ PW D a cA A sa σ' d' t) A) 0 0 A
theorem zz_callSr (hx : p.tables.exec = Jvm.exec) (hb : c.code = cc) (hml : c.maxLocals = nL) (C : ZC s m args own D a cA A sa) (hP : va_P D vwCl (wl a cA σ d) H) (hS : va_S A s.heap H locs) {rv : Nat} (hM : CTr l y bytes maxL ret f k D a cA A sa As σ d rv σ' d') (Z : ZWS own index y bytes maxL ret n) (hR : f + 1 ≤ R.frames ∧ 8 + (maxL + 11) + k ≤ R.locals) (hn : As.length = n) (hls : ls.size = nL) (hw : (rest.map fun v => v.category).sum ≤ 8) (hcs : cells ≤ R.cells ∧ slots ≤ R.slots) (hst : st = As.reverse ++ rest) (hdg : decode cc pc = .ok (.invokestatic index, 3))
    (kk : ∀ (H1 : Heap) (locs1 : List Loc), va_P D vwCl (wl a cA σ' d') H1 → va_S A s.heap H1 locs1 → W p l e R s m args below meth c H1 locs1 cells slots Q (F0 m (pc + 3) ls (.ref (sa (5 + rv)) :: rest))) : W p l e R s m args below meth c H locs cells slots Q (F0 m pc ls st) := by
  refine va_callr (va_runS (As := As) (rest := rest) ⟨hx, hb, hml, C.1, C.2.1⟩ hM (zz_cwS C Z hR) ⟨PW_blind, zz_pre C hP hS _⟩ rfl hn hls hst (lv_room hw) hdg hcs) hS (fun _ _ h => h) (fun _ h => h) (fun u ra t H1 locs1 ht hvm hw2 hB hz1 hk1 hS1 => ?_)
  obtain ⟨rfl, hB⟩ := hB
  exact kk H1 locs1 (by rw [← ht]; exact hB.1) hS1
end ZT
theorem zz_metR {l : Launch} {y : MethodName} {bytes : ByteArray} {maxL f k : Nat} {cn : String} {D : va_G} {a : Nat → Nat} {cA : Nat → ClassId} {A : Nat → Prop} {sa : Nat → Nat} {av : List Value} {σ σ' : PH} {d d' : PD} {rv : Nat} (hy : plainName y.cls = true) (hDA : DA a A) (hlv : (lg_sl av).length ≤ maxL)
    (body : ∀ {p : Program} {e : Env} {R : Room} {s : State} {m : MethodId} {args : Array Value} {below : List Frame} {meth : Method} {c : Code} {Q : State → Prop} {ls : Array Slot}, p.tables.exec = Jvm.exec → c.code = bytes → c.maxLocals = maxL → ZC s m args y.cls D a cA A sa → f ≤ R.frames → k ≤ R.locals →
      (∀ (H : Heap) (locs : List Loc) (ls : Array Slot) (pc : Nat), decode bytes pc = .ok (.areturn, 1) → va_P D vwCl (wl a cA σ' d') H → va_S A s.heap H locs → W p l e R s m args below meth c H locs 0 0 Q (F0 m pc ls [.ref (sa (5 + rv))])) →
      va_P D vwCl (wl a cA σ d) s.heap → va_S A s.heap s.heap [] → lv_has ls maxL (lv_args 0 av) → W p l e R s m args below meth c s.heap [] 0 0 Q (F0 m 0 ls [])) :
    CTr l y bytes maxL (some (.object cn)) f k D a cA A sa av σ d rv σ' d' := by
  refine Met.ofW (cc := bytes) (maxL := maxL) (ret := some (.object cn)) hy rfl ?_
  intro p e s m args below meth c s₁ B hml hv
  obtain ⟨rfl, hP, hK, hST⟩ := hv
  have hts : ∀ w ∈ TB, w.before av.toArray s = true := fun w hw => atoms_spec B.pre w (List.mem_cons_of_mem _ hw)
  have C : ZC s m av.toArray y.cls D a cA A sa := ⟨findClass_of_methodNamed B.named, hts, hK, hST, hDA⟩
  have hl := lv_entry av (n := maxL) hlv
  rw [lg_entry_eq]
  generalize (lg_sl av ++ List.replicate (maxL - (lg_sl av).length) Slot.unset).toArray = ls at hl ⊢
  refine body B.exec B.bytes hml C (Nat.le_refl _) (Nat.le_refl _) (fun H locs ls pc hd hP hS => ?_) hP va_S.rf hl
  have hlocks := B.notSynchronized
  exact W.aret B.exec B.bytes B.returns (Or.inl ⟨cn, rfl⟩) (Or.inr ⟨_, rfl⟩) (fun t ht hW => ⟨⟨(), _, rfl, trivial, rfl, zz_post C hP hS ht hW⟩, hS.F ht⟩) hS.2.2 hd
theorem c_coder (l : Launch) {D : va_G} {a : Nat → Nat} {cA : Nat → ClassId} {A : Nat → Prop} {sa : Nat → Nat} (hDA : DA a A) {σ : PH} {d : PD} {i : Nat} (hi : i < 7) : CTi l yJ0_coder_7d493 cJ0_coder_7d493 1 (some .byte) 0 0 D a cA A sa [.ref (sa (5 + i))] σ d 0 σ d := by
  refine zz_metZ zpl_J0 hDA (Nat.le_of_ble_eq_true rfl) ?_
  intro p e R s m args below meth c Q ls hx hb hml C hRf hRl hQ hP hS hl
  have hl : lv_has ls 1 [(0, .ref (sa (5 + i)))] := hl
  refine va_gets hx hb C.2.2.2.1.cmp hS C.1 (C.2.1 _ kf_J0_38) (fun _ h9 => h9) dJ0_coder_7d493_0 ?_
  refine lv_if_eq (tgt := 13) hx hb dJ0_coder_7d493_3 (by decide) (fun h => absurd h (by decide)) (fun _ => ?_)
  refine lv_aload_n hx hb dJ0_coder_7d493_6 rfl (lv_at hl 0 rfl) ?_
  refine vk_getf hx hb (C.2.2.2.1.str.1 i hi).2.1 hS C.1 (C.2.1 _ kf_J0_15) (fun _ h9 => h9) dJ0_coder_7d493_7 ?_
  refine lv_goto (tgt := 14) hx hb dJ0_coder_7d493_10 (by decide) ?_
  exact hQ _ _ _ _ dJ0_coder_7d493_14 (show narrow .byte (.int 0) = .int 0 from rfl) hP hS
theorem c_latin (l : Launch) {D : va_G} {a : Nat → Nat} {cA : Nat → ClassId} {A : Nat → Prop} {sa : Nat → Nat} (hDA : DA a A) {σ : PH} {d : PD} {i : Nat} (hi : i < 7) : CTi l yJ0_isLatin1_aae02 cJ0_isLatin1_aae02 1 (some .boolean) 0 0 D a cA A sa [.ref (sa (5 + i))] σ d 1 σ d := by
  refine zz_metZ zpl_J0 hDA (Nat.le_of_ble_eq_true rfl) ?_
  intro p e R s m args below meth c Q ls hx hb hml C hRf hRl hQ hP hS hl
  have hl : lv_has ls 1 [(0, .ref (sa (5 + i)))] := hl
  refine va_gets hx hb C.2.2.2.1.cmp hS C.1 (C.2.1 _ kf_J0_38) (fun _ h9 => h9) dJ0_isLatin1_aae02_0 ?_
  refine lv_if_eq (tgt := 17) hx hb dJ0_isLatin1_aae02_3 (by decide) (fun h => absurd h (by decide)) (fun _ => ?_)
  refine lv_aload_n hx hb dJ0_isLatin1_aae02_6 rfl (lv_at hl 0 rfl) ?_
  refine vk_getf hx hb (C.2.2.2.1.str.1 i hi).2.1 hS C.1 (C.2.1 _ kf_J0_15) (fun _ h9 => h9) dJ0_isLatin1_aae02_7 ?_
  refine lv_if_ne (tgt := 17) hx hb dJ0_isLatin1_aae02_10 (by decide) (fun h => absurd rfl h) (fun _ => ?_)
  refine lv_iconst (v := 1) hx hb dJ0_isLatin1_aae02_13 (by decide) ?_
  refine lv_goto (tgt := 18) hx hb dJ0_isLatin1_aae02_14 (by decide) ?_
  exact hQ _ _ _ _ dJ0_isLatin1_aae02_18 (show narrow .boolean (.int 1) = .int 1 from rfl) hP hS
theorem c_length (l : Launch) {D : va_G} {a : Nat → Nat} {cA : Nat → ClassId} {A : Nat → Prop} {sa : Nat → Nat} (hDA : DA a A) {σ : PH} {d : PD} {i : Nat} (hi : i < 7) : CTi l yJ0_length_8abf5 cJ0_length_8abf5 1 (some .int) 1 20 D a cA A sa [.ref (sa (5 + i))] σ d (strLen i) σ d := by
  refine zz_metI zpl_J0 hDA (Nat.le_of_ble_eq_true rfl) ?_
  intro p e R s m args below meth c Q ls hx hb hml C hRf hRl hQ hP hS hl
  have hl : lv_has ls 1 [(0, .ref (sa (5 + i)))] := hl
  refine lv_aload_n hx hb dJ0_length_8abf5_0 rfl (lv_at hl 0 rfl) ?_
  refine vk_getf hx hb (C.2.2.2.1.str.1 i hi).2.2.1 hS C.1 (C.2.1 _ kf_J0_9) (fun _ h9 => h9) dJ0_length_8abf5_1 ?_
  refine va_tlen hx hb (C.2.2.2.1.str.1 i hi).2.2.2 hS rfl dJ0_length_8abf5_4 ?_
  refine lv_aload_n hx hb dJ0_length_8abf5_5 rfl (lv_at hl 0 rfl) ?_
  refine zz_callTi (i := i) (rest := [.int (Int32.ofNat (lenJ.getD i 0))]) hx hb hml C hP hS (c_coder l hDA hi) zw_J0_335 ⟨hRf, hRl⟩ hi rfl rfl hl.1 (Nat.le_of_ble_eq_true rfl) ⟨Nat.zero_le _, Nat.zero_le _⟩ rfl dJ0_length_8abf5_6 (fun H locs hP hS => ?_)
  refine lv_ishr hx hb dJ0_length_8abf5_9 ?_
  exact hQ _ _ _ _ dJ0_length_8abf5_10 hP hS
theorem c_pre (l : Launch) {D : va_G} {a : Nat → Nat} {cA : Nat → ClassId} {A : Nat → Prop} {sa : Nat → Nat} (hDA : DA a A) {σ : PH} {d : PD} {p1 p2 : Int32} (h0 : ¬ p1 < 0) (h1 : p1 < p2) (x3 : Option Nat) : CTi l yJ3_checkIndex_8e157 cJ3_checkIndex_8e157 3 (some .int) 0 0 D a cA A sa [.int p1, .int p2, va_rf x3] σ d p1 σ d := by
  cases x3 with
  | none =>
    refine zz_metI (av := [.int p1, .int p2, .null]) zpl_J3 hDA (Nat.le_of_ble_eq_true rfl) ?_
    intro p e R s m args below meth c Q ls hx hb hml C hRf hRl hQ hP hS hl
    have hl : lv_has ls 3 [(0, .int p1), (1, .int p2), (2, .null)] := hl
    refine lv_iload_n hx hb dJ3_checkIndex_8e157_0 rfl (lv_at hl 0 rfl) ?_
    refine lv_if_lt (tgt := 9) hx hb dJ3_checkIndex_8e157_1 (by decide) (fun h => absurd h h0) (fun _ => ?_)
    refine lv_iload_n hx hb dJ3_checkIndex_8e157_4 rfl (lv_at hl 0 rfl) ?_
    refine lv_iload_n hx hb dJ3_checkIndex_8e157_5 rfl (lv_at hl 1 rfl) ?_
    refine lv_icmp_lt (tgt := 16) hx hb dJ3_checkIndex_8e157_6 (by decide) (fun _ => ?_) (fun h => absurd h1 h)
    refine lv_iload_n hx hb dJ3_checkIndex_8e157_16 rfl (lv_at hl 0 rfl) ?_
    exact hQ _ _ _ _ dJ3_checkIndex_8e157_17 hP hS
  | some t =>
    refine zz_metI (av := [.int p1, .int p2, .ref t]) zpl_J3 hDA (Nat.le_of_ble_eq_true rfl) ?_
    intro p e R s m args below meth c Q ls hx hb hml C hRf hRl hQ hP hS hl
    have hl : lv_has ls 3 [(0, .int p1), (1, .int p2), (2, .ref t)] := hl
    refine lv_iload_n hx hb dJ3_checkIndex_8e157_0 rfl (lv_at hl 0 rfl) ?_
    refine lv_if_lt (tgt := 9) hx hb dJ3_checkIndex_8e157_1 (by decide) (fun h => absurd h h0) (fun _ => ?_)
    refine lv_iload_n hx hb dJ3_checkIndex_8e157_4 rfl (lv_at hl 0 rfl) ?_
    refine lv_iload_n hx hb dJ3_checkIndex_8e157_5 rfl (lv_at hl 1 rfl) ?_
    refine lv_icmp_lt (tgt := 16) hx hb dJ3_checkIndex_8e157_6 (by decide) (fun _ => ?_) (fun h => absurd h1 h)
    refine lv_iload_n hx hb dJ3_checkIndex_8e157_16 rfl (lv_at hl 0 rfl) ?_
    exact hQ _ _ _ _ dJ3_checkIndex_8e157_17 hP hS
theorem c_check (l : Launch) {D : va_G} {a : Nat → Nat} {cA : Nat → ClassId} {A : Nat → Prop} {sa : Nat → Nat} (hDA : DA a A) {σ : PH} {d : PD} {p1 p2 : Int32} (h0 : ¬ p1 < 0) (h1 : p1 < p2) : CTv l yJ0_checkIndex_df160 cJ0_checkIndex_df160 2 none 1 22 D a cA A sa [.int p1, .int p2] σ d σ d := by
  refine zz_metV zpl_J0 hDA (Nat.le_of_ble_eq_true rfl) ?_
  intro p e R s m args below meth c Q ls hx hb hml C hRf hRl hQ hP hS hl
  have hl : lv_has ls 2 [(0, .int p1), (1, .int p2)] := hl
  refine lv_iload_n hx hb dJ0_checkIndex_df160_0 rfl (lv_at hl 0 rfl) ?_
  refine lv_iload_n hx hb dJ0_checkIndex_df160_1 rfl (lv_at hl 1 rfl) ?_
  obtain ⟨x3, hz⟩ : ∃ x3 : Option Nat, va_Z "jdk/internal/util/Preconditions" "SIOOBE_FORMATTER" "Ljava/util/function/BiFunction;" (va_rf x3) A s s.heap := by
    rcases C.2.2.2.1.fmt with hz | ⟨t, hz⟩
    · exact ⟨none, hz⟩
    · exact ⟨some t, hz⟩
  refine va_gets hx hb hz hS C.1 (C.2.1 _ kf_J0_1053) (fun _ h9 => h9) dJ0_checkIndex_df160_2 ?_
  refine zz_callSi (rest := []) hx hb hml C hP hS (c_pre l hDA h0 h1 x3) zw_J0_1059 ⟨hRf, hRl⟩ rfl hl.1 (Nat.le_of_ble_eq_true rfl) ⟨Nat.zero_le _, Nat.zero_le _⟩ rfl dJ0_checkIndex_df160_5 (fun H locs hP hS => ?_)
  refine lv_pop hx hb dJ0_checkIndex_df160_8 rfl ?_
  exact hQ _ _ _ _ dJ0_checkIndex_df160_9 hP hS
theorem in_range {p : Int32} {n : Nat} (hn : n < 2 ^ 31) (h : vp_in p n) : ¬ p < 0 ∧ p < Int32.ofNat n := by
  obtain ⟨j, hj, rfl⟩ := vp_in_of h hn
  exact ⟨nI_pos (by omega), nI_lt hj hn⟩
theorem c_lat1 (l : Launch) {D : va_G} {a : Nat → Nat} {cA : Nat → ClassId} {A : Nat → Prop} {sa : Nat → Nat} (hDA : DA a A) {σ : PH} {d : PD} {i : Nat} (hi : i < 7) {p1 : Int32} (hin : vp_in p1 (lenJ.getD i 0)) : CTi l yJ1_charAt_3b067 cJ1_charAt_3b067 2 (some .char) 2 43 D a cA A sa [.ref (sa (12 + i)), .int p1] σ d (strAt i p1) σ d := by
  refine zz_metZ zpl_J1 hDA (Nat.le_of_ble_eq_true rfl) ?_
  intro p e R s m args below meth c Q ls hx hb hml C hRf hRl hQ hP hS hl
  have hl : lv_has ls 2 [(0, .ref (sa (12 + i))), (1, .int p1)] := hl
  refine lv_iload_n hx hb dJ1_charAt_3b067_0 rfl (lv_at hl 1 rfl) ?_
  refine lv_aload_n hx hb dJ1_charAt_3b067_1 rfl (lv_at hl 0 rfl) ?_
  refine va_tlen hx hb (C.2.2.2.1.str.1 i hi).2.2.2 hS rfl dJ1_charAt_3b067_2 ?_
  obtain ⟨h0, h1⟩ := in_range (lenJ_lt i hi) hin
  refine zz_callSv (rest := []) hx hb hml C hP hS (c_check l hDA h0 h1) zw_J1_9 ⟨hRf, hRl⟩ rfl hl.1 (Nat.le_of_ble_eq_true rfl) ⟨Nat.zero_le _, Nat.zero_le _⟩ rfl dJ1_charAt_3b067_3 (fun H locs hP hS => ?_)
  refine lv_aload_n hx hb dJ1_charAt_3b067_6 rfl (lv_at hl 0 rfl) ?_
  refine lv_iload_n hx hb dJ1_charAt_3b067_7 rfl (lv_at hl 1 rfl) ?_
  refine va_tb hx hb (C.2.2.2.1.str.1 i hi).2.2.2 hS hin rfl dJ1_charAt_3b067_8 ?_
  refine lv_sipush (v := 255) hx hb dJ1_charAt_3b067_9 (by decide) ?_
  refine lv_iand hx hb dJ1_charAt_3b067_12 ?_
  refine lv_i2c (v := strAt i p1) hx hb dJ1_charAt_3b067_13 rfl ?_
  exact hQ _ _ _ _ dJ1_charAt_3b067_14 (pk_nc _) hP hS
theorem c_charAt (l : Launch) {D : va_G} {a : Nat → Nat} {cA : Nat → ClassId} {A : Nat → Prop} {sa : Nat → Nat} (hDA : DA a A) {σ : PH} {d : PD} {i : Nat} (hi : i < 7) {p1 : Int32} (hin : vp_in p1 (lenJ.getD i 0)) : CTi l yJ0_charAt_5068e cJ0_charAt_5068e 2 (some .char) 3 64 D a cA A sa [.ref (sa (5 + i)), .int p1] σ d (strAt i p1) σ d := by
  refine zz_metZ zpl_J0 hDA (Nat.le_of_ble_eq_true rfl) ?_
  intro p e R s m args below meth c Q ls hx hb hml C hRf hRl hQ hP hS hl
  have hl : lv_has ls 2 [(0, .ref (sa (5 + i))), (1, .int p1)] := hl
  refine lv_aload_n hx hb dJ0_charAt_5068e_0 rfl (lv_at hl 0 rfl) ?_
  refine zz_callTi (i := i) (rest := []) hx hb hml C hP hS (c_latin l hDA hi) zw_J0_492 ⟨Nat.le_trans (Nat.le_of_ble_eq_true rfl) hRf, Nat.le_trans (Nat.le_of_ble_eq_true rfl) hRl⟩ hi rfl rfl hl.1 (Nat.le_of_ble_eq_true rfl) ⟨Nat.zero_le _, Nat.zero_le _⟩ rfl dJ0_charAt_5068e_1 (fun H locs hP hS => ?_)
  refine lv_if_eq (tgt := 16) hx hb dJ0_charAt_5068e_4 (by decide) (fun h => absurd h (by decide)) (fun _ => ?_)
  refine lv_aload_n hx hb dJ0_charAt_5068e_7 rfl (lv_at hl 0 rfl) ?_
  refine vk_getf hx hb (C.2.2.2.1.str.1 i hi).2.2.1 hS C.1 (C.2.1 _ kf_J0_9) (fun _ h9 => h9) dJ0_charAt_5068e_8 ?_
  refine lv_iload_n hx hb dJ0_charAt_5068e_11 rfl (lv_at hl 1 rfl) ?_
  refine zz_callSi (rest := []) hx hb hml C hP hS (c_lat1 l hDA hi hin) zw_J0_495 ⟨hRf, hRl⟩ rfl hl.1 (Nat.le_of_ble_eq_true rfl) ⟨Nat.zero_le _, Nat.zero_le _⟩ rfl dJ0_charAt_5068e_12 (fun H locs hP hS => ?_)
  exact hQ _ _ _ _ dJ0_charAt_5068e_15 (pk_nc _) hP hS
