set_option maxHeartbeats 4000000 in
set_option maxRecDepth 100000 in
theorem c_X9_tables (l : Launch) {D : va_G} {a : Nat → Nat} {cA : Nat → ClassId} {A : Nat → Prop} {sa : Nat → Nat} (hDA : DA a A) {σ : PH} {d : PD} (p1 : Int32) {u : PH} (hf : f_X9_tables σ p1 = some u) : CTv l yX9_tables cX9_tables 4 none 4 93 D a cA A sa [.ref (a 81), .int p1] σ d u d := by
  refine zz_metV zpl_X9 hDA (Nat.le_of_ble_eq_true rfl) ?_
  intro p e R s m args below meth c Q ls hx hb hml C hRf hRl hQ hP hS hl
  have hl : lv_has ls 4 [(0, .ref (a 81)), (1, .int p1)] := hl
  unfold f_X9_tables at hf
  refine lv_iconst (v := 1) hx hb dX9_tables_0 (by decide) ?_
  refine lv_istore_n (lv' := [(2, .int 1), (0, .ref (a 81)), (1, .int p1)]) hx hb dX9_tables_1 rfl hl (by decide) rfl (fun ls hl => ?_)
  refine loopN_ind (P := fun (q1 : Int32 × PH) => ∀ (H : Heap) (locs : List Loc) (ls : Array Slot), lv_has ls 4 [(0, .ref (a 81)), (1, .int p1), (2, .int q1.1)] → va_P D vwCl (wl a cA q1.2 d) H → va_S A s.heap H locs → W p l e R s m args below meth c H locs 0 0 Q (F0 m 2 ls [])) ?_ _ _ hf _ _ _ (lv_sub hl [1, 2, 0] rfl) hP hS
  intro k2 ihk2 q1 hf H locs ls hl hP hS
  unfold b_X9_tables_2 at hf
  refine lv_iload_n hx hb dX9_tables_2 rfl (lv_at hl 2 rfl) ?_
  refine lv_aload_n hx hb dX9_tables_3 rfl (lv_at hl 0 rfl) ?_
  obtain ⟨u3, hzu3⟩ : ∃ z, z = f_X9_everybody q1.2 := ⟨_, rfl⟩
  have hf := bnd_at u3 hzu3 hf
  refine zz_callVi (rest := [.int q1.1]) hx hb hml C hP hS (c_X9_everybody l hDA  hzu3.symm) zw_X9_99 ⟨Nat.le_trans (Nat.le_of_ble_eq_true rfl) hRf, Nat.le_trans (Nat.le_of_ble_eq_true rfl) hRl⟩ (by decide) lay_81 rfl rfl hl.1 (Nat.le_of_ble_eq_true rfl) ⟨Nat.zero_le _, Nat.zero_le _⟩ rfl dX9_tables_4 (fun H locs hP hS => ?_)
  refine lv_icmp_gt (tgt := 63) hx hb dX9_tables_7 (by decide) (fun hb3 => ?_) (fun hb3 => ?_)
  · have hf := ifT hb3 hf
    have hf := Option.some.inj hf
    subst hf
    exact hQ _ _ _ _ dX9_tables_63 hP hS
  · have hf := ifF hb3 hf
    refine lv_iconst (v := 0) hx hb dX9_tables_10 (by decide) ?_
    refine lv_istore_n (lv' := [(3, .int 0), (0, .ref (a 81)), (1, .int p1), (2, .int q1.1)]) hx hb dX9_tables_11 rfl hl (by decide) rfl (fun ls hl => ?_)
    refine loopN_ind (P := fun (q5 : Int32 × PH) => ∀ (H : Heap) (locs : List Loc) (ls : Array Slot), lv_has ls 4 [(0, .ref (a 81)), (1, .int p1), (2, .int q1.1), (3, .int q5.1)] → va_P D vwCl (wl a cA q5.2 d) H → va_S A s.heap H locs → W p l e R s m args below meth c H locs 0 0 Q (F0 m 12 ls [])) ?_ _ _ hf _ _ _ (lv_sub hl [1, 2, 3, 0] rfl) hP hS
    intro k6 ihk6 q5 hf H locs ls hl hP hS
    unfold b_X9_tables_12 at hf
    refine lv_iload_n hx hb dX9_tables_12 rfl (lv_at hl 3 rfl) ?_
    refine lv_iload_n hx hb dX9_tables_13 rfl (lv_at hl 1 rfl) ?_
    refine lv_icmp_ge (tgt := 57) hx hb dX9_tables_14 (by decide) (fun hb6 => ?_) (fun hb6 => ?_)
    · have hf := ifT hb6 hf
      obtain ⟨v8, ev8⟩ : ∃ z : Int32, z = q1.1 + 1 := ⟨_, rfl⟩
      have hf := bnd_at v8 ev8 hf
      refine lv_iinc (v := v8) (lv' := [(2, .int v8), (0, .ref (a 81)), (1, .int p1), (3, .int q5.1)]) hx hb dX9_tables_57 hl (k := 2) rfl (by rw [ev8]; rfl) (by decide) rfl (fun ls hl => ?_)
      refine lv_goto (tgt := 2) hx hb dX9_tables_60 (by decide) ?_
      exact ihk2 _ hf _ _ _ (lv_sub hl [1, 2, 0] rfl) hP hS
    · have hf := ifF hb6 hf
      refine lv_aload_n hx hb dX9_tables_17 rfl (lv_at hl 0 rfl) ?_
      refine zg_X9_84 hx hb C hP (by decide) lay_81 rfl dX9_tables_18 ?_
      refine lv_bipush (v := 92) hx hb dX9_tables_21 (by decide) ?_
      refine lv_iload_n hx hb dX9_tables_23 rfl (lv_at hl 2 rfl) ?_
      refine lv_imul hx hb dX9_tables_24 ?_
      refine lv_iload_n hx hb dX9_tables_25 rfl (lv_at hl 3 rfl) ?_
      refine lv_iadd hx hb dX9_tables_26 ?_
      refine lv_aload_n hx hb dX9_tables_27 rfl (lv_at hl 0 rfl) ?_
      refine lv_iload_n hx hb dX9_tables_28 rfl (lv_at hl 2 rfl) ?_
      obtain ⟨u9, hzu9, hf⟩ := obd_some hf
      refine zz_callVi (rest := [.int ((92 * q1.1) + q5.1), .ref (a 102)]) hx hb hml C hP hS (c_X9_isLawful l hDA q1.1 hzu9) zw_X9_248 ⟨Nat.le_trans (Nat.le_of_ble_eq_true rfl) hRf, Nat.le_trans (Nat.le_of_ble_eq_true rfl) hRl⟩ (by decide) lay_81 rfl rfl hl.1 (Nat.le_of_ble_eq_true rfl) ⟨Nat.zero_le _, Nat.zero_le _⟩ rfl dX9_tables_29 (fun H locs hP hS => ?_)
      refine lv_if_eq (tgt := 49) hx hb dX9_tables_32 (by decide) (fun hb9 => ?_) (fun hb9 => ?_)
      · have hf := ifT hb9 hf
        refine lv_iconst (v := (-1)) hx hb dX9_tables_49 (by decide) ?_
        obtain ⟨hc10, hf⟩ := chk_some hf
        refine zz_iast hx hb C hP hS (by decide) lay_102 (inb_vp hc10) dX9_tables_50 (fun σ12 eσ12 H locs hP hS => ?_)
        have hf := bnd_at σ12 eσ12 hf
        obtain ⟨v13, ev13⟩ : ∃ z : Int32, z = q5.1 + 1 := ⟨_, rfl⟩
        have hf := bnd_at v13 ev13 hf
        refine lv_iinc (v := v13) (lv' := [(3, .int v13), (0, .ref (a 81)), (1, .int p1), (2, .int q1.1)]) hx hb dX9_tables_51 hl (k := 3) rfl (by rw [ev13]; rfl) (by decide) rfl (fun ls hl => ?_)
        refine lv_goto (tgt := 12) hx hb dX9_tables_54 (by decide) ?_
        exact ihk6 _ hf _ _ _ (lv_sub hl [1, 2, 3, 0] rfl) hP hS
      · have hf := ifF hb9 hf
        refine lv_aload_n hx hb dX9_tables_35 rfl (lv_at hl 0 rfl) ?_
        refine lv_iload_n hx hb dX9_tables_36 rfl (lv_at hl 2 rfl) ?_
        refine lv_aload_n hx hb dX9_tables_37 rfl (lv_at hl 0 rfl) ?_
        refine zg_X9_81 hx hb C hP (by decide) lay_81 rfl dX9_tables_38 ?_
        refine lv_iload_n hx hb dX9_tables_41 rfl (lv_at hl 3 rfl) ?_
        obtain ⟨hc13, hf⟩ := chk_some hf
        refine zz_iald hx hb C hP (by decide) lay_101 (inb_vp hc13) dX9_tables_42 ?_
        obtain ⟨u15, hzu15, hf⟩ := obd_some hf
        refine zz_callVi (rest := [.int ((92 * q1.1) + q5.1), .ref (a 102)]) hx hb hml C hP hS (c_X9_soundOf l hDA q1.1 (gI q5.2 101 q5.1.toNatClampNeg) hzu15) zw_X9_230 ⟨Nat.le_trans (Nat.le_of_ble_eq_true rfl) hRf, Nat.le_trans (Nat.le_of_ble_eq_true rfl) hRl⟩ (by decide) lay_81 rfl rfl hl.1 (Nat.le_of_ble_eq_true rfl) ⟨Nat.zero_le _, Nat.zero_le _⟩ rfl dX9_tables_43 (fun H locs hP hS => ?_)
        refine lv_goto (tgt := 50) hx hb dX9_tables_46 (by decide) ?_
        obtain ⟨hc15, hf⟩ := chk_some hf
        refine zz_iast hx hb C hP hS (by decide) lay_102 (inb_vp hc15) dX9_tables_50 (fun σ17 eσ17 H locs hP hS => ?_)
        have hf := bnd_at σ17 eσ17 hf
        obtain ⟨v18, ev18⟩ : ∃ z : Int32, z = q5.1 + 1 := ⟨_, rfl⟩
        have hf := bnd_at v18 ev18 hf
        refine lv_iinc (v := v18) (lv' := [(3, .int v18), (0, .ref (a 81)), (1, .int p1), (2, .int q1.1)]) hx hb dX9_tables_51 hl (k := 3) rfl (by rw [ev18]; rfl) (by decide) rfl (fun ls hl => ?_)
        refine lv_goto (tgt := 12) hx hb dX9_tables_54 (by decide) ?_
        exact ihk6 _ hf _ _ _ (lv_sub hl [1, 2, 3, 0] rfl) hP hS
set_option maxHeartbeats 4000000 in
set_option maxRecDepth 100000 in
theorem c_X9_nextOf (l : Launch) {D : va_G} {a : Nat → Nat} {cA : Nat → ClassId} {A : Nat → Prop} {sa : Nat → Nat} (hDA : DA a A) {σ : PH} {d : PD} (p1 : Int32) (p2 : Int32) {u : Int32} (hf : f_X9_nextOf σ p1 p2 = some u) : CTi l yX9_nextOf cX9_nextOf 8 (some .int) 1 20 D a cA A sa [.ref (a 81), .int p1, .int p2] σ d u σ d := by
  refine zz_metI zpl_X9 hDA (Nat.le_of_ble_eq_true rfl) ?_
  intro p e R s m args below meth c Q ls hx hb hml C hRf hRl hQ hP hS hl
  have hl : lv_has ls 8 [(0, .ref (a 81)), (1, .int p1), (2, .int p2)] := hl
  unfold f_X9_nextOf at hf
  refine lv_iconst (v := (-1)) hx hb dX9_nextOf_0 (by decide) ?_
  refine lv_istore_n (lv' := [(3, .int (-1)), (0, .ref (a 81)), (1, .int p1), (2, .int p2)]) hx hb dX9_nextOf_1 rfl hl (by decide) rfl (fun ls hl => ?_)
  refine lv_iload_n hx hb dX9_nextOf_2 rfl (lv_at hl 3 rfl) ?_
  refine lv_istore (lv' := [(4, .int p2), (3, .int (-1)), (0, .ref (a 81)), (1, .int p1), (2, .int p2)]) hx hb dX9_nextOf_3 hl (by decide) rfl (fun ls hl => ?_)
  refine lv_iconst (v := 1) hx hb dX9_nextOf_5 (by decide) ?_
  refine lv_istore (lv' := [(5, .int 1), (4, .int p2), (3, .int (-1)), (0, .ref (a 81)), (1, .int p1), (2, .int p2)]) hx hb dX9_nextOf_6 hl (by decide) rfl (fun ls hl => ?_)
  refine loopN_ind (P := fun (q1 : Int32 × Int32 × Int32) => ∀ (H : Heap) (locs : List Loc) (ls : Array Slot), lv_has ls 8 [(0, .ref (a 81)), (1, .int p1), (2, .int p2), (3, .int q1.1), (4, .int q1.2.1), (5, .int q1.2.2)] → va_P D vwCl (wl a cA σ d) H → va_S A s.heap H locs → W p l e R s m args below meth c H locs 0 0 Q (F0 m 8 ls [])) ?_ _ _ hf _ _ _ (lv_sub hl [3, 4, 5, 2, 1, 0] rfl) hP hS
  intro k2 ihk2 q1 hf H locs ls hl hP hS
  unfold b_X9_nextOf_8 at hf
  refine lv_iload hx hb dX9_nextOf_8 (lv_at hl 5 rfl) ?_
  refine lv_aload_n hx hb dX9_nextOf_10 rfl (lv_at hl 0 rfl) ?_
  obtain ⟨u3, hzu3⟩ : ∃ z, z = f_X9_everybody σ := ⟨_, rfl⟩
  have hf := bnd_at u3 hzu3 hf
  refine zz_callVi (rest := [.int q1.2.2]) hx hb hml C hP hS (c_X9_everybody l hDA  hzu3.symm) zw_X9_99 ⟨Nat.le_trans (Nat.le_of_ble_eq_true rfl) hRf, Nat.le_trans (Nat.le_of_ble_eq_true rfl) hRl⟩ (by decide) lay_81 rfl rfl hl.1 (Nat.le_of_ble_eq_true rfl) ⟨Nat.zero_le _, Nat.zero_le _⟩ rfl dX9_nextOf_11 (fun H locs hP hS => ?_)
  refine lv_icmp_gt (tgt := 124) hx hb dX9_nextOf_14 (by decide) (fun hb3 => ?_) (fun hb3 => ?_)
  · have hf := ifT hb3 hf
    refine lv_iload_n hx hb dX9_nextOf_124 rfl (lv_at hl 3 rfl) ?_
    have hf := Option.some.inj hf
    subst hf
    exact hQ _ _ _ _ dX9_nextOf_125 hP hS
  · have hf := ifF hb3 hf
    refine lv_iload_n hx hb dX9_nextOf_17 rfl (lv_at hl 2 rfl) ?_
    refine lv_if_eq (tgt := 118) hx hb dX9_nextOf_18 (by decide) (fun hb4 => ?_) (fun hb4 => ?_)
    · have hf := ifT hb4 hf
      obtain ⟨v6, ev6⟩ : ∃ z : Int32, z = q1.2.2 + 1 := ⟨_, rfl⟩
      have hf := bnd_at v6 ev6 hf
      refine lv_iinc (v := v6) (lv' := [(5, .int v6), (0, .ref (a 81)), (1, .int p1), (2, .int p2), (3, .int q1.1), (4, .int q1.2.1)]) hx hb dX9_nextOf_118 hl (k := 5) rfl (by rw [ev6]; rfl) (by decide) rfl (fun ls hl => ?_)
      refine lv_goto (tgt := 8) hx hb dX9_nextOf_121 (by decide) ?_
      exact ihk2 _ hf _ _ _ (lv_sub hl [1, 2, 3, 4, 5, 0] rfl) hP hS
    · have hf := ifF hb4 hf
      refine lv_aload_n hx hb dX9_nextOf_21 rfl (lv_at hl 0 rfl) ?_
      refine zg_X9_84 hx hb C hP (by decide) lay_81 rfl dX9_nextOf_22 ?_
      refine lv_bipush (v := 92) hx hb dX9_nextOf_25 (by decide) ?_
      refine lv_iload hx hb dX9_nextOf_27 (lv_at hl 5 rfl) ?_
      refine lv_imul hx hb dX9_nextOf_29 ?_
      obtain ⟨hc6, hf⟩ := chk_some hf
      refine zz_iald hx hb C hP (by decide) lay_102 (inb_vp hc6) dX9_nextOf_30 ?_
      refine lv_iconst (v := (-1)) hx hb dX9_nextOf_31 (by decide) ?_
      refine lv_icmp_ne (tgt := 38) hx hb dX9_nextOf_32 (by decide) (fun hb7 => ?_) (fun hb7 => ?_)
      · have hf := ifF hb7 hf
        refine lv_iconst (v := 0) hx hb dX9_nextOf_38 (by decide) ?_
        refine lv_istore (lv' := [(6, .int 0), (0, .ref (a 81)), (1, .int p1), (2, .int p2), (3, .int q1.1), (4, .int q1.2.1), (5, .int q1.2.2)]) hx hb dX9_nextOf_39 hl (by decide) rfl (fun ls hl => ?_)
        refine lv_iconst (v := 0) hx hb dX9_nextOf_41 (by decide) ?_
        refine lv_istore (lv' := [(7, .int 0), (6, .int 0), (0, .ref (a 81)), (1, .int p1), (2, .int p2), (3, .int q1.1), (4, .int q1.2.1), (5, .int q1.2.2)]) hx hb dX9_nextOf_42 hl (by decide) rfl (fun ls hl => ?_)
        have hJ81 : ∀ (v9 : Int32), j_X9_nextOf_81 p2 q1 k2 v9 = some u → ∀ (H : Heap) (locs : List Loc) (ls : Array Slot), lv_has ls 8 [(0, .ref (a 81)), (1, .int p1), (2, .int p2), (3, .int q1.1), (4, .int q1.2.1), (5, .int q1.2.2), (6, .int v9)] → va_P D vwCl (wl a cA σ d) H → va_S A s.heap H locs → W p l e R s m args below meth c H locs 0 0 Q (F0 m 81 ls []) := by
          intro v9 hf H locs ls hl hP hS
          unfold j_X9_nextOf_81 at hf
          refine lv_iload hx hb dX9_nextOf_81 (lv_at hl 6 rfl) ?_
          refine lv_iload_n hx hb dX9_nextOf_83 rfl (lv_at hl 2 rfl) ?_
          refine lv_iload hx hb dX9_nextOf_84 (lv_at hl 6 rfl) ?_
          refine lv_isub hx hb dX9_nextOf_86 ?_
          have hJ99 : ∀ (v10 : Int32), j_X9_nextOf_99 q1 k2 v10 = some u → ∀ (H : Heap) (locs : List Loc) (ls : Array Slot), lv_has ls 8 [(0, .ref (a 81)), (1, .int p1), (2, .int p2), (3, .int q1.1), (4, .int q1.2.1), (5, .int q1.2.2)] → va_P D vwCl (wl a cA σ d) H → va_S A s.heap H locs → W p l e R s m args below meth c H locs 0 0 Q (F0 m 99 ls [.int v10]) := by
            intro v10 hf H locs ls hl hP hS
            unfold j_X9_nextOf_99 at hf
            refine lv_istore (lv' := [(7, .int v10), (0, .ref (a 81)), (1, .int p1), (2, .int p2), (3, .int q1.1), (4, .int q1.2.1), (5, .int q1.2.2)]) hx hb dX9_nextOf_99 hl (by decide) rfl (fun ls hl => ?_)
            refine lv_iload hx hb dX9_nextOf_101 (lv_at hl 0 rfl) ?_
            refine lv_iload hx hb dX9_nextOf_103 (lv_at hl 5 rfl) ?_
            refine lv_icmp_lt (tgt := 111) hx hb dX9_nextOf_105 (by decide) (fun hb10 => ?_) (fun hb10 => ?_)
            · have hf := ifT hb10 hf
              refine lv_iload hx hb dX9_nextOf_111 (lv_at hl 6 rfl) ?_
              refine lv_istore_n (lv' := [(3, .int q1.2.2), (7, .int v10), (0, .ref (a 81)), (1, .int p1), (2, .int p2), (4, .int q1.2.1), (5, .int q1.2.2)]) hx hb dX9_nextOf_113 rfl hl (by decide) rfl (fun ls hl => ?_)
              refine lv_iload hx hb dX9_nextOf_114 (lv_at hl 1 rfl) ?_
              refine lv_istore (lv' := [(4, .int v10), (3, .int q1.2.2), (7, .int v10), (0, .ref (a 81)), (1, .int p1), (2, .int p2), (5, .int q1.2.2)]) hx hb dX9_nextOf_116 hl (by decide) rfl (fun ls hl => ?_)
              obtain ⟨v12, ev12⟩ : ∃ z : Int32, z = q1.2.2 + 1 := ⟨_, rfl⟩
              have hf := bnd_at v12 ev12 hf
              refine lv_iinc (v := v12) (lv' := [(5, .int v12), (4, .int v10), (3, .int q1.2.2), (7, .int v10), (0, .ref (a 81)), (1, .int p1), (2, .int p2)]) hx hb dX9_nextOf_118 hl (k := 6) rfl (by rw [ev12]; rfl) (by decide) rfl (fun ls hl => ?_)
              refine lv_goto (tgt := 8) hx hb dX9_nextOf_121 (by decide) ?_
              exact ihk2 _ hf _ _ _ (lv_sub hl [4, 5, 6, 2, 1, 0] rfl) hP hS
            · have hf := ifF hb10 hf
              refine lv_goto (tgt := 118) hx hb dX9_nextOf_108 (by decide) ?_
              obtain ⟨v13, ev13⟩ : ∃ z : Int32, z = q1.2.2 + 1 := ⟨_, rfl⟩
              have hf := bnd_at v13 ev13 hf
              refine lv_iinc (v := v13) (lv' := [(5, .int v13), (7, .int v10), (0, .ref (a 81)), (1, .int p1), (2, .int p2), (3, .int q1.1), (4, .int q1.2.1)]) hx hb dX9_nextOf_118 hl (k := 6) rfl (by rw [ev13]; rfl) (by decide) rfl (fun ls hl => ?_)
              refine lv_goto (tgt := 8) hx hb dX9_nextOf_121 (by decide) ?_
              exact ihk2 _ hf _ _ _ (lv_sub hl [2, 3, 4, 5, 6, 0] rfl) hP hS
          refine lv_icmp_le (tgt := 95) hx hb dX9_nextOf_87 (by decide) (fun hb13 => ?_) (fun hb13 => ?_)
          · have hf := ifT hb13 hf
            refine lv_iload_n hx hb dX9_nextOf_95 rfl (lv_at hl 2 rfl) ?_
            refine lv_iload hx hb dX9_nextOf_96 (lv_at hl 6 rfl) ?_
            refine lv_isub hx hb dX9_nextOf_98 ?_
            exact hJ99 _ hf _ _ _ (lv_sub hl [0, 1, 2, 3, 4, 5] rfl) hP hS
          · have hf := ifF hb13 hf
            refine lv_iload hx hb dX9_nextOf_90 (lv_at hl 6 rfl) ?_
            refine lv_goto (tgt := 99) hx hb dX9_nextOf_92 (by decide) ?_
            exact hJ99 _ hf _ _ _ (lv_sub hl [0, 1, 2, 3, 4, 5] rfl) hP hS
        refine loopN_ind (P := fun (q15 : Int32 × Int32) => ∀ (H : Heap) (locs : List Loc) (ls : Array Slot), lv_has ls 8 [(0, .ref (a 81)), (1, .int p1), (2, .int p2), (3, .int q1.1), (4, .int q1.2.1), (5, .int q1.2.2), (6, .int q15.1), (7, .int q15.2)] → va_P D vwCl (wl a cA σ d) H → va_S A s.heap H locs → W p l e R s m args below meth c H locs 0 0 Q (F0 m 44 ls [])) ?_ _ _ hf _ _ _ (lv_sub hl [2, 3, 4, 5, 6, 7, 1, 0] rfl) hP hS
        intro k16 ihk16 q15 hf H locs ls hl hP hS
        unfold b_X9_nextOf_44 at hf
        refine lv_iload hx hb dX9_nextOf_44 (lv_at hl 7 rfl) ?_
        refine lv_iload_n hx hb dX9_nextOf_46 rfl (lv_at hl 2 rfl) ?_
        refine lv_icmp_ge (tgt := 81) hx hb dX9_nextOf_47 (by decide) (fun hb16 => ?_) (fun hb16 => ?_)
        · have hf := ifT hb16 hf
          exact hJ81 _ hf _ _ _ (lv_sub hl [0, 1, 2, 3, 4, 5, 6] rfl) hP hS
        · have hf := ifF hb16 hf
          refine lv_iload hx hb dX9_nextOf_50 (lv_at hl 6 rfl) ?_
          refine lv_aload_n hx hb dX9_nextOf_52 rfl (lv_at hl 0 rfl) ?_
          refine zg_X9_84 hx hb C hP (by decide) lay_81 rfl dX9_nextOf_53 ?_
          refine lv_bipush (v := 92) hx hb dX9_nextOf_56 (by decide) ?_
          refine lv_iload hx hb dX9_nextOf_58 (lv_at hl 5 rfl) ?_
          refine lv_imul hx hb dX9_nextOf_60 ?_
          refine lv_aload_n hx hb dX9_nextOf_61 rfl (lv_at hl 0 rfl) ?_
          refine zg_X9_87 hx hb C hP (by decide) lay_81 rfl dX9_nextOf_62 ?_
          refine lv_iload_n hx hb dX9_nextOf_65 rfl (lv_at hl 1 rfl) ?_
          refine lv_iload hx hb dX9_nextOf_66 (lv_at hl 7 rfl) ?_
          refine lv_iadd hx hb dX9_nextOf_68 ?_
          obtain ⟨hc17, hf⟩ := chk_some hf
          refine zz_iald hx hb C hP (by decide) lay_103 (inb_vp hc17) dX9_nextOf_69 ?_
          refine lv_iadd hx hb dX9_nextOf_70 ?_
          obtain ⟨hc18, hf⟩ := chk_some hf
          refine zz_iald hx hb C hP (by decide) lay_102 (inb_vp hc18) dX9_nextOf_71 ?_
          refine lv_iadd hx hb dX9_nextOf_72 ?_
          refine lv_topi (fun v20 ev20 => ?_)
          have hf := bnd_at v20 ev20 hf
          refine lv_istore (lv' := [(6, .int v20), (0, .ref (a 81)), (1, .int p1), (2, .int p2), (3, .int q1.1), (4, .int q1.2.1), (5, .int q1.2.2), (7, .int q15.2)]) hx hb dX9_nextOf_73 hl (by decide) rfl (fun ls hl => ?_)
          obtain ⟨v21, ev21⟩ : ∃ z : Int32, z = q15.2 + 1 := ⟨_, rfl⟩
          have hf := bnd_at v21 ev21 hf
          refine lv_iinc (v := v21) (lv' := [(7, .int v21), (6, .int v20), (0, .ref (a 81)), (1, .int p1), (2, .int p2), (3, .int q1.1), (4, .int q1.2.1), (5, .int q1.2.2)]) hx hb dX9_nextOf_75 hl (k := 7) rfl (by rw [ev21]; rfl) (by decide) rfl (fun ls hl => ?_)
          refine lv_goto (tgt := 44) hx hb dX9_nextOf_78 (by decide) ?_
          exact ihk16 _ hf _ _ _ (lv_sub hl [2, 3, 4, 5, 6, 7, 1, 0] rfl) hP hS
      · have hf := ifT hb7 hf
        refine lv_goto (tgt := 118) hx hb dX9_nextOf_35 (by decide) ?_
        obtain ⟨v22, ev22⟩ : ∃ z : Int32, z = q1.2.2 + 1 := ⟨_, rfl⟩
        have hf := bnd_at v22 ev22 hf
        refine lv_iinc (v := v22) (lv' := [(5, .int v22), (0, .ref (a 81)), (1, .int p1), (2, .int p2), (3, .int q1.1), (4, .int q1.2.1)]) hx hb dX9_nextOf_118 hl (k := 5) rfl (by rw [ev22]; rfl) (by decide) rfl (fun ls hl => ?_)
        refine lv_goto (tgt := 8) hx hb dX9_nextOf_121 (by decide) ?_
        exact ihk2 _ hf _ _ _ (lv_sub hl [1, 2, 3, 4, 5, 0] rfl) hP hS
set_option maxHeartbeats 4000000 in
set_option maxRecDepth 100000 in
theorem c_X9_begins (l : Launch) {D : va_G} {a : Nat → Nat} {cA : Nat → ClassId} {A : Nat → Prop} {sa : Nat → Nat} (hDA : DA a A) {σ : PH} {d : PD}  {u : Int32 × PH} (hf : f_X9_begins σ = some u) : CTi l yX9_begins cX9_begins 3 (some .int) 6 140 D a cA A sa [.ref (a 81)] σ d u.1 u.2 d := by
  refine zz_metI zpl_X9 hDA (Nat.le_of_ble_eq_true rfl) ?_
  intro p e R s m args below meth c Q ls hx hb hml C hRf hRl hQ hP hS hl
  have hl : lv_has ls 3 [(0, .ref (a 81))] := hl
  unfold f_X9_begins at hf
  refine lv_aload_n hx hb dX9_begins_0 rfl (lv_at hl 0 rfl) ?_
  obtain ⟨u1, hzu1, hf⟩ := obd_some hf
  refine zz_callVi (rest := []) hx hb hml C hP hS (c_X9_possible l hDA  hzu1) zw_X9_239 ⟨Nat.le_trans (Nat.le_of_ble_eq_true rfl) hRf, Nat.le_trans (Nat.le_of_ble_eq_true rfl) hRl⟩ (by decide) lay_81 rfl rfl hl.1 (Nat.le_of_ble_eq_true rfl) ⟨Nat.zero_le _, Nat.zero_le _⟩ rfl dX9_begins_1 (fun H locs hP hS => ?_)
  refine lv_istore_n (lv' := [(1, .int u1.1), (0, .ref (a 81))]) hx hb dX9_begins_4 rfl hl (by decide) rfl (fun ls hl => ?_)
  refine lv_aload_n hx hb dX9_begins_5 rfl (lv_at hl 1 rfl) ?_
  refine lv_iload_n hx hb dX9_begins_6 rfl (lv_at hl 0 rfl) ?_
  obtain ⟨u2, hzu2, hf⟩ := obd_some hf
  refine zz_callVv (rest := []) hx hb hml C hP hS (c_X9_tables l hDA u1.1 hzu2) zw_X9_254 ⟨Nat.le_trans (Nat.le_of_ble_eq_true rfl) hRf, Nat.le_trans (Nat.le_of_ble_eq_true rfl) hRl⟩ (by decide) lay_81 rfl rfl hl.1 (Nat.le_of_ble_eq_true rfl) ⟨Nat.zero_le _, Nat.zero_le _⟩ rfl dX9_begins_7 (fun H locs hP hS => ?_)
  refine lv_iconst (v := 0) hx hb dX9_begins_10 (by decide) ?_
  refine lv_istore_n (lv' := [(2, .int 0), (1, .int u1.1), (0, .ref (a 81))]) hx hb dX9_begins_11 rfl hl (by decide) rfl (fun ls hl => ?_)
  refine loopN_ind (P := fun (q3 : Int32 × PH) => ∀ (H : Heap) (locs : List Loc) (ls : Array Slot), lv_has ls 3 [(0, .ref (a 81)), (1, .int u1.1), (2, .int q3.1)] → va_P D vwCl (wl a cA q3.2 d) H → va_S A s.heap H locs → W p l e R s m args below meth c H locs 0 0 Q (F0 m 12 ls [])) ?_ _ _ hf _ _ _ (lv_sub hl [2, 1, 0] rfl) hP hS
  intro k4 ihk4 q3 hf H locs ls hl hP hS
  unfold b_X9_begins_12 at hf
  refine lv_iload_n hx hb dX9_begins_12 rfl (lv_at hl 2 rfl) ?_
  refine lv_iload_n hx hb dX9_begins_13 rfl (lv_at hl 1 rfl) ?_
  refine lv_icmp_ge (tgt := 30) hx hb dX9_begins_14 (by decide) (fun hb4 => ?_) (fun hb4 => ?_)
  · have hf := ifT hb4 hf
    refine lv_iload_n hx hb dX9_begins_30 rfl (lv_at hl 1 rfl) ?_
    have hf := Option.some.inj hf
    subst hf
    exact hQ _ _ _ _ dX9_begins_31 hP hS
  · have hf := ifF hb4 hf
    refine lv_aload_n hx hb dX9_begins_17 rfl (lv_at hl 0 rfl) ?_
    refine zg_X9_87 hx hb C hP (by decide) lay_81 rfl dX9_begins_18 ?_
    refine lv_iload_n hx hb dX9_begins_21 rfl (lv_at hl 2 rfl) ?_
    refine lv_iload_n hx hb dX9_begins_22 rfl (lv_at hl 2 rfl) ?_
    obtain ⟨hc5, hf⟩ := chk_some hf
    refine zz_iast hx hb C hP hS (by decide) lay_103 (inb_vp hc5) dX9_begins_23 (fun σ7 eσ7 H locs hP hS => ?_)
    have hf := bnd_at σ7 eσ7 hf
    obtain ⟨v8, ev8⟩ : ∃ z : Int32, z = q3.1 + 1 := ⟨_, rfl⟩
    have hf := bnd_at v8 ev8 hf
    refine lv_iinc (v := v8) (lv' := [(2, .int v8), (0, .ref (a 81)), (1, .int u1.1)]) hx hb dX9_begins_24 hl (k := 2) rfl (by rw [ev8]; rfl) (by decide) rfl (fun ls hl => ?_)
    refine lv_goto (tgt := 12) hx hb dX9_begins_27 (by decide) ?_
    exact ihk4 _ hf _ _ _ (lv_sub hl [1, 2, 0] rfl) hP hS
set_option maxHeartbeats 4000000 in
set_option maxRecDepth 100000 in
theorem c_X9_next (l : Launch) {D : va_G} {a : Nat → Nat} {cA : Nat → ClassId} {A : Nat → Prop} {sa : Nat → Nat} (hDA : DA a A) {σ : PH} {d : PD}  {u : Int32 × PH} (hf : f_X9_next σ = some u) : CTi l yX9_next cX9_next 1 (some .int) 7 162 D a cA A sa [.ref (a 81)] σ d u.1 u.2 d := by
  refine zz_metI zpl_X9 hDA (Nat.le_of_ble_eq_true rfl) ?_
  intro p e R s m args below meth c Q ls hx hb hml C hRf hRl hQ hP hS hl
  have hl : lv_has ls 1 [(0, .ref (a 81))] := hl
  unfold f_X9_next at hf
  refine lv_aload_n hx hb dX9_next_0 rfl (lv_at hl 0 rfl) ?_
  refine lv_iconst (v := 0) hx hb dX9_next_1 (by decide) ?_
  refine lv_aload_n hx hb dX9_next_2 rfl (lv_at hl 0 rfl) ?_
  obtain ⟨u1, hzu1, hf⟩ := obd_some hf
  refine zz_callVi (rest := [.int 0, .ref (a 81)]) hx hb hml C hP hS (c_X9_begins l hDA  hzu1) zw_X9_258 ⟨Nat.le_trans (Nat.le_of_ble_eq_true rfl) hRf, Nat.le_trans (Nat.le_of_ble_eq_true rfl) hRl⟩ (by decide) lay_81 rfl rfl hl.1 (Nat.le_of_ble_eq_true rfl) ⟨Nat.zero_le _, Nat.zero_le _⟩ rfl dX9_next_3 (fun H locs hP hS => ?_)
  obtain ⟨u2, hzu2, hf⟩ := obd_some hf
  refine zz_callVi (rest := []) hx hb hml C hP hS (c_X9_nextOf l hDA 0 u1.1 hzu2) zw_X9_261 ⟨Nat.le_trans (Nat.le_of_ble_eq_true rfl) hRf, Nat.le_trans (Nat.le_of_ble_eq_true rfl) hRl⟩ (by decide) lay_81 rfl rfl hl.1 (Nat.le_of_ble_eq_true rfl) ⟨Nat.zero_le _, Nat.zero_le _⟩ rfl dX9_next_6 (fun H locs hP hS => ?_)
  have hf := Option.some.inj hf
  subst hf
  exact hQ _ _ _ _ dX9_next_9 hP hS
set_option maxHeartbeats 4000000 in
set_option maxRecDepth 100000 in
theorem c_X9_ahead (l : Launch) {D : va_G} {a : Nat → Nat} {cA : Nat → ClassId} {A : Nat → Prop} {sa : Nat → Nat} (hDA : DA a A) {σ : PH} {d : PD} (p1 : Int32) (p2 : Int32) (p3 : Int32) {u : Int32 × PH} (hf : f_X9_ahead σ p1 p2 p3 = some u) : CTi l yX9_ahead cX9_ahead 12 (some .int) 6 140 D a cA A sa [.ref (a 81), .int p1, .int p2, .int p3] σ d u.1 u.2 d := by
  refine zz_metI zpl_X9 hDA (Nat.le_of_ble_eq_true rfl) ?_
  intro p e R s m args below meth c Q ls hx hb hml C hRf hRl hQ hP hS hl
  have hl : lv_has ls 12 [(0, .ref (a 81)), (1, .int p1), (2, .int p2), (3, .int p3)] := hl
  unfold f_X9_ahead at hf
  refine lv_aload_n hx hb dX9_ahead_0 rfl (lv_at hl 0 rfl) ?_
  refine lv_iload_n hx hb dX9_ahead_1 rfl (lv_at hl 1 rfl) ?_
  refine lv_iload_n hx hb dX9_ahead_2 rfl (lv_at hl 2 rfl) ?_
  obtain ⟨u1, hzu1, hf⟩ := obd_some hf
  refine zz_callVi (rest := []) hx hb hml C hP hS (c_X9_bars l hDA p1 p2 hzu1) zw_X9_280 ⟨Nat.le_trans (Nat.le_of_ble_eq_true rfl) hRf, Nat.le_trans (Nat.le_of_ble_eq_true rfl) hRl⟩ (by decide) lay_81 rfl rfl hl.1 (Nat.le_of_ble_eq_true rfl) ⟨Nat.zero_le _, Nat.zero_le _⟩ rfl dX9_ahead_3 (fun H locs hP hS => ?_)
  refine lv_istore (lv' := [(4, .int u1), (0, .ref (a 81)), (1, .int p1), (2, .int p2), (3, .int p3)]) hx hb dX9_ahead_6 hl (by decide) rfl (fun ls hl => ?_)
  refine lv_iload hx hb dX9_ahead_8 (lv_at hl 0 rfl) ?_
  have hJ25 : ∀ (v2 : Int32), j_X9_ahead_25 σ p1 p2 p3 v2 = some u → ∀ (H : Heap) (locs : List Loc) (ls : Array Slot), lv_has ls 12 [(0, .ref (a 81)), (1, .int p1), (2, .int p2), (3, .int p3), (4, .int v2)] → va_P D vwCl (wl a cA σ d) H → va_S A s.heap H locs → W p l e R s m args below meth c H locs 0 0 Q (F0 m 25 ls []) := by
    intro v2 hf H locs ls hl hP hS
    unfold j_X9_ahead_25 at hf
    refine lv_iload hx hb dX9_ahead_25 (lv_at hl 4 rfl) ?_
    have hJ40 : ∀ (v3 : Int32), j_X9_ahead_40 σ p1 p2 p3 v3 = some u → ∀ (H : Heap) (locs : List Loc) (ls : Array Slot), lv_has ls 12 [(0, .ref (a 81)), (1, .int p1), (2, .int p2), (3, .int p3), (4, .int v3)] → va_P D vwCl (wl a cA σ d) H → va_S A s.heap H locs → W p l e R s m args below meth c H locs 0 0 Q (F0 m 40 ls []) := by
      intro v3 hf H locs ls hl hP hS
      unfold j_X9_ahead_40 at hf
      refine lv_iconst (v := 0) hx hb dX9_ahead_40 (by decide) ?_
      refine lv_istore (lv' := [(5, .int 0), (0, .ref (a 81)), (1, .int p1), (2, .int p2), (3, .int p3), (4, .int v3)]) hx hb dX9_ahead_41 hl (by decide) rfl (fun ls hl => ?_)
      have hJ78 : ∀ (v4 : Int32), j_X9_ahead_78 σ p1 p2 p3 v4 = some u → ∀ (H : Heap) (locs : List Loc) (ls : Array Slot), lv_has ls 12 [(0, .ref (a 81)), (1, .int p1), (2, .int p2), (3, .int p3), (4, .int v4)] → va_P D vwCl (wl a cA σ d) H → va_S A s.heap H locs → W p l e R s m args below meth c H locs 0 0 Q (F0 m 78 ls []) := by
        intro v4 hf H locs ls hl hP hS
        unfold j_X9_ahead_78 at hf
        refine lv_iload hx hb dX9_ahead_78 (lv_at hl 4 rfl) ?_
        refine lv_if_eq (tgt := 90) hx hb dX9_ahead_80 (by decide) (fun hb4 => ?_) (fun hb4 => ?_)
        · have hf := ifT hb4 hf
          refine lv_aload_n hx hb dX9_ahead_90 rfl (lv_at hl 0 rfl) ?_
          obtain ⟨u6, hzu6, hf⟩ := obd_some hf
          refine zz_callVi (rest := []) hx hb hml C hP hS (c_X9_possible l hDA  hzu6) zw_X9_239 ⟨Nat.le_trans (Nat.le_of_ble_eq_true rfl) hRf, Nat.le_trans (Nat.le_of_ble_eq_true rfl) hRl⟩ (by decide) lay_81 rfl rfl hl.1 (Nat.le_of_ble_eq_true rfl) ⟨Nat.zero_le _, Nat.zero_le _⟩ rfl dX9_ahead_91 (fun H locs hP hS => ?_)
          refine lv_istore (lv' := [(5, .int u6.1), (0, .ref (a 81)), (1, .int p1), (2, .int p2), (3, .int p3), (4, .int v4)]) hx hb dX9_ahead_94 hl (by decide) rfl (fun ls hl => ?_)
          refine lv_iconst (v := 0) hx hb dX9_ahead_96 (by decide) ?_
          refine lv_istore (lv' := [(6, .int 0), (5, .int u6.1), (0, .ref (a 81)), (1, .int p1), (2, .int p2), (3, .int p3), (4, .int v4)]) hx hb dX9_ahead_97 hl (by decide) rfl (fun ls hl => ?_)
          refine lv_iconst (v := 0) hx hb dX9_ahead_99 (by decide) ?_
          refine lv_istore (lv' := [(7, .int 0), (6, .int 0), (5, .int u6.1), (0, .ref (a 81)), (1, .int p1), (2, .int p2), (3, .int p3), (4, .int v4)]) hx hb dX9_ahead_100 hl (by decide) rfl (fun ls hl => ?_)
          refine lv_iconst (v := 0) hx hb dX9_ahead_102 (by decide) ?_
          refine lv_istore (lv' := [(8, .int 0), (7, .int 0), (6, .int 0), (5, .int u6.1), (0, .ref (a 81)), (1, .int p1), (2, .int p2), (3, .int p3), (4, .int v4)]) hx hb dX9_ahead_103 hl (by decide) rfl (fun ls hl => ?_)
          have hJ172 : ∀ (σ7 : PH), j_X9_ahead_172 p3 u6 σ7 = some u → ∀ (H : Heap) (locs : List Loc) (ls : Array Slot), lv_has ls 12 [(0, .ref (a 81)), (3, .int p3), (5, .int u6.1), (6, .int 0), (7, .int 0)] → va_P D vwCl (wl a cA σ7 d) H → va_S A s.heap H locs → W p l e R s m args below meth c H locs 0 0 Q (F0 m 172 ls []) := by
            intro σ7 hf H locs ls hl hP hS
            unfold j_X9_ahead_172 at hf
            refine lv_iconst (v := 0) hx hb dX9_ahead_172 (by decide) ?_
            refine lv_istore (lv' := [(8, .int 0), (0, .ref (a 81)), (3, .int p3), (5, .int u6.1), (6, .int 0), (7, .int 0)]) hx hb dX9_ahead_173 hl (by decide) rfl (fun ls hl => ?_)
            have hJ267 : ∀ (v8 : Int32) (v9 : Int32), j_X9_ahead_267 p3 σ7 v8 v9 = some u → ∀ (H : Heap) (locs : List Loc) (ls : Array Slot), lv_has ls 12 [(3, .int p3), (6, .int v8), (7, .int v9)] → va_P D vwCl (wl a cA σ7 d) H → va_S A s.heap H locs → W p l e R s m args below meth c H locs 0 0 Q (F0 m 267 ls []) := by
              intro v8 v9 hf H locs ls hl hP hS
              unfold j_X9_ahead_267 at hf
              refine lv_iload_n hx hb dX9_ahead_267 rfl (lv_at hl 0 rfl) ?_
              refine lv_if_ne (tgt := 276) hx hb dX9_ahead_268 (by decide) (fun hb9 => ?_) (fun hb9 => ?_)
              · have hf := ifF hb9 hf
                refine lv_iload hx hb dX9_ahead_276 (lv_at hl 2 rfl) ?_
                have hf := Option.some.inj hf
                subst hf
                exact hQ _ _ _ _ dX9_ahead_278 hP hS
              · have hf := ifT hb9 hf
                refine lv_iload hx hb dX9_ahead_271 (lv_at hl 1 rfl) ?_
                refine lv_goto (tgt := 278) hx hb dX9_ahead_273 (by decide) ?_
                have hf := Option.some.inj hf
                subst hf
                exact hQ _ _ _ _ dX9_ahead_278 hP hS
            refine loopN_ind (P := fun (q11 : Int32 × Int32 × Int32) => ∀ (H : Heap) (locs : List Loc) (ls : Array Slot), lv_has ls 12 [(0, .ref (a 81)), (3, .int p3), (5, .int u6.1), (6, .int q11.1), (7, .int q11.2.1), (8, .int q11.2.2)] → va_P D vwCl (wl a cA σ7 d) H → va_S A s.heap H locs → W p l e R s m args below meth c H locs 0 0 Q (F0 m 175 ls [])) ?_ _ _ hf _ _ _ (lv_sub hl [1, 2, 3, 4, 5, 0] rfl) hP hS
            intro k12 ihk12 q11 hf H locs ls hl hP hS
            unfold b_X9_ahead_175 at hf
            refine lv_iload hx hb dX9_ahead_175 (lv_at hl 5 rfl) ?_
            refine lv_iload hx hb dX9_ahead_177 (lv_at hl 2 rfl) ?_
            refine lv_icmp_ge (tgt := 267) hx hb dX9_ahead_179 (by decide) (fun hb12 => ?_) (fun hb12 => ?_)
            · have hf := ifT hb12 hf
              exact hJ267 _ _ hf _ _ _ (lv_sub hl [1, 3, 4] rfl) hP hS
            · have hf := ifF hb12 hf
              refine lv_iconst (v := 0) hx hb dX9_ahead_182 (by decide) ?_
              refine lv_istore (lv' := [(9, .int 0), (0, .ref (a 81)), (3, .int p3), (5, .int u6.1), (6, .int q11.1), (7, .int q11.2.1), (8, .int q11.2.2)]) hx hb dX9_ahead_183 hl (by decide) rfl (fun ls hl => ?_)
              refine lv_iconst (v := 0) hx hb dX9_ahead_185 (by decide) ?_
              refine lv_istore (lv' := [(10, .int 0), (9, .int 0), (0, .ref (a 81)), (3, .int p3), (5, .int u6.1), (6, .int q11.1), (7, .int q11.2.1), (8, .int q11.2.2)]) hx hb dX9_ahead_186 hl (by decide) rfl (fun ls hl => ?_)
              refine lv_iconst (v := 0) hx hb dX9_ahead_188 (by decide) ?_
              refine lv_istore (lv' := [(11, .int 0), (10, .int 0), (9, .int 0), (0, .ref (a 81)), (3, .int p3), (5, .int u6.1), (6, .int q11.1), (7, .int q11.2.1), (8, .int q11.2.2)]) hx hb dX9_ahead_189 hl (by decide) rfl (fun ls hl => ?_)
              have hJ237 : ∀ (v14 : Int32) (v15 : Int32), j_X9_ahead_237 q11 k12 v14 v15 = some u → ∀ (H : Heap) (locs : List Loc) (ls : Array Slot), lv_has ls 12 [(0, .ref (a 81)), (3, .int p3), (5, .int u6.1), (6, .int q11.1), (7, .int q11.2.1), (8, .int q11.2.2), (9, .int v14), (10, .int v15)] → va_P D vwCl (wl a cA σ7 d) H → va_S A s.heap H locs → W p l e R s m args below meth c H locs 0 0 Q (F0 m 237 ls []) := by
                intro v14 v15 hf H locs ls hl hP hS
                unfold j_X9_ahead_237 at hf
                refine lv_iload hx hb dX9_ahead_237 (lv_at hl 6 rfl) ?_
                have hJ245 : ∀ (v16 : Int32), j_X9_ahead_245 q11 k12 v15 v16 = some u → ∀ (H : Heap) (locs : List Loc) (ls : Array Slot), lv_has ls 12 [(0, .ref (a 81)), (3, .int p3), (5, .int u6.1), (6, .int v16), (7, .int q11.2.1), (8, .int q11.2.2), (10, .int v15)] → va_P D vwCl (wl a cA σ7 d) H → va_S A s.heap H locs → W p l e R s m args below meth c H locs 0 0 Q (F0 m 245 ls []) := by
                  intro v16 hf H locs ls hl hP hS
                  unfold j_X9_ahead_245 at hf
                  refine lv_iload hx hb dX9_ahead_245 (lv_at hl 6 rfl) ?_
                  refine lv_iload hx hb dX9_ahead_247 (lv_at hl 4 rfl) ?_
                  refine lv_icmp_le (tgt := 257) hx hb dX9_ahead_249 (by decide) (fun hb16 => ?_) (fun hb16 => ?_)
                  · have hf := ifT hb16 hf
                    refine lv_iload hx hb dX9_ahead_257 (lv_at hl 4 rfl) ?_
                    refine lv_istore (lv' := [(7, .int q11.2.1), (0, .ref (a 81)), (3, .int p3), (5, .int u6.1), (6, .int v16), (8, .int q11.2.2), (10, .int v15)]) hx hb dX9_ahead_259 hl (by decide) rfl (fun ls hl => ?_)
                    obtain ⟨v18, ev18⟩ : ∃ z : Int32, z = q11.2.2 + 1 := ⟨_, rfl⟩
                    have hf := bnd_at v18 ev18 hf
                    refine lv_iinc (v := v18) (lv' := [(8, .int v18), (7, .int q11.2.1), (0, .ref (a 81)), (3, .int p3), (5, .int u6.1), (6, .int v16), (10, .int v15)]) hx hb dX9_ahead_261 hl (k := 5) rfl (by rw [ev18]; rfl) (by decide) rfl (fun ls hl => ?_)
                    refine lv_goto (tgt := 175) hx hb dX9_ahead_264 (by decide) ?_
                    exact ihk12 _ hf _ _ _ (lv_sub hl [2, 3, 4, 5, 1, 0] rfl) hP hS
                  · have hf := ifF hb16 hf
                    refine lv_iload hx hb dX9_ahead_252 (lv_at hl 6 rfl) ?_
                    refine lv_goto (tgt := 259) hx hb dX9_ahead_254 (by decide) ?_
                    refine lv_istore (lv' := [(7, .int v15), (0, .ref (a 81)), (3, .int p3), (5, .int u6.1), (6, .int v16), (8, .int q11.2.2), (10, .int v15)]) hx hb dX9_ahead_259 hl (by decide) rfl (fun ls hl => ?_)
                    obtain ⟨v19, ev19⟩ : ∃ z : Int32, z = q11.2.2 + 1 := ⟨_, rfl⟩
                    have hf := bnd_at v19 ev19 hf
                    refine lv_iinc (v := v19) (lv' := [(8, .int v19), (7, .int v15), (0, .ref (a 81)), (3, .int p3), (5, .int u6.1), (6, .int v16), (10, .int v15)]) hx hb dX9_ahead_261 hl (k := 5) rfl (by rw [ev19]; rfl) (by decide) rfl (fun ls hl => ?_)
                    refine lv_goto (tgt := 175) hx hb dX9_ahead_264 (by decide) ?_
                    exact ihk12 _ hf _ _ _ (lv_sub hl [2, 3, 4, 5, 1, 0] rfl) hP hS
                refine lv_if_ne (tgt := 245) hx hb dX9_ahead_239 (by decide) (fun hb19 => ?_) (fun hb19 => ?_)
                · have hf := ifF hb19 hf
                  exact hJ245 _ hf _ _ _ (lv_sub hl [0, 1, 2, 3, 4, 5, 7] rfl) hP hS
                · have hf := ifT hb19 hf
                  obtain ⟨v21, ev21⟩ : ∃ z : Int32, z = q11.1 + 1 := ⟨_, rfl⟩
                  have hf := bnd_at v21 ev21 hf
                  refine lv_iinc (v := v21) (lv' := [(6, .int v21), (0, .ref (a 81)), (3, .int p3), (5, .int u6.1), (7, .int q11.2.1), (8, .int q11.2.2), (9, .int v14), (10, .int v15)]) hx hb dX9_ahead_242 hl (k := 3) rfl (by rw [ev21]; rfl) (by decide) rfl (fun ls hl => ?_)
                  exact hJ245 _ hf _ _ _ (lv_sub hl [1, 2, 3, 0, 4, 5, 7] rfl) hP hS
              refine loopN_ind (P := fun (q22 : Int32 × Int32 × Int32) => ∀ (H : Heap) (locs : List Loc) (ls : Array Slot), lv_has ls 12 [(0, .ref (a 81)), (3, .int p3), (5, .int u6.1), (6, .int q11.1), (7, .int q11.2.1), (8, .int q11.2.2), (9, .int q22.1), (10, .int q22.2.1), (11, .int q22.2.2)] → va_P D vwCl (wl a cA σ7 d) H → va_S A s.heap H locs → W p l e R s m args below meth c H locs 0 0 Q (F0 m 191 ls [])) ?_ _ _ hf _ _ _ (lv_sub hl [3, 4, 5, 6, 7, 8, 2, 1, 0] rfl) hP hS
              intro k23 ihk23 q22 hf H locs ls hl hP hS
              unfold b_X9_ahead_191 at hf
              refine lv_iload hx hb dX9_ahead_191 (lv_at hl 8 rfl) ?_
              refine lv_iload hx hb dX9_ahead_193 (lv_at hl 2 rfl) ?_
              refine lv_icmp_ge (tgt := 237) hx hb dX9_ahead_195 (by decide) (fun hb23 => ?_) (fun hb23 => ?_)
              · have hf := ifT hb23 hf
                exact hJ237 _ _ hf _ _ _ (lv_sub hl [0, 1, 2, 3, 4, 5, 6, 7] rfl) hP hS
              · have hf := ifF hb23 hf
                refine lv_aload_n hx hb dX9_ahead_198 rfl (lv_at hl 0 rfl) ?_
                refine zg_X9_90 hx hb C hP (by decide) lay_81 rfl dX9_ahead_199 ?_
                refine lv_iload hx hb dX9_ahead_202 (lv_at hl 8 rfl) ?_
                obtain ⟨hc24, hf⟩ := chk_some hf
                refine zz_iald hx hb C hP (by decide) lay_104 (inb_vp hc24) dX9_ahead_204 ?_
                refine lv_aload_n hx hb dX9_ahead_205 rfl (lv_at hl 0 rfl) ?_
                refine zg_X9_90 hx hb C hP (by decide) lay_81 rfl dX9_ahead_206 ?_
                refine lv_iload hx hb dX9_ahead_209 (lv_at hl 5 rfl) ?_
                obtain ⟨hc25, hf⟩ := chk_some hf
                refine zz_iald hx hb C hP (by decide) lay_104 (inb_vp hc25) dX9_ahead_211 ?_
                refine lv_icmp_eq (tgt := 218) hx hb dX9_ahead_212 (by decide) (fun hb26 => ?_) (fun hb26 => ?_)
                · have hf := ifT hb26 hf
                  obtain ⟨v28, ev28⟩ : ∃ z : Int32, z = q22.2.1 + 1 := ⟨_, rfl⟩
                  have hf := bnd_at v28 ev28 hf
                  refine lv_iinc (v := v28) (lv' := [(10, .int v28), (0, .ref (a 81)), (3, .int p3), (5, .int u6.1), (6, .int q11.1), (7, .int q11.2.1), (8, .int q11.2.2), (9, .int q22.1), (11, .int q22.2.2)]) hx hb dX9_ahead_218 hl (k := 7) rfl (by rw [ev28]; rfl) (by decide) rfl (fun ls hl => ?_)
                  refine lv_iload hx hb dX9_ahead_221 (lv_at hl 8 rfl) ?_
                  refine lv_iload hx hb dX9_ahead_223 (lv_at hl 6 rfl) ?_
                  refine lv_icmp_ge (tgt := 231) hx hb dX9_ahead_225 (by decide) (fun hb28 => ?_) (fun hb28 => ?_)
                  · have hf := ifT hb28 hf
                    obtain ⟨v30, ev30⟩ : ∃ z : Int32, z = q22.2.2 + 1 := ⟨_, rfl⟩
                    have hf := bnd_at v30 ev30 hf
                    refine lv_iinc (v := v30) (lv' := [(11, .int v30), (10, .int v28), (0, .ref (a 81)), (3, .int p3), (5, .int u6.1), (6, .int q11.1), (7, .int q11.2.1), (8, .int q11.2.2), (9, .int q22.1)]) hx hb dX9_ahead_231 hl (k := 8) rfl (by rw [ev30]; rfl) (by decide) rfl (fun ls hl => ?_)
                    refine lv_goto (tgt := 191) hx hb dX9_ahead_234 (by decide) ?_
                    exact ihk23 _ hf _ _ _ (lv_sub hl [2, 3, 4, 5, 6, 7, 8, 1, 0] rfl) hP hS
                  · have hf := ifF hb28 hf
                    obtain ⟨v31, ev31⟩ : ∃ z : Int32, z = q22.1 + 1 := ⟨_, rfl⟩
                    have hf := bnd_at v31 ev31 hf
                    refine lv_iinc (v := v31) (lv' := [(9, .int v31), (10, .int v28), (0, .ref (a 81)), (3, .int p3), (5, .int u6.1), (6, .int q11.1), (7, .int q11.2.1), (8, .int q11.2.2), (11, .int q22.2.2)]) hx hb dX9_ahead_228 hl (k := 7) rfl (by rw [ev31]; rfl) (by decide) rfl (fun ls hl => ?_)
                    obtain ⟨v32, ev32⟩ : ∃ z : Int32, z = q22.2.2 + 1 := ⟨_, rfl⟩
                    have hf := bnd_at v32 ev32 hf
                    refine lv_iinc (v := v32) (lv' := [(11, .int v32), (9, .int v31), (10, .int v28), (0, .ref (a 81)), (3, .int p3), (5, .int u6.1), (6, .int q11.1), (7, .int q11.2.1), (8, .int q11.2.2)]) hx hb dX9_ahead_231 hl (k := 8) rfl (by rw [ev32]; rfl) (by decide) rfl (fun ls hl => ?_)
                    refine lv_goto (tgt := 191) hx hb dX9_ahead_234 (by decide) ?_
                    exact ihk23 _ hf _ _ _ (lv_sub hl [3, 4, 5, 6, 7, 8, 1, 2, 0] rfl) hP hS
                · have hf := ifF hb26 hf
                  refine lv_goto (tgt := 231) hx hb dX9_ahead_215 (by decide) ?_
                  obtain ⟨v33, ev33⟩ : ∃ z : Int32, z = q22.2.2 + 1 := ⟨_, rfl⟩
                  have hf := bnd_at v33 ev33 hf
                  refine lv_iinc (v := v33) (lv' := [(11, .int v33), (0, .ref (a 81)), (3, .int p3), (5, .int u6.1), (6, .int q11.1), (7, .int q11.2.1), (8, .int q11.2.2), (9, .int q22.1), (10, .int q22.2.1)]) hx hb dX9_ahead_231 hl (k := 8) rfl (by rw [ev33]; rfl) (by decide) rfl (fun ls hl => ?_)
                  refine lv_goto (tgt := 191) hx hb dX9_ahead_234 (by decide) ?_
                  exact ihk23 _ hf _ _ _ (lv_sub hl [1, 2, 3, 4, 5, 6, 7, 8, 0] rfl) hP hS
          refine loopN_ind (P := fun (q34 : Int32 × PH) => ∀ (H : Heap) (locs : List Loc) (ls : Array Slot), lv_has ls 12 [(0, .ref (a 81)), (1, .int p1), (2, .int p2), (3, .int p3), (5, .int u6.1), (6, .int 0), (7, .int 0), (8, .int q34.1)] → va_P D vwCl (wl a cA q34.2 d) H → va_S A s.heap H locs → W p l e R s m args below meth c H locs 0 0 Q (F0 m 105 ls [])) ?_ _ _ hf _ _ _ (lv_sub hl [4, 5, 6, 7, 3, 2, 1, 0] rfl) hP hS
          intro k35 ihk35 q34 hf H locs ls hl hP hS
          unfold b_X9_ahead_105 at hf
          refine lv_iload hx hb dX9_ahead_105 (lv_at hl 7 rfl) ?_
          refine lv_iload hx hb dX9_ahead_107 (lv_at hl 4 rfl) ?_
          refine lv_icmp_ge (tgt := 172) hx hb dX9_ahead_109 (by decide) (fun hb35 => ?_) (fun hb35 => ?_)
          · have hf := ifT hb35 hf
            exact hJ172 _ hf _ _ _ (lv_sub hl [0, 3, 4, 5, 6] rfl) hP hS
          · have hf := ifF hb35 hf
            refine lv_aload_n hx hb dX9_ahead_112 rfl (lv_at hl 0 rfl) ?_
            refine zg_X9_90 hx hb C hP (by decide) lay_81 rfl dX9_ahead_113 ?_
            refine lv_iload hx hb dX9_ahead_116 (lv_at hl 7 rfl) ?_
            refine lv_iconst (v := 0) hx hb dX9_ahead_118 (by decide) ?_
            obtain ⟨hc36, hf⟩ := chk_some hf
            refine zz_iast hx hb C hP hS (by decide) lay_104 (inb_vp hc36) dX9_ahead_119 (fun σ38 eσ38 H locs hP hS => ?_)
            have hf := bnd_at σ38 eσ38 hf
            refine lv_iconst (v := 0) hx hb dX9_ahead_120 (by decide) ?_
            refine lv_istore (lv' := [(9, .int 0), (0, .ref (a 81)), (1, .int p1), (2, .int p2), (3, .int p3), (5, .int u6.1), (6, .int 0), (7, .int 0), (8, .int q34.1)]) hx hb dX9_ahead_121 hl (by decide) rfl (fun ls hl => ?_)
            refine loopN_ind (P := fun (q39 : Int32 × PH) => ∀ (H : Heap) (locs : List Loc) (ls : Array Slot), lv_has ls 12 [(0, .ref (a 81)), (1, .int p1), (2, .int p2), (3, .int p3), (5, .int u6.1), (6, .int 0), (7, .int 0), (8, .int q34.1), (9, .int q39.1)] → va_P D vwCl (wl a cA q39.2 d) H → va_S A s.heap H locs → W p l e R s m args below meth c H locs 0 0 Q (F0 m 123 ls [])) ?_ _ _ hf _ _ _ (lv_sub hl [1, 2, 3, 4, 5, 6, 7, 8, 0] rfl) hP hS
            intro k40 ihk40 q39 hf H locs ls hl hP hS
            unfold b_X9_ahead_123 at hf
            refine lv_iload hx hb dX9_ahead_123 (lv_at hl 8 rfl) ?_
            refine lv_iload_n hx hb dX9_ahead_125 rfl (lv_at hl 2 rfl) ?_
            refine lv_icmp_ge (tgt := 166) hx hb dX9_ahead_126 (by decide) (fun hb40 => ?_) (fun hb40 => ?_)
            · have hf := ifT hb40 hf
              obtain ⟨v42, ev42⟩ : ∃ z : Int32, z = q34.1 + 1 := ⟨_, rfl⟩
              have hf := bnd_at v42 ev42 hf
              refine lv_iinc (v := v42) (lv' := [(8, .int v42), (0, .ref (a 81)), (1, .int p1), (2, .int p2), (3, .int p3), (5, .int u6.1), (6, .int 0), (7, .int 0), (9, .int q39.1)]) hx hb dX9_ahead_166 hl (k := 7) rfl (by rw [ev42]; rfl) (by decide) rfl (fun ls hl => ?_)
              refine lv_goto (tgt := 105) hx hb dX9_ahead_169 (by decide) ?_
              exact ihk35 _ hf _ _ _ (lv_sub hl [1, 2, 3, 4, 5, 6, 7, 0] rfl) hP hS
            · have hf := ifF hb40 hf
              refine lv_aload_n hx hb dX9_ahead_129 rfl (lv_at hl 0 rfl) ?_
              refine zg_X9_90 hx hb C hP (by decide) lay_81 rfl dX9_ahead_130 ?_
              refine lv_iload hx hb dX9_ahead_133 (lv_at hl 7 rfl) ?_
              refine lv_dup2_11 hx hb dX9_ahead_135 rfl rfl ?_
              obtain ⟨hc42, hf⟩ := chk_some hf
              refine zz_iald hx hb C hP (by decide) lay_104 (inb_vp hc42) dX9_ahead_136 ?_
              refine lv_aload_n hx hb dX9_ahead_137 rfl (lv_at hl 0 rfl) ?_
              refine lv_aload_n hx hb dX9_ahead_138 rfl (lv_at hl 0 rfl) ?_
              refine lv_iload_n hx hb dX9_ahead_139 rfl (lv_at hl 1 rfl) ?_
              refine lv_iload hx hb dX9_ahead_140 (lv_at hl 8 rfl) ?_
              obtain ⟨u44, hzu44, hf⟩ := obd_some hf
              refine zz_callVi (rest := [.ref (a 81), .int (gI q39.2 104 q34.1.toNatClampNeg), .int q34.1, .ref (a 104)]) hx hb hml C hP hS (c_X9_intAt l hDA p1 q39.1 hzu44) zw_X9_283 ⟨Nat.le_trans (Nat.le_of_ble_eq_true rfl) hRf, Nat.le_trans (Nat.le_of_ble_eq_true rfl) hRl⟩ (by decide) lay_81 rfl rfl hl.1 (Nat.le_of_ble_eq_true rfl) ⟨Nat.zero_le _, Nat.zero_le _⟩ rfl dX9_ahead_142 (fun H locs hP hS => ?_)
              refine lv_aload_n hx hb dX9_ahead_145 rfl (lv_at hl 0 rfl) ?_
              refine zg_X9_81 hx hb C hP (by decide) lay_81 rfl dX9_ahead_146 ?_
              refine lv_iload hx hb dX9_ahead_149 (lv_at hl 7 rfl) ?_
              obtain ⟨hc44, hf⟩ := chk_some hf
              refine zz_iald hx hb C hP (by decide) lay_101 (inb_vp hc44) dX9_ahead_151 ?_
              obtain ⟨u46, hzu46, hf⟩ := obd_some hf
              refine zz_callVi (rest := [.int (gI q39.2 104 q34.1.toNatClampNeg), .int q34.1, .ref (a 104)]) hx hb hml C hP hS (c_X9_soundOf l hDA u44 (gI q39.2 101 q34.1.toNatClampNeg) hzu46) zw_X9_230 ⟨Nat.le_trans (Nat.le_of_ble_eq_true rfl) hRf, Nat.le_trans (Nat.le_of_ble_eq_true rfl) hRl⟩ (by decide) lay_81 rfl rfl hl.1 (Nat.le_of_ble_eq_true rfl) ⟨Nat.zero_le _, Nat.zero_le _⟩ rfl dX9_ahead_152 (fun H locs hP hS => ?_)
              refine lv_iload hx hb dX9_ahead_155 (lv_at hl 8 rfl) ?_
              refine lv_ishl hx hb dX9_ahead_157 ?_
              refine lv_ior hx hb dX9_ahead_158 ?_
              obtain ⟨hc46, hf⟩ := chk_some hf
              refine zz_iast hx hb C hP hS (by decide) lay_104 (inb_vp hc46) dX9_ahead_159 (fun σ48 eσ48 H locs hP hS => ?_)
              have hf := bnd_at σ48 eσ48 hf
              obtain ⟨v49, ev49⟩ : ∃ z : Int32, z = q39.1 + 1 := ⟨_, rfl⟩
              have hf := bnd_at v49 ev49 hf
              refine lv_iinc (v := v49) (lv' := [(9, .int v49), (0, .ref (a 81)), (1, .int p1), (2, .int p2), (3, .int p3), (5, .int u6.1), (6, .int 0), (7, .int 0), (8, .int q34.1)]) hx hb dX9_ahead_160 hl (k := 8) rfl (by rw [ev49]; rfl) (by decide) rfl (fun ls hl => ?_)
              refine lv_goto (tgt := 123) hx hb dX9_ahead_163 (by decide) ?_
              exact ihk40 _ hf _ _ _ (lv_sub hl [1, 2, 3, 4, 5, 6, 7, 8, 0] rfl) hP hS
        · have hf := ifF hb4 hf
          refine lv_aload_n hx hb dX9_ahead_83 rfl (lv_at hl 0 rfl) ?_
          refine lv_iload hx hb dX9_ahead_84 (lv_at hl 4 rfl) ?_
          obtain ⟨u50, hzu50, hf⟩ := obd_some hf
          refine zz_callVi (rest := []) hx hb hml C hP hS (c_X9_no l hDA v4 hzu50) zw_X9_107 ⟨Nat.le_trans (Nat.le_of_ble_eq_true rfl) hRf, Nat.le_trans (Nat.le_of_ble_eq_true rfl) hRl⟩ (by decide) lay_81 rfl rfl hl.1 (Nat.le_of_ble_eq_true rfl) ⟨Nat.zero_le _, Nat.zero_le _⟩ rfl dX9_ahead_86 (fun H locs hP hS => ?_)
          have hf := Option.some.inj hf
          subst hf
          exact hQ _ _ _ _ dX9_ahead_89 hP hS
      refine loopN_ind (P := fun (q51 : Int32 × Int32) => ∀ (H : Heap) (locs : List Loc) (ls : Array Slot), lv_has ls 12 [(0, .ref (a 81)), (1, .int p1), (2, .int p2), (3, .int p3), (4, .int q51.1), (5, .int q51.2)] → va_P D vwCl (wl a cA σ d) H → va_S A s.heap H locs → W p l e R s m args below meth c H locs 0 0 Q (F0 m 43 ls [])) ?_ _ _ hf _ _ _ (lv_sub hl [1, 2, 3, 4, 5, 0] rfl) hP hS
      intro k52 ihk52 q51 hf H locs ls hl hP hS
      unfold b_X9_ahead_43 at hf
      refine lv_iload hx hb dX9_ahead_43 (lv_at hl 5 rfl) ?_
      refine lv_iload_n hx hb dX9_ahead_45 rfl (lv_at hl 2 rfl) ?_
      refine lv_icmp_ge (tgt := 78) hx hb dX9_ahead_46 (by decide) (fun hb52 => ?_) (fun hb52 => ?_)
      · have hf := ifT hb52 hf
        exact hJ78 _ hf _ _ _ (lv_sub hl [0, 1, 2, 3, 4] rfl) hP hS
      · have hf := ifF hb52 hf
        refine lv_iload hx hb dX9_ahead_49 (lv_at hl 4 rfl) ?_
        refine lv_if_ne (tgt := 78) hx hb dX9_ahead_51 (by decide) (fun hb53 => ?_) (fun hb53 => ?_)
        · have hf := ifF hb53 hf
          exact hJ78 _ hf _ _ _ (lv_sub hl [0, 1, 2, 3, 4] rfl) hP hS
        · have hf := ifT hb53 hf
          refine lv_aload_n hx hb dX9_ahead_54 rfl (lv_at hl 0 rfl) ?_
          refine lv_aload_n hx hb dX9_ahead_55 rfl (lv_at hl 0 rfl) ?_
          refine lv_iload_n hx hb dX9_ahead_56 rfl (lv_at hl 1 rfl) ?_
          refine lv_iload hx hb dX9_ahead_57 (lv_at hl 5 rfl) ?_
          obtain ⟨u55, hzu55, hf⟩ := obd_some hf
          refine zz_callVi (rest := [.ref (a 81)]) hx hb hml C hP hS (c_X9_intAt l hDA p1 q51.2 hzu55) zw_X9_283 ⟨Nat.le_trans (Nat.le_of_ble_eq_true rfl) hRf, Nat.le_trans (Nat.le_of_ble_eq_true rfl) hRl⟩ (by decide) lay_81 rfl rfl hl.1 (Nat.le_of_ble_eq_true rfl) ⟨Nat.zero_le _, Nat.zero_le _⟩ rfl dX9_ahead_59 (fun H locs hP hS => ?_)
          obtain ⟨u56, hzu56⟩ : ∃ z, z = f_X9_isSet σ u55 := ⟨_, rfl⟩
          have hf := bnd_at u56 hzu56 hf
          refine zz_callVi (rest := []) hx hb hml C hP hS (c_X9_isSet l hDA u55 hzu56.symm) zw_X9_172 ⟨Nat.le_trans (Nat.le_of_ble_eq_true rfl) hRf, Nat.le_trans (Nat.le_of_ble_eq_true rfl) hRl⟩ (by decide) lay_81 rfl rfl hl.1 (Nat.le_of_ble_eq_true rfl) ⟨Nat.zero_le _, Nat.zero_le _⟩ rfl dX9_ahead_62 (fun H locs hP hS => ?_)
          refine lv_if_ne (tgt := 72) hx hb dX9_ahead_65 (by decide) (fun hb56 => ?_) (fun hb56 => ?_)
          · have hf := ifF hb56 hf
            obtain ⟨v58, ev58⟩ : ∃ z : Int32, z = q51.2 + 1 := ⟨_, rfl⟩
            have hf := bnd_at v58 ev58 hf
            refine lv_iinc (v := v58) (lv' := [(5, .int v58), (0, .ref (a 81)), (1, .int p1), (2, .int p2), (3, .int p3), (4, .int q51.1)]) hx hb dX9_ahead_72 hl (k := 5) rfl (by rw [ev58]; rfl) (by decide) rfl (fun ls hl => ?_)
            refine lv_goto (tgt := 43) hx hb dX9_ahead_75 (by decide) ?_
            exact ihk52 _ hf _ _ _ (lv_sub hl [1, 2, 3, 4, 5, 0] rfl) hP hS
          · have hf := ifT hb56 hf
            refine lv_bipush (v := (-6)) hx hb dX9_ahead_68 (by decide) ?_
            refine lv_istore (lv' := [(4, .int (-6)), (0, .ref (a 81)), (1, .int p1), (2, .int p2), (3, .int p3), (5, .int q51.2)]) hx hb dX9_ahead_70 hl (by decide) rfl (fun ls hl => ?_)
            obtain ⟨v59, ev59⟩ : ∃ z : Int32, z = q51.2 + 1 := ⟨_, rfl⟩
            have hf := bnd_at v59 ev59 hf
            refine lv_iinc (v := v59) (lv' := [(5, .int v59), (4, .int (-6)), (0, .ref (a 81)), (1, .int p1), (2, .int p2), (3, .int p3)]) hx hb dX9_ahead_72 hl (k := 5) rfl (by rw [ev59]; rfl) (by decide) rfl (fun ls hl => ?_)
            refine lv_goto (tgt := 43) hx hb dX9_ahead_75 (by decide) ?_
            exact ihk52 _ hf _ _ _ (lv_sub hl [2, 3, 4, 5, 1, 0] rfl) hP hS
    refine lv_if_ne (tgt := 40) hx hb dX9_ahead_27 (by decide) (fun hb59 => ?_) (fun hb59 => ?_)
    · have hf := ifF hb59 hf
      exact hJ40 _ hf _ _ _ (lv_sub hl [0, 1, 2, 3, 4] rfl) hP hS
    · have hf := ifT hb59 hf
      refine lv_iload_n hx hb dX9_ahead_30 rfl (lv_at hl 2 rfl) ?_
      refine lv_bipush (v := 16) hx hb dX9_ahead_31 (by decide) ?_
      refine lv_icmp_le (tgt := 40) hx hb dX9_ahead_33 (by decide) (fun hb60 => ?_) (fun hb60 => ?_)
      · have hf := ifT hb60 hf
        exact hJ40 _ hf _ _ _ (lv_sub hl [0, 1, 2, 3, 4] rfl) hP hS
      · have hf := ifF hb60 hf
        refine lv_bipush (v := (-6)) hx hb dX9_ahead_36 (by decide) ?_
        refine lv_istore (lv' := [(4, .int (-6)), (0, .ref (a 81)), (1, .int p1), (2, .int p2), (3, .int p3)]) hx hb dX9_ahead_38 hl (by decide) rfl (fun ls hl => ?_)
        exact hJ40 _ hf _ _ _ (lv_sub hl [1, 2, 3, 4, 0] rfl) hP hS
  refine lv_if_ne (tgt := 25) hx hb dX9_ahead_10 (by decide) (fun hb61 => ?_) (fun hb61 => ?_)
  · have hf := ifF hb61 hf
    exact hJ25 _ hf _ _ _ (lv_sub hl [1, 2, 3, 4, 0] rfl) hP hS
  · have hf := ifT hb61 hf
    refine lv_aload_n hx hb dX9_ahead_13 rfl (lv_at hl 1 rfl) ?_
    refine lv_iload_n hx hb dX9_ahead_14 rfl (lv_at hl 4 rfl) ?_
    obtain ⟨u63, hzu63⟩ : ∃ z, z = f_X9_isOne p3 := ⟨_, rfl⟩
    have hf := bnd_at u63 hzu63 hf
    refine zz_callVi (rest := []) hx hb hml C hP hS (c_X9_isOne l hDA p3 hzu63.symm) zw_X9_175 ⟨Nat.le_trans (Nat.le_of_ble_eq_true rfl) hRf, Nat.le_trans (Nat.le_of_ble_eq_true rfl) hRl⟩ (by decide) lay_81 rfl rfl hl.1 (Nat.le_of_ble_eq_true rfl) ⟨Nat.zero_le _, Nat.zero_le _⟩ rfl dX9_ahead_15 (fun H locs hP hS => ?_)
    refine lv_if_ne (tgt := 25) hx hb dX9_ahead_18 (by decide) (fun hb63 => ?_) (fun hb63 => ?_)
    · have hf := ifF hb63 hf
      exact hJ25 _ hf _ _ _ (lv_sub hl [1, 2, 3, 4, 0] rfl) hP hS
    · have hf := ifT hb63 hf
      refine lv_bipush (v := (-5)) hx hb dX9_ahead_21 (by decide) ?_
      refine lv_istore (lv' := [(4, .int (-5)), (0, .ref (a 81)), (1, .int p1), (2, .int p2), (3, .int p3)]) hx hb dX9_ahead_23 hl (by decide) rfl (fun ls hl => ?_)
      exact hJ25 _ hf _ _ _ (lv_sub hl [1, 2, 3, 4, 0] rfl) hP hS
set_option maxHeartbeats 4000000 in
set_option maxRecDepth 100000 in
theorem c_X9_wrongIn (l : Launch) {D : va_G} {a : Nat → Nat} {cA : Nat → ClassId} {A : Nat → Prop} {sa : Nat → Nat} (hDA : DA a A) {σ : PH} {d : PD} (p1 : Int32) (p2 : Int32) {u : Int32 × PH} (hf : f_X9_wrongIn σ p1 p2 = some u) : CTi l yX9_wrongIn cX9_wrongIn 5 (some .int) 6 140 D a cA A sa [.ref (a 81), .int p1, .int p2] σ d u.1 u.2 d := by
  refine zz_metI zpl_X9 hDA (Nat.le_of_ble_eq_true rfl) ?_
  intro p e R s m args below meth c Q ls hx hb hml C hRf hRl hQ hP hS hl
  have hl : lv_has ls 5 [(0, .ref (a 81)), (1, .int p1), (2, .int p2)] := hl
  unfold f_X9_wrongIn at hf
  refine lv_aload_n hx hb dX9_wrongIn_0 rfl (lv_at hl 0 rfl) ?_
  refine lv_aload_n hx hb dX9_wrongIn_1 rfl (lv_at hl 0 rfl) ?_
  obtain ⟨u1, hzu1, hf⟩ := obd_some hf
  refine zz_callVi (rest := [.ref (a 81)]) hx hb hml C hP hS (c_X9_possible l hDA  hzu1) zw_X9_239 ⟨Nat.le_trans (Nat.le_of_ble_eq_true rfl) hRf, Nat.le_trans (Nat.le_of_ble_eq_true rfl) hRl⟩ (by decide) lay_81 rfl rfl hl.1 (Nat.le_of_ble_eq_true rfl) ⟨Nat.zero_le _, Nat.zero_le _⟩ rfl dX9_wrongIn_2 (fun H locs hP hS => ?_)
  refine zp_X9_286 hx hb C hP hS (by decide) lay_81 rfl dX9_wrongIn_5 (fun σ2 eσ2 H locs hP hS => ?_)
  have hf := bnd_at σ2 eσ2 hf
  refine lv_iconst (v := 0) hx hb dX9_wrongIn_8 (by decide) ?_
  refine lv_istore_n (lv' := [(3, .int 0), (0, .ref (a 81)), (1, .int p1), (2, .int p2)]) hx hb dX9_wrongIn_9 rfl hl (by decide) rfl (fun ls hl => ?_)
  refine loopN_ind (P := fun (q3 : Int32 × PH) => ∀ (H : Heap) (locs : List Loc) (ls : Array Slot), lv_has ls 5 [(0, .ref (a 81)), (1, .int p1), (2, .int p2), (3, .int q3.1)] → va_P D vwCl (wl a cA q3.2 d) H → va_S A s.heap H locs → W p l e R s m args below meth c H locs 0 0 Q (F0 m 10 ls [])) ?_ _ _ hf _ _ _ (lv_sub hl [1, 2, 3, 0] rfl) hP hS
  intro k4 ihk4 q3 hf H locs ls hl hP hS
  unfold b_X9_wrongIn_10 at hf
  refine lv_iload_n hx hb dX9_wrongIn_10 rfl (lv_at hl 3 rfl) ?_
  refine lv_iload_n hx hb dX9_wrongIn_11 rfl (lv_at hl 2 rfl) ?_
  refine lv_icmp_ge (tgt := 88) hx hb dX9_wrongIn_12 (by decide) (fun hb4 => ?_) (fun hb4 => ?_)
  · have hf := ifT hb4 hf
    refine lv_iconst (v := (-1)) hx hb dX9_wrongIn_88 (by decide) ?_
    have hf := Option.some.inj hf
    subst hf
    exact hQ _ _ _ _ dX9_wrongIn_89 hP hS
  · have hf := ifF hb4 hf
    refine lv_aload_n hx hb dX9_wrongIn_15 rfl (lv_at hl 0 rfl) ?_
    refine lv_iload_n hx hb dX9_wrongIn_16 rfl (lv_at hl 1 rfl) ?_
    refine lv_iload_n hx hb dX9_wrongIn_17 rfl (lv_at hl 3 rfl) ?_
    obtain ⟨u6, hzu6, hf⟩ := obd_some hf
    refine zz_callVi (rest := []) hx hb hml C hP hS (c_X9_intAt l hDA p1 q3.1 hzu6) zw_X9_283 ⟨Nat.le_trans (Nat.le_of_ble_eq_true rfl) hRf, Nat.le_trans (Nat.le_of_ble_eq_true rfl) hRl⟩ (by decide) lay_81 rfl rfl hl.1 (Nat.le_of_ble_eq_true rfl) ⟨Nat.zero_le _, Nat.zero_le _⟩ rfl dX9_wrongIn_18 (fun H locs hP hS => ?_)
    refine lv_istore (lv' := [(4, .int u6), (0, .ref (a 81)), (1, .int p1), (2, .int p2), (3, .int q3.1)]) hx hb dX9_wrongIn_21 hl (by decide) rfl (fun ls hl => ?_)
    refine lv_iload_n hx hb dX9_wrongIn_23 rfl (lv_at hl 4 rfl) ?_
    refine lv_iconst (v := 2) hx hb dX9_wrongIn_24 (by decide) ?_
    refine lv_irem hx hb dX9_wrongIn_25 (by decide) ?_
    refine lv_if_ne (tgt := 40) hx hb dX9_wrongIn_26 (by decide) (fun hb6 => ?_) (fun hb6 => ?_)
    · have hf := ifF hb6 hf
      refine lv_aload_n hx hb dX9_wrongIn_40 rfl (lv_at hl 1 rfl) ?_
      refine lv_iload hx hb dX9_wrongIn_41 (lv_at hl 0 rfl) ?_
      obtain ⟨u8, hzu8⟩ : ∃ z, z = f_X9_isOne u6 := ⟨_, rfl⟩
      have hf := bnd_at u8 hzu8 hf
      refine zz_callVi (rest := []) hx hb hml C hP hS (c_X9_isOne l hDA u6 hzu8.symm) zw_X9_175 ⟨Nat.le_trans (Nat.le_of_ble_eq_true rfl) hRf, Nat.le_trans (Nat.le_of_ble_eq_true rfl) hRl⟩ (by decide) lay_81 rfl rfl hl.1 (Nat.le_of_ble_eq_true rfl) ⟨Nat.zero_le _, Nat.zero_le _⟩ rfl dX9_wrongIn_43 (fun H locs hP hS => ?_)
      refine lv_if_ne (tgt := 51) hx hb dX9_wrongIn_46 (by decide) (fun hb8 => ?_) (fun hb8 => ?_)
      · have hf := ifF hb8 hf
        refine lv_aload_n hx hb dX9_wrongIn_51 rfl (lv_at hl 1 rfl) ?_
        refine lv_aload_n hx hb dX9_wrongIn_52 rfl (lv_at hl 1 rfl) ?_
        refine lv_aload_n hx hb dX9_wrongIn_53 rfl (lv_at hl 1 rfl) ?_
        refine zg_X9_286 hx hb C hP (by decide) lay_81 rfl dX9_wrongIn_54 ?_
        refine lv_aload_n hx hb dX9_wrongIn_57 rfl (lv_at hl 1 rfl) ?_
        refine lv_iload_n hx hb dX9_wrongIn_58 rfl (lv_at hl 2 rfl) ?_
        refine lv_iload_n hx hb dX9_wrongIn_59 rfl (lv_at hl 4 rfl) ?_
        refine lv_iconst (v := 1) hx hb dX9_wrongIn_60 (by decide) ?_
        refine lv_isub hx hb dX9_wrongIn_61 ?_
        obtain ⟨u10, hzu10, hf⟩ := obd_some hf
        refine zz_callVi (rest := [.int (gI q3.2 81 41), .ref (a 81), .ref (a 81)]) hx hb hml C hP hS (c_X9_intAt l hDA p1 (q3.1 - 1) hzu10) zw_X9_283 ⟨Nat.le_trans (Nat.le_of_ble_eq_true rfl) hRf, Nat.le_trans (Nat.le_of_ble_eq_true rfl) hRl⟩ (by decide) lay_81 rfl rfl hl.1 (Nat.le_of_ble_eq_true rfl) ⟨Nat.zero_le _, Nat.zero_le _⟩ rfl dX9_wrongIn_62 (fun H locs hP hS => ?_)
        refine lv_iload hx hb dX9_wrongIn_65 (lv_at hl 0 rfl) ?_
        obtain ⟨u11, hzu11, hf⟩ := obd_some hf
        refine zz_callVi (rest := [.ref (a 81)]) hx hb hml C hP hS (c_X9_stays l hDA (gI q3.2 81 41) u10 u6 hzu11) zw_X9_236 ⟨Nat.le_trans (Nat.le_of_ble_eq_true rfl) hRf, Nat.le_trans (Nat.le_of_ble_eq_true rfl) hRl⟩ (by decide) lay_81 rfl rfl hl.1 (Nat.le_of_ble_eq_true rfl) ⟨Nat.zero_le _, Nat.zero_le _⟩ rfl dX9_wrongIn_67 (fun H locs hP hS => ?_)
        refine zp_X9_286 hx hb C hP hS (by decide) lay_81 rfl dX9_wrongIn_70 (fun σ12 eσ12 H locs hP hS => ?_)
        have hf := bnd_at σ12 eσ12 hf
        refine lv_aload_n hx hb dX9_wrongIn_73 rfl (lv_at hl 1 rfl) ?_
        refine zg_X9_286 hx hb C hP (by decide) lay_81 rfl dX9_wrongIn_74 ?_
        refine lv_if_ne (tgt := 82) hx hb dX9_wrongIn_77 (by decide) (fun hb12 => ?_) (fun hb12 => ?_)
        · have hf := ifF hb12 hf
          obtain ⟨v14, ev14⟩ : ∃ z : Int32, z = q3.1 + 1 := ⟨_, rfl⟩
          have hf := bnd_at v14 ev14 hf
          refine lv_iinc (v := v14) (lv' := [(3, .int v14), (4, .int u6), (0, .ref (a 81)), (1, .int p1), (2, .int p2)]) hx hb dX9_wrongIn_82 hl (k := 4) rfl (by rw [ev14]; rfl) (by decide) rfl (fun ls hl => ?_)
          refine lv_goto (tgt := 10) hx hb dX9_wrongIn_85 (by decide) ?_
          exact ihk4 _ hf _ _ _ (lv_sub hl [2, 3, 4, 0] rfl) hP hS
        · have hf := ifT hb12 hf
          refine lv_iload_n hx hb dX9_wrongIn_80 rfl (lv_at hl 4 rfl) ?_
          have hf := Option.some.inj hf
          subst hf
          exact hQ _ _ _ _ dX9_wrongIn_81 hP hS
      · have hf := ifT hb8 hf
        refine lv_iload_n hx hb dX9_wrongIn_49 rfl (lv_at hl 4 rfl) ?_
        have hf := Option.some.inj hf
        subst hf
        exact hQ _ _ _ _ dX9_wrongIn_50 hP hS
    · have hf := ifT hb6 hf
      refine lv_aload_n hx hb dX9_wrongIn_29 rfl (lv_at hl 1 rfl) ?_
      refine lv_iload hx hb dX9_wrongIn_30 (lv_at hl 0 rfl) ?_
      obtain ⟨u15, hzu15, hf⟩ := obd_some hf
      refine zz_callVi (rest := []) hx hb hml C hP hS (c_X9_isLawful l hDA u6 hzu15) zw_X9_248 ⟨Nat.le_trans (Nat.le_of_ble_eq_true rfl) hRf, Nat.le_trans (Nat.le_of_ble_eq_true rfl) hRl⟩ (by decide) lay_81 rfl rfl hl.1 (Nat.le_of_ble_eq_true rfl) ⟨Nat.zero_le _, Nat.zero_le _⟩ rfl dX9_wrongIn_32 (fun H locs hP hS => ?_)
      refine lv_if_ne (tgt := 82) hx hb dX9_wrongIn_35 (by decide) (fun hb15 => ?_) (fun hb15 => ?_)
      · have hf := ifF hb15 hf
        obtain ⟨v17, ev17⟩ : ∃ z : Int32, z = q3.1 + 1 := ⟨_, rfl⟩
        have hf := bnd_at v17 ev17 hf
        refine lv_iinc (v := v17) (lv' := [(3, .int v17), (4, .int u6), (0, .ref (a 81)), (1, .int p1), (2, .int p2)]) hx hb dX9_wrongIn_82 hl (k := 4) rfl (by rw [ev17]; rfl) (by decide) rfl (fun ls hl => ?_)
        refine lv_goto (tgt := 10) hx hb dX9_wrongIn_85 (by decide) ?_
        exact ihk4 _ hf _ _ _ (lv_sub hl [2, 3, 4, 0] rfl) hP hS
      · have hf := ifT hb15 hf
        refine lv_iload_n hx hb dX9_wrongIn_38 rfl (lv_at hl 4 rfl) ?_
        have hf := Option.some.inj hf
        subst hf
        exact hQ _ _ _ _ dX9_wrongIn_39 hP hS
set_option maxHeartbeats 4000000 in
set_option maxRecDepth 100000 in
theorem c_X9_barsOf (l : Launch) {D : va_G} {a : Nat → Nat} {cA : Nat → ClassId} {A : Nat → Prop} {sa : Nat → Nat} (hDA : DA a A) {σ : PH} {d : PD} (p1 : Int32) (p2 : Int32) {u : Int32} (hf : f_X9_barsOf σ p1 p2 = some u) : CTi l yX9_barsOf cX9_barsOf 4 (some .int) 3 65 D a cA A sa [.ref (a 81), .int p1, .int p2] σ d u σ d := by
  refine zz_metI zpl_X9 hDA (Nat.le_of_ble_eq_true rfl) ?_
  intro p e R s m args below meth c Q ls hx hb hml C hRf hRl hQ hP hS hl
  have hl : lv_has ls 4 [(0, .ref (a 81)), (1, .int p1), (2, .int p2)] := hl
  unfold f_X9_barsOf at hf
  refine lv_aload_n hx hb dX9_barsOf_0 rfl (lv_at hl 0 rfl) ?_
  refine lv_iload_n hx hb dX9_barsOf_1 rfl (lv_at hl 1 rfl) ?_
  refine lv_iload_n hx hb dX9_barsOf_2 rfl (lv_at hl 2 rfl) ?_
  obtain ⟨u1, hzu1, hf⟩ := obd_some hf
  refine zz_callVi (rest := []) hx hb hml C hP hS (c_X9_bars l hDA p1 p2 hzu1) zw_X9_280 ⟨Nat.le_trans (Nat.le_of_ble_eq_true rfl) hRf, Nat.le_trans (Nat.le_of_ble_eq_true rfl) hRl⟩ (by decide) lay_81 rfl rfl hl.1 (Nat.le_of_ble_eq_true rfl) ⟨Nat.zero_le _, Nat.zero_le _⟩ rfl dX9_barsOf_3 (fun H locs hP hS => ?_)
  refine lv_istore_n (lv' := [(3, .int u1), (0, .ref (a 81)), (1, .int p1), (2, .int p2)]) hx hb dX9_barsOf_6 rfl hl (by decide) rfl (fun ls hl => ?_)
  refine lv_iload_n hx hb dX9_barsOf_7 rfl (lv_at hl 0 rfl) ?_
  refine lv_if_ne (tgt := 22) hx hb dX9_barsOf_8 (by decide) (fun hb1 => ?_) (fun hb1 => ?_)
  · have hf := ifF hb1 hf
    refine lv_iload_n hx hb dX9_barsOf_22 rfl (lv_at hl 0 rfl) ?_
    have hf := Option.some.inj hf
    subst hf
    exact hQ _ _ _ _ dX9_barsOf_23 hP hS
  · have hf := ifT hb1 hf
    refine lv_iload_n hx hb dX9_barsOf_11 rfl (lv_at hl 3 rfl) ?_
    refine lv_bipush (v := 32) hx hb dX9_barsOf_12 (by decide) ?_
    refine lv_icmp_le (tgt := 22) hx hb dX9_barsOf_14 (by decide) (fun hb2 => ?_) (fun hb2 => ?_)
    · have hf := ifT hb2 hf
      refine lv_iload_n hx hb dX9_barsOf_22 rfl (lv_at hl 0 rfl) ?_
      have hf := Option.some.inj hf
      subst hf
      exact hQ _ _ _ _ dX9_barsOf_23 hP hS
    · have hf := ifF hb2 hf
      refine lv_bipush (v := (-6)) hx hb dX9_barsOf_17 (by decide) ?_
      refine lv_goto (tgt := 23) hx hb dX9_barsOf_19 (by decide) ?_
      have hf := Option.some.inj hf
      subst hf
      exact hQ _ _ _ _ dX9_barsOf_23 hP hS
set_option maxHeartbeats 4000000 in
set_option maxRecDepth 100000 in
theorem c_X9_judge (l : Launch) {D : va_G} {a : Nat → Nat} {cA : Nat → ClassId} {A : Nat → Prop} {sa : Nat → Nat} (hDA : DA a A) {σ : PH} {d : PD} (p1 : Int32) (p2 : Int32) {u : Int32 × PH} (hf : f_X9_judge σ p1 p2 = some u) : CTi l yX9_judge cX9_judge 4 (some .int) 7 164 D a cA A sa [.ref (a 81), .int p1, .int p2] σ d u.1 u.2 d := by
  refine zz_metI zpl_X9 hDA (Nat.le_of_ble_eq_true rfl) ?_
  intro p e R s m args below meth c Q ls hx hb hml C hRf hRl hQ hP hS hl
  have hl : lv_has ls 4 [(0, .ref (a 81)), (1, .int p1), (2, .int p2)] := hl
  unfold f_X9_judge at hf
  refine lv_aload_n hx hb dX9_judge_0 rfl (lv_at hl 0 rfl) ?_
  refine lv_iload_n hx hb dX9_judge_1 rfl (lv_at hl 1 rfl) ?_
  refine lv_iload_n hx hb dX9_judge_2 rfl (lv_at hl 2 rfl) ?_
  obtain ⟨u1, hzu1, hf⟩ := obd_some hf
  refine zz_callVi (rest := []) hx hb hml C hP hS (c_X9_barsOf l hDA p1 p2 hzu1) zw_X9_289 ⟨Nat.le_trans (Nat.le_of_ble_eq_true rfl) hRf, Nat.le_trans (Nat.le_of_ble_eq_true rfl) hRl⟩ (by decide) lay_81 rfl rfl hl.1 (Nat.le_of_ble_eq_true rfl) ⟨Nat.zero_le _, Nat.zero_le _⟩ rfl dX9_judge_3 (fun H locs hP hS => ?_)
  refine lv_istore_n (lv' := [(3, .int u1), (0, .ref (a 81)), (1, .int p1), (2, .int p2)]) hx hb dX9_judge_6 rfl hl (by decide) rfl (fun ls hl => ?_)
  refine lv_iload_n hx hb dX9_judge_7 rfl (lv_at hl 0 rfl) ?_
  refine lv_if_eq (tgt := 19) hx hb dX9_judge_8 (by decide) (fun hb1 => ?_) (fun hb1 => ?_)
  · have hf := ifT hb1 hf
    refine lv_aload_n hx hb dX9_judge_19 rfl (lv_at hl 1 rfl) ?_
    refine lv_iload_n hx hb dX9_judge_20 rfl (lv_at hl 2 rfl) ?_
    refine lv_iload_n hx hb dX9_judge_21 rfl (lv_at hl 3 rfl) ?_
    obtain ⟨u3, hzu3, hf⟩ := obd_some hf
    refine zz_callVi (rest := []) hx hb hml C hP hS (c_X9_wrongIn l hDA p1 p2 hzu3) zw_X9_295 ⟨Nat.le_trans (Nat.le_of_ble_eq_true rfl) hRf, Nat.le_trans (Nat.le_of_ble_eq_true rfl) hRl⟩ (by decide) lay_81 rfl rfl hl.1 (Nat.le_of_ble_eq_true rfl) ⟨Nat.zero_le _, Nat.zero_le _⟩ rfl dX9_judge_22 (fun H locs hP hS => ?_)
    have hf := Option.some.inj hf
    subst hf
    exact hQ _ _ _ _ dX9_judge_25 hP hS
  · have hf := ifF hb1 hf
    refine lv_aload_n hx hb dX9_judge_11 rfl (lv_at hl 1 rfl) ?_
    refine lv_iload_n hx hb dX9_judge_12 rfl (lv_at hl 0 rfl) ?_
    obtain ⟨u4, hzu4, hf⟩ := obd_some hf
    refine zz_callVi (rest := []) hx hb hml C hP hS (c_X9_noTen l hDA u1 hzu4) zw_X9_292 ⟨Nat.le_trans (Nat.le_of_ble_eq_true rfl) hRf, Nat.le_trans (Nat.le_of_ble_eq_true rfl) hRl⟩ (by decide) lay_81 rfl rfl hl.1 (Nat.le_of_ble_eq_true rfl) ⟨Nat.zero_le _, Nat.zero_le _⟩ rfl dX9_judge_13 (fun H locs hP hS => ?_)
    refine lv_goto (tgt := 25) hx hb dX9_judge_16 (by decide) ?_
    have hf := Option.some.inj hf
    subst hf
    exact hQ _ _ _ _ dX9_judge_25 hP hS
set_option maxHeartbeats 4000000 in
set_option maxRecDepth 100000 in
theorem c_X9_behind (l : Launch) {D : va_G} {a : Nat → Nat} {cA : Nat → ClassId} {A : Nat → Prop} {sa : Nat → Nat} (hDA : DA a A) {σ : PH} {d : PD} (p1 : Int32) (p2 : Int32) {u : Int32 × PH} (hf : f_X9_behind σ p1 p2 = some u) : CTi l yX9_behind cX9_behind 4 (some .int) 7 164 D a cA A sa [.ref (a 81), .int p1, .int p2] σ d u.1 u.2 d := by
  refine zz_metI zpl_X9 hDA (Nat.le_of_ble_eq_true rfl) ?_
  intro p e R s m args below meth c Q ls hx hb hml C hRf hRl hQ hP hS hl
  have hl : lv_has ls 4 [(0, .ref (a 81)), (1, .int p1), (2, .int p2)] := hl
  unfold f_X9_behind at hf
  refine lv_aload_n hx hb dX9_behind_0 rfl (lv_at hl 0 rfl) ?_
  refine lv_iload_n hx hb dX9_behind_1 rfl (lv_at hl 1 rfl) ?_
  refine lv_iload_n hx hb dX9_behind_2 rfl (lv_at hl 2 rfl) ?_
  obtain ⟨u1, hzu1, hf⟩ := obd_some hf
  refine zz_callVi (rest := []) hx hb hml C hP hS (c_X9_barsOf l hDA p1 p2 hzu1) zw_X9_289 ⟨Nat.le_trans (Nat.le_of_ble_eq_true rfl) hRf, Nat.le_trans (Nat.le_of_ble_eq_true rfl) hRl⟩ (by decide) lay_81 rfl rfl hl.1 (Nat.le_of_ble_eq_true rfl) ⟨Nat.zero_le _, Nat.zero_le _⟩ rfl dX9_behind_3 (fun H locs hP hS => ?_)
  refine lv_istore_n (lv' := [(3, .int u1), (0, .ref (a 81)), (1, .int p1), (2, .int p2)]) hx hb dX9_behind_6 rfl hl (by decide) rfl (fun ls hl => ?_)
  refine lv_iload_n hx hb dX9_behind_7 rfl (lv_at hl 0 rfl) ?_
  have hJ31 : ∀ (v2 : Int32) (σ3 : PH), j_X9_behind_31 v2 σ3 = some u → ∀ (H : Heap) (locs : List Loc) (ls : Array Slot), lv_has ls 4 [(0, .ref (a 81)), (3, .int v2)] → va_P D vwCl (wl a cA σ3 d) H → va_S A s.heap H locs → W p l e R s m args below meth c H locs 0 0 Q (F0 m 31 ls []) := by
    intro v2 σ3 hf H locs ls hl hP hS
    unfold j_X9_behind_31 at hf
    refine lv_iload_n hx hb dX9_behind_31 rfl (lv_at hl 1 rfl) ?_
    refine lv_if_eq (tgt := 43) hx hb dX9_behind_32 (by decide) (fun hb3 => ?_) (fun hb3 => ?_)
    · have hf := ifT hb3 hf
      refine lv_aload_n hx hb dX9_behind_43 rfl (lv_at hl 0 rfl) ?_
      refine zg_X9_286 hx hb C hP (by decide) lay_81 rfl dX9_behind_44 ?_
      have hf := Option.some.inj hf
      subst hf
      exact hQ _ _ _ _ dX9_behind_47 hP hS
    · have hf := ifF hb3 hf
      refine lv_aload_n hx hb dX9_behind_35 rfl (lv_at hl 0 rfl) ?_
      refine lv_iload_n hx hb dX9_behind_36 rfl (lv_at hl 1 rfl) ?_
      obtain ⟨u5, hzu5, hf⟩ := obd_some hf
      refine zz_callVi (rest := []) hx hb hml C hP hS (c_X9_no l hDA v2 hzu5) zw_X9_107 ⟨Nat.le_trans (Nat.le_of_ble_eq_true rfl) hRf, Nat.le_trans (Nat.le_of_ble_eq_true rfl) hRl⟩ (by decide) lay_81 rfl rfl hl.1 (Nat.le_of_ble_eq_true rfl) ⟨Nat.zero_le _, Nat.zero_le _⟩ rfl dX9_behind_37 (fun H locs hP hS => ?_)
      refine lv_goto (tgt := 47) hx hb dX9_behind_40 (by decide) ?_
      have hf := Option.some.inj hf
      subst hf
      exact hQ _ _ _ _ dX9_behind_47 hP hS
  refine lv_if_ne (tgt := 31) hx hb dX9_behind_8 (by decide) (fun hb5 => ?_) (fun hb5 => ?_)
  · have hf := ifF hb5 hf
    exact hJ31 _ _ hf _ _ _ (lv_sub hl [1, 0] rfl) hP hS
  · have hf := ifT hb5 hf
    refine lv_iload_n hx hb dX9_behind_11 rfl (lv_at hl 3 rfl) ?_
    refine lv_iconst (v := 2) hx hb dX9_behind_12 (by decide) ?_
    refine lv_irem hx hb dX9_behind_13 (by decide) ?_
    refine lv_iconst (v := 1) hx hb dX9_behind_14 (by decide) ?_
    have hJ28 : ∀ (σ7 : PH), j_X9_behind_28 σ7 = some u → ∀ (H : Heap) (locs : List Loc) (ls : Array Slot), lv_has ls 4 [(0, .ref (a 81))] → va_P D vwCl (wl a cA σ7 d) H → va_S A s.heap H locs → W p l e R s m args below meth c H locs 0 0 Q (F0 m 28 ls []) := by
      intro σ7 hf H locs ls hl hP hS
      unfold j_X9_behind_28 at hf
      refine lv_bipush (v := (-6)) hx hb dX9_behind_28 (by decide) ?_
      refine lv_istore_n (lv' := [(3, .int (-6)), (0, .ref (a 81))]) hx hb dX9_behind_30 rfl hl (by decide) rfl (fun ls hl => ?_)
      exact hJ31 _ _ hf _ _ _ (lv_sub hl [1, 0] rfl) hP hS
    refine lv_icmp_eq (tgt := 28) hx hb dX9_behind_15 (by decide) (fun hb7 => ?_) (fun hb7 => ?_)
    · have hf := ifT hb7 hf
      exact hJ28 _ hf _ _ _ (lv_sub hl [1] rfl) hP hS
    · have hf := ifF hb7 hf
      refine lv_aload_n hx hb dX9_behind_18 rfl (lv_at hl 1 rfl) ?_
      refine lv_iload_n hx hb dX9_behind_19 rfl (lv_at hl 2 rfl) ?_
      refine lv_iload_n hx hb dX9_behind_20 rfl (lv_at hl 3 rfl) ?_
      obtain ⟨u9, hzu9, hf⟩ := obd_some hf
      refine zz_callVi (rest := []) hx hb hml C hP hS (c_X9_wrongIn l hDA p1 p2 hzu9) zw_X9_295 ⟨Nat.le_trans (Nat.le_of_ble_eq_true rfl) hRf, Nat.le_trans (Nat.le_of_ble_eq_true rfl) hRl⟩ (by decide) lay_81 rfl rfl hl.1 (Nat.le_of_ble_eq_true rfl) ⟨Nat.zero_le _, Nat.zero_le _⟩ rfl dX9_behind_21 (fun H locs hP hS => ?_)
      refine lv_iconst (v := (-1)) hx hb dX9_behind_24 (by decide) ?_
      refine lv_icmp_eq (tgt := 31) hx hb dX9_behind_25 (by decide) (fun hb9 => ?_) (fun hb9 => ?_)
      · have hf := ifT hb9 hf
        exact hJ31 _ _ hf _ _ _ (lv_sub hl [1, 0] rfl) hP hS
      · have hf := ifF hb9 hf
        exact hJ28 _ hf _ _ _ (lv_sub hl [1] rfl) hP hS
set_option maxHeartbeats 4000000 in
set_option maxRecDepth 100000 in
theorem c_X9_byEar (l : Launch) {D : va_G} {a : Nat → Nat} {cA : Nat → ClassId} {A : Nat → Prop} {sa : Nat → Nat} (hDA : DA a A) {σ : PH} {d : PD} (p1 : Int32) (p2 : Int32) {u : Int32 × PH} (hf : f_X9_byEar σ p1 p2 = some u) : CTi l yX9_byEar cX9_byEar 11 (some .int) 4 93 D a cA A sa [.ref (a 81), .int p1, .int p2] σ d u.1 u.2 d := by
  refine zz_metI zpl_X9 hDA (Nat.le_of_ble_eq_true rfl) ?_
  intro p e R s m args below meth c Q ls hx hb hml C hRf hRl hQ hP hS hl
  have hl : lv_has ls 11 [(0, .ref (a 81)), (1, .int p1), (2, .int p2)] := hl
  unfold f_X9_byEar at hf
  refine lv_aload_n hx hb dX9_byEar_0 rfl (lv_at hl 0 rfl) ?_
  refine lv_iload_n hx hb dX9_byEar_1 rfl (lv_at hl 1 rfl) ?_
  refine lv_iload_n hx hb dX9_byEar_2 rfl (lv_at hl 2 rfl) ?_
  obtain ⟨u1, hzu1, hf⟩ := obd_some hf
  refine zz_callVi (rest := []) hx hb hml C hP hS (c_X9_bars l hDA p1 p2 hzu1) zw_X9_280 ⟨Nat.le_trans (Nat.le_of_ble_eq_true rfl) hRf, Nat.le_trans (Nat.le_of_ble_eq_true rfl) hRl⟩ (by decide) lay_81 rfl rfl hl.1 (Nat.le_of_ble_eq_true rfl) ⟨Nat.zero_le _, Nat.zero_le _⟩ rfl dX9_byEar_3 (fun H locs hP hS => ?_)
  refine lv_istore_n (lv' := [(3, .int u1), (0, .ref (a 81)), (1, .int p1), (2, .int p2)]) hx hb dX9_byEar_6 rfl hl (by decide) rfl (fun ls hl => ?_)
  refine lv_iload_n hx hb dX9_byEar_7 rfl (lv_at hl 0 rfl) ?_
  have hJ21 : ∀ (v2 : Int32), j_X9_byEar_21 σ p1 p2 v2 = some u → ∀ (H : Heap) (locs : List Loc) (ls : Array Slot), lv_has ls 11 [(0, .ref (a 81)), (1, .int p1), (2, .int p2), (3, .int v2)] → va_P D vwCl (wl a cA σ d) H → va_S A s.heap H locs → W p l e R s m args below meth c H locs 0 0 Q (F0 m 21 ls []) := by
    intro v2 hf H locs ls hl hP hS
    unfold j_X9_byEar_21 at hf
    refine lv_iload_n hx hb dX9_byEar_21 rfl (lv_at hl 3 rfl) ?_
    have hJ41 : ∀ (v3 : Int32), j_X9_byEar_41 σ p1 p2 v3 = some u → ∀ (H : Heap) (locs : List Loc) (ls : Array Slot), lv_has ls 11 [(0, .ref (a 81)), (1, .int p1), (2, .int p2), (3, .int v3)] → va_P D vwCl (wl a cA σ d) H → va_S A s.heap H locs → W p l e R s m args below meth c H locs 0 0 Q (F0 m 41 ls []) := by
      intro v3 hf H locs ls hl hP hS
      unfold j_X9_byEar_41 at hf
      refine lv_iconst (v := 0) hx hb dX9_byEar_41 (by decide) ?_
      refine lv_istore (lv' := [(4, .int 0), (0, .ref (a 81)), (1, .int p1), (2, .int p2), (3, .int v3)]) hx hb dX9_byEar_42 hl (by decide) rfl (fun ls hl => ?_)
      have hJ101 : ∀ (v4 : Int32), j_X9_byEar_101 σ p1 p2 v4 = some u → ∀ (H : Heap) (locs : List Loc) (ls : Array Slot), lv_has ls 11 [(0, .ref (a 81)), (1, .int p1), (2, .int p2), (3, .int v4)] → va_P D vwCl (wl a cA σ d) H → va_S A s.heap H locs → W p l e R s m args below meth c H locs 0 0 Q (F0 m 101 ls []) := by
        intro v4 hf H locs ls hl hP hS
        unfold j_X9_byEar_101 at hf
        refine lv_iload_n hx hb dX9_byEar_101 rfl (lv_at hl 3 rfl) ?_
        refine lv_if_eq (tgt := 111) hx hb dX9_byEar_102 (by decide) (fun hb4 => ?_) (fun hb4 => ?_)
        · have hf := ifT hb4 hf
          refine lv_aload_n hx hb dX9_byEar_111 rfl (lv_at hl 0 rfl) ?_
          obtain ⟨u6, hzu6, hf⟩ := obd_some hf
          refine zz_callVi (rest := []) hx hb hml C hP hS (c_X9_lists l hDA  hzu6) zw_X9_233 ⟨Nat.le_trans (Nat.le_of_ble_eq_true rfl) hRf, Nat.le_trans (Nat.le_of_ble_eq_true rfl) hRl⟩ (by decide) lay_81 rfl rfl hl.1 (Nat.le_of_ble_eq_true rfl) ⟨Nat.zero_le _, Nat.zero_le _⟩ rfl dX9_byEar_112 (fun H locs hP hS => ?_)
          refine lv_istore (lv' := [(4, .int u6.1), (0, .ref (a 81)), (1, .int p1), (2, .int p2), (3, .int v4)]) hx hb dX9_byEar_115 hl (by decide) rfl (fun ls hl => ?_)
          refine lv_iconst (v := 0) hx hb dX9_byEar_117 (by decide) ?_
          refine lv_istore (lv' := [(5, .int 0), (4, .int u6.1), (0, .ref (a 81)), (1, .int p1), (2, .int p2), (3, .int v4)]) hx hb dX9_byEar_118 hl (by decide) rfl (fun ls hl => ?_)
          refine lv_iconst (v := (-1)) hx hb dX9_byEar_120 (by decide) ?_
          refine lv_istore (lv' := [(6, .int (-1)), (5, .int 0), (4, .int u6.1), (0, .ref (a 81)), (1, .int p1), (2, .int p2), (3, .int v4)]) hx hb dX9_byEar_121 hl (by decide) rfl (fun ls hl => ?_)
          refine lv_iconst (v := 0) hx hb dX9_byEar_123 (by decide) ?_
          refine lv_istore (lv' := [(7, .int 0), (6, .int (-1)), (5, .int 0), (4, .int u6.1), (0, .ref (a 81)), (1, .int p1), (2, .int p2), (3, .int v4)]) hx hb dX9_byEar_124 hl (by decide) rfl (fun ls hl => ?_)
          refine loopN_ind (P := fun (q7 : Int32 × Int32 × Int32) => ∀ (H : Heap) (locs : List Loc) (ls : Array Slot), lv_has ls 11 [(0, .ref (a 81)), (1, .int p1), (2, .int p2), (4, .int u6.1), (5, .int q7.1), (6, .int q7.2.1), (7, .int q7.2.2)] → va_P D vwCl (wl a cA u6.2 d) H → va_S A s.heap H locs → W p l e R s m args below meth c H locs 0 0 Q (F0 m 126 ls [])) ?_ _ _ hf _ _ _ (lv_sub hl [4, 5, 6, 3, 2, 1, 0] rfl) hP hS
          intro k8 ihk8 q7 hf H locs ls hl hP hS
          unfold b_X9_byEar_126 at hf
          refine lv_iload hx hb dX9_byEar_126 (lv_at hl 6 rfl) ?_
          refine lv_iload hx hb dX9_byEar_128 (lv_at hl 3 rfl) ?_
          refine lv_icmp_ge (tgt := 262) hx hb dX9_byEar_130 (by decide) (fun hb8 => ?_) (fun hb8 => ?_)
          · have hf := ifT hb8 hf
            refine lv_iload hx hb dX9_byEar_262 (lv_at hl 4 rfl) ?_
            have hf := Option.some.inj hf
            subst hf
            exact hQ _ _ _ _ dX9_byEar_264 hP hS
          · have hf := ifF hb8 hf
            refine lv_sipush (v := 10000) hx hb dX9_byEar_133 (by decide) ?_
            refine lv_aload_n hx hb dX9_byEar_136 rfl (lv_at hl 0 rfl) ?_
            refine lv_aload_n hx hb dX9_byEar_137 rfl (lv_at hl 0 rfl) ?_
            refine zg_X9_78 hx hb C hP (by decide) lay_81 rfl dX9_byEar_138 ?_
            refine lv_iload hx hb dX9_byEar_141 (lv_at hl 6 rfl) ?_
            obtain ⟨hc9, hf⟩ := chk_some hf
            refine zz_iald hx hb C hP (by decide) lay_100 (inb_vp hc9) dX9_byEar_143 ?_
            obtain ⟨u11, hzu11, hf⟩ := obd_some hf
            refine zz_callVi (rest := [.int 10000]) hx hb hml C hP hS (c_X9_weight l hDA (gI u6.2 100 q7.2.2.toNatClampNeg) hzu11) zw_X9_245 ⟨Nat.le_trans (Nat.le_of_ble_eq_true rfl) hRf, Nat.le_trans (Nat.le_of_ble_eq_true rfl) hRl⟩ (by decide) lay_81 rfl rfl hl.1 (Nat.le_of_ble_eq_true rfl) ⟨Nat.zero_le _, Nat.zero_le _⟩ rfl dX9_byEar_144 (fun H locs hP hS => ?_)
            refine lv_imul hx hb dX9_byEar_147 ?_
            refine lv_topi (fun v12 ev12 => ?_)
            have hf := bnd_at v12 ev12 hf
            refine lv_istore (lv' := [(8, .int v12), (0, .ref (a 81)), (1, .int p1), (2, .int p2), (4, .int u6.1), (5, .int q7.1), (6, .int q7.2.1), (7, .int q7.2.2)]) hx hb dX9_byEar_148 hl (by decide) rfl (fun ls hl => ?_)
            refine lv_iconst (v := 0) hx hb dX9_byEar_150 (by decide) ?_
            refine lv_istore (lv' := [(9, .int 0), (8, .int v12), (0, .ref (a 81)), (1, .int p1), (2, .int p2), (4, .int u6.1), (5, .int q7.1), (6, .int q7.2.1), (7, .int q7.2.2)]) hx hb dX9_byEar_151 hl (by decide) rfl (fun ls hl => ?_)
            have hJ233 : ∀ (v13 : Int32), j_X9_byEar_233 u6 q7 k8 v13 = some u → ∀ (H : Heap) (locs : List Loc) (ls : Array Slot), lv_has ls 11 [(0, .ref (a 81)), (1, .int p1), (2, .int p2), (4, .int u6.1), (5, .int q7.1), (6, .int q7.2.1), (7, .int q7.2.2), (8, .int v13)] → va_P D vwCl (wl a cA u6.2 d) H → va_S A s.heap H locs → W p l e R s m args below meth c H locs 0 0 Q (F0 m 233 ls []) := by
              intro v13 hf H locs ls hl hP hS
              unfold j_X9_byEar_233 at hf
              refine lv_iload hx hb dX9_byEar_233 (lv_at hl 7 rfl) ?_
              refine lv_iload hx hb dX9_byEar_235 (lv_at hl 5 rfl) ?_
              refine lv_icmp_gt (tgt := 243) hx hb dX9_byEar_237 (by decide) (fun hb13 => ?_) (fun hb13 => ?_)
              · have hf := ifT hb13 hf
                refine lv_aload_n hx hb dX9_byEar_243 rfl (lv_at hl 0 rfl) ?_
                refine zg_X9_78 hx hb C hP (by decide) lay_81 rfl dX9_byEar_244 ?_
                refine lv_iload hx hb dX9_byEar_247 (lv_at hl 6 rfl) ?_
                obtain ⟨hc14, hf⟩ := chk_some hf
                refine zz_iald hx hb C hP (by decide) lay_100 (inb_vp hc14) dX9_byEar_249 ?_
                refine lv_topi (fun v16 ev16 => ?_)
                have hf := bnd_at v16 ev16 hf
                refine lv_istore (lv' := [(5, .int v16), (0, .ref (a 81)), (1, .int p1), (2, .int p2), (4, .int u6.1), (6, .int q7.2.1), (7, .int q7.2.2), (8, .int v13)]) hx hb dX9_byEar_250 hl (by decide) rfl (fun ls hl => ?_)
                refine lv_iload hx hb dX9_byEar_252 (lv_at hl 7 rfl) ?_
                refine lv_istore (lv' := [(6, .int v13), (5, .int v16), (0, .ref (a 81)), (1, .int p1), (2, .int p2), (4, .int u6.1), (7, .int q7.2.2), (8, .int v13)]) hx hb dX9_byEar_254 hl (by decide) rfl (fun ls hl => ?_)
                obtain ⟨v17, ev17⟩ : ∃ z : Int32, z = q7.2.2 + 1 := ⟨_, rfl⟩
                have hf := bnd_at v17 ev17 hf
                refine lv_iinc (v := v17) (lv' := [(7, .int v17), (6, .int v13), (5, .int v16), (0, .ref (a 81)), (1, .int p1), (2, .int p2), (4, .int u6.1), (8, .int v13)]) hx hb dX9_byEar_256 hl (k := 6) rfl (by rw [ev17]; rfl) (by decide) rfl (fun ls hl => ?_)
                refine lv_goto (tgt := 126) hx hb dX9_byEar_259 (by decide) ?_
                exact ihk8 _ hf _ _ _ (lv_sub hl [3, 4, 5, 6, 2, 1, 0] rfl) hP hS
              · have hf := ifF hb13 hf
                refine lv_goto (tgt := 256) hx hb dX9_byEar_240 (by decide) ?_
                obtain ⟨v18, ev18⟩ : ∃ z : Int32, z = q7.2.2 + 1 := ⟨_, rfl⟩
                have hf := bnd_at v18 ev18 hf
                refine lv_iinc (v := v18) (lv' := [(7, .int v18), (0, .ref (a 81)), (1, .int p1), (2, .int p2), (4, .int u6.1), (5, .int q7.1), (6, .int q7.2.1), (8, .int v13)]) hx hb dX9_byEar_256 hl (k := 6) rfl (by rw [ev18]; rfl) (by decide) rfl (fun ls hl => ?_)
                refine lv_goto (tgt := 126) hx hb dX9_byEar_259 (by decide) ?_
                exact ihk8 _ hf _ _ _ (lv_sub hl [1, 2, 3, 4, 5, 6, 0] rfl) hP hS
            refine loopN_ind (P := fun (q19 : Int32 × Int32) => ∀ (H : Heap) (locs : List Loc) (ls : Array Slot), lv_has ls 11 [(0, .ref (a 81)), (1, .int p1), (2, .int p2), (4, .int u6.1), (5, .int q7.1), (6, .int q7.2.1), (7, .int q7.2.2), (8, .int q19.1), (9, .int q19.2)] → va_P D vwCl (wl a cA u6.2 d) H → va_S A s.heap H locs → W p l e R s m args below meth c H locs 0 0 Q (F0 m 153 ls [])) ?_ _ _ hf _ _ _ (lv_sub hl [2, 3, 4, 5, 6, 7, 8, 1, 0] rfl) hP hS
            intro k20 ihk20 q19 hf H locs ls hl hP hS
            unfold b_X9_byEar_153 at hf
            refine lv_iload hx hb dX9_byEar_153 (lv_at hl 8 rfl) ?_
            refine lv_iload_n hx hb dX9_byEar_155 rfl (lv_at hl 2 rfl) ?_
            refine lv_icmp_ge (tgt := 233) hx hb dX9_byEar_156 (by decide) (fun hb20 => ?_) (fun hb20 => ?_)
            · have hf := ifT hb20 hf
              exact hJ233 _ hf _ _ _ (lv_sub hl [0, 1, 2, 3, 4, 5, 6, 7] rfl) hP hS
            · have hf := ifF hb20 hf
              refine lv_aload_n hx hb dX9_byEar_159 rfl (lv_at hl 0 rfl) ?_
              refine lv_aload_n hx hb dX9_byEar_160 rfl (lv_at hl 0 rfl) ?_
              refine lv_iload_n hx hb dX9_byEar_161 rfl (lv_at hl 1 rfl) ?_
              refine lv_iload hx hb dX9_byEar_162 (lv_at hl 8 rfl) ?_
              obtain ⟨u22, hzu22, hf⟩ := obd_some hf
              refine zz_callVi (rest := [.ref (a 81)]) hx hb hml C hP hS (c_X9_intAt l hDA p1 q19.2 hzu22) zw_X9_283 ⟨Nat.le_trans (Nat.le_of_ble_eq_true rfl) hRf, Nat.le_trans (Nat.le_of_ble_eq_true rfl) hRl⟩ (by decide) lay_81 rfl rfl hl.1 (Nat.le_of_ble_eq_true rfl) ⟨Nat.zero_le _, Nat.zero_le _⟩ rfl dX9_byEar_164 (fun H locs hP hS => ?_)
              refine lv_aload_n hx hb dX9_byEar_167 rfl (lv_at hl 0 rfl) ?_
              refine zg_X9_78 hx hb C hP (by decide) lay_81 rfl dX9_byEar_168 ?_
              refine lv_iload hx hb dX9_byEar_171 (lv_at hl 6 rfl) ?_
              obtain ⟨hc22, hf⟩ := chk_some hf
              refine zz_iald hx hb C hP (by decide) lay_100 (inb_vp hc22) dX9_byEar_173 ?_
              obtain ⟨u24, hzu24, hf⟩ := obd_some hf
              refine zz_callVi (rest := []) hx hb hml C hP hS (c_X9_soundOf l hDA u22 (gI u6.2 100 q7.2.2.toNatClampNeg) hzu24) zw_X9_230 ⟨Nat.le_trans (Nat.le_of_ble_eq_true rfl) hRf, Nat.le_trans (Nat.le_of_ble_eq_true rfl) hRl⟩ (by decide) lay_81 rfl rfl hl.1 (Nat.le_of_ble_eq_true rfl) ⟨Nat.zero_le _, Nat.zero_le _⟩ rfl dX9_byEar_174 (fun H locs hP hS => ?_)
              refine lv_aload_n hx hb dX9_byEar_177 rfl (lv_at hl 0 rfl) ?_
              refine lv_iload_n hx hb dX9_byEar_178 rfl (lv_at hl 1 rfl) ?_
              refine lv_iload hx hb dX9_byEar_179 (lv_at hl 8 rfl) ?_
              refine lv_iconst (v := 1) hx hb dX9_byEar_181 (by decide) ?_
              refine lv_iadd hx hb dX9_byEar_182 ?_
              obtain ⟨u25, hzu25, hf⟩ := obd_some hf
              refine zz_callVi (rest := [.int u24]) hx hb hml C hP hS (c_X9_intAt l hDA p1 (q19.2 + 1) hzu25) zw_X9_283 ⟨Nat.le_trans (Nat.le_of_ble_eq_true rfl) hRf, Nat.le_trans (Nat.le_of_ble_eq_true rfl) hRl⟩ (by decide) lay_81 rfl rfl hl.1 (Nat.le_of_ble_eq_true rfl) ⟨Nat.zero_le _, Nat.zero_le _⟩ rfl dX9_byEar_183 (fun H locs hP hS => ?_)
              have hJ194 : ∀ (v26 : Int32), j_X9_byEar_194 u6 q19 k20 v26 = some u → ∀ (H : Heap) (locs : List Loc) (ls : Array Slot), lv_has ls 11 [(0, .ref (a 81)), (1, .int p1), (2, .int p2), (4, .int u6.1), (5, .int q7.1), (6, .int q7.2.1), (7, .int q7.2.2), (8, .int q19.1), (9, .int q19.2)] → va_P D vwCl (wl a cA u6.2 d) H → va_S A s.heap H locs → W p l e R s m args below meth c H locs 0 0 Q (F0 m 194 ls [.int v26]) := by
                intro v26 hf H locs ls hl hP hS
                unfold j_X9_byEar_194 at hf
                refine lv_istore (lv' := [(10, .int v26), (0, .ref (a 81)), (1, .int p1), (2, .int p2), (4, .int u6.1), (5, .int q7.1), (6, .int q7.2.1), (7, .int q7.2.2), (8, .int q19.1), (9, .int q19.2)]) hx hb dX9_byEar_194 hl (by decide) rfl (fun ls hl => ?_)
                refine lv_iload hx hb dX9_byEar_196 (lv_at hl 8 rfl) ?_
                refine lv_i2l (v := q19.1.toInt64) hx hb dX9_byEar_198 rfl ?_
                refine lv_iload hx hb dX9_byEar_199 (lv_at hl 0 rfl) ?_
                refine lv_if_eq (tgt := 214) hx hb dX9_byEar_201 (by decide) (fun hb26 => ?_) (fun hb26 => ?_)
                · have hf := ifT hb26 hf
                  refine lv_aload_n hx hb dX9_byEar_214 rfl (lv_at hl 1 rfl) ?_
                  refine zg_X9_139 hx hb C hP (by decide) lay_81 rfl dX9_byEar_215 ?_
                  refine lv_i2l (v := (gI u6.2 81 4).toInt64) hx hb dX9_byEar_218 rfl ?_
                  refine lv_lmul hx hb dX9_byEar_219 ?_
                  refine lv_ldc2 (v := 100) hx hb C.1 (C.2.1 _ kk_X9_298) dX9_byEar_220 ?_
                  refine lv_ldiv hx hb dX9_byEar_223 (by decide) ?_
                  refine lv_l2i (v := ((q19.1.toInt64 * ((gI u6.2 81 4).toInt64)) / 100).toInt32) hx hb dX9_byEar_224 rfl ?_
                  refine lv_topi (fun v28 ev28 => ?_)
                  have hf := bnd_at v28 ev28 hf
                  refine lv_istore (lv' := [(8, .int v28), (10, .int v26), (0, .ref (a 81)), (1, .int p1), (2, .int p2), (4, .int u6.1), (5, .int q7.1), (6, .int q7.2.1), (7, .int q7.2.2), (9, .int q19.2)]) hx hb dX9_byEar_225 hl (by decide) rfl (fun ls hl => ?_)
                  obtain ⟨v29, ev29⟩ : ∃ z : Int32, z = q19.2 + 2 := ⟨_, rfl⟩
                  have hf := bnd_at v29 ev29 hf
                  refine lv_iinc (v := v29) (lv' := [(9, .int v29), (8, .int v28), (10, .int v26), (0, .ref (a 81)), (1, .int p1), (2, .int p2), (4, .int u6.1), (5, .int q7.1), (6, .int q7.2.1), (7, .int q7.2.2)]) hx hb dX9_byEar_227 hl (k := 9) rfl (by rw [ev29]; rfl) (by decide) rfl (fun ls hl => ?_)
                  refine lv_goto (tgt := 153) hx hb dX9_byEar_230 (by decide) ?_
                  exact ihk20 _ hf _ _ _ (lv_sub hl [3, 4, 5, 6, 7, 8, 9, 1, 0] rfl) hP hS
                · have hf := ifF hb26 hf
                  refine lv_bipush (v := 100) hx hb dX9_byEar_204 (by decide) ?_
                  refine lv_aload_n hx hb dX9_byEar_206 rfl (lv_at hl 1 rfl) ?_
                  refine zg_X9_139 hx hb C hP (by decide) lay_81 rfl dX9_byEar_207 ?_
                  refine lv_isub hx hb dX9_byEar_210 ?_
                  refine lv_goto (tgt := 218) hx hb dX9_byEar_211 (by decide) ?_
                  refine lv_i2l (v := (100 - (gI u6.2 81 4)).toInt64) hx hb dX9_byEar_218 rfl ?_
                  refine lv_lmul hx hb dX9_byEar_219 ?_
                  refine lv_ldc2 (v := 100) hx hb C.1 (C.2.1 _ kk_X9_298) dX9_byEar_220 ?_
                  refine lv_ldiv hx hb dX9_byEar_223 (by decide) ?_
                  refine lv_l2i (v := ((q19.1.toInt64 * ((100 - (gI u6.2 81 4)).toInt64)) / 100).toInt32) hx hb dX9_byEar_224 rfl ?_
                  refine lv_topi (fun v30 ev30 => ?_)
                  have hf := bnd_at v30 ev30 hf
                  refine lv_istore (lv' := [(8, .int v30), (10, .int v26), (0, .ref (a 81)), (1, .int p1), (2, .int p2), (4, .int u6.1), (5, .int q7.1), (6, .int q7.2.1), (7, .int q7.2.2), (9, .int q19.2)]) hx hb dX9_byEar_225 hl (by decide) rfl (fun ls hl => ?_)
                  obtain ⟨v31, ev31⟩ : ∃ z : Int32, z = q19.2 + 2 := ⟨_, rfl⟩
                  have hf := bnd_at v31 ev31 hf
                  refine lv_iinc (v := v31) (lv' := [(9, .int v31), (8, .int v30), (10, .int v26), (0, .ref (a 81)), (1, .int p1), (2, .int p2), (4, .int u6.1), (5, .int q7.1), (6, .int q7.2.1), (7, .int q7.2.2)]) hx hb dX9_byEar_227 hl (k := 9) rfl (by rw [ev31]; rfl) (by decide) rfl (fun ls hl => ?_)
                  refine lv_goto (tgt := 153) hx hb dX9_byEar_230 (by decide) ?_
                  exact ihk20 _ hf _ _ _ (lv_sub hl [3, 4, 5, 6, 7, 8, 9, 1, 0] rfl) hP hS
              refine lv_icmp_ne (tgt := 193) hx hb dX9_byEar_186 (by decide) (fun hb31 => ?_) (fun hb31 => ?_)
              · have hf := ifF hb31 hf
                refine lv_iconst (v := 0) hx hb dX9_byEar_193 (by decide) ?_
                exact hJ194 _ hf _ _ _ (lv_sub hl [0, 1, 2, 3, 4, 5, 6, 7, 8] rfl) hP hS
              · have hf := ifT hb31 hf
                refine lv_iconst (v := 1) hx hb dX9_byEar_189 (by decide) ?_
                refine lv_goto (tgt := 194) hx hb dX9_byEar_190 (by decide) ?_
                exact hJ194 _ hf _ _ _ (lv_sub hl [0, 1, 2, 3, 4, 5, 6, 7, 8] rfl) hP hS
        · have hf := ifF hb4 hf
          refine lv_aload_n hx hb dX9_byEar_105 rfl (lv_at hl 0 rfl) ?_
          refine lv_iload_n hx hb dX9_byEar_106 rfl (lv_at hl 3 rfl) ?_
          obtain ⟨u33, hzu33, hf⟩ := obd_some hf
          refine zz_callVi (rest := []) hx hb hml C hP hS (c_X9_no l hDA v4 hzu33) zw_X9_107 ⟨Nat.le_trans (Nat.le_of_ble_eq_true rfl) hRf, Nat.le_trans (Nat.le_of_ble_eq_true rfl) hRl⟩ (by decide) lay_81 rfl rfl hl.1 (Nat.le_of_ble_eq_true rfl) ⟨Nat.zero_le _, Nat.zero_le _⟩ rfl dX9_byEar_107 (fun H locs hP hS => ?_)
          have hf := Option.some.inj hf
          subst hf
          exact hQ _ _ _ _ dX9_byEar_110 hP hS
      refine loopN_ind (P := fun (q34 : Int32 × Int32) => ∀ (H : Heap) (locs : List Loc) (ls : Array Slot), lv_has ls 11 [(0, .ref (a 81)), (1, .int p1), (2, .int p2), (3, .int q34.1), (4, .int q34.2)] → va_P D vwCl (wl a cA σ d) H → va_S A s.heap H locs → W p l e R s m args below meth c H locs 0 0 Q (F0 m 44 ls [])) ?_ _ _ hf _ _ _ (lv_sub hl [1, 2, 3, 4, 0] rfl) hP hS
      intro k35 ihk35 q34 hf H locs ls hl hP hS
      unfold b_X9_byEar_44 at hf
      refine lv_iload hx hb dX9_byEar_44 (lv_at hl 4 rfl) ?_
      refine lv_iload_n hx hb dX9_byEar_46 rfl (lv_at hl 2 rfl) ?_
      refine lv_icmp_ge (tgt := 101) hx hb dX9_byEar_47 (by decide) (fun hb35 => ?_) (fun hb35 => ?_)
      · have hf := ifT hb35 hf
        exact hJ101 _ hf _ _ _ (lv_sub hl [0, 1, 2, 3] rfl) hP hS
      · have hf := ifF hb35 hf
        refine lv_iload_n hx hb dX9_byEar_50 rfl (lv_at hl 3 rfl) ?_
        refine lv_if_ne (tgt := 101) hx hb dX9_byEar_51 (by decide) (fun hb36 => ?_) (fun hb36 => ?_)
        · have hf := ifF hb36 hf
          exact hJ101 _ hf _ _ _ (lv_sub hl [0, 1, 2, 3] rfl) hP hS
        · have hf := ifT hb36 hf
          refine lv_iload hx hb dX9_byEar_54 (lv_at hl 4 rfl) ?_
          refine lv_iconst (v := 2) hx hb dX9_byEar_56 (by decide) ?_
          refine lv_irem hx hb dX9_byEar_57 (by decide) ?_
          refine lv_if_ne (tgt := 78) hx hb dX9_byEar_58 (by decide) (fun hb37 => ?_) (fun hb37 => ?_)
          · have hf := ifF hb37 hf
            refine lv_aload_n hx hb dX9_byEar_78 rfl (lv_at hl 0 rfl) ?_
            refine lv_aload_n hx hb dX9_byEar_79 rfl (lv_at hl 0 rfl) ?_
            refine lv_iload_n hx hb dX9_byEar_80 rfl (lv_at hl 1 rfl) ?_
            refine lv_iload hx hb dX9_byEar_81 (lv_at hl 4 rfl) ?_
            obtain ⟨u39, hzu39, hf⟩ := obd_some hf
            refine zz_callVi (rest := [.ref (a 81)]) hx hb hml C hP hS (c_X9_intAt l hDA p1 q34.2 hzu39) zw_X9_283 ⟨Nat.le_trans (Nat.le_of_ble_eq_true rfl) hRf, Nat.le_trans (Nat.le_of_ble_eq_true rfl) hRl⟩ (by decide) lay_81 rfl rfl hl.1 (Nat.le_of_ble_eq_true rfl) ⟨Nat.zero_le _, Nat.zero_le _⟩ rfl dX9_byEar_83 (fun H locs hP hS => ?_)
            obtain ⟨u40, hzu40⟩ : ∃ z, z = f_X9_isOne u39 := ⟨_, rfl⟩
            have hf := bnd_at u40 hzu40 hf
            refine zz_callVi (rest := []) hx hb hml C hP hS (c_X9_isOne l hDA u39 hzu40.symm) zw_X9_175 ⟨Nat.le_trans (Nat.le_of_ble_eq_true rfl) hRf, Nat.le_trans (Nat.le_of_ble_eq_true rfl) hRl⟩ (by decide) lay_81 rfl rfl hl.1 (Nat.le_of_ble_eq_true rfl) ⟨Nat.zero_le _, Nat.zero_le _⟩ rfl dX9_byEar_86 (fun H locs hP hS => ?_)
            refine lv_if_ne (tgt := 95) hx hb dX9_byEar_89 (by decide) (fun hb40 => ?_) (fun hb40 => ?_)
            · have hf := ifF hb40 hf
              obtain ⟨v42, ev42⟩ : ∃ z : Int32, z = q34.2 + 1 := ⟨_, rfl⟩
              have hf := bnd_at v42 ev42 hf
              refine lv_iinc (v := v42) (lv' := [(4, .int v42), (0, .ref (a 81)), (1, .int p1), (2, .int p2), (3, .int q34.1)]) hx hb dX9_byEar_95 hl (k := 4) rfl (by rw [ev42]; rfl) (by decide) rfl (fun ls hl => ?_)
              refine lv_goto (tgt := 44) hx hb dX9_byEar_98 (by decide) ?_
              exact ihk35 _ hf _ _ _ (lv_sub hl [1, 2, 3, 4, 0] rfl) hP hS
            · have hf := ifT hb40 hf
              refine lv_bipush (v := (-6)) hx hb dX9_byEar_92 (by decide) ?_
              refine lv_istore_n (lv' := [(3, .int (-6)), (0, .ref (a 81)), (1, .int p1), (2, .int p2), (4, .int q34.2)]) hx hb dX9_byEar_94 rfl hl (by decide) rfl (fun ls hl => ?_)
              obtain ⟨v43, ev43⟩ : ∃ z : Int32, z = q34.2 + 1 := ⟨_, rfl⟩
              have hf := bnd_at v43 ev43 hf
              refine lv_iinc (v := v43) (lv' := [(4, .int v43), (3, .int (-6)), (0, .ref (a 81)), (1, .int p1), (2, .int p2)]) hx hb dX9_byEar_95 hl (k := 4) rfl (by rw [ev43]; rfl) (by decide) rfl (fun ls hl => ?_)
              refine lv_goto (tgt := 44) hx hb dX9_byEar_98 (by decide) ?_
              exact ihk35 _ hf _ _ _ (lv_sub hl [2, 3, 4, 1, 0] rfl) hP hS
          · have hf := ifT hb37 hf
            refine lv_aload_n hx hb dX9_byEar_61 rfl (lv_at hl 0 rfl) ?_
            refine lv_aload_n hx hb dX9_byEar_62 rfl (lv_at hl 0 rfl) ?_
            refine lv_iload_n hx hb dX9_byEar_63 rfl (lv_at hl 1 rfl) ?_
            refine lv_iload hx hb dX9_byEar_64 (lv_at hl 4 rfl) ?_
            obtain ⟨u44, hzu44, hf⟩ := obd_some hf
            refine zz_callVi (rest := [.ref (a 81)]) hx hb hml C hP hS (c_X9_intAt l hDA p1 q34.2 hzu44) zw_X9_283 ⟨Nat.le_trans (Nat.le_of_ble_eq_true rfl) hRf, Nat.le_trans (Nat.le_of_ble_eq_true rfl) hRl⟩ (by decide) lay_81 rfl rfl hl.1 (Nat.le_of_ble_eq_true rfl) ⟨Nat.zero_le _, Nat.zero_le _⟩ rfl dX9_byEar_66 (fun H locs hP hS => ?_)
            obtain ⟨u45, hzu45⟩ : ∃ z, z = f_X9_isSet σ u44 := ⟨_, rfl⟩
            have hf := bnd_at u45 hzu45 hf
            refine zz_callVi (rest := []) hx hb hml C hP hS (c_X9_isSet l hDA u44 hzu45.symm) zw_X9_172 ⟨Nat.le_trans (Nat.le_of_ble_eq_true rfl) hRf, Nat.le_trans (Nat.le_of_ble_eq_true rfl) hRl⟩ (by decide) lay_81 rfl rfl hl.1 (Nat.le_of_ble_eq_true rfl) ⟨Nat.zero_le _, Nat.zero_le _⟩ rfl dX9_byEar_69 (fun H locs hP hS => ?_)
            refine lv_if_ne (tgt := 95) hx hb dX9_byEar_72 (by decide) (fun hb45 => ?_) (fun hb45 => ?_)
            · have hf := ifF hb45 hf
              obtain ⟨v47, ev47⟩ : ∃ z : Int32, z = q34.2 + 1 := ⟨_, rfl⟩
              have hf := bnd_at v47 ev47 hf
              refine lv_iinc (v := v47) (lv' := [(4, .int v47), (0, .ref (a 81)), (1, .int p1), (2, .int p2), (3, .int q34.1)]) hx hb dX9_byEar_95 hl (k := 4) rfl (by rw [ev47]; rfl) (by decide) rfl (fun ls hl => ?_)
              refine lv_goto (tgt := 44) hx hb dX9_byEar_98 (by decide) ?_
              exact ihk35 _ hf _ _ _ (lv_sub hl [1, 2, 3, 4, 0] rfl) hP hS
            · have hf := ifT hb45 hf
              refine lv_goto (tgt := 92) hx hb dX9_byEar_75 (by decide) ?_
              refine lv_bipush (v := (-6)) hx hb dX9_byEar_92 (by decide) ?_
              refine lv_istore_n (lv' := [(3, .int (-6)), (0, .ref (a 81)), (1, .int p1), (2, .int p2), (4, .int q34.2)]) hx hb dX9_byEar_94 rfl hl (by decide) rfl (fun ls hl => ?_)
              obtain ⟨v48, ev48⟩ : ∃ z : Int32, z = q34.2 + 1 := ⟨_, rfl⟩
              have hf := bnd_at v48 ev48 hf
              refine lv_iinc (v := v48) (lv' := [(4, .int v48), (3, .int (-6)), (0, .ref (a 81)), (1, .int p1), (2, .int p2)]) hx hb dX9_byEar_95 hl (k := 4) rfl (by rw [ev48]; rfl) (by decide) rfl (fun ls hl => ?_)
              refine lv_goto (tgt := 44) hx hb dX9_byEar_98 (by decide) ?_
              exact ihk35 _ hf _ _ _ (lv_sub hl [2, 3, 4, 1, 0] rfl) hP hS
    refine lv_if_ne (tgt := 41) hx hb dX9_byEar_22 (by decide) (fun hb48 => ?_) (fun hb48 => ?_)
    · have hf := ifF hb48 hf
      exact hJ41 _ hf _ _ _ (lv_sub hl [0, 1, 2, 3] rfl) hP hS
    · have hf := ifT hb48 hf
      refine lv_iload_n hx hb dX9_byEar_25 rfl (lv_at hl 2 rfl) ?_
      refine lv_bipush (v := 32) hx hb dX9_byEar_26 (by decide) ?_
      have hJ38 : j_X9_byEar_38 σ p1 p2 = some u → ∀ (H : Heap) (locs : List Loc) (ls : Array Slot), lv_has ls 11 [(0, .ref (a 81)), (1, .int p1), (2, .int p2)] → va_P D vwCl (wl a cA σ d) H → va_S A s.heap H locs → W p l e R s m args below meth c H locs 0 0 Q (F0 m 38 ls []) := by
        intro  hf H locs ls hl hP hS
        unfold j_X9_byEar_38 at hf
        refine lv_bipush (v := (-6)) hx hb dX9_byEar_38 (by decide) ?_
        refine lv_istore_n (lv' := [(3, .int (-6)), (0, .ref (a 81)), (1, .int p1), (2, .int p2)]) hx hb dX9_byEar_40 rfl hl (by decide) rfl (fun ls hl => ?_)
        exact hJ41 _ hf _ _ _ (lv_sub hl [1, 2, 3, 0] rfl) hP hS
      refine lv_icmp_gt (tgt := 38) hx hb dX9_byEar_28 (by decide) (fun hb49 => ?_) (fun hb49 => ?_)
      · have hf := ifT hb49 hf
        exact hJ38  hf _ _ _ (lv_sub hl [0, 1, 2] rfl) hP hS
      · have hf := ifF hb49 hf
        refine lv_iload_n hx hb dX9_byEar_31 rfl (lv_at hl 2 rfl) ?_
        refine lv_iconst (v := 2) hx hb dX9_byEar_32 (by decide) ?_
        refine lv_irem hx hb dX9_byEar_33 (by decide) ?_
        refine lv_iconst (v := 1) hx hb dX9_byEar_34 (by decide) ?_
        refine lv_icmp_ne (tgt := 41) hx hb dX9_byEar_35 (by decide) (fun hb50 => ?_) (fun hb50 => ?_)
        · have hf := ifF hb50 hf
          exact hJ41 _ hf _ _ _ (lv_sub hl [0, 1, 2, 3] rfl) hP hS
        · have hf := ifT hb50 hf
          exact hJ38  hf _ _ _ (lv_sub hl [0, 1, 2] rfl) hP hS
  refine lv_if_ne (tgt := 21) hx hb dX9_byEar_8 (by decide) (fun hb51 => ?_) (fun hb51 => ?_)
  · have hf := ifF hb51 hf
    exact hJ21 _ hf _ _ _ (lv_sub hl [1, 2, 3, 0] rfl) hP hS
  · have hf := ifT hb51 hf
    refine lv_aload_n hx hb dX9_byEar_11 rfl (lv_at hl 1 rfl) ?_
    refine zg_X9_96 hx hb C hP (by decide) lay_81 rfl dX9_byEar_12 ?_
    refine lv_if_ne (tgt := 21) hx hb dX9_byEar_15 (by decide) (fun hb52 => ?_) (fun hb52 => ?_)
    · have hf := ifF hb52 hf
      exact hJ21 _ hf _ _ _ (lv_sub hl [1, 2, 3, 0] rfl) hP hS
    · have hf := ifT hb52 hf
      refine lv_bipush (v := (-5)) hx hb dX9_byEar_18 (by decide) ?_
      refine lv_istore_n (lv' := [(3, .int (-5)), (0, .ref (a 81)), (1, .int p1), (2, .int p2)]) hx hb dX9_byEar_20 rfl hl (by decide) rfl (fun ls hl => ?_)
      exact hJ21 _ hf _ _ _ (lv_sub hl [1, 2, 3, 0] rfl) hP hS
set_option maxHeartbeats 4000000 in
set_option maxRecDepth 100000 in
theorem c_X9_beside (l : Launch) {D : va_G} {a : Nat → Nat} {cA : Nat → ClassId} {A : Nat → Prop} {sa : Nat → Nat} (hDA : DA a A) {σ : PH} {d : PD}  {u : Int32 × PH} (hf : f_X9_beside σ = some u) : CTi l yX9_beside cX9_beside 4 (some .int) 4 93 D a cA A sa [.ref (a 81)] σ d u.1 u.2 d := by
  refine zz_metI zpl_X9 hDA (Nat.le_of_ble_eq_true rfl) ?_
  intro p e R s m args below meth c Q ls hx hb hml C hRf hRl hQ hP hS hl
  have hl : lv_has ls 4 [(0, .ref (a 81))] := hl
  unfold f_X9_beside at hf
  refine lv_aload_n hx hb dX9_beside_0 rfl (lv_at hl 0 rfl) ?_
  refine zg_X9_96 hx hb C hP (by decide) lay_81 rfl dX9_beside_1 ?_
  refine lv_if_eq (tgt := 22) hx hb dX9_beside_4 (by decide) (fun hb0 => ?_) (fun hb0 => ?_)
  · have hf := ifT hb0 hf
    refine lv_iconst (v := (-1)) hx hb dX9_beside_22 (by decide) ?_
    have hf := Option.some.inj hf
    subst hf
    exact hQ _ _ _ _ dX9_beside_23 hP hS
  · have hf := ifF hb0 hf
    refine lv_aload_n hx hb dX9_beside_7 rfl (lv_at hl 0 rfl) ?_
    refine lv_aload_n hx hb dX9_beside_8 rfl (lv_at hl 0 rfl) ?_
    obtain ⟨u2, hzu2⟩ : ∃ z, z = f_X9_everybody σ := ⟨_, rfl⟩
    have hf := bnd_at u2 hzu2 hf
    refine zz_callVi (rest := [.ref (a 81)]) hx hb hml C hP hS (c_X9_everybody l hDA  hzu2.symm) zw_X9_99 ⟨Nat.le_trans (Nat.le_of_ble_eq_true rfl) hRf, Nat.le_trans (Nat.le_of_ble_eq_true rfl) hRl⟩ (by decide) lay_81 rfl rfl hl.1 (Nat.le_of_ble_eq_true rfl) ⟨Nat.zero_le _, Nat.zero_le _⟩ rfl dX9_beside_9 (fun H locs hP hS => ?_)
    refine lv_aload_n hx hb dX9_beside_12 rfl (lv_at hl 0 rfl) ?_
    refine zg_X9_120 hx hb C hP (by decide) lay_81 rfl dX9_beside_13 ?_
    obtain ⟨u3, hzu3, hf⟩ := obd_some hf
    refine zz_callVi (rest := []) hx hb hml C hP hS (c_X9_soundOf l hDA u2 (gI σ 81 6) hzu3) zw_X9_230 ⟨Nat.le_trans (Nat.le_of_ble_eq_true rfl) hRf, Nat.le_trans (Nat.le_of_ble_eq_true rfl) hRl⟩ (by decide) lay_81 rfl rfl hl.1 (Nat.le_of_ble_eq_true rfl) ⟨Nat.zero_le _, Nat.zero_le _⟩ rfl dX9_beside_16 (fun H locs hP hS => ?_)
    refine lv_if_ne (tgt := 24) hx hb dX9_beside_19 (by decide) (fun hb3 => ?_) (fun hb3 => ?_)
    · have hf := ifF hb3 hf
      refine lv_iconst (v := 0) hx hb dX9_beside_24 (by decide) ?_
      refine lv_istore_n (lv' := [(1, .int 0), (0, .ref (a 81))]) hx hb dX9_beside_25 rfl hl (by decide) rfl (fun ls hl => ?_)
      have hJ75 : ∀ (v5 : Int32) (v6 : Int32) (σ7 : PH), j_X9_beside_75 v5 v6 σ7 = some u → ∀ (H : Heap) (locs : List Loc) (ls : Array Slot), lv_has ls 4 [(1, .int v5), (2, .int v6)] → va_P D vwCl (wl a cA σ7 d) H → va_S A s.heap H locs → W p l e R s m args below meth c H locs 0 0 Q (F0 m 75 ls []) := by
        intro v5 v6 σ7 hf H locs ls hl hP hS
        unfold j_X9_beside_75 at hf
        refine lv_bipush (v := 100) hx hb dX9_beside_75 (by decide) ?_
        refine lv_iload_n hx hb dX9_beside_77 rfl (lv_at hl 0 rfl) ?_
        refine lv_imul hx hb dX9_beside_78 ?_
        refine lv_iload_n hx hb dX9_beside_79 rfl (lv_at hl 1 rfl) ?_
        refine lv_iadd hx hb dX9_beside_80 ?_
        have hf := Option.some.inj hf
        subst hf
        exact hQ _ _ _ _ dX9_beside_81 hP hS
      refine loopN_ind (P := fun (q8 : Int32 × PH) => ∀ (H : Heap) (locs : List Loc) (ls : Array Slot), lv_has ls 4 [(0, .ref (a 81)), (1, .int q8.1)] → va_P D vwCl (wl a cA q8.2 d) H → va_S A s.heap H locs → W p l e R s m args below meth c H locs 0 0 Q (F0 m 26 ls [])) ?_ _ _ hf _ _ _ (lv_sub hl [1, 0] rfl) hP hS
      intro k9 ihk9 q8 hf H locs ls hl hP hS
      unfold b_X9_beside_26 at hf
      refine lv_iload_n hx hb dX9_beside_26 rfl (lv_at hl 1 rfl) ?_
      refine lv_aload_n hx hb dX9_beside_27 rfl (lv_at hl 0 rfl) ?_
      refine zg_X9_96 hx hb C hP (by decide) lay_81 rfl dX9_beside_28 ?_
      refine lv_icmp_ge (tgt := 94) hx hb dX9_beside_31 (by decide) (fun hb9 => ?_) (fun hb9 => ?_)
      · have hf := ifT hb9 hf
        refine lv_iconst (v := (-1)) hx hb dX9_beside_94 (by decide) ?_
        have hf := Option.some.inj hf
        subst hf
        exact hQ _ _ _ _ dX9_beside_95 hP hS
      · have hf := ifF hb9 hf
        refine lv_iload_n hx hb dX9_beside_34 rfl (lv_at hl 1 rfl) ?_
        refine lv_iconst (v := 1) hx hb dX9_beside_35 (by decide) ?_
        refine lv_iadd hx hb dX9_beside_36 ?_
        refine lv_topi (fun v11 ev11 => ?_)
        have hf := bnd_at v11 ev11 hf
        refine lv_istore_n (lv' := [(2, .int v11), (0, .ref (a 81)), (1, .int q8.1)]) hx hb dX9_beside_37 rfl hl (by decide) rfl (fun ls hl => ?_)
        refine loopN_ind (P := fun (q12 : Int32 × PH) => ∀ (H : Heap) (locs : List Loc) (ls : Array Slot), lv_has ls 4 [(0, .ref (a 81)), (1, .int q8.1), (2, .int q12.1)] → va_P D vwCl (wl a cA q12.2 d) H → va_S A s.heap H locs → W p l e R s m args below meth c H locs 0 0 Q (F0 m 38 ls [])) ?_ _ _ hf _ _ _ (lv_sub hl [1, 2, 0] rfl) hP hS
        intro k13 ihk13 q12 hf H locs ls hl hP hS
        unfold b_X9_beside_38 at hf
        refine lv_iload_n hx hb dX9_beside_38 rfl (lv_at hl 2 rfl) ?_
        refine lv_aload_n hx hb dX9_beside_39 rfl (lv_at hl 0 rfl) ?_
        refine zg_X9_96 hx hb C hP (by decide) lay_81 rfl dX9_beside_40 ?_
        refine lv_icmp_ge (tgt := 88) hx hb dX9_beside_43 (by decide) (fun hb13 => ?_) (fun hb13 => ?_)
        · have hf := ifT hb13 hf
          obtain ⟨v15, ev15⟩ : ∃ z : Int32, z = q8.1 + 1 := ⟨_, rfl⟩
          have hf := bnd_at v15 ev15 hf
          refine lv_iinc (v := v15) (lv' := [(1, .int v15), (0, .ref (a 81)), (2, .int q12.1)]) hx hb dX9_beside_88 hl (k := 1) rfl (by rw [ev15]; rfl) (by decide) rfl (fun ls hl => ?_)
          refine lv_goto (tgt := 26) hx hb dX9_beside_91 (by decide) ?_
          exact ihk9 _ hf _ _ _ (lv_sub hl [1, 0] rfl) hP hS
        · have hf := ifF hb13 hf
          refine lv_aload_n hx hb dX9_beside_46 rfl (lv_at hl 0 rfl) ?_
          refine lv_iload_n hx hb dX9_beside_47 rfl (lv_at hl 1 rfl) ?_
          refine lv_iload_n hx hb dX9_beside_48 rfl (lv_at hl 2 rfl) ?_
          obtain ⟨u16, hzu16, hf⟩ := obd_some hf
          refine zz_callVv (rest := []) hx hb hml C hP hS (c_X9_changes l hDA q8.1 q12.1 hzu16) zw_X9_200 ⟨Nat.le_trans (Nat.le_of_ble_eq_true rfl) hRf, Nat.le_trans (Nat.le_of_ble_eq_true rfl) hRl⟩ (by decide) lay_81 rfl rfl hl.1 (Nat.le_of_ble_eq_true rfl) ⟨Nat.zero_le _, Nat.zero_le _⟩ rfl dX9_beside_49 (fun H locs hP hS => ?_)
          refine lv_aload_n hx hb dX9_beside_52 rfl (lv_at hl 0 rfl) ?_
          refine lv_aload_n hx hb dX9_beside_53 rfl (lv_at hl 0 rfl) ?_
          obtain ⟨u17, hzu17⟩ : ∃ z, z = f_X9_everybody u16 := ⟨_, rfl⟩
          have hf := bnd_at u17 hzu17 hf
          refine zz_callVi (rest := [.ref (a 81)]) hx hb hml C hP hS (c_X9_everybody l hDA  hzu17.symm) zw_X9_99 ⟨Nat.le_trans (Nat.le_of_ble_eq_true rfl) hRf, Nat.le_trans (Nat.le_of_ble_eq_true rfl) hRl⟩ (by decide) lay_81 rfl rfl hl.1 (Nat.le_of_ble_eq_true rfl) ⟨Nat.zero_le _, Nat.zero_le _⟩ rfl dX9_beside_54 (fun H locs hP hS => ?_)
          refine lv_aload_n hx hb dX9_beside_57 rfl (lv_at hl 0 rfl) ?_
          refine zg_X9_120 hx hb C hP (by decide) lay_81 rfl dX9_beside_58 ?_
          obtain ⟨u18, hzu18, hf⟩ := obd_some hf
          refine zz_callVi (rest := []) hx hb hml C hP hS (c_X9_soundOf l hDA u17 (gI u16 81 6) hzu18) zw_X9_230 ⟨Nat.le_trans (Nat.le_of_ble_eq_true rfl) hRf, Nat.le_trans (Nat.le_of_ble_eq_true rfl) hRl⟩ (by decide) lay_81 rfl rfl hl.1 (Nat.le_of_ble_eq_true rfl) ⟨Nat.zero_le _, Nat.zero_le _⟩ rfl dX9_beside_61 (fun H locs hP hS => ?_)
          refine lv_istore_n (lv' := [(3, .int u18), (0, .ref (a 81)), (1, .int q8.1), (2, .int q12.1)]) hx hb dX9_beside_64 rfl hl (by decide) rfl (fun ls hl => ?_)
          refine lv_aload_n hx hb dX9_beside_65 rfl (lv_at hl 1 rfl) ?_
          refine lv_iload_n hx hb dX9_beside_66 rfl (lv_at hl 2 rfl) ?_
          refine lv_iload_n hx hb dX9_beside_67 rfl (lv_at hl 3 rfl) ?_
          obtain ⟨u19, hzu19, hf⟩ := obd_some hf
          refine zz_callVv (rest := []) hx hb hml C hP hS (c_X9_changes l hDA q8.1 q12.1 hzu19) zw_X9_200 ⟨Nat.le_trans (Nat.le_of_ble_eq_true rfl) hRf, Nat.le_trans (Nat.le_of_ble_eq_true rfl) hRl⟩ (by decide) lay_81 rfl rfl hl.1 (Nat.le_of_ble_eq_true rfl) ⟨Nat.zero_le _, Nat.zero_le _⟩ rfl dX9_beside_68 (fun H locs hP hS => ?_)
          refine lv_iload_n hx hb dX9_beside_71 rfl (lv_at hl 0 rfl) ?_
          refine lv_if_ne (tgt := 82) hx hb dX9_beside_72 (by decide) (fun hb19 => ?_) (fun hb19 => ?_)
          · have hf := ifF hb19 hf
            obtain ⟨v21, ev21⟩ : ∃ z : Int32, z = q12.1 + 1 := ⟨_, rfl⟩
            have hf := bnd_at v21 ev21 hf
            refine lv_iinc (v := v21) (lv' := [(2, .int v21), (3, .int u18), (0, .ref (a 81)), (1, .int q8.1)]) hx hb dX9_beside_82 hl (k := 3) rfl (by rw [ev21]; rfl) (by decide) rfl (fun ls hl => ?_)
            refine lv_goto (tgt := 38) hx hb dX9_beside_85 (by decide) ?_
            exact ihk13 _ hf _ _ _ (lv_sub hl [2, 3, 0] rfl) hP hS
          · have hf := ifT hb19 hf
            exact hJ75 _ _ _ hf _ _ _ (lv_sub hl [2, 3] rfl) hP hS
    · have hf := ifT hb3 hf
      refine lv_iconst (v := (-1)) hx hb dX9_beside_22 (by decide) ?_
      have hf := Option.some.inj hf
      subst hf
      exact hQ _ _ _ _ dX9_beside_23 hP hS
set_option maxHeartbeats 4000000 in
set_option maxRecDepth 100000 in
theorem c_X9_right (l : Launch) {D : va_G} {a : Nat → Nat} {cA : Nat → ClassId} {A : Nat → Prop} {sa : Nat → Nat} (hDA : DA a A) {σ : PH} {d : PD}  {u : Int32 × PH} (hf : f_X9_right σ = some u) : CTi l yX9_right cX9_right 4 (some .int) 4 93 D a cA A sa [.ref (a 81)] σ d u.1 u.2 d := by
  refine zz_metI zpl_X9 hDA (Nat.le_of_ble_eq_true rfl) ?_
  intro p e R s m args below meth c Q ls hx hb hml C hRf hRl hQ hP hS hl
  have hl : lv_has ls 4 [(0, .ref (a 81))] := hl
  unfold f_X9_right at hf
  refine lv_aload_n hx hb dX9_right_0 rfl (lv_at hl 0 rfl) ?_
  obtain ⟨u1, hzu1, hf⟩ := obd_some hf
  refine zz_callVi (rest := []) hx hb hml C hP hS (c_X9_lists l hDA  hzu1) zw_X9_233 ⟨Nat.le_trans (Nat.le_of_ble_eq_true rfl) hRf, Nat.le_trans (Nat.le_of_ble_eq_true rfl) hRl⟩ (by decide) lay_81 rfl rfl hl.1 (Nat.le_of_ble_eq_true rfl) ⟨Nat.zero_le _, Nat.zero_le _⟩ rfl dX9_right_1 (fun H locs hP hS => ?_)
  refine lv_istore_n (lv' := [(1, .int u1.1), (0, .ref (a 81))]) hx hb dX9_right_4 rfl hl (by decide) rfl (fun ls hl => ?_)
  refine lv_iconst (v := 0) hx hb dX9_right_5 (by decide) ?_
  refine lv_istore_n (lv' := [(2, .int 0), (1, .int u1.1), (0, .ref (a 81))]) hx hb dX9_right_6 rfl hl (by decide) rfl (fun ls hl => ?_)
  refine lv_iconst (v := 0) hx hb dX9_right_7 (by decide) ?_
  refine lv_istore_n (lv' := [(3, .int 0), (2, .int 0), (1, .int u1.1), (0, .ref (a 81))]) hx hb dX9_right_8 rfl hl (by decide) rfl (fun ls hl => ?_)
  refine loopN_ind (P := fun (q2 : Int32 × Int32) => ∀ (H : Heap) (locs : List Loc) (ls : Array Slot), lv_has ls 4 [(0, .ref (a 81)), (1, .int u1.1), (2, .int q2.1), (3, .int q2.2)] → va_P D vwCl (wl a cA u1.2 d) H → va_S A s.heap H locs → W p l e R s m args below meth c H locs 0 0 Q (F0 m 9 ls [])) ?_ _ _ hf _ _ _ (lv_sub hl [3, 2, 1, 0] rfl) hP hS
  intro k3 ihk3 q2 hf H locs ls hl hP hS
  unfold b_X9_right_9 at hf
  refine lv_iload_n hx hb dX9_right_9 rfl (lv_at hl 3 rfl) ?_
  refine lv_iload_n hx hb dX9_right_10 rfl (lv_at hl 1 rfl) ?_
  refine lv_icmp_ge (tgt := 39) hx hb dX9_right_11 (by decide) (fun hb3 => ?_) (fun hb3 => ?_)
  · have hf := ifT hb3 hf
    refine lv_iload_n hx hb dX9_right_39 rfl (lv_at hl 2 rfl) ?_
    have hf := Option.some.inj hf
    subst hf
    exact hQ _ _ _ _ dX9_right_40 hP hS
  · have hf := ifF hb3 hf
    refine lv_iload_n hx hb dX9_right_14 rfl (lv_at hl 2 rfl) ?_
    refine lv_iconst (v := 1) hx hb dX9_right_15 (by decide) ?_
    refine lv_aload_n hx hb dX9_right_16 rfl (lv_at hl 0 rfl) ?_
    refine lv_aload_n hx hb dX9_right_17 rfl (lv_at hl 0 rfl) ?_
    obtain ⟨u5, hzu5⟩ : ∃ z, z = f_X9_everybody u1.2 := ⟨_, rfl⟩
    have hf := bnd_at u5 hzu5 hf
    refine zz_callVi (rest := [.ref (a 81), .int 1, .int q2.1]) hx hb hml C hP hS (c_X9_everybody l hDA  hzu5.symm) zw_X9_99 ⟨Nat.le_trans (Nat.le_of_ble_eq_true rfl) hRf, Nat.le_trans (Nat.le_of_ble_eq_true rfl) hRl⟩ (by decide) lay_81 rfl rfl hl.1 (Nat.le_of_ble_eq_true rfl) ⟨Nat.zero_le _, Nat.zero_le _⟩ rfl dX9_right_18 (fun H locs hP hS => ?_)
    refine lv_aload_n hx hb dX9_right_21 rfl (lv_at hl 0 rfl) ?_
    refine zg_X9_78 hx hb C hP (by decide) lay_81 rfl dX9_right_22 ?_
    refine lv_iload_n hx hb dX9_right_25 rfl (lv_at hl 3 rfl) ?_
    obtain ⟨hc5, hf⟩ := chk_some hf
    refine zz_iald hx hb C hP (by decide) lay_100 (inb_vp hc5) dX9_right_26 ?_
    obtain ⟨u7, hzu7, hf⟩ := obd_some hf
    refine zz_callVi (rest := [.int 1, .int q2.1]) hx hb hml C hP hS (c_X9_soundOf l hDA u5 (gI u1.2 100 q2.2.toNatClampNeg) hzu7) zw_X9_230 ⟨Nat.le_trans (Nat.le_of_ble_eq_true rfl) hRf, Nat.le_trans (Nat.le_of_ble_eq_true rfl) hRl⟩ (by decide) lay_81 rfl rfl hl.1 (Nat.le_of_ble_eq_true rfl) ⟨Nat.zero_le _, Nat.zero_le _⟩ rfl dX9_right_27 (fun H locs hP hS => ?_)
    refine lv_isub hx hb dX9_right_30 ?_
    refine lv_iadd hx hb dX9_right_31 ?_
    refine lv_topi (fun v8 ev8 => ?_)
    have hf := bnd_at v8 ev8 hf
    refine lv_istore_n (lv' := [(2, .int v8), (0, .ref (a 81)), (1, .int u1.1), (3, .int q2.2)]) hx hb dX9_right_32 rfl hl (by decide) rfl (fun ls hl => ?_)
    obtain ⟨v9, ev9⟩ : ∃ z : Int32, z = q2.2 + 1 := ⟨_, rfl⟩
    have hf := bnd_at v9 ev9 hf
    refine lv_iinc (v := v9) (lv' := [(3, .int v9), (2, .int v8), (0, .ref (a 81)), (1, .int u1.1)]) hx hb dX9_right_33 hl (k := 3) rfl (by rw [ev9]; rfl) (by decide) rfl (fun ls hl => ?_)
    refine lv_goto (tgt := 9) hx hb dX9_right_36 (by decide) ?_
    exact ihk3 _ hf _ _ _ (lv_sub hl [2, 3, 1, 0] rfl) hP hS
set_option maxHeartbeats 4000000 in
set_option maxRecDepth 100000 in
theorem c_X9_quiet (l : Launch) {D : va_G} {a : Nat → Nat} {cA : Nat → ClassId} {A : Nat → Prop} {sa : Nat → Nat} (hDA : DA a A) {σ : PH} {d : PD}  {u : Int32 × PH} (hf : f_X9_quiet σ = some u) : CTi l yX9_quiet cX9_quiet 5 (some .int) 5 116 D a cA A sa [.ref (a 81)] σ d u.1 u.2 d := by
  refine zz_metI zpl_X9 hDA (Nat.le_of_ble_eq_true rfl) ?_
  intro p e R s m args below meth c Q ls hx hb hml C hRf hRl hQ hP hS hl
  have hl : lv_has ls 5 [(0, .ref (a 81))] := hl
  unfold f_X9_quiet at hf
  refine lv_aload_n hx hb dX9_quiet_0 rfl (lv_at hl 0 rfl) ?_
  refine zg_X9_96 hx hb C hP (by decide) lay_81 rfl dX9_quiet_1 ?_
  refine lv_if_ne (tgt := 14) hx hb dX9_quiet_4 (by decide) (fun hb0 => ?_) (fun hb0 => ?_)
  · have hf := ifF hb0 hf
    refine lv_aload_n hx hb dX9_quiet_14 rfl (lv_at hl 0 rfl) ?_
    obtain ⟨u2, hzu2, hf⟩ := obd_some hf
    refine zz_callVi (rest := []) hx hb hml C hP hS (c_X9_right l hDA  hzu2) zw_X9_300 ⟨Nat.le_trans (Nat.le_of_ble_eq_true rfl) hRf, Nat.le_trans (Nat.le_of_ble_eq_true rfl) hRl⟩ (by decide) lay_81 rfl rfl hl.1 (Nat.le_of_ble_eq_true rfl) ⟨Nat.zero_le _, Nat.zero_le _⟩ rfl dX9_quiet_15 (fun H locs hP hS => ?_)
    refine lv_istore_n (lv' := [(1, .int u2.1), (0, .ref (a 81))]) hx hb dX9_quiet_18 rfl hl (by decide) rfl (fun ls hl => ?_)
    refine lv_iconst (v := 0) hx hb dX9_quiet_19 (by decide) ?_
    refine lv_istore_n (lv' := [(2, .int 0), (1, .int u2.1), (0, .ref (a 81))]) hx hb dX9_quiet_20 rfl hl (by decide) rfl (fun ls hl => ?_)
    refine loopN_ind (P := fun (q3 : Int32 × Int32 × PH) => ∀ (H : Heap) (locs : List Loc) (ls : Array Slot), lv_has ls 5 [(0, .ref (a 81)), (1, .int q3.1), (2, .int q3.2.1)] → va_P D vwCl (wl a cA q3.2.2 d) H → va_S A s.heap H locs → W p l e R s m args below meth c H locs 0 0 Q (F0 m 21 ls [])) ?_ _ _ hf _ _ _ (lv_sub hl [2, 1, 0] rfl) hP hS
    intro k4 ihk4 q3 hf H locs ls hl hP hS
    unfold b_X9_quiet_21 at hf
    refine lv_iload_n hx hb dX9_quiet_21 rfl (lv_at hl 2 rfl) ?_
    refine lv_aload_n hx hb dX9_quiet_22 rfl (lv_at hl 0 rfl) ?_
    refine zg_X9_96 hx hb C hP (by decide) lay_81 rfl dX9_quiet_23 ?_
    refine lv_icmp_ge (tgt := 84) hx hb dX9_quiet_26 (by decide) (fun hb4 => ?_) (fun hb4 => ?_)
    · have hf := ifT hb4 hf
      refine lv_iload_n hx hb dX9_quiet_84 rfl (lv_at hl 1 rfl) ?_
      have hf := Option.some.inj hf
      subst hf
      exact hQ _ _ _ _ dX9_quiet_85 hP hS
    · have hf := ifF hb4 hf
      refine lv_iload_n hx hb dX9_quiet_29 rfl (lv_at hl 2 rfl) ?_
      refine lv_iconst (v := 1) hx hb dX9_quiet_30 (by decide) ?_
      refine lv_iadd hx hb dX9_quiet_31 ?_
      refine lv_topi (fun v6 ev6 => ?_)
      have hf := bnd_at v6 ev6 hf
      refine lv_istore_n (lv' := [(3, .int v6), (0, .ref (a 81)), (1, .int q3.1), (2, .int q3.2.1)]) hx hb dX9_quiet_32 rfl hl (by decide) rfl (fun ls hl => ?_)
      refine loopN_ind (P := fun (q7 : Int32 × Int32 × PH) => ∀ (H : Heap) (locs : List Loc) (ls : Array Slot), lv_has ls 5 [(0, .ref (a 81)), (1, .int q7.1), (2, .int q3.2.1), (3, .int q7.2.1)] → va_P D vwCl (wl a cA q7.2.2 d) H → va_S A s.heap H locs → W p l e R s m args below meth c H locs 0 0 Q (F0 m 33 ls [])) ?_ _ _ hf _ _ _ (lv_sub hl [1, 2, 3, 0] rfl) hP hS
      intro k8 ihk8 q7 hf H locs ls hl hP hS
      unfold b_X9_quiet_33 at hf
      refine lv_iload_n hx hb dX9_quiet_33 rfl (lv_at hl 3 rfl) ?_
      refine lv_aload_n hx hb dX9_quiet_34 rfl (lv_at hl 0 rfl) ?_
      refine zg_X9_96 hx hb C hP (by decide) lay_81 rfl dX9_quiet_35 ?_
      refine lv_icmp_ge (tgt := 78) hx hb dX9_quiet_38 (by decide) (fun hb8 => ?_) (fun hb8 => ?_)
      · have hf := ifT hb8 hf
        obtain ⟨v10, ev10⟩ : ∃ z : Int32, z = q3.2.1 + 1 := ⟨_, rfl⟩
        have hf := bnd_at v10 ev10 hf
        refine lv_iinc (v := v10) (lv' := [(2, .int v10), (0, .ref (a 81)), (1, .int q7.1), (3, .int q7.2.1)]) hx hb dX9_quiet_78 hl (k := 2) rfl (by rw [ev10]; rfl) (by decide) rfl (fun ls hl => ?_)
        refine lv_goto (tgt := 21) hx hb dX9_quiet_81 (by decide) ?_
        exact ihk4 _ hf _ _ _ (lv_sub hl [1, 2, 0] rfl) hP hS
      · have hf := ifF hb8 hf
        refine lv_aload_n hx hb dX9_quiet_41 rfl (lv_at hl 0 rfl) ?_
        refine lv_iload_n hx hb dX9_quiet_42 rfl (lv_at hl 2 rfl) ?_
        refine lv_iload_n hx hb dX9_quiet_43 rfl (lv_at hl 3 rfl) ?_
        obtain ⟨u11, hzu11, hf⟩ := obd_some hf
        refine zz_callVv (rest := []) hx hb hml C hP hS (c_X9_changes l hDA q3.2.1 q7.2.1 hzu11) zw_X9_200 ⟨Nat.le_trans (Nat.le_of_ble_eq_true rfl) hRf, Nat.le_trans (Nat.le_of_ble_eq_true rfl) hRl⟩ (by decide) lay_81 rfl rfl hl.1 (Nat.le_of_ble_eq_true rfl) ⟨Nat.zero_le _, Nat.zero_le _⟩ rfl dX9_quiet_44 (fun H locs hP hS => ?_)
        refine lv_aload_n hx hb dX9_quiet_47 rfl (lv_at hl 0 rfl) ?_
        obtain ⟨u12, hzu12, hf⟩ := obd_some hf
        refine zz_callVi (rest := []) hx hb hml C hP hS (c_X9_right l hDA  hzu12) zw_X9_300 ⟨Nat.le_trans (Nat.le_of_ble_eq_true rfl) hRf, Nat.le_trans (Nat.le_of_ble_eq_true rfl) hRl⟩ (by decide) lay_81 rfl rfl hl.1 (Nat.le_of_ble_eq_true rfl) ⟨Nat.zero_le _, Nat.zero_le _⟩ rfl dX9_quiet_48 (fun H locs hP hS => ?_)
        refine lv_istore (lv' := [(4, .int u12.1), (0, .ref (a 81)), (1, .int q7.1), (2, .int q3.2.1), (3, .int q7.2.1)]) hx hb dX9_quiet_51 hl (by decide) rfl (fun ls hl => ?_)
        refine lv_aload_n hx hb dX9_quiet_53 rfl (lv_at hl 1 rfl) ?_
        refine lv_iload_n hx hb dX9_quiet_54 rfl (lv_at hl 3 rfl) ?_
        refine lv_iload_n hx hb dX9_quiet_55 rfl (lv_at hl 4 rfl) ?_
        obtain ⟨u13, hzu13, hf⟩ := obd_some hf
        refine zz_callVv (rest := []) hx hb hml C hP hS (c_X9_changes l hDA q3.2.1 q7.2.1 hzu13) zw_X9_200 ⟨Nat.le_trans (Nat.le_of_ble_eq_true rfl) hRf, Nat.le_trans (Nat.le_of_ble_eq_true rfl) hRl⟩ (by decide) lay_81 rfl rfl hl.1 (Nat.le_of_ble_eq_true rfl) ⟨Nat.zero_le _, Nat.zero_le _⟩ rfl dX9_quiet_56 (fun H locs hP hS => ?_)
        refine lv_iload hx hb dX9_quiet_59 (lv_at hl 0 rfl) ?_
        refine lv_iload_n hx hb dX9_quiet_61 rfl (lv_at hl 2 rfl) ?_
        refine lv_icmp_le (tgt := 70) hx hb dX9_quiet_62 (by decide) (fun hb13 => ?_) (fun hb13 => ?_)
        · have hf := ifT hb13 hf
          refine lv_iload_n hx hb dX9_quiet_70 rfl (lv_at hl 2 rfl) ?_
          refine lv_istore_n (lv' := [(1, .int q7.1), (4, .int u12.1), (0, .ref (a 81)), (2, .int q3.2.1), (3, .int q7.2.1)]) hx hb dX9_quiet_71 rfl hl (by decide) rfl (fun ls hl => ?_)
          obtain ⟨v15, ev15⟩ : ∃ z : Int32, z = q7.2.1 + 1 := ⟨_, rfl⟩
          have hf := bnd_at v15 ev15 hf
          refine lv_iinc (v := v15) (lv' := [(3, .int v15), (1, .int q7.1), (4, .int u12.1), (0, .ref (a 81)), (2, .int q3.2.1)]) hx hb dX9_quiet_72 hl (k := 4) rfl (by rw [ev15]; rfl) (by decide) rfl (fun ls hl => ?_)
          refine lv_goto (tgt := 33) hx hb dX9_quiet_75 (by decide) ?_
          exact ihk8 _ hf _ _ _ (lv_sub hl [3, 1, 4, 0] rfl) hP hS
        · have hf := ifF hb13 hf
          refine lv_iload hx hb dX9_quiet_65 (lv_at hl 0 rfl) ?_
          refine lv_goto (tgt := 71) hx hb dX9_quiet_67 (by decide) ?_
          refine lv_istore_n (lv' := [(1, .int u12.1), (4, .int u12.1), (0, .ref (a 81)), (2, .int q3.2.1), (3, .int q7.2.1)]) hx hb dX9_quiet_71 rfl hl (by decide) rfl (fun ls hl => ?_)
          obtain ⟨v16, ev16⟩ : ∃ z : Int32, z = q7.2.1 + 1 := ⟨_, rfl⟩
          have hf := bnd_at v16 ev16 hf
          refine lv_iinc (v := v16) (lv' := [(3, .int v16), (1, .int u12.1), (4, .int u12.1), (0, .ref (a 81)), (2, .int q3.2.1)]) hx hb dX9_quiet_72 hl (k := 4) rfl (by rw [ev16]; rfl) (by decide) rfl (fun ls hl => ?_)
          refine lv_goto (tgt := 33) hx hb dX9_quiet_75 (by decide) ?_
          exact ihk8 _ hf _ _ _ (lv_sub hl [3, 1, 4, 0] rfl) hP hS
  · have hf := ifT hb0 hf
    refine lv_aload_n hx hb dX9_quiet_7 rfl (lv_at hl 0 rfl) ?_
    refine lv_bipush (v := (-5)) hx hb dX9_quiet_8 (by decide) ?_
    obtain ⟨u17, hzu17, hf⟩ := obd_some hf
    refine zz_callVi (rest := []) hx hb hml C hP hS (c_X9_no l hDA (-5) hzu17) zw_X9_107 ⟨Nat.le_trans (Nat.le_of_ble_eq_true rfl) hRf, Nat.le_trans (Nat.le_of_ble_eq_true rfl) hRl⟩ (by decide) lay_81 rfl rfl hl.1 (Nat.le_of_ble_eq_true rfl) ⟨Nat.zero_le _, Nat.zero_le _⟩ rfl dX9_quiet_10 (fun H locs hP hS => ?_)
    have hf := Option.some.inj hf
    subst hf
    exact hQ _ _ _ _ dX9_quiet_13 hP hS
set_option maxHeartbeats 4000000 in
set_option maxRecDepth 100000 in
theorem c_X9_swap (l : Launch) {D : va_G} {a : Nat → Nat} {cA : Nat → ClassId} {A : Nat → Prop} {sa : Nat → Nat} (hDA : DA a A) {σ : PH} {d : PD} (p1 : Int32) (p2 : Int32) {u : Int32 × PH} (hf : f_X9_swap σ p1 p2 = some u) : CTi l yX9_swap cX9_swap 3 (some .int) 1 23 D a cA A sa [.ref (a 81), .int p1, .int p2] σ d u.1 u.2 d := by
  refine zz_metI zpl_X9 hDA (Nat.le_of_ble_eq_true rfl) ?_
  intro p e R s m args below meth c Q ls hx hb hml C hRf hRl hQ hP hS hl
  have hl : lv_has ls 3 [(0, .ref (a 81)), (1, .int p1), (2, .int p2)] := hl
  unfold f_X9_swap at hf
  refine lv_aload_n hx hb dX9_swap_0 rfl (lv_at hl 0 rfl) ?_
  refine lv_iload_n hx hb dX9_swap_1 rfl (lv_at hl 1 rfl) ?_
  obtain ⟨u1, hzu1⟩ : ∃ z, z = f_X9_isSinger σ p1 := ⟨_, rfl⟩
  have hf := bnd_at u1 hzu1 hf
  refine zz_callVi (rest := []) hx hb hml C hP hS (c_X9_isSinger l hDA p1 hzu1.symm) zw_X9_111 ⟨Nat.le_trans (Nat.le_of_ble_eq_true rfl) hRf, Nat.le_trans (Nat.le_of_ble_eq_true rfl) hRl⟩ (by decide) lay_81 rfl rfl hl.1 (Nat.le_of_ble_eq_true rfl) ⟨Nat.zero_le _, Nat.zero_le _⟩ rfl dX9_swap_2 (fun H locs hP hS => ?_)
  refine lv_if_eq (tgt := 16) hx hb dX9_swap_5 (by decide) (fun hb1 => ?_) (fun hb1 => ?_)
  · have hf := ifT hb1 hf
    refine lv_aload_n hx hb dX9_swap_16 rfl (lv_at hl 0 rfl) ?_
    refine lv_iconst (v := (-1)) hx hb dX9_swap_17 (by decide) ?_
    obtain ⟨u3, hzu3, hf⟩ := obd_some hf
    refine zz_callVi (rest := []) hx hb hml C hP hS (c_X9_no l hDA (-1) hzu3) zw_X9_107 ⟨Nat.le_trans (Nat.le_of_ble_eq_true rfl) hRf, Nat.le_trans (Nat.le_of_ble_eq_true rfl) hRl⟩ (by decide) lay_81 rfl rfl hl.1 (Nat.le_of_ble_eq_true rfl) ⟨Nat.zero_le _, Nat.zero_le _⟩ rfl dX9_swap_18 (fun H locs hP hS => ?_)
    have hf := Option.some.inj hf
    subst hf
    exact hQ _ _ _ _ dX9_swap_21 hP hS
  · have hf := ifF hb1 hf
    refine lv_aload_n hx hb dX9_swap_8 rfl (lv_at hl 0 rfl) ?_
    refine lv_iload_n hx hb dX9_swap_9 rfl (lv_at hl 2 rfl) ?_
    obtain ⟨u4, hzu4⟩ : ∃ z, z = f_X9_isSinger σ p2 := ⟨_, rfl⟩
    have hf := bnd_at u4 hzu4 hf
    refine zz_callVi (rest := []) hx hb hml C hP hS (c_X9_isSinger l hDA p2 hzu4.symm) zw_X9_111 ⟨Nat.le_trans (Nat.le_of_ble_eq_true rfl) hRf, Nat.le_trans (Nat.le_of_ble_eq_true rfl) hRl⟩ (by decide) lay_81 rfl rfl hl.1 (Nat.le_of_ble_eq_true rfl) ⟨Nat.zero_le _, Nat.zero_le _⟩ rfl dX9_swap_10 (fun H locs hP hS => ?_)
    refine lv_if_ne (tgt := 22) hx hb dX9_swap_13 (by decide) (fun hb4 => ?_) (fun hb4 => ?_)
    · have hf := ifF hb4 hf
      refine lv_iload_n hx hb dX9_swap_22 rfl (lv_at hl 1 rfl) ?_
      refine lv_iload_n hx hb dX9_swap_23 rfl (lv_at hl 2 rfl) ?_
      refine lv_icmp_ne (tgt := 34) hx hb dX9_swap_24 (by decide) (fun hb5 => ?_) (fun hb5 => ?_)
      · have hf := ifF hb5 hf
        refine lv_aload_n hx hb dX9_swap_34 rfl (lv_at hl 0 rfl) ?_
        refine lv_iload_n hx hb dX9_swap_35 rfl (lv_at hl 1 rfl) ?_
        refine lv_iload_n hx hb dX9_swap_36 rfl (lv_at hl 2 rfl) ?_
        obtain ⟨u7, hzu7, hf⟩ := obd_some hf
        refine zz_callVv (rest := []) hx hb hml C hP hS (c_X9_changes l hDA p1 p2 hzu7) zw_X9_200 ⟨Nat.le_trans (Nat.le_of_ble_eq_true rfl) hRf, Nat.le_trans (Nat.le_of_ble_eq_true rfl) hRl⟩ (by decide) lay_81 rfl rfl hl.1 (Nat.le_of_ble_eq_true rfl) ⟨Nat.zero_le _, Nat.zero_le _⟩ rfl dX9_swap_37 (fun H locs hP hS => ?_)
        refine lv_aload_n hx hb dX9_swap_40 rfl (lv_at hl 0 rfl) ?_
        obtain ⟨u8, hzu8⟩ : ∃ z, z = f_X9_anew u7 := ⟨_, rfl⟩
        have hf := bnd_at u8 hzu8 hf
        refine zz_callVv (rest := []) hx hb hml C hP hS (c_X9_anew l hDA  hzu8.symm) zw_X9_126 ⟨Nat.le_trans (Nat.le_of_ble_eq_true rfl) hRf, Nat.le_trans (Nat.le_of_ble_eq_true rfl) hRl⟩ (by decide) lay_81 rfl rfl hl.1 (Nat.le_of_ble_eq_true rfl) ⟨Nat.zero_le _, Nat.zero_le _⟩ rfl dX9_swap_41 (fun H locs hP hS => ?_)
        refine lv_iconst (v := 1) hx hb dX9_swap_44 (by decide) ?_
        have hf := Option.some.inj hf
        subst hf
        exact hQ _ _ _ _ dX9_swap_45 hP hS
      · have hf := ifT hb5 hf
        refine lv_aload_n hx hb dX9_swap_27 rfl (lv_at hl 0 rfl) ?_
        refine lv_bipush (v := (-6)) hx hb dX9_swap_28 (by decide) ?_
        obtain ⟨u9, hzu9, hf⟩ := obd_some hf
        refine zz_callVi (rest := []) hx hb hml C hP hS (c_X9_no l hDA (-6) hzu9) zw_X9_107 ⟨Nat.le_trans (Nat.le_of_ble_eq_true rfl) hRf, Nat.le_trans (Nat.le_of_ble_eq_true rfl) hRl⟩ (by decide) lay_81 rfl rfl hl.1 (Nat.le_of_ble_eq_true rfl) ⟨Nat.zero_le _, Nat.zero_le _⟩ rfl dX9_swap_30 (fun H locs hP hS => ?_)
        have hf := Option.some.inj hf
        subst hf
        exact hQ _ _ _ _ dX9_swap_33 hP hS
    · have hf := ifT hb4 hf
      refine lv_aload_n hx hb dX9_swap_16 rfl (lv_at hl 0 rfl) ?_
      refine lv_iconst (v := (-1)) hx hb dX9_swap_17 (by decide) ?_
      obtain ⟨u10, hzu10, hf⟩ := obd_some hf
      refine zz_callVi (rest := []) hx hb hml C hP hS (c_X9_no l hDA (-1) hzu10) zw_X9_107 ⟨Nat.le_trans (Nat.le_of_ble_eq_true rfl) hRf, Nat.le_trans (Nat.le_of_ble_eq_true rfl) hRl⟩ (by decide) lay_81 rfl rfl hl.1 (Nat.le_of_ble_eq_true rfl) ⟨Nat.zero_le _, Nat.zero_le _⟩ rfl dX9_swap_18 (fun H locs hP hS => ?_)
      have hf := Option.some.inj hf
      subst hf
      exact hQ _ _ _ _ dX9_swap_21 hP hS
set_option maxHeartbeats 4000000 in
set_option maxRecDepth 100000 in
theorem c_X9_isTrue (l : Launch) {D : va_G} {a : Nat → Nat} {cA : Nat → ClassId} {A : Nat → Prop} {sa : Nat → Nat} (hDA : DA a A) {σ : PH} {d : PD} (p1 : Int32) {u : Int32 × PH} (hf : f_X9_isTrue σ p1 = some u) : CTi l yX9_isTrue cX9_isTrue 3 (some .int) 3 62 D a cA A sa [.ref (a 81), .int p1] σ d u.1 u.2 d := by
  refine zz_metI zpl_X9 hDA (Nat.le_of_ble_eq_true rfl) ?_
  intro p e R s m args below meth c Q ls hx hb hml C hRf hRl hQ hP hS hl
  have hl : lv_has ls 3 [(0, .ref (a 81)), (1, .int p1)] := hl
  unfold f_X9_isTrue at hf
  refine lv_aload_n hx hb dX9_isTrue_0 rfl (lv_at hl 0 rfl) ?_
  refine lv_iload_n hx hb dX9_isTrue_1 rfl (lv_at hl 1 rfl) ?_
  obtain ⟨u1, hzu1, hf⟩ := obd_some hf
  refine zz_callVi (rest := []) hx hb hml C hP hS (c_X9_isWorld l hDA p1 hzu1) zw_X9_242 ⟨Nat.le_trans (Nat.le_of_ble_eq_true rfl) hRf, Nat.le_trans (Nat.le_of_ble_eq_true rfl) hRl⟩ (by decide) lay_81 rfl rfl hl.1 (Nat.le_of_ble_eq_true rfl) ⟨Nat.zero_le _, Nat.zero_le _⟩ rfl dX9_isTrue_2 (fun H locs hP hS => ?_)
  refine lv_if_ne (tgt := 15) hx hb dX9_isTrue_5 (by decide) (fun hb1 => ?_) (fun hb1 => ?_)
  · have hf := ifF hb1 hf
    refine lv_aload_n hx hb dX9_isTrue_15 rfl (lv_at hl 0 rfl) ?_
    refine zg_X9_120 hx hb C hP (by decide) lay_81 rfl dX9_isTrue_16 ?_
    refine lv_topi (fun v3 ev3 => ?_)
    have hf := bnd_at v3 ev3 hf
    refine lv_istore_n (lv' := [(2, .int v3), (0, .ref (a 81)), (1, .int p1)]) hx hb dX9_isTrue_19 rfl hl (by decide) rfl (fun ls hl => ?_)
    refine lv_aload_n hx hb dX9_isTrue_20 rfl (lv_at hl 1 rfl) ?_
    refine lv_iload_n hx hb dX9_isTrue_21 rfl (lv_at hl 2 rfl) ?_
    refine zp_X9_120 hx hb C hP hS (by decide) lay_81 rfl dX9_isTrue_22 (fun σ4 eσ4 H locs hP hS => ?_)
    have hf := bnd_at σ4 eσ4 hf
    refine lv_aload_n hx hb dX9_isTrue_25 rfl (lv_at hl 1 rfl) ?_
    refine lv_iconst (v := 0) hx hb dX9_isTrue_26 (by decide) ?_
    refine zp_X9_123 hx hb C hP hS (by decide) lay_81 rfl dX9_isTrue_27 (fun σ5 eσ5 H locs hP hS => ?_)
    have hf := bnd_at σ5 eσ5 hf
    refine lv_iload_n hx hb dX9_isTrue_30 rfl (lv_at hl 0 rfl) ?_
    have hf := Option.some.inj hf
    subst hf
    exact hQ _ _ _ _ dX9_isTrue_31 hP hS
  · have hf := ifT hb1 hf
    refine lv_aload_n hx hb dX9_isTrue_8 rfl (lv_at hl 0 rfl) ?_
    refine lv_bipush (v := (-6)) hx hb dX9_isTrue_9 (by decide) ?_
    obtain ⟨u6, hzu6, hf⟩ := obd_some hf
    refine zz_callVi (rest := []) hx hb hml C hP hS (c_X9_no l hDA (-6) hzu6) zw_X9_107 ⟨Nat.le_trans (Nat.le_of_ble_eq_true rfl) hRf, Nat.le_trans (Nat.le_of_ble_eq_true rfl) hRl⟩ (by decide) lay_81 rfl rfl hl.1 (Nat.le_of_ble_eq_true rfl) ⟨Nat.zero_le _, Nat.zero_le _⟩ rfl dX9_isTrue_11 (fun H locs hP hS => ?_)
    have hf := Option.some.inj hf
    subst hf
    exact hQ _ _ _ _ dX9_isTrue_14 hP hS
set_option maxHeartbeats 4000000 in
set_option maxRecDepth 100000 in
theorem c_X9_hear (l : Launch) {D : va_G} {a : Nat → Nat} {cA : Nat → ClassId} {A : Nat → Prop} {sa : Nat → Nat} (hDA : DA a A) {σ : PH} {d : PD} (p1 : Int32) {u : Int32 × PH} (hf : f_X9_hear σ p1 = some u) : CTi l yX9_hear cX9_hear 3 (some .int) 4 93 D a cA A sa [.ref (a 81), .int p1] σ d u.1 u.2 d := by
  refine zz_metI zpl_X9 hDA (Nat.le_of_ble_eq_true rfl) ?_
  intro p e R s m args below meth c Q ls hx hb hml C hRf hRl hQ hP hS hl
  have hl : lv_has ls 3 [(0, .ref (a 81)), (1, .int p1)] := hl
  unfold f_X9_hear at hf
  refine lv_aload_n hx hb dX9_hear_0 rfl (lv_at hl 0 rfl) ?_
  refine lv_iload_n hx hb dX9_hear_1 rfl (lv_at hl 1 rfl) ?_
  obtain ⟨u1, hzu1, hf⟩ := obd_some hf
  refine zz_callVi (rest := []) hx hb hml C hP hS (c_X9_isLawful l hDA p1 hzu1) zw_X9_248 ⟨Nat.le_trans (Nat.le_of_ble_eq_true rfl) hRf, Nat.le_trans (Nat.le_of_ble_eq_true rfl) hRl⟩ (by decide) lay_81 rfl rfl hl.1 (Nat.le_of_ble_eq_true rfl) ⟨Nat.zero_le _, Nat.zero_le _⟩ rfl dX9_hear_2 (fun H locs hP hS => ?_)
  refine lv_if_ne (tgt := 15) hx hb dX9_hear_5 (by decide) (fun hb1 => ?_) (fun hb1 => ?_)
  · have hf := ifF hb1 hf
    refine lv_aload_n hx hb dX9_hear_15 rfl (lv_at hl 0 rfl) ?_
    refine lv_iload_n hx hb dX9_hear_16 rfl (lv_at hl 1 rfl) ?_
    refine lv_aload_n hx hb dX9_hear_17 rfl (lv_at hl 0 rfl) ?_
    refine zg_X9_120 hx hb C hP (by decide) lay_81 rfl dX9_hear_18 ?_
    obtain ⟨u3, hzu3, hf⟩ := obd_some hf
    refine zz_callVi (rest := []) hx hb hml C hP hS (c_X9_soundOf l hDA p1 (gI σ 81 6) hzu3) zw_X9_230 ⟨Nat.le_trans (Nat.le_of_ble_eq_true rfl) hRf, Nat.le_trans (Nat.le_of_ble_eq_true rfl) hRl⟩ (by decide) lay_81 rfl rfl hl.1 (Nat.le_of_ble_eq_true rfl) ⟨Nat.zero_le _, Nat.zero_le _⟩ rfl dX9_hear_21 (fun H locs hP hS => ?_)
    refine lv_istore_n (lv' := [(2, .int u3), (0, .ref (a 81)), (1, .int p1)]) hx hb dX9_hear_24 rfl hl (by decide) rfl (fun ls hl => ?_)
    refine lv_aload_n hx hb dX9_hear_25 rfl (lv_at hl 1 rfl) ?_
    refine lv_iload_n hx hb dX9_hear_26 rfl (lv_at hl 2 rfl) ?_
    refine lv_iload_n hx hb dX9_hear_27 rfl (lv_at hl 0 rfl) ?_
    obtain ⟨u4, hzu4, hf⟩ := obd_some hf
    refine zz_callVi (rest := []) hx hb hml C hP hS (c_X9_isKnown l hDA p1 u3 hzu4) zw_X9_193 ⟨Nat.le_trans (Nat.le_of_ble_eq_true rfl) hRf, Nat.le_trans (Nat.le_of_ble_eq_true rfl) hRl⟩ (by decide) lay_81 rfl rfl hl.1 (Nat.le_of_ble_eq_true rfl) ⟨Nat.zero_le _, Nat.zero_le _⟩ rfl dX9_hear_28 (fun H locs hP hS => ?_)
    refine lv_if_eq (tgt := 36) hx hb dX9_hear_31 (by decide) (fun hb4 => ?_) (fun hb4 => ?_)
    · have hf := ifT hb4 hf
      refine lv_aload_n hx hb dX9_hear_36 rfl (lv_at hl 1 rfl) ?_
      refine zg_X9_123 hx hb C hP (by decide) lay_81 rfl dX9_hear_37 ?_
      refine lv_bipush (v := 16) hx hb dX9_hear_40 (by decide) ?_
      refine lv_icmp_ne (tgt := 52) hx hb dX9_hear_42 (by decide) (fun hb5 => ?_) (fun hb5 => ?_)
      · have hf := ifF hb5 hf
        refine lv_aload_n hx hb dX9_hear_52 rfl (lv_at hl 1 rfl) ?_
        refine lv_iload_n hx hb dX9_hear_53 rfl (lv_at hl 2 rfl) ?_
        refine lv_iload_n hx hb dX9_hear_54 rfl (lv_at hl 0 rfl) ?_
        obtain ⟨u7, hzu7, hf⟩ := obd_some hf
        refine zz_callVv (rest := []) hx hb hml C hP hS (c_X9_knows l hDA p1 u3 hzu7) zw_X9_196 ⟨Nat.le_trans (Nat.le_of_ble_eq_true rfl) hRf, Nat.le_trans (Nat.le_of_ble_eq_true rfl) hRl⟩ (by decide) lay_81 rfl rfl hl.1 (Nat.le_of_ble_eq_true rfl) ⟨Nat.zero_le _, Nat.zero_le _⟩ rfl dX9_hear_55 (fun H locs hP hS => ?_)
        refine lv_iload_n hx hb dX9_hear_58 rfl (lv_at hl 0 rfl) ?_
        have hf := Option.some.inj hf
        subst hf
        exact hQ _ _ _ _ dX9_hear_59 hP hS
      · have hf := ifT hb5 hf
        refine lv_aload_n hx hb dX9_hear_45 rfl (lv_at hl 1 rfl) ?_
        refine lv_bipush (v := (-7)) hx hb dX9_hear_46 (by decide) ?_
        obtain ⟨u8, hzu8, hf⟩ := obd_some hf
        refine zz_callVi (rest := []) hx hb hml C hP hS (c_X9_no l hDA (-7) hzu8) zw_X9_107 ⟨Nat.le_trans (Nat.le_of_ble_eq_true rfl) hRf, Nat.le_trans (Nat.le_of_ble_eq_true rfl) hRl⟩ (by decide) lay_81 rfl rfl hl.1 (Nat.le_of_ble_eq_true rfl) ⟨Nat.zero_le _, Nat.zero_le _⟩ rfl dX9_hear_48 (fun H locs hP hS => ?_)
        have hf := Option.some.inj hf
        subst hf
        exact hQ _ _ _ _ dX9_hear_51 hP hS
    · have hf := ifF hb4 hf
      refine lv_iload_n hx hb dX9_hear_34 rfl (lv_at hl 0 rfl) ?_
      have hf := Option.some.inj hf
      subst hf
      exact hQ _ _ _ _ dX9_hear_35 hP hS
  · have hf := ifT hb1 hf
    refine lv_aload_n hx hb dX9_hear_8 rfl (lv_at hl 0 rfl) ?_
    refine lv_bipush (v := (-6)) hx hb dX9_hear_9 (by decide) ?_
    obtain ⟨u9, hzu9, hf⟩ := obd_some hf
    refine zz_callVi (rest := []) hx hb hml C hP hS (c_X9_no l hDA (-6) hzu9) zw_X9_107 ⟨Nat.le_trans (Nat.le_of_ble_eq_true rfl) hRf, Nat.le_trans (Nat.le_of_ble_eq_true rfl) hRl⟩ (by decide) lay_81 rfl rfl hl.1 (Nat.le_of_ble_eq_true rfl) ⟨Nat.zero_le _, Nat.zero_le _⟩ rfl dX9_hear_11 (fun H locs hP hS => ?_)
    have hf := Option.some.inj hf
    subst hf
    exact hQ _ _ _ _ dX9_hear_14 hP hS
set_option maxHeartbeats 4000000 in
set_option maxRecDepth 100000 in
theorem c_X9_draw (l : Launch) {D : va_G} {a : Nat → Nat} {cA : Nat → ClassId} {A : Nat → Prop} {sa : Nat → Nat} (hDA : DA a A) {σ : PH} {d : PD} (p1 : Int32) {u : Int32 × PH} (hf : f_X9_draw σ p1 = some u) : CTi l yX9_draw cX9_draw 2 (some .int) 0 0 D a cA A sa [.ref (a 81), .int p1] σ d u.1 u.2 d := by
  refine zz_metI zpl_X9 hDA (Nat.le_of_ble_eq_true rfl) ?_
  intro p e R s m args below meth c Q ls hx hb hml C hRf hRl hQ hP hS hl
  have hl : lv_has ls 2 [(0, .ref (a 81)), (1, .int p1)] := hl
  unfold f_X9_draw at hf
  refine lv_aload_n hx hb dX9_draw_0 rfl (lv_at hl 0 rfl) ?_
  refine lv_aload_n hx hb dX9_draw_1 rfl (lv_at hl 0 rfl) ?_
  refine zg_X9_16 hx hb C hP (by decide) lay_81 rfl dX9_draw_2 ?_
  refine lv_ldcw (v := 1103515245) hx hb C.1 (C.2.1 _ kk_X9_303) dX9_draw_5 ?_
  refine lv_imul hx hb dX9_draw_8 ?_
  refine lv_sipush (v := 12345) hx hb dX9_draw_9 (by decide) ?_
  refine lv_iadd hx hb dX9_draw_12 ?_
  refine zp_X9_16 hx hb C hP hS (by decide) lay_81 rfl dX9_draw_13 (fun σ1 eσ1 H locs hP hS => ?_)
  have hf := bnd_at σ1 eσ1 hf
  refine lv_aload_n hx hb dX9_draw_16 rfl (lv_at hl 0 rfl) ?_
  refine zg_X9_16 hx hb C hP (by decide) lay_81 rfl dX9_draw_17 ?_
  refine lv_bipush (v := 16) hx hb dX9_draw_20 (by decide) ?_
  refine lv_iushr (v := ((gI σ1 81 7).toUInt32 >>> ((16 : Int32).toUInt32 &&& Int32.toUInt32 31)).toInt32) hx hb dX9_draw_22 rfl ?_
  refine lv_iload_n hx hb dX9_draw_23 rfl (lv_at hl 1 rfl) ?_
  obtain ⟨hc2, hf⟩ := chk_some hf
  refine lv_irem hx hb dX9_draw_24 hc2 ?_
  have hf := Option.some.inj hf
  subst hf
  exact hQ _ _ _ _ dX9_draw_25 hP hS
set_option maxHeartbeats 4000000 in
set_option maxRecDepth 100000 in
theorem c_X9_evening (l : Launch) {D : va_G} {a : Nat → Nat} {cA : Nat → ClassId} {A : Nat → Prop} {sa : Nat → Nat} (hDA : DA a A) {σ : PH} {d : PD}  {u : Int32 × PH} (hf : f_X9_evening σ = some u) : CTi l yX9_evening cX9_evening 8 (some .int) 4 93 D a cA A sa [.ref (a 81)] σ d u.1 u.2 d := by
  refine zz_metI zpl_X9 hDA (Nat.le_of_ble_eq_true rfl) ?_
  intro p e R s m args below meth c Q ls hx hb hml C hRf hRl hQ hP hS hl
  have hl : lv_has ls 8 [(0, .ref (a 81))] := hl
  unfold f_X9_evening at hf
  refine lv_aload_n hx hb dX9_evening_0 rfl (lv_at hl 0 rfl) ?_
  refine lv_aload_n hx hb dX9_evening_1 rfl (lv_at hl 0 rfl) ?_
  refine zg_X9_78 hx hb C hP (by decide) lay_81 rfl dX9_evening_2 ?_
  refine lv_aload_n hx hb dX9_evening_5 rfl (lv_at hl 0 rfl) ?_
  refine lv_aload_n hx hb dX9_evening_6 rfl (lv_at hl 0 rfl) ?_
  refine zg_X9_227 hx hb C hP (by decide) lay_81 rfl dX9_evening_7 ?_
  obtain ⟨u1, hzu1, hf⟩ := obd_some hf
  refine zz_callVi (rest := [.ref (a 100), .ref (a 81)]) hx hb hml C hP hS (c_X9_draw l hDA (gI σ 81 34) hzu1) zw_X9_304 ⟨Nat.le_trans (Nat.le_of_ble_eq_true rfl) hRf, Nat.le_trans (Nat.le_of_ble_eq_true rfl) hRl⟩ (by decide) lay_81 rfl rfl hl.1 (Nat.le_of_ble_eq_true rfl) ⟨Nat.zero_le _, Nat.zero_le _⟩ rfl dX9_evening_10 (fun H locs hP hS => ?_)
  obtain ⟨hc1, hf⟩ := chk_some hf
  refine zz_iald hx hb C hP (by decide) lay_100 (inb_vp hc1) dX9_evening_13 ?_
  refine zp_X9_120 hx hb C hP hS (by decide) lay_81 rfl dX9_evening_14 (fun σ3 eσ3 H locs hP hS => ?_)
  have hf := bnd_at σ3 eσ3 hf
  refine lv_aload_n hx hb dX9_evening_17 rfl (lv_at hl 0 rfl) ?_
  refine lv_iconst (v := 0) hx hb dX9_evening_18 (by decide) ?_
  refine zp_X9_123 hx hb C hP hS (by decide) lay_81 rfl dX9_evening_19 (fun σ4 eσ4 H locs hP hS => ?_)
  have hf := bnd_at σ4 eσ4 hf
  refine lv_aload_n hx hb dX9_evening_22 rfl (lv_at hl 0 rfl) ?_
  refine zg_X9_227 hx hb C hP (by decide) lay_81 rfl dX9_evening_23 ?_
  refine lv_topi (fun v5 ev5 => ?_)
  have hf := bnd_at v5 ev5 hf
  refine lv_istore_n (lv' := [(1, .int v5), (0, .ref (a 81))]) hx hb dX9_evening_26 rfl hl (by decide) rfl (fun ls hl => ?_)
  refine lv_iconst (v := 0) hx hb dX9_evening_27 (by decide) ?_
  refine lv_istore_n (lv' := [(2, .int 0), (1, .int v5), (0, .ref (a 81))]) hx hb dX9_evening_28 rfl hl (by decide) rfl (fun ls hl => ?_)
  refine lv_iconst (v := 0) hx hb dX9_evening_29 (by decide) ?_
  refine lv_istore_n (lv' := [(3, .int 0), (2, .int 0), (1, .int v5), (0, .ref (a 81))]) hx hb dX9_evening_30 rfl hl (by decide) rfl (fun ls hl => ?_)
  refine lv_iconst (v := 0) hx hb dX9_evening_31 (by decide) ?_
  refine lv_istore (lv' := [(4, .int 0), (3, .int 0), (2, .int 0), (1, .int v5), (0, .ref (a 81))]) hx hb dX9_evening_32 hl (by decide) rfl (fun ls hl => ?_)
  have hJ55 : ∀ (σ6 : PH), j_X9_evening_55 v5 σ6 = some u → ∀ (H : Heap) (locs : List Loc) (ls : Array Slot), lv_has ls 8 [(0, .ref (a 81)), (1, .int v5), (2, .int 0), (3, .int 0)] → va_P D vwCl (wl a cA σ6 d) H → va_S A s.heap H locs → W p l e R s m args below meth c H locs 0 0 Q (F0 m 55 ls []) := by
    intro σ6 hf H locs ls hl hP hS
    unfold j_X9_evening_55 at hf
    refine lv_iload_n hx hb dX9_evening_55 rfl (lv_at hl 1 rfl) ?_
    refine lv_iconst (v := 2) hx hb dX9_evening_56 (by decide) ?_
    have hJ70 : ∀ (v7 : Int32), j_X9_evening_70 v5 σ6 v7 = some u → ∀ (H : Heap) (locs : List Loc) (ls : Array Slot), lv_has ls 8 [(0, .ref (a 81)), (1, .int v5), (2, .int 0), (3, .int 0)] → va_P D vwCl (wl a cA σ6 d) H → va_S A s.heap H locs → W p l e R s m args below meth c H locs 0 0 Q (F0 m 70 ls [.int v7]) := by
      intro v7 hf H locs ls hl hP hS
      unfold j_X9_evening_70 at hf
      refine lv_istore (lv' := [(4, .int v7), (0, .ref (a 81)), (1, .int v5), (2, .int 0), (3, .int 0)]) hx hb dX9_evening_70 hl (by decide) rfl (fun ls hl => ?_)
      refine loopN_ind (P := fun (q8 : Int32 × Int32 × Int32 × Int32 × PH) => ∀ (H : Heap) (locs : List Loc) (ls : Array Slot), lv_has ls 8 [(0, .ref (a 81)), (1, .int q8.1), (2, .int q8.2.1), (3, .int q8.2.2.1), (4, .int q8.2.2.2.1)] → va_P D vwCl (wl a cA q8.2.2.2.2 d) H → va_S A s.heap H locs → W p l e R s m args below meth c H locs 0 0 Q (F0 m 72 ls [])) ?_ _ _ hf _ _ _ (lv_sub hl [1, 2, 3, 4, 0] rfl) hP hS
      intro k9 ihk9 q8 hf H locs ls hl hP hS
      unfold b_X9_evening_72 at hf
      refine lv_iload hx hb dX9_evening_72 (lv_at hl 4 rfl) ?_
      refine lv_iconst (v := (-1)) hx hb dX9_evening_74 (by decide) ?_
      refine lv_icmp_eq (tgt := 206) hx hb dX9_evening_75 (by decide) (fun hb9 => ?_) (fun hb9 => ?_)
      · have hf := ifT hb9 hf
        refine lv_iload_n hx hb dX9_evening_206 rfl (lv_at hl 3 rfl) ?_
        have hf := Option.some.inj hf
        subst hf
        exact hQ _ _ _ _ dX9_evening_207 hP hS
      · have hf := ifF hb9 hf
        refine lv_aload_n hx hb dX9_evening_78 rfl (lv_at hl 0 rfl) ?_
        refine zg_X9_123 hx hb C hP (by decide) lay_81 rfl dX9_evening_79 ?_
        refine lv_bipush (v := 16) hx hb dX9_evening_82 (by decide) ?_
        refine lv_icmp_ge (tgt := 206) hx hb dX9_evening_84 (by decide) (fun hb10 => ?_) (fun hb10 => ?_)
        · have hf := ifT hb10 hf
          refine lv_iload_n hx hb dX9_evening_206 rfl (lv_at hl 3 rfl) ?_
          have hf := Option.some.inj hf
          subst hf
          exact hQ _ _ _ _ dX9_evening_207 hP hS
        · have hf := ifF hb10 hf
          refine lv_aload_n hx hb dX9_evening_87 rfl (lv_at hl 0 rfl) ?_
          refine lv_iload hx hb dX9_evening_88 (lv_at hl 4 rfl) ?_
          refine lv_aload_n hx hb dX9_evening_90 rfl (lv_at hl 0 rfl) ?_
          refine zg_X9_120 hx hb C hP (by decide) lay_81 rfl dX9_evening_91 ?_
          obtain ⟨u12, hzu12, hf⟩ := obd_some hf
          refine zz_callVi (rest := []) hx hb hml C hP hS (c_X9_soundOf l hDA q8.2.2.2.1 (gI q8.2.2.2.2 81 6) hzu12) zw_X9_230 ⟨Nat.le_trans (Nat.le_of_ble_eq_true rfl) hRf, Nat.le_trans (Nat.le_of_ble_eq_true rfl) hRl⟩ (by decide) lay_81 rfl rfl hl.1 (Nat.le_of_ble_eq_true rfl) ⟨Nat.zero_le _, Nat.zero_le _⟩ rfl dX9_evening_94 (fun H locs hP hS => ?_)
          refine lv_istore (lv' := [(5, .int u12), (0, .ref (a 81)), (1, .int q8.1), (2, .int q8.2.1), (3, .int q8.2.2.1), (4, .int q8.2.2.2.1)]) hx hb dX9_evening_97 hl (by decide) rfl (fun ls hl => ?_)
          refine lv_iconst (v := 0) hx hb dX9_evening_99 (by decide) ?_
          refine lv_istore (lv' := [(6, .int 0), (5, .int u12), (0, .ref (a 81)), (1, .int q8.1), (2, .int q8.2.1), (3, .int q8.2.2.1), (4, .int q8.2.2.2.1)]) hx hb dX9_evening_100 hl (by decide) rfl (fun ls hl => ?_)
          refine lv_aload_n hx hb dX9_evening_102 rfl (lv_at hl 2 rfl) ?_
          refine lv_iload hx hb dX9_evening_103 (lv_at hl 6 rfl) ?_
          refine lv_iload hx hb dX9_evening_105 (lv_at hl 1 rfl) ?_
          obtain ⟨u13, hzu13, hf⟩ := obd_some hf
          refine zz_callVv (rest := []) hx hb hml C hP hS (c_X9_knows l hDA q8.2.2.2.1 u12 hzu13) zw_X9_196 ⟨Nat.le_trans (Nat.le_of_ble_eq_true rfl) hRf, Nat.le_trans (Nat.le_of_ble_eq_true rfl) hRl⟩ (by decide) lay_81 rfl rfl hl.1 (Nat.le_of_ble_eq_true rfl) ⟨Nat.zero_le _, Nat.zero_le _⟩ rfl dX9_evening_107 (fun H locs hP hS => ?_)
          obtain ⟨v14, ev14⟩ : ∃ z : Int32, z = q8.2.2.1 + 1 := ⟨_, rfl⟩
          have hf := bnd_at v14 ev14 hf
          refine lv_iinc (v := v14) (lv' := [(3, .int v14), (6, .int 0), (5, .int u12), (0, .ref (a 81)), (1, .int q8.1), (2, .int q8.2.1), (4, .int q8.2.2.2.1)]) hx hb dX9_evening_110 hl (k := 5) rfl (by rw [ev14]; rfl) (by decide) rfl (fun ls hl => ?_)
          refine lv_iconst (v := 0) hx hb dX9_evening_113 (by decide) ?_
          refine lv_istore (lv' := [(7, .int 0), (3, .int v14), (6, .int 0), (5, .int u12), (0, .ref (a 81)), (1, .int q8.1), (2, .int q8.2.1), (4, .int q8.2.2.2.1)]) hx hb dX9_evening_114 hl (by decide) rfl (fun ls hl => ?_)
          have hJ179 : ∀ (v15 : Int32) (σ16 : PH), j_X9_evening_179 q8 k9 v14 v15 σ16 = some u → ∀ (H : Heap) (locs : List Loc) (ls : Array Slot), lv_has ls 8 [(0, .ref (a 81)), (1, .int q8.1), (2, .int q8.2.1), (3, .int v14), (6, .int v15)] → va_P D vwCl (wl a cA σ16 d) H → va_S A s.heap H locs → W p l e R s m args below meth c H locs 0 0 Q (F0 m 179 ls []) := by
            intro v15 σ16 hf H locs ls hl hP hS
            unfold j_X9_evening_179 at hf
            refine lv_iload_n hx hb dX9_evening_179 rfl (lv_at hl 2 rfl) ?_
            refine lv_iload_n hx hb dX9_evening_180 rfl (lv_at hl 1 rfl) ?_
            refine lv_iadd hx hb dX9_evening_181 ?_
            refine lv_topi (fun v17 ev17 => ?_)
            have hf := bnd_at v17 ev17 hf
            refine lv_istore_n (lv' := [(2, .int v17), (0, .ref (a 81)), (1, .int q8.1), (3, .int v14), (6, .int v15)]) hx hb dX9_evening_182 rfl hl (by decide) rfl (fun ls hl => ?_)
            refine lv_iload hx hb dX9_evening_183 (lv_at hl 4 rfl) ?_
            refine lv_istore_n (lv' := [(1, .int v15), (2, .int v17), (0, .ref (a 81)), (3, .int v14), (6, .int v15)]) hx hb dX9_evening_185 rfl hl (by decide) rfl (fun ls hl => ?_)
            refine lv_iload_n hx hb dX9_evening_186 rfl (lv_at hl 0 rfl) ?_
            refine lv_iconst (v := 2) hx hb dX9_evening_187 (by decide) ?_
            refine lv_icmp_ge (tgt := 195) hx hb dX9_evening_188 (by decide) (fun hb17 => ?_) (fun hb17 => ?_)
            · have hf := ifT hb17 hf
              refine lv_aload_n hx hb dX9_evening_195 rfl (lv_at hl 2 rfl) ?_
              refine lv_iload_n hx hb dX9_evening_196 rfl (lv_at hl 1 rfl) ?_
              refine lv_iload_n hx hb dX9_evening_197 rfl (lv_at hl 0 rfl) ?_
              obtain ⟨u19, hzu19, hf⟩ := obd_some hf
              refine zz_callVi (rest := []) hx hb hml C hP hS (c_X9_nextOf l hDA v17 v15 hzu19) zw_X9_261 ⟨Nat.le_trans (Nat.le_of_ble_eq_true rfl) hRf, Nat.le_trans (Nat.le_of_ble_eq_true rfl) hRl⟩ (by decide) lay_81 rfl rfl hl.1 (Nat.le_of_ble_eq_true rfl) ⟨Nat.zero_le _, Nat.zero_le _⟩ rfl dX9_evening_198 (fun H locs hP hS => ?_)
              refine lv_istore (lv' := [(4, .int u19), (1, .int v15), (2, .int v17), (0, .ref (a 81)), (3, .int v14), (6, .int v15)]) hx hb dX9_evening_201 hl (by decide) rfl (fun ls hl => ?_)
              refine lv_goto (tgt := 72) hx hb dX9_evening_203 (by decide) ?_
              exact ihk9 _ hf _ _ _ (lv_sub hl [3, 1, 2, 4, 0] rfl) hP hS
            · have hf := ifF hb17 hf
              refine lv_iconst (v := (-1)) hx hb dX9_evening_191 (by decide) ?_
              refine lv_goto (tgt := 201) hx hb dX9_evening_192 (by decide) ?_
              refine lv_istore (lv' := [(4, .int (-1)), (1, .int v15), (2, .int v17), (0, .ref (a 81)), (3, .int v14), (6, .int v15)]) hx hb dX9_evening_201 hl (by decide) rfl (fun ls hl => ?_)
              refine lv_goto (tgt := 72) hx hb dX9_evening_203 (by decide) ?_
              exact ihk9 _ hf _ _ _ (lv_sub hl [3, 1, 2, 4, 0] rfl) hP hS
          refine loopN_ind (P := fun (q20 : Int32 × Int32 × PH) => ∀ (H : Heap) (locs : List Loc) (ls : Array Slot), lv_has ls 8 [(0, .ref (a 81)), (1, .int q8.1), (2, .int q8.2.1), (3, .int v14), (4, .int q8.2.2.2.1), (5, .int u12), (6, .int q20.1), (7, .int q20.2.1)] → va_P D vwCl (wl a cA q20.2.2 d) H → va_S A s.heap H locs → W p l e R s m args below meth c H locs 0 0 Q (F0 m 116 ls [])) ?_ _ _ hf _ _ _ (lv_sub hl [4, 5, 6, 1, 7, 3, 2, 0] rfl) hP hS
          intro k21 ihk21 q20 hf H locs ls hl hP hS
          unfold b_X9_evening_116 at hf
          refine lv_iload hx hb dX9_evening_116 (lv_at hl 7 rfl) ?_
          refine lv_iload_n hx hb dX9_evening_118 rfl (lv_at hl 1 rfl) ?_
          refine lv_icmp_ge (tgt := 179) hx hb dX9_evening_119 (by decide) (fun hb21 => ?_) (fun hb21 => ?_)
          · have hf := ifT hb21 hf
            exact hJ179 _ _ hf _ _ _ (lv_sub hl [0, 1, 2, 3, 6] rfl) hP hS
          · have hf := ifF hb21 hf
            refine lv_aload_n hx hb dX9_evening_122 rfl (lv_at hl 0 rfl) ?_
            refine zg_X9_84 hx hb C hP (by decide) lay_81 rfl dX9_evening_123 ?_
            refine lv_bipush (v := 92) hx hb dX9_evening_126 (by decide) ?_
            refine lv_iload hx hb dX9_evening_128 (lv_at hl 4 rfl) ?_
            refine lv_imul hx hb dX9_evening_130 ?_
            refine lv_aload_n hx hb dX9_evening_131 rfl (lv_at hl 0 rfl) ?_
            refine zg_X9_87 hx hb C hP (by decide) lay_81 rfl dX9_evening_132 ?_
            refine lv_iload_n hx hb dX9_evening_135 rfl (lv_at hl 2 rfl) ?_
            refine lv_iload hx hb dX9_evening_136 (lv_at hl 7 rfl) ?_
            refine lv_iadd hx hb dX9_evening_138 ?_
            obtain ⟨hc22, hf⟩ := chk_some hf
            refine zz_iald hx hb C hP (by decide) lay_103 (inb_vp hc22) dX9_evening_139 ?_
            refine lv_iadd hx hb dX9_evening_140 ?_
            obtain ⟨hc23, hf⟩ := chk_some hf
            refine zz_iald hx hb C hP (by decide) lay_102 (inb_vp hc23) dX9_evening_141 ?_
            refine lv_iload hx hb dX9_evening_142 (lv_at hl 5 rfl) ?_
            refine lv_icmp_eq (tgt := 150) hx hb dX9_evening_144 (by decide) (fun hb24 => ?_) (fun hb24 => ?_)
            · have hf := ifT hb24 hf
              refine lv_aload_n hx hb dX9_evening_150 rfl (lv_at hl 0 rfl) ?_
              refine zg_X9_87 hx hb C hP (by decide) lay_81 rfl dX9_evening_151 ?_
              refine lv_iload_n hx hb dX9_evening_154 rfl (lv_at hl 2 rfl) ?_
              refine lv_iload_n hx hb dX9_evening_155 rfl (lv_at hl 1 rfl) ?_
              refine lv_iadd hx hb dX9_evening_156 ?_
              refine lv_iload hx hb dX9_evening_157 (lv_at hl 6 rfl) ?_
              refine lv_iadd hx hb dX9_evening_159 ?_
              refine lv_aload_n hx hb dX9_evening_160 rfl (lv_at hl 0 rfl) ?_
              refine zg_X9_87 hx hb C hP (by decide) lay_81 rfl dX9_evening_161 ?_
              refine lv_iload_n hx hb dX9_evening_164 rfl (lv_at hl 2 rfl) ?_
              refine lv_iload hx hb dX9_evening_165 (lv_at hl 7 rfl) ?_
              refine lv_iadd hx hb dX9_evening_167 ?_
              obtain ⟨hc25, hf⟩ := chk_some hf
              refine zz_iald hx hb C hP (by decide) lay_103 (inb_vp hc25) dX9_evening_168 ?_
              obtain ⟨hc26, hf⟩ := chk_some hf
              refine zz_iast hx hb C hP hS (by decide) lay_103 (inb_vp hc26) dX9_evening_169 (fun σ28 eσ28 H locs hP hS => ?_)
              have hf := bnd_at σ28 eσ28 hf
              obtain ⟨v29, ev29⟩ : ∃ z : Int32, z = q20.1 + 1 := ⟨_, rfl⟩
              have hf := bnd_at v29 ev29 hf
              refine lv_iinc (v := v29) (lv' := [(6, .int v29), (0, .ref (a 81)), (1, .int q8.1), (2, .int q8.2.1), (3, .int v14), (4, .int q8.2.2.2.1), (5, .int u12), (7, .int q20.2.1)]) hx hb dX9_evening_170 hl (k := 6) rfl (by rw [ev29]; rfl) (by decide) rfl (fun ls hl => ?_)
              obtain ⟨v30, ev30⟩ : ∃ z : Int32, z = q20.2.1 + 1 := ⟨_, rfl⟩
              have hf := bnd_at v30 ev30 hf
              refine lv_iinc (v := v30) (lv' := [(7, .int v30), (6, .int v29), (0, .ref (a 81)), (1, .int q8.1), (2, .int q8.2.1), (3, .int v14), (4, .int q8.2.2.2.1), (5, .int u12)]) hx hb dX9_evening_173 hl (k := 7) rfl (by rw [ev30]; rfl) (by decide) rfl (fun ls hl => ?_)
              refine lv_goto (tgt := 116) hx hb dX9_evening_176 (by decide) ?_
              exact ihk21 _ hf _ _ _ (lv_sub hl [2, 3, 4, 5, 6, 7, 1, 0] rfl) hP hS
            · have hf := ifF hb24 hf
              refine lv_goto (tgt := 173) hx hb dX9_evening_147 (by decide) ?_
              obtain ⟨v31, ev31⟩ : ∃ z : Int32, z = q20.2.1 + 1 := ⟨_, rfl⟩
              have hf := bnd_at v31 ev31 hf
              refine lv_iinc (v := v31) (lv' := [(7, .int v31), (0, .ref (a 81)), (1, .int q8.1), (2, .int q8.2.1), (3, .int v14), (4, .int q8.2.2.2.1), (5, .int u12), (6, .int q20.1)]) hx hb dX9_evening_173 hl (k := 7) rfl (by rw [ev31]; rfl) (by decide) rfl (fun ls hl => ?_)
              refine lv_goto (tgt := 116) hx hb dX9_evening_176 (by decide) ?_
              exact ihk21 _ hf _ _ _ (lv_sub hl [1, 2, 3, 4, 5, 6, 7, 0] rfl) hP hS
    refine lv_icmp_ge (tgt := 64) hx hb dX9_evening_57 (by decide) (fun hb31 => ?_) (fun hb31 => ?_)
    · have hf := ifT hb31 hf
      refine lv_aload_n hx hb dX9_evening_64 rfl (lv_at hl 0 rfl) ?_
      refine lv_iload_n hx hb dX9_evening_65 rfl (lv_at hl 2 rfl) ?_
      refine lv_iload_n hx hb dX9_evening_66 rfl (lv_at hl 1 rfl) ?_
      obtain ⟨u33, hzu33, hf⟩ := obd_some hf
      refine zz_callVi (rest := []) hx hb hml C hP hS (c_X9_nextOf l hDA 0 v5 hzu33) zw_X9_261 ⟨Nat.le_trans (Nat.le_of_ble_eq_true rfl) hRf, Nat.le_trans (Nat.le_of_ble_eq_true rfl) hRl⟩ (by decide) lay_81 rfl rfl hl.1 (Nat.le_of_ble_eq_true rfl) ⟨Nat.zero_le _, Nat.zero_le _⟩ rfl dX9_evening_67 (fun H locs hP hS => ?_)
      exact hJ70 _ hf _ _ _ (lv_sub hl [0, 1, 2, 3] rfl) hP hS
    · have hf := ifF hb31 hf
      refine lv_iconst (v := (-1)) hx hb dX9_evening_60 (by decide) ?_
      refine lv_goto (tgt := 70) hx hb dX9_evening_61 (by decide) ?_
      exact hJ70 _ hf _ _ _ (lv_sub hl [0, 1, 2, 3] rfl) hP hS
  refine loopN_ind (P := fun (q34 : Int32 × PH) => ∀ (H : Heap) (locs : List Loc) (ls : Array Slot), lv_has ls 8 [(0, .ref (a 81)), (1, .int v5), (2, .int 0), (3, .int 0), (4, .int q34.1)] → va_P D vwCl (wl a cA q34.2 d) H → va_S A s.heap H locs → W p l e R s m args below meth c H locs 0 0 Q (F0 m 34 ls [])) ?_ _ _ hf _ _ _ (lv_sub hl [4, 3, 2, 1, 0] rfl) hP hS
  intro k35 ihk35 q34 hf H locs ls hl hP hS
  unfold b_X9_evening_34 at hf
  refine lv_iload hx hb dX9_evening_34 (lv_at hl 4 rfl) ?_
  refine lv_iload_n hx hb dX9_evening_36 rfl (lv_at hl 1 rfl) ?_
  refine lv_icmp_ge (tgt := 55) hx hb dX9_evening_37 (by decide) (fun hb35 => ?_) (fun hb35 => ?_)
  · have hf := ifT hb35 hf
    exact hJ55 _ hf _ _ _ (lv_sub hl [0, 1, 2, 3] rfl) hP hS
  · have hf := ifF hb35 hf
    refine lv_aload_n hx hb dX9_evening_40 rfl (lv_at hl 0 rfl) ?_
    refine zg_X9_87 hx hb C hP (by decide) lay_81 rfl dX9_evening_41 ?_
    refine lv_iload hx hb dX9_evening_44 (lv_at hl 4 rfl) ?_
    refine lv_iload hx hb dX9_evening_46 (lv_at hl 4 rfl) ?_
    obtain ⟨hc36, hf⟩ := chk_some hf
    refine zz_iast hx hb C hP hS (by decide) lay_103 (inb_vp hc36) dX9_evening_48 (fun σ38 eσ38 H locs hP hS => ?_)
    have hf := bnd_at σ38 eσ38 hf
    obtain ⟨v39, ev39⟩ : ∃ z : Int32, z = q34.1 + 1 := ⟨_, rfl⟩
    have hf := bnd_at v39 ev39 hf
    refine lv_iinc (v := v39) (lv' := [(4, .int v39), (0, .ref (a 81)), (1, .int v5), (2, .int 0), (3, .int 0)]) hx hb dX9_evening_49 hl (k := 4) rfl (by rw [ev39]; rfl) (by decide) rfl (fun ls hl => ?_)
    refine lv_goto (tgt := 34) hx hb dX9_evening_52 (by decide) ?_
    exact ihk35 _ hf _ _ _ (lv_sub hl [1, 2, 3, 4, 0] rfl) hP hS
set_option maxHeartbeats 4000000 in
set_option maxRecDepth 100000 in
theorem c_X9_evenings (l : Launch) {D : va_G} {a : Nat → Nat} {cA : Nat → ClassId} {A : Nat → Prop} {sa : Nat → Nat} (hDA : DA a A) {σ : PH} {d : PD} (p1 : Int32) {u : Int32 × PH} (hf : f_X9_evenings σ p1 = some u) : CTi l yX9_evenings cX9_evenings 4 (some .int) 7 162 D a cA A sa [.ref (a 81), .int p1] σ d u.1 u.2 d := by
  refine zz_metI zpl_X9 hDA (Nat.le_of_ble_eq_true rfl) ?_
  intro p e R s m args below meth c Q ls hx hb hml C hRf hRl hQ hP hS hl
  have hl : lv_has ls 4 [(0, .ref (a 81)), (1, .int p1)] := hl
  unfold f_X9_evenings at hf
  refine lv_aload_n hx hb dX9_evenings_0 rfl (lv_at hl 0 rfl) ?_
  refine zg_X9_96 hx hb C hP (by decide) lay_81 rfl dX9_evenings_1 ?_
  refine lv_if_ne (tgt := 14) hx hb dX9_evenings_4 (by decide) (fun hb0 => ?_) (fun hb0 => ?_)
  · have hf := ifF hb0 hf
    refine lv_iload_n hx hb dX9_evenings_14 rfl (lv_at hl 1 rfl) ?_
    refine lv_iconst (v := 1) hx hb dX9_evenings_15 (by decide) ?_
    refine lv_icmp_lt (tgt := 25) hx hb dX9_evenings_16 (by decide) (fun hb1 => ?_) (fun hb1 => ?_)
    · have hf := ifT hb1 hf
      refine lv_aload_n hx hb dX9_evenings_25 rfl (lv_at hl 0 rfl) ?_
      refine lv_bipush (v := (-6)) hx hb dX9_evenings_26 (by decide) ?_
      obtain ⟨u3, hzu3, hf⟩ := obd_some hf
      refine zz_callVi (rest := []) hx hb hml C hP hS (c_X9_no l hDA (-6) hzu3) zw_X9_107 ⟨Nat.le_trans (Nat.le_of_ble_eq_true rfl) hRf, Nat.le_trans (Nat.le_of_ble_eq_true rfl) hRl⟩ (by decide) lay_81 rfl rfl hl.1 (Nat.le_of_ble_eq_true rfl) ⟨Nat.zero_le _, Nat.zero_le _⟩ rfl dX9_evenings_28 (fun H locs hP hS => ?_)
      have hf := Option.some.inj hf
      subst hf
      exact hQ _ _ _ _ dX9_evenings_31 hP hS
    · have hf := ifF hb1 hf
      refine lv_iload_n hx hb dX9_evenings_19 rfl (lv_at hl 1 rfl) ?_
      refine lv_bipush (v := 20) hx hb dX9_evenings_20 (by decide) ?_
      refine lv_icmp_le (tgt := 32) hx hb dX9_evenings_22 (by decide) (fun hb3 => ?_) (fun hb3 => ?_)
      · have hf := ifT hb3 hf
        refine lv_iconst (v := 0) hx hb dX9_evenings_32 (by decide) ?_
        refine lv_istore_n (lv' := [(2, .int 0), (0, .ref (a 81)), (1, .int p1)]) hx hb dX9_evenings_33 rfl hl (by decide) rfl (fun ls hl => ?_)
        refine lv_aload_n hx hb dX9_evenings_34 rfl (lv_at hl 1 rfl) ?_
        refine lv_iconst (v := 0) hx hb dX9_evenings_35 (by decide) ?_
        refine zp_X9_123 hx hb C hP hS (by decide) lay_81 rfl dX9_evenings_36 (fun σ5 eσ5 H locs hP hS => ?_)
        have hf := bnd_at σ5 eσ5 hf
        refine lv_aload_n hx hb dX9_evenings_39 rfl (lv_at hl 1 rfl) ?_
        obtain ⟨u6, hzu6, hf⟩ := obd_some hf
        refine zz_callVi (rest := []) hx hb hml C hP hS (c_X9_begins l hDA  hzu6) zw_X9_258 ⟨Nat.le_trans (Nat.le_of_ble_eq_true rfl) hRf, Nat.le_trans (Nat.le_of_ble_eq_true rfl) hRl⟩ (by decide) lay_81 rfl rfl hl.1 (Nat.le_of_ble_eq_true rfl) ⟨Nat.zero_le _, Nat.zero_le _⟩ rfl dX9_evenings_40 (fun H locs hP hS => ?_)
        refine lv_pop hx hb dX9_evenings_43 rfl ?_
        refine lv_iconst (v := 0) hx hb dX9_evenings_44 (by decide) ?_
        refine lv_istore_n (lv' := [(3, .int 0), (2, .int 0), (0, .ref (a 81)), (1, .int p1)]) hx hb dX9_evenings_45 rfl hl (by decide) rfl (fun ls hl => ?_)
        refine loopN_ind (P := fun (q7 : Int32 × Int32 × PH) => ∀ (H : Heap) (locs : List Loc) (ls : Array Slot), lv_has ls 4 [(0, .ref (a 81)), (1, .int p1), (2, .int q7.1), (3, .int q7.2.1)] → va_P D vwCl (wl a cA q7.2.2 d) H → va_S A s.heap H locs → W p l e R s m args below meth c H locs 0 0 Q (F0 m 46 ls [])) ?_ _ _ hf _ _ _ (lv_sub hl [2, 3, 1, 0] rfl) hP hS
        intro k8 ihk8 q7 hf H locs ls hl hP hS
        unfold b_X9_evenings_46 at hf
        refine lv_iload_n hx hb dX9_evenings_46 rfl (lv_at hl 3 rfl) ?_
        refine lv_iload_n hx hb dX9_evenings_47 rfl (lv_at hl 1 rfl) ?_
        refine lv_icmp_ge (tgt := 64) hx hb dX9_evenings_48 (by decide) (fun hb8 => ?_) (fun hb8 => ?_)
        · have hf := ifT hb8 hf
          refine lv_iload_n hx hb dX9_evenings_64 rfl (lv_at hl 2 rfl) ?_
          have hf := Option.some.inj hf
          subst hf
          exact hQ _ _ _ _ dX9_evenings_65 hP hS
        · have hf := ifF hb8 hf
          refine lv_iload_n hx hb dX9_evenings_51 rfl (lv_at hl 2 rfl) ?_
          refine lv_aload_n hx hb dX9_evenings_52 rfl (lv_at hl 0 rfl) ?_
          obtain ⟨u10, hzu10, hf⟩ := obd_some hf
          refine zz_callVi (rest := [.int q7.1]) hx hb hml C hP hS (c_X9_evening l hDA  hzu10) zw_X9_307 ⟨Nat.le_trans (Nat.le_of_ble_eq_true rfl) hRf, Nat.le_trans (Nat.le_of_ble_eq_true rfl) hRl⟩ (by decide) lay_81 rfl rfl hl.1 (Nat.le_of_ble_eq_true rfl) ⟨Nat.zero_le _, Nat.zero_le _⟩ rfl dX9_evenings_53 (fun H locs hP hS => ?_)
          refine lv_iadd hx hb dX9_evenings_56 ?_
          refine lv_topi (fun v11 ev11 => ?_)
          have hf := bnd_at v11 ev11 hf
          refine lv_istore_n (lv' := [(2, .int v11), (0, .ref (a 81)), (1, .int p1), (3, .int q7.2.1)]) hx hb dX9_evenings_57 rfl hl (by decide) rfl (fun ls hl => ?_)
          obtain ⟨v12, ev12⟩ : ∃ z : Int32, z = q7.2.1 + 1 := ⟨_, rfl⟩
          have hf := bnd_at v12 ev12 hf
          refine lv_iinc (v := v12) (lv' := [(3, .int v12), (2, .int v11), (0, .ref (a 81)), (1, .int p1)]) hx hb dX9_evenings_58 hl (k := 3) rfl (by rw [ev12]; rfl) (by decide) rfl (fun ls hl => ?_)
          refine lv_goto (tgt := 46) hx hb dX9_evenings_61 (by decide) ?_
          exact ihk8 _ hf _ _ _ (lv_sub hl [2, 3, 1, 0] rfl) hP hS
      · have hf := ifF hb3 hf
        refine lv_aload_n hx hb dX9_evenings_25 rfl (lv_at hl 0 rfl) ?_
        refine lv_bipush (v := (-6)) hx hb dX9_evenings_26 (by decide) ?_
        obtain ⟨u13, hzu13, hf⟩ := obd_some hf
        refine zz_callVi (rest := []) hx hb hml C hP hS (c_X9_no l hDA (-6) hzu13) zw_X9_107 ⟨Nat.le_trans (Nat.le_of_ble_eq_true rfl) hRf, Nat.le_trans (Nat.le_of_ble_eq_true rfl) hRl⟩ (by decide) lay_81 rfl rfl hl.1 (Nat.le_of_ble_eq_true rfl) ⟨Nat.zero_le _, Nat.zero_le _⟩ rfl dX9_evenings_28 (fun H locs hP hS => ?_)
        have hf := Option.some.inj hf
        subst hf
        exact hQ _ _ _ _ dX9_evenings_31 hP hS
  · have hf := ifT hb0 hf
    refine lv_aload_n hx hb dX9_evenings_7 rfl (lv_at hl 0 rfl) ?_
    refine lv_bipush (v := (-5)) hx hb dX9_evenings_8 (by decide) ?_
    obtain ⟨u14, hzu14, hf⟩ := obd_some hf
    refine zz_callVi (rest := []) hx hb hml C hP hS (c_X9_no l hDA (-5) hzu14) zw_X9_107 ⟨Nat.le_trans (Nat.le_of_ble_eq_true rfl) hRf, Nat.le_trans (Nat.le_of_ble_eq_true rfl) hRl⟩ (by decide) lay_81 rfl rfl hl.1 (Nat.le_of_ble_eq_true rfl) ⟨Nat.zero_le _, Nat.zero_le _⟩ rfl dX9_evenings_10 (fun H locs hP hS => ?_)
    have hf := Option.some.inj hf
    subst hf
    exact hQ _ _ _ _ dX9_evenings_13 hP hS
set_option maxHeartbeats 4000000 in
set_option maxRecDepth 100000 in
theorem c_X9_seed (l : Launch) {D : va_G} {a : Nat → Nat} {cA : Nat → ClassId} {A : Nat → Prop} {sa : Nat → Nat} (hDA : DA a A) {σ : PH} {d : PD} (p1 : Int32) {u : Int32 × PH} (hf : f_X9_seed σ p1 = u) : CTi l yX9_seed cX9_seed 3 (some .int) 0 0 D a cA A sa [.ref (a 81), .int p1] σ d u.1 u.2 d := by
  refine zz_metI zpl_X9 hDA (Nat.le_of_ble_eq_true rfl) ?_
  intro p e R s m args below meth c Q ls hx hb hml C hRf hRl hQ hP hS hl
  have hl : lv_has ls 3 [(0, .ref (a 81)), (1, .int p1)] := hl
  unfold f_X9_seed at hf
  refine lv_aload_n hx hb dX9_seed_0 rfl (lv_at hl 0 rfl) ?_
  refine zg_X9_16 hx hb C hP (by decide) lay_81 rfl dX9_seed_1 ?_
  refine lv_topi (fun v1 ev1 => ?_)
  have hf := bnd_at v1 ev1 hf
  refine lv_istore_n (lv' := [(2, .int v1), (0, .ref (a 81)), (1, .int p1)]) hx hb dX9_seed_4 rfl hl (by decide) rfl (fun ls hl => ?_)
  refine lv_aload_n hx hb dX9_seed_5 rfl (lv_at hl 1 rfl) ?_
  refine lv_iload_n hx hb dX9_seed_6 rfl (lv_at hl 2 rfl) ?_
  refine zp_X9_16 hx hb C hP hS (by decide) lay_81 rfl dX9_seed_7 (fun σ2 eσ2 H locs hP hS => ?_)
  have hf := bnd_at σ2 eσ2 hf
  refine lv_iload_n hx hb dX9_seed_10 rfl (lv_at hl 0 rfl) ?_
  subst hf
  exact hQ _ _ _ _ dX9_seed_11 hP hS
set_option maxHeartbeats 4000000 in
set_option maxRecDepth 100000 in
theorem c_X9_body (l : Launch) {D : va_G} {a : Nat → Nat} {cA : Nat → ClassId} {A : Nat → Prop} {sa : Nat → Nat} (hDA : DA a A) {σ : PH} {d : PD} (p1 : Int32) {u : PH} (hf : f_X9_body σ p1 = some u) : CTv l yX9_body cX9_body 2 none 0 0 D a cA A sa [.ref (a 81), .int p1] σ d u d := by
  refine zz_metV zpl_X9 hDA (Nat.le_of_ble_eq_true rfl) ?_
  intro p e R s m args below meth c Q ls hx hb hml C hRf hRl hQ hP hS hl
  have hl : lv_has ls 2 [(0, .ref (a 81)), (1, .int p1)] := hl
  unfold f_X9_body at hf
  refine lv_aload_n hx hb dX9_body_0 rfl (lv_at hl 0 rfl) ?_
  refine zg_X9_310 hx hb C hP (by decide) lay_81 rfl dX9_body_1 ?_
  refine lv_bipush (v := 20) hx hb dX9_body_4 (by decide) ?_
  refine lv_icmp_ge (tgt := 19) hx hb dX9_body_6 (by decide) (fun hb0 => ?_) (fun hb0 => ?_)
  · have hf := ifT hb0 hf
    refine lv_aload_n hx hb dX9_body_19 rfl (lv_at hl 0 rfl) ?_
    refine lv_dup hx hb dX9_body_20 rfl ?_
    refine zg_X9_310 hx hb C hP (by decide) lay_81 rfl dX9_body_21 ?_
    refine lv_iconst (v := 1) hx hb dX9_body_24 (by decide) ?_
    refine lv_iadd hx hb dX9_body_25 ?_
    refine zp_X9_310 hx hb C hP hS (by decide) lay_81 rfl dX9_body_26 (fun σ2 eσ2 H locs hP hS => ?_)
    have hf := bnd_at σ2 eσ2 hf
    have hf := Option.some.inj hf
    subst hf
    exact hQ _ _ _ _ dX9_body_29 hP hS
  · have hf := ifF hb0 hf
    refine lv_aload_n hx hb dX9_body_9 rfl (lv_at hl 0 rfl) ?_
    refine zg_X9_93 hx hb C hP (by decide) lay_81 rfl dX9_body_10 ?_
    refine lv_aload_n hx hb dX9_body_13 rfl (lv_at hl 0 rfl) ?_
    refine zg_X9_310 hx hb C hP (by decide) lay_81 rfl dX9_body_14 ?_
    refine lv_iload_n hx hb dX9_body_17 rfl (lv_at hl 1 rfl) ?_
    obtain ⟨hc2, hf⟩ := chk_some hf
    refine zz_iast hx hb C hP hS (by decide) lay_105 (inb_vp hc2) dX9_body_18 (fun σ4 eσ4 H locs hP hS => ?_)
    have hf := bnd_at σ4 eσ4 hf
    refine lv_aload_n hx hb dX9_body_19 rfl (lv_at hl 0 rfl) ?_
    refine lv_dup hx hb dX9_body_20 rfl ?_
    refine zg_X9_310 hx hb C hP (by decide) lay_81 rfl dX9_body_21 ?_
    refine lv_iconst (v := 1) hx hb dX9_body_24 (by decide) ?_
    refine lv_iadd hx hb dX9_body_25 ?_
    refine zp_X9_310 hx hb C hP hS (by decide) lay_81 rfl dX9_body_26 (fun σ5 eσ5 H locs hP hS => ?_)
    have hf := bnd_at σ5 eσ5 hf
    have hf := Option.some.inj hf
    subst hf
    exact hQ _ _ _ _ dX9_body_29 hP hS
set_option maxHeartbeats 4000000 in
set_option maxRecDepth 100000 in
theorem c_X9_singing (l : Launch) {D : va_G} {a : Nat → Nat} {cA : Nat → ClassId} {A : Nat → Prop} {sa : Nat → Nat} (hDA : DA a A) {σ : PH} {d : PD} (p1 : Int32) (p2 : Int32) {u : Int32 × PH} (hf : f_X9_singing σ p1 p2 = some u) : CTi l yX9_singing cX9_singing 5 (some .int) 1 21 D a cA A sa [.ref (a 81), .int p1, .int p2] σ d u.1 u.2 d := by
  refine zz_metI zpl_X9 hDA (Nat.le_of_ble_eq_true rfl) ?_
  intro p e R s m args below meth c Q ls hx hb hml C hRf hRl hQ hP hS hl
  have hl : lv_has ls 5 [(0, .ref (a 81)), (1, .int p1), (2, .int p2)] := hl
  unfold f_X9_singing at hf
  refine lv_aload_n hx hb dX9_singing_0 rfl (lv_at hl 0 rfl) ?_
  refine zg_X9_26 hx hb C hP (by decide) lay_81 rfl dX9_singing_1 ?_
  refine lv_iload_n hx hb dX9_singing_4 rfl (lv_at hl 1 rfl) ?_
  obtain ⟨hc0, hf⟩ := chk_some hf
  refine zz_iald hx hb C hP (by decide) lay_83 (inb_vp hc0) dX9_singing_5 ?_
  refine lv_topi (fun v2 ev2 => ?_)
  have hf := bnd_at v2 ev2 hf
  refine lv_istore_n (lv' := [(3, .int v2), (0, .ref (a 81)), (1, .int p1), (2, .int p2)]) hx hb dX9_singing_6 rfl hl (by decide) rfl (fun ls hl => ?_)
  refine lv_iload_n hx hb dX9_singing_7 rfl (lv_at hl 0 rfl) ?_
  refine lv_bipush (v := 6) hx hb dX9_singing_8 (by decide) ?_
  have hJ19 : ∀ (σ3 : PH), j_X9_singing_19 p1 p2 v2 σ3 = some u → ∀ (H : Heap) (locs : List Loc) (ls : Array Slot), lv_has ls 5 [(0, .ref (a 81)), (1, .int p1), (2, .int p2), (3, .int v2)] → va_P D vwCl (wl a cA σ3 d) H → va_S A s.heap H locs → W p l e R s m args below meth c H locs 0 0 Q (F0 m 19 ls []) := by
    intro σ3 hf H locs ls hl hP hS
    unfold j_X9_singing_19 at hf
    refine lv_iload_n hx hb dX9_singing_19 rfl (lv_at hl 3 rfl) ?_
    refine lv_iconst (v := 4) hx hb dX9_singing_20 (by decide) ?_
    have hJ36 : ∀ (σ4 : PH), j_X9_singing_36 p1 p2 v2 σ4 = some u → ∀ (H : Heap) (locs : List Loc) (ls : Array Slot), lv_has ls 5 [(0, .ref (a 81)), (1, .int p1), (2, .int p2), (3, .int v2)] → va_P D vwCl (wl a cA σ4 d) H → va_S A s.heap H locs → W p l e R s m args below meth c H locs 0 0 Q (F0 m 36 ls []) := by
      intro σ4 hf H locs ls hl hP hS
      unfold j_X9_singing_36 at hf
      refine lv_iload_n hx hb dX9_singing_36 rfl (lv_at hl 3 rfl) ?_
      refine lv_iconst (v := 1) hx hb dX9_singing_37 (by decide) ?_
      have hJ52 : ∀ (σ5 : PH), j_X9_singing_52 p1 p2 v2 σ5 = some u → ∀ (H : Heap) (locs : List Loc) (ls : Array Slot), lv_has ls 5 [(0, .ref (a 81)), (1, .int p1), (2, .int p2), (3, .int v2)] → va_P D vwCl (wl a cA σ5 d) H → va_S A s.heap H locs → W p l e R s m args below meth c H locs 0 0 Q (F0 m 52 ls []) := by
        intro σ5 hf H locs ls hl hP hS
        unfold j_X9_singing_52 at hf
        refine lv_aload_n hx hb dX9_singing_52 rfl (lv_at hl 0 rfl) ?_
        refine lv_bipush (v := 10) hx hb dX9_singing_53 (by decide) ?_
        obtain ⟨u6, hzu6, hf⟩ := obd_some hf
        refine zz_callVv (rest := []) hx hb hml C hP hS (c_X9_body l hDA 10 hzu6) zw_X9_313 ⟨Nat.le_trans (Nat.le_of_ble_eq_true rfl) hRf, Nat.le_trans (Nat.le_of_ble_eq_true rfl) hRl⟩ (by decide) lay_81 rfl rfl hl.1 (Nat.le_of_ble_eq_true rfl) ⟨Nat.zero_le _, Nat.zero_le _⟩ rfl dX9_singing_55 (fun H locs hP hS => ?_)
        refine lv_iload_n hx hb dX9_singing_58 rfl (lv_at hl 2 rfl) ?_
        refine lv_iload_n hx hb dX9_singing_59 rfl (lv_at hl 1 rfl) ?_
        refine lv_iadd hx hb dX9_singing_60 ?_
        refine lv_topi (fun v7 ev7 => ?_)
        have hf := bnd_at v7 ev7 hf
        refine lv_istore (lv' := [(4, .int v7), (0, .ref (a 81)), (1, .int p1), (2, .int p2), (3, .int v2)]) hx hb dX9_singing_61 hl (by decide) rfl (fun ls hl => ?_)
        refine lv_iload_n hx hb dX9_singing_63 rfl (lv_at hl 4 rfl) ?_
        refine lv_iconst (v := 1) hx hb dX9_singing_64 (by decide) ?_
        have hJ84 : ∀ (v8 : Int32), j_X9_singing_84 p1 v2 u6 v8 = some u → ∀ (H : Heap) (locs : List Loc) (ls : Array Slot), lv_has ls 5 [(1, .int p1), (3, .int v2), (4, .int v8)] → va_P D vwCl (wl a cA u6 d) H → va_S A s.heap H locs → W p l e R s m args below meth c H locs 0 0 Q (F0 m 84 ls []) := by
          intro v8 hf H locs ls hl hP hS
          unfold j_X9_singing_84 at hf
          refine lv_iload_n hx hb dX9_singing_84 rfl (lv_at hl 1 rfl) ?_
          refine lv_iconst (v := 4) hx hb dX9_singing_85 (by decide) ?_
          have hJ101 : ∀ (v9 : Int32), j_X9_singing_101 v2 u6 v9 = some u → ∀ (H : Heap) (locs : List Loc) (ls : Array Slot), lv_has ls 5 [(3, .int v2), (4, .int v9)] → va_P D vwCl (wl a cA u6 d) H → va_S A s.heap H locs → W p l e R s m args below meth c H locs 0 0 Q (F0 m 101 ls []) := by
            intro v9 hf H locs ls hl hP hS
            unfold j_X9_singing_101 at hf
            refine lv_iload_n hx hb dX9_singing_101 rfl (lv_at hl 0 rfl) ?_
            refine lv_bipush (v := 6) hx hb dX9_singing_102 (by decide) ?_
            refine lv_icmp_ne (tgt := 114) hx hb dX9_singing_104 (by decide) (fun hb9 => ?_) (fun hb9 => ?_)
            · have hf := ifF hb9 hf
              refine lv_iload hx hb dX9_singing_114 (lv_at hl 1 rfl) ?_
              have hf := Option.some.inj hf
              subst hf
              exact hQ _ _ _ _ dX9_singing_116 hP hS
            · have hf := ifT hb9 hf
              refine lv_iload hx hb dX9_singing_107 (lv_at hl 1 rfl) ?_
              refine lv_iconst (v := 2) hx hb dX9_singing_109 (by decide) ?_
              refine lv_imul hx hb dX9_singing_110 ?_
              refine lv_goto (tgt := 116) hx hb dX9_singing_111 (by decide) ?_
              have hf := Option.some.inj hf
              subst hf
              exact hQ _ _ _ _ dX9_singing_116 hP hS
          have hJ95 : j_X9_singing_95 p1 v2 u6 v8 = some u → ∀ (H : Heap) (locs : List Loc) (ls : Array Slot), lv_has ls 5 [(1, .int p1), (3, .int v2), (4, .int v8)] → va_P D vwCl (wl a cA u6 d) H → va_S A s.heap H locs → W p l e R s m args below meth c H locs 0 0 Q (F0 m 95 ls []) := by
            intro  hf H locs ls hl hP hS
            unfold j_X9_singing_95 at hf
            refine lv_iload hx hb dX9_singing_95 (lv_at hl 2 rfl) ?_
            refine lv_iload_n hx hb dX9_singing_97 rfl (lv_at hl 0 rfl) ?_
            refine lv_isub hx hb dX9_singing_98 ?_
            refine lv_topi (fun v11 ev11 => ?_)
            have hf := bnd_at v11 ev11 hf
            refine lv_istore (lv' := [(4, .int v11), (1, .int p1), (3, .int v2)]) hx hb dX9_singing_99 hl (by decide) rfl (fun ls hl => ?_)
            exact hJ101 _ hf _ _ _ (lv_sub hl [2, 0] rfl) hP hS
          refine lv_icmp_eq (tgt := 95) hx hb dX9_singing_86 (by decide) (fun hb11 => ?_) (fun hb11 => ?_)
          · have hf := ifT hb11 hf
            exact hJ95  hf _ _ _ (lv_sub hl [0, 1, 2] rfl) hP hS
          · have hf := ifF hb11 hf
            refine lv_iload_n hx hb dX9_singing_89 rfl (lv_at hl 1 rfl) ?_
            refine lv_bipush (v := 6) hx hb dX9_singing_90 (by decide) ?_
            refine lv_icmp_ne (tgt := 101) hx hb dX9_singing_92 (by decide) (fun hb12 => ?_) (fun hb12 => ?_)
            · have hf := ifF hb12 hf
              exact hJ101 _ hf _ _ _ (lv_sub hl [1, 2] rfl) hP hS
            · have hf := ifT hb12 hf
              exact hJ95  hf _ _ _ (lv_sub hl [0, 1, 2] rfl) hP hS
        have hJ73 : j_X9_singing_73 p1 v2 u6 v7 = some u → ∀ (H : Heap) (locs : List Loc) (ls : Array Slot), lv_has ls 5 [(0, .ref (a 81)), (1, .int p1), (3, .int v2), (4, .int v7)] → va_P D vwCl (wl a cA u6 d) H → va_S A s.heap H locs → W p l e R s m args below meth c H locs 0 0 Q (F0 m 73 ls []) := by
          intro  hf H locs ls hl hP hS
          unfold j_X9_singing_73 at hf
          refine lv_iload hx hb dX9_singing_73 (lv_at hl 3 rfl) ?_
          refine lv_aload_n hx hb dX9_singing_75 rfl (lv_at hl 0 rfl) ?_
          refine zg_X9_29 hx hb C hP (by decide) lay_81 rfl dX9_singing_76 ?_
          refine lv_iload_n hx hb dX9_singing_79 rfl (lv_at hl 1 rfl) ?_
          obtain ⟨hc13, hf⟩ := chk_some hf
          refine zz_iald hx hb C hP (by decide) lay_84 (inb_vp hc13) dX9_singing_80 ?_
          refine lv_iadd hx hb dX9_singing_81 ?_
          refine lv_topi (fun v15 ev15 => ?_)
          have hf := bnd_at v15 ev15 hf
          refine lv_istore (lv' := [(4, .int v15), (0, .ref (a 81)), (1, .int p1), (3, .int v2)]) hx hb dX9_singing_82 hl (by decide) rfl (fun ls hl => ?_)
          exact hJ84 _ hf _ _ _ (lv_sub hl [2, 3, 0] rfl) hP hS
        refine lv_icmp_eq (tgt := 73) hx hb dX9_singing_65 (by decide) (fun hb15 => ?_) (fun hb15 => ?_)
        · have hf := ifT hb15 hf
          exact hJ73  hf _ _ _ (lv_sub hl [1, 2, 4, 0] rfl) hP hS
        · have hf := ifF hb15 hf
          refine lv_iload_n hx hb dX9_singing_68 rfl (lv_at hl 4 rfl) ?_
          refine lv_iconst (v := 3) hx hb dX9_singing_69 (by decide) ?_
          refine lv_icmp_ne (tgt := 84) hx hb dX9_singing_70 (by decide) (fun hb16 => ?_) (fun hb16 => ?_)
          · have hf := ifF hb16 hf
            exact hJ84 _ hf _ _ _ (lv_sub hl [2, 4, 0] rfl) hP hS
          · have hf := ifT hb16 hf
            exact hJ73  hf _ _ _ (lv_sub hl [1, 2, 4, 0] rfl) hP hS
      have hJ46 : j_X9_singing_46 p1 p2 v2 σ4 = some u → ∀ (H : Heap) (locs : List Loc) (ls : Array Slot), lv_has ls 5 [(0, .ref (a 81)), (1, .int p1), (2, .int p2), (3, .int v2)] → va_P D vwCl (wl a cA σ4 d) H → va_S A s.heap H locs → W p l e R s m args below meth c H locs 0 0 Q (F0 m 46 ls []) := by
        intro  hf H locs ls hl hP hS
        unfold j_X9_singing_46 at hf
        refine lv_aload_n hx hb dX9_singing_46 rfl (lv_at hl 0 rfl) ?_
        refine lv_bipush (v := 20) hx hb dX9_singing_47 (by decide) ?_
        obtain ⟨u18, hzu18, hf⟩ := obd_some hf
        refine zz_callVv (rest := []) hx hb hml C hP hS (c_X9_body l hDA 20 hzu18) zw_X9_313 ⟨Nat.le_trans (Nat.le_of_ble_eq_true rfl) hRf, Nat.le_trans (Nat.le_of_ble_eq_true rfl) hRl⟩ (by decide) lay_81 rfl rfl hl.1 (Nat.le_of_ble_eq_true rfl) ⟨Nat.zero_le _, Nat.zero_le _⟩ rfl dX9_singing_49 (fun H locs hP hS => ?_)
        exact hJ52 _ hf _ _ _ (lv_sub hl [0, 1, 2, 3] rfl) hP hS
      refine lv_icmp_eq (tgt := 46) hx hb dX9_singing_38 (by decide) (fun hb18 => ?_) (fun hb18 => ?_)
      · have hf := ifT hb18 hf
        exact hJ46  hf _ _ _ (lv_sub hl [0, 1, 2, 3] rfl) hP hS
      · have hf := ifF hb18 hf
        refine lv_iload_n hx hb dX9_singing_41 rfl (lv_at hl 3 rfl) ?_
        refine lv_iconst (v := 3) hx hb dX9_singing_42 (by decide) ?_
        refine lv_icmp_ne (tgt := 52) hx hb dX9_singing_43 (by decide) (fun hb19 => ?_) (fun hb19 => ?_)
        · have hf := ifF hb19 hf
          exact hJ52 _ hf _ _ _ (lv_sub hl [0, 1, 2, 3] rfl) hP hS
        · have hf := ifT hb19 hf
          exact hJ46  hf _ _ _ (lv_sub hl [0, 1, 2, 3] rfl) hP hS
    have hJ30 : j_X9_singing_30 p1 p2 v2 σ3 = some u → ∀ (H : Heap) (locs : List Loc) (ls : Array Slot), lv_has ls 5 [(0, .ref (a 81)), (1, .int p1), (2, .int p2), (3, .int v2)] → va_P D vwCl (wl a cA σ3 d) H → va_S A s.heap H locs → W p l e R s m args below meth c H locs 0 0 Q (F0 m 30 ls []) := by
      intro  hf H locs ls hl hP hS
      unfold j_X9_singing_30 at hf
      refine lv_aload_n hx hb dX9_singing_30 rfl (lv_at hl 0 rfl) ?_
      refine lv_bipush (v := 51) hx hb dX9_singing_31 (by decide) ?_
      obtain ⟨u21, hzu21, hf⟩ := obd_some hf
      refine zz_callVv (rest := []) hx hb hml C hP hS (c_X9_body l hDA 51 hzu21) zw_X9_313 ⟨Nat.le_trans (Nat.le_of_ble_eq_true rfl) hRf, Nat.le_trans (Nat.le_of_ble_eq_true rfl) hRl⟩ (by decide) lay_81 rfl rfl hl.1 (Nat.le_of_ble_eq_true rfl) ⟨Nat.zero_le _, Nat.zero_le _⟩ rfl dX9_singing_33 (fun H locs hP hS => ?_)
      exact hJ36 _ hf _ _ _ (lv_sub hl [0, 1, 2, 3] rfl) hP hS
    refine lv_icmp_eq (tgt := 30) hx hb dX9_singing_21 (by decide) (fun hb21 => ?_) (fun hb21 => ?_)
    · have hf := ifT hb21 hf
      exact hJ30  hf _ _ _ (lv_sub hl [0, 1, 2, 3] rfl) hP hS
    · have hf := ifF hb21 hf
      refine lv_iload_n hx hb dX9_singing_24 rfl (lv_at hl 3 rfl) ?_
      refine lv_bipush (v := 6) hx hb dX9_singing_25 (by decide) ?_
      refine lv_icmp_ne (tgt := 36) hx hb dX9_singing_27 (by decide) (fun hb22 => ?_) (fun hb22 => ?_)
      · have hf := ifF hb22 hf
        exact hJ36 _ hf _ _ _ (lv_sub hl [0, 1, 2, 3] rfl) hP hS
      · have hf := ifT hb22 hf
        exact hJ30  hf _ _ _ (lv_sub hl [0, 1, 2, 3] rfl) hP hS
  refine lv_icmp_ne (tgt := 19) hx hb dX9_singing_10 (by decide) (fun hb23 => ?_) (fun hb23 => ?_)
  · have hf := ifF hb23 hf
    exact hJ19 _ hf _ _ _ (lv_sub hl [1, 2, 3, 0] rfl) hP hS
  · have hf := ifT hb23 hf
    refine lv_aload_n hx hb dX9_singing_13 rfl (lv_at hl 1 rfl) ?_
    refine lv_bipush (v := 70) hx hb dX9_singing_14 (by decide) ?_
    obtain ⟨u25, hzu25, hf⟩ := obd_some hf
    refine zz_callVv (rest := []) hx hb hml C hP hS (c_X9_body l hDA 70 hzu25) zw_X9_313 ⟨Nat.le_trans (Nat.le_of_ble_eq_true rfl) hRf, Nat.le_trans (Nat.le_of_ble_eq_true rfl) hRl⟩ (by decide) lay_81 rfl rfl hl.1 (Nat.le_of_ble_eq_true rfl) ⟨Nat.zero_le _, Nat.zero_le _⟩ rfl dX9_singing_16 (fun H locs hP hS => ?_)
    exact hJ19 _ hf _ _ _ (lv_sub hl [1, 2, 3, 0] rfl) hP hS
set_option maxHeartbeats 4000000 in
set_option maxRecDepth 100000 in
theorem c_X9_hearing (l : Launch) {D : va_G} {a : Nat → Nat} {cA : Nat → ClassId} {A : Nat → Prop} {sa : Nat → Nat} (hDA : DA a A) {σ : PH} {d : PD} (p1 : Int32) (p2 : Int32) {u : Int32 × PH} (hf : f_X9_hearing σ p1 p2 = some u) : CTi l yX9_hearing cX9_hearing 7 (some .int) 2 45 D a cA A sa [.ref (a 81), .int p1, .int p2] σ d u.1 u.2 d := by
  refine zz_metI zpl_X9 hDA (Nat.le_of_ble_eq_true rfl) ?_
  intro p e R s m args below meth c Q ls hx hb hml C hRf hRl hQ hP hS hl
  have hl : lv_has ls 7 [(0, .ref (a 81)), (1, .int p1), (2, .int p2)] := hl
  unfold f_X9_hearing at hf
  refine lv_aload_n hx hb dX9_hearing_0 rfl (lv_at hl 0 rfl) ?_
  refine zg_X9_26 hx hb C hP (by decide) lay_81 rfl dX9_hearing_1 ?_
  refine lv_iload_n hx hb dX9_hearing_4 rfl (lv_at hl 1 rfl) ?_
  obtain ⟨hc0, hf⟩ := chk_some hf
  refine zz_iald hx hb C hP (by decide) lay_83 (inb_vp hc0) dX9_hearing_5 ?_
  refine lv_topi (fun v2 ev2 => ?_)
  have hf := bnd_at v2 ev2 hf
  refine lv_istore_n (lv' := [(3, .int v2), (0, .ref (a 81)), (1, .int p1), (2, .int p2)]) hx hb dX9_hearing_6 rfl hl (by decide) rfl (fun ls hl => ?_)
  refine lv_iload_n hx hb dX9_hearing_7 rfl (lv_at hl 3 rfl) ?_
  refine lv_istore (lv' := [(4, .int p2), (3, .int v2), (0, .ref (a 81)), (1, .int p1), (2, .int p2)]) hx hb dX9_hearing_8 hl (by decide) rfl (fun ls hl => ?_)
  refine lv_iload_n hx hb dX9_hearing_10 rfl (lv_at hl 1 rfl) ?_
  refine lv_bipush (v := 6) hx hb dX9_hearing_11 (by decide) ?_
  have hJ32 : ∀ (v3 : Int32) (σ4 : PH), j_X9_hearing_32 p1 p2 v2 v3 σ4 = some u → ∀ (H : Heap) (locs : List Loc) (ls : Array Slot), lv_has ls 7 [(0, .ref (a 81)), (1, .int p1), (2, .int p2), (3, .int v2), (4, .int v3)] → va_P D vwCl (wl a cA σ4 d) H → va_S A s.heap H locs → W p l e R s m args below meth c H locs 0 0 Q (F0 m 32 ls []) := by
    intro v3 σ4 hf H locs ls hl hP hS
    unfold j_X9_hearing_32 at hf
    refine lv_iload_n hx hb dX9_hearing_32 rfl (lv_at hl 3 rfl) ?_
    refine lv_iconst (v := 3) hx hb dX9_hearing_33 (by decide) ?_
    have hJ48 : ∀ (v5 : Int32) (σ6 : PH), j_X9_hearing_48 p1 v2 v5 σ6 = some u → ∀ (H : Heap) (locs : List Loc) (ls : Array Slot), lv_has ls 7 [(0, .ref (a 81)), (1, .int p1), (3, .int v2), (4, .int v5)] → va_P D vwCl (wl a cA σ6 d) H → va_S A s.heap H locs → W p l e R s m args below meth c H locs 0 0 Q (F0 m 48 ls []) := by
      intro v5 σ6 hf H locs ls hl hP hS
      unfold j_X9_hearing_48 at hf
      refine lv_iload_n hx hb dX9_hearing_48 rfl (lv_at hl 2 rfl) ?_
      refine lv_iconst (v := 2) hx hb dX9_hearing_49 (by decide) ?_
      have hJ63 : ∀ (v7 : Int32), j_X9_hearing_63 p1 v5 σ6 v7 = some u → ∀ (H : Heap) (locs : List Loc) (ls : Array Slot), lv_has ls 7 [(0, .ref (a 81)), (1, .int p1), (4, .int v5)] → va_P D vwCl (wl a cA σ6 d) H → va_S A s.heap H locs → W p l e R s m args below meth c H locs 0 0 Q (F0 m 63 ls [.int v7]) := by
        intro v7 hf H locs ls hl hP hS
        unfold j_X9_hearing_63 at hf
        refine lv_istore (lv' := [(5, .int v7), (0, .ref (a 81)), (1, .int p1), (4, .int v5)]) hx hb dX9_hearing_63 hl (by decide) rfl (fun ls hl => ?_)
        refine lv_iload hx hb dX9_hearing_65 (lv_at hl 0 rfl) ?_
        have hJ76 : ∀ (σ8 : PH), j_X9_hearing_76 p1 v5 v7 σ8 = some u → ∀ (H : Heap) (locs : List Loc) (ls : Array Slot), lv_has ls 7 [(0, .ref (a 81)), (1, .int p1), (4, .int v5), (5, .int v7)] → va_P D vwCl (wl a cA σ8 d) H → va_S A s.heap H locs → W p l e R s m args below meth c H locs 0 0 Q (F0 m 76 ls []) := by
          intro σ8 hf H locs ls hl hP hS
          unfold j_X9_hearing_76 at hf
          refine lv_aload_n hx hb dX9_hearing_76 rfl (lv_at hl 0 rfl) ?_
          refine lv_bipush (v := 11) hx hb dX9_hearing_77 (by decide) ?_
          obtain ⟨u9, hzu9, hf⟩ := obd_some hf
          refine zz_callVv (rest := []) hx hb hml C hP hS (c_X9_body l hDA 11 hzu9) zw_X9_313 ⟨Nat.le_trans (Nat.le_of_ble_eq_true rfl) hRf, Nat.le_trans (Nat.le_of_ble_eq_true rfl) hRl⟩ (by decide) lay_81 rfl rfl hl.1 (Nat.le_of_ble_eq_true rfl) ⟨Nat.zero_le _, Nat.zero_le _⟩ rfl dX9_hearing_79 (fun H locs hP hS => ?_)
          refine lv_aload_n hx hb dX9_hearing_82 rfl (lv_at hl 0 rfl) ?_
          refine lv_iload_n hx hb dX9_hearing_83 rfl (lv_at hl 1 rfl) ?_
          refine lv_iload hx hb dX9_hearing_84 (lv_at hl 2 rfl) ?_
          obtain ⟨u10, hzu10, hf⟩ := obd_some hf
          refine zz_callVi (rest := []) hx hb hml C hP hS (c_X9_singing l hDA p1 v5 hzu10) zw_X9_316 ⟨Nat.le_trans (Nat.le_of_ble_eq_true rfl) hRf, Nat.le_trans (Nat.le_of_ble_eq_true rfl) hRl⟩ (by decide) lay_81 rfl rfl hl.1 (Nat.le_of_ble_eq_true rfl) ⟨Nat.zero_le _, Nat.zero_le _⟩ rfl dX9_hearing_86 (fun H locs hP hS => ?_)
          refine lv_iconst (v := 2) hx hb dX9_hearing_89 (by decide) ?_
          refine lv_imul hx hb dX9_hearing_90 ?_
          refine lv_topi (fun v11 ev11 => ?_)
          have hf := bnd_at v11 ev11 hf
          refine lv_istore (lv' := [(6, .int v11), (0, .ref (a 81)), (1, .int p1), (4, .int v5), (5, .int v7)]) hx hb dX9_hearing_91 hl (by decide) rfl (fun ls hl => ?_)
          refine lv_iload hx hb dX9_hearing_93 (lv_at hl 4 rfl) ?_
          refine lv_if_eq (tgt := 105) hx hb dX9_hearing_95 (by decide) (fun hb11 => ?_) (fun hb11 => ?_)
          · have hf := ifT hb11 hf
            refine lv_iload hx hb dX9_hearing_105 (lv_at hl 0 rfl) ?_
            have hf := Option.some.inj hf
            subst hf
            exact hQ _ _ _ _ dX9_hearing_107 hP hS
          · have hf := ifF hb11 hf
            refine lv_iload hx hb dX9_hearing_98 (lv_at hl 0 rfl) ?_
            refine lv_iconst (v := 3) hx hb dX9_hearing_100 (by decide) ?_
            refine lv_imul hx hb dX9_hearing_101 ?_
            refine lv_goto (tgt := 107) hx hb dX9_hearing_102 (by decide) ?_
            have hf := Option.some.inj hf
            subst hf
            exact hQ _ _ _ _ dX9_hearing_107 hP hS
        refine lv_if_eq (tgt := 76) hx hb dX9_hearing_67 (by decide) (fun hb12 => ?_) (fun hb12 => ?_)
        · have hf := ifT hb12 hf
          exact hJ76 _ hf _ _ _ (lv_sub hl [1, 2, 3, 0] rfl) hP hS
        · have hf := ifF hb12 hf
          refine lv_aload_n hx hb dX9_hearing_70 rfl (lv_at hl 1 rfl) ?_
          refine lv_bipush (v := 30) hx hb dX9_hearing_71 (by decide) ?_
          obtain ⟨u14, hzu14, hf⟩ := obd_some hf
          refine zz_callVv (rest := []) hx hb hml C hP hS (c_X9_body l hDA 30 hzu14) zw_X9_313 ⟨Nat.le_trans (Nat.le_of_ble_eq_true rfl) hRf, Nat.le_trans (Nat.le_of_ble_eq_true rfl) hRl⟩ (by decide) lay_81 rfl rfl hl.1 (Nat.le_of_ble_eq_true rfl) ⟨Nat.zero_le _, Nat.zero_le _⟩ rfl dX9_hearing_73 (fun H locs hP hS => ?_)
          exact hJ76 _ hf _ _ _ (lv_sub hl [1, 2, 3, 0] rfl) hP hS
      have hJ58 : j_X9_hearing_58 p1 v5 σ6 = some u → ∀ (H : Heap) (locs : List Loc) (ls : Array Slot), lv_has ls 7 [(0, .ref (a 81)), (1, .int p1), (4, .int v5)] → va_P D vwCl (wl a cA σ6 d) H → va_S A s.heap H locs → W p l e R s m args below meth c H locs 0 0 Q (F0 m 58 ls []) := by
        intro  hf H locs ls hl hP hS
        unfold j_X9_hearing_58 at hf
        refine lv_iconst (v := 1) hx hb dX9_hearing_58 (by decide) ?_
        refine lv_goto (tgt := 63) hx hb dX9_hearing_59 (by decide) ?_
        exact hJ63 _ hf _ _ _ (lv_sub hl [0, 1, 2] rfl) hP hS
      refine lv_icmp_eq (tgt := 58) hx hb dX9_hearing_50 (by decide) (fun hb14 => ?_) (fun hb14 => ?_)
      · have hf := ifT hb14 hf
        exact hJ58  hf _ _ _ (lv_sub hl [0, 1, 3] rfl) hP hS
      · have hf := ifF hb14 hf
        refine lv_iload_n hx hb dX9_hearing_53 rfl (lv_at hl 2 rfl) ?_
        refine lv_iconst (v := 5) hx hb dX9_hearing_54 (by decide) ?_
        refine lv_icmp_ne (tgt := 62) hx hb dX9_hearing_55 (by decide) (fun hb15 => ?_) (fun hb15 => ?_)
        · have hf := ifF hb15 hf
          refine lv_iconst (v := 0) hx hb dX9_hearing_62 (by decide) ?_
          exact hJ63 _ hf _ _ _ (lv_sub hl [0, 1, 3] rfl) hP hS
        · have hf := ifT hb15 hf
          exact hJ58  hf _ _ _ (lv_sub hl [0, 1, 3] rfl) hP hS
    refine lv_icmp_ne (tgt := 48) hx hb dX9_hearing_34 (by decide) (fun hb16 => ?_) (fun hb16 => ?_)
    · have hf := ifF hb16 hf
      exact hJ48 _ _ hf _ _ _ (lv_sub hl [0, 1, 3, 4] rfl) hP hS
    · have hf := ifT hb16 hf
      refine lv_aload_n hx hb dX9_hearing_37 rfl (lv_at hl 0 rfl) ?_
      refine lv_bipush (v := 40) hx hb dX9_hearing_38 (by decide) ?_
      obtain ⟨u18, hzu18, hf⟩ := obd_some hf
      refine zz_callVv (rest := []) hx hb hml C hP hS (c_X9_body l hDA 40 hzu18) zw_X9_313 ⟨Nat.le_trans (Nat.le_of_ble_eq_true rfl) hRf, Nat.le_trans (Nat.le_of_ble_eq_true rfl) hRl⟩ (by decide) lay_81 rfl rfl hl.1 (Nat.le_of_ble_eq_true rfl) ⟨Nat.zero_le _, Nat.zero_le _⟩ rfl dX9_hearing_40 (fun H locs hP hS => ?_)
      refine lv_iload_n hx hb dX9_hearing_43 rfl (lv_at hl 2 rfl) ?_
      refine lv_iconst (v := 1) hx hb dX9_hearing_44 (by decide) ?_
      refine lv_iadd hx hb dX9_hearing_45 ?_
      refine lv_topi (fun v19 ev19 => ?_)
      have hf := bnd_at v19 ev19 hf
      refine lv_istore (lv' := [(4, .int v19), (0, .ref (a 81)), (1, .int p1), (2, .int p2), (3, .int v2)]) hx hb dX9_hearing_46 hl (by decide) rfl (fun ls hl => ?_)
      exact hJ48 _ _ hf _ _ _ (lv_sub hl [1, 2, 4, 0] rfl) hP hS
  refine lv_icmp_ne (tgt := 32) hx hb dX9_hearing_13 (by decide) (fun hb19 => ?_) (fun hb19 => ?_)
  · have hf := ifF hb19 hf
    exact hJ32 _ _ hf _ _ _ (lv_sub hl [2, 3, 4, 1, 0] rfl) hP hS
  · have hf := ifT hb19 hf
    refine lv_aload_n hx hb dX9_hearing_16 rfl (lv_at hl 2 rfl) ?_
    refine lv_bipush (v := 71) hx hb dX9_hearing_17 (by decide) ?_
    obtain ⟨u21, hzu21, hf⟩ := obd_some hf
    refine zz_callVv (rest := []) hx hb hml C hP hS (c_X9_body l hDA 71 hzu21) zw_X9_313 ⟨Nat.le_trans (Nat.le_of_ble_eq_true rfl) hRf, Nat.le_trans (Nat.le_of_ble_eq_true rfl) hRl⟩ (by decide) lay_81 rfl rfl hl.1 (Nat.le_of_ble_eq_true rfl) ⟨Nat.zero_le _, Nat.zero_le _⟩ rfl dX9_hearing_19 (fun H locs hP hS => ?_)
    refine lv_iload_n hx hb dX9_hearing_22 rfl (lv_at hl 4 rfl) ?_
    refine lv_aload_n hx hb dX9_hearing_23 rfl (lv_at hl 2 rfl) ?_
    refine zg_X9_29 hx hb C hP (by decide) lay_81 rfl dX9_hearing_24 ?_
    refine lv_iload_n hx hb dX9_hearing_27 rfl (lv_at hl 3 rfl) ?_
    obtain ⟨hc21, hf⟩ := chk_some hf
    refine zz_iald hx hb C hP (by decide) lay_84 (inb_vp hc21) dX9_hearing_28 ?_
    refine lv_isub hx hb dX9_hearing_29 ?_
    refine lv_topi (fun v23 ev23 => ?_)
    have hf := bnd_at v23 ev23 hf
    refine lv_istore (lv' := [(4, .int v23), (3, .int v2), (0, .ref (a 81)), (1, .int p1), (2, .int p2)]) hx hb dX9_hearing_30 hl (by decide) rfl (fun ls hl => ?_)
    exact hJ32 _ _ hf _ _ _ (lv_sub hl [2, 3, 4, 1, 0] rfl) hP hS
set_option maxHeartbeats 4000000 in
set_option maxRecDepth 100000 in
theorem c_X9_leaning (l : Launch) {D : va_G} {a : Nat → Nat} {cA : Nat → ClassId} {A : Nat → Prop} {sa : Nat → Nat} (hDA : DA a A) {σ : PH} {d : PD} (p1 : Int32) (p2 : Int32) {u : Int32 × PH} (hf : f_X9_leaning σ p1 p2 = some u) : CTi l yX9_leaning cX9_leaning 5 (some .int) 3 71 D a cA A sa [.ref (a 81), .int p1, .int p2] σ d u.1 u.2 d := by
  refine zz_metI zpl_X9 hDA (Nat.le_of_ble_eq_true rfl) ?_
  intro p e R s m args below meth c Q ls hx hb hml C hRf hRl hQ hP hS hl
  have hl : lv_has ls 5 [(0, .ref (a 81)), (1, .int p1), (2, .int p2)] := hl
  unfold f_X9_leaning at hf
  refine lv_aload_n hx hb dX9_leaning_0 rfl (lv_at hl 0 rfl) ?_
  refine zg_X9_26 hx hb C hP (by decide) lay_81 rfl dX9_leaning_1 ?_
  refine lv_iload_n hx hb dX9_leaning_4 rfl (lv_at hl 1 rfl) ?_
  obtain ⟨hc0, hf⟩ := chk_some hf
  refine zz_iald hx hb C hP (by decide) lay_83 (inb_vp hc0) dX9_leaning_5 ?_
  refine lv_topi (fun v2 ev2 => ?_)
  have hf := bnd_at v2 ev2 hf
  refine lv_istore_n (lv' := [(3, .int v2), (0, .ref (a 81)), (1, .int p1), (2, .int p2)]) hx hb dX9_leaning_6 rfl hl (by decide) rfl (fun ls hl => ?_)
  refine lv_iload_n hx hb dX9_leaning_7 rfl (lv_at hl 0 rfl) ?_
  refine lv_iconst (v := 4) hx hb dX9_leaning_8 (by decide) ?_
  have hJ24 : ∀ (σ3 : PH), j_X9_leaning_24 p1 p2 v2 σ3 = some u → ∀ (H : Heap) (locs : List Loc) (ls : Array Slot), lv_has ls 5 [(0, .ref (a 81)), (1, .int p1), (2, .int p2), (3, .int v2)] → va_P D vwCl (wl a cA σ3 d) H → va_S A s.heap H locs → W p l e R s m args below meth c H locs 0 0 Q (F0 m 24 ls []) := by
    intro σ3 hf H locs ls hl hP hS
    unfold j_X9_leaning_24 at hf
    refine lv_iload_n hx hb dX9_leaning_24 rfl (lv_at hl 3 rfl) ?_
    refine lv_iconst (v := 5) hx hb dX9_leaning_25 (by decide) ?_
    have hJ35 : ∀ (σ4 : PH), j_X9_leaning_35 p1 p2 v2 σ4 = some u → ∀ (H : Heap) (locs : List Loc) (ls : Array Slot), lv_has ls 5 [(0, .ref (a 81)), (1, .int p1), (2, .int p2), (3, .int v2)] → va_P D vwCl (wl a cA σ4 d) H → va_S A s.heap H locs → W p l e R s m args below meth c H locs 0 0 Q (F0 m 35 ls []) := by
      intro σ4 hf H locs ls hl hP hS
      unfold j_X9_leaning_35 at hf
      refine lv_aload_n hx hb dX9_leaning_35 rfl (lv_at hl 0 rfl) ?_
      refine lv_bipush (v := 12) hx hb dX9_leaning_36 (by decide) ?_
      obtain ⟨u5, hzu5, hf⟩ := obd_some hf
      refine zz_callVv (rest := []) hx hb hml C hP hS (c_X9_body l hDA 12 hzu5) zw_X9_313 ⟨Nat.le_trans (Nat.le_of_ble_eq_true rfl) hRf, Nat.le_trans (Nat.le_of_ble_eq_true rfl) hRl⟩ (by decide) lay_81 rfl rfl hl.1 (Nat.le_of_ble_eq_true rfl) ⟨Nat.zero_le _, Nat.zero_le _⟩ rfl dX9_leaning_38 (fun H locs hP hS => ?_)
      refine lv_aload_n hx hb dX9_leaning_41 rfl (lv_at hl 0 rfl) ?_
      refine lv_iload_n hx hb dX9_leaning_42 rfl (lv_at hl 1 rfl) ?_
      refine lv_iload_n hx hb dX9_leaning_43 rfl (lv_at hl 2 rfl) ?_
      obtain ⟨u6, hzu6, hf⟩ := obd_some hf
      refine zz_callVi (rest := []) hx hb hml C hP hS (c_X9_hearing l hDA p1 p2 hzu6) zw_X9_319 ⟨Nat.le_trans (Nat.le_of_ble_eq_true rfl) hRf, Nat.le_trans (Nat.le_of_ble_eq_true rfl) hRl⟩ (by decide) lay_81 rfl rfl hl.1 (Nat.le_of_ble_eq_true rfl) ⟨Nat.zero_le _, Nat.zero_le _⟩ rfl dX9_leaning_44 (fun H locs hP hS => ?_)
      refine lv_istore (lv' := [(4, .int u6.1), (0, .ref (a 81)), (1, .int p1), (2, .int p2), (3, .int v2)]) hx hb dX9_leaning_47 hl (by decide) rfl (fun ls hl => ?_)
      refine lv_iload hx hb dX9_leaning_49 (lv_at hl 0 rfl) ?_
      refine lv_aload_n hx hb dX9_leaning_51 rfl (lv_at hl 1 rfl) ?_
      refine lv_iload_n hx hb dX9_leaning_52 rfl (lv_at hl 2 rfl) ?_
      refine lv_iload_n hx hb dX9_leaning_53 rfl (lv_at hl 3 rfl) ?_
      refine lv_aload_n hx hb dX9_leaning_54 rfl (lv_at hl 1 rfl) ?_
      refine zg_X9_29 hx hb C hP (by decide) lay_81 rfl dX9_leaning_55 ?_
      refine lv_iload_n hx hb dX9_leaning_58 rfl (lv_at hl 2 rfl) ?_
      obtain ⟨hc6, hf⟩ := chk_some hf
      refine zz_iald hx hb C hP (by decide) lay_84 (inb_vp hc6) dX9_leaning_59 ?_
      refine lv_isub hx hb dX9_leaning_60 ?_
      obtain ⟨u8, hzu8, hf⟩ := obd_some hf
      refine zz_callVi (rest := [.int u6.1]) hx hb hml C hP hS (c_X9_singing l hDA p1 (p2 - (gI u6.2 84 p1.toNatClampNeg)) hzu8) zw_X9_316 ⟨Nat.le_trans (Nat.le_of_ble_eq_true rfl) hRf, Nat.le_trans (Nat.le_of_ble_eq_true rfl) hRl⟩ (by decide) lay_81 rfl rfl hl.1 (Nat.le_of_ble_eq_true rfl) ⟨Nat.zero_le _, Nat.zero_le _⟩ rfl dX9_leaning_61 (fun H locs hP hS => ?_)
      refine lv_ixor hx hb dX9_leaning_64 ?_
      refine lv_topi (fun v9 ev9 => ?_)
      have hf := bnd_at v9 ev9 hf
      refine lv_istore (lv' := [(4, .int v9), (0, .ref (a 81)), (1, .int p1), (2, .int p2), (3, .int v2)]) hx hb dX9_leaning_65 hl (by decide) rfl (fun ls hl => ?_)
      refine lv_iload_n hx hb dX9_leaning_67 rfl (lv_at hl 4 rfl) ?_
      refine lv_iconst (v := 4) hx hb dX9_leaning_68 (by decide) ?_
      refine lv_icmp_eq (tgt := 78) hx hb dX9_leaning_69 (by decide) (fun hb9 => ?_) (fun hb9 => ?_)
      · have hf := ifT hb9 hf
        refine lv_iload hx hb dX9_leaning_78 (lv_at hl 0 rfl) ?_
        refine lv_ineg hx hb dX9_leaning_80 ?_
        refine lv_goto (tgt := 98) hx hb dX9_leaning_81 (by decide) ?_
        have hf := Option.some.inj hf
        subst hf
        exact hQ _ _ _ _ dX9_leaning_98 hP hS
      · have hf := ifF hb9 hf
        refine lv_iload_n hx hb dX9_leaning_72 rfl (lv_at hl 4 rfl) ?_
        refine lv_bipush (v := 6) hx hb dX9_leaning_73 (by decide) ?_
        refine lv_icmp_ne (tgt := 84) hx hb dX9_leaning_75 (by decide) (fun hb10 => ?_) (fun hb10 => ?_)
        · have hf := ifF hb10 hf
          refine lv_iload_n hx hb dX9_leaning_84 rfl (lv_at hl 4 rfl) ?_
          refine lv_iconst (v := 5) hx hb dX9_leaning_85 (by decide) ?_
          refine lv_icmp_ne (tgt := 96) hx hb dX9_leaning_86 (by decide) (fun hb11 => ?_) (fun hb11 => ?_)
          · have hf := ifF hb11 hf
            refine lv_iload hx hb dX9_leaning_96 (lv_at hl 0 rfl) ?_
            have hf := Option.some.inj hf
            subst hf
            exact hQ _ _ _ _ dX9_leaning_98 hP hS
          · have hf := ifT hb11 hf
            refine lv_iload hx hb dX9_leaning_89 (lv_at hl 0 rfl) ?_
            refine lv_iconst (v := 5) hx hb dX9_leaning_91 (by decide) ?_
            refine lv_ixor hx hb dX9_leaning_92 ?_
            refine lv_goto (tgt := 98) hx hb dX9_leaning_93 (by decide) ?_
            have hf := Option.some.inj hf
            subst hf
            exact hQ _ _ _ _ dX9_leaning_98 hP hS
        · have hf := ifT hb10 hf
          refine lv_iload hx hb dX9_leaning_78 (lv_at hl 0 rfl) ?_
          refine lv_ineg hx hb dX9_leaning_80 ?_
          refine lv_goto (tgt := 98) hx hb dX9_leaning_81 (by decide) ?_
          have hf := Option.some.inj hf
          subst hf
          exact hQ _ _ _ _ dX9_leaning_98 hP hS
    refine lv_icmp_ne (tgt := 35) hx hb dX9_leaning_26 (by decide) (fun hb12 => ?_) (fun hb12 => ?_)
    · have hf := ifF hb12 hf
      exact hJ35 _ hf _ _ _ (lv_sub hl [0, 1, 2, 3] rfl) hP hS
    · have hf := ifT hb12 hf
      refine lv_aload_n hx hb dX9_leaning_29 rfl (lv_at hl 0 rfl) ?_
      refine lv_bipush (v := 60) hx hb dX9_leaning_30 (by decide) ?_
      obtain ⟨u14, hzu14, hf⟩ := obd_some hf
      refine zz_callVv (rest := []) hx hb hml C hP hS (c_X9_body l hDA 60 hzu14) zw_X9_313 ⟨Nat.le_trans (Nat.le_of_ble_eq_true rfl) hRf, Nat.le_trans (Nat.le_of_ble_eq_true rfl) hRl⟩ (by decide) lay_81 rfl rfl hl.1 (Nat.le_of_ble_eq_true rfl) ⟨Nat.zero_le _, Nat.zero_le _⟩ rfl dX9_leaning_32 (fun H locs hP hS => ?_)
      exact hJ35 _ hf _ _ _ (lv_sub hl [0, 1, 2, 3] rfl) hP hS
  have hJ18 : j_X9_leaning_18 σ p1 p2 v2 = some u → ∀ (H : Heap) (locs : List Loc) (ls : Array Slot), lv_has ls 5 [(0, .ref (a 81)), (1, .int p1), (2, .int p2), (3, .int v2)] → va_P D vwCl (wl a cA σ d) H → va_S A s.heap H locs → W p l e R s m args below meth c H locs 0 0 Q (F0 m 18 ls []) := by
    intro  hf H locs ls hl hP hS
    unfold j_X9_leaning_18 at hf
    refine lv_aload_n hx hb dX9_leaning_18 rfl (lv_at hl 0 rfl) ?_
    refine lv_bipush (v := 50) hx hb dX9_leaning_19 (by decide) ?_
    obtain ⟨u15, hzu15, hf⟩ := obd_some hf
    refine zz_callVv (rest := []) hx hb hml C hP hS (c_X9_body l hDA 50 hzu15) zw_X9_313 ⟨Nat.le_trans (Nat.le_of_ble_eq_true rfl) hRf, Nat.le_trans (Nat.le_of_ble_eq_true rfl) hRl⟩ (by decide) lay_81 rfl rfl hl.1 (Nat.le_of_ble_eq_true rfl) ⟨Nat.zero_le _, Nat.zero_le _⟩ rfl dX9_leaning_21 (fun H locs hP hS => ?_)
    exact hJ24 _ hf _ _ _ (lv_sub hl [0, 1, 2, 3] rfl) hP hS
  refine lv_icmp_eq (tgt := 18) hx hb dX9_leaning_9 (by decide) (fun hb15 => ?_) (fun hb15 => ?_)
  · have hf := ifT hb15 hf
    exact hJ18  hf _ _ _ (lv_sub hl [1, 2, 3, 0] rfl) hP hS
  · have hf := ifF hb15 hf
    refine lv_iload_n hx hb dX9_leaning_12 rfl (lv_at hl 0 rfl) ?_
    refine lv_bipush (v := 6) hx hb dX9_leaning_13 (by decide) ?_
    refine lv_icmp_ne (tgt := 24) hx hb dX9_leaning_15 (by decide) (fun hb16 => ?_) (fun hb16 => ?_)
    · have hf := ifF hb16 hf
      exact hJ24 _ hf _ _ _ (lv_sub hl [1, 2, 3, 0] rfl) hP hS
    · have hf := ifT hb16 hf
      exact hJ18  hf _ _ _ (lv_sub hl [1, 2, 3, 0] rfl) hP hS
set_option maxHeartbeats 4000000 in
set_option maxRecDepth 100000 in
theorem c_X9_act (l : Launch) {D : va_G} {a : Nat → Nat} {cA : Nat → ClassId} {A : Nat → Prop} {sa : Nat → Nat} (hDA : DA a A) {σ : PH} {d : PD} (p1 : Int32) (p2 : Int32) (p3 : Int32) {u : Int32 × PH} (hf : f_X9_act σ p1 p2 p3 = some u) : CTi l yX9_act cX9_act 4 (some .int) 4 95 D a cA A sa [.ref (a 81), .int p1, .int p2, .int p3] σ d u.1 u.2 d := by
  refine zz_metI zpl_X9 hDA (Nat.le_of_ble_eq_true rfl) ?_
  intro p e R s m args below meth c Q ls hx hb hml C hRf hRl hQ hP hS hl
  have hl : lv_has ls 4 [(0, .ref (a 81)), (1, .int p1), (2, .int p2), (3, .int p3)] := hl
  unfold f_X9_act at hf
  refine lv_aload_n hx hb dX9_act_0 rfl (lv_at hl 0 rfl) ?_
  refine lv_iconst (v := 0) hx hb dX9_act_1 (by decide) ?_
  refine zp_X9_310 hx hb C hP hS (by decide) lay_81 rfl dX9_act_2 (fun σ1 eσ1 H locs hP hS => ?_)
  have hf := bnd_at σ1 eσ1 hf
  refine lv_aload_n hx hb dX9_act_5 rfl (lv_at hl 0 rfl) ?_
  refine lv_iload_n hx hb dX9_act_6 rfl (lv_at hl 1 rfl) ?_
  obtain ⟨u2, hzu2⟩ : ∃ z, z = f_X9_isSinger σ1 p1 := ⟨_, rfl⟩
  have hf := bnd_at u2 hzu2 hf
  refine zz_callVi (rest := []) hx hb hml C hP hS (c_X9_isSinger l hDA p1 hzu2.symm) zw_X9_111 ⟨Nat.le_trans (Nat.le_of_ble_eq_true rfl) hRf, Nat.le_trans (Nat.le_of_ble_eq_true rfl) hRl⟩ (by decide) lay_81 rfl rfl hl.1 (Nat.le_of_ble_eq_true rfl) ⟨Nat.zero_le _, Nat.zero_le _⟩ rfl dX9_act_7 (fun H locs hP hS => ?_)
  refine lv_if_eq (tgt := 22) hx hb dX9_act_10 (by decide) (fun hb2 => ?_) (fun hb2 => ?_)
  · have hf := ifT hb2 hf
    refine lv_iconst (v := 0) hx hb dX9_act_22 (by decide) ?_
    have hf := Option.some.inj hf
    subst hf
    exact hQ _ _ _ _ dX9_act_23 hP hS
  · have hf := ifF hb2 hf
    refine lv_iload_n hx hb dX9_act_13 rfl (lv_at hl 2 rfl) ?_
    refine lv_if_lt (tgt := 22) hx hb dX9_act_14 (by decide) (fun hb3 => ?_) (fun hb3 => ?_)
    · have hf := ifT hb3 hf
      refine lv_iconst (v := 0) hx hb dX9_act_22 (by decide) ?_
      have hf := Option.some.inj hf
      subst hf
      exact hQ _ _ _ _ dX9_act_23 hP hS
    · have hf := ifF hb3 hf
      refine lv_iload_n hx hb dX9_act_17 rfl (lv_at hl 2 rfl) ?_
      refine lv_iconst (v := 2) hx hb dX9_act_18 (by decide) ?_
      refine lv_icmp_le (tgt := 24) hx hb dX9_act_19 (by decide) (fun hb4 => ?_) (fun hb4 => ?_)
      · have hf := ifT hb4 hf
        refine lv_iload_n hx hb dX9_act_24 rfl (lv_at hl 2 rfl) ?_
        refine lv_if_ne (tgt := 37) hx hb dX9_act_25 (by decide) (fun hb5 => ?_) (fun hb5 => ?_)
        · have hf := ifF hb5 hf
          refine lv_iload_n hx hb dX9_act_37 rfl (lv_at hl 2 rfl) ?_
          refine lv_iconst (v := 1) hx hb dX9_act_38 (by decide) ?_
          refine lv_icmp_ne (tgt := 51) hx hb dX9_act_39 (by decide) (fun hb6 => ?_) (fun hb6 => ?_)
          · have hf := ifF hb6 hf
            refine lv_aload_n hx hb dX9_act_51 rfl (lv_at hl 0 rfl) ?_
            refine lv_iload_n hx hb dX9_act_52 rfl (lv_at hl 1 rfl) ?_
            refine lv_iload_n hx hb dX9_act_53 rfl (lv_at hl 3 rfl) ?_
            obtain ⟨u8, hzu8, hf⟩ := obd_some hf
            refine zz_callVi (rest := []) hx hb hml C hP hS (c_X9_leaning l hDA p1 p3 hzu8) zw_X9_322 ⟨Nat.le_trans (Nat.le_of_ble_eq_true rfl) hRf, Nat.le_trans (Nat.le_of_ble_eq_true rfl) hRl⟩ (by decide) lay_81 rfl rfl hl.1 (Nat.le_of_ble_eq_true rfl) ⟨Nat.zero_le _, Nat.zero_le _⟩ rfl dX9_act_54 (fun H locs hP hS => ?_)
            have hf := Option.some.inj hf
            subst hf
            exact hQ _ _ _ _ dX9_act_57 hP hS
          · have hf := ifT hb6 hf
            refine lv_aload_n hx hb dX9_act_42 rfl (lv_at hl 0 rfl) ?_
            refine lv_iload_n hx hb dX9_act_43 rfl (lv_at hl 1 rfl) ?_
            refine lv_iload_n hx hb dX9_act_44 rfl (lv_at hl 3 rfl) ?_
            obtain ⟨u9, hzu9, hf⟩ := obd_some hf
            refine zz_callVi (rest := []) hx hb hml C hP hS (c_X9_hearing l hDA p1 p3 hzu9) zw_X9_319 ⟨Nat.le_trans (Nat.le_of_ble_eq_true rfl) hRf, Nat.le_trans (Nat.le_of_ble_eq_true rfl) hRl⟩ (by decide) lay_81 rfl rfl hl.1 (Nat.le_of_ble_eq_true rfl) ⟨Nat.zero_le _, Nat.zero_le _⟩ rfl dX9_act_45 (fun H locs hP hS => ?_)
            refine lv_goto (tgt := 57) hx hb dX9_act_48 (by decide) ?_
            have hf := Option.some.inj hf
            subst hf
            exact hQ _ _ _ _ dX9_act_57 hP hS
        · have hf := ifT hb5 hf
          refine lv_aload_n hx hb dX9_act_28 rfl (lv_at hl 0 rfl) ?_
          refine lv_iload_n hx hb dX9_act_29 rfl (lv_at hl 1 rfl) ?_
          refine lv_iload_n hx hb dX9_act_30 rfl (lv_at hl 3 rfl) ?_
          obtain ⟨u10, hzu10, hf⟩ := obd_some hf
          refine zz_callVi (rest := []) hx hb hml C hP hS (c_X9_singing l hDA p1 p3 hzu10) zw_X9_316 ⟨Nat.le_trans (Nat.le_of_ble_eq_true rfl) hRf, Nat.le_trans (Nat.le_of_ble_eq_true rfl) hRl⟩ (by decide) lay_81 rfl rfl hl.1 (Nat.le_of_ble_eq_true rfl) ⟨Nat.zero_le _, Nat.zero_le _⟩ rfl dX9_act_31 (fun H locs hP hS => ?_)
          refine lv_goto (tgt := 57) hx hb dX9_act_34 (by decide) ?_
          have hf := Option.some.inj hf
          subst hf
          exact hQ _ _ _ _ dX9_act_57 hP hS
      · have hf := ifF hb4 hf
        refine lv_iconst (v := 0) hx hb dX9_act_22 (by decide) ?_
        have hf := Option.some.inj hf
        subst hf
        exact hQ _ _ _ _ dX9_act_23 hP hS
set_option maxHeartbeats 4000000 in
set_option maxRecDepth 100000 in
theorem c_X9_trace (l : Launch) {D : va_G} {a : Nat → Nat} {cA : Nat → ClassId} {A : Nat → Prop} {sa : Nat → Nat} (hDA : DA a A) {σ : PH} {d : PD} (p1 : Int32) {u : Int32} (hf : f_X9_trace σ p1 = some u) : CTi l yX9_trace cX9_trace 2 (some .int) 0 0 D a cA A sa [.ref (a 81), .int p1] σ d u σ d := by
  refine zz_metI zpl_X9 hDA (Nat.le_of_ble_eq_true rfl) ?_
  intro p e R s m args below meth c Q ls hx hb hml C hRf hRl hQ hP hS hl
  have hl : lv_has ls 2 [(0, .ref (a 81)), (1, .int p1)] := hl
  unfold f_X9_trace at hf
  refine lv_iload_n hx hb dX9_trace_0 rfl (lv_at hl 1 rfl) ?_
  refine lv_if_lt (tgt := 27) hx hb dX9_trace_1 (by decide) (fun hb0 => ?_) (fun hb0 => ?_)
  · have hf := ifT hb0 hf
    refine lv_iconst (v := (-1)) hx hb dX9_trace_27 (by decide) ?_
    have hf := Option.some.inj hf
    subst hf
    exact hQ _ _ _ _ dX9_trace_28 hP hS
  · have hf := ifF hb0 hf
    refine lv_iload_n hx hb dX9_trace_4 rfl (lv_at hl 1 rfl) ?_
    refine lv_bipush (v := 20) hx hb dX9_trace_5 (by decide) ?_
    refine lv_icmp_ge (tgt := 27) hx hb dX9_trace_7 (by decide) (fun hb1 => ?_) (fun hb1 => ?_)
    · have hf := ifT hb1 hf
      refine lv_iconst (v := (-1)) hx hb dX9_trace_27 (by decide) ?_
      have hf := Option.some.inj hf
      subst hf
      exact hQ _ _ _ _ dX9_trace_28 hP hS
    · have hf := ifF hb1 hf
      refine lv_iload_n hx hb dX9_trace_10 rfl (lv_at hl 1 rfl) ?_
      refine lv_aload_n hx hb dX9_trace_11 rfl (lv_at hl 0 rfl) ?_
      refine zg_X9_310 hx hb C hP (by decide) lay_81 rfl dX9_trace_12 ?_
      refine lv_icmp_ge (tgt := 27) hx hb dX9_trace_15 (by decide) (fun hb2 => ?_) (fun hb2 => ?_)
      · have hf := ifT hb2 hf
        refine lv_iconst (v := (-1)) hx hb dX9_trace_27 (by decide) ?_
        have hf := Option.some.inj hf
        subst hf
        exact hQ _ _ _ _ dX9_trace_28 hP hS
      · have hf := ifF hb2 hf
        refine lv_aload_n hx hb dX9_trace_18 rfl (lv_at hl 0 rfl) ?_
        refine zg_X9_93 hx hb C hP (by decide) lay_81 rfl dX9_trace_19 ?_
        refine lv_iload_n hx hb dX9_trace_22 rfl (lv_at hl 1 rfl) ?_
        obtain ⟨hc3, hf⟩ := chk_some hf
        refine zz_iald hx hb C hP (by decide) lay_105 (inb_vp hc3) dX9_trace_23 ?_
        refine lv_goto (tgt := 28) hx hb dX9_trace_24 (by decide) ?_
        have hf := Option.some.inj hf
        subst hf
        exact hQ _ _ _ _ dX9_trace_28 hP hS
set_option maxHeartbeats 4000000 in
set_option maxRecDepth 100000 in
theorem c_X9_image (l : Launch) {D : va_G} {a : Nat → Nat} {cA : Nat → ClassId} {A : Nat → Prop} {sa : Nat → Nat} (hDA : DA a A) {σ : PH} {d : PD}  {u : Int32 × PH} (hf : f_X9_image σ = some u) : CTi l yX9_image cX9_image 1 (some .int) 2 49 D a cA A sa [.ref (a 81)] σ d u.1 u.2 d := by
  refine zz_metI zpl_X9 hDA (Nat.le_of_ble_eq_true rfl) ?_
  intro p e R s m args below meth c Q ls hx hb hml C hRf hRl hQ hP hS hl
  have hl : lv_has ls 1 [(0, .ref (a 81))] := hl
  unfold f_X9_image at hf
  refine lv_aload_n hx hb dX9_image_0 rfl (lv_at hl 0 rfl) ?_
  refine lv_iconst (v := 1) hx hb dX9_image_1 (by decide) ?_
  refine zp_X9_325 hx hb C hP hS (by decide) lay_81 rfl rfl rfl dX9_image_2 (fun σ1 eσ1 H locs hP hS => ?_)
  have hf := bnd_at σ1 eσ1 hf
  refine lv_aload_n hx hb dX9_image_5 rfl (lv_at hl 0 rfl) ?_
  refine lv_aload_n hx hb dX9_image_6 rfl (lv_at hl 0 rfl) ?_
  refine zg_X9_75 hx hb C hP (by decide) lay_81 rfl dX9_image_7 ?_
  refine lv_iconst (v := 0) hx hb dX9_image_10 (by decide) ?_
  obtain ⟨u2, hzu2, hf⟩ := obd_some hf
  refine zz_callVv (rest := []) hx hb hml C hP hS (c_X9_all l hDA (o1 := 99) (n1 := 80) (by decide) lay_99 0 hzu2) zw_X9_207 ⟨Nat.le_trans (Nat.le_of_ble_eq_true rfl) hRf, Nat.le_trans (Nat.le_of_ble_eq_true rfl) hRl⟩ (by decide) lay_81 rfl rfl hl.1 (Nat.le_of_ble_eq_true rfl) ⟨Nat.zero_le _, Nat.zero_le _⟩ rfl dX9_image_11 (fun H locs hP hS => ?_)
  refine lv_aload_n hx hb dX9_image_14 rfl (lv_at hl 0 rfl) ?_
  refine zg_X9_96 hx hb C hP (by decide) lay_81 rfl dX9_image_15 ?_
  have hf := Option.some.inj hf
  subst hf
  exact hQ _ _ _ _ dX9_image_18 hP hS
set_option maxHeartbeats 4000000 in
set_option maxRecDepth 100000 in
theorem c_X9_restore (l : Launch) {D : va_G} {a : Nat → Nat} {cA : Nat → ClassId} {A : Nat → Prop} {sa : Nat → Nat} (hDA : DA a A) {σ : PH} {d : PD}  {u : Int32 × PH} (hf : f_X9_restore σ = some u) : CTi l yX9_restore cX9_restore 2 (some .int) 2 49 D a cA A sa [.ref (a 81)] σ d u.1 u.2 d := by
  refine zz_metI zpl_X9 hDA (Nat.le_of_ble_eq_true rfl) ?_
  intro p e R s m args below meth c Q ls hx hb hml C hRf hRl hQ hP hS hl
  have hl : lv_has ls 2 [(0, .ref (a 81))] := hl
  unfold f_X9_restore at hf
  refine lv_aload_n hx hb dX9_restore_0 rfl (lv_at hl 0 rfl) ?_
  refine zg_X9_325 hx hb C hP (by decide) lay_81 rfl dX9_restore_1 ?_
  refine lv_if_ne (tgt := 14) hx hb dX9_restore_4 (by decide) (fun hb0 => ?_) (fun hb0 => ?_)
  · have hf := ifF hb0 hf
    refine lv_aload_n hx hb dX9_restore_14 rfl (lv_at hl 0 rfl) ?_
    refine lv_aload_n hx hb dX9_restore_15 rfl (lv_at hl 0 rfl) ?_
    refine zg_X9_75 hx hb C hP (by decide) lay_81 rfl dX9_restore_16 ?_
    refine lv_iconst (v := 1) hx hb dX9_restore_19 (by decide) ?_
    obtain ⟨u2, hzu2, hf⟩ := obd_some hf
    refine zz_callVv (rest := []) hx hb hml C hP hS (c_X9_all l hDA (o1 := 99) (n1 := 80) (by decide) lay_99 1 hzu2) zw_X9_207 ⟨Nat.le_trans (Nat.le_of_ble_eq_true rfl) hRf, Nat.le_trans (Nat.le_of_ble_eq_true rfl) hRl⟩ (by decide) lay_81 rfl rfl hl.1 (Nat.le_of_ble_eq_true rfl) ⟨Nat.zero_le _, Nat.zero_le _⟩ rfl dX9_restore_20 (fun H locs hP hS => ?_)
    refine lv_iconst (v := 0) hx hb dX9_restore_23 (by decide) ?_
    refine lv_istore_n (lv' := [(1, .int 0), (0, .ref (a 81))]) hx hb dX9_restore_24 rfl hl (by decide) rfl (fun ls hl => ?_)
    refine loopN_ind (P := fun (q3 : Int32 × PH) => ∀ (H : Heap) (locs : List Loc) (ls : Array Slot), lv_has ls 2 [(0, .ref (a 81)), (1, .int q3.1)] → va_P D vwCl (wl a cA q3.2 d) H → va_S A s.heap H locs → W p l e R s m args below meth c H locs 0 0 Q (F0 m 25 ls [])) ?_ _ _ hf _ _ _ (lv_sub hl [1, 0] rfl) hP hS
    intro k4 ihk4 q3 hf H locs ls hl hP hS
    unfold b_X9_restore_25 at hf
    refine lv_iload_n hx hb dX9_restore_25 rfl (lv_at hl 1 rfl) ?_
    refine lv_bipush (v := 8) hx hb dX9_restore_26 (by decide) ?_
    refine lv_icmp_ge (tgt := 67) hx hb dX9_restore_28 (by decide) (fun hb4 => ?_) (fun hb4 => ?_)
    · have hf := ifT hb4 hf
      refine lv_aload_n hx hb dX9_restore_67 rfl (lv_at hl 0 rfl) ?_
      refine zg_X9_96 hx hb C hP (by decide) lay_81 rfl dX9_restore_68 ?_
      have hf := Option.some.inj hf
      subst hf
      exact hQ _ _ _ _ dX9_restore_71 hP hS
    · have hf := ifF hb4 hf
      refine lv_aload_n hx hb dX9_restore_31 rfl (lv_at hl 0 rfl) ?_
      refine zg_X9_44 hx hb C hP (by decide) lay_81 rfl dX9_restore_32 ?_
      refine lv_iload_n hx hb dX9_restore_35 rfl (lv_at hl 1 rfl) ?_
      obtain ⟨hc5, hf⟩ := chk_some hf
      refine zz_iald hx hb C hP (by decide) lay_89 (inb_vp hc5) dX9_restore_36 ?_
      refine lv_iconst (v := 2) hx hb dX9_restore_37 (by decide) ?_
      refine lv_icmp_ne (tgt := 61) hx hb dX9_restore_38 (by decide) (fun hb6 => ?_) (fun hb6 => ?_)
      · have hf := ifF hb6 hf
        obtain ⟨v8, ev8⟩ : ∃ z : Int32, z = q3.1 + 1 := ⟨_, rfl⟩
        have hf := bnd_at v8 ev8 hf
        refine lv_iinc (v := v8) (lv' := [(1, .int v8), (0, .ref (a 81))]) hx hb dX9_restore_61 hl (k := 1) rfl (by rw [ev8]; rfl) (by decide) rfl (fun ls hl => ?_)
        refine lv_goto (tgt := 25) hx hb dX9_restore_64 (by decide) ?_
        exact ihk4 _ hf _ _ _ (lv_sub hl [1, 0] rfl) hP hS
      · have hf := ifT hb6 hf
        refine lv_aload_n hx hb dX9_restore_41 rfl (lv_at hl 0 rfl) ?_
        refine zg_X9_53 hx hb C hP (by decide) lay_81 rfl dX9_restore_42 ?_
        refine lv_iload_n hx hb dX9_restore_45 rfl (lv_at hl 1 rfl) ?_
        obtain ⟨hc8, hf⟩ := chk_some hf
        refine zz_iald hx hb C hP (by decide) lay_92 (inb_vp hc8) dX9_restore_46 ?_
        refine lv_aload_n hx hb dX9_restore_47 rfl (lv_at hl 0 rfl) ?_
        refine zg_X9_96 hx hb C hP (by decide) lay_81 rfl dX9_restore_48 ?_
        refine lv_icmp_lt (tgt := 61) hx hb dX9_restore_51 (by decide) (fun hb9 => ?_) (fun hb9 => ?_)
        · have hf := ifT hb9 hf
          obtain ⟨v11, ev11⟩ : ∃ z : Int32, z = q3.1 + 1 := ⟨_, rfl⟩
          have hf := bnd_at v11 ev11 hf
          refine lv_iinc (v := v11) (lv' := [(1, .int v11), (0, .ref (a 81))]) hx hb dX9_restore_61 hl (k := 1) rfl (by rw [ev11]; rfl) (by decide) rfl (fun ls hl => ?_)
          refine lv_goto (tgt := 25) hx hb dX9_restore_64 (by decide) ?_
          exact ihk4 _ hf _ _ _ (lv_sub hl [1, 0] rfl) hP hS
        · have hf := ifF hb9 hf
          refine lv_aload_n hx hb dX9_restore_54 rfl (lv_at hl 0 rfl) ?_
          refine zg_X9_44 hx hb C hP (by decide) lay_81 rfl dX9_restore_55 ?_
          refine lv_iload_n hx hb dX9_restore_58 rfl (lv_at hl 1 rfl) ?_
          refine lv_iconst (v := 0) hx hb dX9_restore_59 (by decide) ?_
          obtain ⟨hc11, hf⟩ := chk_some hf
          refine zz_iast hx hb C hP hS (by decide) lay_89 (inb_vp hc11) dX9_restore_60 (fun σ13 eσ13 H locs hP hS => ?_)
          have hf := bnd_at σ13 eσ13 hf
          obtain ⟨v14, ev14⟩ : ∃ z : Int32, z = q3.1 + 1 := ⟨_, rfl⟩
          have hf := bnd_at v14 ev14 hf
          refine lv_iinc (v := v14) (lv' := [(1, .int v14), (0, .ref (a 81))]) hx hb dX9_restore_61 hl (k := 1) rfl (by rw [ev14]; rfl) (by decide) rfl (fun ls hl => ?_)
          refine lv_goto (tgt := 25) hx hb dX9_restore_64 (by decide) ?_
          exact ihk4 _ hf _ _ _ (lv_sub hl [1, 0] rfl) hP hS
  · have hf := ifT hb0 hf
    refine lv_aload_n hx hb dX9_restore_7 rfl (lv_at hl 0 rfl) ?_
    refine lv_bipush (v := (-6)) hx hb dX9_restore_8 (by decide) ?_
    obtain ⟨u15, hzu15, hf⟩ := obd_some hf
    refine zz_callVi (rest := []) hx hb hml C hP hS (c_X9_no l hDA (-6) hzu15) zw_X9_107 ⟨Nat.le_trans (Nat.le_of_ble_eq_true rfl) hRf, Nat.le_trans (Nat.le_of_ble_eq_true rfl) hRl⟩ (by decide) lay_81 rfl rfl hl.1 (Nat.le_of_ble_eq_true rfl) ⟨Nat.zero_le _, Nat.zero_le _⟩ rfl dX9_restore_10 (fun H locs hP hS => ?_)
    have hf := Option.some.inj hf
    subst hf
    exact hQ _ _ _ _ dX9_restore_13 hP hS
