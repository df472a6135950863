set_option maxHeartbeats 4000000 in
set_option maxRecDepth 100000 in
theorem c_X9_hear (l : Launch) {D : va_G} {a : Nat → Nat} {cA : Nat → ClassId} {A : Nat → Prop} {sa : Nat → Nat} (hDA : DA a A) {σ : PH} {d : PD} (p1 : Int32) {u : Int32 × PH} (hf : f_X9_hear σ p1 = some u) : CTi l yX9_hear cX9_hear 3 (some .int) 4 93 D a cA A sa [.ref (a 81), .int p1] σ d u.1 u.2 d := by
  refine zz_metI zpl_X9 hDA (Nat.le_of_ble_eq_true rfl) ?_
  intro p e R s m args below meth c Q ls hx hb hml C hRf hRl hQ hP hS hl
  have hl : lv_has ls 3 [(0, .ref (a 81)), (1, .int p1)] := hl
  unfold f_X9_hear at hf
  refine lv_aload_n hx hb dX9_hear_0 rfl (lv_at hl 0 rfl) ?_
  refine lv_iload_n hx hb dX9_hear_1 rfl (lv_at hl 1 rfl) ?_
  obtain ⟨u1, hzu1, hf⟩ := obd_some hf
  refine zz_callVi (rest := []) hx hb hml C hP hS (c_X9_isLawful l hDA p1 hzu1) zw_X9_248 ⟨Nat.le_trans (Nat.le_of_ble_eq_true rfl) hRf, Nat.le_trans (Nat.le_of_ble_eq_true rfl) hRl⟩ (by decide) lay_81 rfl rfl hl.1 (Nat.le_of_ble_eq_true rfl) ⟨Nat.zero_le _, Nat.zero_le _⟩ rfl dX9_hear_2 (fun H locs hP hS => ?_)
  refine lv_if_ne (tgt := 15) hx hb dX9_hear_5 (by decide) (fun hb1 => ?_) (fun hb1 => ?_)
  · have hf := ifF hb1 hf
    refine lv_aload_n hx hb dX9_hear_15 rfl (lv_at hl 0 rfl) ?_
    refine lv_iload_n hx hb dX9_hear_16 rfl (lv_at hl 1 rfl) ?_
    refine lv_aload_n hx hb dX9_hear_17 rfl (lv_at hl 0 rfl) ?_
    refine zg_X9_120 hx hb C hP (by decide) lay_81 rfl dX9_hear_18 ?_
    obtain ⟨u3, hzu3, hf⟩ := obd_some hf
    refine zz_callVi (rest := []) hx hb hml C hP hS (c_X9_soundOf l hDA p1 (gI σ 81 6) hzu3) zw_X9_230 ⟨Nat.le_trans (Nat.le_of_ble_eq_true rfl) hRf, Nat.le_trans (Nat.le_of_ble_eq_true rfl) hRl⟩ (by decide) lay_81 rfl rfl hl.1 (Nat.le_of_ble_eq_true rfl) ⟨Nat.zero_le _, Nat.zero_le _⟩ rfl dX9_hear_21 (fun H locs hP hS => ?_)
    refine lv_istore_n (lv' := [(2, .int u3), (0, .ref (a 81)), (1, .int p1)]) hx hb dX9_hear_24 rfl hl (by decide) rfl (fun ls hl => ?_)
    refine lv_aload_n hx hb dX9_hear_25 rfl (lv_at hl 1 rfl) ?_
    refine lv_iload_n hx hb dX9_hear_26 rfl (lv_at hl 2 rfl) ?_
    refine lv_iload_n hx hb dX9_hear_27 rfl (lv_at hl 0 rfl) ?_
    obtain ⟨u4, hzu4, hf⟩ := obd_some hf
    refine zz_callVi (rest := []) hx hb hml C hP hS (c_X9_isKnown l hDA p1 u3 hzu4) zw_X9_193 ⟨Nat.le_trans (Nat.le_of_ble_eq_true rfl) hRf, Nat.le_trans (Nat.le_of_ble_eq_true rfl) hRl⟩ (by decide) lay_81 rfl rfl hl.1 (Nat.le_of_ble_eq_true rfl) ⟨Nat.zero_le _, Nat.zero_le _⟩ rfl dX9_hear_28 (fun H locs hP hS => ?_)
    refine lv_if_eq (tgt := 36) hx hb dX9_hear_31 (by decide) (fun hb4 => ?_) (fun hb4 => ?_)
    · have hf := ifT hb4 hf
      refine lv_aload_n hx hb dX9_hear_36 rfl (lv_at hl 1 rfl) ?_
      refine zg_X9_123 hx hb C hP (by decide) lay_81 rfl dX9_hear_37 ?_
      refine lv_bipush (v := 16) hx hb dX9_hear_40 (by decide) ?_
      refine lv_icmp_ne (tgt := 52) hx hb dX9_hear_42 (by decide) (fun hb5 => ?_) (fun hb5 => ?_)
      · have hf := ifF hb5 hf
        refine lv_aload_n hx hb dX9_hear_52 rfl (lv_at hl 1 rfl) ?_
        refine lv_iload_n hx hb dX9_hear_53 rfl (lv_at hl 2 rfl) ?_
        refine lv_iload_n hx hb dX9_hear_54 rfl (lv_at hl 0 rfl) ?_
        obtain ⟨u7, hzu7, hf⟩ := obd_some hf
        refine zz_callVv (rest := []) hx hb hml C hP hS (c_X9_knows l hDA p1 u3 hzu7) zw_X9_196 ⟨Nat.le_trans (Nat.le_of_ble_eq_true rfl) hRf, Nat.le_trans (Nat.le_of_ble_eq_true rfl) hRl⟩ (by decide) lay_81 rfl rfl hl.1 (Nat.le_of_ble_eq_true rfl) ⟨Nat.zero_le _, Nat.zero_le _⟩ rfl dX9_hear_55 (fun H locs hP hS => ?_)
        refine lv_iload_n hx hb dX9_hear_58 rfl (lv_at hl 0 rfl) ?_
        have hf := Option.some.inj hf
        subst hf
        exact hQ _ _ _ _ dX9_hear_59 hP hS
      · have hf := ifT hb5 hf
        refine lv_aload_n hx hb dX9_hear_45 rfl (lv_at hl 1 rfl) ?_
        refine lv_bipush (v := (-7)) hx hb dX9_hear_46 (by decide) ?_
        obtain ⟨u8, hzu8, hf⟩ := obd_some hf
        refine zz_callVi (rest := []) hx hb hml C hP hS (c_X9_no l hDA (-7) hzu8) zw_X9_107 ⟨Nat.le_trans (Nat.le_of_ble_eq_true rfl) hRf, Nat.le_trans (Nat.le_of_ble_eq_true rfl) hRl⟩ (by decide) lay_81 rfl rfl hl.1 (Nat.le_of_ble_eq_true rfl) ⟨Nat.zero_le _, Nat.zero_le _⟩ rfl dX9_hear_48 (fun H locs hP hS => ?_)
        have hf := Option.some.inj hf
        subst hf
        exact hQ _ _ _ _ dX9_hear_51 hP hS
    · have hf := ifF hb4 hf
      refine lv_iload_n hx hb dX9_hear_34 rfl (lv_at hl 0 rfl) ?_
      have hf := Option.some.inj hf
      subst hf
      exact hQ _ _ _ _ dX9_hear_35 hP hS
  · have hf := ifT hb1 hf
    refine lv_aload_n hx hb dX9_hear_8 rfl (lv_at hl 0 rfl) ?_
    refine lv_bipush (v := (-6)) hx hb dX9_hear_9 (by decide) ?_
    obtain ⟨u9, hzu9, hf⟩ := obd_some hf
    refine zz_callVi (rest := []) hx hb hml C hP hS (c_X9_no l hDA (-6) hzu9) zw_X9_107 ⟨Nat.le_trans (Nat.le_of_ble_eq_true rfl) hRf, Nat.le_trans (Nat.le_of_ble_eq_true rfl) hRl⟩ (by decide) lay_81 rfl rfl hl.1 (Nat.le_of_ble_eq_true rfl) ⟨Nat.zero_le _, Nat.zero_le _⟩ rfl dX9_hear_11 (fun H locs hP hS => ?_)
    have hf := Option.some.inj hf
    subst hf
    exact hQ _ _ _ _ dX9_hear_14 hP hS
set_option maxHeartbeats 4000000 in
set_option maxRecDepth 100000 in
theorem c_X9_draw (l : Launch) {D : va_G} {a : Nat → Nat} {cA : Nat → ClassId} {A : Nat → Prop} {sa : Nat → Nat} (hDA : DA a A) {σ : PH} {d : PD} (p1 : Int32) {u : Int32 × PH} (hf : f_X9_draw σ p1 = some u) : CTi l yX9_draw cX9_draw 2 (some .int) 0 0 D a cA A sa [.ref (a 81), .int p1] σ d u.1 u.2 d := by
  refine zz_metI zpl_X9 hDA (Nat.le_of_ble_eq_true rfl) ?_
  intro p e R s m args below meth c Q ls hx hb hml C hRf hRl hQ hP hS hl
  have hl : lv_has ls 2 [(0, .ref (a 81)), (1, .int p1)] := hl
  unfold f_X9_draw at hf
  refine lv_aload_n hx hb dX9_draw_0 rfl (lv_at hl 0 rfl) ?_
  refine lv_aload_n hx hb dX9_draw_1 rfl (lv_at hl 0 rfl) ?_
  refine zg_X9_16 hx hb C hP (by decide) lay_81 rfl dX9_draw_2 ?_
  refine lv_ldcw (v := 1103515245) hx hb C.1 (C.2.1 _ kk_X9_303) dX9_draw_5 ?_
  refine lv_imul hx hb dX9_draw_8 ?_
  refine lv_sipush (v := 12345) hx hb dX9_draw_9 (by decide) ?_
  refine lv_iadd hx hb dX9_draw_12 ?_
  refine zp_X9_16 hx hb C hP hS (by decide) lay_81 rfl dX9_draw_13 (fun σ1 eσ1 H locs hP hS => ?_)
  have hf := bnd_at σ1 eσ1 hf
  refine lv_aload_n hx hb dX9_draw_16 rfl (lv_at hl 0 rfl) ?_
  refine zg_X9_16 hx hb C hP (by decide) lay_81 rfl dX9_draw_17 ?_
  refine lv_bipush (v := 16) hx hb dX9_draw_20 (by decide) ?_
  refine lv_iushr (v := ((gI σ1 81 7).toUInt32 >>> ((16 : Int32).toUInt32 &&& Int32.toUInt32 31)).toInt32) hx hb dX9_draw_22 rfl ?_
  refine lv_iload_n hx hb dX9_draw_23 rfl (lv_at hl 1 rfl) ?_
  obtain ⟨hc2, hf⟩ := chk_some hf
  refine lv_irem hx hb dX9_draw_24 hc2 ?_
  have hf := Option.some.inj hf
  subst hf
  exact hQ _ _ _ _ dX9_draw_25 hP hS
set_option maxHeartbeats 4000000 in
set_option maxRecDepth 100000 in
theorem c_X9_evening (l : Launch) {D : va_G} {a : Nat → Nat} {cA : Nat → ClassId} {A : Nat → Prop} {sa : Nat → Nat} (hDA : DA a A) {σ : PH} {d : PD}  {u : Int32 × PH} (hf : f_X9_evening σ = some u) : CTi l yX9_evening cX9_evening 8 (some .int) 4 93 D a cA A sa [.ref (a 81)] σ d u.1 u.2 d := by
  refine zz_metI zpl_X9 hDA (Nat.le_of_ble_eq_true rfl) ?_
  intro p e R s m args below meth c Q ls hx hb hml C hRf hRl hQ hP hS hl
  have hl : lv_has ls 8 [(0, .ref (a 81))] := hl
  unfold f_X9_evening at hf
  refine lv_aload_n hx hb dX9_evening_0 rfl (lv_at hl 0 rfl) ?_
  refine lv_aload_n hx hb dX9_evening_1 rfl (lv_at hl 0 rfl) ?_
  refine zg_X9_78 hx hb C hP (by decide) lay_81 rfl dX9_evening_2 ?_
  refine lv_aload_n hx hb dX9_evening_5 rfl (lv_at hl 0 rfl) ?_
  refine lv_aload_n hx hb dX9_evening_6 rfl (lv_at hl 0 rfl) ?_
  refine zg_X9_227 hx hb C hP (by decide) lay_81 rfl dX9_evening_7 ?_
  obtain ⟨u1, hzu1, hf⟩ := obd_some hf
  refine zz_callVi (rest := [.ref (a 100), .ref (a 81)]) hx hb hml C hP hS (c_X9_draw l hDA (gI σ 81 34) hzu1) zw_X9_304 ⟨Nat.le_trans (Nat.le_of_ble_eq_true rfl) hRf, Nat.le_trans (Nat.le_of_ble_eq_true rfl) hRl⟩ (by decide) lay_81 rfl rfl hl.1 (Nat.le_of_ble_eq_true rfl) ⟨Nat.zero_le _, Nat.zero_le _⟩ rfl dX9_evening_10 (fun H locs hP hS => ?_)
  obtain ⟨hc1, hf⟩ := chk_some hf
  refine zz_iald hx hb C hP (by decide) lay_100 (inb_vp hc1) dX9_evening_13 ?_
  refine zp_X9_120 hx hb C hP hS (by decide) lay_81 rfl dX9_evening_14 (fun σ3 eσ3 H locs hP hS => ?_)
  have hf := bnd_at σ3 eσ3 hf
  refine lv_aload_n hx hb dX9_evening_17 rfl (lv_at hl 0 rfl) ?_
  refine lv_iconst (v := 0) hx hb dX9_evening_18 (by decide) ?_
  refine zp_X9_123 hx hb C hP hS (by decide) lay_81 rfl dX9_evening_19 (fun σ4 eσ4 H locs hP hS => ?_)
  have hf := bnd_at σ4 eσ4 hf
  refine lv_aload_n hx hb dX9_evening_22 rfl (lv_at hl 0 rfl) ?_
  refine zg_X9_227 hx hb C hP (by decide) lay_81 rfl dX9_evening_23 ?_
  refine lv_topi (fun v5 ev5 => ?_)
  have hf := bnd_at v5 ev5 hf
  refine lv_istore_n (lv' := [(1, .int v5), (0, .ref (a 81))]) hx hb dX9_evening_26 rfl hl (by decide) rfl (fun ls hl => ?_)
  refine lv_iconst (v := 0) hx hb dX9_evening_27 (by decide) ?_
  refine lv_istore_n (lv' := [(2, .int 0), (1, .int v5), (0, .ref (a 81))]) hx hb dX9_evening_28 rfl hl (by decide) rfl (fun ls hl => ?_)
  refine lv_iconst (v := 0) hx hb dX9_evening_29 (by decide) ?_
  refine lv_istore_n (lv' := [(3, .int 0), (2, .int 0), (1, .int v5), (0, .ref (a 81))]) hx hb dX9_evening_30 rfl hl (by decide) rfl (fun ls hl => ?_)
  refine lv_iconst (v := 0) hx hb dX9_evening_31 (by decide) ?_
  refine lv_istore (lv' := [(4, .int 0), (3, .int 0), (2, .int 0), (1, .int v5), (0, .ref (a 81))]) hx hb dX9_evening_32 hl (by decide) rfl (fun ls hl => ?_)
  have hJ55 : ∀ (σ6 : PH), j_X9_evening_55 v5 σ6 = some u → ∀ (H : Heap) (locs : List Loc) (ls : Array Slot), lv_has ls 8 [(0, .ref (a 81)), (1, .int v5), (2, .int 0), (3, .int 0)] → va_P D vwCl (wl a cA σ6 d) H → va_S A s.heap H locs → W p l e R s m args below meth c H locs 0 0 Q (F0 m 55 ls []) := by
    intro σ6 hf H locs ls hl hP hS
    unfold j_X9_evening_55 at hf
    refine lv_iload_n hx hb dX9_evening_55 rfl (lv_at hl 1 rfl) ?_
    refine lv_iconst (v := 2) hx hb dX9_evening_56 (by decide) ?_
    have hJ70 : ∀ (v7 : Int32), j_X9_evening_70 v5 σ6 v7 = some u → ∀ (H : Heap) (locs : List Loc) (ls : Array Slot), lv_has ls 8 [(0, .ref (a 81)), (1, .int v5), (2, .int 0), (3, .int 0)] → va_P D vwCl (wl a cA σ6 d) H → va_S A s.heap H locs → W p l e R s m args below meth c H locs 0 0 Q (F0 m 70 ls [.int v7]) := by
      intro v7 hf H locs ls hl hP hS
      unfold j_X9_evening_70 at hf
      refine lv_istore (lv' := [(4, .int v7), (0, .ref (a 81)), (1, .int v5), (2, .int 0), (3, .int 0)]) hx hb dX9_evening_70 hl (by decide) rfl (fun ls hl => ?_)
      refine loopN_ind (P := fun (q8 : Int32 × Int32 × Int32 × Int32 × PH) => ∀ (H : Heap) (locs : List Loc) (ls : Array Slot), lv_has ls 8 [(0, .ref (a 81)), (1, .int q8.1), (2, .int q8.2.1), (3, .int q8.2.2.1), (4, .int q8.2.2.2.1)] → va_P D vwCl (wl a cA q8.2.2.2.2 d) H → va_S A s.heap H locs → W p l e R s m args below meth c H locs 0 0 Q (F0 m 72 ls [])) ?_ _ _ hf _ _ _ (lv_sub hl [1, 2, 3, 4, 0] rfl) hP hS
      intro k9 ihk9 q8 hf H locs ls hl hP hS
      unfold b_X9_evening_72 at hf
      refine lv_iload hx hb dX9_evening_72 (lv_at hl 4 rfl) ?_
      refine lv_iconst (v := (-1)) hx hb dX9_evening_74 (by decide) ?_
      refine lv_icmp_eq (tgt := 206) hx hb dX9_evening_75 (by decide) (fun hb9 => ?_) (fun hb9 => ?_)
      · have hf := ifT hb9 hf
        refine lv_iload_n hx hb dX9_evening_206 rfl (lv_at hl 3 rfl) ?_
        have hf := Option.some.inj hf
        subst hf
        exact hQ _ _ _ _ dX9_evening_207 hP hS
      · have hf := ifF hb9 hf
        refine lv_aload_n hx hb dX9_evening_78 rfl (lv_at hl 0 rfl) ?_
        refine zg_X9_123 hx hb C hP (by decide) lay_81 rfl dX9_evening_79 ?_
        refine lv_bipush (v := 16) hx hb dX9_evening_82 (by decide) ?_
        refine lv_icmp_ge (tgt := 206) hx hb dX9_evening_84 (by decide) (fun hb10 => ?_) (fun hb10 => ?_)
        · have hf := ifT hb10 hf
          refine lv_iload_n hx hb dX9_evening_206 rfl (lv_at hl 3 rfl) ?_
          have hf := Option.some.inj hf
          subst hf
          exact hQ _ _ _ _ dX9_evening_207 hP hS
        · have hf := ifF hb10 hf
          refine lv_aload_n hx hb dX9_evening_87 rfl (lv_at hl 0 rfl) ?_
          refine lv_iload hx hb dX9_evening_88 (lv_at hl 4 rfl) ?_
          refine lv_aload_n hx hb dX9_evening_90 rfl (lv_at hl 0 rfl) ?_
          refine zg_X9_120 hx hb C hP (by decide) lay_81 rfl dX9_evening_91 ?_
          obtain ⟨u12, hzu12, hf⟩ := obd_some hf
          refine zz_callVi (rest := []) hx hb hml C hP hS (c_X9_soundOf l hDA q8.2.2.2.1 (gI q8.2.2.2.2 81 6) hzu12) zw_X9_230 ⟨Nat.le_trans (Nat.le_of_ble_eq_true rfl) hRf, Nat.le_trans (Nat.le_of_ble_eq_true rfl) hRl⟩ (by decide) lay_81 rfl rfl hl.1 (Nat.le_of_ble_eq_true rfl) ⟨Nat.zero_le _, Nat.zero_le _⟩ rfl dX9_evening_94 (fun H locs hP hS => ?_)
          refine lv_istore (lv' := [(5, .int u12), (0, .ref (a 81)), (1, .int q8.1), (2, .int q8.2.1), (3, .int q8.2.2.1), (4, .int q8.2.2.2.1)]) hx hb dX9_evening_97 hl (by decide) rfl (fun ls hl => ?_)
          refine lv_iconst (v := 0) hx hb dX9_evening_99 (by decide) ?_
          refine lv_istore (lv' := [(6, .int 0), (5, .int u12), (0, .ref (a 81)), (1, .int q8.1), (2, .int q8.2.1), (3, .int q8.2.2.1), (4, .int q8.2.2.2.1)]) hx hb dX9_evening_100 hl (by decide) rfl (fun ls hl => ?_)
          refine lv_aload_n hx hb dX9_evening_102 rfl (lv_at hl 2 rfl) ?_
          refine lv_iload hx hb dX9_evening_103 (lv_at hl 6 rfl) ?_
          refine lv_iload hx hb dX9_evening_105 (lv_at hl 1 rfl) ?_
          obtain ⟨u13, hzu13, hf⟩ := obd_some hf
          refine zz_callVv (rest := []) hx hb hml C hP hS (c_X9_knows l hDA q8.2.2.2.1 u12 hzu13) zw_X9_196 ⟨Nat.le_trans (Nat.le_of_ble_eq_true rfl) hRf, Nat.le_trans (Nat.le_of_ble_eq_true rfl) hRl⟩ (by decide) lay_81 rfl rfl hl.1 (Nat.le_of_ble_eq_true rfl) ⟨Nat.zero_le _, Nat.zero_le _⟩ rfl dX9_evening_107 (fun H locs hP hS => ?_)
          obtain ⟨v14, ev14⟩ : ∃ z : Int32, z = q8.2.2.1 + 1 := ⟨_, rfl⟩
          have hf := bnd_at v14 ev14 hf
          refine lv_iinc (v := v14) (lv' := [(3, .int v14), (6, .int 0), (5, .int u12), (0, .ref (a 81)), (1, .int q8.1), (2, .int q8.2.1), (4, .int q8.2.2.2.1)]) hx hb dX9_evening_110 hl (k := 5) rfl (by rw [ev14]; rfl) (by decide) rfl (fun ls hl => ?_)
          refine lv_iconst (v := 0) hx hb dX9_evening_113 (by decide) ?_
          refine lv_istore (lv' := [(7, .int 0), (3, .int v14), (6, .int 0), (5, .int u12), (0, .ref (a 81)), (1, .int q8.1), (2, .int q8.2.1), (4, .int q8.2.2.2.1)]) hx hb dX9_evening_114 hl (by decide) rfl (fun ls hl => ?_)
          have hJ179 : ∀ (v15 : Int32) (σ16 : PH), j_X9_evening_179 q8 k9 v14 v15 σ16 = some u → ∀ (H : Heap) (locs : List Loc) (ls : Array Slot), lv_has ls 8 [(0, .ref (a 81)), (1, .int q8.1), (2, .int q8.2.1), (3, .int v14), (6, .int v15)] → va_P D vwCl (wl a cA σ16 d) H → va_S A s.heap H locs → W p l e R s m args below meth c H locs 0 0 Q (F0 m 179 ls []) := by
            intro v15 σ16 hf H locs ls hl hP hS
            unfold j_X9_evening_179 at hf
            refine lv_iload_n hx hb dX9_evening_179 rfl (lv_at hl 2 rfl) ?_
            refine lv_iload_n hx hb dX9_evening_180 rfl (lv_at hl 1 rfl) ?_
            refine lv_iadd hx hb dX9_evening_181 ?_
            refine lv_topi (fun v17 ev17 => ?_)
            have hf := bnd_at v17 ev17 hf
            refine lv_istore_n (lv' := [(2, .int v17), (0, .ref (a 81)), (1, .int q8.1), (3, .int v14), (6, .int v15)]) hx hb dX9_evening_182 rfl hl (by decide) rfl (fun ls hl => ?_)
            refine lv_iload hx hb dX9_evening_183 (lv_at hl 4 rfl) ?_
            refine lv_istore_n (lv' := [(1, .int v15), (2, .int v17), (0, .ref (a 81)), (3, .int v14), (6, .int v15)]) hx hb dX9_evening_185 rfl hl (by decide) rfl (fun ls hl => ?_)
            refine lv_iload_n hx hb dX9_evening_186 rfl (lv_at hl 0 rfl) ?_
            refine lv_iconst (v := 2) hx hb dX9_evening_187 (by decide) ?_
            refine lv_icmp_ge (tgt := 195) hx hb dX9_evening_188 (by decide) (fun hb17 => ?_) (fun hb17 => ?_)
            · have hf := ifT hb17 hf
              refine lv_aload_n hx hb dX9_evening_195 rfl (lv_at hl 2 rfl) ?_
              refine lv_iload_n hx hb dX9_evening_196 rfl (lv_at hl 1 rfl) ?_
              refine lv_iload_n hx hb dX9_evening_197 rfl (lv_at hl 0 rfl) ?_
              obtain ⟨u19, hzu19, hf⟩ := obd_some hf
              refine zz_callVi (rest := []) hx hb hml C hP hS (c_X9_nextOf l hDA v17 v15 hzu19) zw_X9_261 ⟨Nat.le_trans (Nat.le_of_ble_eq_true rfl) hRf, Nat.le_trans (Nat.le_of_ble_eq_true rfl) hRl⟩ (by decide) lay_81 rfl rfl hl.1 (Nat.le_of_ble_eq_true rfl) ⟨Nat.zero_le _, Nat.zero_le _⟩ rfl dX9_evening_198 (fun H locs hP hS => ?_)
              refine lv_istore (lv' := [(4, .int u19), (1, .int v15), (2, .int v17), (0, .ref (a 81)), (3, .int v14), (6, .int v15)]) hx hb dX9_evening_201 hl (by decide) rfl (fun ls hl => ?_)
              refine lv_goto (tgt := 72) hx hb dX9_evening_203 (by decide) ?_
              exact ihk9 _ hf _ _ _ (lv_sub hl [3, 1, 2, 4, 0] rfl) hP hS
            · have hf := ifF hb17 hf
              refine lv_iconst (v := (-1)) hx hb dX9_evening_191 (by decide) ?_
              refine lv_goto (tgt := 201) hx hb dX9_evening_192 (by decide) ?_
              refine lv_istore (lv' := [(4, .int (-1)), (1, .int v15), (2, .int v17), (0, .ref (a 81)), (3, .int v14), (6, .int v15)]) hx hb dX9_evening_201 hl (by decide) rfl (fun ls hl => ?_)
              refine lv_goto (tgt := 72) hx hb dX9_evening_203 (by decide) ?_
              exact ihk9 _ hf _ _ _ (lv_sub hl [3, 1, 2, 4, 0] rfl) hP hS
          refine loopN_ind (P := fun (q20 : Int32 × Int32 × PH) => ∀ (H : Heap) (locs : List Loc) (ls : Array Slot), lv_has ls 8 [(0, .ref (a 81)), (1, .int q8.1), (2, .int q8.2.1), (3, .int v14), (4, .int q8.2.2.2.1), (5, .int u12), (6, .int q20.1), (7, .int q20.2.1)] → va_P D vwCl (wl a cA q20.2.2 d) H → va_S A s.heap H locs → W p l e R s m args below meth c H locs 0 0 Q (F0 m 116 ls [])) ?_ _ _ hf _ _ _ (lv_sub hl [4, 5, 6, 1, 7, 3, 2, 0] rfl) hP hS
          intro k21 ihk21 q20 hf H locs ls hl hP hS
          unfold b_X9_evening_116 at hf
          refine lv_iload hx hb dX9_evening_116 (lv_at hl 7 rfl) ?_
          refine lv_iload_n hx hb dX9_evening_118 rfl (lv_at hl 1 rfl) ?_
          refine lv_icmp_ge (tgt := 179) hx hb dX9_evening_119 (by decide) (fun hb21 => ?_) (fun hb21 => ?_)
          · have hf := ifT hb21 hf
            exact hJ179 _ _ hf _ _ _ (lv_sub hl [0, 1, 2, 3, 6] rfl) hP hS
          · have hf := ifF hb21 hf
            refine lv_aload_n hx hb dX9_evening_122 rfl (lv_at hl 0 rfl) ?_
            refine zg_X9_84 hx hb C hP (by decide) lay_81 rfl dX9_evening_123 ?_
            refine lv_bipush (v := 92) hx hb dX9_evening_126 (by decide) ?_
            refine lv_iload hx hb dX9_evening_128 (lv_at hl 4 rfl) ?_
            refine lv_imul hx hb dX9_evening_130 ?_
            refine lv_aload_n hx hb dX9_evening_131 rfl (lv_at hl 0 rfl) ?_
            refine zg_X9_87 hx hb C hP (by decide) lay_81 rfl dX9_evening_132 ?_
            refine lv_iload_n hx hb dX9_evening_135 rfl (lv_at hl 2 rfl) ?_
            refine lv_iload hx hb dX9_evening_136 (lv_at hl 7 rfl) ?_
            refine lv_iadd hx hb dX9_evening_138 ?_
            obtain ⟨hc22, hf⟩ := chk_some hf
            refine zz_iald hx hb C hP (by decide) lay_103 (inb_vp hc22) dX9_evening_139 ?_
            refine lv_iadd hx hb dX9_evening_140 ?_
            obtain ⟨hc23, hf⟩ := chk_some hf
            refine zz_iald hx hb C hP (by decide) lay_102 (inb_vp hc23) dX9_evening_141 ?_
            refine lv_iload hx hb dX9_evening_142 (lv_at hl 5 rfl) ?_
            refine lv_icmp_eq (tgt := 150) hx hb dX9_evening_144 (by decide) (fun hb24 => ?_) (fun hb24 => ?_)
            · have hf := ifT hb24 hf
              refine lv_aload_n hx hb dX9_evening_150 rfl (lv_at hl 0 rfl) ?_
              refine zg_X9_87 hx hb C hP (by decide) lay_81 rfl dX9_evening_151 ?_
              refine lv_iload_n hx hb dX9_evening_154 rfl (lv_at hl 2 rfl) ?_
              refine lv_iload_n hx hb dX9_evening_155 rfl (lv_at hl 1 rfl) ?_
              refine lv_iadd hx hb dX9_evening_156 ?_
              refine lv_iload hx hb dX9_evening_157 (lv_at hl 6 rfl) ?_
              refine lv_iadd hx hb dX9_evening_159 ?_
              refine lv_aload_n hx hb dX9_evening_160 rfl (lv_at hl 0 rfl) ?_
              refine zg_X9_87 hx hb C hP (by decide) lay_81 rfl dX9_evening_161 ?_
              refine lv_iload_n hx hb dX9_evening_164 rfl (lv_at hl 2 rfl) ?_
              refine lv_iload hx hb dX9_evening_165 (lv_at hl 7 rfl) ?_
              refine lv_iadd hx hb dX9_evening_167 ?_
              obtain ⟨hc25, hf⟩ := chk_some hf
              refine zz_iald hx hb C hP (by decide) lay_103 (inb_vp hc25) dX9_evening_168 ?_
              obtain ⟨hc26, hf⟩ := chk_some hf
              refine zz_iast hx hb C hP hS (by decide) lay_103 (inb_vp hc26) dX9_evening_169 (fun σ28 eσ28 H locs hP hS => ?_)
              have hf := bnd_at σ28 eσ28 hf
              obtain ⟨v29, ev29⟩ : ∃ z : Int32, z = q20.1 + 1 := ⟨_, rfl⟩
              have hf := bnd_at v29 ev29 hf
              refine lv_iinc (v := v29) (lv' := [(6, .int v29), (0, .ref (a 81)), (1, .int q8.1), (2, .int q8.2.1), (3, .int v14), (4, .int q8.2.2.2.1), (5, .int u12), (7, .int q20.2.1)]) hx hb dX9_evening_170 hl (k := 6) rfl (by rw [ev29]; rfl) (by decide) rfl (fun ls hl => ?_)
              obtain ⟨v30, ev30⟩ : ∃ z : Int32, z = q20.2.1 + 1 := ⟨_, rfl⟩
              have hf := bnd_at v30 ev30 hf
              refine lv_iinc (v := v30) (lv' := [(7, .int v30), (6, .int v29), (0, .ref (a 81)), (1, .int q8.1), (2, .int q8.2.1), (3, .int v14), (4, .int q8.2.2.2.1), (5, .int u12)]) hx hb dX9_evening_173 hl (k := 7) rfl (by rw [ev30]; rfl) (by decide) rfl (fun ls hl => ?_)
              refine lv_goto (tgt := 116) hx hb dX9_evening_176 (by decide) ?_
              exact ihk21 _ hf _ _ _ (lv_sub hl [2, 3, 4, 5, 6, 7, 1, 0] rfl) hP hS
            · have hf := ifF hb24 hf
              refine lv_goto (tgt := 173) hx hb dX9_evening_147 (by decide) ?_
              obtain ⟨v31, ev31⟩ : ∃ z : Int32, z = q20.2.1 + 1 := ⟨_, rfl⟩
              have hf := bnd_at v31 ev31 hf
              refine lv_iinc (v := v31) (lv' := [(7, .int v31), (0, .ref (a 81)), (1, .int q8.1), (2, .int q8.2.1), (3, .int v14), (4, .int q8.2.2.2.1), (5, .int u12), (6, .int q20.1)]) hx hb dX9_evening_173 hl (k := 7) rfl (by rw [ev31]; rfl) (by decide) rfl (fun ls hl => ?_)
              refine lv_goto (tgt := 116) hx hb dX9_evening_176 (by decide) ?_
              exact ihk21 _ hf _ _ _ (lv_sub hl [1, 2, 3, 4, 5, 6, 7, 0] rfl) hP hS
    refine lv_icmp_ge (tgt := 64) hx hb dX9_evening_57 (by decide) (fun hb31 => ?_) (fun hb31 => ?_)
    · have hf := ifT hb31 hf
      refine lv_aload_n hx hb dX9_evening_64 rfl (lv_at hl 0 rfl) ?_
      refine lv_iload_n hx hb dX9_evening_65 rfl (lv_at hl 2 rfl) ?_
      refine lv_iload_n hx hb dX9_evening_66 rfl (lv_at hl 1 rfl) ?_
      obtain ⟨u33, hzu33, hf⟩ := obd_some hf
      refine zz_callVi (rest := []) hx hb hml C hP hS (c_X9_nextOf l hDA 0 v5 hzu33) zw_X9_261 ⟨Nat.le_trans (Nat.le_of_ble_eq_true rfl) hRf, Nat.le_trans (Nat.le_of_ble_eq_true rfl) hRl⟩ (by decide) lay_81 rfl rfl hl.1 (Nat.le_of_ble_eq_true rfl) ⟨Nat.zero_le _, Nat.zero_le _⟩ rfl dX9_evening_67 (fun H locs hP hS => ?_)
      exact hJ70 _ hf _ _ _ (lv_sub hl [0, 1, 2, 3] rfl) hP hS
    · have hf := ifF hb31 hf
      refine lv_iconst (v := (-1)) hx hb dX9_evening_60 (by decide) ?_
      refine lv_goto (tgt := 70) hx hb dX9_evening_61 (by decide) ?_
      exact hJ70 _ hf _ _ _ (lv_sub hl [0, 1, 2, 3] rfl) hP hS
  refine loopN_ind (P := fun (q34 : Int32 × PH) => ∀ (H : Heap) (locs : List Loc) (ls : Array Slot), lv_has ls 8 [(0, .ref (a 81)), (1, .int v5), (2, .int 0), (3, .int 0), (4, .int q34.1)] → va_P D vwCl (wl a cA q34.2 d) H → va_S A s.heap H locs → W p l e R s m args below meth c H locs 0 0 Q (F0 m 34 ls [])) ?_ _ _ hf _ _ _ (lv_sub hl [4, 3, 2, 1, 0] rfl) hP hS
  intro k35 ihk35 q34 hf H locs ls hl hP hS
  unfold b_X9_evening_34 at hf
  refine lv_iload hx hb dX9_evening_34 (lv_at hl 4 rfl) ?_
  refine lv_iload_n hx hb dX9_evening_36 rfl (lv_at hl 1 rfl) ?_
  refine lv_icmp_ge (tgt := 55) hx hb dX9_evening_37 (by decide) (fun hb35 => ?_) (fun hb35 => ?_)
  · have hf := ifT hb35 hf
    exact hJ55 _ hf _ _ _ (lv_sub hl [0, 1, 2, 3] rfl) hP hS
  · have hf := ifF hb35 hf
    refine lv_aload_n hx hb dX9_evening_40 rfl (lv_at hl 0 rfl) ?_
    refine zg_X9_87 hx hb C hP (by decide) lay_81 rfl dX9_evening_41 ?_
    refine lv_iload hx hb dX9_evening_44 (lv_at hl 4 rfl) ?_
    refine lv_iload hx hb dX9_evening_46 (lv_at hl 4 rfl) ?_
    obtain ⟨hc36, hf⟩ := chk_some hf
    refine zz_iast hx hb C hP hS (by decide) lay_103 (inb_vp hc36) dX9_evening_48 (fun σ38 eσ38 H locs hP hS => ?_)
    have hf := bnd_at σ38 eσ38 hf
    obtain ⟨v39, ev39⟩ : ∃ z : Int32, z = q34.1 + 1 := ⟨_, rfl⟩
    have hf := bnd_at v39 ev39 hf
    refine lv_iinc (v := v39) (lv' := [(4, .int v39), (0, .ref (a 81)), (1, .int v5), (2, .int 0), (3, .int 0)]) hx hb dX9_evening_49 hl (k := 4) rfl (by rw [ev39]; rfl) (by decide) rfl (fun ls hl => ?_)
    refine lv_goto (tgt := 34) hx hb dX9_evening_52 (by decide) ?_
    exact ihk35 _ hf _ _ _ (lv_sub hl [1, 2, 3, 4, 0] rfl) hP hS
set_option maxHeartbeats 4000000 in
set_option maxRecDepth 100000 in
theorem c_X9_evenings (l : Launch) {D : va_G} {a : Nat → Nat} {cA : Nat → ClassId} {A : Nat → Prop} {sa : Nat → Nat} (hDA : DA a A) {σ : PH} {d : PD} (p1 : Int32) {u : Int32 × PH} (hf : f_X9_evenings σ p1 = some u) : CTi l yX9_evenings cX9_evenings 4 (some .int) 7 162 D a cA A sa [.ref (a 81), .int p1] σ d u.1 u.2 d := by
  refine zz_metI zpl_X9 hDA (Nat.le_of_ble_eq_true rfl) ?_
  intro p e R s m args below meth c Q ls hx hb hml C hRf hRl hQ hP hS hl
  have hl : lv_has ls 4 [(0, .ref (a 81)), (1, .int p1)] := hl
  unfold f_X9_evenings at hf
  refine lv_aload_n hx hb dX9_evenings_0 rfl (lv_at hl 0 rfl) ?_
  refine zg_X9_96 hx hb C hP (by decide) lay_81 rfl dX9_evenings_1 ?_
  refine lv_if_ne (tgt := 14) hx hb dX9_evenings_4 (by decide) (fun hb0 => ?_) (fun hb0 => ?_)
  · have hf := ifF hb0 hf
    refine lv_iload_n hx hb dX9_evenings_14 rfl (lv_at hl 1 rfl) ?_
    refine lv_iconst (v := 1) hx hb dX9_evenings_15 (by decide) ?_
    refine lv_icmp_lt (tgt := 25) hx hb dX9_evenings_16 (by decide) (fun hb1 => ?_) (fun hb1 => ?_)
    · have hf := ifT hb1 hf
      refine lv_aload_n hx hb dX9_evenings_25 rfl (lv_at hl 0 rfl) ?_
      refine lv_bipush (v := (-6)) hx hb dX9_evenings_26 (by decide) ?_
      obtain ⟨u3, hzu3, hf⟩ := obd_some hf
      refine zz_callVi (rest := []) hx hb hml C hP hS (c_X9_no l hDA (-6) hzu3) zw_X9_107 ⟨Nat.le_trans (Nat.le_of_ble_eq_true rfl) hRf, Nat.le_trans (Nat.le_of_ble_eq_true rfl) hRl⟩ (by decide) lay_81 rfl rfl hl.1 (Nat.le_of_ble_eq_true rfl) ⟨Nat.zero_le _, Nat.zero_le _⟩ rfl dX9_evenings_28 (fun H locs hP hS => ?_)
      have hf := Option.some.inj hf
      subst hf
      exact hQ _ _ _ _ dX9_evenings_31 hP hS
    · have hf := ifF hb1 hf
      refine lv_iload_n hx hb dX9_evenings_19 rfl (lv_at hl 1 rfl) ?_
      refine lv_bipush (v := 20) hx hb dX9_evenings_20 (by decide) ?_
      refine lv_icmp_le (tgt := 32) hx hb dX9_evenings_22 (by decide) (fun hb3 => ?_) (fun hb3 => ?_)
      · have hf := ifT hb3 hf
        refine lv_iconst (v := 0) hx hb dX9_evenings_32 (by decide) ?_
        refine lv_istore_n (lv' := [(2, .int 0), (0, .ref (a 81)), (1, .int p1)]) hx hb dX9_evenings_33 rfl hl (by decide) rfl (fun ls hl => ?_)
        refine lv_aload_n hx hb dX9_evenings_34 rfl (lv_at hl 1 rfl) ?_
        refine lv_iconst (v := 0) hx hb dX9_evenings_35 (by decide) ?_
        refine zp_X9_123 hx hb C hP hS (by decide) lay_81 rfl dX9_evenings_36 (fun σ5 eσ5 H locs hP hS => ?_)
        have hf := bnd_at σ5 eσ5 hf
        refine lv_aload_n hx hb dX9_evenings_39 rfl (lv_at hl 1 rfl) ?_
        obtain ⟨u6, hzu6, hf⟩ := obd_some hf
        refine zz_callVi (rest := []) hx hb hml C hP hS (c_X9_begins l hDA  hzu6) zw_X9_258 ⟨Nat.le_trans (Nat.le_of_ble_eq_true rfl) hRf, Nat.le_trans (Nat.le_of_ble_eq_true rfl) hRl⟩ (by decide) lay_81 rfl rfl hl.1 (Nat.le_of_ble_eq_true rfl) ⟨Nat.zero_le _, Nat.zero_le _⟩ rfl dX9_evenings_40 (fun H locs hP hS => ?_)
        refine lv_pop hx hb dX9_evenings_43 rfl ?_
        refine lv_iconst (v := 0) hx hb dX9_evenings_44 (by decide) ?_
        refine lv_istore_n (lv' := [(3, .int 0), (2, .int 0), (0, .ref (a 81)), (1, .int p1)]) hx hb dX9_evenings_45 rfl hl (by decide) rfl (fun ls hl => ?_)
        refine loopN_ind (P := fun (q7 : Int32 × Int32 × PH) => ∀ (H : Heap) (locs : List Loc) (ls : Array Slot), lv_has ls 4 [(0, .ref (a 81)), (1, .int p1), (2, .int q7.1), (3, .int q7.2.1)] → va_P D vwCl (wl a cA q7.2.2 d) H → va_S A s.heap H locs → W p l e R s m args below meth c H locs 0 0 Q (F0 m 46 ls [])) ?_ _ _ hf _ _ _ (lv_sub hl [2, 3, 1, 0] rfl) hP hS
        intro k8 ihk8 q7 hf H locs ls hl hP hS
        unfold b_X9_evenings_46 at hf
        refine lv_iload_n hx hb dX9_evenings_46 rfl (lv_at hl 3 rfl) ?_
        refine lv_iload_n hx hb dX9_evenings_47 rfl (lv_at hl 1 rfl) ?_
        refine lv_icmp_ge (tgt := 64) hx hb dX9_evenings_48 (by decide) (fun hb8 => ?_) (fun hb8 => ?_)
        · have hf := ifT hb8 hf
          refine lv_iload_n hx hb dX9_evenings_64 rfl (lv_at hl 2 rfl) ?_
          have hf := Option.some.inj hf
          subst hf
          exact hQ _ _ _ _ dX9_evenings_65 hP hS
        · have hf := ifF hb8 hf
          refine lv_iload_n hx hb dX9_evenings_51 rfl (lv_at hl 2 rfl) ?_
          refine lv_aload_n hx hb dX9_evenings_52 rfl (lv_at hl 0 rfl) ?_
          obtain ⟨u10, hzu10, hf⟩ := obd_some hf
          refine zz_callVi (rest := [.int q7.1]) hx hb hml C hP hS (c_X9_evening l hDA  hzu10) zw_X9_307 ⟨Nat.le_trans (Nat.le_of_ble_eq_true rfl) hRf, Nat.le_trans (Nat.le_of_ble_eq_true rfl) hRl⟩ (by decide) lay_81 rfl rfl hl.1 (Nat.le_of_ble_eq_true rfl) ⟨Nat.zero_le _, Nat.zero_le _⟩ rfl dX9_evenings_53 (fun H locs hP hS => ?_)
          refine lv_iadd hx hb dX9_evenings_56 ?_
          refine lv_topi (fun v11 ev11 => ?_)
          have hf := bnd_at v11 ev11 hf
          refine lv_istore_n (lv' := [(2, .int v11), (0, .ref (a 81)), (1, .int p1), (3, .int q7.2.1)]) hx hb dX9_evenings_57 rfl hl (by decide) rfl (fun ls hl => ?_)
          obtain ⟨v12, ev12⟩ : ∃ z : Int32, z = q7.2.1 + 1 := ⟨_, rfl⟩
          have hf := bnd_at v12 ev12 hf
          refine lv_iinc (v := v12) (lv' := [(3, .int v12), (2, .int v11), (0, .ref (a 81)), (1, .int p1)]) hx hb dX9_evenings_58 hl (k := 3) rfl (by rw [ev12]; rfl) (by decide) rfl (fun ls hl => ?_)
          refine lv_goto (tgt := 46) hx hb dX9_evenings_61 (by decide) ?_
          exact ihk8 _ hf _ _ _ (lv_sub hl [2, 3, 1, 0] rfl) hP hS
      · have hf := ifF hb3 hf
        refine lv_aload_n hx hb dX9_evenings_25 rfl (lv_at hl 0 rfl) ?_
        refine lv_bipush (v := (-6)) hx hb dX9_evenings_26 (by decide) ?_
        obtain ⟨u13, hzu13, hf⟩ := obd_some hf
        refine zz_callVi (rest := []) hx hb hml C hP hS (c_X9_no l hDA (-6) hzu13) zw_X9_107 ⟨Nat.le_trans (Nat.le_of_ble_eq_true rfl) hRf, Nat.le_trans (Nat.le_of_ble_eq_true rfl) hRl⟩ (by decide) lay_81 rfl rfl hl.1 (Nat.le_of_ble_eq_true rfl) ⟨Nat.zero_le _, Nat.zero_le _⟩ rfl dX9_evenings_28 (fun H locs hP hS => ?_)
        have hf := Option.some.inj hf
        subst hf
        exact hQ _ _ _ _ dX9_evenings_31 hP hS
  · have hf := ifT hb0 hf
    refine lv_aload_n hx hb dX9_evenings_7 rfl (lv_at hl 0 rfl) ?_
    refine lv_bipush (v := (-5)) hx hb dX9_evenings_8 (by decide) ?_
    obtain ⟨u14, hzu14, hf⟩ := obd_some hf
    refine zz_callVi (rest := []) hx hb hml C hP hS (c_X9_no l hDA (-5) hzu14) zw_X9_107 ⟨Nat.le_trans (Nat.le_of_ble_eq_true rfl) hRf, Nat.le_trans (Nat.le_of_ble_eq_true rfl) hRl⟩ (by decide) lay_81 rfl rfl hl.1 (Nat.le_of_ble_eq_true rfl) ⟨Nat.zero_le _, Nat.zero_le _⟩ rfl dX9_evenings_10 (fun H locs hP hS => ?_)
    have hf := Option.some.inj hf
    subst hf
    exact hQ _ _ _ _ dX9_evenings_13 hP hS
set_option maxHeartbeats 4000000 in
set_option maxRecDepth 100000 in
theorem c_X9_seed (l : Launch) {D : va_G} {a : Nat → Nat} {cA : Nat → ClassId} {A : Nat → Prop} {sa : Nat → Nat} (hDA : DA a A) {σ : PH} {d : PD} (p1 : Int32) {u : Int32 × PH} (hf : f_X9_seed σ p1 = u) : CTi l yX9_seed cX9_seed 3 (some .int) 0 0 D a cA A sa [.ref (a 81), .int p1] σ d u.1 u.2 d := by
  refine zz_metI zpl_X9 hDA (Nat.le_of_ble_eq_true rfl) ?_
  intro p e R s m args below meth c Q ls hx hb hml C hRf hRl hQ hP hS hl
  have hl : lv_has ls 3 [(0, .ref (a 81)), (1, .int p1)] := hl
  unfold f_X9_seed at hf
  refine lv_aload_n hx hb dX9_seed_0 rfl (lv_at hl 0 rfl) ?_
  refine zg_X9_16 hx hb C hP (by decide) lay_81 rfl dX9_seed_1 ?_
  refine lv_topi (fun v1 ev1 => ?_)
  have hf := bnd_at v1 ev1 hf
  refine lv_istore_n (lv' := [(2, .int v1), (0, .ref (a 81)), (1, .int p1)]) hx hb dX9_seed_4 rfl hl (by decide) rfl (fun ls hl => ?_)
  refine lv_aload_n hx hb dX9_seed_5 rfl (lv_at hl 1 rfl) ?_
  refine lv_iload_n hx hb dX9_seed_6 rfl (lv_at hl 2 rfl) ?_
  refine zp_X9_16 hx hb C hP hS (by decide) lay_81 rfl dX9_seed_7 (fun σ2 eσ2 H locs hP hS => ?_)
  have hf := bnd_at σ2 eσ2 hf
  refine lv_iload_n hx hb dX9_seed_10 rfl (lv_at hl 0 rfl) ?_
  subst hf
  exact hQ _ _ _ _ dX9_seed_11 hP hS
set_option maxHeartbeats 4000000 in
set_option maxRecDepth 100000 in
theorem c_X9_body (l : Launch) {D : va_G} {a : Nat → Nat} {cA : Nat → ClassId} {A : Nat → Prop} {sa : Nat → Nat} (hDA : DA a A) {σ : PH} {d : PD} (p1 : Int32) {u : PH} (hf : f_X9_body σ p1 = some u) : CTv l yX9_body cX9_body 2 none 0 0 D a cA A sa [.ref (a 81), .int p1] σ d u d := by
  refine zz_metV zpl_X9 hDA (Nat.le_of_ble_eq_true rfl) ?_
  intro p e R s m args below meth c Q ls hx hb hml C hRf hRl hQ hP hS hl
  have hl : lv_has ls 2 [(0, .ref (a 81)), (1, .int p1)] := hl
  unfold f_X9_body at hf
  refine lv_aload_n hx hb dX9_body_0 rfl (lv_at hl 0 rfl) ?_
  refine zg_X9_310 hx hb C hP (by decide) lay_81 rfl dX9_body_1 ?_
  refine lv_bipush (v := 20) hx hb dX9_body_4 (by decide) ?_
  refine lv_icmp_ge (tgt := 19) hx hb dX9_body_6 (by decide) (fun hb0 => ?_) (fun hb0 => ?_)
  · have hf := ifT hb0 hf
    refine lv_aload_n hx hb dX9_body_19 rfl (lv_at hl 0 rfl) ?_
    refine lv_dup hx hb dX9_body_20 rfl ?_
    refine zg_X9_310 hx hb C hP (by decide) lay_81 rfl dX9_body_21 ?_
    refine lv_iconst (v := 1) hx hb dX9_body_24 (by decide) ?_
    refine lv_iadd hx hb dX9_body_25 ?_
    refine zp_X9_310 hx hb C hP hS (by decide) lay_81 rfl dX9_body_26 (fun σ2 eσ2 H locs hP hS => ?_)
    have hf := bnd_at σ2 eσ2 hf
    have hf := Option.some.inj hf
    subst hf
    exact hQ _ _ _ _ dX9_body_29 hP hS
  · have hf := ifF hb0 hf
    refine lv_aload_n hx hb dX9_body_9 rfl (lv_at hl 0 rfl) ?_
    refine zg_X9_93 hx hb C hP (by decide) lay_81 rfl dX9_body_10 ?_
    refine lv_aload_n hx hb dX9_body_13 rfl (lv_at hl 0 rfl) ?_
    refine zg_X9_310 hx hb C hP (by decide) lay_81 rfl dX9_body_14 ?_
    refine lv_iload_n hx hb dX9_body_17 rfl (lv_at hl 1 rfl) ?_
    obtain ⟨hc2, hf⟩ := chk_some hf
    refine zz_iast hx hb C hP hS (by decide) lay_105 (inb_vp hc2) dX9_body_18 (fun σ4 eσ4 H locs hP hS => ?_)
    have hf := bnd_at σ4 eσ4 hf
    refine lv_aload_n hx hb dX9_body_19 rfl (lv_at hl 0 rfl) ?_
    refine lv_dup hx hb dX9_body_20 rfl ?_
    refine zg_X9_310 hx hb C hP (by decide) lay_81 rfl dX9_body_21 ?_
    refine lv_iconst (v := 1) hx hb dX9_body_24 (by decide) ?_
    refine lv_iadd hx hb dX9_body_25 ?_
    refine zp_X9_310 hx hb C hP hS (by decide) lay_81 rfl dX9_body_26 (fun σ5 eσ5 H locs hP hS => ?_)
    have hf := bnd_at σ5 eσ5 hf
    have hf := Option.some.inj hf
    subst hf
    exact hQ _ _ _ _ dX9_body_29 hP hS
set_option maxHeartbeats 4000000 in
set_option maxRecDepth 100000 in
theorem c_X9_singing (l : Launch) {D : va_G} {a : Nat → Nat} {cA : Nat → ClassId} {A : Nat → Prop} {sa : Nat → Nat} (hDA : DA a A) {σ : PH} {d : PD} (p1 : Int32) (p2 : Int32) {u : Int32 × PH} (hf : f_X9_singing σ p1 p2 = some u) : CTi l yX9_singing cX9_singing 5 (some .int) 1 21 D a cA A sa [.ref (a 81), .int p1, .int p2] σ d u.1 u.2 d := by
  refine zz_metI zpl_X9 hDA (Nat.le_of_ble_eq_true rfl) ?_
  intro p e R s m args below meth c Q ls hx hb hml C hRf hRl hQ hP hS hl
  have hl : lv_has ls 5 [(0, .ref (a 81)), (1, .int p1), (2, .int p2)] := hl
  unfold f_X9_singing at hf
  refine lv_aload_n hx hb dX9_singing_0 rfl (lv_at hl 0 rfl) ?_
  refine zg_X9_26 hx hb C hP (by decide) lay_81 rfl dX9_singing_1 ?_
  refine lv_iload_n hx hb dX9_singing_4 rfl (lv_at hl 1 rfl) ?_
  obtain ⟨hc0, hf⟩ := chk_some hf
  refine zz_iald hx hb C hP (by decide) lay_83 (inb_vp hc0) dX9_singing_5 ?_
  refine lv_topi (fun v2 ev2 => ?_)
  have hf := bnd_at v2 ev2 hf
  refine lv_istore_n (lv' := [(3, .int v2), (0, .ref (a 81)), (1, .int p1), (2, .int p2)]) hx hb dX9_singing_6 rfl hl (by decide) rfl (fun ls hl => ?_)
  refine lv_iload_n hx hb dX9_singing_7 rfl (lv_at hl 0 rfl) ?_
  refine lv_bipush (v := 6) hx hb dX9_singing_8 (by decide) ?_
  have hJ19 : ∀ (σ3 : PH), j_X9_singing_19 p1 p2 v2 σ3 = some u → ∀ (H : Heap) (locs : List Loc) (ls : Array Slot), lv_has ls 5 [(0, .ref (a 81)), (1, .int p1), (2, .int p2), (3, .int v2)] → va_P D vwCl (wl a cA σ3 d) H → va_S A s.heap H locs → W p l e R s m args below meth c H locs 0 0 Q (F0 m 19 ls []) := by
    intro σ3 hf H locs ls hl hP hS
    unfold j_X9_singing_19 at hf
    refine lv_iload_n hx hb dX9_singing_19 rfl (lv_at hl 3 rfl) ?_
    refine lv_iconst (v := 4) hx hb dX9_singing_20 (by decide) ?_
    have hJ36 : ∀ (σ4 : PH), j_X9_singing_36 p1 p2 v2 σ4 = some u → ∀ (H : Heap) (locs : List Loc) (ls : Array Slot), lv_has ls 5 [(0, .ref (a 81)), (1, .int p1), (2, .int p2), (3, .int v2)] → va_P D vwCl (wl a cA σ4 d) H → va_S A s.heap H locs → W p l e R s m args below meth c H locs 0 0 Q (F0 m 36 ls []) := by
      intro σ4 hf H locs ls hl hP hS
      unfold j_X9_singing_36 at hf
      refine lv_iload_n hx hb dX9_singing_36 rfl (lv_at hl 3 rfl) ?_
      refine lv_iconst (v := 1) hx hb dX9_singing_37 (by decide) ?_
      have hJ52 : ∀ (σ5 : PH), j_X9_singing_52 p1 p2 v2 σ5 = some u → ∀ (H : Heap) (locs : List Loc) (ls : Array Slot), lv_has ls 5 [(0, .ref (a 81)), (1, .int p1), (2, .int p2), (3, .int v2)] → va_P D vwCl (wl a cA σ5 d) H → va_S A s.heap H locs → W p l e R s m args below meth c H locs 0 0 Q (F0 m 52 ls []) := by
        intro σ5 hf H locs ls hl hP hS
        unfold j_X9_singing_52 at hf
        refine lv_aload_n hx hb dX9_singing_52 rfl (lv_at hl 0 rfl) ?_
        refine lv_bipush (v := 10) hx hb dX9_singing_53 (by decide) ?_
        obtain ⟨u6, hzu6, hf⟩ := obd_some hf
        refine zz_callVv (rest := []) hx hb hml C hP hS (c_X9_body l hDA 10 hzu6) zw_X9_313 ⟨Nat.le_trans (Nat.le_of_ble_eq_true rfl) hRf, Nat.le_trans (Nat.le_of_ble_eq_true rfl) hRl⟩ (by decide) lay_81 rfl rfl hl.1 (Nat.le_of_ble_eq_true rfl) ⟨Nat.zero_le _, Nat.zero_le _⟩ rfl dX9_singing_55 (fun H locs hP hS => ?_)
        refine lv_iload_n hx hb dX9_singing_58 rfl (lv_at hl 2 rfl) ?_
        refine lv_iload_n hx hb dX9_singing_59 rfl (lv_at hl 1 rfl) ?_
        refine lv_iadd hx hb dX9_singing_60 ?_
        refine lv_topi (fun v7 ev7 => ?_)
        have hf := bnd_at v7 ev7 hf
        refine lv_istore (lv' := [(4, .int v7), (0, .ref (a 81)), (1, .int p1), (2, .int p2), (3, .int v2)]) hx hb dX9_singing_61 hl (by decide) rfl (fun ls hl => ?_)
        refine lv_iload_n hx hb dX9_singing_63 rfl (lv_at hl 4 rfl) ?_
        refine lv_iconst (v := 1) hx hb dX9_singing_64 (by decide) ?_
        have hJ84 : ∀ (v8 : Int32), j_X9_singing_84 p1 v2 u6 v8 = some u → ∀ (H : Heap) (locs : List Loc) (ls : Array Slot), lv_has ls 5 [(1, .int p1), (3, .int v2), (4, .int v8)] → va_P D vwCl (wl a cA u6 d) H → va_S A s.heap H locs → W p l e R s m args below meth c H locs 0 0 Q (F0 m 84 ls []) := by
          intro v8 hf H locs ls hl hP hS
          unfold j_X9_singing_84 at hf
          refine lv_iload_n hx hb dX9_singing_84 rfl (lv_at hl 1 rfl) ?_
          refine lv_iconst (v := 4) hx hb dX9_singing_85 (by decide) ?_
          have hJ101 : ∀ (v9 : Int32), j_X9_singing_101 v2 u6 v9 = some u → ∀ (H : Heap) (locs : List Loc) (ls : Array Slot), lv_has ls 5 [(3, .int v2), (4, .int v9)] → va_P D vwCl (wl a cA u6 d) H → va_S A s.heap H locs → W p l e R s m args below meth c H locs 0 0 Q (F0 m 101 ls []) := by
            intro v9 hf H locs ls hl hP hS
            unfold j_X9_singing_101 at hf
            refine lv_iload_n hx hb dX9_singing_101 rfl (lv_at hl 0 rfl) ?_
            refine lv_bipush (v := 6) hx hb dX9_singing_102 (by decide) ?_
            refine lv_icmp_ne (tgt := 114) hx hb dX9_singing_104 (by decide) (fun hb9 => ?_) (fun hb9 => ?_)
            · have hf := ifF hb9 hf
              refine lv_iload hx hb dX9_singing_114 (lv_at hl 1 rfl) ?_
              have hf := Option.some.inj hf
              subst hf
              exact hQ _ _ _ _ dX9_singing_116 hP hS
            · have hf := ifT hb9 hf
              refine lv_iload hx hb dX9_singing_107 (lv_at hl 1 rfl) ?_
              refine lv_iconst (v := 2) hx hb dX9_singing_109 (by decide) ?_
              refine lv_imul hx hb dX9_singing_110 ?_
              refine lv_goto (tgt := 116) hx hb dX9_singing_111 (by decide) ?_
              have hf := Option.some.inj hf
              subst hf
              exact hQ _ _ _ _ dX9_singing_116 hP hS
          have hJ95 : j_X9_singing_95 p1 v2 u6 v8 = some u → ∀ (H : Heap) (locs : List Loc) (ls : Array Slot), lv_has ls 5 [(1, .int p1), (3, .int v2), (4, .int v8)] → va_P D vwCl (wl a cA u6 d) H → va_S A s.heap H locs → W p l e R s m args below meth c H locs 0 0 Q (F0 m 95 ls []) := by
            intro  hf H locs ls hl hP hS
            unfold j_X9_singing_95 at hf
            refine lv_iload hx hb dX9_singing_95 (lv_at hl 2 rfl) ?_
            refine lv_iload_n hx hb dX9_singing_97 rfl (lv_at hl 0 rfl) ?_
            refine lv_isub hx hb dX9_singing_98 ?_
            refine lv_topi (fun v11 ev11 => ?_)
            have hf := bnd_at v11 ev11 hf
            refine lv_istore (lv' := [(4, .int v11), (1, .int p1), (3, .int v2)]) hx hb dX9_singing_99 hl (by decide) rfl (fun ls hl => ?_)
            exact hJ101 _ hf _ _ _ (lv_sub hl [2, 0] rfl) hP hS
          refine lv_icmp_eq (tgt := 95) hx hb dX9_singing_86 (by decide) (fun hb11 => ?_) (fun hb11 => ?_)
          · have hf := ifT hb11 hf
            exact hJ95  hf _ _ _ (lv_sub hl [0, 1, 2] rfl) hP hS
          · have hf := ifF hb11 hf
            refine lv_iload_n hx hb dX9_singing_89 rfl (lv_at hl 1 rfl) ?_
            refine lv_bipush (v := 6) hx hb dX9_singing_90 (by decide) ?_
            refine lv_icmp_ne (tgt := 101) hx hb dX9_singing_92 (by decide) (fun hb12 => ?_) (fun hb12 => ?_)
            · have hf := ifF hb12 hf
              exact hJ101 _ hf _ _ _ (lv_sub hl [1, 2] rfl) hP hS
            · have hf := ifT hb12 hf
              exact hJ95  hf _ _ _ (lv_sub hl [0, 1, 2] rfl) hP hS
        have hJ73 : j_X9_singing_73 p1 v2 u6 v7 = some u → ∀ (H : Heap) (locs : List Loc) (ls : Array Slot), lv_has ls 5 [(0, .ref (a 81)), (1, .int p1), (3, .int v2), (4, .int v7)] → va_P D vwCl (wl a cA u6 d) H → va_S A s.heap H locs → W p l e R s m args below meth c H locs 0 0 Q (F0 m 73 ls []) := by
          intro  hf H locs ls hl hP hS
          unfold j_X9_singing_73 at hf
          refine lv_iload hx hb dX9_singing_73 (lv_at hl 3 rfl) ?_
          refine lv_aload_n hx hb dX9_singing_75 rfl (lv_at hl 0 rfl) ?_
          refine zg_X9_29 hx hb C hP (by decide) lay_81 rfl dX9_singing_76 ?_
          refine lv_iload_n hx hb dX9_singing_79 rfl (lv_at hl 1 rfl) ?_
          obtain ⟨hc13, hf⟩ := chk_some hf
          refine zz_iald hx hb C hP (by decide) lay_84 (inb_vp hc13) dX9_singing_80 ?_
          refine lv_iadd hx hb dX9_singing_81 ?_
          refine lv_topi (fun v15 ev15 => ?_)
          have hf := bnd_at v15 ev15 hf
          refine lv_istore (lv' := [(4, .int v15), (0, .ref (a 81)), (1, .int p1), (3, .int v2)]) hx hb dX9_singing_82 hl (by decide) rfl (fun ls hl => ?_)
          exact hJ84 _ hf _ _ _ (lv_sub hl [2, 3, 0] rfl) hP hS
        refine lv_icmp_eq (tgt := 73) hx hb dX9_singing_65 (by decide) (fun hb15 => ?_) (fun hb15 => ?_)
        · have hf := ifT hb15 hf
          exact hJ73  hf _ _ _ (lv_sub hl [1, 2, 4, 0] rfl) hP hS
        · have hf := ifF hb15 hf
          refine lv_iload_n hx hb dX9_singing_68 rfl (lv_at hl 4 rfl) ?_
          refine lv_iconst (v := 3) hx hb dX9_singing_69 (by decide) ?_
          refine lv_icmp_ne (tgt := 84) hx hb dX9_singing_70 (by decide) (fun hb16 => ?_) (fun hb16 => ?_)
          · have hf := ifF hb16 hf
            exact hJ84 _ hf _ _ _ (lv_sub hl [2, 4, 0] rfl) hP hS
          · have hf := ifT hb16 hf
            exact hJ73  hf _ _ _ (lv_sub hl [1, 2, 4, 0] rfl) hP hS
      have hJ46 : j_X9_singing_46 p1 p2 v2 σ4 = some u → ∀ (H : Heap) (locs : List Loc) (ls : Array Slot), lv_has ls 5 [(0, .ref (a 81)), (1, .int p1), (2, .int p2), (3, .int v2)] → va_P D vwCl (wl a cA σ4 d) H → va_S A s.heap H locs → W p l e R s m args below meth c H locs 0 0 Q (F0 m 46 ls []) := by
        intro  hf H locs ls hl hP hS
        unfold j_X9_singing_46 at hf
        refine lv_aload_n hx hb dX9_singing_46 rfl (lv_at hl 0 rfl) ?_
        refine lv_bipush (v := 20) hx hb dX9_singing_47 (by decide) ?_
        obtain ⟨u18, hzu18, hf⟩ := obd_some hf
        refine zz_callVv (rest := []) hx hb hml C hP hS (c_X9_body l hDA 20 hzu18) zw_X9_313 ⟨Nat.le_trans (Nat.le_of_ble_eq_true rfl) hRf, Nat.le_trans (Nat.le_of_ble_eq_true rfl) hRl⟩ (by decide) lay_81 rfl rfl hl.1 (Nat.le_of_ble_eq_true rfl) ⟨Nat.zero_le _, Nat.zero_le _⟩ rfl dX9_singing_49 (fun H locs hP hS => ?_)
        exact hJ52 _ hf _ _ _ (lv_sub hl [0, 1, 2, 3] rfl) hP hS
      refine lv_icmp_eq (tgt := 46) hx hb dX9_singing_38 (by decide) (fun hb18 => ?_) (fun hb18 => ?_)
      · have hf := ifT hb18 hf
        exact hJ46  hf _ _ _ (lv_sub hl [0, 1, 2, 3] rfl) hP hS
      · have hf := ifF hb18 hf
        refine lv_iload_n hx hb dX9_singing_41 rfl (lv_at hl 3 rfl) ?_
        refine lv_iconst (v := 3) hx hb dX9_singing_42 (by decide) ?_
        refine lv_icmp_ne (tgt := 52) hx hb dX9_singing_43 (by decide) (fun hb19 => ?_) (fun hb19 => ?_)
        · have hf := ifF hb19 hf
          exact hJ52 _ hf _ _ _ (lv_sub hl [0, 1, 2, 3] rfl) hP hS
        · have hf := ifT hb19 hf
          exact hJ46  hf _ _ _ (lv_sub hl [0, 1, 2, 3] rfl) hP hS
    have hJ30 : j_X9_singing_30 p1 p2 v2 σ3 = some u → ∀ (H : Heap) (locs : List Loc) (ls : Array Slot), lv_has ls 5 [(0, .ref (a 81)), (1, .int p1), (2, .int p2), (3, .int v2)] → va_P D vwCl (wl a cA σ3 d) H → va_S A s.heap H locs → W p l e R s m args below meth c H locs 0 0 Q (F0 m 30 ls []) := by
      intro  hf H locs ls hl hP hS
      unfold j_X9_singing_30 at hf
      refine lv_aload_n hx hb dX9_singing_30 rfl (lv_at hl 0 rfl) ?_
      refine lv_bipush (v := 51) hx hb dX9_singing_31 (by decide) ?_
      obtain ⟨u21, hzu21, hf⟩ := obd_some hf
      refine zz_callVv (rest := []) hx hb hml C hP hS (c_X9_body l hDA 51 hzu21) zw_X9_313 ⟨Nat.le_trans (Nat.le_of_ble_eq_true rfl) hRf, Nat.le_trans (Nat.le_of_ble_eq_true rfl) hRl⟩ (by decide) lay_81 rfl rfl hl.1 (Nat.le_of_ble_eq_true rfl) ⟨Nat.zero_le _, Nat.zero_le _⟩ rfl dX9_singing_33 (fun H locs hP hS => ?_)
      exact hJ36 _ hf _ _ _ (lv_sub hl [0, 1, 2, 3] rfl) hP hS
    refine lv_icmp_eq (tgt := 30) hx hb dX9_singing_21 (by decide) (fun hb21 => ?_) (fun hb21 => ?_)
    · have hf := ifT hb21 hf
      exact hJ30  hf _ _ _ (lv_sub hl [0, 1, 2, 3] rfl) hP hS
    · have hf := ifF hb21 hf
      refine lv_iload_n hx hb dX9_singing_24 rfl (lv_at hl 3 rfl) ?_
      refine lv_bipush (v := 6) hx hb dX9_singing_25 (by decide) ?_
      refine lv_icmp_ne (tgt := 36) hx hb dX9_singing_27 (by decide) (fun hb22 => ?_) (fun hb22 => ?_)
      · have hf := ifF hb22 hf
        exact hJ36 _ hf _ _ _ (lv_sub hl [0, 1, 2, 3] rfl) hP hS
      · have hf := ifT hb22 hf
        exact hJ30  hf _ _ _ (lv_sub hl [0, 1, 2, 3] rfl) hP hS
  refine lv_icmp_ne (tgt := 19) hx hb dX9_singing_10 (by decide) (fun hb23 => ?_) (fun hb23 => ?_)
  · have hf := ifF hb23 hf
    exact hJ19 _ hf _ _ _ (lv_sub hl [1, 2, 3, 0] rfl) hP hS
  · have hf := ifT hb23 hf
    refine lv_aload_n hx hb dX9_singing_13 rfl (lv_at hl 1 rfl) ?_
    refine lv_bipush (v := 70) hx hb dX9_singing_14 (by decide) ?_
    obtain ⟨u25, hzu25, hf⟩ := obd_some hf
    refine zz_callVv (rest := []) hx hb hml C hP hS (c_X9_body l hDA 70 hzu25) zw_X9_313 ⟨Nat.le_trans (Nat.le_of_ble_eq_true rfl) hRf, Nat.le_trans (Nat.le_of_ble_eq_true rfl) hRl⟩ (by decide) lay_81 rfl rfl hl.1 (Nat.le_of_ble_eq_true rfl) ⟨Nat.zero_le _, Nat.zero_le _⟩ rfl dX9_singing_16 (fun H locs hP hS => ?_)
    exact hJ19 _ hf _ _ _ (lv_sub hl [1, 2, 3, 0] rfl) hP hS
set_option maxHeartbeats 4000000 in
set_option maxRecDepth 100000 in
theorem c_X9_hearing (l : Launch) {D : va_G} {a : Nat → Nat} {cA : Nat → ClassId} {A : Nat → Prop} {sa : Nat → Nat} (hDA : DA a A) {σ : PH} {d : PD} (p1 : Int32) (p2 : Int32) {u : Int32 × PH} (hf : f_X9_hearing σ p1 p2 = some u) : CTi l yX9_hearing cX9_hearing 7 (some .int) 2 45 D a cA A sa [.ref (a 81), .int p1, .int p2] σ d u.1 u.2 d := by
  refine zz_metI zpl_X9 hDA (Nat.le_of_ble_eq_true rfl) ?_
  intro p e R s m args below meth c Q ls hx hb hml C hRf hRl hQ hP hS hl
  have hl : lv_has ls 7 [(0, .ref (a 81)), (1, .int p1), (2, .int p2)] := hl
  unfold f_X9_hearing at hf
  refine lv_aload_n hx hb dX9_hearing_0 rfl (lv_at hl 0 rfl) ?_
  refine zg_X9_26 hx hb C hP (by decide) lay_81 rfl dX9_hearing_1 ?_
  refine lv_iload_n hx hb dX9_hearing_4 rfl (lv_at hl 1 rfl) ?_
  obtain ⟨hc0, hf⟩ := chk_some hf
  refine zz_iald hx hb C hP (by decide) lay_83 (inb_vp hc0) dX9_hearing_5 ?_
  refine lv_topi (fun v2 ev2 => ?_)
  have hf := bnd_at v2 ev2 hf
  refine lv_istore_n (lv' := [(3, .int v2), (0, .ref (a 81)), (1, .int p1), (2, .int p2)]) hx hb dX9_hearing_6 rfl hl (by decide) rfl (fun ls hl => ?_)
  refine lv_iload_n hx hb dX9_hearing_7 rfl (lv_at hl 3 rfl) ?_
  refine lv_istore (lv' := [(4, .int p2), (3, .int v2), (0, .ref (a 81)), (1, .int p1), (2, .int p2)]) hx hb dX9_hearing_8 hl (by decide) rfl (fun ls hl => ?_)
  refine lv_iload_n hx hb dX9_hearing_10 rfl (lv_at hl 1 rfl) ?_
  refine lv_bipush (v := 6) hx hb dX9_hearing_11 (by decide) ?_
  have hJ32 : ∀ (v3 : Int32) (σ4 : PH), j_X9_hearing_32 p1 p2 v2 v3 σ4 = some u → ∀ (H : Heap) (locs : List Loc) (ls : Array Slot), lv_has ls 7 [(0, .ref (a 81)), (1, .int p1), (2, .int p2), (3, .int v2), (4, .int v3)] → va_P D vwCl (wl a cA σ4 d) H → va_S A s.heap H locs → W p l e R s m args below meth c H locs 0 0 Q (F0 m 32 ls []) := by
    intro v3 σ4 hf H locs ls hl hP hS
    unfold j_X9_hearing_32 at hf
    refine lv_iload_n hx hb dX9_hearing_32 rfl (lv_at hl 3 rfl) ?_
    refine lv_iconst (v := 3) hx hb dX9_hearing_33 (by decide) ?_
    have hJ48 : ∀ (v5 : Int32) (σ6 : PH), j_X9_hearing_48 p1 v2 v5 σ6 = some u → ∀ (H : Heap) (locs : List Loc) (ls : Array Slot), lv_has ls 7 [(0, .ref (a 81)), (1, .int p1), (3, .int v2), (4, .int v5)] → va_P D vwCl (wl a cA σ6 d) H → va_S A s.heap H locs → W p l e R s m args below meth c H locs 0 0 Q (F0 m 48 ls []) := by
      intro v5 σ6 hf H locs ls hl hP hS
      unfold j_X9_hearing_48 at hf
      refine lv_iload_n hx hb dX9_hearing_48 rfl (lv_at hl 2 rfl) ?_
      refine lv_iconst (v := 2) hx hb dX9_hearing_49 (by decide) ?_
      have hJ63 : ∀ (v7 : Int32), j_X9_hearing_63 p1 v5 σ6 v7 = some u → ∀ (H : Heap) (locs : List Loc) (ls : Array Slot), lv_has ls 7 [(0, .ref (a 81)), (1, .int p1), (4, .int v5)] → va_P D vwCl (wl a cA σ6 d) H → va_S A s.heap H locs → W p l e R s m args below meth c H locs 0 0 Q (F0 m 63 ls [.int v7]) := by
        intro v7 hf H locs ls hl hP hS
        unfold j_X9_hearing_63 at hf
        refine lv_istore (lv' := [(5, .int v7), (0, .ref (a 81)), (1, .int p1), (4, .int v5)]) hx hb dX9_hearing_63 hl (by decide) rfl (fun ls hl => ?_)
        refine lv_iload hx hb dX9_hearing_65 (lv_at hl 0 rfl) ?_
        have hJ76 : ∀ (σ8 : PH), j_X9_hearing_76 p1 v5 v7 σ8 = some u → ∀ (H : Heap) (locs : List Loc) (ls : Array Slot), lv_has ls 7 [(0, .ref (a 81)), (1, .int p1), (4, .int v5), (5, .int v7)] → va_P D vwCl (wl a cA σ8 d) H → va_S A s.heap H locs → W p l e R s m args below meth c H locs 0 0 Q (F0 m 76 ls []) := by
          intro σ8 hf H locs ls hl hP hS
          unfold j_X9_hearing_76 at hf
          refine lv_aload_n hx hb dX9_hearing_76 rfl (lv_at hl 0 rfl) ?_
          refine lv_bipush (v := 11) hx hb dX9_hearing_77 (by decide) ?_
          obtain ⟨u9, hzu9, hf⟩ := obd_some hf
          refine zz_callVv (rest := []) hx hb hml C hP hS (c_X9_body l hDA 11 hzu9) zw_X9_313 ⟨Nat.le_trans (Nat.le_of_ble_eq_true rfl) hRf, Nat.le_trans (Nat.le_of_ble_eq_true rfl) hRl⟩ (by decide) lay_81 rfl rfl hl.1 (Nat.le_of_ble_eq_true rfl) ⟨Nat.zero_le _, Nat.zero_le _⟩ rfl dX9_hearing_79 (fun H locs hP hS => ?_)
          refine lv_aload_n hx hb dX9_hearing_82 rfl (lv_at hl 0 rfl) ?_
          refine lv_iload_n hx hb dX9_hearing_83 rfl (lv_at hl 1 rfl) ?_
          refine lv_iload hx hb dX9_hearing_84 (lv_at hl 2 rfl) ?_
          obtain ⟨u10, hzu10, hf⟩ := obd_some hf
          refine zz_callVi (rest := []) hx hb hml C hP hS (c_X9_singing l hDA p1 v5 hzu10) zw_X9_316 ⟨Nat.le_trans (Nat.le_of_ble_eq_true rfl) hRf, Nat.le_trans (Nat.le_of_ble_eq_true rfl) hRl⟩ (by decide) lay_81 rfl rfl hl.1 (Nat.le_of_ble_eq_true rfl) ⟨Nat.zero_le _, Nat.zero_le _⟩ rfl dX9_hearing_86 (fun H locs hP hS => ?_)
          refine lv_iconst (v := 2) hx hb dX9_hearing_89 (by decide) ?_
          refine lv_imul hx hb dX9_hearing_90 ?_
          refine lv_topi (fun v11 ev11 => ?_)
          have hf := bnd_at v11 ev11 hf
          refine lv_istore (lv' := [(6, .int v11), (0, .ref (a 81)), (1, .int p1), (4, .int v5), (5, .int v7)]) hx hb dX9_hearing_91 hl (by decide) rfl (fun ls hl => ?_)
          refine lv_iload hx hb dX9_hearing_93 (lv_at hl 4 rfl) ?_
          refine lv_if_eq (tgt := 105) hx hb dX9_hearing_95 (by decide) (fun hb11 => ?_) (fun hb11 => ?_)
          · have hf := ifT hb11 hf
            refine lv_iload hx hb dX9_hearing_105 (lv_at hl 0 rfl) ?_
            have hf := Option.some.inj hf
            subst hf
            exact hQ _ _ _ _ dX9_hearing_107 hP hS
          · have hf := ifF hb11 hf
            refine lv_iload hx hb dX9_hearing_98 (lv_at hl 0 rfl) ?_
            refine lv_iconst (v := 3) hx hb dX9_hearing_100 (by decide) ?_
            refine lv_imul hx hb dX9_hearing_101 ?_
            refine lv_goto (tgt := 107) hx hb dX9_hearing_102 (by decide) ?_
            have hf := Option.some.inj hf
            subst hf
            exact hQ _ _ _ _ dX9_hearing_107 hP hS
        refine lv_if_eq (tgt := 76) hx hb dX9_hearing_67 (by decide) (fun hb12 => ?_) (fun hb12 => ?_)
        · have hf := ifT hb12 hf
          exact hJ76 _ hf _ _ _ (lv_sub hl [1, 2, 3, 0] rfl) hP hS
        · have hf := ifF hb12 hf
          refine lv_aload_n hx hb dX9_hearing_70 rfl (lv_at hl 1 rfl) ?_
          refine lv_bipush (v := 30) hx hb dX9_hearing_71 (by decide) ?_
          obtain ⟨u14, hzu14, hf⟩ := obd_some hf
          refine zz_callVv (rest := []) hx hb hml C hP hS (c_X9_body l hDA 30 hzu14) zw_X9_313 ⟨Nat.le_trans (Nat.le_of_ble_eq_true rfl) hRf, Nat.le_trans (Nat.le_of_ble_eq_true rfl) hRl⟩ (by decide) lay_81 rfl rfl hl.1 (Nat.le_of_ble_eq_true rfl) ⟨Nat.zero_le _, Nat.zero_le _⟩ rfl dX9_hearing_73 (fun H locs hP hS => ?_)
          exact hJ76 _ hf _ _ _ (lv_sub hl [1, 2, 3, 0] rfl) hP hS
      have hJ58 : j_X9_hearing_58 p1 v5 σ6 = some u → ∀ (H : Heap) (locs : List Loc) (ls : Array Slot), lv_has ls 7 [(0, .ref (a 81)), (1, .int p1), (4, .int v5)] → va_P D vwCl (wl a cA σ6 d) H → va_S A s.heap H locs → W p l e R s m args below meth c H locs 0 0 Q (F0 m 58 ls []) := by
        intro  hf H locs ls hl hP hS
        unfold j_X9_hearing_58 at hf
        refine lv_iconst (v := 1) hx hb dX9_hearing_58 (by decide) ?_
        refine lv_goto (tgt := 63) hx hb dX9_hearing_59 (by decide) ?_
        exact hJ63 _ hf _ _ _ (lv_sub hl [0, 1, 2] rfl) hP hS
      refine lv_icmp_eq (tgt := 58) hx hb dX9_hearing_50 (by decide) (fun hb14 => ?_) (fun hb14 => ?_)
      · have hf := ifT hb14 hf
        exact hJ58  hf _ _ _ (lv_sub hl [0, 1, 3] rfl) hP hS
      · have hf := ifF hb14 hf
        refine lv_iload_n hx hb dX9_hearing_53 rfl (lv_at hl 2 rfl) ?_
        refine lv_iconst (v := 5) hx hb dX9_hearing_54 (by decide) ?_
        refine lv_icmp_ne (tgt := 62) hx hb dX9_hearing_55 (by decide) (fun hb15 => ?_) (fun hb15 => ?_)
        · have hf := ifF hb15 hf
          refine lv_iconst (v := 0) hx hb dX9_hearing_62 (by decide) ?_
          exact hJ63 _ hf _ _ _ (lv_sub hl [0, 1, 3] rfl) hP hS
        · have hf := ifT hb15 hf
          exact hJ58  hf _ _ _ (lv_sub hl [0, 1, 3] rfl) hP hS
    refine lv_icmp_ne (tgt := 48) hx hb dX9_hearing_34 (by decide) (fun hb16 => ?_) (fun hb16 => ?_)
    · have hf := ifF hb16 hf
      exact hJ48 _ _ hf _ _ _ (lv_sub hl [0, 1, 3, 4] rfl) hP hS
    · have hf := ifT hb16 hf
      refine lv_aload_n hx hb dX9_hearing_37 rfl (lv_at hl 0 rfl) ?_
      refine lv_bipush (v := 40) hx hb dX9_hearing_38 (by decide) ?_
      obtain ⟨u18, hzu18, hf⟩ := obd_some hf
      refine zz_callVv (rest := []) hx hb hml C hP hS (c_X9_body l hDA 40 hzu18) zw_X9_313 ⟨Nat.le_trans (Nat.le_of_ble_eq_true rfl) hRf, Nat.le_trans (Nat.le_of_ble_eq_true rfl) hRl⟩ (by decide) lay_81 rfl rfl hl.1 (Nat.le_of_ble_eq_true rfl) ⟨Nat.zero_le _, Nat.zero_le _⟩ rfl dX9_hearing_40 (fun H locs hP hS => ?_)
      refine lv_iload_n hx hb dX9_hearing_43 rfl (lv_at hl 2 rfl) ?_
      refine lv_iconst (v := 1) hx hb dX9_hearing_44 (by decide) ?_
      refine lv_iadd hx hb dX9_hearing_45 ?_
      refine lv_topi (fun v19 ev19 => ?_)
      have hf := bnd_at v19 ev19 hf
      refine lv_istore (lv' := [(4, .int v19), (0, .ref (a 81)), (1, .int p1), (2, .int p2), (3, .int v2)]) hx hb dX9_hearing_46 hl (by decide) rfl (fun ls hl => ?_)
      exact hJ48 _ _ hf _ _ _ (lv_sub hl [1, 2, 4, 0] rfl) hP hS
  refine lv_icmp_ne (tgt := 32) hx hb dX9_hearing_13 (by decide) (fun hb19 => ?_) (fun hb19 => ?_)
  · have hf := ifF hb19 hf
    exact hJ32 _ _ hf _ _ _ (lv_sub hl [2, 3, 4, 1, 0] rfl) hP hS
  · have hf := ifT hb19 hf
    refine lv_aload_n hx hb dX9_hearing_16 rfl (lv_at hl 2 rfl) ?_
    refine lv_bipush (v := 71) hx hb dX9_hearing_17 (by decide) ?_
    obtain ⟨u21, hzu21, hf⟩ := obd_some hf
    refine zz_callVv (rest := []) hx hb hml C hP hS (c_X9_body l hDA 71 hzu21) zw_X9_313 ⟨Nat.le_trans (Nat.le_of_ble_eq_true rfl) hRf, Nat.le_trans (Nat.le_of_ble_eq_true rfl) hRl⟩ (by decide) lay_81 rfl rfl hl.1 (Nat.le_of_ble_eq_true rfl) ⟨Nat.zero_le _, Nat.zero_le _⟩ rfl dX9_hearing_19 (fun H locs hP hS => ?_)
    refine lv_iload_n hx hb dX9_hearing_22 rfl (lv_at hl 4 rfl) ?_
    refine lv_aload_n hx hb dX9_hearing_23 rfl (lv_at hl 2 rfl) ?_
    refine zg_X9_29 hx hb C hP (by decide) lay_81 rfl dX9_hearing_24 ?_
    refine lv_iload_n hx hb dX9_hearing_27 rfl (lv_at hl 3 rfl) ?_
    obtain ⟨hc21, hf⟩ := chk_some hf
    refine zz_iald hx hb C hP (by decide) lay_84 (inb_vp hc21) dX9_hearing_28 ?_
    refine lv_isub hx hb dX9_hearing_29 ?_
    refine lv_topi (fun v23 ev23 => ?_)
    have hf := bnd_at v23 ev23 hf
    refine lv_istore (lv' := [(4, .int v23), (3, .int v2), (0, .ref (a 81)), (1, .int p1), (2, .int p2)]) hx hb dX9_hearing_30 hl (by decide) rfl (fun ls hl => ?_)
    exact hJ32 _ _ hf _ _ _ (lv_sub hl [2, 3, 4, 1, 0] rfl) hP hS
set_option maxHeartbeats 4000000 in
set_option maxRecDepth 100000 in
theorem c_X9_leaning (l : Launch) {D : va_G} {a : Nat → Nat} {cA : Nat → ClassId} {A : Nat → Prop} {sa : Nat → Nat} (hDA : DA a A) {σ : PH} {d : PD} (p1 : Int32) (p2 : Int32) {u : Int32 × PH} (hf : f_X9_leaning σ p1 p2 = some u) : CTi l yX9_leaning cX9_leaning 5 (some .int) 3 71 D a cA A sa [.ref (a 81), .int p1, .int p2] σ d u.1 u.2 d := by
  refine zz_metI zpl_X9 hDA (Nat.le_of_ble_eq_true rfl) ?_
  intro p e R s m args below meth c Q ls hx hb hml C hRf hRl hQ hP hS hl
  have hl : lv_has ls 5 [(0, .ref (a 81)), (1, .int p1), (2, .int p2)] := hl
  unfold f_X9_leaning at hf
  refine lv_aload_n hx hb dX9_leaning_0 rfl (lv_at hl 0 rfl) ?_
  refine zg_X9_26 hx hb C hP (by decide) lay_81 rfl dX9_leaning_1 ?_
  refine lv_iload_n hx hb dX9_leaning_4 rfl (lv_at hl 1 rfl) ?_
  obtain ⟨hc0, hf⟩ := chk_some hf
  refine zz_iald hx hb C hP (by decide) lay_83 (inb_vp hc0) dX9_leaning_5 ?_
  refine lv_topi (fun v2 ev2 => ?_)
  have hf := bnd_at v2 ev2 hf
  refine lv_istore_n (lv' := [(3, .int v2), (0, .ref (a 81)), (1, .int p1), (2, .int p2)]) hx hb dX9_leaning_6 rfl hl (by decide) rfl (fun ls hl => ?_)
  refine lv_iload_n hx hb dX9_leaning_7 rfl (lv_at hl 0 rfl) ?_
  refine lv_iconst (v := 4) hx hb dX9_leaning_8 (by decide) ?_
  have hJ24 : ∀ (σ3 : PH), j_X9_leaning_24 p1 p2 v2 σ3 = some u → ∀ (H : Heap) (locs : List Loc) (ls : Array Slot), lv_has ls 5 [(0, .ref (a 81)), (1, .int p1), (2, .int p2), (3, .int v2)] → va_P D vwCl (wl a cA σ3 d) H → va_S A s.heap H locs → W p l e R s m args below meth c H locs 0 0 Q (F0 m 24 ls []) := by
    intro σ3 hf H locs ls hl hP hS
    unfold j_X9_leaning_24 at hf
    refine lv_iload_n hx hb dX9_leaning_24 rfl (lv_at hl 3 rfl) ?_
    refine lv_iconst (v := 5) hx hb dX9_leaning_25 (by decide) ?_
    have hJ35 : ∀ (σ4 : PH), j_X9_leaning_35 p1 p2 v2 σ4 = some u → ∀ (H : Heap) (locs : List Loc) (ls : Array Slot), lv_has ls 5 [(0, .ref (a 81)), (1, .int p1), (2, .int p2), (3, .int v2)] → va_P D vwCl (wl a cA σ4 d) H → va_S A s.heap H locs → W p l e R s m args below meth c H locs 0 0 Q (F0 m 35 ls []) := by
      intro σ4 hf H locs ls hl hP hS
      unfold j_X9_leaning_35 at hf
      refine lv_aload_n hx hb dX9_leaning_35 rfl (lv_at hl 0 rfl) ?_
      refine lv_bipush (v := 12) hx hb dX9_leaning_36 (by decide) ?_
      obtain ⟨u5, hzu5, hf⟩ := obd_some hf
      refine zz_callVv (rest := []) hx hb hml C hP hS (c_X9_body l hDA 12 hzu5) zw_X9_313 ⟨Nat.le_trans (Nat.le_of_ble_eq_true rfl) hRf, Nat.le_trans (Nat.le_of_ble_eq_true rfl) hRl⟩ (by decide) lay_81 rfl rfl hl.1 (Nat.le_of_ble_eq_true rfl) ⟨Nat.zero_le _, Nat.zero_le _⟩ rfl dX9_leaning_38 (fun H locs hP hS => ?_)
      refine lv_aload_n hx hb dX9_leaning_41 rfl (lv_at hl 0 rfl) ?_
      refine lv_iload_n hx hb dX9_leaning_42 rfl (lv_at hl 1 rfl) ?_
      refine lv_iload_n hx hb dX9_leaning_43 rfl (lv_at hl 2 rfl) ?_
      obtain ⟨u6, hzu6, hf⟩ := obd_some hf
      refine zz_callVi (rest := []) hx hb hml C hP hS (c_X9_hearing l hDA p1 p2 hzu6) zw_X9_319 ⟨Nat.le_trans (Nat.le_of_ble_eq_true rfl) hRf, Nat.le_trans (Nat.le_of_ble_eq_true rfl) hRl⟩ (by decide) lay_81 rfl rfl hl.1 (Nat.le_of_ble_eq_true rfl) ⟨Nat.zero_le _, Nat.zero_le _⟩ rfl dX9_leaning_44 (fun H locs hP hS => ?_)
      refine lv_istore (lv' := [(4, .int u6.1), (0, .ref (a 81)), (1, .int p1), (2, .int p2), (3, .int v2)]) hx hb dX9_leaning_47 hl (by decide) rfl (fun ls hl => ?_)
      refine lv_iload hx hb dX9_leaning_49 (lv_at hl 0 rfl) ?_
      refine lv_aload_n hx hb dX9_leaning_51 rfl (lv_at hl 1 rfl) ?_
      refine lv_iload_n hx hb dX9_leaning_52 rfl (lv_at hl 2 rfl) ?_
      refine lv_iload_n hx hb dX9_leaning_53 rfl (lv_at hl 3 rfl) ?_
      refine lv_aload_n hx hb dX9_leaning_54 rfl (lv_at hl 1 rfl) ?_
      refine zg_X9_29 hx hb C hP (by decide) lay_81 rfl dX9_leaning_55 ?_
      refine lv_iload_n hx hb dX9_leaning_58 rfl (lv_at hl 2 rfl) ?_
      obtain ⟨hc6, hf⟩ := chk_some hf
      refine zz_iald hx hb C hP (by decide) lay_84 (inb_vp hc6) dX9_leaning_59 ?_
      refine lv_isub hx hb dX9_leaning_60 ?_
      obtain ⟨u8, hzu8, hf⟩ := obd_some hf
      refine zz_callVi (rest := [.int u6.1]) hx hb hml C hP hS (c_X9_singing l hDA p1 (p2 - (gI u6.2 84 p1.toNatClampNeg)) hzu8) zw_X9_316 ⟨Nat.le_trans (Nat.le_of_ble_eq_true rfl) hRf, Nat.le_trans (Nat.le_of_ble_eq_true rfl) hRl⟩ (by decide) lay_81 rfl rfl hl.1 (Nat.le_of_ble_eq_true rfl) ⟨Nat.zero_le _, Nat.zero_le _⟩ rfl dX9_leaning_61 (fun H locs hP hS => ?_)
      refine lv_ixor hx hb dX9_leaning_64 ?_
      refine lv_topi (fun v9 ev9 => ?_)
      have hf := bnd_at v9 ev9 hf
      refine lv_istore (lv' := [(4, .int v9), (0, .ref (a 81)), (1, .int p1), (2, .int p2), (3, .int v2)]) hx hb dX9_leaning_65 hl (by decide) rfl (fun ls hl => ?_)
      refine lv_iload_n hx hb dX9_leaning_67 rfl (lv_at hl 4 rfl) ?_
      refine lv_iconst (v := 4) hx hb dX9_leaning_68 (by decide) ?_
      refine lv_icmp_eq (tgt := 78) hx hb dX9_leaning_69 (by decide) (fun hb9 => ?_) (fun hb9 => ?_)
      · have hf := ifT hb9 hf
        refine lv_iload hx hb dX9_leaning_78 (lv_at hl 0 rfl) ?_
        refine lv_ineg hx hb dX9_leaning_80 ?_
        refine lv_goto (tgt := 98) hx hb dX9_leaning_81 (by decide) ?_
        have hf := Option.some.inj hf
        subst hf
        exact hQ _ _ _ _ dX9_leaning_98 hP hS
      · have hf := ifF hb9 hf
        refine lv_iload_n hx hb dX9_leaning_72 rfl (lv_at hl 4 rfl) ?_
        refine lv_bipush (v := 6) hx hb dX9_leaning_73 (by decide) ?_
        refine lv_icmp_ne (tgt := 84) hx hb dX9_leaning_75 (by decide) (fun hb10 => ?_) (fun hb10 => ?_)
        · have hf := ifF hb10 hf
          refine lv_iload_n hx hb dX9_leaning_84 rfl (lv_at hl 4 rfl) ?_
          refine lv_iconst (v := 5) hx hb dX9_leaning_85 (by decide) ?_
          refine lv_icmp_ne (tgt := 96) hx hb dX9_leaning_86 (by decide) (fun hb11 => ?_) (fun hb11 => ?_)
          · have hf := ifF hb11 hf
            refine lv_iload hx hb dX9_leaning_96 (lv_at hl 0 rfl) ?_
            have hf := Option.some.inj hf
            subst hf
            exact hQ _ _ _ _ dX9_leaning_98 hP hS
          · have hf := ifT hb11 hf
            refine lv_iload hx hb dX9_leaning_89 (lv_at hl 0 rfl) ?_
            refine lv_iconst (v := 5) hx hb dX9_leaning_91 (by decide) ?_
            refine lv_ixor hx hb dX9_leaning_92 ?_
            refine lv_goto (tgt := 98) hx hb dX9_leaning_93 (by decide) ?_
            have hf := Option.some.inj hf
            subst hf
            exact hQ _ _ _ _ dX9_leaning_98 hP hS
        · have hf := ifT hb10 hf
          refine lv_iload hx hb dX9_leaning_78 (lv_at hl 0 rfl) ?_
          refine lv_ineg hx hb dX9_leaning_80 ?_
          refine lv_goto (tgt := 98) hx hb dX9_leaning_81 (by decide) ?_
          have hf := Option.some.inj hf
          subst hf
          exact hQ _ _ _ _ dX9_leaning_98 hP hS
    refine lv_icmp_ne (tgt := 35) hx hb dX9_leaning_26 (by decide) (fun hb12 => ?_) (fun hb12 => ?_)
    · have hf := ifF hb12 hf
      exact hJ35 _ hf _ _ _ (lv_sub hl [0, 1, 2, 3] rfl) hP hS
    · have hf := ifT hb12 hf
      refine lv_aload_n hx hb dX9_leaning_29 rfl (lv_at hl 0 rfl) ?_
      refine lv_bipush (v := 60) hx hb dX9_leaning_30 (by decide) ?_
      obtain ⟨u14, hzu14, hf⟩ := obd_some hf
      refine zz_callVv (rest := []) hx hb hml C hP hS (c_X9_body l hDA 60 hzu14) zw_X9_313 ⟨Nat.le_trans (Nat.le_of_ble_eq_true rfl) hRf, Nat.le_trans (Nat.le_of_ble_eq_true rfl) hRl⟩ (by decide) lay_81 rfl rfl hl.1 (Nat.le_of_ble_eq_true rfl) ⟨Nat.zero_le _, Nat.zero_le _⟩ rfl dX9_leaning_32 (fun H locs hP hS => ?_)
      exact hJ35 _ hf _ _ _ (lv_sub hl [0, 1, 2, 3] rfl) hP hS
  have hJ18 : j_X9_leaning_18 σ p1 p2 v2 = some u → ∀ (H : Heap) (locs : List Loc) (ls : Array Slot), lv_has ls 5 [(0, .ref (a 81)), (1, .int p1), (2, .int p2), (3, .int v2)] → va_P D vwCl (wl a cA σ d) H → va_S A s.heap H locs → W p l e R s m args below meth c H locs 0 0 Q (F0 m 18 ls []) := by
    intro  hf H locs ls hl hP hS
    unfold j_X9_leaning_18 at hf
    refine lv_aload_n hx hb dX9_leaning_18 rfl (lv_at hl 0 rfl) ?_
    refine lv_bipush (v := 50) hx hb dX9_leaning_19 (by decide) ?_
    obtain ⟨u15, hzu15, hf⟩ := obd_some hf
    refine zz_callVv (rest := []) hx hb hml C hP hS (c_X9_body l hDA 50 hzu15) zw_X9_313 ⟨Nat.le_trans (Nat.le_of_ble_eq_true rfl) hRf, Nat.le_trans (Nat.le_of_ble_eq_true rfl) hRl⟩ (by decide) lay_81 rfl rfl hl.1 (Nat.le_of_ble_eq_true rfl) ⟨Nat.zero_le _, Nat.zero_le _⟩ rfl dX9_leaning_21 (fun H locs hP hS => ?_)
    exact hJ24 _ hf _ _ _ (lv_sub hl [0, 1, 2, 3] rfl) hP hS
  refine lv_icmp_eq (tgt := 18) hx hb dX9_leaning_9 (by decide) (fun hb15 => ?_) (fun hb15 => ?_)
  · have hf := ifT hb15 hf
    exact hJ18  hf _ _ _ (lv_sub hl [1, 2, 3, 0] rfl) hP hS
  · have hf := ifF hb15 hf
    refine lv_iload_n hx hb dX9_leaning_12 rfl (lv_at hl 0 rfl) ?_
    refine lv_bipush (v := 6) hx hb dX9_leaning_13 (by decide) ?_
    refine lv_icmp_ne (tgt := 24) hx hb dX9_leaning_15 (by decide) (fun hb16 => ?_) (fun hb16 => ?_)
    · have hf := ifF hb16 hf
      exact hJ24 _ hf _ _ _ (lv_sub hl [1, 2, 3, 0] rfl) hP hS
    · have hf := ifT hb16 hf
      exact hJ18  hf _ _ _ (lv_sub hl [1, 2, 3, 0] rfl) hP hS
set_option maxHeartbeats 4000000 in
set_option maxRecDepth 100000 in
theorem c_X9_act (l : Launch) {D : va_G} {a : Nat → Nat} {cA : Nat → ClassId} {A : Nat → Prop} {sa : Nat → Nat} (hDA : DA a A) {σ : PH} {d : PD} (p1 : Int32) (p2 : Int32) (p3 : Int32) {u : Int32 × PH} (hf : f_X9_act σ p1 p2 p3 = some u) : CTi l yX9_act cX9_act 4 (some .int) 4 95 D a cA A sa [.ref (a 81), .int p1, .int p2, .int p3] σ d u.1 u.2 d := by
  refine zz_metI zpl_X9 hDA (Nat.le_of_ble_eq_true rfl) ?_
  intro p e R s m args below meth c Q ls hx hb hml C hRf hRl hQ hP hS hl
  have hl : lv_has ls 4 [(0, .ref (a 81)), (1, .int p1), (2, .int p2), (3, .int p3)] := hl
  unfold f_X9_act at hf
  refine lv_aload_n hx hb dX9_act_0 rfl (lv_at hl 0 rfl) ?_
  refine lv_iconst (v := 0) hx hb dX9_act_1 (by decide) ?_
  refine zp_X9_310 hx hb C hP hS (by decide) lay_81 rfl dX9_act_2 (fun σ1 eσ1 H locs hP hS => ?_)
  have hf := bnd_at σ1 eσ1 hf
  refine lv_aload_n hx hb dX9_act_5 rfl (lv_at hl 0 rfl) ?_
  refine lv_iload_n hx hb dX9_act_6 rfl (lv_at hl 1 rfl) ?_
  obtain ⟨u2, hzu2⟩ : ∃ z, z = f_X9_isSinger σ1 p1 := ⟨_, rfl⟩
  have hf := bnd_at u2 hzu2 hf
  refine zz_callVi (rest := []) hx hb hml C hP hS (c_X9_isSinger l hDA p1 hzu2.symm) zw_X9_111 ⟨Nat.le_trans (Nat.le_of_ble_eq_true rfl) hRf, Nat.le_trans (Nat.le_of_ble_eq_true rfl) hRl⟩ (by decide) lay_81 rfl rfl hl.1 (Nat.le_of_ble_eq_true rfl) ⟨Nat.zero_le _, Nat.zero_le _⟩ rfl dX9_act_7 (fun H locs hP hS => ?_)
  refine lv_if_eq (tgt := 22) hx hb dX9_act_10 (by decide) (fun hb2 => ?_) (fun hb2 => ?_)
  · have hf := ifT hb2 hf
    refine lv_iconst (v := 0) hx hb dX9_act_22 (by decide) ?_
    have hf := Option.some.inj hf
    subst hf
    exact hQ _ _ _ _ dX9_act_23 hP hS
  · have hf := ifF hb2 hf
    refine lv_iload_n hx hb dX9_act_13 rfl (lv_at hl 2 rfl) ?_
    refine lv_if_lt (tgt := 22) hx hb dX9_act_14 (by decide) (fun hb3 => ?_) (fun hb3 => ?_)
    · have hf := ifT hb3 hf
      refine lv_iconst (v := 0) hx hb dX9_act_22 (by decide) ?_
      have hf := Option.some.inj hf
      subst hf
      exact hQ _ _ _ _ dX9_act_23 hP hS
    · have hf := ifF hb3 hf
      refine lv_iload_n hx hb dX9_act_17 rfl (lv_at hl 2 rfl) ?_
      refine lv_iconst (v := 2) hx hb dX9_act_18 (by decide) ?_
      refine lv_icmp_le (tgt := 24) hx hb dX9_act_19 (by decide) (fun hb4 => ?_) (fun hb4 => ?_)
      · have hf := ifT hb4 hf
        refine lv_iload_n hx hb dX9_act_24 rfl (lv_at hl 2 rfl) ?_
        refine lv_if_ne (tgt := 37) hx hb dX9_act_25 (by decide) (fun hb5 => ?_) (fun hb5 => ?_)
        · have hf := ifF hb5 hf
          refine lv_iload_n hx hb dX9_act_37 rfl (lv_at hl 2 rfl) ?_
          refine lv_iconst (v := 1) hx hb dX9_act_38 (by decide) ?_
          refine lv_icmp_ne (tgt := 51) hx hb dX9_act_39 (by decide) (fun hb6 => ?_) (fun hb6 => ?_)
          · have hf := ifF hb6 hf
            refine lv_aload_n hx hb dX9_act_51 rfl (lv_at hl 0 rfl) ?_
            refine lv_iload_n hx hb dX9_act_52 rfl (lv_at hl 1 rfl) ?_
            refine lv_iload_n hx hb dX9_act_53 rfl (lv_at hl 3 rfl) ?_
            obtain ⟨u8, hzu8, hf⟩ := obd_some hf
            refine zz_callVi (rest := []) hx hb hml C hP hS (c_X9_leaning l hDA p1 p3 hzu8) zw_X9_322 ⟨Nat.le_trans (Nat.le_of_ble_eq_true rfl) hRf, Nat.le_trans (Nat.le_of_ble_eq_true rfl) hRl⟩ (by decide) lay_81 rfl rfl hl.1 (Nat.le_of_ble_eq_true rfl) ⟨Nat.zero_le _, Nat.zero_le _⟩ rfl dX9_act_54 (fun H locs hP hS => ?_)
            have hf := Option.some.inj hf
            subst hf
            exact hQ _ _ _ _ dX9_act_57 hP hS
          · have hf := ifT hb6 hf
            refine lv_aload_n hx hb dX9_act_42 rfl (lv_at hl 0 rfl) ?_
            refine lv_iload_n hx hb dX9_act_43 rfl (lv_at hl 1 rfl) ?_
            refine lv_iload_n hx hb dX9_act_44 rfl (lv_at hl 3 rfl) ?_
            obtain ⟨u9, hzu9, hf⟩ := obd_some hf
            refine zz_callVi (rest := []) hx hb hml C hP hS (c_X9_hearing l hDA p1 p3 hzu9) zw_X9_319 ⟨Nat.le_trans (Nat.le_of_ble_eq_true rfl) hRf, Nat.le_trans (Nat.le_of_ble_eq_true rfl) hRl⟩ (by decide) lay_81 rfl rfl hl.1 (Nat.le_of_ble_eq_true rfl) ⟨Nat.zero_le _, Nat.zero_le _⟩ rfl dX9_act_45 (fun H locs hP hS => ?_)
            refine lv_goto (tgt := 57) hx hb dX9_act_48 (by decide) ?_
            have hf := Option.some.inj hf
            subst hf
            exact hQ _ _ _ _ dX9_act_57 hP hS
        · have hf := ifT hb5 hf
          refine lv_aload_n hx hb dX9_act_28 rfl (lv_at hl 0 rfl) ?_
          refine lv_iload_n hx hb dX9_act_29 rfl (lv_at hl 1 rfl) ?_
          refine lv_iload_n hx hb dX9_act_30 rfl (lv_at hl 3 rfl) ?_
          obtain ⟨u10, hzu10, hf⟩ := obd_some hf
          refine zz_callVi (rest := []) hx hb hml C hP hS (c_X9_singing l hDA p1 p3 hzu10) zw_X9_316 ⟨Nat.le_trans (Nat.le_of_ble_eq_true rfl) hRf, Nat.le_trans (Nat.le_of_ble_eq_true rfl) hRl⟩ (by decide) lay_81 rfl rfl hl.1 (Nat.le_of_ble_eq_true rfl) ⟨Nat.zero_le _, Nat.zero_le _⟩ rfl dX9_act_31 (fun H locs hP hS => ?_)
          refine lv_goto (tgt := 57) hx hb dX9_act_34 (by decide) ?_
          have hf := Option.some.inj hf
          subst hf
          exact hQ _ _ _ _ dX9_act_57 hP hS
      · have hf := ifF hb4 hf
        refine lv_iconst (v := 0) hx hb dX9_act_22 (by decide) ?_
        have hf := Option.some.inj hf
        subst hf
        exact hQ _ _ _ _ dX9_act_23 hP hS
set_option maxHeartbeats 4000000 in
set_option maxRecDepth 100000 in
theorem c_X9_trace (l : Launch) {D : va_G} {a : Nat → Nat} {cA : Nat → ClassId} {A : Nat → Prop} {sa : Nat → Nat} (hDA : DA a A) {σ : PH} {d : PD} (p1 : Int32) {u : Int32} (hf : f_X9_trace σ p1 = some u) : CTi l yX9_trace cX9_trace 2 (some .int) 0 0 D a cA A sa [.ref (a 81), .int p1] σ d u σ d := by
  refine zz_metI zpl_X9 hDA (Nat.le_of_ble_eq_true rfl) ?_
  intro p e R s m args below meth c Q ls hx hb hml C hRf hRl hQ hP hS hl
  have hl : lv_has ls 2 [(0, .ref (a 81)), (1, .int p1)] := hl
  unfold f_X9_trace at hf
  refine lv_iload_n hx hb dX9_trace_0 rfl (lv_at hl 1 rfl) ?_
  refine lv_if_lt (tgt := 27) hx hb dX9_trace_1 (by decide) (fun hb0 => ?_) (fun hb0 => ?_)
  · have hf := ifT hb0 hf
    refine lv_iconst (v := (-1)) hx hb dX9_trace_27 (by decide) ?_
    have hf := Option.some.inj hf
    subst hf
    exact hQ _ _ _ _ dX9_trace_28 hP hS
  · have hf := ifF hb0 hf
    refine lv_iload_n hx hb dX9_trace_4 rfl (lv_at hl 1 rfl) ?_
    refine lv_bipush (v := 20) hx hb dX9_trace_5 (by decide) ?_
    refine lv_icmp_ge (tgt := 27) hx hb dX9_trace_7 (by decide) (fun hb1 => ?_) (fun hb1 => ?_)
    · have hf := ifT hb1 hf
      refine lv_iconst (v := (-1)) hx hb dX9_trace_27 (by decide) ?_
      have hf := Option.some.inj hf
      subst hf
      exact hQ _ _ _ _ dX9_trace_28 hP hS
    · have hf := ifF hb1 hf
      refine lv_iload_n hx hb dX9_trace_10 rfl (lv_at hl 1 rfl) ?_
      refine lv_aload_n hx hb dX9_trace_11 rfl (lv_at hl 0 rfl) ?_
      refine zg_X9_310 hx hb C hP (by decide) lay_81 rfl dX9_trace_12 ?_
      refine lv_icmp_ge (tgt := 27) hx hb dX9_trace_15 (by decide) (fun hb2 => ?_) (fun hb2 => ?_)
      · have hf := ifT hb2 hf
        refine lv_iconst (v := (-1)) hx hb dX9_trace_27 (by decide) ?_
        have hf := Option.some.inj hf
        subst hf
        exact hQ _ _ _ _ dX9_trace_28 hP hS
      · have hf := ifF hb2 hf
        refine lv_aload_n hx hb dX9_trace_18 rfl (lv_at hl 0 rfl) ?_
        refine zg_X9_93 hx hb C hP (by decide) lay_81 rfl dX9_trace_19 ?_
        refine lv_iload_n hx hb dX9_trace_22 rfl (lv_at hl 1 rfl) ?_
        obtain ⟨hc3, hf⟩ := chk_some hf
        refine zz_iald hx hb C hP (by decide) lay_105 (inb_vp hc3) dX9_trace_23 ?_
        refine lv_goto (tgt := 28) hx hb dX9_trace_24 (by decide) ?_
        have hf := Option.some.inj hf
        subst hf
        exact hQ _ _ _ _ dX9_trace_28 hP hS
set_option maxHeartbeats 4000000 in
set_option maxRecDepth 100000 in
theorem c_X9_image (l : Launch) {D : va_G} {a : Nat → Nat} {cA : Nat → ClassId} {A : Nat → Prop} {sa : Nat → Nat} (hDA : DA a A) {σ : PH} {d : PD}  {u : Int32 × PH} (hf : f_X9_image σ = some u) : CTi l yX9_image cX9_image 1 (some .int) 2 49 D a cA A sa [.ref (a 81)] σ d u.1 u.2 d := by
  refine zz_metI zpl_X9 hDA (Nat.le_of_ble_eq_true rfl) ?_
  intro p e R s m args below meth c Q ls hx hb hml C hRf hRl hQ hP hS hl
  have hl : lv_has ls 1 [(0, .ref (a 81))] := hl
  unfold f_X9_image at hf
  refine lv_aload_n hx hb dX9_image_0 rfl (lv_at hl 0 rfl) ?_
  refine lv_iconst (v := 1) hx hb dX9_image_1 (by decide) ?_
  refine zp_X9_325 hx hb C hP hS (by decide) lay_81 rfl rfl rfl dX9_image_2 (fun σ1 eσ1 H locs hP hS => ?_)
  have hf := bnd_at σ1 eσ1 hf
  refine lv_aload_n hx hb dX9_image_5 rfl (lv_at hl 0 rfl) ?_
  refine lv_aload_n hx hb dX9_image_6 rfl (lv_at hl 0 rfl) ?_
  refine zg_X9_75 hx hb C hP (by decide) lay_81 rfl dX9_image_7 ?_
  refine lv_iconst (v := 0) hx hb dX9_image_10 (by decide) ?_
  obtain ⟨u2, hzu2, hf⟩ := obd_some hf
  refine zz_callVv (rest := []) hx hb hml C hP hS (c_X9_all l hDA (o1 := 99) (n1 := 80) (by decide) lay_99 0 hzu2) zw_X9_207 ⟨Nat.le_trans (Nat.le_of_ble_eq_true rfl) hRf, Nat.le_trans (Nat.le_of_ble_eq_true rfl) hRl⟩ (by decide) lay_81 rfl rfl hl.1 (Nat.le_of_ble_eq_true rfl) ⟨Nat.zero_le _, Nat.zero_le _⟩ rfl dX9_image_11 (fun H locs hP hS => ?_)
  refine lv_aload_n hx hb dX9_image_14 rfl (lv_at hl 0 rfl) ?_
  refine zg_X9_96 hx hb C hP (by decide) lay_81 rfl dX9_image_15 ?_
  have hf := Option.some.inj hf
  subst hf
  exact hQ _ _ _ _ dX9_image_18 hP hS
set_option maxHeartbeats 4000000 in
set_option maxRecDepth 100000 in
theorem c_X9_restore (l : Launch) {D : va_G} {a : Nat → Nat} {cA : Nat → ClassId} {A : Nat → Prop} {sa : Nat → Nat} (hDA : DA a A) {σ : PH} {d : PD}  {u : Int32 × PH} (hf : f_X9_restore σ = some u) : CTi l yX9_restore cX9_restore 2 (some .int) 2 49 D a cA A sa [.ref (a 81)] σ d u.1 u.2 d := by
  refine zz_metI zpl_X9 hDA (Nat.le_of_ble_eq_true rfl) ?_
  intro p e R s m args below meth c Q ls hx hb hml C hRf hRl hQ hP hS hl
  have hl : lv_has ls 2 [(0, .ref (a 81))] := hl
  unfold f_X9_restore at hf
  refine lv_aload_n hx hb dX9_restore_0 rfl (lv_at hl 0 rfl) ?_
  refine zg_X9_325 hx hb C hP (by decide) lay_81 rfl dX9_restore_1 ?_
  refine lv_if_ne (tgt := 14) hx hb dX9_restore_4 (by decide) (fun hb0 => ?_) (fun hb0 => ?_)
  · have hf := ifF hb0 hf
    refine lv_aload_n hx hb dX9_restore_14 rfl (lv_at hl 0 rfl) ?_
    refine lv_aload_n hx hb dX9_restore_15 rfl (lv_at hl 0 rfl) ?_
    refine zg_X9_75 hx hb C hP (by decide) lay_81 rfl dX9_restore_16 ?_
    refine lv_iconst (v := 1) hx hb dX9_restore_19 (by decide) ?_
    obtain ⟨u2, hzu2, hf⟩ := obd_some hf
    refine zz_callVv (rest := []) hx hb hml C hP hS (c_X9_all l hDA (o1 := 99) (n1 := 80) (by decide) lay_99 1 hzu2) zw_X9_207 ⟨Nat.le_trans (Nat.le_of_ble_eq_true rfl) hRf, Nat.le_trans (Nat.le_of_ble_eq_true rfl) hRl⟩ (by decide) lay_81 rfl rfl hl.1 (Nat.le_of_ble_eq_true rfl) ⟨Nat.zero_le _, Nat.zero_le _⟩ rfl dX9_restore_20 (fun H locs hP hS => ?_)
    refine lv_iconst (v := 0) hx hb dX9_restore_23 (by decide) ?_
    refine lv_istore_n (lv' := [(1, .int 0), (0, .ref (a 81))]) hx hb dX9_restore_24 rfl hl (by decide) rfl (fun ls hl => ?_)
    refine loopN_ind (P := fun (q3 : Int32 × PH) => ∀ (H : Heap) (locs : List Loc) (ls : Array Slot), lv_has ls 2 [(0, .ref (a 81)), (1, .int q3.1)] → va_P D vwCl (wl a cA q3.2 d) H → va_S A s.heap H locs → W p l e R s m args below meth c H locs 0 0 Q (F0 m 25 ls [])) ?_ _ _ hf _ _ _ (lv_sub hl [1, 0] rfl) hP hS
    intro k4 ihk4 q3 hf H locs ls hl hP hS
    unfold b_X9_restore_25 at hf
    refine lv_iload_n hx hb dX9_restore_25 rfl (lv_at hl 1 rfl) ?_
    refine lv_bipush (v := 8) hx hb dX9_restore_26 (by decide) ?_
    refine lv_icmp_ge (tgt := 67) hx hb dX9_restore_28 (by decide) (fun hb4 => ?_) (fun hb4 => ?_)
    · have hf := ifT hb4 hf
      refine lv_aload_n hx hb dX9_restore_67 rfl (lv_at hl 0 rfl) ?_
      refine zg_X9_96 hx hb C hP (by decide) lay_81 rfl dX9_restore_68 ?_
      have hf := Option.some.inj hf
      subst hf
      exact hQ _ _ _ _ dX9_restore_71 hP hS
    · have hf := ifF hb4 hf
      refine lv_aload_n hx hb dX9_restore_31 rfl (lv_at hl 0 rfl) ?_
      refine zg_X9_44 hx hb C hP (by decide) lay_81 rfl dX9_restore_32 ?_
      refine lv_iload_n hx hb dX9_restore_35 rfl (lv_at hl 1 rfl) ?_
      obtain ⟨hc5, hf⟩ := chk_some hf
      refine zz_iald hx hb C hP (by decide) lay_89 (inb_vp hc5) dX9_restore_36 ?_
      refine lv_iconst (v := 2) hx hb dX9_restore_37 (by decide) ?_
      refine lv_icmp_ne (tgt := 61) hx hb dX9_restore_38 (by decide) (fun hb6 => ?_) (fun hb6 => ?_)
      · have hf := ifF hb6 hf
        obtain ⟨v8, ev8⟩ : ∃ z : Int32, z = q3.1 + 1 := ⟨_, rfl⟩
        have hf := bnd_at v8 ev8 hf
        refine lv_iinc (v := v8) (lv' := [(1, .int v8), (0, .ref (a 81))]) hx hb dX9_restore_61 hl (k := 1) rfl (by rw [ev8]; rfl) (by decide) rfl (fun ls hl => ?_)
        refine lv_goto (tgt := 25) hx hb dX9_restore_64 (by decide) ?_
        exact ihk4 _ hf _ _ _ (lv_sub hl [1, 0] rfl) hP hS
      · have hf := ifT hb6 hf
        refine lv_aload_n hx hb dX9_restore_41 rfl (lv_at hl 0 rfl) ?_
        refine zg_X9_53 hx hb C hP (by decide) lay_81 rfl dX9_restore_42 ?_
        refine lv_iload_n hx hb dX9_restore_45 rfl (lv_at hl 1 rfl) ?_
        obtain ⟨hc8, hf⟩ := chk_some hf
        refine zz_iald hx hb C hP (by decide) lay_92 (inb_vp hc8) dX9_restore_46 ?_
        refine lv_aload_n hx hb dX9_restore_47 rfl (lv_at hl 0 rfl) ?_
        refine zg_X9_96 hx hb C hP (by decide) lay_81 rfl dX9_restore_48 ?_
        refine lv_icmp_lt (tgt := 61) hx hb dX9_restore_51 (by decide) (fun hb9 => ?_) (fun hb9 => ?_)
        · have hf := ifT hb9 hf
          obtain ⟨v11, ev11⟩ : ∃ z : Int32, z = q3.1 + 1 := ⟨_, rfl⟩
          have hf := bnd_at v11 ev11 hf
          refine lv_iinc (v := v11) (lv' := [(1, .int v11), (0, .ref (a 81))]) hx hb dX9_restore_61 hl (k := 1) rfl (by rw [ev11]; rfl) (by decide) rfl (fun ls hl => ?_)
          refine lv_goto (tgt := 25) hx hb dX9_restore_64 (by decide) ?_
          exact ihk4 _ hf _ _ _ (lv_sub hl [1, 0] rfl) hP hS
        · have hf := ifF hb9 hf
          refine lv_aload_n hx hb dX9_restore_54 rfl (lv_at hl 0 rfl) ?_
          refine zg_X9_44 hx hb C hP (by decide) lay_81 rfl dX9_restore_55 ?_
          refine lv_iload_n hx hb dX9_restore_58 rfl (lv_at hl 1 rfl) ?_
          refine lv_iconst (v := 0) hx hb dX9_restore_59 (by decide) ?_
          obtain ⟨hc11, hf⟩ := chk_some hf
          refine zz_iast hx hb C hP hS (by decide) lay_89 (inb_vp hc11) dX9_restore_60 (fun σ13 eσ13 H locs hP hS => ?_)
          have hf := bnd_at σ13 eσ13 hf
          obtain ⟨v14, ev14⟩ : ∃ z : Int32, z = q3.1 + 1 := ⟨_, rfl⟩
          have hf := bnd_at v14 ev14 hf
          refine lv_iinc (v := v14) (lv' := [(1, .int v14), (0, .ref (a 81))]) hx hb dX9_restore_61 hl (k := 1) rfl (by rw [ev14]; rfl) (by decide) rfl (fun ls hl => ?_)
          refine lv_goto (tgt := 25) hx hb dX9_restore_64 (by decide) ?_
          exact ihk4 _ hf _ _ _ (lv_sub hl [1, 0] rfl) hP hS
  · have hf := ifT hb0 hf
    refine lv_aload_n hx hb dX9_restore_7 rfl (lv_at hl 0 rfl) ?_
    refine lv_bipush (v := (-6)) hx hb dX9_restore_8 (by decide) ?_
    obtain ⟨u15, hzu15, hf⟩ := obd_some hf
    refine zz_callVi (rest := []) hx hb hml C hP hS (c_X9_no l hDA (-6) hzu15) zw_X9_107 ⟨Nat.le_trans (Nat.le_of_ble_eq_true rfl) hRf, Nat.le_trans (Nat.le_of_ble_eq_true rfl) hRl⟩ (by decide) lay_81 rfl rfl hl.1 (Nat.le_of_ble_eq_true rfl) ⟨Nat.zero_le _, Nat.zero_le _⟩ rfl dX9_restore_10 (fun H locs hP hS => ?_)
    have hf := Option.some.inj hf
    subst hf
    exact hQ _ _ _ _ dX9_restore_13 hP hS
set_option maxHeartbeats 4000000 in
set_option maxRecDepth 100000 in
theorem c_X9_status (l : Launch) {D : va_G} {a : Nat → Nat} {cA : Nat → ClassId} {A : Nat → Prop} {sa : Nat → Nat} (hDA : DA a A) {σ : PH} {d : PD} (p1 : Int32) {u : Int32} (hf : f_X9_status σ p1 = some u) : CTi l yX9_status cX9_status 2 (some .int) 0 0 D a cA A sa [.ref (a 81), .int p1] σ d u σ d := by
  refine zz_metI zpl_X9 hDA (Nat.le_of_ble_eq_true rfl) ?_
  intro p e R s m args below meth c Q ls hx hb hml C hRf hRl hQ hP hS hl
  have hl : lv_has ls 2 [(0, .ref (a 81)), (1, .int p1)] := hl
  unfold f_X9_status at hf
  refine lv_iload_n hx hb dX9_status_0 rfl (lv_at hl 1 rfl) ?_
  refine lv_bipush (v := 11) hx hb dX9_status_1 (by decide) ?_
  have hJ22 : j_X9_status_22 σ p1 = some u → ∀ (H : Heap) (locs : List Loc) (ls : Array Slot), lv_has ls 2 [(0, .ref (a 81)), (1, .int p1)] → va_P D vwCl (wl a cA σ d) H → va_S A s.heap H locs → W p l e R s m args below meth c H locs 0 0 Q (F0 m 22 ls []) := by
    intro  hf H locs ls hl hP hS
    unfold j_X9_status_22 at hf
    refine lv_iload_n hx hb dX9_status_22 rfl (lv_at hl 1 rfl) ?_
    by_cases hb0 : p1 = 0
    · have hf := ifT hb0 hf
      refine lv_tableIn (tgt := 72) hx hb dX9_status_23 (by rw [hb0]; decide) (by rw [hb0]; decide) (by rw [hb0]; rfl) (by decide) ?_
      refine lv_aload_n hx hb dX9_status_72 rfl (lv_at hl 0 rfl) ?_
      refine zg_X9_96 hx hb C hP (by decide) lay_81 rfl dX9_status_73 ?_
      have hf := Option.some.inj hf
      subst hf
      exact hQ _ _ _ _ dX9_status_76 hP hS
    have hf := ifF hb0 hf
    by_cases hb1 : p1 = 1
    · have hf := ifT hb1 hf
      refine lv_tableIn (tgt := 77) hx hb dX9_status_23 (by rw [hb1]; decide) (by rw [hb1]; decide) (by rw [hb1]; rfl) (by decide) ?_
      refine lv_aload_n hx hb dX9_status_77 rfl (lv_at hl 0 rfl) ?_
      refine zg_X9_7 hx hb C hP (by decide) lay_81 rfl dX9_status_78 ?_
      have hf := Option.some.inj hf
      subst hf
      exact hQ _ _ _ _ dX9_status_81 hP hS
    have hf := ifF hb1 hf
    by_cases hb2 : p1 = 2
    · have hf := ifT hb2 hf
      refine lv_tableIn (tgt := 82) hx hb dX9_status_23 (by rw [hb2]; decide) (by rw [hb2]; decide) (by rw [hb2]; rfl) (by decide) ?_
      refine lv_aload_n hx hb dX9_status_82 rfl (lv_at hl 0 rfl) ?_
      refine zg_X9_13 hx hb C hP (by decide) lay_81 rfl dX9_status_83 ?_
      have hf := Option.some.inj hf
      subst hf
      exact hQ _ _ _ _ dX9_status_86 hP hS
    have hf := ifF hb2 hf
    by_cases hb3 : p1 = 3
    · have hf := ifT hb3 hf
      refine lv_tableIn (tgt := 87) hx hb dX9_status_23 (by rw [hb3]; decide) (by rw [hb3]; decide) (by rw [hb3]; rfl) (by decide) ?_
      refine lv_aload_n hx hb dX9_status_87 rfl (lv_at hl 0 rfl) ?_
      refine zg_X9_136 hx hb C hP (by decide) lay_81 rfl dX9_status_88 ?_
      have hf := Option.some.inj hf
      subst hf
      exact hQ _ _ _ _ dX9_status_91 hP hS
    have hf := ifF hb3 hf
    by_cases hb4 : p1 = 4
    · have hf := ifT hb4 hf
      refine lv_tableIn (tgt := 92) hx hb dX9_status_23 (by rw [hb4]; decide) (by rw [hb4]; decide) (by rw [hb4]; rfl) (by decide) ?_
      refine lv_aload_n hx hb dX9_status_92 rfl (lv_at hl 0 rfl) ?_
      refine zg_X9_139 hx hb C hP (by decide) lay_81 rfl dX9_status_93 ?_
      have hf := Option.some.inj hf
      subst hf
      exact hQ _ _ _ _ dX9_status_96 hP hS
    have hf := ifF hb4 hf
    by_cases hb5 : p1 = 5
    · have hf := ifT hb5 hf
      refine lv_tableIn (tgt := 97) hx hb dX9_status_23 (by rw [hb5]; decide) (by rw [hb5]; decide) (by rw [hb5]; rfl) (by decide) ?_
      refine lv_aload_n hx hb dX9_status_97 rfl (lv_at hl 0 rfl) ?_
      refine zg_X9_123 hx hb C hP (by decide) lay_81 rfl dX9_status_98 ?_
      have hf := Option.some.inj hf
      subst hf
      exact hQ _ _ _ _ dX9_status_101 hP hS
    have hf := ifF hb5 hf
    by_cases hb6 : p1 = 6
    · have hf := ifT hb6 hf
      refine lv_tableIn (tgt := 102) hx hb dX9_status_23 (by rw [hb6]; decide) (by rw [hb6]; decide) (by rw [hb6]; rfl) (by decide) ?_
      refine lv_aload_n hx hb dX9_status_102 rfl (lv_at hl 0 rfl) ?_
      refine zg_X9_120 hx hb C hP (by decide) lay_81 rfl dX9_status_103 ?_
      have hf := Option.some.inj hf
      subst hf
      exact hQ _ _ _ _ dX9_status_106 hP hS
    have hf := ifF hb6 hf
    by_cases hb7 : p1 = 7
    · have hf := ifT hb7 hf
      refine lv_tableIn (tgt := 107) hx hb dX9_status_23 (by rw [hb7]; decide) (by rw [hb7]; decide) (by rw [hb7]; rfl) (by decide) ?_
      refine lv_aload_n hx hb dX9_status_107 rfl (lv_at hl 0 rfl) ?_
      refine zg_X9_16 hx hb C hP (by decide) lay_81 rfl dX9_status_108 ?_
      have hf := Option.some.inj hf
      subst hf
      exact hQ _ _ _ _ dX9_status_111 hP hS
    have hf := ifF hb7 hf
    by_cases hb8 : p1 = 8
    · have hf := ifT hb8 hf
      refine lv_tableIn (tgt := 112) hx hb dX9_status_23 (by rw [hb8]; decide) (by rw [hb8]; decide) (by rw [hb8]; rfl) (by decide) ?_
      refine lv_aload_n hx hb dX9_status_112 rfl (lv_at hl 0 rfl) ?_
      refine zg_X9_310 hx hb C hP (by decide) lay_81 rfl dX9_status_113 ?_
      have hf := Option.some.inj hf
      subst hf
      exact hQ _ _ _ _ dX9_status_116 hP hS
    have hf := ifF hb8 hf
    refine lv_tableOut (tgt := 117) hx hb dX9_status_23 (sw_0_8 hb0 hb1 hb2 hb3 hb4 hb5 hb6 hb7 hb8) (by decide) ?_
    refine lv_iconst (v := (-1)) hx hb dX9_status_117 (by decide) ?_
    have hf := Option.some.inj hf
    subst hf
    exact hQ _ _ _ _ dX9_status_118 hP hS
  refine lv_icmp_lt (tgt := 22) hx hb dX9_status_3 (by decide) (fun hb9 => ?_) (fun hb9 => ?_)
  · have hf := ifT hb9 hf
    exact hJ22  hf _ _ _ (lv_sub hl [0, 1] rfl) hP hS
  · have hf := ifF hb9 hf
    refine lv_iload_n hx hb dX9_status_6 rfl (lv_at hl 1 rfl) ?_
    refine lv_bipush (v := 17) hx hb dX9_status_7 (by decide) ?_
    refine lv_icmp_gt (tgt := 22) hx hb dX9_status_9 (by decide) (fun hb10 => ?_) (fun hb10 => ?_)
    · have hf := ifT hb10 hf
      exact hJ22  hf _ _ _ (lv_sub hl [0, 1] rfl) hP hS
    · have hf := ifF hb10 hf
      refine lv_aload_n hx hb dX9_status_12 rfl (lv_at hl 0 rfl) ?_
      refine zg_X9_22 hx hb C hP (by decide) lay_81 rfl dX9_status_13 ?_
      refine lv_iload_n hx hb dX9_status_16 rfl (lv_at hl 1 rfl) ?_
      refine lv_bipush (v := 10) hx hb dX9_status_17 (by decide) ?_
      refine lv_isub hx hb dX9_status_19 ?_
      obtain ⟨hc11, hf⟩ := chk_some hf
      refine zz_iald hx hb C hP (by decide) lay_82 (inb_vp hc11) dX9_status_20 ?_
      have hf := Option.some.inj hf
      subst hf
      exact hQ _ _ _ _ dX9_status_21 hP hS
