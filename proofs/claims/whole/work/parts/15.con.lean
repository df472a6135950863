set_option maxHeartbeats 4000000 in
set_option maxRecDepth 100000 in
theorem c_X9_singer (l : Launch) {D : va_G} {a : Nat → Nat} {cA : Nat → ClassId} {A : Nat → Prop} {sa : Nat → Nat} (hDA : DA a A) {σ : PH} {d : PD} (p1 : Int32) (p2 : Int32) (p3 : Int32) {u : Int32 × PH} (hf : f_X9_singer σ p1 p2 p3 = some u) : CTi l yX9_singer cX9_singer 4 (some .int) 2 43 D a cA A sa [.ref (a 81), .int p1, .int p2, .int p3] σ d u.1 u.2 d := by
  refine zz_metI zpl_X9 hDA (Nat.le_of_ble_eq_true rfl) ?_
  intro p e R s m args below meth c Q ls hx hb hml C hRf hRl hQ hP hS hl
  have hl : lv_has ls 4 [(0, .ref (a 81)), (1, .int p1), (2, .int p2), (3, .int p3)] := hl
  unfold f_X9_singer at hf
  refine lv_iload_n hx hb dX9_singer_0 rfl (lv_at hl 1 rfl) ?_
  refine lv_if_lt (tgt := 10) hx hb dX9_singer_1 (by decide) (fun hb0 => ?_) (fun hb0 => ?_)
  · have hf := ifT hb0 hf
    refine lv_aload_n hx hb dX9_singer_10 rfl (lv_at hl 0 rfl) ?_
    refine lv_iconst (v := (-1)) hx hb dX9_singer_11 (by decide) ?_
    obtain ⟨u2, hzu2, hf⟩ := obd_some hf
    refine zz_callVi (rest := []) hx hb hml C hP hS (c_X9_no l hDA (-1) hzu2) zw_X9_107 ⟨Nat.le_trans (Nat.le_of_ble_eq_true rfl) hRf, Nat.le_trans (Nat.le_of_ble_eq_true rfl) hRl⟩ (by decide) lay_81 rfl rfl hl.1 (Nat.le_of_ble_eq_true rfl) ⟨Nat.zero_le _, Nat.zero_le _⟩ rfl dX9_singer_12 (fun H locs hP hS => ?_)
    have hf := Option.some.inj hf
    subst hf
    exact hQ _ _ _ _ dX9_singer_15 hP hS
  · have hf := ifF hb0 hf
    refine lv_iload_n hx hb dX9_singer_4 rfl (lv_at hl 1 rfl) ?_
    refine lv_bipush (v := 6) hx hb dX9_singer_5 (by decide) ?_
    refine lv_icmp_le (tgt := 16) hx hb dX9_singer_7 (by decide) (fun hb2 => ?_) (fun hb2 => ?_)
    · have hf := ifT hb2 hf
      refine lv_iload_n hx hb dX9_singer_16 rfl (lv_at hl 2 rfl) ?_
      refine lv_if_lt (tgt := 37) hx hb dX9_singer_17 (by decide) (fun hb3 => ?_) (fun hb3 => ?_)
      · have hf := ifT hb3 hf
        refine lv_aload_n hx hb dX9_singer_37 rfl (lv_at hl 0 rfl) ?_
        refine lv_bipush (v := (-6)) hx hb dX9_singer_38 (by decide) ?_
        obtain ⟨u5, hzu5, hf⟩ := obd_some hf
        refine zz_callVi (rest := []) hx hb hml C hP hS (c_X9_no l hDA (-6) hzu5) zw_X9_107 ⟨Nat.le_trans (Nat.le_of_ble_eq_true rfl) hRf, Nat.le_trans (Nat.le_of_ble_eq_true rfl) hRl⟩ (by decide) lay_81 rfl rfl hl.1 (Nat.le_of_ble_eq_true rfl) ⟨Nat.zero_le _, Nat.zero_le _⟩ rfl dX9_singer_40 (fun H locs hP hS => ?_)
        have hf := Option.some.inj hf
        subst hf
        exact hQ _ _ _ _ dX9_singer_43 hP hS
      · have hf := ifF hb3 hf
        refine lv_iload_n hx hb dX9_singer_20 rfl (lv_at hl 2 rfl) ?_
        refine lv_bipush (v := 9) hx hb dX9_singer_21 (by decide) ?_
        refine lv_icmp_gt (tgt := 37) hx hb dX9_singer_23 (by decide) (fun hb5 => ?_) (fun hb5 => ?_)
        · have hf := ifT hb5 hf
          refine lv_aload_n hx hb dX9_singer_37 rfl (lv_at hl 0 rfl) ?_
          refine lv_bipush (v := (-6)) hx hb dX9_singer_38 (by decide) ?_
          obtain ⟨u7, hzu7, hf⟩ := obd_some hf
          refine zz_callVi (rest := []) hx hb hml C hP hS (c_X9_no l hDA (-6) hzu7) zw_X9_107 ⟨Nat.le_trans (Nat.le_of_ble_eq_true rfl) hRf, Nat.le_trans (Nat.le_of_ble_eq_true rfl) hRl⟩ (by decide) lay_81 rfl rfl hl.1 (Nat.le_of_ble_eq_true rfl) ⟨Nat.zero_le _, Nat.zero_le _⟩ rfl dX9_singer_40 (fun H locs hP hS => ?_)
          have hf := Option.some.inj hf
          subst hf
          exact hQ _ _ _ _ dX9_singer_43 hP hS
        · have hf := ifF hb5 hf
          refine lv_iload_n hx hb dX9_singer_26 rfl (lv_at hl 3 rfl) ?_
          refine lv_iconst (v := 1) hx hb dX9_singer_27 (by decide) ?_
          refine lv_icmp_lt (tgt := 37) hx hb dX9_singer_28 (by decide) (fun hb7 => ?_) (fun hb7 => ?_)
          · have hf := ifT hb7 hf
            refine lv_aload_n hx hb dX9_singer_37 rfl (lv_at hl 0 rfl) ?_
            refine lv_bipush (v := (-6)) hx hb dX9_singer_38 (by decide) ?_
            obtain ⟨u9, hzu9, hf⟩ := obd_some hf
            refine zz_callVi (rest := []) hx hb hml C hP hS (c_X9_no l hDA (-6) hzu9) zw_X9_107 ⟨Nat.le_trans (Nat.le_of_ble_eq_true rfl) hRf, Nat.le_trans (Nat.le_of_ble_eq_true rfl) hRl⟩ (by decide) lay_81 rfl rfl hl.1 (Nat.le_of_ble_eq_true rfl) ⟨Nat.zero_le _, Nat.zero_le _⟩ rfl dX9_singer_40 (fun H locs hP hS => ?_)
            have hf := Option.some.inj hf
            subst hf
            exact hQ _ _ _ _ dX9_singer_43 hP hS
          · have hf := ifF hb7 hf
            refine lv_iload_n hx hb dX9_singer_31 rfl (lv_at hl 3 rfl) ?_
            refine lv_bipush (v := 9) hx hb dX9_singer_32 (by decide) ?_
            refine lv_icmp_le (tgt := 44) hx hb dX9_singer_34 (by decide) (fun hb9 => ?_) (fun hb9 => ?_)
            · have hf := ifT hb9 hf
              refine lv_aload_n hx hb dX9_singer_44 rfl (lv_at hl 0 rfl) ?_
              refine zg_X9_96 hx hb C hP (by decide) lay_81 rfl dX9_singer_45 ?_
              refine lv_bipush (v := 8) hx hb dX9_singer_48 (by decide) ?_
              refine lv_icmp_ne (tgt := 62) hx hb dX9_singer_50 (by decide) (fun hb10 => ?_) (fun hb10 => ?_)
              · have hf := ifF hb10 hf
                refine lv_aload_n hx hb dX9_singer_62 rfl (lv_at hl 0 rfl) ?_
                refine lv_iload_n hx hb dX9_singer_63 rfl (lv_at hl 1 rfl) ?_
                refine lv_iload_n hx hb dX9_singer_64 rfl (lv_at hl 2 rfl) ?_
                refine lv_iload_n hx hb dX9_singer_65 rfl (lv_at hl 3 rfl) ?_
                obtain ⟨u12, hzu12, hf⟩ := obd_some hf
                refine zz_callVi (rest := []) hx hb hml C hP hS (c_X9_adds l hDA p1 p2 p3 hzu12) zw_X9_129 ⟨Nat.le_trans (Nat.le_of_ble_eq_true rfl) hRf, Nat.le_trans (Nat.le_of_ble_eq_true rfl) hRl⟩ (by decide) lay_81 rfl rfl hl.1 (Nat.le_of_ble_eq_true rfl) ⟨Nat.zero_le _, Nat.zero_le _⟩ rfl dX9_singer_66 (fun H locs hP hS => ?_)
                have hf := Option.some.inj hf
                subst hf
                exact hQ _ _ _ _ dX9_singer_69 hP hS
              · have hf := ifT hb10 hf
                refine lv_aload_n hx hb dX9_singer_53 rfl (lv_at hl 0 rfl) ?_
                refine lv_bipush (v := (-7)) hx hb dX9_singer_54 (by decide) ?_
                obtain ⟨u13, hzu13, hf⟩ := obd_some hf
                refine zz_callVi (rest := []) hx hb hml C hP hS (c_X9_no l hDA (-7) hzu13) zw_X9_107 ⟨Nat.le_trans (Nat.le_of_ble_eq_true rfl) hRf, Nat.le_trans (Nat.le_of_ble_eq_true rfl) hRl⟩ (by decide) lay_81 rfl rfl hl.1 (Nat.le_of_ble_eq_true rfl) ⟨Nat.zero_le _, Nat.zero_le _⟩ rfl dX9_singer_56 (fun H locs hP hS => ?_)
                refine lv_goto (tgt := 69) hx hb dX9_singer_59 (by decide) ?_
                have hf := Option.some.inj hf
                subst hf
                exact hQ _ _ _ _ dX9_singer_69 hP hS
            · have hf := ifF hb9 hf
              refine lv_aload_n hx hb dX9_singer_37 rfl (lv_at hl 0 rfl) ?_
              refine lv_bipush (v := (-6)) hx hb dX9_singer_38 (by decide) ?_
              obtain ⟨u14, hzu14, hf⟩ := obd_some hf
              refine zz_callVi (rest := []) hx hb hml C hP hS (c_X9_no l hDA (-6) hzu14) zw_X9_107 ⟨Nat.le_trans (Nat.le_of_ble_eq_true rfl) hRf, Nat.le_trans (Nat.le_of_ble_eq_true rfl) hRl⟩ (by decide) lay_81 rfl rfl hl.1 (Nat.le_of_ble_eq_true rfl) ⟨Nat.zero_le _, Nat.zero_le _⟩ rfl dX9_singer_40 (fun H locs hP hS => ?_)
              have hf := Option.some.inj hf
              subst hf
              exact hQ _ _ _ _ dX9_singer_43 hP hS
    · have hf := ifF hb2 hf
      refine lv_aload_n hx hb dX9_singer_10 rfl (lv_at hl 0 rfl) ?_
      refine lv_iconst (v := (-1)) hx hb dX9_singer_11 (by decide) ?_
      obtain ⟨u15, hzu15, hf⟩ := obd_some hf
      refine zz_callVi (rest := []) hx hb hml C hP hS (c_X9_no l hDA (-1) hzu15) zw_X9_107 ⟨Nat.le_trans (Nat.le_of_ble_eq_true rfl) hRf, Nat.le_trans (Nat.le_of_ble_eq_true rfl) hRl⟩ (by decide) lay_81 rfl rfl hl.1 (Nat.le_of_ble_eq_true rfl) ⟨Nat.zero_le _, Nat.zero_le _⟩ rfl dX9_singer_12 (fun H locs hP hS => ?_)
      have hf := Option.some.inj hf
      subst hf
      exact hQ _ _ _ _ dX9_singer_15 hP hS
set_option maxHeartbeats 4000000 in
set_option maxRecDepth 100000 in
theorem c_X9_lists (l : Launch) {D : va_G} {a : Nat → Nat} {cA : Nat → ClassId} {A : Nat → Prop} {sa : Nat → Nat} (hDA : DA a A) {σ : PH} {d : PD}  {u : Int32 × PH} (hf : f_X9_lists σ = some u) : CTi l yX9_lists cX9_lists 3 (some .int) 1 23 D a cA A sa [.ref (a 81)] σ d u.1 u.2 d := by
  refine zz_metI zpl_X9 hDA (Nat.le_of_ble_eq_true rfl) ?_
  intro p e R s m args below meth c Q ls hx hb hml C hRf hRl hQ hP hS hl
  have hl : lv_has ls 3 [(0, .ref (a 81))] := hl
  unfold f_X9_lists at hf
  refine lv_aload_n hx hb dX9_lists_0 rfl (lv_at hl 0 rfl) ?_
  refine lv_iconst (v := 0) hx hb dX9_lists_1 (by decide) ?_
  refine zp_X9_227 hx hb C hP hS (by decide) lay_81 rfl dX9_lists_2 (fun σ1 eσ1 H locs hP hS => ?_)
  have hf := bnd_at σ1 eσ1 hf
  refine lv_iconst (v := 1) hx hb dX9_lists_5 (by decide) ?_
  refine lv_istore_n (lv' := [(1, .int 1), (0, .ref (a 81))]) hx hb dX9_lists_6 rfl hl (by decide) rfl (fun ls hl => ?_)
  refine loopN_ind (P := fun (q2 : Int32 × PH) => ∀ (H : Heap) (locs : List Loc) (ls : Array Slot), lv_has ls 3 [(0, .ref (a 81)), (1, .int q2.1)] → va_P D vwCl (wl a cA q2.2 d) H → va_S A s.heap H locs → W p l e R s m args below meth c H locs 0 0 Q (F0 m 7 ls [])) ?_ _ _ hf _ _ _ (lv_sub hl [1, 0] rfl) hP hS
  intro k3 ihk3 q2 hf H locs ls hl hP hS
  unfold b_X9_lists_7 at hf
  refine lv_iload_n hx hb dX9_lists_7 rfl (lv_at hl 1 rfl) ?_
  refine lv_aload_n hx hb dX9_lists_8 rfl (lv_at hl 0 rfl) ?_
  refine zg_X9_7 hx hb C hP (by decide) lay_81 rfl dX9_lists_9 ?_
  refine lv_icmp_gt (tgt := 69) hx hb dX9_lists_12 (by decide) (fun hb3 => ?_) (fun hb3 => ?_)
  · have hf := ifT hb3 hf
    refine lv_aload_n hx hb dX9_lists_69 rfl (lv_at hl 0 rfl) ?_
    refine zg_X9_227 hx hb C hP (by decide) lay_81 rfl dX9_lists_70 ?_
    have hf := Option.some.inj hf
    subst hf
    exact hQ _ _ _ _ dX9_lists_73 hP hS
  · have hf := ifF hb3 hf
    refine lv_iconst (v := 1) hx hb dX9_lists_15 (by decide) ?_
    refine lv_istore_n (lv' := [(2, .int 1), (0, .ref (a 81)), (1, .int q2.1)]) hx hb dX9_lists_16 rfl hl (by decide) rfl (fun ls hl => ?_)
    refine loopN_ind (P := fun (q5 : Int32 × PH) => ∀ (H : Heap) (locs : List Loc) (ls : Array Slot), lv_has ls 3 [(0, .ref (a 81)), (1, .int q2.1), (2, .int q5.1)] → va_P D vwCl (wl a cA q5.2 d) H → va_S A s.heap H locs → W p l e R s m args below meth c H locs 0 0 Q (F0 m 17 ls [])) ?_ _ _ hf _ _ _ (lv_sub hl [1, 2, 0] rfl) hP hS
    intro k6 ihk6 q5 hf H locs ls hl hP hS
    unfold b_X9_lists_17 at hf
    refine lv_iload_n hx hb dX9_lists_17 rfl (lv_at hl 2 rfl) ?_
    refine lv_aload_n hx hb dX9_lists_18 rfl (lv_at hl 0 rfl) ?_
    obtain ⟨u7, hzu7⟩ : ∃ z, z = f_X9_everybody q5.2 := ⟨_, rfl⟩
    have hf := bnd_at u7 hzu7 hf
    refine zz_callVi (rest := [.int q5.1]) hx hb hml C hP hS (c_X9_everybody l hDA  hzu7.symm) zw_X9_99 ⟨Nat.le_trans (Nat.le_of_ble_eq_true rfl) hRf, Nat.le_trans (Nat.le_of_ble_eq_true rfl) hRl⟩ (by decide) lay_81 rfl rfl hl.1 (Nat.le_of_ble_eq_true rfl) ⟨Nat.zero_le _, Nat.zero_le _⟩ rfl dX9_lists_19 (fun H locs hP hS => ?_)
    refine lv_icmp_gt (tgt := 63) hx hb dX9_lists_22 (by decide) (fun hb7 => ?_) (fun hb7 => ?_)
    · have hf := ifT hb7 hf
      obtain ⟨v9, ev9⟩ : ∃ z : Int32, z = q2.1 + 1 := ⟨_, rfl⟩
      have hf := bnd_at v9 ev9 hf
      refine lv_iinc (v := v9) (lv' := [(1, .int v9), (0, .ref (a 81)), (2, .int q5.1)]) hx hb dX9_lists_63 hl (k := 1) rfl (by rw [ev9]; rfl) (by decide) rfl (fun ls hl => ?_)
      refine lv_goto (tgt := 7) hx hb dX9_lists_66 (by decide) ?_
      exact ihk3 _ hf _ _ _ (lv_sub hl [1, 0] rfl) hP hS
    · have hf := ifF hb7 hf
      refine lv_aload_n hx hb dX9_lists_25 rfl (lv_at hl 0 rfl) ?_
      refine lv_iload_n hx hb dX9_lists_26 rfl (lv_at hl 2 rfl) ?_
      obtain ⟨u10, hzu10, hf⟩ := obd_some hf
      refine zz_callVi (rest := []) hx hb hml C hP hS (c_X9_count l hDA q5.1 hzu10) zw_X9_221 ⟨Nat.le_trans (Nat.le_of_ble_eq_true rfl) hRf, Nat.le_trans (Nat.le_of_ble_eq_true rfl) hRl⟩ (by decide) lay_81 rfl rfl hl.1 (Nat.le_of_ble_eq_true rfl) ⟨Nat.zero_le _, Nat.zero_le _⟩ rfl dX9_lists_27 (fun H locs hP hS => ?_)
      refine lv_iload_n hx hb dX9_lists_30 rfl (lv_at hl 1 rfl) ?_
      refine lv_icmp_eq (tgt := 37) hx hb dX9_lists_31 (by decide) (fun hb10 => ?_) (fun hb10 => ?_)
      · have hf := ifT hb10 hf
        refine lv_aload_n hx hb dX9_lists_37 rfl (lv_at hl 0 rfl) ?_
        refine zg_X9_78 hx hb C hP (by decide) lay_81 rfl dX9_lists_38 ?_
        refine lv_aload_n hx hb dX9_lists_41 rfl (lv_at hl 0 rfl) ?_
        refine zg_X9_227 hx hb C hP (by decide) lay_81 rfl dX9_lists_42 ?_
        refine lv_iload_n hx hb dX9_lists_45 rfl (lv_at hl 2 rfl) ?_
        obtain ⟨hc11, hf⟩ := chk_some hf
        refine zz_iast hx hb C hP hS (by decide) lay_100 (inb_vp hc11) dX9_lists_46 (fun σ13 eσ13 H locs hP hS => ?_)
        have hf := bnd_at σ13 eσ13 hf
        refine lv_aload_n hx hb dX9_lists_47 rfl (lv_at hl 0 rfl) ?_
        refine lv_dup hx hb dX9_lists_48 rfl ?_
        refine zg_X9_227 hx hb C hP (by decide) lay_81 rfl dX9_lists_49 ?_
        refine lv_iconst (v := 1) hx hb dX9_lists_52 (by decide) ?_
        refine lv_iadd hx hb dX9_lists_53 ?_
        refine zp_X9_227 hx hb C hP hS (by decide) lay_81 rfl dX9_lists_54 (fun σ14 eσ14 H locs hP hS => ?_)
        have hf := bnd_at σ14 eσ14 hf
        obtain ⟨v15, ev15⟩ : ∃ z : Int32, z = q5.1 + 1 := ⟨_, rfl⟩
        have hf := bnd_at v15 ev15 hf
        refine lv_iinc (v := v15) (lv' := [(2, .int v15), (0, .ref (a 81)), (1, .int q2.1)]) hx hb dX9_lists_57 hl (k := 2) rfl (by rw [ev15]; rfl) (by decide) rfl (fun ls hl => ?_)
        refine lv_goto (tgt := 17) hx hb dX9_lists_60 (by decide) ?_
        exact ihk6 _ hf _ _ _ (lv_sub hl [1, 2, 0] rfl) hP hS
      · have hf := ifF hb10 hf
        refine lv_goto (tgt := 57) hx hb dX9_lists_34 (by decide) ?_
        obtain ⟨v16, ev16⟩ : ∃ z : Int32, z = q5.1 + 1 := ⟨_, rfl⟩
        have hf := bnd_at v16 ev16 hf
        refine lv_iinc (v := v16) (lv' := [(2, .int v16), (0, .ref (a 81)), (1, .int q2.1)]) hx hb dX9_lists_57 hl (k := 2) rfl (by rw [ev16]; rfl) (by decide) rfl (fun ls hl => ?_)
        refine lv_goto (tgt := 17) hx hb dX9_lists_60 (by decide) ?_
        exact ihk6 _ hf _ _ _ (lv_sub hl [1, 2, 0] rfl) hP hS
set_option maxHeartbeats 4000000 in
set_option maxRecDepth 100000 in
theorem c_X9_holdsUp (l : Launch) {D : va_G} {a : Nat → Nat} {cA : Nat → ClassId} {A : Nat → Prop} {sa : Nat → Nat} (hDA : DA a A) {σ : PH} {d : PD} (p1 : Int32) (p2 : Int32) (p3 : Int32) {u : Int32} (hf : f_X9_holdsUp σ p1 p2 p3 = some u) : CTi l yX9_holdsUp cX9_holdsUp 5 (some .boolean) 1 22 D a cA A sa [.ref (a 81), .int p1, .int p2, .int p3] σ d u σ d := by
  refine zz_metZ zpl_X9 hDA (Nat.le_of_ble_eq_true rfl) ?_
  intro p e R s m args below meth c Q ls hx hb hml C hRf hRl hQ hP hS hl
  have hl : lv_has ls 5 [(0, .ref (a 81)), (1, .int p1), (2, .int p2), (3, .int p3)] := hl
  unfold f_X9_holdsUp at hf
  refine lv_aload_n hx hb dX9_holdsUp_0 rfl (lv_at hl 0 rfl) ?_
  refine lv_iload_n hx hb dX9_holdsUp_1 rfl (lv_at hl 1 rfl) ?_
  obtain ⟨u1, hzu1, hf⟩ := obd_some hf
  refine zz_callVi (rest := []) hx hb hml C hP hS (c_X9_who l hDA p1 hzu1) zw_X9_114 ⟨Nat.le_trans (Nat.le_of_ble_eq_true rfl) hRf, Nat.le_trans (Nat.le_of_ble_eq_true rfl) hRl⟩ (by decide) lay_81 rfl rfl hl.1 (Nat.le_of_ble_eq_true rfl) ⟨Nat.zero_le _, Nat.zero_le _⟩ rfl dX9_holdsUp_2 (fun H locs hP hS => ?_)
  refine lv_istore (lv' := [(4, .int u1), (0, .ref (a 81)), (1, .int p1), (2, .int p2), (3, .int p3)]) hx hb dX9_holdsUp_5 hl (by decide) rfl (fun ls hl => ?_)
  refine lv_iload hx hb dX9_holdsUp_7 (lv_at hl 0 rfl) ?_
  refine lv_iconst (v := (-1)) hx hb dX9_holdsUp_9 (by decide) ?_
  refine lv_icmp_eq (tgt := 37) hx hb dX9_holdsUp_10 (by decide) (fun hb1 => ?_) (fun hb1 => ?_)
  · have hf := ifT hb1 hf
    refine lv_iconst (v := 0) hx hb dX9_holdsUp_37 (by decide) ?_
    have hf := Option.some.inj hf
    subst hf
    exact hQ _ _ _ _ dX9_holdsUp_38 (show narrow .boolean (.int 0) = .int 0 from rfl) hP hS
  · have hf := ifF hb1 hf
    refine lv_aload_n hx hb dX9_holdsUp_13 rfl (lv_at hl 1 rfl) ?_
    refine lv_iload_n hx hb dX9_holdsUp_14 rfl (lv_at hl 3 rfl) ?_
    refine lv_iload hx hb dX9_holdsUp_15 (lv_at hl 0 rfl) ?_
    obtain ⟨u3, hzu3⟩ : ∃ z, z = f_X9_isIn p2 u1 := ⟨_, rfl⟩
    have hf := bnd_at u3 hzu3 hf
    refine zz_callVi (rest := []) hx hb hml C hP hS (c_X9_isIn l hDA p2 u1 hzu3.symm) zw_X9_214 ⟨Nat.le_trans (Nat.le_of_ble_eq_true rfl) hRf, Nat.le_trans (Nat.le_of_ble_eq_true rfl) hRl⟩ (by decide) lay_81 rfl rfl hl.1 (Nat.le_of_ble_eq_true rfl) ⟨Nat.zero_le _, Nat.zero_le _⟩ rfl dX9_holdsUp_17 (fun H locs hP hS => ?_)
    refine lv_if_eq (tgt := 37) hx hb dX9_holdsUp_20 (by decide) (fun hb3 => ?_) (fun hb3 => ?_)
    · have hf := ifT hb3 hf
      refine lv_iconst (v := 0) hx hb dX9_holdsUp_37 (by decide) ?_
      have hf := Option.some.inj hf
      subst hf
      exact hQ _ _ _ _ dX9_holdsUp_38 (show narrow .boolean (.int 0) = .int 0 from rfl) hP hS
    · have hf := ifF hb3 hf
      refine lv_aload_n hx hb dX9_holdsUp_23 rfl (lv_at hl 1 rfl) ?_
      refine lv_iload_n hx hb dX9_holdsUp_24 rfl (lv_at hl 4 rfl) ?_
      refine lv_iload hx hb dX9_holdsUp_25 (lv_at hl 0 rfl) ?_
      obtain ⟨u5, hzu5⟩ : ∃ z, z = f_X9_isIn p3 u1 := ⟨_, rfl⟩
      have hf := bnd_at u5 hzu5 hf
      refine zz_callVi (rest := []) hx hb hml C hP hS (c_X9_isIn l hDA p3 u1 hzu5.symm) zw_X9_214 ⟨Nat.le_trans (Nat.le_of_ble_eq_true rfl) hRf, Nat.le_trans (Nat.le_of_ble_eq_true rfl) hRl⟩ (by decide) lay_81 rfl rfl hl.1 (Nat.le_of_ble_eq_true rfl) ⟨Nat.zero_le _, Nat.zero_le _⟩ rfl dX9_holdsUp_27 (fun H locs hP hS => ?_)
      refine lv_if_ne (tgt := 37) hx hb dX9_holdsUp_30 (by decide) (fun hb5 => ?_) (fun hb5 => ?_)
      · have hf := ifF hb5 hf
        refine lv_iconst (v := 0) hx hb dX9_holdsUp_37 (by decide) ?_
        have hf := Option.some.inj hf
        subst hf
        exact hQ _ _ _ _ dX9_holdsUp_38 (show narrow .boolean (.int 0) = .int 0 from rfl) hP hS
      · have hf := ifT hb5 hf
        refine lv_iconst (v := 1) hx hb dX9_holdsUp_33 (by decide) ?_
        refine lv_goto (tgt := 38) hx hb dX9_holdsUp_34 (by decide) ?_
        have hf := Option.some.inj hf
        subst hf
        exact hQ _ _ _ _ dX9_holdsUp_38 (show narrow .boolean (.int 1) = .int 1 from rfl) hP hS
set_option maxHeartbeats 4000000 in
set_option maxRecDepth 100000 in
theorem c_X9_isHeard (l : Launch) {D : va_G} {a : Nat → Nat} {cA : Nat → ClassId} {A : Nat → Prop} {sa : Nat → Nat} (hDA : DA a A) {σ : PH} {d : PD} (p1 : Int32) (p2 : Int32) (p3 : Int32) {u : Int32} (hf : f_X9_isHeard σ p1 p2 p3 = some u) : CTi l yX9_isHeard cX9_isHeard 5 (some .boolean) 2 46 D a cA A sa [.ref (a 81), .int p1, .int p2, .int p3] σ d u σ d := by
  refine zz_metZ zpl_X9 hDA (Nat.le_of_ble_eq_true rfl) ?_
  intro p e R s m args below meth c Q ls hx hb hml C hRf hRl hQ hP hS hl
  have hl : lv_has ls 5 [(0, .ref (a 81)), (1, .int p1), (2, .int p2), (3, .int p3)] := hl
  unfold f_X9_isHeard at hf
  refine lv_aload_n hx hb dX9_isHeard_0 rfl (lv_at hl 0 rfl) ?_
  refine zg_X9_35 hx hb C hP (by decide) lay_81 rfl dX9_isHeard_1 ?_
  refine lv_iload_n hx hb dX9_isHeard_4 rfl (lv_at hl 1 rfl) ?_
  obtain ⟨hc0, hf⟩ := chk_some hf
  refine zz_iald hx hb C hP (by decide) lay_86 (inb_vp hc0) dX9_isHeard_5 ?_
  refine lv_topi (fun v2 ev2 => ?_)
  have hf := bnd_at v2 ev2 hf
  refine lv_istore (lv' := [(4, .int v2), (0, .ref (a 81)), (1, .int p1), (2, .int p2), (3, .int p3)]) hx hb dX9_isHeard_6 hl (by decide) rfl (fun ls hl => ?_)
  refine lv_aload_n hx hb dX9_isHeard_8 rfl (lv_at hl 1 rfl) ?_
  refine zg_X9_26 hx hb C hP (by decide) lay_81 rfl dX9_isHeard_9 ?_
  refine lv_iload_n hx hb dX9_isHeard_12 rfl (lv_at hl 2 rfl) ?_
  obtain ⟨hc2, hf⟩ := chk_some hf
  refine zz_iald hx hb C hP (by decide) lay_83 (inb_vp hc2) dX9_isHeard_13 ?_
  by_cases hb3 : (gI σ 83 p1.toNatClampNeg) = 1
  · have hf := ifT hb3 hf
    refine lv_tableIn (tgt := 52) hx hb dX9_isHeard_14 (by rw [hb3]; decide) (by rw [hb3]; decide) (by rw [hb3]; rfl) (by decide) ?_
    refine lv_aload_n hx hb dX9_isHeard_52 rfl (lv_at hl 1 rfl) ?_
    refine lv_iload hx hb dX9_isHeard_53 (lv_at hl 0 rfl) ?_
    refine lv_iconst (v := 1) hx hb dX9_isHeard_55 (by decide) ?_
    refine lv_isub hx hb dX9_isHeard_56 ?_
    refine lv_iload_n hx hb dX9_isHeard_57 rfl (lv_at hl 3 rfl) ?_
    refine lv_iload_n hx hb dX9_isHeard_58 rfl (lv_at hl 4 rfl) ?_
    obtain ⟨u5, hzu5, hf⟩ := obd_some hf
    refine zz_callVi (rest := []) hx hb hml C hP hS (c_X9_holdsUp l hDA (v2 - 1) p2 p3 hzu5) zw_X9_217 ⟨Nat.le_trans (Nat.le_of_ble_eq_true rfl) hRf, Nat.le_trans (Nat.le_of_ble_eq_true rfl) hRl⟩ (by decide) lay_81 rfl rfl hl.1 (Nat.le_of_ble_eq_true rfl) ⟨Nat.zero_le _, Nat.zero_le _⟩ rfl dX9_isHeard_59 (fun H locs hP hS => ?_)
    refine lv_if_ne (tgt := 69) hx hb dX9_isHeard_62 (by decide) (fun hb5 => ?_) (fun hb5 => ?_)
    · have hf := ifF hb5 hf
      refine lv_iconst (v := 0) hx hb dX9_isHeard_69 (by decide) ?_
      have hf := Option.some.inj hf
      subst hf
      exact hQ _ _ _ _ dX9_isHeard_70 (show narrow .boolean (.int 0) = .int 0 from rfl) hP hS
    · have hf := ifT hb5 hf
      refine lv_iconst (v := 1) hx hb dX9_isHeard_65 (by decide) ?_
      refine lv_goto (tgt := 70) hx hb dX9_isHeard_66 (by decide) ?_
      have hf := Option.some.inj hf
      subst hf
      exact hQ _ _ _ _ dX9_isHeard_70 (show narrow .boolean (.int 1) = .int 1 from rfl) hP hS
  have hf := ifF hb3 hf
  by_cases hb6 : (gI σ 83 p1.toNatClampNeg) = 2
  · have hf := ifT hb6 hf
    refine lv_tableIn (tgt := 103) hx hb dX9_isHeard_14 (by rw [hb6]; decide) (by rw [hb6]; decide) (by rw [hb6]; rfl) (by decide) ?_
    refine lv_aload_n hx hb dX9_isHeard_103 rfl (lv_at hl 1 rfl) ?_
    refine lv_iload_n hx hb dX9_isHeard_104 rfl (lv_at hl 3 rfl) ?_
    obtain ⟨u8, hzu8, hf⟩ := obd_some hf
    refine zz_callVi (rest := []) hx hb hml C hP hS (c_X9_count l hDA p2 hzu8) zw_X9_221 ⟨Nat.le_trans (Nat.le_of_ble_eq_true rfl) hRf, Nat.le_trans (Nat.le_of_ble_eq_true rfl) hRl⟩ (by decide) lay_81 rfl rfl hl.1 (Nat.le_of_ble_eq_true rfl) ⟨Nat.zero_le _, Nat.zero_le _⟩ rfl dX9_isHeard_105 (fun H locs hP hS => ?_)
    refine lv_aload_n hx hb dX9_isHeard_108 rfl (lv_at hl 1 rfl) ?_
    refine zg_X9_29 hx hb C hP (by decide) lay_81 rfl dX9_isHeard_109 ?_
    refine lv_iload_n hx hb dX9_isHeard_112 rfl (lv_at hl 2 rfl) ?_
    obtain ⟨hc8, hf⟩ := chk_some hf
    refine zz_iald hx hb C hP (by decide) lay_84 (inb_vp hc8) dX9_isHeard_113 ?_
    refine lv_iconst (v := 1) hx hb dX9_isHeard_114 (by decide) ?_
    refine lv_iadd hx hb dX9_isHeard_115 ?_
    refine lv_icmp_le (tgt := 123) hx hb dX9_isHeard_116 (by decide) (fun hb9 => ?_) (fun hb9 => ?_)
    · have hf := ifT hb9 hf
      refine lv_iconst (v := 0) hx hb dX9_isHeard_123 (by decide) ?_
      have hf := Option.some.inj hf
      subst hf
      exact hQ _ _ _ _ dX9_isHeard_124 (show narrow .boolean (.int 0) = .int 0 from rfl) hP hS
    · have hf := ifF hb9 hf
      refine lv_iconst (v := 1) hx hb dX9_isHeard_119 (by decide) ?_
      refine lv_goto (tgt := 124) hx hb dX9_isHeard_120 (by decide) ?_
      have hf := Option.some.inj hf
      subst hf
      exact hQ _ _ _ _ dX9_isHeard_124 (show narrow .boolean (.int 1) = .int 1 from rfl) hP hS
  have hf := ifF hb6 hf
  by_cases hb10 : (gI σ 83 p1.toNatClampNeg) = 3
  · have hf := ifT hb10 hf
    refine lv_tableIn (tgt := 71) hx hb dX9_isHeard_14 (by rw [hb10]; decide) (by rw [hb10]; decide) (by rw [hb10]; rfl) (by decide) ?_
    refine lv_aload_n hx hb dX9_isHeard_71 rfl (lv_at hl 1 rfl) ?_
    refine lv_iload hx hb dX9_isHeard_72 (lv_at hl 0 rfl) ?_
    refine lv_iconst (v := 1) hx hb dX9_isHeard_74 (by decide) ?_
    refine lv_isub hx hb dX9_isHeard_75 ?_
    refine lv_iload_n hx hb dX9_isHeard_76 rfl (lv_at hl 3 rfl) ?_
    refine lv_iload_n hx hb dX9_isHeard_77 rfl (lv_at hl 4 rfl) ?_
    obtain ⟨u12, hzu12, hf⟩ := obd_some hf
    refine zz_callVi (rest := []) hx hb hml C hP hS (c_X9_holdsUp l hDA (v2 - 1) p2 p3 hzu12) zw_X9_217 ⟨Nat.le_trans (Nat.le_of_ble_eq_true rfl) hRf, Nat.le_trans (Nat.le_of_ble_eq_true rfl) hRl⟩ (by decide) lay_81 rfl rfl hl.1 (Nat.le_of_ble_eq_true rfl) ⟨Nat.zero_le _, Nat.zero_le _⟩ rfl dX9_isHeard_78 (fun H locs hP hS => ?_)
    refine lv_if_ne (tgt := 101) hx hb dX9_isHeard_81 (by decide) (fun hb12 => ?_) (fun hb12 => ?_)
    · have hf := ifF hb12 hf
      refine lv_iconst (v := 0) hx hb dX9_isHeard_101 (by decide) ?_
      have hf := Option.some.inj hf
      subst hf
      exact hQ _ _ _ _ dX9_isHeard_102 (show narrow .boolean (.int 0) = .int 0 from rfl) hP hS
    · have hf := ifT hb12 hf
      refine lv_aload_n hx hb dX9_isHeard_84 rfl (lv_at hl 1 rfl) ?_
      refine lv_iload hx hb dX9_isHeard_85 (lv_at hl 0 rfl) ?_
      refine lv_iconst (v := 1) hx hb dX9_isHeard_87 (by decide) ?_
      refine lv_iadd hx hb dX9_isHeard_88 ?_
      refine lv_iload_n hx hb dX9_isHeard_89 rfl (lv_at hl 3 rfl) ?_
      refine lv_iload_n hx hb dX9_isHeard_90 rfl (lv_at hl 4 rfl) ?_
      obtain ⟨u14, hzu14, hf⟩ := obd_some hf
      refine zz_callVi (rest := []) hx hb hml C hP hS (c_X9_holdsUp l hDA (v2 + 1) p2 p3 hzu14) zw_X9_217 ⟨Nat.le_trans (Nat.le_of_ble_eq_true rfl) hRf, Nat.le_trans (Nat.le_of_ble_eq_true rfl) hRl⟩ (by decide) lay_81 rfl rfl hl.1 (Nat.le_of_ble_eq_true rfl) ⟨Nat.zero_le _, Nat.zero_le _⟩ rfl dX9_isHeard_91 (fun H locs hP hS => ?_)
      refine lv_if_ne (tgt := 101) hx hb dX9_isHeard_94 (by decide) (fun hb14 => ?_) (fun hb14 => ?_)
      · have hf := ifF hb14 hf
        refine lv_iconst (v := 0) hx hb dX9_isHeard_101 (by decide) ?_
        have hf := Option.some.inj hf
        subst hf
        exact hQ _ _ _ _ dX9_isHeard_102 (show narrow .boolean (.int 0) = .int 0 from rfl) hP hS
      · have hf := ifT hb14 hf
        refine lv_iconst (v := 1) hx hb dX9_isHeard_97 (by decide) ?_
        refine lv_goto (tgt := 102) hx hb dX9_isHeard_98 (by decide) ?_
        have hf := Option.some.inj hf
        subst hf
        exact hQ _ _ _ _ dX9_isHeard_102 (show narrow .boolean (.int 1) = .int 1 from rfl) hP hS
  have hf := ifF hb10 hf
  by_cases hb15 : (gI σ 83 p1.toNatClampNeg) = 4
  · have hf := ifT hb15 hf
    refine lv_tableIn (tgt := 163) hx hb dX9_isHeard_14 (by rw [hb15]; decide) (by rw [hb15]; decide) (by rw [hb15]; rfl) (by decide) ?_
    refine lv_iconst (v := 0) hx hb dX9_isHeard_163 (by decide) ?_
    have hf := Option.some.inj hf
    subst hf
    exact hQ _ _ _ _ dX9_isHeard_164 (show narrow .boolean (.int 0) = .int 0 from rfl) hP hS
  have hf := ifF hb15 hf
  by_cases hb16 : (gI σ 83 p1.toNatClampNeg) = 5
  · have hf := ifT hb16 hf
    refine lv_tableIn (tgt := 125) hx hb dX9_isHeard_14 (by rw [hb16]; decide) (by rw [hb16]; decide) (by rw [hb16]; rfl) (by decide) ?_
    refine lv_aload_n hx hb dX9_isHeard_125 rfl (lv_at hl 1 rfl) ?_
    refine lv_iload_n hx hb dX9_isHeard_126 rfl (lv_at hl 3 rfl) ?_
    obtain ⟨u18, hzu18, hf⟩ := obd_some hf
    refine zz_callVi (rest := []) hx hb hml C hP hS (c_X9_count l hDA p2 hzu18) zw_X9_221 ⟨Nat.le_trans (Nat.le_of_ble_eq_true rfl) hRf, Nat.le_trans (Nat.le_of_ble_eq_true rfl) hRl⟩ (by decide) lay_81 rfl rfl hl.1 (Nat.le_of_ble_eq_true rfl) ⟨Nat.zero_le _, Nat.zero_le _⟩ rfl dX9_isHeard_127 (fun H locs hP hS => ?_)
    refine lv_aload_n hx hb dX9_isHeard_130 rfl (lv_at hl 1 rfl) ?_
    refine zg_X9_29 hx hb C hP (by decide) lay_81 rfl dX9_isHeard_131 ?_
    refine lv_iload_n hx hb dX9_isHeard_134 rfl (lv_at hl 2 rfl) ?_
    obtain ⟨hc18, hf⟩ := chk_some hf
    refine zz_iald hx hb C hP (by decide) lay_84 (inb_vp hc18) dX9_isHeard_135 ?_
    refine lv_iconst (v := 1) hx hb dX9_isHeard_136 (by decide) ?_
    refine lv_iadd hx hb dX9_isHeard_137 ?_
    refine lv_icmp_le (tgt := 161) hx hb dX9_isHeard_138 (by decide) (fun hb19 => ?_) (fun hb19 => ?_)
    · have hf := ifT hb19 hf
      refine lv_iconst (v := 0) hx hb dX9_isHeard_161 (by decide) ?_
      have hf := Option.some.inj hf
      subst hf
      exact hQ _ _ _ _ dX9_isHeard_162 (show narrow .boolean (.int 0) = .int 0 from rfl) hP hS
    · have hf := ifF hb19 hf
      refine lv_iload hx hb dX9_isHeard_141 (lv_at hl 0 rfl) ?_
      refine lv_if_le (tgt := 161) hx hb dX9_isHeard_143 (by decide) (fun hb20 => ?_) (fun hb20 => ?_)
      · have hf := ifT hb20 hf
        refine lv_iconst (v := 0) hx hb dX9_isHeard_161 (by decide) ?_
        have hf := Option.some.inj hf
        subst hf
        exact hQ _ _ _ _ dX9_isHeard_162 (show narrow .boolean (.int 0) = .int 0 from rfl) hP hS
      · have hf := ifF hb20 hf
        refine lv_iload hx hb dX9_isHeard_146 (lv_at hl 0 rfl) ?_
        refine lv_aload_n hx hb dX9_isHeard_148 rfl (lv_at hl 1 rfl) ?_
        refine zg_X9_96 hx hb C hP (by decide) lay_81 rfl dX9_isHeard_149 ?_
        refine lv_iconst (v := 1) hx hb dX9_isHeard_152 (by decide) ?_
        refine lv_isub hx hb dX9_isHeard_153 ?_
        refine lv_icmp_ge (tgt := 161) hx hb dX9_isHeard_154 (by decide) (fun hb21 => ?_) (fun hb21 => ?_)
        · have hf := ifT hb21 hf
          refine lv_iconst (v := 0) hx hb dX9_isHeard_161 (by decide) ?_
          have hf := Option.some.inj hf
          subst hf
          exact hQ _ _ _ _ dX9_isHeard_162 (show narrow .boolean (.int 0) = .int 0 from rfl) hP hS
        · have hf := ifF hb21 hf
          refine lv_iconst (v := 1) hx hb dX9_isHeard_157 (by decide) ?_
          refine lv_goto (tgt := 162) hx hb dX9_isHeard_158 (by decide) ?_
          have hf := Option.some.inj hf
          subst hf
          exact hQ _ _ _ _ dX9_isHeard_162 (show narrow .boolean (.int 1) = .int 1 from rfl) hP hS
  have hf := ifF hb16 hf
  by_cases hb22 : (gI σ 83 p1.toNatClampNeg) = 6
  · have hf := ifT hb22 hf
    refine lv_tableIn (tgt := 165) hx hb dX9_isHeard_14 (by rw [hb22]; decide) (by rw [hb22]; decide) (by rw [hb22]; rfl) (by decide) ?_
    refine lv_iload_n hx hb dX9_isHeard_165 rfl (lv_at hl 3 rfl) ?_
    refine lv_aload_n hx hb dX9_isHeard_166 rfl (lv_at hl 1 rfl) ?_
    obtain ⟨u24, hzu24⟩ : ∃ z, z = f_X9_everybody σ := ⟨_, rfl⟩
    have hf := bnd_at u24 hzu24 hf
    refine zz_callVi (rest := [.int p2]) hx hb hml C hP hS (c_X9_everybody l hDA  hzu24.symm) zw_X9_99 ⟨Nat.le_trans (Nat.le_of_ble_eq_true rfl) hRf, Nat.le_trans (Nat.le_of_ble_eq_true rfl) hRl⟩ (by decide) lay_81 rfl rfl hl.1 (Nat.le_of_ble_eq_true rfl) ⟨Nat.zero_le _, Nat.zero_le _⟩ rfl dX9_isHeard_167 (fun H locs hP hS => ?_)
    refine lv_icmp_ne (tgt := 177) hx hb dX9_isHeard_170 (by decide) (fun hb24 => ?_) (fun hb24 => ?_)
    · have hf := ifF hb24 hf
      refine lv_iconst (v := 0) hx hb dX9_isHeard_177 (by decide) ?_
      have hf := Option.some.inj hf
      subst hf
      exact hQ _ _ _ _ dX9_isHeard_178 (show narrow .boolean (.int 0) = .int 0 from rfl) hP hS
    · have hf := ifT hb24 hf
      refine lv_iconst (v := 1) hx hb dX9_isHeard_173 (by decide) ?_
      refine lv_goto (tgt := 178) hx hb dX9_isHeard_174 (by decide) ?_
      have hf := Option.some.inj hf
      subst hf
      exact hQ _ _ _ _ dX9_isHeard_178 (show narrow .boolean (.int 1) = .int 1 from rfl) hP hS
  have hf := ifF hb22 hf
  refine lv_tableOut (tgt := 179) hx hb dX9_isHeard_14 (sw_1_6 hb3 hb6 hb10 hb15 hb16 hb22) (by decide) ?_
  refine lv_iconst (v := 1) hx hb dX9_isHeard_179 (by decide) ?_
  have hf := Option.some.inj hf
  subst hf
  exact hQ _ _ _ _ dX9_isHeard_180 (show narrow .boolean (.int 1) = .int 1 from rfl) hP hS
set_option maxHeartbeats 4000000 in
set_option maxRecDepth 100000 in
theorem c_X9_soundOf (l : Launch) {D : va_G} {a : Nat → Nat} {cA : Nat → ClassId} {A : Nat → Prop} {sa : Nat → Nat} (hDA : DA a A) {σ : PH} {d : PD} (p1 : Int32) (p2 : Int32) {u : Int32} (hf : f_X9_soundOf σ p1 p2 = some u) : CTi l yX9_soundOf cX9_soundOf 4 (some .int) 3 70 D a cA A sa [.ref (a 81), .int p1, .int p2] σ d u σ d := by
  refine zz_metI zpl_X9 hDA (Nat.le_of_ble_eq_true rfl) ?_
  intro p e R s m args below meth c Q ls hx hb hml C hRf hRl hQ hP hS hl
  have hl : lv_has ls 4 [(0, .ref (a 81)), (1, .int p1), (2, .int p2)] := hl
  unfold f_X9_soundOf at hf
  refine lv_iconst (v := 0) hx hb dX9_soundOf_0 (by decide) ?_
  refine lv_istore_n (lv' := [(3, .int 0), (0, .ref (a 81)), (1, .int p1), (2, .int p2)]) hx hb dX9_soundOf_1 rfl hl (by decide) rfl (fun ls hl => ?_)
  refine loopN_ind (P := fun (q1 : Int32) => ∀ (H : Heap) (locs : List Loc) (ls : Array Slot), lv_has ls 4 [(0, .ref (a 81)), (1, .int p1), (2, .int p2), (3, .int q1)] → va_P D vwCl (wl a cA σ d) H → va_S A s.heap H locs → W p l e R s m args below meth c H locs 0 0 Q (F0 m 2 ls [])) ?_ _ _ hf _ _ _ (lv_sub hl [1, 2, 3, 0] rfl) hP hS
  intro k2 ihk2 q1 hf H locs ls hl hP hS
  unfold b_X9_soundOf_2 at hf
  refine lv_iload_n hx hb dX9_soundOf_2 rfl (lv_at hl 3 rfl) ?_
  refine lv_aload_n hx hb dX9_soundOf_3 rfl (lv_at hl 0 rfl) ?_
  refine zg_X9_96 hx hb C hP (by decide) lay_81 rfl dX9_soundOf_4 ?_
  refine lv_icmp_ge (tgt := 39) hx hb dX9_soundOf_7 (by decide) (fun hb2 => ?_) (fun hb2 => ?_)
  · have hf := ifT hb2 hf
    refine lv_iconst (v := 0) hx hb dX9_soundOf_39 (by decide) ?_
    have hf := Option.some.inj hf
    subst hf
    exact hQ _ _ _ _ dX9_soundOf_40 hP hS
  · have hf := ifF hb2 hf
    refine lv_aload_n hx hb dX9_soundOf_10 rfl (lv_at hl 0 rfl) ?_
    refine lv_iload_n hx hb dX9_soundOf_11 rfl (lv_at hl 1 rfl) ?_
    refine lv_iload_n hx hb dX9_soundOf_12 rfl (lv_at hl 2 rfl) ?_
    refine lv_iand hx hb dX9_soundOf_13 ?_
    refine lv_iload_n hx hb dX9_soundOf_14 rfl (lv_at hl 3 rfl) ?_
    obtain ⟨u4, hzu4⟩ : ∃ z, z = f_X9_isIn (p1 &&& p2) q1 := ⟨_, rfl⟩
    have hf := bnd_at u4 hzu4 hf
    refine zz_callVi (rest := []) hx hb hml C hP hS (c_X9_isIn l hDA (p1 &&& p2) q1 hzu4.symm) zw_X9_214 ⟨Nat.le_trans (Nat.le_of_ble_eq_true rfl) hRf, Nat.le_trans (Nat.le_of_ble_eq_true rfl) hRl⟩ (by decide) lay_81 rfl rfl hl.1 (Nat.le_of_ble_eq_true rfl) ⟨Nat.zero_le _, Nat.zero_le _⟩ rfl dX9_soundOf_15 (fun H locs hP hS => ?_)
    refine lv_if_eq (tgt := 33) hx hb dX9_soundOf_18 (by decide) (fun hb4 => ?_) (fun hb4 => ?_)
    · have hf := ifT hb4 hf
      obtain ⟨v6, ev6⟩ : ∃ z : Int32, z = q1 + 1 := ⟨_, rfl⟩
      have hf := bnd_at v6 ev6 hf
      refine lv_iinc (v := v6) (lv' := [(3, .int v6), (0, .ref (a 81)), (1, .int p1), (2, .int p2)]) hx hb dX9_soundOf_33 hl (k := 3) rfl (by rw [ev6]; rfl) (by decide) rfl (fun ls hl => ?_)
      refine lv_goto (tgt := 2) hx hb dX9_soundOf_36 (by decide) ?_
      exact ihk2 _ hf _ _ _ (lv_sub hl [1, 2, 3, 0] rfl) hP hS
    · have hf := ifF hb4 hf
      refine lv_aload_n hx hb dX9_soundOf_21 rfl (lv_at hl 0 rfl) ?_
      refine lv_iload_n hx hb dX9_soundOf_22 rfl (lv_at hl 3 rfl) ?_
      refine lv_iload_n hx hb dX9_soundOf_23 rfl (lv_at hl 1 rfl) ?_
      refine lv_iload_n hx hb dX9_soundOf_24 rfl (lv_at hl 2 rfl) ?_
      obtain ⟨u7, hzu7, hf⟩ := obd_some hf
      refine zz_callVi (rest := []) hx hb hml C hP hS (c_X9_isHeard l hDA q1 p1 p2 hzu7) zw_X9_224 ⟨Nat.le_trans (Nat.le_of_ble_eq_true rfl) hRf, Nat.le_trans (Nat.le_of_ble_eq_true rfl) hRl⟩ (by decide) lay_81 rfl rfl hl.1 (Nat.le_of_ble_eq_true rfl) ⟨Nat.zero_le _, Nat.zero_le _⟩ rfl dX9_soundOf_25 (fun H locs hP hS => ?_)
      refine lv_if_eq (tgt := 33) hx hb dX9_soundOf_28 (by decide) (fun hb7 => ?_) (fun hb7 => ?_)
      · have hf := ifT hb7 hf
        obtain ⟨v9, ev9⟩ : ∃ z : Int32, z = q1 + 1 := ⟨_, rfl⟩
        have hf := bnd_at v9 ev9 hf
        refine lv_iinc (v := v9) (lv' := [(3, .int v9), (0, .ref (a 81)), (1, .int p1), (2, .int p2)]) hx hb dX9_soundOf_33 hl (k := 3) rfl (by rw [ev9]; rfl) (by decide) rfl (fun ls hl => ?_)
        refine lv_goto (tgt := 2) hx hb dX9_soundOf_36 (by decide) ?_
        exact ihk2 _ hf _ _ _ (lv_sub hl [1, 2, 3, 0] rfl) hP hS
      · have hf := ifF hb7 hf
        refine lv_iconst (v := 1) hx hb dX9_soundOf_31 (by decide) ?_
        have hf := Option.some.inj hf
        subst hf
        exact hQ _ _ _ _ dX9_soundOf_32 hP hS
set_option maxHeartbeats 4000000 in
set_option maxRecDepth 100000 in
theorem c_X9_stays (l : Launch) {D : va_G} {a : Nat → Nat} {cA : Nat → ClassId} {A : Nat → Prop} {sa : Nat → Nat} (hDA : DA a A) {σ : PH} {d : PD} (p1 : Int32) (p2 : Int32) (p3 : Int32) {u : Int32 × PH} (hf : f_X9_stays σ p1 p2 p3 = some u) : CTi l yX9_stays cX9_stays 6 (some .int) 4 93 D a cA A sa [.ref (a 81), .int p1, .int p2, .int p3] σ d u.1 u.2 d := by
  refine zz_metI zpl_X9 hDA (Nat.le_of_ble_eq_true rfl) ?_
  intro p e R s m args below meth c Q ls hx hb hml C hRf hRl hQ hP hS hl
  have hl : lv_has ls 6 [(0, .ref (a 81)), (1, .int p1), (2, .int p2), (3, .int p3)] := hl
  unfold f_X9_stays at hf
  refine lv_iconst (v := 0) hx hb dX9_stays_0 (by decide) ?_
  refine lv_istore (lv' := [(4, .int 0), (0, .ref (a 81)), (1, .int p1), (2, .int p2), (3, .int p3)]) hx hb dX9_stays_1 hl (by decide) rfl (fun ls hl => ?_)
  refine lv_iconst (v := 0) hx hb dX9_stays_3 (by decide) ?_
  refine lv_istore (lv' := [(5, .int 0), (4, .int 0), (0, .ref (a 81)), (1, .int p1), (2, .int p2), (3, .int p3)]) hx hb dX9_stays_4 hl (by decide) rfl (fun ls hl => ?_)
  refine loopN_ind (P := fun (q1 : Int32 × Int32 × PH) => ∀ (H : Heap) (locs : List Loc) (ls : Array Slot), lv_has ls 6 [(0, .ref (a 81)), (1, .int p1), (2, .int p2), (3, .int p3), (4, .int q1.1), (5, .int q1.2.1)] → va_P D vwCl (wl a cA q1.2.2 d) H → va_S A s.heap H locs → W p l e R s m args below meth c H locs 0 0 Q (F0 m 6 ls [])) ?_ _ _ hf _ _ _ (lv_sub hl [2, 3, 4, 5, 1, 0] rfl) hP hS
  intro k2 ihk2 q1 hf H locs ls hl hP hS
  unfold b_X9_stays_6 at hf
  refine lv_iload hx hb dX9_stays_6 (lv_at hl 5 rfl) ?_
  refine lv_iload_n hx hb dX9_stays_8 rfl (lv_at hl 1 rfl) ?_
  refine lv_icmp_ge (tgt := 54) hx hb dX9_stays_9 (by decide) (fun hb2 => ?_) (fun hb2 => ?_)
  · have hf := ifT hb2 hf
    refine lv_iload hx hb dX9_stays_54 (lv_at hl 4 rfl) ?_
    have hf := Option.some.inj hf
    subst hf
    exact hQ _ _ _ _ dX9_stays_56 hP hS
  · have hf := ifF hb2 hf
    refine lv_aload_n hx hb dX9_stays_12 rfl (lv_at hl 0 rfl) ?_
    refine lv_iload_n hx hb dX9_stays_13 rfl (lv_at hl 2 rfl) ?_
    refine lv_aload_n hx hb dX9_stays_14 rfl (lv_at hl 0 rfl) ?_
    refine zg_X9_81 hx hb C hP (by decide) lay_81 rfl dX9_stays_15 ?_
    refine lv_iload hx hb dX9_stays_18 (lv_at hl 5 rfl) ?_
    obtain ⟨hc3, hf⟩ := chk_some hf
    refine zz_iald hx hb C hP (by decide) lay_101 (inb_vp hc3) dX9_stays_20 ?_
    obtain ⟨u5, hzu5, hf⟩ := obd_some hf
    refine zz_callVi (rest := []) hx hb hml C hP hS (c_X9_soundOf l hDA p2 (gI q1.2.2 101 q1.2.1.toNatClampNeg) hzu5) zw_X9_230 ⟨Nat.le_trans (Nat.le_of_ble_eq_true rfl) hRf, Nat.le_trans (Nat.le_of_ble_eq_true rfl) hRl⟩ (by decide) lay_81 rfl rfl hl.1 (Nat.le_of_ble_eq_true rfl) ⟨Nat.zero_le _, Nat.zero_le _⟩ rfl dX9_stays_21 (fun H locs hP hS => ?_)
    refine lv_iload_n hx hb dX9_stays_24 rfl (lv_at hl 3 rfl) ?_
    refine lv_icmp_eq (tgt := 31) hx hb dX9_stays_25 (by decide) (fun hb5 => ?_) (fun hb5 => ?_)
    · have hf := ifT hb5 hf
      refine lv_aload_n hx hb dX9_stays_31 rfl (lv_at hl 0 rfl) ?_
      refine zg_X9_81 hx hb C hP (by decide) lay_81 rfl dX9_stays_32 ?_
      refine lv_iload hx hb dX9_stays_35 (lv_at hl 4 rfl) ?_
      refine lv_aload_n hx hb dX9_stays_37 rfl (lv_at hl 0 rfl) ?_
      refine zg_X9_81 hx hb C hP (by decide) lay_81 rfl dX9_stays_38 ?_
      refine lv_iload hx hb dX9_stays_41 (lv_at hl 5 rfl) ?_
      obtain ⟨hc6, hf⟩ := chk_some hf
      refine zz_iald hx hb C hP (by decide) lay_101 (inb_vp hc6) dX9_stays_43 ?_
      obtain ⟨hc7, hf⟩ := chk_some hf
      refine zz_iast hx hb C hP hS (by decide) lay_101 (inb_vp hc7) dX9_stays_44 (fun σ9 eσ9 H locs hP hS => ?_)
      have hf := bnd_at σ9 eσ9 hf
      obtain ⟨v10, ev10⟩ : ∃ z : Int32, z = q1.1 + 1 := ⟨_, rfl⟩
      have hf := bnd_at v10 ev10 hf
      refine lv_iinc (v := v10) (lv' := [(4, .int v10), (0, .ref (a 81)), (1, .int p1), (2, .int p2), (3, .int p3), (5, .int q1.2.1)]) hx hb dX9_stays_45 hl (k := 4) rfl (by rw [ev10]; rfl) (by decide) rfl (fun ls hl => ?_)
      obtain ⟨v11, ev11⟩ : ∃ z : Int32, z = q1.2.1 + 1 := ⟨_, rfl⟩
      have hf := bnd_at v11 ev11 hf
      refine lv_iinc (v := v11) (lv' := [(5, .int v11), (4, .int v10), (0, .ref (a 81)), (1, .int p1), (2, .int p2), (3, .int p3)]) hx hb dX9_stays_48 hl (k := 5) rfl (by rw [ev11]; rfl) (by decide) rfl (fun ls hl => ?_)
      refine lv_goto (tgt := 6) hx hb dX9_stays_51 (by decide) ?_
      exact ihk2 _ hf _ _ _ (lv_sub hl [2, 3, 4, 5, 1, 0] rfl) hP hS
    · have hf := ifF hb5 hf
      refine lv_goto (tgt := 48) hx hb dX9_stays_28 (by decide) ?_
      obtain ⟨v12, ev12⟩ : ∃ z : Int32, z = q1.2.1 + 1 := ⟨_, rfl⟩
      have hf := bnd_at v12 ev12 hf
      refine lv_iinc (v := v12) (lv' := [(5, .int v12), (0, .ref (a 81)), (1, .int p1), (2, .int p2), (3, .int p3), (4, .int q1.1)]) hx hb dX9_stays_48 hl (k := 5) rfl (by rw [ev12]; rfl) (by decide) rfl (fun ls hl => ?_)
      refine lv_goto (tgt := 6) hx hb dX9_stays_51 (by decide) ?_
      exact ihk2 _ hf _ _ _ (lv_sub hl [1, 2, 3, 4, 5, 0] rfl) hP hS
set_option maxHeartbeats 4000000 in
set_option maxRecDepth 100000 in
theorem c_X9_possible (l : Launch) {D : va_G} {a : Nat → Nat} {cA : Nat → ClassId} {A : Nat → Prop} {sa : Nat → Nat} (hDA : DA a A) {σ : PH} {d : PD}  {u : Int32 × PH} (hf : f_X9_possible σ = some u) : CTi l yX9_possible cX9_possible 3 (some .int) 5 118 D a cA A sa [.ref (a 81)] σ d u.1 u.2 d := by
  refine zz_metI zpl_X9 hDA (Nat.le_of_ble_eq_true rfl) ?_
  intro p e R s m args below meth c Q ls hx hb hml C hRf hRl hQ hP hS hl
  have hl : lv_has ls 3 [(0, .ref (a 81))] := hl
  unfold f_X9_possible at hf
  refine lv_aload_n hx hb dX9_possible_0 rfl (lv_at hl 0 rfl) ?_
  obtain ⟨u1, hzu1, hf⟩ := obd_some hf
  refine zz_callVi (rest := []) hx hb hml C hP hS (c_X9_lists l hDA  hzu1) zw_X9_233 ⟨Nat.le_trans (Nat.le_of_ble_eq_true rfl) hRf, Nat.le_trans (Nat.le_of_ble_eq_true rfl) hRl⟩ (by decide) lay_81 rfl rfl hl.1 (Nat.le_of_ble_eq_true rfl) ⟨Nat.zero_le _, Nat.zero_le _⟩ rfl dX9_possible_1 (fun H locs hP hS => ?_)
  refine lv_istore_n (lv' := [(1, .int u1.1), (0, .ref (a 81))]) hx hb dX9_possible_4 rfl hl (by decide) rfl (fun ls hl => ?_)
  refine lv_iconst (v := 0) hx hb dX9_possible_5 (by decide) ?_
  refine lv_istore_n (lv' := [(2, .int 0), (1, .int u1.1), (0, .ref (a 81))]) hx hb dX9_possible_6 rfl hl (by decide) rfl (fun ls hl => ?_)
  have hJ30 : ∀ (σ2 : PH), j_X9_possible_30 u1 σ2 = some u → ∀ (H : Heap) (locs : List Loc) (ls : Array Slot), lv_has ls 3 [(0, .ref (a 81)), (1, .int u1.1)] → va_P D vwCl (wl a cA σ2 d) H → va_S A s.heap H locs → W p l e R s m args below meth c H locs 0 0 Q (F0 m 30 ls []) := by
    intro σ2 hf H locs ls hl hP hS
    unfold j_X9_possible_30 at hf
    refine lv_iconst (v := 0) hx hb dX9_possible_30 (by decide) ?_
    refine lv_istore_n (lv' := [(2, .int 0), (0, .ref (a 81)), (1, .int u1.1)]) hx hb dX9_possible_31 rfl hl (by decide) rfl (fun ls hl => ?_)
    refine loopN_ind (P := fun (q3 : Int32 × Int32 × PH) => ∀ (H : Heap) (locs : List Loc) (ls : Array Slot), lv_has ls 3 [(0, .ref (a 81)), (1, .int q3.1), (2, .int q3.2.1)] → va_P D vwCl (wl a cA q3.2.2 d) H → va_S A s.heap H locs → W p l e R s m args below meth c H locs 0 0 Q (F0 m 32 ls [])) ?_ _ _ hf _ _ _ (lv_sub hl [1, 2, 0] rfl) hP hS
    intro k4 ihk4 q3 hf H locs ls hl hP hS
    unfold b_X9_possible_32 at hf
    refine lv_iload_n hx hb dX9_possible_32 rfl (lv_at hl 2 rfl) ?_
    refine lv_aload_n hx hb dX9_possible_33 rfl (lv_at hl 0 rfl) ?_
    refine zg_X9_123 hx hb C hP (by decide) lay_81 rfl dX9_possible_34 ?_
    refine lv_icmp_ge (tgt := 64) hx hb dX9_possible_37 (by decide) (fun hb4 => ?_) (fun hb4 => ?_)
    · have hf := ifT hb4 hf
      refine lv_iload_n hx hb dX9_possible_64 rfl (lv_at hl 1 rfl) ?_
      have hf := Option.some.inj hf
      subst hf
      exact hQ _ _ _ _ dX9_possible_65 hP hS
    · have hf := ifF hb4 hf
      refine lv_aload_n hx hb dX9_possible_40 rfl (lv_at hl 0 rfl) ?_
      refine lv_iload_n hx hb dX9_possible_41 rfl (lv_at hl 1 rfl) ?_
      refine lv_aload_n hx hb dX9_possible_42 rfl (lv_at hl 0 rfl) ?_
      refine zg_X9_38 hx hb C hP (by decide) lay_81 rfl dX9_possible_43 ?_
      refine lv_iload_n hx hb dX9_possible_46 rfl (lv_at hl 2 rfl) ?_
      obtain ⟨hc5, hf⟩ := chk_some hf
      refine zz_iald hx hb C hP (by decide) lay_87 (inb_vp hc5) dX9_possible_47 ?_
      refine lv_aload_n hx hb dX9_possible_48 rfl (lv_at hl 0 rfl) ?_
      refine zg_X9_41 hx hb C hP (by decide) lay_81 rfl dX9_possible_49 ?_
      refine lv_iload_n hx hb dX9_possible_52 rfl (lv_at hl 2 rfl) ?_
      obtain ⟨hc6, hf⟩ := chk_some hf
      refine zz_iald hx hb C hP (by decide) lay_88 (inb_vp hc6) dX9_possible_53 ?_
      obtain ⟨u8, hzu8, hf⟩ := obd_some hf
      refine zz_callVi (rest := []) hx hb hml C hP hS (c_X9_stays l hDA q3.1 (gI q3.2.2 87 q3.2.1.toNatClampNeg) (gI q3.2.2 88 q3.2.1.toNatClampNeg) hzu8) zw_X9_236 ⟨Nat.le_trans (Nat.le_of_ble_eq_true rfl) hRf, Nat.le_trans (Nat.le_of_ble_eq_true rfl) hRl⟩ (by decide) lay_81 rfl rfl hl.1 (Nat.le_of_ble_eq_true rfl) ⟨Nat.zero_le _, Nat.zero_le _⟩ rfl dX9_possible_54 (fun H locs hP hS => ?_)
      refine lv_istore_n (lv' := [(1, .int u8.1), (0, .ref (a 81)), (2, .int q3.2.1)]) hx hb dX9_possible_57 rfl hl (by decide) rfl (fun ls hl => ?_)
      obtain ⟨v9, ev9⟩ : ∃ z : Int32, z = q3.2.1 + 1 := ⟨_, rfl⟩
      have hf := bnd_at v9 ev9 hf
      refine lv_iinc (v := v9) (lv' := [(2, .int v9), (1, .int u8.1), (0, .ref (a 81))]) hx hb dX9_possible_58 hl (k := 2) rfl (by rw [ev9]; rfl) (by decide) rfl (fun ls hl => ?_)
      refine lv_goto (tgt := 32) hx hb dX9_possible_61 (by decide) ?_
      exact ihk4 _ hf _ _ _ (lv_sub hl [2, 1, 0] rfl) hP hS
  refine loopN_ind (P := fun (q10 : Int32 × PH) => ∀ (H : Heap) (locs : List Loc) (ls : Array Slot), lv_has ls 3 [(0, .ref (a 81)), (1, .int u1.1), (2, .int q10.1)] → va_P D vwCl (wl a cA q10.2 d) H → va_S A s.heap H locs → W p l e R s m args below meth c H locs 0 0 Q (F0 m 7 ls [])) ?_ _ _ hf _ _ _ (lv_sub hl [2, 1, 0] rfl) hP hS
  intro k11 ihk11 q10 hf H locs ls hl hP hS
  unfold b_X9_possible_7 at hf
  refine lv_iload_n hx hb dX9_possible_7 rfl (lv_at hl 2 rfl) ?_
  refine lv_iload_n hx hb dX9_possible_8 rfl (lv_at hl 1 rfl) ?_
  refine lv_icmp_ge (tgt := 30) hx hb dX9_possible_9 (by decide) (fun hb11 => ?_) (fun hb11 => ?_)
  · have hf := ifT hb11 hf
    exact hJ30 _ hf _ _ _ (lv_sub hl [0, 1] rfl) hP hS
  · have hf := ifF hb11 hf
    refine lv_aload_n hx hb dX9_possible_12 rfl (lv_at hl 0 rfl) ?_
    refine zg_X9_81 hx hb C hP (by decide) lay_81 rfl dX9_possible_13 ?_
    refine lv_iload_n hx hb dX9_possible_16 rfl (lv_at hl 2 rfl) ?_
    refine lv_aload_n hx hb dX9_possible_17 rfl (lv_at hl 0 rfl) ?_
    refine zg_X9_78 hx hb C hP (by decide) lay_81 rfl dX9_possible_18 ?_
    refine lv_iload_n hx hb dX9_possible_21 rfl (lv_at hl 2 rfl) ?_
    obtain ⟨hc12, hf⟩ := chk_some hf
    refine zz_iald hx hb C hP (by decide) lay_100 (inb_vp hc12) dX9_possible_22 ?_
    obtain ⟨hc13, hf⟩ := chk_some hf
    refine zz_iast hx hb C hP hS (by decide) lay_101 (inb_vp hc13) dX9_possible_23 (fun σ15 eσ15 H locs hP hS => ?_)
    have hf := bnd_at σ15 eσ15 hf
    obtain ⟨v16, ev16⟩ : ∃ z : Int32, z = q10.1 + 1 := ⟨_, rfl⟩
    have hf := bnd_at v16 ev16 hf
    refine lv_iinc (v := v16) (lv' := [(2, .int v16), (0, .ref (a 81)), (1, .int u1.1)]) hx hb dX9_possible_24 hl (k := 2) rfl (by rw [ev16]; rfl) (by decide) rfl (fun ls hl => ?_)
    refine lv_goto (tgt := 7) hx hb dX9_possible_27 (by decide) ?_
    exact ihk11 _ hf _ _ _ (lv_sub hl [1, 2, 0] rfl) hP hS
set_option maxHeartbeats 4000000 in
set_option maxRecDepth 100000 in
theorem c_X9_weight (l : Launch) {D : va_G} {a : Nat → Nat} {cA : Nat → ClassId} {A : Nat → Prop} {sa : Nat → Nat} (hDA : DA a A) {σ : PH} {d : PD} (p1 : Int32) {u : Int32} (hf : f_X9_weight σ p1 = some u) : CTi l yX9_weight cX9_weight 4 (some .int) 1 22 D a cA A sa [.ref (a 81), .int p1] σ d u σ d := by
  refine zz_metI zpl_X9 hDA (Nat.le_of_ble_eq_true rfl) ?_
  intro p e R s m args below meth c Q ls hx hb hml C hRf hRl hQ hP hS hl
  have hl : lv_has ls 4 [(0, .ref (a 81)), (1, .int p1)] := hl
  unfold f_X9_weight at hf
  refine lv_iconst (v := 1) hx hb dX9_weight_0 (by decide) ?_
  refine lv_istore_n (lv' := [(2, .int 1), (0, .ref (a 81)), (1, .int p1)]) hx hb dX9_weight_1 rfl hl (by decide) rfl (fun ls hl => ?_)
  refine lv_iconst (v := 0) hx hb dX9_weight_2 (by decide) ?_
  refine lv_istore_n (lv' := [(3, .int 0), (2, .int 1), (0, .ref (a 81)), (1, .int p1)]) hx hb dX9_weight_3 rfl hl (by decide) rfl (fun ls hl => ?_)
  refine loopN_ind (P := fun (q1 : Int32 × Int32) => ∀ (H : Heap) (locs : List Loc) (ls : Array Slot), lv_has ls 4 [(0, .ref (a 81)), (1, .int p1), (2, .int q1.1), (3, .int q1.2)] → va_P D vwCl (wl a cA σ d) H → va_S A s.heap H locs → W p l e R s m args below meth c H locs 0 0 Q (F0 m 4 ls [])) ?_ _ _ hf _ _ _ (lv_sub hl [2, 3, 1, 0] rfl) hP hS
  intro k2 ihk2 q1 hf H locs ls hl hP hS
  unfold b_X9_weight_4 at hf
  refine lv_iload_n hx hb dX9_weight_4 rfl (lv_at hl 3 rfl) ?_
  refine lv_aload_n hx hb dX9_weight_5 rfl (lv_at hl 0 rfl) ?_
  refine zg_X9_96 hx hb C hP (by decide) lay_81 rfl dX9_weight_6 ?_
  refine lv_icmp_ge (tgt := 36) hx hb dX9_weight_9 (by decide) (fun hb2 => ?_) (fun hb2 => ?_)
  · have hf := ifT hb2 hf
    refine lv_iload_n hx hb dX9_weight_36 rfl (lv_at hl 2 rfl) ?_
    have hf := Option.some.inj hf
    subst hf
    exact hQ _ _ _ _ dX9_weight_37 hP hS
  · have hf := ifF hb2 hf
    refine lv_aload_n hx hb dX9_weight_12 rfl (lv_at hl 0 rfl) ?_
    refine lv_iload_n hx hb dX9_weight_13 rfl (lv_at hl 1 rfl) ?_
    refine lv_iload_n hx hb dX9_weight_14 rfl (lv_at hl 3 rfl) ?_
    obtain ⟨u4, hzu4⟩ : ∃ z, z = f_X9_isIn p1 q1.2 := ⟨_, rfl⟩
    have hf := bnd_at u4 hzu4 hf
    refine zz_callVi (rest := []) hx hb hml C hP hS (c_X9_isIn l hDA p1 q1.2 hzu4.symm) zw_X9_214 ⟨Nat.le_trans (Nat.le_of_ble_eq_true rfl) hRf, Nat.le_trans (Nat.le_of_ble_eq_true rfl) hRl⟩ (by decide) lay_81 rfl rfl hl.1 (Nat.le_of_ble_eq_true rfl) ⟨Nat.zero_le _, Nat.zero_le _⟩ rfl dX9_weight_15 (fun H locs hP hS => ?_)
    refine lv_if_eq (tgt := 30) hx hb dX9_weight_18 (by decide) (fun hb4 => ?_) (fun hb4 => ?_)
    · have hf := ifT hb4 hf
      obtain ⟨v6, ev6⟩ : ∃ z : Int32, z = q1.2 + 1 := ⟨_, rfl⟩
      have hf := bnd_at v6 ev6 hf
      refine lv_iinc (v := v6) (lv' := [(3, .int v6), (0, .ref (a 81)), (1, .int p1), (2, .int q1.1)]) hx hb dX9_weight_30 hl (k := 3) rfl (by rw [ev6]; rfl) (by decide) rfl (fun ls hl => ?_)
      refine lv_goto (tgt := 4) hx hb dX9_weight_33 (by decide) ?_
      exact ihk2 _ hf _ _ _ (lv_sub hl [1, 2, 3, 0] rfl) hP hS
    · have hf := ifF hb4 hf
      refine lv_iload_n hx hb dX9_weight_21 rfl (lv_at hl 2 rfl) ?_
      refine lv_aload_n hx hb dX9_weight_22 rfl (lv_at hl 0 rfl) ?_
      refine zg_X9_32 hx hb C hP (by decide) lay_81 rfl dX9_weight_23 ?_
      refine lv_iload_n hx hb dX9_weight_26 rfl (lv_at hl 3 rfl) ?_
      obtain ⟨hc6, hf⟩ := chk_some hf
      refine zz_iald hx hb C hP (by decide) lay_85 (inb_vp hc6) dX9_weight_27 ?_
      refine lv_imul hx hb dX9_weight_28 ?_
      refine lv_topi (fun v8 ev8 => ?_)
      have hf := bnd_at v8 ev8 hf
      refine lv_istore_n (lv' := [(2, .int v8), (0, .ref (a 81)), (1, .int p1), (3, .int q1.2)]) hx hb dX9_weight_29 rfl hl (by decide) rfl (fun ls hl => ?_)
      obtain ⟨v9, ev9⟩ : ∃ z : Int32, z = q1.2 + 1 := ⟨_, rfl⟩
      have hf := bnd_at v9 ev9 hf
      refine lv_iinc (v := v9) (lv' := [(3, .int v9), (2, .int v8), (0, .ref (a 81)), (1, .int p1)]) hx hb dX9_weight_30 hl (k := 3) rfl (by rw [ev9]; rfl) (by decide) rfl (fun ls hl => ?_)
      refine lv_goto (tgt := 4) hx hb dX9_weight_33 (by decide) ?_
      exact ihk2 _ hf _ _ _ (lv_sub hl [2, 3, 1, 0] rfl) hP hS
set_option maxHeartbeats 4000000 in
set_option maxRecDepth 100000 in
theorem c_X9_likely (l : Launch) {D : va_G} {a : Nat → Nat} {cA : Nat → ClassId} {A : Nat → Prop} {sa : Nat → Nat} (hDA : DA a A) {σ : PH} {d : PD} (p1 : Int32) {u : Int32 × PH} (hf : f_X9_likely σ p1 = some u) : CTi l yX9_likely cX9_likely 7 (some .int) 6 140 D a cA A sa [.ref (a 81), .int p1] σ d u.1 u.2 d := by
  refine zz_metI zpl_X9 hDA (Nat.le_of_ble_eq_true rfl) ?_
  intro p e R s m args below meth c Q ls hx hb hml C hRf hRl hQ hP hS hl
  have hl : lv_has ls 7 [(0, .ref (a 81)), (1, .int p1)] := hl
  unfold f_X9_likely at hf
  refine lv_aload_n hx hb dX9_likely_0 rfl (lv_at hl 0 rfl) ?_
  obtain ⟨u1, hzu1, hf⟩ := obd_some hf
  refine zz_callVi (rest := []) hx hb hml C hP hS (c_X9_possible l hDA  hzu1) zw_X9_239 ⟨Nat.le_trans (Nat.le_of_ble_eq_true rfl) hRf, Nat.le_trans (Nat.le_of_ble_eq_true rfl) hRl⟩ (by decide) lay_81 rfl rfl hl.1 (Nat.le_of_ble_eq_true rfl) ⟨Nat.zero_le _, Nat.zero_le _⟩ rfl dX9_likely_1 (fun H locs hP hS => ?_)
  refine lv_istore_n (lv' := [(2, .int u1.1), (0, .ref (a 81)), (1, .int p1)]) hx hb dX9_likely_4 rfl hl (by decide) rfl (fun ls hl => ?_)
  refine lv_iconst (v := 0) hx hb dX9_likely_5 (by decide) ?_
  refine lv_istore_n (lv' := [(3, .int 0), (2, .int u1.1), (0, .ref (a 81)), (1, .int p1)]) hx hb dX9_likely_6 rfl hl (by decide) rfl (fun ls hl => ?_)
  refine lv_iconst (v := 0) hx hb dX9_likely_7 (by decide) ?_
  refine lv_istore (lv' := [(4, .int 0), (3, .int 0), (2, .int u1.1), (0, .ref (a 81)), (1, .int p1)]) hx hb dX9_likely_8 hl (by decide) rfl (fun ls hl => ?_)
  refine lv_iconst (v := 0) hx hb dX9_likely_10 (by decide) ?_
  refine lv_istore (lv' := [(5, .int 0), (4, .int 0), (3, .int 0), (2, .int u1.1), (0, .ref (a 81)), (1, .int p1)]) hx hb dX9_likely_11 hl (by decide) rfl (fun ls hl => ?_)
  have hJ65 : ∀ (v2 : Int32) (v3 : Int32), j_X9_likely_65 u1 v2 v3 = some u → ∀ (H : Heap) (locs : List Loc) (ls : Array Slot), lv_has ls 7 [(3, .int v2), (4, .int v3)] → va_P D vwCl (wl a cA u1.2 d) H → va_S A s.heap H locs → W p l e R s m args below meth c H locs 0 0 Q (F0 m 65 ls []) := by
    intro v2 v3 hf H locs ls hl hP hS
    unfold j_X9_likely_65 at hf
    refine lv_iload hx hb dX9_likely_65 (lv_at hl 1 rfl) ?_
    refine lv_if_ne (tgt := 74) hx hb dX9_likely_67 (by decide) (fun hb3 => ?_) (fun hb3 => ?_)
    · have hf := ifF hb3 hf
      refine lv_sipush (v := 1000) hx hb dX9_likely_74 (by decide) ?_
      refine lv_iload_n hx hb dX9_likely_77 rfl (lv_at hl 0 rfl) ?_
      refine lv_imul hx hb dX9_likely_78 ?_
      refine lv_iload hx hb dX9_likely_79 (lv_at hl 1 rfl) ?_
      obtain ⟨hc5, hf⟩ := chk_some hf
      refine lv_idiv hx hb dX9_likely_81 hc5 ?_
      have hf := Option.some.inj hf
      subst hf
      exact hQ _ _ _ _ dX9_likely_82 hP hS
    · have hf := ifT hb3 hf
      refine lv_iconst (v := 0) hx hb dX9_likely_70 (by decide) ?_
      refine lv_goto (tgt := 82) hx hb dX9_likely_71 (by decide) ?_
      have hf := Option.some.inj hf
      subst hf
      exact hQ _ _ _ _ dX9_likely_82 hP hS
  refine loopN_ind (P := fun (q6 : Int32 × Int32 × Int32) => ∀ (H : Heap) (locs : List Loc) (ls : Array Slot), lv_has ls 7 [(0, .ref (a 81)), (1, .int p1), (2, .int u1.1), (3, .int q6.1), (4, .int q6.2.1), (5, .int q6.2.2)] → va_P D vwCl (wl a cA u1.2 d) H → va_S A s.heap H locs → W p l e R s m args below meth c H locs 0 0 Q (F0 m 13 ls [])) ?_ _ _ hf _ _ _ (lv_sub hl [4, 5, 3, 2, 1, 0] rfl) hP hS
  intro k7 ihk7 q6 hf H locs ls hl hP hS
  unfold b_X9_likely_13 at hf
  refine lv_iload hx hb dX9_likely_13 (lv_at hl 5 rfl) ?_
  refine lv_iload_n hx hb dX9_likely_15 rfl (lv_at hl 2 rfl) ?_
  refine lv_icmp_ge (tgt := 65) hx hb dX9_likely_16 (by decide) (fun hb7 => ?_) (fun hb7 => ?_)
  · have hf := ifT hb7 hf
    exact hJ65 _ _ hf _ _ _ (lv_sub hl [3, 4] rfl) hP hS
  · have hf := ifF hb7 hf
    refine lv_aload_n hx hb dX9_likely_19 rfl (lv_at hl 0 rfl) ?_
    refine lv_aload_n hx hb dX9_likely_20 rfl (lv_at hl 0 rfl) ?_
    refine zg_X9_81 hx hb C hP (by decide) lay_81 rfl dX9_likely_21 ?_
    refine lv_iload hx hb dX9_likely_24 (lv_at hl 5 rfl) ?_
    obtain ⟨hc8, hf⟩ := chk_some hf
    refine zz_iald hx hb C hP (by decide) lay_101 (inb_vp hc8) dX9_likely_26 ?_
    obtain ⟨u10, hzu10, hf⟩ := obd_some hf
    refine zz_callVi (rest := []) hx hb hml C hP hS (c_X9_weight l hDA (gI u1.2 101 q6.2.2.toNatClampNeg) hzu10) zw_X9_245 ⟨Nat.le_trans (Nat.le_of_ble_eq_true rfl) hRf, Nat.le_trans (Nat.le_of_ble_eq_true rfl) hRl⟩ (by decide) lay_81 rfl rfl hl.1 (Nat.le_of_ble_eq_true rfl) ⟨Nat.zero_le _, Nat.zero_le _⟩ rfl dX9_likely_27 (fun H locs hP hS => ?_)
    refine lv_istore (lv' := [(6, .int u10), (0, .ref (a 81)), (1, .int p1), (2, .int u1.1), (3, .int q6.1), (4, .int q6.2.1), (5, .int q6.2.2)]) hx hb dX9_likely_30 hl (by decide) rfl (fun ls hl => ?_)
    refine lv_iload hx hb dX9_likely_32 (lv_at hl 5 rfl) ?_
    refine lv_iload hx hb dX9_likely_34 (lv_at hl 0 rfl) ?_
    refine lv_iadd hx hb dX9_likely_36 ?_
    refine lv_topi (fun v11 ev11 => ?_)
    have hf := bnd_at v11 ev11 hf
    refine lv_istore (lv' := [(4, .int v11), (6, .int u10), (0, .ref (a 81)), (1, .int p1), (2, .int u1.1), (3, .int q6.1), (5, .int q6.2.2)]) hx hb dX9_likely_37 hl (by decide) rfl (fun ls hl => ?_)
    refine lv_aload_n hx hb dX9_likely_39 rfl (lv_at hl 2 rfl) ?_
    refine lv_aload_n hx hb dX9_likely_40 rfl (lv_at hl 2 rfl) ?_
    refine zg_X9_81 hx hb C hP (by decide) lay_81 rfl dX9_likely_41 ?_
    refine lv_iload hx hb dX9_likely_44 (lv_at hl 6 rfl) ?_
    obtain ⟨hc11, hf⟩ := chk_some hf
    refine zz_iald hx hb C hP (by decide) lay_101 (inb_vp hc11) dX9_likely_46 ?_
    refine lv_iload_n hx hb dX9_likely_47 rfl (lv_at hl 3 rfl) ?_
    obtain ⟨u13, hzu13⟩ : ∃ z, z = f_X9_isIn (gI u1.2 101 q6.2.2.toNatClampNeg) p1 := ⟨_, rfl⟩
    have hf := bnd_at u13 hzu13 hf
    refine zz_callVi (rest := []) hx hb hml C hP hS (c_X9_isIn l hDA (gI u1.2 101 q6.2.2.toNatClampNeg) p1 hzu13.symm) zw_X9_214 ⟨Nat.le_trans (Nat.le_of_ble_eq_true rfl) hRf, Nat.le_trans (Nat.le_of_ble_eq_true rfl) hRl⟩ (by decide) lay_81 rfl rfl hl.1 (Nat.le_of_ble_eq_true rfl) ⟨Nat.zero_le _, Nat.zero_le _⟩ rfl dX9_likely_48 (fun H locs hP hS => ?_)
    refine lv_if_eq (tgt := 59) hx hb dX9_likely_51 (by decide) (fun hb13 => ?_) (fun hb13 => ?_)
    · have hf := ifT hb13 hf
      obtain ⟨v15, ev15⟩ : ∃ z : Int32, z = q6.2.2 + 1 := ⟨_, rfl⟩
      have hf := bnd_at v15 ev15 hf
      refine lv_iinc (v := v15) (lv' := [(5, .int v15), (4, .int v11), (6, .int u10), (0, .ref (a 81)), (1, .int p1), (2, .int u1.1), (3, .int q6.1)]) hx hb dX9_likely_59 hl (k := 6) rfl (by rw [ev15]; rfl) (by decide) rfl (fun ls hl => ?_)
      refine lv_goto (tgt := 13) hx hb dX9_likely_62 (by decide) ?_
      exact ihk7 _ hf _ _ _ (lv_sub hl [3, 4, 5, 6, 1, 0] rfl) hP hS
    · have hf := ifF hb13 hf
      refine lv_iload_n hx hb dX9_likely_54 rfl (lv_at hl 5 rfl) ?_
      refine lv_iload hx hb dX9_likely_55 (lv_at hl 1 rfl) ?_
      refine lv_iadd hx hb dX9_likely_57 ?_
      refine lv_topi (fun v16 ev16 => ?_)
      have hf := bnd_at v16 ev16 hf
      refine lv_istore_n (lv' := [(3, .int v16), (4, .int v11), (6, .int u10), (0, .ref (a 81)), (1, .int p1), (2, .int u1.1), (5, .int q6.2.2)]) hx hb dX9_likely_58 rfl hl (by decide) rfl (fun ls hl => ?_)
      obtain ⟨v17, ev17⟩ : ∃ z : Int32, z = q6.2.2 + 1 := ⟨_, rfl⟩
      have hf := bnd_at v17 ev17 hf
      refine lv_iinc (v := v17) (lv' := [(5, .int v17), (3, .int v16), (4, .int v11), (6, .int u10), (0, .ref (a 81)), (1, .int p1), (2, .int u1.1)]) hx hb dX9_likely_59 hl (k := 6) rfl (by rw [ev17]; rfl) (by decide) rfl (fun ls hl => ?_)
      refine lv_goto (tgt := 13) hx hb dX9_likely_62 (by decide) ?_
      exact ihk7 _ hf _ _ _ (lv_sub hl [4, 5, 6, 1, 2, 0] rfl) hP hS
set_option maxHeartbeats 4000000 in
set_option maxRecDepth 100000 in
theorem c_X9_singerOf (l : Launch) {D : va_G} {a : Nat → Nat} {cA : Nat → ClassId} {A : Nat → Prop} {sa : Nat → Nat} (hDA : DA a A) {σ : PH} {d : PD} (p1 : Int32) (p2 : Int32) {u : Int32 × PH} (hf : f_X9_singerOf σ p1 p2 = some u) : CTi l yX9_singerOf cX9_singerOf 3 (some .int) 7 166 D a cA A sa [.ref (a 81), .int p1, .int p2] σ d u.1 u.2 d := by
  refine zz_metI zpl_X9 hDA (Nat.le_of_ble_eq_true rfl) ?_
  intro p e R s m args below meth c Q ls hx hb hml C hRf hRl hQ hP hS hl
  have hl : lv_has ls 3 [(0, .ref (a 81)), (1, .int p1), (2, .int p2)] := hl
  unfold f_X9_singerOf at hf
  refine lv_aload_n hx hb dX9_singerOf_0 rfl (lv_at hl 0 rfl) ?_
  refine lv_iload_n hx hb dX9_singerOf_1 rfl (lv_at hl 1 rfl) ?_
  obtain ⟨u1, hzu1⟩ : ∃ z, z = f_X9_isSinger σ p1 := ⟨_, rfl⟩
  have hf := bnd_at u1 hzu1 hf
  refine zz_callVi (rest := []) hx hb hml C hP hS (c_X9_isSinger l hDA p1 hzu1.symm) zw_X9_111 ⟨Nat.le_trans (Nat.le_of_ble_eq_true rfl) hRf, Nat.le_trans (Nat.le_of_ble_eq_true rfl) hRl⟩ (by decide) lay_81 rfl rfl hl.1 (Nat.le_of_ble_eq_true rfl) ⟨Nat.zero_le _, Nat.zero_le _⟩ rfl dX9_singerOf_2 (fun H locs hP hS => ?_)
  refine lv_if_ne (tgt := 15) hx hb dX9_singerOf_5 (by decide) (fun hb1 => ?_) (fun hb1 => ?_)
  · have hf := ifF hb1 hf
    refine lv_iload_n hx hb dX9_singerOf_15 rfl (lv_at hl 2 rfl) ?_
    by_cases hb2 : p2 = 0
    · have hf := ifT hb2 hf
      refine lv_tableIn (tgt := 52) hx hb dX9_singerOf_16 (by rw [hb2]; decide) (by rw [hb2]; decide) (by rw [hb2]; rfl) (by decide) ?_
      refine lv_aload_n hx hb dX9_singerOf_52 rfl (lv_at hl 0 rfl) ?_
      refine zg_X9_26 hx hb C hP (by decide) lay_81 rfl dX9_singerOf_53 ?_
      refine lv_iload_n hx hb dX9_singerOf_56 rfl (lv_at hl 1 rfl) ?_
      obtain ⟨hc3, hf⟩ := chk_some hf
      refine zz_iald hx hb C hP (by decide) lay_83 (inb_vp hc3) dX9_singerOf_57 ?_
      have hf := Option.some.inj hf
      subst hf
      exact hQ _ _ _ _ dX9_singerOf_58 hP hS
    have hf := ifF hb2 hf
    by_cases hb4 : p2 = 1
    · have hf := ifT hb4 hf
      refine lv_tableIn (tgt := 59) hx hb dX9_singerOf_16 (by rw [hb4]; decide) (by rw [hb4]; decide) (by rw [hb4]; rfl) (by decide) ?_
      refine lv_aload_n hx hb dX9_singerOf_59 rfl (lv_at hl 0 rfl) ?_
      refine zg_X9_29 hx hb C hP (by decide) lay_81 rfl dX9_singerOf_60 ?_
      refine lv_iload_n hx hb dX9_singerOf_63 rfl (lv_at hl 1 rfl) ?_
      obtain ⟨hc5, hf⟩ := chk_some hf
      refine zz_iald hx hb C hP (by decide) lay_84 (inb_vp hc5) dX9_singerOf_64 ?_
      have hf := Option.some.inj hf
      subst hf
      exact hQ _ _ _ _ dX9_singerOf_65 hP hS
    have hf := ifF hb4 hf
    by_cases hb6 : p2 = 2
    · have hf := ifT hb6 hf
      refine lv_tableIn (tgt := 66) hx hb dX9_singerOf_16 (by rw [hb6]; decide) (by rw [hb6]; decide) (by rw [hb6]; rfl) (by decide) ?_
      refine lv_aload_n hx hb dX9_singerOf_66 rfl (lv_at hl 0 rfl) ?_
      refine zg_X9_32 hx hb C hP (by decide) lay_81 rfl dX9_singerOf_67 ?_
      refine lv_iload_n hx hb dX9_singerOf_70 rfl (lv_at hl 1 rfl) ?_
      obtain ⟨hc7, hf⟩ := chk_some hf
      refine zz_iald hx hb C hP (by decide) lay_85 (inb_vp hc7) dX9_singerOf_71 ?_
      have hf := Option.some.inj hf
      subst hf
      exact hQ _ _ _ _ dX9_singerOf_72 hP hS
    have hf := ifF hb6 hf
    by_cases hb8 : p2 = 3
    · have hf := ifT hb8 hf
      refine lv_tableIn (tgt := 73) hx hb dX9_singerOf_16 (by rw [hb8]; decide) (by rw [hb8]; decide) (by rw [hb8]; rfl) (by decide) ?_
      refine lv_aload_n hx hb dX9_singerOf_73 rfl (lv_at hl 0 rfl) ?_
      refine zg_X9_35 hx hb C hP (by decide) lay_81 rfl dX9_singerOf_74 ?_
      refine lv_iload_n hx hb dX9_singerOf_77 rfl (lv_at hl 1 rfl) ?_
      obtain ⟨hc9, hf⟩ := chk_some hf
      refine zz_iald hx hb C hP (by decide) lay_86 (inb_vp hc9) dX9_singerOf_78 ?_
      have hf := Option.some.inj hf
      subst hf
      exact hQ _ _ _ _ dX9_singerOf_79 hP hS
    have hf := ifF hb8 hf
    by_cases hb10 : p2 = 4
    · have hf := ifT hb10 hf
      refine lv_tableIn (tgt := 80) hx hb dX9_singerOf_16 (by rw [hb10]; decide) (by rw [hb10]; decide) (by rw [hb10]; rfl) (by decide) ?_
      refine lv_aload_n hx hb dX9_singerOf_80 rfl (lv_at hl 0 rfl) ?_
      refine lv_iload_n hx hb dX9_singerOf_81 rfl (lv_at hl 1 rfl) ?_
      obtain ⟨u12, hzu12, hf⟩ := obd_some hf
      refine zz_callVi (rest := []) hx hb hml C hP hS (c_X9_likely l hDA p1 hzu12) zw_X9_133 ⟨Nat.le_trans (Nat.le_of_ble_eq_true rfl) hRf, Nat.le_trans (Nat.le_of_ble_eq_true rfl) hRl⟩ (by decide) lay_81 rfl rfl hl.1 (Nat.le_of_ble_eq_true rfl) ⟨Nat.zero_le _, Nat.zero_le _⟩ rfl dX9_singerOf_82 (fun H locs hP hS => ?_)
      have hf := Option.some.inj hf
      subst hf
      exact hQ _ _ _ _ dX9_singerOf_85 hP hS
    have hf := ifF hb10 hf
    refine lv_tableOut (tgt := 86) hx hb dX9_singerOf_16 (sw_0_4 hb2 hb4 hb6 hb8 hb10) (by decide) ?_
    refine lv_aload_n hx hb dX9_singerOf_86 rfl (lv_at hl 0 rfl) ?_
    refine lv_bipush (v := (-5)) hx hb dX9_singerOf_87 (by decide) ?_
    obtain ⟨u13, hzu13, hf⟩ := obd_some hf
    refine zz_callVi (rest := []) hx hb hml C hP hS (c_X9_no l hDA (-5) hzu13) zw_X9_107 ⟨Nat.le_trans (Nat.le_of_ble_eq_true rfl) hRf, Nat.le_trans (Nat.le_of_ble_eq_true rfl) hRl⟩ (by decide) lay_81 rfl rfl hl.1 (Nat.le_of_ble_eq_true rfl) ⟨Nat.zero_le _, Nat.zero_le _⟩ rfl dX9_singerOf_89 (fun H locs hP hS => ?_)
    have hf := Option.some.inj hf
    subst hf
    exact hQ _ _ _ _ dX9_singerOf_92 hP hS
  · have hf := ifT hb1 hf
    refine lv_aload_n hx hb dX9_singerOf_8 rfl (lv_at hl 0 rfl) ?_
    refine lv_bipush (v := (-5)) hx hb dX9_singerOf_9 (by decide) ?_
    obtain ⟨u14, hzu14, hf⟩ := obd_some hf
    refine zz_callVi (rest := []) hx hb hml C hP hS (c_X9_no l hDA (-5) hzu14) zw_X9_107 ⟨Nat.le_trans (Nat.le_of_ble_eq_true rfl) hRf, Nat.le_trans (Nat.le_of_ble_eq_true rfl) hRl⟩ (by decide) lay_81 rfl rfl hl.1 (Nat.le_of_ble_eq_true rfl) ⟨Nat.zero_le _, Nat.zero_le _⟩ rfl dX9_singerOf_11 (fun H locs hP hS => ?_)
    have hf := Option.some.inj hf
    subst hf
    exact hQ _ _ _ _ dX9_singerOf_14 hP hS
set_option maxHeartbeats 4000000 in
set_option maxRecDepth 100000 in
theorem c_X9_isAsked (l : Launch) {D : va_G} {a : Nat → Nat} {cA : Nat → ClassId} {A : Nat → Prop} {sa : Nat → Nat} (hDA : DA a A) {σ : PH} {d : PD} (p1 : Int32) (p2 : Int32) {u : Int32} (hf : f_X9_isAsked p1 p2 = u) : CTi l yX9_isAsked cX9_isAsked 3 (some .boolean) 0 0 D a cA A sa [.ref (a 81), .int p1, .int p2] σ d u σ d := by
  refine zz_metZ zpl_X9 hDA (Nat.le_of_ble_eq_true rfl) ?_
  intro p e R s m args below meth c Q ls hx hb hml C hRf hRl hQ hP hS hl
  have hl : lv_has ls 3 [(0, .ref (a 81)), (1, .int p1), (2, .int p2)] := hl
  unfold f_X9_isAsked at hf
  refine lv_iload_n hx hb dX9_isAsked_0 rfl (lv_at hl 1 rfl) ?_
  refine lv_if_ne (tgt := 22) hx hb dX9_isAsked_1 (by decide) (fun hb0 => ?_) (fun hb0 => ?_)
  · have hf := ifF hb0 hf
    refine lv_iload_n hx hb dX9_isAsked_22 rfl (lv_at hl 1 rfl) ?_
    refine lv_iconst (v := 1) hx hb dX9_isAsked_23 (by decide) ?_
    refine lv_icmp_ne (tgt := 46) hx hb dX9_isAsked_24 (by decide) (fun hb1 => ?_) (fun hb1 => ?_)
    · have hf := ifF hb1 hf
      refine lv_iload_n hx hb dX9_isAsked_46 rfl (lv_at hl 2 rfl) ?_
      refine lv_if_lt (tgt := 69) hx hb dX9_isAsked_47 (by decide) (fun hb2 => ?_) (fun hb2 => ?_)
      · have hf := ifT hb2 hf
        refine lv_iconst (v := 0) hx hb dX9_isAsked_69 (by decide) ?_
        subst hf
        exact hQ _ _ _ _ dX9_isAsked_70 (show narrow .boolean (.int 0) = .int 0 from rfl) hP hS
      · have hf := ifF hb2 hf
        refine lv_iload_n hx hb dX9_isAsked_50 rfl (lv_at hl 2 rfl) ?_
        refine lv_iload_n hx hb dX9_isAsked_51 rfl (lv_at hl 1 rfl) ?_
        refine lv_iconst (v := 2) hx hb dX9_isAsked_52 (by decide) ?_
        refine lv_icmp_ne (tgt := 60) hx hb dX9_isAsked_53 (by decide) (fun hb3 => ?_) (fun hb3 => ?_)
        · have hf := ifF hb3 hf
          refine lv_bipush (v := 50) hx hb dX9_isAsked_60 (by decide) ?_
          refine lv_icmp_gt (tgt := 69) hx hb dX9_isAsked_62 (by decide) (fun hb4 => ?_) (fun hb4 => ?_)
          · have hf := ifT hb4 hf
            refine lv_iconst (v := 0) hx hb dX9_isAsked_69 (by decide) ?_
            subst hf
            exact hQ _ _ _ _ dX9_isAsked_70 (show narrow .boolean (.int 0) = .int 0 from rfl) hP hS
          · have hf := ifF hb4 hf
            refine lv_iconst (v := 1) hx hb dX9_isAsked_65 (by decide) ?_
            refine lv_goto (tgt := 70) hx hb dX9_isAsked_66 (by decide) ?_
            subst hf
            exact hQ _ _ _ _ dX9_isAsked_70 (show narrow .boolean (.int 1) = .int 1 from rfl) hP hS
        · have hf := ifT hb3 hf
          refine lv_iconst (v := 1) hx hb dX9_isAsked_56 (by decide) ?_
          refine lv_goto (tgt := 62) hx hb dX9_isAsked_57 (by decide) ?_
          refine lv_icmp_gt (tgt := 69) hx hb dX9_isAsked_62 (by decide) (fun hb5 => ?_) (fun hb5 => ?_)
          · have hf := ifT hb5 hf
            refine lv_iconst (v := 0) hx hb dX9_isAsked_69 (by decide) ?_
            subst hf
            exact hQ _ _ _ _ dX9_isAsked_70 (show narrow .boolean (.int 0) = .int 0 from rfl) hP hS
          · have hf := ifF hb5 hf
            refine lv_iconst (v := 1) hx hb dX9_isAsked_65 (by decide) ?_
            refine lv_goto (tgt := 70) hx hb dX9_isAsked_66 (by decide) ?_
            subst hf
            exact hQ _ _ _ _ dX9_isAsked_70 (show narrow .boolean (.int 1) = .int 1 from rfl) hP hS
    · have hf := ifT hb1 hf
      refine lv_iload_n hx hb dX9_isAsked_27 rfl (lv_at hl 2 rfl) ?_
      refine lv_iconst (v := 1) hx hb dX9_isAsked_28 (by decide) ?_
      refine lv_icmp_lt (tgt := 42) hx hb dX9_isAsked_29 (by decide) (fun hb6 => ?_) (fun hb6 => ?_)
      · have hf := ifT hb6 hf
        refine lv_iconst (v := 0) hx hb dX9_isAsked_42 (by decide) ?_
        refine lv_goto (tgt := 70) hx hb dX9_isAsked_43 (by decide) ?_
        subst hf
        exact hQ _ _ _ _ dX9_isAsked_70 (show narrow .boolean (.int 0) = .int 0 from rfl) hP hS
      · have hf := ifF hb6 hf
        refine lv_iload_n hx hb dX9_isAsked_32 rfl (lv_at hl 2 rfl) ?_
        refine lv_bipush (v := 8) hx hb dX9_isAsked_33 (by decide) ?_
        refine lv_icmp_gt (tgt := 42) hx hb dX9_isAsked_35 (by decide) (fun hb7 => ?_) (fun hb7 => ?_)
        · have hf := ifT hb7 hf
          refine lv_iconst (v := 0) hx hb dX9_isAsked_42 (by decide) ?_
          refine lv_goto (tgt := 70) hx hb dX9_isAsked_43 (by decide) ?_
          subst hf
          exact hQ _ _ _ _ dX9_isAsked_70 (show narrow .boolean (.int 0) = .int 0 from rfl) hP hS
        · have hf := ifF hb7 hf
          refine lv_iconst (v := 1) hx hb dX9_isAsked_38 (by decide) ?_
          refine lv_goto (tgt := 70) hx hb dX9_isAsked_39 (by decide) ?_
          subst hf
          exact hQ _ _ _ _ dX9_isAsked_70 (show narrow .boolean (.int 1) = .int 1 from rfl) hP hS
  · have hf := ifT hb0 hf
    refine lv_iload_n hx hb dX9_isAsked_4 rfl (lv_at hl 2 rfl) ?_
    refine lv_iconst (v := 1) hx hb dX9_isAsked_5 (by decide) ?_
    refine lv_icmp_lt (tgt := 18) hx hb dX9_isAsked_6 (by decide) (fun hb8 => ?_) (fun hb8 => ?_)
    · have hf := ifT hb8 hf
      refine lv_iconst (v := 0) hx hb dX9_isAsked_18 (by decide) ?_
      refine lv_goto (tgt := 70) hx hb dX9_isAsked_19 (by decide) ?_
      subst hf
      exact hQ _ _ _ _ dX9_isAsked_70 (show narrow .boolean (.int 0) = .int 0 from rfl) hP hS
    · have hf := ifF hb8 hf
      refine lv_iload_n hx hb dX9_isAsked_9 rfl (lv_at hl 2 rfl) ?_
      refine lv_iconst (v := 3) hx hb dX9_isAsked_10 (by decide) ?_
      refine lv_icmp_gt (tgt := 18) hx hb dX9_isAsked_11 (by decide) (fun hb9 => ?_) (fun hb9 => ?_)
      · have hf := ifT hb9 hf
        refine lv_iconst (v := 0) hx hb dX9_isAsked_18 (by decide) ?_
        refine lv_goto (tgt := 70) hx hb dX9_isAsked_19 (by decide) ?_
        subst hf
        exact hQ _ _ _ _ dX9_isAsked_70 (show narrow .boolean (.int 0) = .int 0 from rfl) hP hS
      · have hf := ifF hb9 hf
        refine lv_iconst (v := 1) hx hb dX9_isAsked_14 (by decide) ?_
        refine lv_goto (tgt := 70) hx hb dX9_isAsked_15 (by decide) ?_
        subst hf
        exact hQ _ _ _ _ dX9_isAsked_70 (show narrow .boolean (.int 1) = .int 1 from rfl) hP hS
set_option maxHeartbeats 4000000 in
set_option maxRecDepth 100000 in
theorem c_X9_asks (l : Launch) {D : va_G} {a : Nat → Nat} {cA : Nat → ClassId} {A : Nat → Prop} {sa : Nat → Nat} (hDA : DA a A) {σ : PH} {d : PD} (p1 : Int32) (p2 : Int32) {u : Int32 × PH} (hf : f_X9_asks σ p1 p2 = u) : CTi l yX9_asks cX9_asks 4 (some .int) 1 20 D a cA A sa [.ref (a 81), .int p1, .int p2] σ d u.1 u.2 d := by
  refine zz_metI zpl_X9 hDA (Nat.le_of_ble_eq_true rfl) ?_
  intro p e R s m args below meth c Q ls hx hb hml C hRf hRl hQ hP hS hl
  have hl : lv_has ls 4 [(0, .ref (a 81)), (1, .int p1), (2, .int p2)] := hl
  unfold f_X9_asks at hf
  refine lv_iload_n hx hb dX9_asks_0 rfl (lv_at hl 1 rfl) ?_
  have hJ39 : ∀ (v1 : Int32), j_X9_asks_39 σ p1 p2 v1 = u → ∀ (H : Heap) (locs : List Loc) (ls : Array Slot), lv_has ls 4 [(0, .ref (a 81)), (1, .int p1), (2, .int p2)] → va_P D vwCl (wl a cA σ d) H → va_S A s.heap H locs → W p l e R s m args below meth c H locs 0 0 Q (F0 m 39 ls [.int v1]) := by
    intro v1 hf H locs ls hl hP hS
    unfold j_X9_asks_39 at hf
    refine lv_istore_n (lv' := [(3, .int v1), (0, .ref (a 81)), (1, .int p1), (2, .int p2)]) hx hb dX9_asks_39 rfl hl (by decide) rfl (fun ls hl => ?_)
    refine lv_iload_n hx hb dX9_asks_40 rfl (lv_at hl 2 rfl) ?_
    by_cases hb1 : p1 = 0
    · have hf := ifT hb1 hf
      refine lv_tableIn (tgt := 68) hx hb dX9_asks_41 (by rw [hb1]; decide) (by rw [hb1]; decide) (by rw [hb1]; rfl) (by decide) ?_
      refine lv_aload_n hx hb dX9_asks_68 rfl (lv_at hl 1 rfl) ?_
      refine lv_iload_n hx hb dX9_asks_69 rfl (lv_at hl 3 rfl) ?_
      refine zp_X9_7 hx hb C hP hS (by decide) lay_81 rfl dX9_asks_70 (fun σ3 eσ3 H locs hP hS => ?_)
      have hf := bnd_at σ3 eσ3 hf
      refine lv_aload_n hx hb dX9_asks_73 rfl (lv_at hl 1 rfl) ?_
      obtain ⟨u4, hzu4⟩ : ∃ z, z = f_X9_anew σ3 := ⟨_, rfl⟩
      have hf := bnd_at u4 hzu4 hf
      refine zz_callVv (rest := []) hx hb hml C hP hS (c_X9_anew l hDA  hzu4.symm) zw_X9_126 ⟨Nat.le_trans (Nat.le_of_ble_eq_true rfl) hRf, Nat.le_trans (Nat.le_of_ble_eq_true rfl) hRl⟩ (by decide) lay_81 rfl rfl hl.1 (Nat.le_of_ble_eq_true rfl) ⟨Nat.zero_le _, Nat.zero_le _⟩ rfl dX9_asks_74 (fun H locs hP hS => ?_)
      refine lv_goto (tgt := 101) hx hb dX9_asks_77 (by decide) ?_
      refine lv_iload_n hx hb dX9_asks_101 rfl (lv_at hl 0 rfl) ?_
      subst hf
      exact hQ _ _ _ _ dX9_asks_102 hP hS
    have hf := ifF hb1 hf
    by_cases hb4 : p1 = 1
    · have hf := ifT hb4 hf
      refine lv_tableIn (tgt := 80) hx hb dX9_asks_41 (by rw [hb4]; decide) (by rw [hb4]; decide) (by rw [hb4]; rfl) (by decide) ?_
      refine lv_aload_n hx hb dX9_asks_80 rfl (lv_at hl 1 rfl) ?_
      refine lv_iload_n hx hb dX9_asks_81 rfl (lv_at hl 3 rfl) ?_
      refine zp_X9_13 hx hb C hP hS (by decide) lay_81 rfl dX9_asks_82 (fun σ6 eσ6 H locs hP hS => ?_)
      have hf := bnd_at σ6 eσ6 hf
      refine lv_goto (tgt := 101) hx hb dX9_asks_85 (by decide) ?_
      refine lv_iload_n hx hb dX9_asks_101 rfl (lv_at hl 0 rfl) ?_
      subst hf
      exact hQ _ _ _ _ dX9_asks_102 hP hS
    have hf := ifF hb4 hf
    by_cases hb6 : p1 = 2
    · have hf := ifT hb6 hf
      refine lv_tableIn (tgt := 88) hx hb dX9_asks_41 (by rw [hb6]; decide) (by rw [hb6]; decide) (by rw [hb6]; rfl) (by decide) ?_
      refine lv_aload_n hx hb dX9_asks_88 rfl (lv_at hl 1 rfl) ?_
      refine lv_iload_n hx hb dX9_asks_89 rfl (lv_at hl 3 rfl) ?_
      refine zp_X9_136 hx hb C hP hS (by decide) lay_81 rfl dX9_asks_90 (fun σ8 eσ8 H locs hP hS => ?_)
      have hf := bnd_at σ8 eσ8 hf
      refine lv_goto (tgt := 101) hx hb dX9_asks_93 (by decide) ?_
      refine lv_iload_n hx hb dX9_asks_101 rfl (lv_at hl 0 rfl) ?_
      subst hf
      exact hQ _ _ _ _ dX9_asks_102 hP hS
    have hf := ifF hb6 hf
    refine lv_tableOut (tgt := 96) hx hb dX9_asks_41 (sw_0_2 hb1 hb4 hb6) (by decide) ?_
    refine lv_aload_n hx hb dX9_asks_96 rfl (lv_at hl 1 rfl) ?_
    refine lv_iload_n hx hb dX9_asks_97 rfl (lv_at hl 3 rfl) ?_
    refine zp_X9_139 hx hb C hP hS (by decide) lay_81 rfl dX9_asks_98 (fun σ9 eσ9 H locs hP hS => ?_)
    have hf := bnd_at σ9 eσ9 hf
    refine lv_iload_n hx hb dX9_asks_101 rfl (lv_at hl 0 rfl) ?_
    subst hf
    exact hQ _ _ _ _ dX9_asks_102 hP hS
  refine lv_if_ne (tgt := 11) hx hb dX9_asks_1 (by decide) (fun hb9 => ?_) (fun hb9 => ?_)
  · have hf := ifF hb9 hf
    refine lv_iload_n hx hb dX9_asks_11 rfl (lv_at hl 1 rfl) ?_
    refine lv_iconst (v := 1) hx hb dX9_asks_12 (by decide) ?_
    refine lv_icmp_ne (tgt := 23) hx hb dX9_asks_13 (by decide) (fun hb10 => ?_) (fun hb10 => ?_)
    · have hf := ifF hb10 hf
      refine lv_iload_n hx hb dX9_asks_23 rfl (lv_at hl 1 rfl) ?_
      refine lv_iconst (v := 2) hx hb dX9_asks_24 (by decide) ?_
      refine lv_icmp_ne (tgt := 35) hx hb dX9_asks_25 (by decide) (fun hb11 => ?_) (fun hb11 => ?_)
      · have hf := ifF hb11 hf
        refine lv_aload_n hx hb dX9_asks_35 rfl (lv_at hl 0 rfl) ?_
        refine zg_X9_139 hx hb C hP (by decide) lay_81 rfl dX9_asks_36 ?_
        exact hJ39 _ hf _ _ _ (lv_sub hl [0, 1, 2] rfl) hP hS
      · have hf := ifT hb11 hf
        refine lv_aload_n hx hb dX9_asks_28 rfl (lv_at hl 0 rfl) ?_
        refine zg_X9_136 hx hb C hP (by decide) lay_81 rfl dX9_asks_29 ?_
        refine lv_goto (tgt := 39) hx hb dX9_asks_32 (by decide) ?_
        exact hJ39 _ hf _ _ _ (lv_sub hl [0, 1, 2] rfl) hP hS
    · have hf := ifT hb10 hf
      refine lv_aload_n hx hb dX9_asks_16 rfl (lv_at hl 0 rfl) ?_
      refine zg_X9_13 hx hb C hP (by decide) lay_81 rfl dX9_asks_17 ?_
      refine lv_goto (tgt := 39) hx hb dX9_asks_20 (by decide) ?_
      exact hJ39 _ hf _ _ _ (lv_sub hl [0, 1, 2] rfl) hP hS
  · have hf := ifT hb9 hf
    refine lv_aload_n hx hb dX9_asks_4 rfl (lv_at hl 0 rfl) ?_
    refine zg_X9_7 hx hb C hP (by decide) lay_81 rfl dX9_asks_5 ?_
    refine lv_goto (tgt := 39) hx hb dX9_asks_8 (by decide) ?_
    exact hJ39 _ hf _ _ _ (lv_sub hl [0, 1, 2] rfl) hP hS
set_option maxHeartbeats 4000000 in
set_option maxRecDepth 100000 in
theorem c_X9_ask (l : Launch) {D : va_G} {a : Nat → Nat} {cA : Nat → ClassId} {A : Nat → Prop} {sa : Nat → Nat} (hDA : DA a A) {σ : PH} {d : PD} (p1 : Int32) (p2 : Int32) {u : Int32 × PH} (hf : f_X9_ask σ p1 p2 = some u) : CTi l yX9_ask cX9_ask 3 (some .int) 2 43 D a cA A sa [.ref (a 81), .int p1, .int p2] σ d u.1 u.2 d := by
  refine zz_metI zpl_X9 hDA (Nat.le_of_ble_eq_true rfl) ?_
  intro p e R s m args below meth c Q ls hx hb hml C hRf hRl hQ hP hS hl
  have hl : lv_has ls 3 [(0, .ref (a 81)), (1, .int p1), (2, .int p2)] := hl
  unfold f_X9_ask at hf
  refine lv_iload_n hx hb dX9_ask_0 rfl (lv_at hl 1 rfl) ?_
  refine lv_if_lt (tgt := 27) hx hb dX9_ask_1 (by decide) (fun hb0 => ?_) (fun hb0 => ?_)
  · have hf := ifT hb0 hf
    refine lv_aload_n hx hb dX9_ask_27 rfl (lv_at hl 0 rfl) ?_
    refine lv_bipush (v := (-6)) hx hb dX9_ask_28 (by decide) ?_
    obtain ⟨u2, hzu2, hf⟩ := obd_some hf
    refine zz_callVi (rest := []) hx hb hml C hP hS (c_X9_no l hDA (-6) hzu2) zw_X9_107 ⟨Nat.le_trans (Nat.le_of_ble_eq_true rfl) hRf, Nat.le_trans (Nat.le_of_ble_eq_true rfl) hRl⟩ (by decide) lay_81 rfl rfl hl.1 (Nat.le_of_ble_eq_true rfl) ⟨Nat.zero_le _, Nat.zero_le _⟩ rfl dX9_ask_30 (fun H locs hP hS => ?_)
    have hf := Option.some.inj hf
    subst hf
    exact hQ _ _ _ _ dX9_ask_33 hP hS
  · have hf := ifF hb0 hf
    refine lv_iload_n hx hb dX9_ask_4 rfl (lv_at hl 1 rfl) ?_
    refine lv_iconst (v := 3) hx hb dX9_ask_5 (by decide) ?_
    refine lv_icmp_gt (tgt := 27) hx hb dX9_ask_6 (by decide) (fun hb2 => ?_) (fun hb2 => ?_)
    · have hf := ifT hb2 hf
      refine lv_aload_n hx hb dX9_ask_27 rfl (lv_at hl 0 rfl) ?_
      refine lv_bipush (v := (-6)) hx hb dX9_ask_28 (by decide) ?_
      obtain ⟨u4, hzu4, hf⟩ := obd_some hf
      refine zz_callVi (rest := []) hx hb hml C hP hS (c_X9_no l hDA (-6) hzu4) zw_X9_107 ⟨Nat.le_trans (Nat.le_of_ble_eq_true rfl) hRf, Nat.le_trans (Nat.le_of_ble_eq_true rfl) hRl⟩ (by decide) lay_81 rfl rfl hl.1 (Nat.le_of_ble_eq_true rfl) ⟨Nat.zero_le _, Nat.zero_le _⟩ rfl dX9_ask_30 (fun H locs hP hS => ?_)
      have hf := Option.some.inj hf
      subst hf
      exact hQ _ _ _ _ dX9_ask_33 hP hS
    · have hf := ifF hb2 hf
      refine lv_aload_n hx hb dX9_ask_9 rfl (lv_at hl 0 rfl) ?_
      refine lv_iload_n hx hb dX9_ask_10 rfl (lv_at hl 1 rfl) ?_
      refine lv_iload_n hx hb dX9_ask_11 rfl (lv_at hl 2 rfl) ?_
      obtain ⟨u5, hzu5⟩ : ∃ z, z = f_X9_isAsked p1 p2 := ⟨_, rfl⟩
      have hf := bnd_at u5 hzu5 hf
      refine zz_callVi (rest := []) hx hb hml C hP hS (c_X9_isAsked l hDA p1 p2 hzu5.symm) zw_X9_142 ⟨Nat.le_trans (Nat.le_of_ble_eq_true rfl) hRf, Nat.le_trans (Nat.le_of_ble_eq_true rfl) hRl⟩ (by decide) lay_81 rfl rfl hl.1 (Nat.le_of_ble_eq_true rfl) ⟨Nat.zero_le _, Nat.zero_le _⟩ rfl dX9_ask_12 (fun H locs hP hS => ?_)
      refine lv_if_eq (tgt := 27) hx hb dX9_ask_15 (by decide) (fun hb5 => ?_) (fun hb5 => ?_)
      · have hf := ifT hb5 hf
        refine lv_aload_n hx hb dX9_ask_27 rfl (lv_at hl 0 rfl) ?_
        refine lv_bipush (v := (-6)) hx hb dX9_ask_28 (by decide) ?_
        obtain ⟨u7, hzu7, hf⟩ := obd_some hf
        refine zz_callVi (rest := []) hx hb hml C hP hS (c_X9_no l hDA (-6) hzu7) zw_X9_107 ⟨Nat.le_trans (Nat.le_of_ble_eq_true rfl) hRf, Nat.le_trans (Nat.le_of_ble_eq_true rfl) hRl⟩ (by decide) lay_81 rfl rfl hl.1 (Nat.le_of_ble_eq_true rfl) ⟨Nat.zero_le _, Nat.zero_le _⟩ rfl dX9_ask_30 (fun H locs hP hS => ?_)
        have hf := Option.some.inj hf
        subst hf
        exact hQ _ _ _ _ dX9_ask_33 hP hS
      · have hf := ifF hb5 hf
        refine lv_aload_n hx hb dX9_ask_18 rfl (lv_at hl 0 rfl) ?_
        refine lv_iload_n hx hb dX9_ask_19 rfl (lv_at hl 1 rfl) ?_
        refine lv_iload_n hx hb dX9_ask_20 rfl (lv_at hl 2 rfl) ?_
        obtain ⟨u8, hzu8⟩ : ∃ z, z = f_X9_asks σ p1 p2 := ⟨_, rfl⟩
        have hf := bnd_at u8 hzu8 hf
        refine zz_callVi (rest := []) hx hb hml C hP hS (c_X9_asks l hDA p1 p2 hzu8.symm) zw_X9_146 ⟨Nat.le_trans (Nat.le_of_ble_eq_true rfl) hRf, Nat.le_trans (Nat.le_of_ble_eq_true rfl) hRl⟩ (by decide) lay_81 rfl rfl hl.1 (Nat.le_of_ble_eq_true rfl) ⟨Nat.zero_le _, Nat.zero_le _⟩ rfl dX9_ask_21 (fun H locs hP hS => ?_)
        refine lv_goto (tgt := 33) hx hb dX9_ask_24 (by decide) ?_
        have hf := Option.some.inj hf
        subst hf
        exact hQ _ _ _ _ dX9_ask_33 hP hS
set_option maxHeartbeats 4000000 in
set_option maxRecDepth 100000 in
theorem c_X9_changes (l : Launch) {D : va_G} {a : Nat → Nat} {cA : Nat → ClassId} {A : Nat → Prop} {sa : Nat → Nat} (hDA : DA a A) {σ : PH} {d : PD} (p1 : Int32) (p2 : Int32) {u : PH} (hf : f_X9_changes σ p1 p2 = some u) : CTv l yX9_changes cX9_changes 4 none 0 0 D a cA A sa [.ref (a 81), .int p1, .int p2] σ d u d := by
  refine zz_metV zpl_X9 hDA (Nat.le_of_ble_eq_true rfl) ?_
  intro p e R s m args below meth c Q ls hx hb hml C hRf hRl hQ hP hS hl
  have hl : lv_has ls 4 [(0, .ref (a 81)), (1, .int p1), (2, .int p2)] := hl
  unfold f_X9_changes at hf
  refine lv_aload_n hx hb dX9_changes_0 rfl (lv_at hl 0 rfl) ?_
  refine zg_X9_35 hx hb C hP (by decide) lay_81 rfl dX9_changes_1 ?_
  refine lv_iload_n hx hb dX9_changes_4 rfl (lv_at hl 1 rfl) ?_
  obtain ⟨hc0, hf⟩ := chk_some hf
  refine zz_iald hx hb C hP (by decide) lay_86 (inb_vp hc0) dX9_changes_5 ?_
  refine lv_topi (fun v2 ev2 => ?_)
  have hf := bnd_at v2 ev2 hf
  refine lv_istore_n (lv' := [(3, .int v2), (0, .ref (a 81)), (1, .int p1), (2, .int p2)]) hx hb dX9_changes_6 rfl hl (by decide) rfl (fun ls hl => ?_)
  refine lv_aload_n hx hb dX9_changes_7 rfl (lv_at hl 1 rfl) ?_
  refine zg_X9_35 hx hb C hP (by decide) lay_81 rfl dX9_changes_8 ?_
  refine lv_iload_n hx hb dX9_changes_11 rfl (lv_at hl 2 rfl) ?_
  refine lv_aload_n hx hb dX9_changes_12 rfl (lv_at hl 1 rfl) ?_
  refine zg_X9_35 hx hb C hP (by decide) lay_81 rfl dX9_changes_13 ?_
  refine lv_iload_n hx hb dX9_changes_16 rfl (lv_at hl 3 rfl) ?_
  obtain ⟨hc2, hf⟩ := chk_some hf
  refine zz_iald hx hb C hP (by decide) lay_86 (inb_vp hc2) dX9_changes_17 ?_
  obtain ⟨hc3, hf⟩ := chk_some hf
  refine zz_iast hx hb C hP hS (by decide) lay_86 (inb_vp hc3) dX9_changes_18 (fun σ5 eσ5 H locs hP hS => ?_)
  have hf := bnd_at σ5 eσ5 hf
  refine lv_aload_n hx hb dX9_changes_19 rfl (lv_at hl 1 rfl) ?_
  refine zg_X9_35 hx hb C hP (by decide) lay_81 rfl dX9_changes_20 ?_
  refine lv_iload_n hx hb dX9_changes_23 rfl (lv_at hl 3 rfl) ?_
  refine lv_iload_n hx hb dX9_changes_24 rfl (lv_at hl 0 rfl) ?_
  obtain ⟨hc5, hf⟩ := chk_some hf
  refine zz_iast hx hb C hP hS (by decide) lay_86 (inb_vp hc5) dX9_changes_25 (fun σ7 eσ7 H locs hP hS => ?_)
  have hf := bnd_at σ7 eσ7 hf
  have hf := Option.some.inj hf
  subst hf
  exact hQ _ _ _ _ dX9_changes_26 hP hS
set_option maxHeartbeats 4000000 in
set_option maxRecDepth 100000 in
theorem c_X9_wrong (l : Launch) {D : va_G} {a : Nat → Nat} {cA : Nat → ClassId} {A : Nat → Prop} {sa : Nat → Nat} (hDA : DA a A) {σ : PH} {d : PD} (p1 : Int32) {u : Int32 × PH} (hf : f_X9_wrong σ p1 = u) : CTi l yX9_wrong cX9_wrong 2 (some .boolean) 0 0 D a cA A sa [.ref (a 81), .int p1] σ d u.1 u.2 d := by
  refine zz_metZ zpl_X9 hDA (Nat.le_of_ble_eq_true rfl) ?_
  intro p e R s m args below meth c Q ls hx hb hml C hRf hRl hQ hP hS hl
  have hl : lv_has ls 2 [(0, .ref (a 81)), (1, .int p1)] := hl
  unfold f_X9_wrong at hf
  refine lv_aload_n hx hb dX9_wrong_0 rfl (lv_at hl 0 rfl) ?_
  refine lv_iload_n hx hb dX9_wrong_1 rfl (lv_at hl 1 rfl) ?_
  refine zp_X9_150 hx hb C hP hS (by decide) lay_81 rfl dX9_wrong_2 (fun σ1 eσ1 H locs hP hS => ?_)
  have hf := bnd_at σ1 eσ1 hf
  refine lv_iconst (v := 0) hx hb dX9_wrong_5 (by decide) ?_
  subst hf
  exact hQ _ _ _ _ dX9_wrong_6 (show narrow .boolean (.int 0) = .int 0 from rfl) hP hS
set_option maxHeartbeats 4000000 in
set_option maxRecDepth 100000 in
theorem c_X9_isWordAt (l : Launch) {D : va_G} {a : Nat → Nat} {cA : Nat → ClassId} {A : Nat → Prop} {sa : Nat → Nat} (hDA : DA a A) {σ : PH} {d : PD} (p1 : Int32) {u : Int32} (hf : f_X9_isWordAt σ p1 = some u) : CTi l yX9_isWordAt cX9_isWordAt 4 (some .boolean) 0 0 D a cA A sa [.ref (a 81), .int p1] σ d u σ d := by
  refine zz_metZ zpl_X9 hDA (Nat.le_of_ble_eq_true rfl) ?_
  intro p e R s m args below meth c Q ls hx hb hml C hRf hRl hQ hP hS hl
  have hl : lv_has ls 4 [(0, .ref (a 81)), (1, .int p1)] := hl
  unfold f_X9_isWordAt at hf
  refine lv_iconst (v := 0) hx hb dX9_isWordAt_0 (by decide) ?_
  refine lv_istore_n (lv' := [(2, .int 0), (0, .ref (a 81)), (1, .int p1)]) hx hb dX9_isWordAt_1 rfl hl (by decide) rfl (fun ls hl => ?_)
  refine lv_iconst (v := 0) hx hb dX9_isWordAt_2 (by decide) ?_
  refine lv_istore_n (lv' := [(3, .int 0), (2, .int 0), (0, .ref (a 81)), (1, .int p1)]) hx hb dX9_isWordAt_3 rfl hl (by decide) rfl (fun ls hl => ?_)
  have hJ32 : ∀ (v1 : Int32), j_X9_isWordAt_32 σ v1 = some u → ∀ (H : Heap) (locs : List Loc) (ls : Array Slot), lv_has ls 4 [(0, .ref (a 81)), (2, .int v1)] → va_P D vwCl (wl a cA σ d) H → va_S A s.heap H locs → W p l e R s m args below meth c H locs 0 0 Q (F0 m 32 ls []) := by
    intro v1 hf H locs ls hl hP hS
    unfold j_X9_isWordAt_32 at hf
    refine lv_aload_n hx hb dX9_isWordAt_32 rfl (lv_at hl 0 rfl) ?_
    refine zg_X9_153 hx hb C hP (by decide) lay_81 rfl dX9_isWordAt_33 ?_
    refine lv_topi (fun v2 ev2 => ?_)
    have hf := bnd_at v2 ev2 hf
    refine lv_istore_n (lv' := [(3, .int v2), (0, .ref (a 81)), (2, .int v1)]) hx hb dX9_isWordAt_36 rfl hl (by decide) rfl (fun ls hl => ?_)
    have hJ86 : ∀ (v3 : Int32), j_X9_isWordAt_86 σ v3 = some u → ∀ (H : Heap) (locs : List Loc) (ls : Array Slot), lv_has ls 4 [(0, .ref (a 81)), (2, .int v3)] → va_P D vwCl (wl a cA σ d) H → va_S A s.heap H locs → W p l e R s m args below meth c H locs 0 0 Q (F0 m 86 ls []) := by
      intro v3 hf H locs ls hl hP hS
      unfold j_X9_isWordAt_86 at hf
      refine lv_aload_n hx hb dX9_isWordAt_86 rfl (lv_at hl 0 rfl) ?_
      refine zg_X9_63 hx hb C hP (by decide) lay_81 rfl dX9_isWordAt_87 ?_
      refine lv_iload_n hx hb dX9_isWordAt_90 rfl (lv_at hl 1 rfl) ?_
      obtain ⟨hc3, hf⟩ := chk_some hf
      refine zz_iald hx hb C hP (by decide) lay_95 (inb_vp hc3) dX9_isWordAt_91 ?_
      refine lv_bipush (v := 32) hx hb dX9_isWordAt_92 (by decide) ?_
      refine lv_icmp_gt (tgt := 101) hx hb dX9_isWordAt_94 (by decide) (fun hb4 => ?_) (fun hb4 => ?_)
      · have hf := ifT hb4 hf
        refine lv_iconst (v := 0) hx hb dX9_isWordAt_101 (by decide) ?_
        have hf := Option.some.inj hf
        subst hf
        exact hQ _ _ _ _ dX9_isWordAt_102 (show narrow .boolean (.int 0) = .int 0 from rfl) hP hS
      · have hf := ifF hb4 hf
        refine lv_iconst (v := 1) hx hb dX9_isWordAt_97 (by decide) ?_
        refine lv_goto (tgt := 102) hx hb dX9_isWordAt_98 (by decide) ?_
        have hf := Option.some.inj hf
        subst hf
        exact hQ _ _ _ _ dX9_isWordAt_102 (show narrow .boolean (.int 1) = .int 1 from rfl) hP hS
    refine loopN_ind (P := fun (q6 : Int32 × Int32) => ∀ (H : Heap) (locs : List Loc) (ls : Array Slot), lv_has ls 4 [(0, .ref (a 81)), (2, .int q6.1), (3, .int q6.2)] → va_P D vwCl (wl a cA σ d) H → va_S A s.heap H locs → W p l e R s m args below meth c H locs 0 0 Q (F0 m 37 ls [])) ?_ _ _ hf _ _ _ (lv_sub hl [1, 2, 0] rfl) hP hS
    intro k7 ihk7 q6 hf H locs ls hl hP hS
    unfold b_X9_isWordAt_37 at hf
    refine lv_aload_n hx hb dX9_isWordAt_37 rfl (lv_at hl 0 rfl) ?_
    refine zg_X9_63 hx hb C hP (by decide) lay_81 rfl dX9_isWordAt_38 ?_
    refine lv_iload_n hx hb dX9_isWordAt_41 rfl (lv_at hl 1 rfl) ?_
    obtain ⟨hc7, hf⟩ := chk_some hf
    refine zz_iald hx hb C hP (by decide) lay_95 (inb_vp hc7) dX9_isWordAt_42 ?_
    refine lv_bipush (v := 32) hx hb dX9_isWordAt_43 (by decide) ?_
    refine lv_icmp_le (tgt := 86) hx hb dX9_isWordAt_45 (by decide) (fun hb8 => ?_) (fun hb8 => ?_)
    · have hf := ifT hb8 hf
      exact hJ86 _ hf _ _ _ (lv_sub hl [0, 1] rfl) hP hS
    · have hf := ifF hb8 hf
      refine lv_iload_n hx hb dX9_isWordAt_48 rfl (lv_at hl 2 rfl) ?_
      refine lv_aload_n hx hb dX9_isWordAt_49 rfl (lv_at hl 0 rfl) ?_
      refine zg_X9_156 hx hb C hP (by decide) lay_81 rfl dX9_isWordAt_50 ?_
      refine lv_icmp_ge (tgt := 86) hx hb dX9_isWordAt_53 (by decide) (fun hb9 => ?_) (fun hb9 => ?_)
      · have hf := ifT hb9 hf
        exact hJ86 _ hf _ _ _ (lv_sub hl [0, 1] rfl) hP hS
      · have hf := ifF hb9 hf
        refine lv_aload_n hx hb dX9_isWordAt_56 rfl (lv_at hl 0 rfl) ?_
        refine zg_X9_56 hx hb C hP (by decide) lay_81 rfl dX9_isWordAt_57 ?_
        refine lv_aload_n hx hb dX9_isWordAt_60 rfl (lv_at hl 0 rfl) ?_
        refine zg_X9_159 hx hb C hP (by decide) lay_81 rfl dX9_isWordAt_61 ?_
        refine lv_iload_n hx hb dX9_isWordAt_64 rfl (lv_at hl 2 rfl) ?_
        refine lv_iadd hx hb dX9_isWordAt_65 ?_
        obtain ⟨hc10, hf⟩ := chk_some hf
        refine zz_lald hx hb C hP (by decide) lay_93 (inb_vp hc10) dX9_isWordAt_66 ?_
        refine lv_l2i (v := (gJ σ 93 ((gI σ 81 25) + q6.2).toNatClampNeg).toInt32) hx hb dX9_isWordAt_67 rfl ?_
        refine lv_aload_n hx hb dX9_isWordAt_68 rfl (lv_at hl 0 rfl) ?_
        refine zg_X9_63 hx hb C hP (by decide) lay_81 rfl dX9_isWordAt_69 ?_
        refine lv_iload_n hx hb dX9_isWordAt_72 rfl (lv_at hl 1 rfl) ?_
        obtain ⟨hc11, hf⟩ := chk_some hf
        refine zz_iald hx hb C hP (by decide) lay_95 (inb_vp hc11) dX9_isWordAt_73 ?_
        refine lv_icmp_ne (tgt := 86) hx hb dX9_isWordAt_74 (by decide) (fun hb12 => ?_) (fun hb12 => ?_)
        · have hf := ifF hb12 hf
          exact hJ86 _ hf _ _ _ (lv_sub hl [0, 1] rfl) hP hS
        · have hf := ifT hb12 hf
          obtain ⟨v14, ev14⟩ : ∃ z : Int32, z = q6.2 + 1 := ⟨_, rfl⟩
          have hf := bnd_at v14 ev14 hf
          refine lv_iinc (v := v14) (lv' := [(3, .int v14), (0, .ref (a 81)), (2, .int q6.1)]) hx hb dX9_isWordAt_77 hl (k := 2) rfl (by rw [ev14]; rfl) (by decide) rfl (fun ls hl => ?_)
          obtain ⟨v15, ev15⟩ : ∃ z : Int32, z = q6.1 + 1 := ⟨_, rfl⟩
          have hf := bnd_at v15 ev15 hf
          refine lv_iinc (v := v15) (lv' := [(2, .int v15), (3, .int v14), (0, .ref (a 81))]) hx hb dX9_isWordAt_80 hl (k := 2) rfl (by rw [ev15]; rfl) (by decide) rfl (fun ls hl => ?_)
          refine lv_goto (tgt := 37) hx hb dX9_isWordAt_83 (by decide) ?_
          exact ihk7 _ hf _ _ _ (lv_sub hl [2, 0, 1] rfl) hP hS
  refine loopN_ind (P := fun (q16 : Int32 × Int32) => ∀ (H : Heap) (locs : List Loc) (ls : Array Slot), lv_has ls 4 [(0, .ref (a 81)), (1, .int p1), (2, .int q16.1), (3, .int q16.2)] → va_P D vwCl (wl a cA σ d) H → va_S A s.heap H locs → W p l e R s m args below meth c H locs 0 0 Q (F0 m 4 ls [])) ?_ _ _ hf _ _ _ (lv_sub hl [2, 3, 1, 0] rfl) hP hS
  intro k17 ihk17 q16 hf H locs ls hl hP hS
  unfold b_X9_isWordAt_4 at hf
  refine lv_iload_n hx hb dX9_isWordAt_4 rfl (lv_at hl 3 rfl) ?_
  refine lv_iload_n hx hb dX9_isWordAt_5 rfl (lv_at hl 1 rfl) ?_
  refine lv_icmp_ge (tgt := 32) hx hb dX9_isWordAt_6 (by decide) (fun hb17 => ?_) (fun hb17 => ?_)
  · have hf := ifT hb17 hf
    exact hJ32 _ hf _ _ _ (lv_sub hl [0, 2] rfl) hP hS
  · have hf := ifF hb17 hf
    refine lv_iload_n hx hb dX9_isWordAt_9 rfl (lv_at hl 3 rfl) ?_
    refine lv_aload_n hx hb dX9_isWordAt_10 rfl (lv_at hl 0 rfl) ?_
    refine zg_X9_63 hx hb C hP (by decide) lay_81 rfl dX9_isWordAt_11 ?_
    refine lv_iload_n hx hb dX9_isWordAt_14 rfl (lv_at hl 2 rfl) ?_
    obtain ⟨hc18, hf⟩ := chk_some hf
    refine zz_iald hx hb C hP (by decide) lay_95 (inb_vp hc18) dX9_isWordAt_15 ?_
    refine lv_if_ne (tgt := 23) hx hb dX9_isWordAt_16 (by decide) (fun hb19 => ?_) (fun hb19 => ?_)
    · have hf := ifF hb19 hf
      refine lv_iconst (v := 0) hx hb dX9_isWordAt_23 (by decide) ?_
      refine lv_iadd hx hb dX9_isWordAt_24 ?_
      refine lv_topi (fun v21 ev21 => ?_)
      have hf := bnd_at v21 ev21 hf
      refine lv_istore_n (lv' := [(3, .int v21), (0, .ref (a 81)), (1, .int p1), (2, .int q16.1)]) hx hb dX9_isWordAt_25 rfl hl (by decide) rfl (fun ls hl => ?_)
      obtain ⟨v22, ev22⟩ : ∃ z : Int32, z = q16.1 + 1 := ⟨_, rfl⟩
      have hf := bnd_at v22 ev22 hf
      refine lv_iinc (v := v22) (lv' := [(2, .int v22), (3, .int v21), (0, .ref (a 81)), (1, .int p1)]) hx hb dX9_isWordAt_26 hl (k := 3) rfl (by rw [ev22]; rfl) (by decide) rfl (fun ls hl => ?_)
      refine lv_goto (tgt := 4) hx hb dX9_isWordAt_29 (by decide) ?_
      exact ihk17 _ hf _ _ _ (lv_sub hl [2, 3, 0, 1] rfl) hP hS
    · have hf := ifT hb19 hf
      refine lv_iconst (v := 1) hx hb dX9_isWordAt_19 (by decide) ?_
      refine lv_goto (tgt := 24) hx hb dX9_isWordAt_20 (by decide) ?_
      refine lv_iadd hx hb dX9_isWordAt_24 ?_
      refine lv_topi (fun v23 ev23 => ?_)
      have hf := bnd_at v23 ev23 hf
      refine lv_istore_n (lv' := [(3, .int v23), (0, .ref (a 81)), (1, .int p1), (2, .int q16.1)]) hx hb dX9_isWordAt_25 rfl hl (by decide) rfl (fun ls hl => ?_)
      obtain ⟨v24, ev24⟩ : ∃ z : Int32, z = q16.1 + 1 := ⟨_, rfl⟩
      have hf := bnd_at v24 ev24 hf
      refine lv_iinc (v := v24) (lv' := [(2, .int v24), (3, .int v23), (0, .ref (a 81)), (1, .int p1)]) hx hb dX9_isWordAt_26 hl (k := 3) rfl (by rw [ev24]; rfl) (by decide) rfl (fun ls hl => ?_)
      refine lv_goto (tgt := 4) hx hb dX9_isWordAt_29 (by decide) ?_
      exact ihk17 _ hf _ _ _ (lv_sub hl [2, 3, 0, 1] rfl) hP hS
set_option maxHeartbeats 4000000 in
set_option maxRecDepth 100000 in
theorem c_X9_word (l : Launch) {D : va_G} {a : Nat → Nat} {cA : Nat → ClassId} {A : Nat → Prop} {sa : Nat → Nat} (hDA : DA a A) {σ : PH} {d : PD}  {u : Int32 × PH} (hf : f_X9_word σ = some u) : CTi l yX9_word cX9_word 6 (some .int) 0 0 D a cA A sa [.ref (a 81)] σ d u.1 u.2 d := by
  refine zz_metI zpl_X9 hDA (Nat.le_of_ble_eq_true rfl) ?_
  intro p e R s m args below meth c Q ls hx hb hml C hRf hRl hQ hP hS hl
  have hl : lv_has ls 6 [(0, .ref (a 81))] := hl
  unfold f_X9_word at hf
  refine lv_iconst (v := 0) hx hb dX9_word_0 (by decide) ?_
  refine lv_istore_n (lv' := [(1, .int 0), (0, .ref (a 81))]) hx hb dX9_word_1 rfl hl (by decide) rfl (fun ls hl => ?_)
  refine lv_aload_n hx hb dX9_word_2 rfl (lv_at hl 1 rfl) ?_
  refine zg_X9_153 hx hb C hP (by decide) lay_81 rfl dX9_word_3 ?_
  refine lv_topi (fun v1 ev1 => ?_)
  have hf := bnd_at v1 ev1 hf
  refine lv_istore_n (lv' := [(2, .int v1), (1, .int 0), (0, .ref (a 81))]) hx hb dX9_word_6 rfl hl (by decide) rfl (fun ls hl => ?_)
  refine lv_iconst (v := 0) hx hb dX9_word_7 (by decide) ?_
  refine lv_istore_n (lv' := [(3, .int 0), (2, .int v1), (1, .int 0), (0, .ref (a 81))]) hx hb dX9_word_8 rfl hl (by decide) rfl (fun ls hl => ?_)
  have hJ130 : ∀ (v2 : Int32), j_X9_word_130 σ v2 = some u → ∀ (H : Heap) (locs : List Loc) (ls : Array Slot), lv_has ls 6 [(0, .ref (a 81)), (2, .int v2)] → va_P D vwCl (wl a cA σ d) H → va_S A s.heap H locs → W p l e R s m args below meth c H locs 0 0 Q (F0 m 130 ls []) := by
    intro v2 hf H locs ls hl hP hS
    unfold j_X9_word_130 at hf
    refine lv_aload_n hx hb dX9_word_130 rfl (lv_at hl 0 rfl) ?_
    refine lv_iload_n hx hb dX9_word_131 rfl (lv_at hl 1 rfl) ?_
    refine zp_X9_150 hx hb C hP hS (by decide) lay_81 rfl dX9_word_132 (fun σ3 eσ3 H locs hP hS => ?_)
    have hf := bnd_at σ3 eσ3 hf
    refine lv_iconst (v := (-1)) hx hb dX9_word_135 (by decide) ?_
    have hf := Option.some.inj hf
    subst hf
    exact hQ _ _ _ _ dX9_word_136 hP hS
  have hJ85 : ∀ (v4 : Int32) (v5 : Int32), j_X9_word_85 σ v4 v5 = some u → ∀ (H : Heap) (locs : List Loc) (ls : Array Slot), lv_has ls 6 [(0, .ref (a 81)), (3, .int v4), (4, .int v5)] → va_P D vwCl (wl a cA σ d) H → va_S A s.heap H locs → W p l e R s m args below meth c H locs 0 0 Q (F0 m 85 ls []) := by
    intro v4 v5 hf H locs ls hl hP hS
    unfold j_X9_word_85 at hf
    refine lv_aload_n hx hb dX9_word_85 rfl (lv_at hl 0 rfl) ?_
    refine lv_iload hx hb dX9_word_86 (lv_at hl 2 rfl) ?_
    refine zp_X9_153 hx hb C hP hS (by decide) lay_81 rfl dX9_word_88 (fun σ6 eσ6 H locs hP hS => ?_)
    have hf := bnd_at σ6 eσ6 hf
    refine lv_iload_n hx hb dX9_word_91 rfl (lv_at hl 1 rfl) ?_
    have hf := Option.some.inj hf
    subst hf
    exact hQ _ _ _ _ dX9_word_92 hP hS
  refine loopN_ind (P := fun (q7 : Int32 × Int32 × Int32) => ∀ (H : Heap) (locs : List Loc) (ls : Array Slot), lv_has ls 6 [(0, .ref (a 81)), (1, .int q7.1), (2, .int q7.2.1), (3, .int q7.2.2)] → va_P D vwCl (wl a cA σ d) H → va_S A s.heap H locs → W p l e R s m args below meth c H locs 0 0 Q (F0 m 9 ls [])) ?_ _ _ hf _ _ _ (lv_sub hl [3, 2, 1, 0] rfl) hP hS
  intro k8 ihk8 q7 hf H locs ls hl hP hS
  unfold b_X9_word_9 at hf
  refine lv_iload_n hx hb dX9_word_9 rfl (lv_at hl 3 rfl) ?_
  refine lv_bipush (v := 7) hx hb dX9_word_10 (by decide) ?_
  refine lv_icmp_ge (tgt := 130) hx hb dX9_word_12 (by decide) (fun hb8 => ?_) (fun hb8 => ?_)
  · have hf := ifT hb8 hf
    exact hJ130 _ hf _ _ _ (lv_sub hl [0, 2] rfl) hP hS
  · have hf := ifF hb8 hf
    refine lv_aload_n hx hb dX9_word_15 rfl (lv_at hl 0 rfl) ?_
    refine zg_X9_153 hx hb C hP (by decide) lay_81 rfl dX9_word_16 ?_
    refine lv_topi (fun v10 ev10 => ?_)
    have hf := bnd_at v10 ev10 hf
    refine lv_istore (lv' := [(4, .int v10), (0, .ref (a 81)), (1, .int q7.1), (2, .int q7.2.1), (3, .int q7.2.2)]) hx hb dX9_word_19 hl (by decide) rfl (fun ls hl => ?_)
    refine lv_iload_n hx hb dX9_word_21 rfl (lv_at hl 2 rfl) ?_
    refine lv_istore (lv' := [(5, .int q7.1), (4, .int v10), (0, .ref (a 81)), (1, .int q7.1), (2, .int q7.2.1), (3, .int q7.2.2)]) hx hb dX9_word_22 hl (by decide) rfl (fun ls hl => ?_)
    have hJ75 : ∀ (v11 : Int32) (v12 : Int32), j_X9_word_75 σ q7 k8 v11 v12 = some u → ∀ (H : Heap) (locs : List Loc) (ls : Array Slot), lv_has ls 6 [(0, .ref (a 81)), (1, .int q7.1), (2, .int q7.2.1), (3, .int q7.2.2), (4, .int v11), (5, .int v12)] → va_P D vwCl (wl a cA σ d) H → va_S A s.heap H locs → W p l e R s m args below meth c H locs 0 0 Q (F0 m 75 ls []) := by
      intro v11 v12 hf H locs ls hl hP hS
      unfold j_X9_word_75 at hf
      refine lv_aload_n hx hb dX9_word_75 rfl (lv_at hl 0 rfl) ?_
      refine zg_X9_63 hx hb C hP (by decide) lay_81 rfl dX9_word_76 ?_
      refine lv_iload hx hb dX9_word_79 (lv_at hl 5 rfl) ?_
      obtain ⟨hc12, hf⟩ := chk_some hf
      refine zz_iald hx hb C hP (by decide) lay_95 (inb_vp hc12) dX9_word_81 ?_
      refine lv_if_ne (tgt := 93) hx hb dX9_word_82 (by decide) (fun hb13 => ?_) (fun hb13 => ?_)
      · have hf := ifF hb13 hf
        refine lv_iload hx hb dX9_word_93 (lv_at hl 4 rfl) ?_
        refine lv_iload_n hx hb dX9_word_95 rfl (lv_at hl 2 rfl) ?_
        have hJ105 : ∀ (v15 : Int32), j_X9_word_105 σ q7 k8 v15 = some u → ∀ (H : Heap) (locs : List Loc) (ls : Array Slot), lv_has ls 6 [(0, .ref (a 81)), (1, .int q7.1), (3, .int q7.2.2)] → va_P D vwCl (wl a cA σ d) H → va_S A s.heap H locs → W p l e R s m args below meth c H locs 0 0 Q (F0 m 105 ls [.int v15]) := by
          intro v15 hf H locs ls hl hP hS
          unfold j_X9_word_105 at hf
          refine lv_istore_n (lv' := [(2, .int v15), (0, .ref (a 81)), (1, .int q7.1), (3, .int q7.2.2)]) hx hb dX9_word_105 rfl hl (by decide) rfl (fun ls hl => ?_)
          refine loopN_ind (P := fun (q16 : Int32) => ∀ (H : Heap) (locs : List Loc) (ls : Array Slot), lv_has ls 6 [(0, .ref (a 81)), (1, .int q16), (2, .int v15), (3, .int q7.2.2)] → va_P D vwCl (wl a cA σ d) H → va_S A s.heap H locs → W p l e R s m args below meth c H locs 0 0 Q (F0 m 106 ls [])) ?_ _ _ hf _ _ _ (lv_sub hl [1, 2, 0, 3] rfl) hP hS
          intro k17 ihk17 q16 hf H locs ls hl hP hS
          unfold b_X9_word_106 at hf
          refine lv_aload_n hx hb dX9_word_106 rfl (lv_at hl 0 rfl) ?_
          refine zg_X9_63 hx hb C hP (by decide) lay_81 rfl dX9_word_107 ?_
          refine lv_iload_n hx hb dX9_word_110 rfl (lv_at hl 1 rfl) ?_
          obtain ⟨hc17, hf⟩ := chk_some hf
          refine zz_iald hx hb C hP (by decide) lay_95 (inb_vp hc17) dX9_word_111 ?_
          refine lv_if_eq (tgt := 121) hx hb dX9_word_112 (by decide) (fun hb18 => ?_) (fun hb18 => ?_)
          · have hf := ifT hb18 hf
            obtain ⟨v20, ev20⟩ : ∃ z : Int32, z = q16 + 1 := ⟨_, rfl⟩
            have hf := bnd_at v20 ev20 hf
            refine lv_iinc (v := v20) (lv' := [(1, .int v20), (0, .ref (a 81)), (2, .int v15), (3, .int q7.2.2)]) hx hb dX9_word_121 hl (k := 1) rfl (by rw [ev20]; rfl) (by decide) rfl (fun ls hl => ?_)
            obtain ⟨v21, ev21⟩ : ∃ z : Int32, z = q7.2.2 + 1 := ⟨_, rfl⟩
            have hf := bnd_at v21 ev21 hf
            refine lv_iinc (v := v21) (lv' := [(3, .int v21), (1, .int v20), (0, .ref (a 81)), (2, .int v15)]) hx hb dX9_word_124 hl (k := 3) rfl (by rw [ev21]; rfl) (by decide) rfl (fun ls hl => ?_)
            refine lv_goto (tgt := 9) hx hb dX9_word_127 (by decide) ?_
            exact ihk8 _ hf _ _ _ (lv_sub hl [2, 1, 3, 0] rfl) hP hS
          · have hf := ifF hb18 hf
            obtain ⟨v22, ev22⟩ : ∃ z : Int32, z = q16 + 1 := ⟨_, rfl⟩
            have hf := bnd_at v22 ev22 hf
            refine lv_iinc (v := v22) (lv' := [(1, .int v22), (0, .ref (a 81)), (2, .int v15), (3, .int q7.2.2)]) hx hb dX9_word_115 hl (k := 1) rfl (by rw [ev22]; rfl) (by decide) rfl (fun ls hl => ?_)
            refine lv_goto (tgt := 106) hx hb dX9_word_118 (by decide) ?_
            exact ihk17 _ hf _ _ _ (lv_sub hl [1, 0, 2, 3] rfl) hP hS
        refine lv_icmp_le (tgt := 104) hx hb dX9_word_96 (by decide) (fun hb22 => ?_) (fun hb22 => ?_)
        · have hf := ifT hb22 hf
          refine lv_iload_n hx hb dX9_word_104 rfl (lv_at hl 2 rfl) ?_
          exact hJ105 _ hf _ _ _ (lv_sub hl [0, 1, 3] rfl) hP hS
        · have hf := ifF hb22 hf
          refine lv_iload hx hb dX9_word_99 (lv_at hl 4 rfl) ?_
          refine lv_goto (tgt := 105) hx hb dX9_word_101 (by decide) ?_
          exact hJ105 _ hf _ _ _ (lv_sub hl [0, 1, 3] rfl) hP hS
      · have hf := ifT hb13 hf
        exact hJ85 _ _ hf _ _ _ (lv_sub hl [0, 3, 4] rfl) hP hS
    refine loopN_ind (P := fun (q24 : Int32 × Int32) => ∀ (H : Heap) (locs : List Loc) (ls : Array Slot), lv_has ls 6 [(0, .ref (a 81)), (1, .int q7.1), (2, .int q7.2.1), (3, .int q7.2.2), (4, .int q24.1), (5, .int q24.2)] → va_P D vwCl (wl a cA σ d) H → va_S A s.heap H locs → W p l e R s m args below meth c H locs 0 0 Q (F0 m 24 ls [])) ?_ _ _ hf _ _ _ (lv_sub hl [2, 3, 4, 5, 1, 0] rfl) hP hS
    intro k25 ihk25 q24 hf H locs ls hl hP hS
    unfold b_X9_word_24 at hf
    refine lv_aload_n hx hb dX9_word_24 rfl (lv_at hl 0 rfl) ?_
    refine zg_X9_63 hx hb C hP (by decide) lay_81 rfl dX9_word_25 ?_
    refine lv_iload hx hb dX9_word_28 (lv_at hl 5 rfl) ?_
    obtain ⟨hc25, hf⟩ := chk_some hf
    refine zz_iald hx hb C hP (by decide) lay_95 (inb_vp hc25) dX9_word_30 ?_
    refine lv_if_eq (tgt := 75) hx hb dX9_word_31 (by decide) (fun hb26 => ?_) (fun hb26 => ?_)
    · have hf := ifT hb26 hf
      exact hJ75 _ _ hf _ _ _ (lv_sub hl [0, 1, 2, 3, 4, 5] rfl) hP hS
    · have hf := ifF hb26 hf
      refine lv_iload hx hb dX9_word_34 (lv_at hl 4 rfl) ?_
      refine lv_aload_n hx hb dX9_word_36 rfl (lv_at hl 0 rfl) ?_
      refine zg_X9_156 hx hb C hP (by decide) lay_81 rfl dX9_word_37 ?_
      refine lv_icmp_ge (tgt := 75) hx hb dX9_word_40 (by decide) (fun hb27 => ?_) (fun hb27 => ?_)
      · have hf := ifT hb27 hf
        exact hJ75 _ _ hf _ _ _ (lv_sub hl [0, 1, 2, 3, 4, 5] rfl) hP hS
      · have hf := ifF hb27 hf
        refine lv_aload_n hx hb dX9_word_43 rfl (lv_at hl 0 rfl) ?_
        refine zg_X9_56 hx hb C hP (by decide) lay_81 rfl dX9_word_44 ?_
        refine lv_aload_n hx hb dX9_word_47 rfl (lv_at hl 0 rfl) ?_
        refine zg_X9_159 hx hb C hP (by decide) lay_81 rfl dX9_word_48 ?_
        refine lv_iload hx hb dX9_word_51 (lv_at hl 4 rfl) ?_
        refine lv_iadd hx hb dX9_word_53 ?_
        obtain ⟨hc28, hf⟩ := chk_some hf
        refine zz_lald hx hb C hP (by decide) lay_93 (inb_vp hc28) dX9_word_54 ?_
        refine lv_l2i (v := (gJ σ 93 ((gI σ 81 25) + q24.1).toNatClampNeg).toInt32) hx hb dX9_word_55 rfl ?_
        refine lv_aload_n hx hb dX9_word_56 rfl (lv_at hl 0 rfl) ?_
        refine zg_X9_63 hx hb C hP (by decide) lay_81 rfl dX9_word_57 ?_
        refine lv_iload hx hb dX9_word_60 (lv_at hl 5 rfl) ?_
        obtain ⟨hc29, hf⟩ := chk_some hf
        refine zz_iald hx hb C hP (by decide) lay_95 (inb_vp hc29) dX9_word_62 ?_
        refine lv_icmp_ne (tgt := 75) hx hb dX9_word_63 (by decide) (fun hb30 => ?_) (fun hb30 => ?_)
        · have hf := ifF hb30 hf
          exact hJ75 _ _ hf _ _ _ (lv_sub hl [0, 1, 2, 3, 4, 5] rfl) hP hS
        · have hf := ifT hb30 hf
          obtain ⟨v32, ev32⟩ : ∃ z : Int32, z = q24.1 + 1 := ⟨_, rfl⟩
          have hf := bnd_at v32 ev32 hf
          refine lv_iinc (v := v32) (lv' := [(4, .int v32), (0, .ref (a 81)), (1, .int q7.1), (2, .int q7.2.1), (3, .int q7.2.2), (5, .int q24.2)]) hx hb dX9_word_66 hl (k := 4) rfl (by rw [ev32]; rfl) (by decide) rfl (fun ls hl => ?_)
          obtain ⟨v33, ev33⟩ : ∃ z : Int32, z = q24.2 + 1 := ⟨_, rfl⟩
          have hf := bnd_at v33 ev33 hf
          refine lv_iinc (v := v33) (lv' := [(5, .int v33), (4, .int v32), (0, .ref (a 81)), (1, .int q7.1), (2, .int q7.2.1), (3, .int q7.2.2)]) hx hb dX9_word_69 hl (k := 5) rfl (by rw [ev33]; rfl) (by decide) rfl (fun ls hl => ?_)
          refine lv_goto (tgt := 24) hx hb dX9_word_72 (by decide) ?_
          exact ihk25 _ hf _ _ _ (lv_sub hl [2, 3, 4, 5, 1, 0] rfl) hP hS
set_option maxHeartbeats 4000000 in
set_option maxRecDepth 100000 in
theorem c_X9_isDigit (l : Launch) {D : va_G} {a : Nat → Nat} {cA : Nat → ClassId} {A : Nat → Prop} {sa : Nat → Nat} (hDA : DA a A) {σ : PH} {d : PD}  {u : Int32} (hf : f_X9_isDigit σ = some u) : CTi l yX9_isDigit cX9_isDigit 1 (some .boolean) 0 0 D a cA A sa [.ref (a 81)] σ d u σ d := by
  refine zz_metZ zpl_X9 hDA (Nat.le_of_ble_eq_true rfl) ?_
  intro p e R s m args below meth c Q ls hx hb hml C hRf hRl hQ hP hS hl
  have hl : lv_has ls 1 [(0, .ref (a 81))] := hl
  unfold f_X9_isDigit at hf
  refine lv_aload_n hx hb dX9_isDigit_0 rfl (lv_at hl 0 rfl) ?_
  refine zg_X9_153 hx hb C hP (by decide) lay_81 rfl dX9_isDigit_1 ?_
  refine lv_aload_n hx hb dX9_isDigit_4 rfl (lv_at hl 0 rfl) ?_
  refine zg_X9_156 hx hb C hP (by decide) lay_81 rfl dX9_isDigit_5 ?_
  refine lv_icmp_ge (tgt := 55) hx hb dX9_isDigit_8 (by decide) (fun hb0 => ?_) (fun hb0 => ?_)
  · have hf := ifT hb0 hf
    refine lv_iconst (v := 0) hx hb dX9_isDigit_55 (by decide) ?_
    have hf := Option.some.inj hf
    subst hf
    exact hQ _ _ _ _ dX9_isDigit_56 (show narrow .boolean (.int 0) = .int 0 from rfl) hP hS
  · have hf := ifF hb0 hf
    refine lv_aload_n hx hb dX9_isDigit_11 rfl (lv_at hl 0 rfl) ?_
    refine zg_X9_56 hx hb C hP (by decide) lay_81 rfl dX9_isDigit_12 ?_
    refine lv_aload_n hx hb dX9_isDigit_15 rfl (lv_at hl 0 rfl) ?_
    refine zg_X9_159 hx hb C hP (by decide) lay_81 rfl dX9_isDigit_16 ?_
    refine lv_aload_n hx hb dX9_isDigit_19 rfl (lv_at hl 0 rfl) ?_
    refine zg_X9_153 hx hb C hP (by decide) lay_81 rfl dX9_isDigit_20 ?_
    refine lv_iadd hx hb dX9_isDigit_23 ?_
    obtain ⟨hc1, hf⟩ := chk_some hf
    refine zz_lald hx hb C hP (by decide) lay_93 (inb_vp hc1) dX9_isDigit_24 ?_
    refine lv_l2i (v := (gJ σ 93 ((gI σ 81 25) + (gI σ 81 26)).toNatClampNeg).toInt32) hx hb dX9_isDigit_25 rfl ?_
    refine lv_bipush (v := 48) hx hb dX9_isDigit_26 (by decide) ?_
    refine lv_icmp_lt (tgt := 55) hx hb dX9_isDigit_28 (by decide) (fun hb2 => ?_) (fun hb2 => ?_)
    · have hf := ifT hb2 hf
      refine lv_iconst (v := 0) hx hb dX9_isDigit_55 (by decide) ?_
      have hf := Option.some.inj hf
      subst hf
      exact hQ _ _ _ _ dX9_isDigit_56 (show narrow .boolean (.int 0) = .int 0 from rfl) hP hS
    · have hf := ifF hb2 hf
      refine lv_aload_n hx hb dX9_isDigit_31 rfl (lv_at hl 0 rfl) ?_
      refine zg_X9_56 hx hb C hP (by decide) lay_81 rfl dX9_isDigit_32 ?_
      refine lv_aload_n hx hb dX9_isDigit_35 rfl (lv_at hl 0 rfl) ?_
      refine zg_X9_159 hx hb C hP (by decide) lay_81 rfl dX9_isDigit_36 ?_
      refine lv_aload_n hx hb dX9_isDigit_39 rfl (lv_at hl 0 rfl) ?_
      refine zg_X9_153 hx hb C hP (by decide) lay_81 rfl dX9_isDigit_40 ?_
      refine lv_iadd hx hb dX9_isDigit_43 ?_
      obtain ⟨hc3, hf⟩ := chk_some hf
      refine zz_lald hx hb C hP (by decide) lay_93 (inb_vp hc3) dX9_isDigit_44 ?_
      refine lv_l2i (v := (gJ σ 93 ((gI σ 81 25) + (gI σ 81 26)).toNatClampNeg).toInt32) hx hb dX9_isDigit_45 rfl ?_
      refine lv_bipush (v := 57) hx hb dX9_isDigit_46 (by decide) ?_
      refine lv_icmp_gt (tgt := 55) hx hb dX9_isDigit_48 (by decide) (fun hb4 => ?_) (fun hb4 => ?_)
      · have hf := ifT hb4 hf
        refine lv_iconst (v := 0) hx hb dX9_isDigit_55 (by decide) ?_
        have hf := Option.some.inj hf
        subst hf
        exact hQ _ _ _ _ dX9_isDigit_56 (show narrow .boolean (.int 0) = .int 0 from rfl) hP hS
      · have hf := ifF hb4 hf
        refine lv_iconst (v := 1) hx hb dX9_isDigit_51 (by decide) ?_
        refine lv_goto (tgt := 56) hx hb dX9_isDigit_52 (by decide) ?_
        have hf := Option.some.inj hf
        subst hf
        exact hQ _ _ _ _ dX9_isDigit_56 (show narrow .boolean (.int 1) = .int 1 from rfl) hP hS
set_option maxHeartbeats 4000000 in
set_option maxRecDepth 100000 in
theorem c_X9_reads (l : Launch) {D : va_G} {a : Nat → Nat} {cA : Nat → ClassId} {A : Nat → Prop} {sa : Nat → Nat} (hDA : DA a A) {σ : PH} {d : PD}  {u : Int32 × PH} (hf : f_X9_reads σ = some u) : CTi l yX9_reads cX9_reads 2 (some .boolean) 1 21 D a cA A sa [.ref (a 81)] σ d u.1 u.2 d := by
  refine zz_metZ zpl_X9 hDA (Nat.le_of_ble_eq_true rfl) ?_
  intro p e R s m args below meth c Q ls hx hb hml C hRf hRl hQ hP hS hl
  have hl : lv_has ls 2 [(0, .ref (a 81))] := hl
  unfold f_X9_reads at hf
  refine lv_aload_n hx hb dX9_reads_0 rfl (lv_at hl 0 rfl) ?_
  refine lv_iconst (v := 0) hx hb dX9_reads_1 (by decide) ?_
  refine zp_X9_162 hx hb C hP hS (by decide) lay_81 rfl dX9_reads_2 (fun σ1 eσ1 H locs hP hS => ?_)
  have hf := bnd_at σ1 eσ1 hf
  refine lv_aload_n hx hb dX9_reads_5 rfl (lv_at hl 0 rfl) ?_
  obtain ⟨u2, hzu2, hf⟩ := obd_some hf
  refine zz_callVi (rest := []) hx hb hml C hP hS (c_X9_isDigit l hDA  hzu2) zw_X9_165 ⟨Nat.le_trans (Nat.le_of_ble_eq_true rfl) hRf, Nat.le_trans (Nat.le_of_ble_eq_true rfl) hRl⟩ (by decide) lay_81 rfl rfl hl.1 (Nat.le_of_ble_eq_true rfl) ⟨Nat.zero_le _, Nat.zero_le _⟩ rfl dX9_reads_6 (fun H locs hP hS => ?_)
  refine lv_if_ne (tgt := 21) hx hb dX9_reads_9 (by decide) (fun hb2 => ?_) (fun hb2 => ?_)
  · have hf := ifF hb2 hf
    refine lv_iconst (v := 0) hx hb dX9_reads_21 (by decide) ?_
    refine lv_istore_n (lv' := [(1, .int 0), (0, .ref (a 81))]) hx hb dX9_reads_22 rfl hl (by decide) rfl (fun ls hl => ?_)
    refine loopN_ind (P := fun (q4 : Int32 × PH) => ∀ (H : Heap) (locs : List Loc) (ls : Array Slot), lv_has ls 2 [(0, .ref (a 81)), (1, .int q4.1)] → va_P D vwCl (wl a cA q4.2 d) H → va_S A s.heap H locs → W p l e R s m args below meth c H locs 0 0 Q (F0 m 23 ls [])) ?_ _ _ hf _ _ _ (lv_sub hl [1, 0] rfl) hP hS
    intro k5 ihk5 q4 hf H locs ls hl hP hS
    unfold b_X9_reads_23 at hf
    refine lv_iload_n hx hb dX9_reads_23 rfl (lv_at hl 1 rfl) ?_
    refine lv_iconst (v := 3) hx hb dX9_reads_24 (by decide) ?_
    refine lv_icmp_ge (tgt := 81) hx hb dX9_reads_25 (by decide) (fun hb5 => ?_) (fun hb5 => ?_)
    · have hf := ifT hb5 hf
      refine lv_iconst (v := 1) hx hb dX9_reads_81 (by decide) ?_
      have hf := Option.some.inj hf
      subst hf
      exact hQ _ _ _ _ dX9_reads_82 (show narrow .boolean (.int 1) = .int 1 from rfl) hP hS
    · have hf := ifF hb5 hf
      refine lv_aload_n hx hb dX9_reads_28 rfl (lv_at hl 0 rfl) ?_
      obtain ⟨u7, hzu7, hf⟩ := obd_some hf
      refine zz_callVi (rest := []) hx hb hml C hP hS (c_X9_isDigit l hDA  hzu7) zw_X9_165 ⟨Nat.le_trans (Nat.le_of_ble_eq_true rfl) hRf, Nat.le_trans (Nat.le_of_ble_eq_true rfl) hRl⟩ (by decide) lay_81 rfl rfl hl.1 (Nat.le_of_ble_eq_true rfl) ⟨Nat.zero_le _, Nat.zero_le _⟩ rfl dX9_reads_29 (fun H locs hP hS => ?_)
      refine lv_if_eq (tgt := 81) hx hb dX9_reads_32 (by decide) (fun hb7 => ?_) (fun hb7 => ?_)
      · have hf := ifT hb7 hf
        refine lv_iconst (v := 1) hx hb dX9_reads_81 (by decide) ?_
        have hf := Option.some.inj hf
        subst hf
        exact hQ _ _ _ _ dX9_reads_82 (show narrow .boolean (.int 1) = .int 1 from rfl) hP hS
      · have hf := ifF hb7 hf
        refine lv_aload_n hx hb dX9_reads_35 rfl (lv_at hl 0 rfl) ?_
        refine lv_bipush (v := 10) hx hb dX9_reads_36 (by decide) ?_
        refine lv_aload_n hx hb dX9_reads_38 rfl (lv_at hl 0 rfl) ?_
        refine zg_X9_162 hx hb C hP (by decide) lay_81 rfl dX9_reads_39 ?_
        refine lv_imul hx hb dX9_reads_42 ?_
        refine lv_aload_n hx hb dX9_reads_43 rfl (lv_at hl 0 rfl) ?_
        refine zg_X9_56 hx hb C hP (by decide) lay_81 rfl dX9_reads_44 ?_
        refine lv_aload_n hx hb dX9_reads_47 rfl (lv_at hl 0 rfl) ?_
        refine zg_X9_159 hx hb C hP (by decide) lay_81 rfl dX9_reads_48 ?_
        refine lv_aload_n hx hb dX9_reads_51 rfl (lv_at hl 0 rfl) ?_
        refine zg_X9_153 hx hb C hP (by decide) lay_81 rfl dX9_reads_52 ?_
        refine lv_iadd hx hb dX9_reads_55 ?_
        obtain ⟨hc8, hf⟩ := chk_some hf
        refine zz_lald hx hb C hP (by decide) lay_93 (inb_vp hc8) dX9_reads_56 ?_
        refine lv_l2i (v := (gJ q4.2 93 ((gI q4.2 81 25) + (gI q4.2 81 26)).toNatClampNeg).toInt32) hx hb dX9_reads_57 rfl ?_
        refine lv_iadd hx hb dX9_reads_58 ?_
        refine lv_bipush (v := 48) hx hb dX9_reads_59 (by decide) ?_
        refine lv_isub hx hb dX9_reads_61 ?_
        refine zp_X9_162 hx hb C hP hS (by decide) lay_81 rfl dX9_reads_62 (fun σ10 eσ10 H locs hP hS => ?_)
        have hf := bnd_at σ10 eσ10 hf
        refine lv_aload_n hx hb dX9_reads_65 rfl (lv_at hl 0 rfl) ?_
        refine lv_dup hx hb dX9_reads_66 rfl ?_
        refine zg_X9_153 hx hb C hP (by decide) lay_81 rfl dX9_reads_67 ?_
        refine lv_iconst (v := 1) hx hb dX9_reads_70 (by decide) ?_
        refine lv_iadd hx hb dX9_reads_71 ?_
        refine zp_X9_153 hx hb C hP hS (by decide) lay_81 rfl dX9_reads_72 (fun σ11 eσ11 H locs hP hS => ?_)
        have hf := bnd_at σ11 eσ11 hf
        obtain ⟨v12, ev12⟩ : ∃ z : Int32, z = q4.1 + 1 := ⟨_, rfl⟩
        have hf := bnd_at v12 ev12 hf
        refine lv_iinc (v := v12) (lv' := [(1, .int v12), (0, .ref (a 81))]) hx hb dX9_reads_75 hl (k := 1) rfl (by rw [ev12]; rfl) (by decide) rfl (fun ls hl => ?_)
        refine lv_goto (tgt := 23) hx hb dX9_reads_78 (by decide) ?_
        exact ihk5 _ hf _ _ _ (lv_sub hl [1, 0] rfl) hP hS
  · have hf := ifT hb2 hf
    refine lv_aload_n hx hb dX9_reads_12 rfl (lv_at hl 0 rfl) ?_
    refine lv_aload_n hx hb dX9_reads_13 rfl (lv_at hl 0 rfl) ?_
    refine zg_X9_153 hx hb C hP (by decide) lay_81 rfl dX9_reads_14 ?_
    obtain ⟨u13, hzu13⟩ : ∃ z, z = f_X9_wrong σ1 (gI σ1 81 26) := ⟨_, rfl⟩
    have hf := bnd_at u13 hzu13 hf
    refine zz_callVi (rest := []) hx hb hml C hP hS (c_X9_wrong l hDA (gI σ1 81 26) hzu13.symm) zw_X9_169 ⟨Nat.le_trans (Nat.le_of_ble_eq_true rfl) hRf, Nat.le_trans (Nat.le_of_ble_eq_true rfl) hRl⟩ (by decide) lay_81 rfl rfl hl.1 (Nat.le_of_ble_eq_true rfl) ⟨Nat.zero_le _, Nat.zero_le _⟩ rfl dX9_reads_17 (fun H locs hP hS => ?_)
    obtain ⟨hc13, hf⟩ := chk_some hf
    have hf := Option.some.inj hf
    subst hf
    exact hQ _ _ _ _ dX9_reads_20 (show narrow .boolean (.int u13.1) = .int u13.1 from congrArg Value.int hc13) hP hS
set_option maxHeartbeats 4000000 in
set_option maxRecDepth 100000 in
theorem c_X9_mayBe (l : Launch) {D : va_G} {a : Nat → Nat} {cA : Nat → ClassId} {A : Nat → Prop} {sa : Nat → Nat} (hDA : DA a A) {σ : PH} {d : PD} (p1 : Int32) (p2 : Int32) {u : Int32 × PH} (hf : f_X9_mayBe σ p1 p2 = some u) : CTi l yX9_mayBe cX9_mayBe 4 (some .boolean) 6 140 D a cA A sa [.ref (a 81), .int p1, .int p2] σ d u.1 u.2 d := by
  refine zz_metZ zpl_X9 hDA (Nat.le_of_ble_eq_true rfl) ?_
  intro p e R s m args below meth c Q ls hx hb hml C hRf hRl hQ hP hS hl
  have hl : lv_has ls 4 [(0, .ref (a 81)), (1, .int p1), (2, .int p2)] := hl
  unfold f_X9_mayBe at hf
  refine lv_aload_n hx hb dX9_mayBe_0 rfl (lv_at hl 0 rfl) ?_
  obtain ⟨u1, hzu1, hf⟩ := obd_some hf
  refine zz_callVi (rest := []) hx hb hml C hP hS (c_X9_possible l hDA  hzu1) zw_X9_239 ⟨Nat.le_trans (Nat.le_of_ble_eq_true rfl) hRf, Nat.le_trans (Nat.le_of_ble_eq_true rfl) hRl⟩ (by decide) lay_81 rfl rfl hl.1 (Nat.le_of_ble_eq_true rfl) ⟨Nat.zero_le _, Nat.zero_le _⟩ rfl dX9_mayBe_1 (fun H locs hP hS => ?_)
  refine lv_istore_n (lv' := [(3, .int u1.1), (0, .ref (a 81)), (1, .int p1), (2, .int p2)]) hx hb dX9_mayBe_4 rfl hl (by decide) rfl (fun ls hl => ?_)
  refine lv_aload_n hx hb dX9_mayBe_5 rfl (lv_at hl 1 rfl) ?_
  refine lv_iload_n hx hb dX9_mayBe_6 rfl (lv_at hl 0 rfl) ?_
  refine lv_iload_n hx hb dX9_mayBe_7 rfl (lv_at hl 2 rfl) ?_
  refine lv_iload_n hx hb dX9_mayBe_8 rfl (lv_at hl 3 rfl) ?_
  obtain ⟨u2, hzu2, hf⟩ := obd_some hf
  refine zz_callVi (rest := []) hx hb hml C hP hS (c_X9_stays l hDA u1.1 p1 p2 hzu2) zw_X9_236 ⟨Nat.le_trans (Nat.le_of_ble_eq_true rfl) hRf, Nat.le_trans (Nat.le_of_ble_eq_true rfl) hRl⟩ (by decide) lay_81 rfl rfl hl.1 (Nat.le_of_ble_eq_true rfl) ⟨Nat.zero_le _, Nat.zero_le _⟩ rfl dX9_mayBe_9 (fun H locs hP hS => ?_)
  refine lv_if_le (tgt := 19) hx hb dX9_mayBe_12 (by decide) (fun hb2 => ?_) (fun hb2 => ?_)
  · have hf := ifT hb2 hf
    refine lv_iconst (v := 0) hx hb dX9_mayBe_19 (by decide) ?_
    have hf := Option.some.inj hf
    subst hf
    exact hQ _ _ _ _ dX9_mayBe_20 (show narrow .boolean (.int 0) = .int 0 from rfl) hP hS
  · have hf := ifF hb2 hf
    refine lv_iconst (v := 1) hx hb dX9_mayBe_15 (by decide) ?_
    refine lv_goto (tgt := 20) hx hb dX9_mayBe_16 (by decide) ?_
    have hf := Option.some.inj hf
    subst hf
    exact hQ _ _ _ _ dX9_mayBe_20 (show narrow .boolean (.int 1) = .int 1 from rfl) hP hS
set_option maxHeartbeats 4000000 in
set_option maxRecDepth 100000 in
theorem c_X9_isSo (l : Launch) {D : va_G} {a : Nat → Nat} {cA : Nat → ClassId} {A : Nat → Prop} {sa : Nat → Nat} (hDA : DA a A) {σ : PH} {d : PD} (p1 : Int32) (p2 : Int32) {u : Int32 × PH} (hf : f_X9_isSo σ p1 p2 = some u) : CTi l yX9_isSo cX9_isSo 3 (some .boolean) 7 163 D a cA A sa [.ref (a 81), .int p1, .int p2] σ d u.1 u.2 d := by
  refine zz_metZ zpl_X9 hDA (Nat.le_of_ble_eq_true rfl) ?_
  intro p e R s m args below meth c Q ls hx hb hml C hRf hRl hQ hP hS hl
  have hl : lv_has ls 3 [(0, .ref (a 81)), (1, .int p1), (2, .int p2)] := hl
  unfold f_X9_isSo at hf
  refine lv_iload_n hx hb dX9_isSo_0 rfl (lv_at hl 1 rfl) ?_
  by_cases hb0 : p1 = 0
  · have hf := ifT hb0 hf
    refine lv_lookup (off := 35) (tgt := 36) hx hb dX9_isSo_1 (by decide) (by rw [hb0]; decide) (by decide) ?_
    refine lv_iload_n hx hb dX9_isSo_36 rfl (lv_at hl 2 rfl) ?_
    refine lv_if_ne (tgt := 57) hx hb dX9_isSo_37 (by decide) (fun hb1 => ?_) (fun hb1 => ?_)
    · have hf := ifF hb1 hf
      refine lv_iload_n hx hb dX9_isSo_57 rfl (lv_at hl 2 rfl) ?_
      refine lv_iconst (v := 1) hx hb dX9_isSo_58 (by decide) ?_
      refine lv_icmp_ne (tgt := 79) hx hb dX9_isSo_59 (by decide) (fun hb2 => ?_) (fun hb2 => ?_)
      · have hf := ifF hb2 hf
        refine lv_aload_n hx hb dX9_isSo_79 rfl (lv_at hl 0 rfl) ?_
        refine zg_X9_162 hx hb C hP (by decide) lay_81 rfl dX9_isSo_80 ?_
        refine lv_iconst (v := 1) hx hb dX9_isSo_83 (by decide) ?_
        refine lv_icmp_lt (tgt := 100) hx hb dX9_isSo_84 (by decide) (fun hb3 => ?_) (fun hb3 => ?_)
        · have hf := ifT hb3 hf
          refine lv_iconst (v := 0) hx hb dX9_isSo_100 (by decide) ?_
          have hf := Option.some.inj hf
          subst hf
          exact hQ _ _ _ _ dX9_isSo_101 (show narrow .boolean (.int 0) = .int 0 from rfl) hP hS
        · have hf := ifF hb3 hf
          refine lv_aload_n hx hb dX9_isSo_87 rfl (lv_at hl 0 rfl) ?_
          refine zg_X9_162 hx hb C hP (by decide) lay_81 rfl dX9_isSo_88 ?_
          refine lv_bipush (v := 9) hx hb dX9_isSo_91 (by decide) ?_
          refine lv_icmp_gt (tgt := 100) hx hb dX9_isSo_93 (by decide) (fun hb4 => ?_) (fun hb4 => ?_)
          · have hf := ifT hb4 hf
            refine lv_iconst (v := 0) hx hb dX9_isSo_100 (by decide) ?_
            have hf := Option.some.inj hf
            subst hf
            exact hQ _ _ _ _ dX9_isSo_101 (show narrow .boolean (.int 0) = .int 0 from rfl) hP hS
          · have hf := ifF hb4 hf
            refine lv_iconst (v := 1) hx hb dX9_isSo_96 (by decide) ?_
            refine lv_goto (tgt := 101) hx hb dX9_isSo_97 (by decide) ?_
            have hf := Option.some.inj hf
            subst hf
            exact hQ _ _ _ _ dX9_isSo_101 (show narrow .boolean (.int 1) = .int 1 from rfl) hP hS
      · have hf := ifT hb2 hf
        refine lv_aload_n hx hb dX9_isSo_62 rfl (lv_at hl 0 rfl) ?_
        refine zg_X9_162 hx hb C hP (by decide) lay_81 rfl dX9_isSo_63 ?_
        refine lv_bipush (v := 9) hx hb dX9_isSo_66 (by decide) ?_
        refine lv_icmp_gt (tgt := 75) hx hb dX9_isSo_68 (by decide) (fun hb5 => ?_) (fun hb5 => ?_)
        · have hf := ifT hb5 hf
          refine lv_iconst (v := 0) hx hb dX9_isSo_75 (by decide) ?_
          refine lv_goto (tgt := 101) hx hb dX9_isSo_76 (by decide) ?_
          have hf := Option.some.inj hf
          subst hf
          exact hQ _ _ _ _ dX9_isSo_101 (show narrow .boolean (.int 0) = .int 0 from rfl) hP hS
        · have hf := ifF hb5 hf
          refine lv_iconst (v := 1) hx hb dX9_isSo_71 (by decide) ?_
          refine lv_goto (tgt := 101) hx hb dX9_isSo_72 (by decide) ?_
          have hf := Option.some.inj hf
          subst hf
          exact hQ _ _ _ _ dX9_isSo_101 (show narrow .boolean (.int 1) = .int 1 from rfl) hP hS
    · have hf := ifT hb1 hf
      refine lv_aload_n hx hb dX9_isSo_40 rfl (lv_at hl 0 rfl) ?_
      refine zg_X9_162 hx hb C hP (by decide) lay_81 rfl dX9_isSo_41 ?_
      refine lv_bipush (v := 6) hx hb dX9_isSo_44 (by decide) ?_
      refine lv_icmp_gt (tgt := 53) hx hb dX9_isSo_46 (by decide) (fun hb6 => ?_) (fun hb6 => ?_)
      · have hf := ifT hb6 hf
        refine lv_iconst (v := 0) hx hb dX9_isSo_53 (by decide) ?_
        refine lv_goto (tgt := 101) hx hb dX9_isSo_54 (by decide) ?_
        have hf := Option.some.inj hf
        subst hf
        exact hQ _ _ _ _ dX9_isSo_101 (show narrow .boolean (.int 0) = .int 0 from rfl) hP hS
      · have hf := ifF hb6 hf
        refine lv_iconst (v := 1) hx hb dX9_isSo_49 (by decide) ?_
        refine lv_goto (tgt := 101) hx hb dX9_isSo_50 (by decide) ?_
        have hf := Option.some.inj hf
        subst hf
        exact hQ _ _ _ _ dX9_isSo_101 (show narrow .boolean (.int 1) = .int 1 from rfl) hP hS
  have hf := ifF hb0 hf
  by_cases hb7 : p1 = 5
  · have hf := ifT hb7 hf
    refine lv_lookup (off := 101) (tgt := 102) hx hb dX9_isSo_1 (by decide) (by rw [hb7]; decide) (by decide) ?_
    refine lv_iload_n hx hb dX9_isSo_102 rfl (lv_at hl 2 rfl) ?_
    refine lv_if_ne (tgt := 117) hx hb dX9_isSo_103 (by decide) (fun hb8 => ?_) (fun hb8 => ?_)
    · have hf := ifF hb8 hf
      refine lv_aload_n hx hb dX9_isSo_117 rfl (lv_at hl 0 rfl) ?_
      refine lv_aload_n hx hb dX9_isSo_118 rfl (lv_at hl 0 rfl) ?_
      refine zg_X9_162 hx hb C hP (by decide) lay_81 rfl dX9_isSo_119 ?_
      obtain ⟨u10, hzu10⟩ : ∃ z, z = f_X9_isOne (gI σ 81 28) := ⟨_, rfl⟩
      have hf := bnd_at u10 hzu10 hf
      refine zz_callVi (rest := []) hx hb hml C hP hS (c_X9_isOne l hDA (gI σ 81 28) hzu10.symm) zw_X9_175 ⟨Nat.le_trans (Nat.le_of_ble_eq_true rfl) hRf, Nat.le_trans (Nat.le_of_ble_eq_true rfl) hRl⟩ (by decide) lay_81 rfl rfl hl.1 (Nat.le_of_ble_eq_true rfl) ⟨Nat.zero_le _, Nat.zero_le _⟩ rfl dX9_isSo_122 (fun H locs hP hS => ?_)
      refine lv_if_eq (tgt := 149) hx hb dX9_isSo_125 (by decide) (fun hb10 => ?_) (fun hb10 => ?_)
      · have hf := ifT hb10 hf
        refine lv_iconst (v := 0) hx hb dX9_isSo_149 (by decide) ?_
        have hf := Option.some.inj hf
        subst hf
        exact hQ _ _ _ _ dX9_isSo_150 (show narrow .boolean (.int 0) = .int 0 from rfl) hP hS
      · have hf := ifF hb10 hf
        refine lv_aload_n hx hb dX9_isSo_128 rfl (lv_at hl 0 rfl) ?_
        refine lv_aload_n hx hb dX9_isSo_129 rfl (lv_at hl 0 rfl) ?_
        refine zg_X9_69 hx hb C hP (by decide) lay_81 rfl dX9_isSo_130 ?_
        refine lv_iconst (v := 0) hx hb dX9_isSo_133 (by decide) ?_
        refine zz_iald hx hb C hP (by decide) lay_97 (inb_vp (by decide)) dX9_isSo_134 ?_
        refine lv_aload_n hx hb dX9_isSo_135 rfl (lv_at hl 0 rfl) ?_
        refine zg_X9_162 hx hb C hP (by decide) lay_81 rfl dX9_isSo_136 ?_
        obtain ⟨u12, hzu12, hf⟩ := obd_some hf
        refine zz_callVi (rest := []) hx hb hml C hP hS (c_X9_mayBe l hDA (gI σ 97 (0 : Int32).toNatClampNeg) (gI σ 81 28) hzu12) zw_X9_178 ⟨Nat.le_trans (Nat.le_of_ble_eq_true rfl) hRf, Nat.le_trans (Nat.le_of_ble_eq_true rfl) hRl⟩ (by decide) lay_81 rfl rfl hl.1 (Nat.le_of_ble_eq_true rfl) ⟨Nat.zero_le _, Nat.zero_le _⟩ rfl dX9_isSo_139 (fun H locs hP hS => ?_)
        refine lv_if_eq (tgt := 149) hx hb dX9_isSo_142 (by decide) (fun hb12 => ?_) (fun hb12 => ?_)
        · have hf := ifT hb12 hf
          refine lv_iconst (v := 0) hx hb dX9_isSo_149 (by decide) ?_
          have hf := Option.some.inj hf
          subst hf
          exact hQ _ _ _ _ dX9_isSo_150 (show narrow .boolean (.int 0) = .int 0 from rfl) hP hS
        · have hf := ifF hb12 hf
          refine lv_iconst (v := 1) hx hb dX9_isSo_145 (by decide) ?_
          refine lv_goto (tgt := 150) hx hb dX9_isSo_146 (by decide) ?_
          have hf := Option.some.inj hf
          subst hf
          exact hQ _ _ _ _ dX9_isSo_150 (show narrow .boolean (.int 1) = .int 1 from rfl) hP hS
    · have hf := ifT hb8 hf
      refine lv_aload_n hx hb dX9_isSo_106 rfl (lv_at hl 0 rfl) ?_
      refine lv_aload_n hx hb dX9_isSo_107 rfl (lv_at hl 0 rfl) ?_
      refine zg_X9_162 hx hb C hP (by decide) lay_81 rfl dX9_isSo_108 ?_
      obtain ⟨u14, hzu14⟩ : ∃ z, z = f_X9_isSet σ (gI σ 81 28) := ⟨_, rfl⟩
      have hf := bnd_at u14 hzu14 hf
      refine zz_callVi (rest := []) hx hb hml C hP hS (c_X9_isSet l hDA (gI σ 81 28) hzu14.symm) zw_X9_172 ⟨Nat.le_trans (Nat.le_of_ble_eq_true rfl) hRf, Nat.le_trans (Nat.le_of_ble_eq_true rfl) hRl⟩ (by decide) lay_81 rfl rfl hl.1 (Nat.le_of_ble_eq_true rfl) ⟨Nat.zero_le _, Nat.zero_le _⟩ rfl dX9_isSo_111 (fun H locs hP hS => ?_)
      refine lv_goto (tgt := 150) hx hb dX9_isSo_114 (by decide) ?_
      obtain ⟨hc14, hf⟩ := chk_some hf
      have hf := Option.some.inj hf
      subst hf
      exact hQ _ _ _ _ dX9_isSo_150 (show narrow .boolean (.int u14) = .int u14 from congrArg Value.int hc14) hP hS
  have hf := ifF hb7 hf
  by_cases hb15 : p1 = 6
  · have hf := ifT hb15 hf
    refine lv_lookup (off := 150) (tgt := 151) hx hb dX9_isSo_1 (by decide) (by rw [hb15]; decide) (by decide) ?_
    refine lv_aload_n hx hb dX9_isSo_151 rfl (lv_at hl 0 rfl) ?_
    refine zg_X9_162 hx hb C hP (by decide) lay_81 rfl dX9_isSo_152 ?_
    refine lv_aload_n hx hb dX9_isSo_155 rfl (lv_at hl 0 rfl) ?_
    refine zg_X9_96 hx hb C hP (by decide) lay_81 rfl dX9_isSo_156 ?_
    refine lv_icmp_ge (tgt := 183) hx hb dX9_isSo_159 (by decide) (fun hb16 => ?_) (fun hb16 => ?_)
    · have hf := ifT hb16 hf
      refine lv_iconst (v := 0) hx hb dX9_isSo_183 (by decide) ?_
      have hf := Option.some.inj hf
      subst hf
      exact hQ _ _ _ _ dX9_isSo_184 (show narrow .boolean (.int 0) = .int 0 from rfl) hP hS
    · have hf := ifF hb16 hf
      refine lv_iload_n hx hb dX9_isSo_162 rfl (lv_at hl 2 rfl) ?_
      refine lv_if_eq (tgt := 179) hx hb dX9_isSo_163 (by decide) (fun hb17 => ?_) (fun hb17 => ?_)
      · have hf := ifT hb17 hf
        refine lv_iconst (v := 1) hx hb dX9_isSo_179 (by decide) ?_
        refine lv_goto (tgt := 184) hx hb dX9_isSo_180 (by decide) ?_
        have hf := Option.some.inj hf
        subst hf
        exact hQ _ _ _ _ dX9_isSo_184 (show narrow .boolean (.int 1) = .int 1 from rfl) hP hS
      · have hf := ifF hb17 hf
        refine lv_aload_n hx hb dX9_isSo_166 rfl (lv_at hl 0 rfl) ?_
        refine zg_X9_162 hx hb C hP (by decide) lay_81 rfl dX9_isSo_167 ?_
        refine lv_aload_n hx hb dX9_isSo_170 rfl (lv_at hl 0 rfl) ?_
        refine zg_X9_69 hx hb C hP (by decide) lay_81 rfl dX9_isSo_171 ?_
        refine lv_iconst (v := 0) hx hb dX9_isSo_174 (by decide) ?_
        refine zz_iald hx hb C hP (by decide) lay_97 (inb_vp (by decide)) dX9_isSo_175 ?_
        refine lv_icmp_eq (tgt := 183) hx hb dX9_isSo_176 (by decide) (fun hb18 => ?_) (fun hb18 => ?_)
        · have hf := ifT hb18 hf
          refine lv_iconst (v := 0) hx hb dX9_isSo_183 (by decide) ?_
          have hf := Option.some.inj hf
          subst hf
          exact hQ _ _ _ _ dX9_isSo_184 (show narrow .boolean (.int 0) = .int 0 from rfl) hP hS
        · have hf := ifF hb18 hf
          refine lv_iconst (v := 1) hx hb dX9_isSo_179 (by decide) ?_
          refine lv_goto (tgt := 184) hx hb dX9_isSo_180 (by decide) ?_
          have hf := Option.some.inj hf
          subst hf
          exact hQ _ _ _ _ dX9_isSo_184 (show narrow .boolean (.int 1) = .int 1 from rfl) hP hS
  have hf := ifF hb15 hf
  refine lv_lookup (off := 184) (tgt := 185) hx hb dX9_isSo_1 (by decide) (lks_0_5_6 hb0 hb7 hb15) (by decide) ?_
  refine lv_aload_n hx hb dX9_isSo_185 rfl (lv_at hl 0 rfl) ?_
  refine lv_iload_n hx hb dX9_isSo_186 rfl (lv_at hl 1 rfl) ?_
  refine lv_iconst (v := 1) hx hb dX9_isSo_187 (by decide) ?_
  refine lv_isub hx hb dX9_isSo_188 ?_
  refine lv_aload_n hx hb dX9_isSo_189 rfl (lv_at hl 0 rfl) ?_
  refine zg_X9_162 hx hb C hP (by decide) lay_81 rfl dX9_isSo_190 ?_
  obtain ⟨u20, hzu20⟩ : ∃ z, z = f_X9_isAsked (p1 - 1) (gI σ 81 28) := ⟨_, rfl⟩
  have hf := bnd_at u20 hzu20 hf
  refine zz_callVi (rest := []) hx hb hml C hP hS (c_X9_isAsked l hDA (p1 - 1) (gI σ 81 28) hzu20.symm) zw_X9_142 ⟨Nat.le_trans (Nat.le_of_ble_eq_true rfl) hRf, Nat.le_trans (Nat.le_of_ble_eq_true rfl) hRl⟩ (by decide) lay_81 rfl rfl hl.1 (Nat.le_of_ble_eq_true rfl) ⟨Nat.zero_le _, Nat.zero_le _⟩ rfl dX9_isSo_193 (fun H locs hP hS => ?_)
  obtain ⟨hc20, hf⟩ := chk_some hf
  have hf := Option.some.inj hf
  subst hf
  exact hQ _ _ _ _ dX9_isSo_196 (show narrow .boolean (.int u20) = .int u20 from congrArg Value.int hc20) hP hS
set_option maxHeartbeats 4000000 in
set_option maxRecDepth 100000 in
theorem c_X9_isKnown (l : Launch) {D : va_G} {a : Nat → Nat} {cA : Nat → ClassId} {A : Nat → Prop} {sa : Nat → Nat} (hDA : DA a A) {σ : PH} {d : PD} (p1 : Int32) (p2 : Int32) {u : Int32} (hf : f_X9_isKnown σ p1 p2 = some u) : CTi l yX9_isKnown cX9_isKnown 4 (some .boolean) 0 0 D a cA A sa [.ref (a 81), .int p1, .int p2] σ d u σ d := by
  refine zz_metZ zpl_X9 hDA (Nat.le_of_ble_eq_true rfl) ?_
  intro p e R s m args below meth c Q ls hx hb hml C hRf hRl hQ hP hS hl
  have hl : lv_has ls 4 [(0, .ref (a 81)), (1, .int p1), (2, .int p2)] := hl
  unfold f_X9_isKnown at hf
  refine lv_iconst (v := 0) hx hb dX9_isKnown_0 (by decide) ?_
  refine lv_istore_n (lv' := [(3, .int 0), (0, .ref (a 81)), (1, .int p1), (2, .int p2)]) hx hb dX9_isKnown_1 rfl hl (by decide) rfl (fun ls hl => ?_)
  refine loopN_ind (P := fun (q1 : Int32) => ∀ (H : Heap) (locs : List Loc) (ls : Array Slot), lv_has ls 4 [(0, .ref (a 81)), (1, .int p1), (2, .int p2), (3, .int q1)] → va_P D vwCl (wl a cA σ d) H → va_S A s.heap H locs → W p l e R s m args below meth c H locs 0 0 Q (F0 m 2 ls [])) ?_ _ _ hf _ _ _ (lv_sub hl [1, 2, 3, 0] rfl) hP hS
  intro k2 ihk2 q1 hf H locs ls hl hP hS
  unfold b_X9_isKnown_2 at hf
  refine lv_iload_n hx hb dX9_isKnown_2 rfl (lv_at hl 3 rfl) ?_
  refine lv_aload_n hx hb dX9_isKnown_3 rfl (lv_at hl 0 rfl) ?_
  refine zg_X9_123 hx hb C hP (by decide) lay_81 rfl dX9_isKnown_4 ?_
  refine lv_icmp_ge (tgt := 38) hx hb dX9_isKnown_7 (by decide) (fun hb2 => ?_) (fun hb2 => ?_)
  · have hf := ifT hb2 hf
    refine lv_iconst (v := 0) hx hb dX9_isKnown_38 (by decide) ?_
    have hf := Option.some.inj hf
    subst hf
    exact hQ _ _ _ _ dX9_isKnown_39 (show narrow .boolean (.int 0) = .int 0 from rfl) hP hS
  · have hf := ifF hb2 hf
    refine lv_aload_n hx hb dX9_isKnown_10 rfl (lv_at hl 0 rfl) ?_
    refine zg_X9_38 hx hb C hP (by decide) lay_81 rfl dX9_isKnown_11 ?_
    refine lv_iload_n hx hb dX9_isKnown_14 rfl (lv_at hl 3 rfl) ?_
    obtain ⟨hc3, hf⟩ := chk_some hf
    refine zz_iald hx hb C hP (by decide) lay_87 (inb_vp hc3) dX9_isKnown_15 ?_
    refine lv_iload_n hx hb dX9_isKnown_16 rfl (lv_at hl 1 rfl) ?_
    refine lv_icmp_ne (tgt := 32) hx hb dX9_isKnown_17 (by decide) (fun hb4 => ?_) (fun hb4 => ?_)
    · have hf := ifF hb4 hf
      obtain ⟨v6, ev6⟩ : ∃ z : Int32, z = q1 + 1 := ⟨_, rfl⟩
      have hf := bnd_at v6 ev6 hf
      refine lv_iinc (v := v6) (lv' := [(3, .int v6), (0, .ref (a 81)), (1, .int p1), (2, .int p2)]) hx hb dX9_isKnown_32 hl (k := 3) rfl (by rw [ev6]; rfl) (by decide) rfl (fun ls hl => ?_)
      refine lv_goto (tgt := 2) hx hb dX9_isKnown_35 (by decide) ?_
      exact ihk2 _ hf _ _ _ (lv_sub hl [1, 2, 3, 0] rfl) hP hS
    · have hf := ifT hb4 hf
      refine lv_aload_n hx hb dX9_isKnown_20 rfl (lv_at hl 0 rfl) ?_
      refine zg_X9_41 hx hb C hP (by decide) lay_81 rfl dX9_isKnown_21 ?_
      refine lv_iload_n hx hb dX9_isKnown_24 rfl (lv_at hl 3 rfl) ?_
      obtain ⟨hc6, hf⟩ := chk_some hf
      refine zz_iald hx hb C hP (by decide) lay_88 (inb_vp hc6) dX9_isKnown_25 ?_
      refine lv_iload_n hx hb dX9_isKnown_26 rfl (lv_at hl 2 rfl) ?_
      refine lv_icmp_ne (tgt := 32) hx hb dX9_isKnown_27 (by decide) (fun hb7 => ?_) (fun hb7 => ?_)
      · have hf := ifF hb7 hf
        obtain ⟨v9, ev9⟩ : ∃ z : Int32, z = q1 + 1 := ⟨_, rfl⟩
        have hf := bnd_at v9 ev9 hf
        refine lv_iinc (v := v9) (lv' := [(3, .int v9), (0, .ref (a 81)), (1, .int p1), (2, .int p2)]) hx hb dX9_isKnown_32 hl (k := 3) rfl (by rw [ev9]; rfl) (by decide) rfl (fun ls hl => ?_)
        refine lv_goto (tgt := 2) hx hb dX9_isKnown_35 (by decide) ?_
        exact ihk2 _ hf _ _ _ (lv_sub hl [1, 2, 3, 0] rfl) hP hS
      · have hf := ifT hb7 hf
        refine lv_iconst (v := 1) hx hb dX9_isKnown_30 (by decide) ?_
        have hf := Option.some.inj hf
        subst hf
        exact hQ _ _ _ _ dX9_isKnown_31 (show narrow .boolean (.int 1) = .int 1 from rfl) hP hS
set_option maxHeartbeats 4000000 in
set_option maxRecDepth 100000 in
theorem c_X9_knows (l : Launch) {D : va_G} {a : Nat → Nat} {cA : Nat → ClassId} {A : Nat → Prop} {sa : Nat → Nat} (hDA : DA a A) {σ : PH} {d : PD} (p1 : Int32) (p2 : Int32) {u : PH} (hf : f_X9_knows σ p1 p2 = some u) : CTv l yX9_knows cX9_knows 3 none 0 0 D a cA A sa [.ref (a 81), .int p1, .int p2] σ d u d := by
  refine zz_metV zpl_X9 hDA (Nat.le_of_ble_eq_true rfl) ?_
  intro p e R s m args below meth c Q ls hx hb hml C hRf hRl hQ hP hS hl
  have hl : lv_has ls 3 [(0, .ref (a 81)), (1, .int p1), (2, .int p2)] := hl
  unfold f_X9_knows at hf
  refine lv_aload_n hx hb dX9_knows_0 rfl (lv_at hl 0 rfl) ?_
  refine zg_X9_38 hx hb C hP (by decide) lay_81 rfl dX9_knows_1 ?_
  refine lv_aload_n hx hb dX9_knows_4 rfl (lv_at hl 0 rfl) ?_
  refine zg_X9_123 hx hb C hP (by decide) lay_81 rfl dX9_knows_5 ?_
  refine lv_iload_n hx hb dX9_knows_8 rfl (lv_at hl 1 rfl) ?_
  obtain ⟨hc0, hf⟩ := chk_some hf
  refine zz_iast hx hb C hP hS (by decide) lay_87 (inb_vp hc0) dX9_knows_9 (fun σ2 eσ2 H locs hP hS => ?_)
  have hf := bnd_at σ2 eσ2 hf
  refine lv_aload_n hx hb dX9_knows_10 rfl (lv_at hl 0 rfl) ?_
  refine zg_X9_41 hx hb C hP (by decide) lay_81 rfl dX9_knows_11 ?_
  refine lv_aload_n hx hb dX9_knows_14 rfl (lv_at hl 0 rfl) ?_
  refine zg_X9_123 hx hb C hP (by decide) lay_81 rfl dX9_knows_15 ?_
  refine lv_iload_n hx hb dX9_knows_18 rfl (lv_at hl 2 rfl) ?_
  obtain ⟨hc2, hf⟩ := chk_some hf
  refine zz_iast hx hb C hP hS (by decide) lay_88 (inb_vp hc2) dX9_knows_19 (fun σ4 eσ4 H locs hP hS => ?_)
  have hf := bnd_at σ4 eσ4 hf
  refine lv_aload_n hx hb dX9_knows_20 rfl (lv_at hl 0 rfl) ?_
  refine lv_dup hx hb dX9_knows_21 rfl ?_
  refine zg_X9_123 hx hb C hP (by decide) lay_81 rfl dX9_knows_22 ?_
  refine lv_iconst (v := 1) hx hb dX9_knows_25 (by decide) ?_
  refine lv_iadd hx hb dX9_knows_26 ?_
  refine zp_X9_123 hx hb C hP hS (by decide) lay_81 rfl dX9_knows_27 (fun σ5 eσ5 H locs hP hS => ?_)
  have hf := bnd_at σ5 eσ5 hf
  have hf := Option.some.inj hf
  subst hf
  exact hQ _ _ _ _ dX9_knows_30 hP hS
set_option maxHeartbeats 4000000 in
set_option maxRecDepth 100000 in
theorem c_X9_item (l : Launch) {D : va_G} {a : Nat → Nat} {cA : Nat → ClassId} {A : Nat → Prop} {sa : Nat → Nat} (hDA : DA a A) {σ : PH} {d : PD}  {u : Int32 × PH} (hf : f_X9_item σ = some u) : CTi l yX9_item cX9_item 4 (some .boolean) 8 185 D a cA A sa [.ref (a 81)] σ d u.1 u.2 d := by
  refine zz_metZ zpl_X9 hDA (Nat.le_of_ble_eq_true rfl) ?_
  intro p e R s m args below meth c Q ls hx hb hml C hRf hRl hQ hP hS hl
  have hl : lv_has ls 4 [(0, .ref (a 81))] := hl
  unfold f_X9_item at hf
  refine lv_aload_n hx hb dX9_item_0 rfl (lv_at hl 0 rfl) ?_
  refine lv_iconst (v := 0) hx hb dX9_item_1 (by decide) ?_
  obtain ⟨u1, hzu1, hf⟩ := obd_some hf
  refine zz_callVi (rest := []) hx hb hml C hP hS (c_X9_isWordAt l hDA 0 hzu1) zw_X9_181 ⟨Nat.le_trans (Nat.le_of_ble_eq_true rfl) hRf, Nat.le_trans (Nat.le_of_ble_eq_true rfl) hRl⟩ (by decide) lay_81 rfl rfl hl.1 (Nat.le_of_ble_eq_true rfl) ⟨Nat.zero_le _, Nat.zero_le _⟩ rfl dX9_item_2 (fun H locs hP hS => ?_)
  have hJ17 : j_X9_item_17 σ = some u → ∀ (H : Heap) (locs : List Loc) (ls : Array Slot), lv_has ls 4 [(0, .ref (a 81))] → va_P D vwCl (wl a cA σ d) H → va_S A s.heap H locs → W p l e R s m args below meth c H locs 0 0 Q (F0 m 17 ls []) := by
    intro  hf H locs ls hl hP hS
    unfold j_X9_item_17 at hf
    refine lv_aload_n hx hb dX9_item_17 rfl (lv_at hl 0 rfl) ?_
    refine lv_iconst (v := 5) hx hb dX9_item_18 (by decide) ?_
    obtain ⟨u2, hzu2, hf⟩ := obd_some hf
    refine zz_callVi (rest := []) hx hb hml C hP hS (c_X9_isWordAt l hDA 5 hzu2) zw_X9_181 ⟨Nat.le_trans (Nat.le_of_ble_eq_true rfl) hRf, Nat.le_trans (Nat.le_of_ble_eq_true rfl) hRl⟩ (by decide) lay_81 rfl rfl hl.1 (Nat.le_of_ble_eq_true rfl) ⟨Nat.zero_le _, Nat.zero_le _⟩ rfl dX9_item_19 (fun H locs hP hS => ?_)
    have hJ43 : j_X9_item_43 σ = some u → ∀ (H : Heap) (locs : List Loc) (ls : Array Slot), lv_has ls 4 [(0, .ref (a 81))] → va_P D vwCl (wl a cA σ d) H → va_S A s.heap H locs → W p l e R s m args below meth c H locs 0 0 Q (F0 m 43 ls []) := by
      intro  hf H locs ls hl hP hS
      unfold j_X9_item_43 at hf
      refine lv_aload_n hx hb dX9_item_43 rfl (lv_at hl 0 rfl) ?_
      obtain ⟨u3, hzu3, hf⟩ := obd_some hf
      refine zz_callVi (rest := []) hx hb hml C hP hS (c_X9_word l hDA  hzu3) zw_X9_184 ⟨Nat.le_trans (Nat.le_of_ble_eq_true rfl) hRf, Nat.le_trans (Nat.le_of_ble_eq_true rfl) hRl⟩ (by decide) lay_81 rfl rfl hl.1 (Nat.le_of_ble_eq_true rfl) ⟨Nat.zero_le _, Nat.zero_le _⟩ rfl dX9_item_44 (fun H locs hP hS => ?_)
      refine lv_istore_n (lv' := [(1, .int u3.1), (0, .ref (a 81))]) hx hb dX9_item_47 rfl hl (by decide) rfl (fun ls hl => ?_)
      refine lv_iload_n hx hb dX9_item_48 rfl (lv_at hl 0 rfl) ?_
      refine lv_iconst (v := (-1)) hx hb dX9_item_49 (by decide) ?_
      refine lv_icmp_ne (tgt := 55) hx hb dX9_item_50 (by decide) (fun hb3 => ?_) (fun hb3 => ?_)
      · have hf := ifF hb3 hf
        refine lv_iconst (v := 0) hx hb dX9_item_55 (by decide) ?_
        refine lv_istore_n (lv' := [(2, .int 0), (1, .int u3.1), (0, .ref (a 81))]) hx hb dX9_item_56 rfl hl (by decide) rfl (fun ls hl => ?_)
        have hJ166 : ∀ (σ5 : PH), j_X9_item_166 u3 σ5 = some u → ∀ (H : Heap) (locs : List Loc) (ls : Array Slot), lv_has ls 4 [(0, .ref (a 81)), (1, .int u3.1)] → va_P D vwCl (wl a cA σ5 d) H → va_S A s.heap H locs → W p l e R s m args below meth c H locs 0 0 Q (F0 m 166 ls []) := by
          intro σ5 hf H locs ls hl hP hS
          unfold j_X9_item_166 at hf
          refine lv_iload_n hx hb dX9_item_166 rfl (lv_at hl 1 rfl) ?_
          by_cases hb5 : u3.1 = 0
          · have hf := ifT hb5 hf
            refine lv_lookup (off := 33) (tgt := 200) hx hb dX9_item_167 (by decide) (by rw [hb5]; decide) (by decide) ?_
            refine lv_aload_n hx hb dX9_item_200 rfl (lv_at hl 0 rfl) ?_
            refine lv_aload_n hx hb dX9_item_201 rfl (lv_at hl 0 rfl) ?_
            refine zg_X9_69 hx hb C hP (by decide) lay_81 rfl dX9_item_202 ?_
            refine lv_iconst (v := 0) hx hb dX9_item_205 (by decide) ?_
            refine zz_iald hx hb C hP (by decide) lay_97 (inb_vp (by decide)) dX9_item_206 ?_
            refine lv_aload_n hx hb dX9_item_207 rfl (lv_at hl 0 rfl) ?_
            refine zg_X9_69 hx hb C hP (by decide) lay_81 rfl dX9_item_208 ?_
            refine lv_iconst (v := 1) hx hb dX9_item_211 (by decide) ?_
            refine zz_iald hx hb C hP (by decide) lay_97 (inb_vp (by decide)) dX9_item_212 ?_
            refine lv_aload_n hx hb dX9_item_213 rfl (lv_at hl 0 rfl) ?_
            refine zg_X9_69 hx hb C hP (by decide) lay_81 rfl dX9_item_214 ?_
            refine lv_iconst (v := 2) hx hb dX9_item_217 (by decide) ?_
            refine zz_iald hx hb C hP (by decide) lay_97 (inb_vp (by decide)) dX9_item_218 ?_
            obtain ⟨u7, hzu7, hf⟩ := obd_some hf
            refine zz_callVi (rest := []) hx hb hml C hP hS (c_X9_adds l hDA (gI σ5 97 (0 : Int32).toNatClampNeg) (gI σ5 97 (1 : Int32).toNatClampNeg) (gI σ5 97 (2 : Int32).toNatClampNeg) hzu7) zw_X9_129 ⟨Nat.le_trans (Nat.le_of_ble_eq_true rfl) hRf, Nat.le_trans (Nat.le_of_ble_eq_true rfl) hRl⟩ (by decide) lay_81 rfl rfl hl.1 (Nat.le_of_ble_eq_true rfl) ⟨Nat.zero_le _, Nat.zero_le _⟩ rfl dX9_item_219 (fun H locs hP hS => ?_)
            refine lv_pop hx hb dX9_item_222 rfl ?_
            refine lv_goto (tgt := 301) hx hb dX9_item_223 (by decide) ?_
            refine lv_iconst (v := 1) hx hb dX9_item_301 (by decide) ?_
            have hf := Option.some.inj hf
            subst hf
            exact hQ _ _ _ _ dX9_item_302 (show narrow .boolean (.int 1) = .int 1 from rfl) hP hS
          have hf := ifF hb5 hf
          by_cases hb7 : u3.1 = 5
          · have hf := ifT hb7 hf
            refine lv_lookup (off := 59) (tgt := 226) hx hb dX9_item_167 (by decide) (by rw [hb7]; decide) (by decide) ?_
            refine lv_aload_n hx hb dX9_item_226 rfl (lv_at hl 0 rfl) ?_
            refine lv_aload_n hx hb dX9_item_227 rfl (lv_at hl 0 rfl) ?_
            refine zg_X9_69 hx hb C hP (by decide) lay_81 rfl dX9_item_228 ?_
            refine lv_iconst (v := 0) hx hb dX9_item_231 (by decide) ?_
            refine zz_iald hx hb C hP (by decide) lay_97 (inb_vp (by decide)) dX9_item_232 ?_
            refine lv_aload_n hx hb dX9_item_233 rfl (lv_at hl 0 rfl) ?_
            refine zg_X9_69 hx hb C hP (by decide) lay_81 rfl dX9_item_234 ?_
            refine lv_iconst (v := 1) hx hb dX9_item_237 (by decide) ?_
            refine zz_iald hx hb C hP (by decide) lay_97 (inb_vp (by decide)) dX9_item_238 ?_
            obtain ⟨u9, hzu9, hf⟩ := obd_some hf
            refine zz_callVi (rest := []) hx hb hml C hP hS (c_X9_isKnown l hDA (gI σ5 97 (0 : Int32).toNatClampNeg) (gI σ5 97 (1 : Int32).toNatClampNeg) hzu9) zw_X9_193 ⟨Nat.le_trans (Nat.le_of_ble_eq_true rfl) hRf, Nat.le_trans (Nat.le_of_ble_eq_true rfl) hRl⟩ (by decide) lay_81 rfl rfl hl.1 (Nat.le_of_ble_eq_true rfl) ⟨Nat.zero_le _, Nat.zero_le _⟩ rfl dX9_item_239 (fun H locs hP hS => ?_)
            refine lv_if_ne (tgt := 301) hx hb dX9_item_242 (by decide) (fun hb9 => ?_) (fun hb9 => ?_)
            · have hf := ifF hb9 hf
              refine lv_iconst (v := 1) hx hb dX9_item_301 (by decide) ?_
              have hf := Option.some.inj hf
              subst hf
              exact hQ _ _ _ _ dX9_item_302 (show narrow .boolean (.int 1) = .int 1 from rfl) hP hS
            · have hf := ifT hb9 hf
              refine lv_aload_n hx hb dX9_item_245 rfl (lv_at hl 0 rfl) ?_
              refine lv_aload_n hx hb dX9_item_246 rfl (lv_at hl 0 rfl) ?_
              refine zg_X9_69 hx hb C hP (by decide) lay_81 rfl dX9_item_247 ?_
              refine lv_iconst (v := 0) hx hb dX9_item_250 (by decide) ?_
              refine zz_iald hx hb C hP (by decide) lay_97 (inb_vp (by decide)) dX9_item_251 ?_
              refine lv_aload_n hx hb dX9_item_252 rfl (lv_at hl 0 rfl) ?_
              refine zg_X9_69 hx hb C hP (by decide) lay_81 rfl dX9_item_253 ?_
              refine lv_iconst (v := 1) hx hb dX9_item_256 (by decide) ?_
              refine zz_iald hx hb C hP (by decide) lay_97 (inb_vp (by decide)) dX9_item_257 ?_
              obtain ⟨u11, hzu11, hf⟩ := obd_some hf
              refine zz_callVv (rest := []) hx hb hml C hP hS (c_X9_knows l hDA (gI σ5 97 (0 : Int32).toNatClampNeg) (gI σ5 97 (1 : Int32).toNatClampNeg) hzu11) zw_X9_196 ⟨Nat.le_trans (Nat.le_of_ble_eq_true rfl) hRf, Nat.le_trans (Nat.le_of_ble_eq_true rfl) hRl⟩ (by decide) lay_81 rfl rfl hl.1 (Nat.le_of_ble_eq_true rfl) ⟨Nat.zero_le _, Nat.zero_le _⟩ rfl dX9_item_258 (fun H locs hP hS => ?_)
              refine lv_goto (tgt := 301) hx hb dX9_item_261 (by decide) ?_
              refine lv_iconst (v := 1) hx hb dX9_item_301 (by decide) ?_
              have hf := Option.some.inj hf
              subst hf
              exact hQ _ _ _ _ dX9_item_302 (show narrow .boolean (.int 1) = .int 1 from rfl) hP hS
          have hf := ifF hb7 hf
          by_cases hb11 : u3.1 = 6
          · have hf := ifT hb11 hf
            refine lv_lookup (off := 97) (tgt := 264) hx hb dX9_item_167 (by decide) (by rw [hb11]; decide) (by decide) ?_
            refine lv_aload_n hx hb dX9_item_264 rfl (lv_at hl 0 rfl) ?_
            refine lv_aload_n hx hb dX9_item_265 rfl (lv_at hl 0 rfl) ?_
            refine zg_X9_69 hx hb C hP (by decide) lay_81 rfl dX9_item_266 ?_
            refine lv_iconst (v := 0) hx hb dX9_item_269 (by decide) ?_
            refine zz_iald hx hb C hP (by decide) lay_97 (inb_vp (by decide)) dX9_item_270 ?_
            refine lv_aload_n hx hb dX9_item_271 rfl (lv_at hl 0 rfl) ?_
            refine zg_X9_69 hx hb C hP (by decide) lay_81 rfl dX9_item_272 ?_
            refine lv_iconst (v := 1) hx hb dX9_item_275 (by decide) ?_
            refine zz_iald hx hb C hP (by decide) lay_97 (inb_vp (by decide)) dX9_item_276 ?_
            obtain ⟨u13, hzu13, hf⟩ := obd_some hf
            refine zz_callVv (rest := []) hx hb hml C hP hS (c_X9_changes l hDA (gI σ5 97 (0 : Int32).toNatClampNeg) (gI σ5 97 (1 : Int32).toNatClampNeg) hzu13) zw_X9_200 ⟨Nat.le_trans (Nat.le_of_ble_eq_true rfl) hRf, Nat.le_trans (Nat.le_of_ble_eq_true rfl) hRl⟩ (by decide) lay_81 rfl rfl hl.1 (Nat.le_of_ble_eq_true rfl) ⟨Nat.zero_le _, Nat.zero_le _⟩ rfl dX9_item_277 (fun H locs hP hS => ?_)
            refine lv_aload_n hx hb dX9_item_280 rfl (lv_at hl 0 rfl) ?_
            obtain ⟨u14, hzu14⟩ : ∃ z, z = f_X9_anew u13 := ⟨_, rfl⟩
            have hf := bnd_at u14 hzu14 hf
            refine zz_callVv (rest := []) hx hb hml C hP hS (c_X9_anew l hDA  hzu14.symm) zw_X9_126 ⟨Nat.le_trans (Nat.le_of_ble_eq_true rfl) hRf, Nat.le_trans (Nat.le_of_ble_eq_true rfl) hRl⟩ (by decide) lay_81 rfl rfl hl.1 (Nat.le_of_ble_eq_true rfl) ⟨Nat.zero_le _, Nat.zero_le _⟩ rfl dX9_item_281 (fun H locs hP hS => ?_)
            refine lv_goto (tgt := 301) hx hb dX9_item_284 (by decide) ?_
            refine lv_iconst (v := 1) hx hb dX9_item_301 (by decide) ?_
            have hf := Option.some.inj hf
            subst hf
            exact hQ _ _ _ _ dX9_item_302 (show narrow .boolean (.int 1) = .int 1 from rfl) hP hS
          have hf := ifF hb11 hf
          refine lv_lookup (off := 120) (tgt := 287) hx hb dX9_item_167 (by decide) (lks_0_5_6 hb5 hb7 hb11) (by decide) ?_
          refine lv_aload_n hx hb dX9_item_287 rfl (lv_at hl 0 rfl) ?_
          refine lv_iload_n hx hb dX9_item_288 rfl (lv_at hl 1 rfl) ?_
          refine lv_iconst (v := 1) hx hb dX9_item_289 (by decide) ?_
          refine lv_isub hx hb dX9_item_290 ?_
          refine lv_aload_n hx hb dX9_item_291 rfl (lv_at hl 0 rfl) ?_
          refine zg_X9_69 hx hb C hP (by decide) lay_81 rfl dX9_item_292 ?_
          refine lv_iconst (v := 0) hx hb dX9_item_295 (by decide) ?_
          refine zz_iald hx hb C hP (by decide) lay_97 (inb_vp (by decide)) dX9_item_296 ?_
          obtain ⟨u15, hzu15⟩ : ∃ z, z = f_X9_asks σ5 (u3.1 - 1) (gI σ5 97 (0 : Int32).toNatClampNeg) := ⟨_, rfl⟩
          have hf := bnd_at u15 hzu15 hf
          refine zz_callVi (rest := []) hx hb hml C hP hS (c_X9_asks l hDA (u3.1 - 1) (gI σ5 97 (0 : Int32).toNatClampNeg) hzu15.symm) zw_X9_146 ⟨Nat.le_trans (Nat.le_of_ble_eq_true rfl) hRf, Nat.le_trans (Nat.le_of_ble_eq_true rfl) hRl⟩ (by decide) lay_81 rfl rfl hl.1 (Nat.le_of_ble_eq_true rfl) ⟨Nat.zero_le _, Nat.zero_le _⟩ rfl dX9_item_297 (fun H locs hP hS => ?_)
          refine lv_pop hx hb dX9_item_300 rfl ?_
          refine lv_iconst (v := 1) hx hb dX9_item_301 (by decide) ?_
          have hf := Option.some.inj hf
          subst hf
          exact hQ _ _ _ _ dX9_item_302 (show narrow .boolean (.int 1) = .int 1 from rfl) hP hS
        have hJ144 : ∀ (v16 : Int32) (σ17 : PH), j_X9_item_144 v16 σ17 = some u → ∀ (H : Heap) (locs : List Loc) (ls : Array Slot), lv_has ls 4 [(0, .ref (a 81)), (3, .int v16)] → va_P D vwCl (wl a cA σ17 d) H → va_S A s.heap H locs → W p l e R s m args below meth c H locs 0 0 Q (F0 m 144 ls []) := by
          intro v16 σ17 hf H locs ls hl hP hS
          unfold j_X9_item_144 at hf
          refine lv_aload_n hx hb dX9_item_144 rfl (lv_at hl 0 rfl) ?_
          refine lv_iload_n hx hb dX9_item_145 rfl (lv_at hl 1 rfl) ?_
          obtain ⟨u18, hzu18⟩ : ∃ z, z = f_X9_wrong σ17 v16 := ⟨_, rfl⟩
          have hf := bnd_at u18 hzu18 hf
          refine zz_callVi (rest := []) hx hb hml C hP hS (c_X9_wrong l hDA v16 hzu18.symm) zw_X9_169 ⟨Nat.le_trans (Nat.le_of_ble_eq_true rfl) hRf, Nat.le_trans (Nat.le_of_ble_eq_true rfl) hRl⟩ (by decide) lay_81 rfl rfl hl.1 (Nat.le_of_ble_eq_true rfl) ⟨Nat.zero_le _, Nat.zero_le _⟩ rfl dX9_item_146 (fun H locs hP hS => ?_)
          obtain ⟨hc18, hf⟩ := chk_some hf
          have hf := Option.some.inj hf
          subst hf
          exact hQ _ _ _ _ dX9_item_149 (show narrow .boolean (.int u18.1) = .int u18.1 from congrArg Value.int hc18) hP hS
        have hJ102 : ∀ (σ20 : PH), j_X9_item_102 σ20 = some u → ∀ (H : Heap) (locs : List Loc) (ls : Array Slot), lv_has ls 4 [(0, .ref (a 81))] → va_P D vwCl (wl a cA σ20 d) H → va_S A s.heap H locs → W p l e R s m args below meth c H locs 0 0 Q (F0 m 102 ls []) := by
          intro σ20 hf H locs ls hl hP hS
          unfold j_X9_item_102 at hf
          refine lv_aload_n hx hb dX9_item_102 rfl (lv_at hl 0 rfl) ?_
          refine lv_aload_n hx hb dX9_item_103 rfl (lv_at hl 0 rfl) ?_
          refine zg_X9_153 hx hb C hP (by decide) lay_81 rfl dX9_item_104 ?_
          obtain ⟨u21, hzu21⟩ : ∃ z, z = f_X9_wrong σ20 (gI σ20 81 26) := ⟨_, rfl⟩
          have hf := bnd_at u21 hzu21 hf
          refine zz_callVi (rest := []) hx hb hml C hP hS (c_X9_wrong l hDA (gI σ20 81 26) hzu21.symm) zw_X9_169 ⟨Nat.le_trans (Nat.le_of_ble_eq_true rfl) hRf, Nat.le_trans (Nat.le_of_ble_eq_true rfl) hRl⟩ (by decide) lay_81 rfl rfl hl.1 (Nat.le_of_ble_eq_true rfl) ⟨Nat.zero_le _, Nat.zero_le _⟩ rfl dX9_item_107 (fun H locs hP hS => ?_)
          obtain ⟨hc21, hf⟩ := chk_some hf
          have hf := Option.some.inj hf
          subst hf
          exact hQ _ _ _ _ dX9_item_110 (show narrow .boolean (.int u21.1) = .int u21.1 from congrArg Value.int hc21) hP hS
        refine loopN_ind (P := fun (q23 : Int32 × PH) => ∀ (H : Heap) (locs : List Loc) (ls : Array Slot), lv_has ls 4 [(0, .ref (a 81)), (1, .int u3.1), (2, .int q23.1)] → va_P D vwCl (wl a cA q23.2 d) H → va_S A s.heap H locs → W p l e R s m args below meth c H locs 0 0 Q (F0 m 57 ls [])) ?_ _ _ hf _ _ _ (lv_sub hl [2, 1, 0] rfl) hP hS
        intro k24 ihk24 q23 hf H locs ls hl hP hS
        unfold b_X9_item_57 at hf
        refine lv_iload_n hx hb dX9_item_57 rfl (lv_at hl 2 rfl) ?_
        refine lv_aload_n hx hb dX9_item_58 rfl (lv_at hl 0 rfl) ?_
        refine zg_X9_66 hx hb C hP (by decide) lay_81 rfl dX9_item_59 ?_
        refine lv_iload_n hx hb dX9_item_62 rfl (lv_at hl 1 rfl) ?_
        obtain ⟨hc24, hf⟩ := chk_some hf
        refine zz_iald hx hb C hP (by decide) lay_96 (inb_vp hc24) dX9_item_63 ?_
        refine lv_icmp_ge (tgt := 166) hx hb dX9_item_64 (by decide) (fun hb25 => ?_) (fun hb25 => ?_)
        · have hf := ifT hb25 hf
          exact hJ166 _ hf _ _ _ (lv_sub hl [0, 1] rfl) hP hS
        · have hf := ifF hb25 hf
          refine lv_iload_n hx hb dX9_item_67 rfl (lv_at hl 2 rfl) ?_
          have hJ121 : ∀ (σ27 : PH), j_X9_item_121 u3 q23 k24 σ27 = some u → ∀ (H : Heap) (locs : List Loc) (ls : Array Slot), lv_has ls 4 [(0, .ref (a 81)), (1, .int u3.1), (2, .int q23.1)] → va_P D vwCl (wl a cA σ27 d) H → va_S A s.heap H locs → W p l e R s m args below meth c H locs 0 0 Q (F0 m 121 ls []) := by
            intro σ27 hf H locs ls hl hP hS
            unfold j_X9_item_121 at hf
            refine lv_aload_n hx hb dX9_item_121 rfl (lv_at hl 0 rfl) ?_
            refine zg_X9_153 hx hb C hP (by decide) lay_81 rfl dX9_item_122 ?_
            refine lv_topi (fun v28 ev28 => ?_)
            have hf := bnd_at v28 ev28 hf
            refine lv_istore_n (lv' := [(3, .int v28), (0, .ref (a 81)), (1, .int u3.1), (2, .int q23.1)]) hx hb dX9_item_125 rfl hl (by decide) rfl (fun ls hl => ?_)
            refine lv_aload_n hx hb dX9_item_126 rfl (lv_at hl 1 rfl) ?_
            obtain ⟨u29, hzu29, hf⟩ := obd_some hf
            refine zz_callVi (rest := []) hx hb hml C hP hS (c_X9_reads l hDA  hzu29) zw_X9_187 ⟨Nat.le_trans (Nat.le_of_ble_eq_true rfl) hRf, Nat.le_trans (Nat.le_of_ble_eq_true rfl) hRl⟩ (by decide) lay_81 rfl rfl hl.1 (Nat.le_of_ble_eq_true rfl) ⟨Nat.zero_le _, Nat.zero_le _⟩ rfl dX9_item_127 (fun H locs hP hS => ?_)
            refine lv_if_ne (tgt := 135) hx hb dX9_item_130 (by decide) (fun hb29 => ?_) (fun hb29 => ?_)
            · have hf := ifF hb29 hf
              refine lv_aload_n hx hb dX9_item_135 rfl (lv_at hl 1 rfl) ?_
              refine lv_iload_n hx hb dX9_item_136 rfl (lv_at hl 2 rfl) ?_
              refine lv_iload_n hx hb dX9_item_137 rfl (lv_at hl 3 rfl) ?_
              obtain ⟨u31, hzu31, hf⟩ := obd_some hf
              refine zz_callVi (rest := []) hx hb hml C hP hS (c_X9_isSo l hDA u3.1 q23.1 hzu31) zw_X9_190 ⟨Nat.le_trans (Nat.le_of_ble_eq_true rfl) hRf, Nat.le_trans (Nat.le_of_ble_eq_true rfl) hRl⟩ (by decide) lay_81 rfl rfl hl.1 (Nat.le_of_ble_eq_true rfl) ⟨Nat.zero_le _, Nat.zero_le _⟩ rfl dX9_item_138 (fun H locs hP hS => ?_)
              refine lv_if_ne (tgt := 150) hx hb dX9_item_141 (by decide) (fun hb31 => ?_) (fun hb31 => ?_)
              · have hf := ifF hb31 hf
                refine lv_aload_n hx hb dX9_item_150 rfl (lv_at hl 1 rfl) ?_
                refine zg_X9_69 hx hb C hP (by decide) lay_81 rfl dX9_item_151 ?_
                refine lv_iload_n hx hb dX9_item_154 rfl (lv_at hl 3 rfl) ?_
                refine lv_aload_n hx hb dX9_item_155 rfl (lv_at hl 1 rfl) ?_
                refine zg_X9_162 hx hb C hP (by decide) lay_81 rfl dX9_item_156 ?_
                obtain ⟨hc32, hf⟩ := chk_some hf
                refine zz_iast hx hb C hP hS (by decide) lay_97 (inb_vp hc32) dX9_item_159 (fun σ34 eσ34 H locs hP hS => ?_)
                have hf := bnd_at σ34 eσ34 hf
                obtain ⟨v35, ev35⟩ : ∃ z : Int32, z = q23.1 + 1 := ⟨_, rfl⟩
                have hf := bnd_at v35 ev35 hf
                refine lv_iinc (v := v35) (lv' := [(2, .int v35), (3, .int v28), (0, .ref (a 81)), (1, .int u3.1)]) hx hb dX9_item_160 hl (k := 3) rfl (by rw [ev35]; rfl) (by decide) rfl (fun ls hl => ?_)
                refine lv_goto (tgt := 57) hx hb dX9_item_163 (by decide) ?_
                exact ihk24 _ hf _ _ _ (lv_sub hl [2, 3, 0] rfl) hP hS
              · have hf := ifT hb31 hf
                exact hJ144 _ _ hf _ _ _ (lv_sub hl [1, 0] rfl) hP hS
            · have hf := ifT hb29 hf
              refine lv_iconst (v := 0) hx hb dX9_item_133 (by decide) ?_
              have hf := Option.some.inj hf
              subst hf
              exact hQ _ _ _ _ dX9_item_134 (show narrow .boolean (.int 0) = .int 0 from rfl) hP hS
          refine lv_if_le (tgt := 121) hx hb dX9_item_68 (by decide) (fun hb35 => ?_) (fun hb35 => ?_)
          · have hf := ifT hb35 hf
            exact hJ121 _ hf _ _ _ (lv_sub hl [0, 1, 2] rfl) hP hS
          · have hf := ifF hb35 hf
            refine lv_aload_n hx hb dX9_item_71 rfl (lv_at hl 0 rfl) ?_
            refine zg_X9_153 hx hb C hP (by decide) lay_81 rfl dX9_item_72 ?_
            refine lv_aload_n hx hb dX9_item_75 rfl (lv_at hl 0 rfl) ?_
            refine zg_X9_156 hx hb C hP (by decide) lay_81 rfl dX9_item_76 ?_
            refine lv_icmp_ge (tgt := 102) hx hb dX9_item_79 (by decide) (fun hb36 => ?_) (fun hb36 => ?_)
            · have hf := ifT hb36 hf
              exact hJ102 _ hf _ _ _ (lv_sub hl [0] rfl) hP hS
            · have hf := ifF hb36 hf
              refine lv_aload_n hx hb dX9_item_82 rfl (lv_at hl 0 rfl) ?_
              refine zg_X9_56 hx hb C hP (by decide) lay_81 rfl dX9_item_83 ?_
              refine lv_aload_n hx hb dX9_item_86 rfl (lv_at hl 0 rfl) ?_
              refine zg_X9_159 hx hb C hP (by decide) lay_81 rfl dX9_item_87 ?_
              refine lv_aload_n hx hb dX9_item_90 rfl (lv_at hl 0 rfl) ?_
              refine zg_X9_153 hx hb C hP (by decide) lay_81 rfl dX9_item_91 ?_
              refine lv_iadd hx hb dX9_item_94 ?_
              obtain ⟨hc37, hf⟩ := chk_some hf
              refine zz_lald hx hb C hP (by decide) lay_93 (inb_vp hc37) dX9_item_95 ?_
              refine lv_l2i (v := (gJ q23.2 93 ((gI q23.2 81 25) + (gI q23.2 81 26)).toNatClampNeg).toInt32) hx hb dX9_item_96 rfl ?_
              refine lv_bipush (v := 32) hx hb dX9_item_97 (by decide) ?_
              refine lv_icmp_eq (tgt := 111) hx hb dX9_item_99 (by decide) (fun hb38 => ?_) (fun hb38 => ?_)
              · have hf := ifT hb38 hf
                refine lv_aload_n hx hb dX9_item_111 rfl (lv_at hl 0 rfl) ?_
                refine lv_dup hx hb dX9_item_112 rfl ?_
                refine zg_X9_153 hx hb C hP (by decide) lay_81 rfl dX9_item_113 ?_
                refine lv_iconst (v := 1) hx hb dX9_item_116 (by decide) ?_
                refine lv_iadd hx hb dX9_item_117 ?_
                refine zp_X9_153 hx hb C hP hS (by decide) lay_81 rfl dX9_item_118 (fun σ40 eσ40 H locs hP hS => ?_)
                have hf := bnd_at σ40 eσ40 hf
                exact hJ121 _ hf _ _ _ (lv_sub hl [0, 1, 2] rfl) hP hS
              · have hf := ifF hb38 hf
                exact hJ102 _ hf _ _ _ (lv_sub hl [0] rfl) hP hS
      · have hf := ifT hb3 hf
        refine lv_iconst (v := 0) hx hb dX9_item_53 (by decide) ?_
        have hf := Option.some.inj hf
        subst hf
        exact hQ _ _ _ _ dX9_item_54 (show narrow .boolean (.int 0) = .int 0 from rfl) hP hS
    refine lv_if_eq (tgt := 43) hx hb dX9_item_22 (by decide) (fun hb40 => ?_) (fun hb40 => ?_)
    · have hf := ifT hb40 hf
      exact hJ43  hf _ _ _ (lv_sub hl [0] rfl) hP hS
    · have hf := ifF hb40 hf
      refine lv_aload_n hx hb dX9_item_25 rfl (lv_at hl 0 rfl) ?_
      refine zg_X9_123 hx hb C hP (by decide) lay_81 rfl dX9_item_26 ?_
      refine lv_bipush (v := 16) hx hb dX9_item_29 (by decide) ?_
      refine lv_icmp_ne (tgt := 43) hx hb dX9_item_31 (by decide) (fun hb41 => ?_) (fun hb41 => ?_)
      · have hf := ifF hb41 hf
        exact hJ43  hf _ _ _ (lv_sub hl [0] rfl) hP hS
      · have hf := ifT hb41 hf
        refine lv_aload_n hx hb dX9_item_34 rfl (lv_at hl 0 rfl) ?_
        refine lv_aload_n hx hb dX9_item_35 rfl (lv_at hl 0 rfl) ?_
        refine zg_X9_153 hx hb C hP (by decide) lay_81 rfl dX9_item_36 ?_
        obtain ⟨u43, hzu43⟩ : ∃ z, z = f_X9_wrong σ (gI σ 81 26) := ⟨_, rfl⟩
        have hf := bnd_at u43 hzu43 hf
        refine zz_callVi (rest := []) hx hb hml C hP hS (c_X9_wrong l hDA (gI σ 81 26) hzu43.symm) zw_X9_169 ⟨Nat.le_trans (Nat.le_of_ble_eq_true rfl) hRf, Nat.le_trans (Nat.le_of_ble_eq_true rfl) hRl⟩ (by decide) lay_81 rfl rfl hl.1 (Nat.le_of_ble_eq_true rfl) ⟨Nat.zero_le _, Nat.zero_le _⟩ rfl dX9_item_39 (fun H locs hP hS => ?_)
        obtain ⟨hc43, hf⟩ := chk_some hf
        have hf := Option.some.inj hf
        subst hf
        exact hQ _ _ _ _ dX9_item_42 (show narrow .boolean (.int u43.1) = .int u43.1 from congrArg Value.int hc43) hP hS
  refine lv_if_eq (tgt := 17) hx hb dX9_item_5 (by decide) (fun hb44 => ?_) (fun hb44 => ?_)
  · have hf := ifT hb44 hf
    exact hJ17  hf _ _ _ (lv_sub hl [0] rfl) hP hS
  · have hf := ifF hb44 hf
    refine lv_aload_n hx hb dX9_item_8 rfl (lv_at hl 0 rfl) ?_
    refine zg_X9_96 hx hb C hP (by decide) lay_81 rfl dX9_item_9 ?_
    refine lv_bipush (v := 8) hx hb dX9_item_12 (by decide) ?_
    refine lv_icmp_eq (tgt := 34) hx hb dX9_item_14 (by decide) (fun hb45 => ?_) (fun hb45 => ?_)
    · have hf := ifT hb45 hf
      refine lv_aload_n hx hb dX9_item_34 rfl (lv_at hl 0 rfl) ?_
      refine lv_aload_n hx hb dX9_item_35 rfl (lv_at hl 0 rfl) ?_
      refine zg_X9_153 hx hb C hP (by decide) lay_81 rfl dX9_item_36 ?_
      obtain ⟨u47, hzu47⟩ : ∃ z, z = f_X9_wrong σ (gI σ 81 26) := ⟨_, rfl⟩
      have hf := bnd_at u47 hzu47 hf
      refine zz_callVi (rest := []) hx hb hml C hP hS (c_X9_wrong l hDA (gI σ 81 26) hzu47.symm) zw_X9_169 ⟨Nat.le_trans (Nat.le_of_ble_eq_true rfl) hRf, Nat.le_trans (Nat.le_of_ble_eq_true rfl) hRl⟩ (by decide) lay_81 rfl rfl hl.1 (Nat.le_of_ble_eq_true rfl) ⟨Nat.zero_le _, Nat.zero_le _⟩ rfl dX9_item_39 (fun H locs hP hS => ?_)
      obtain ⟨hc47, hf⟩ := chk_some hf
      have hf := Option.some.inj hf
      subst hf
      exact hQ _ _ _ _ dX9_item_42 (show narrow .boolean (.int u47.1) = .int u47.1 from congrArg Value.int hc47) hP hS
    · have hf := ifF hb45 hf
      exact hJ17  hf _ _ _ (lv_sub hl [0] rfl) hP hS
set_option maxHeartbeats 4000000 in
set_option maxRecDepth 100000 in
theorem c_X9_carries (l : Launch) {D : va_G} {a : Nat → Nat} {cA : Nat → ClassId} {A : Nat → Prop} {sa : Nat → Nat} (hDA : DA a A) {σ : PH} {d : PD} {o1 n1 : Nat} (lt_o1 : o1 < NR) (lay_o1 : lay o1 = (1, n1, [])) (p2 : Int32) {o3 n3 : Nat} (lt_o3 : o3 < NR) (lay_o3 : lay o3 = (1, n3, [])) (p4 : Int32) (p5 : Int32) {u : Int32 × PH} (hf : f_X9_carries σ o1 n1 p2 o3 n3 p4 p5 = some u) : CTi l yX9_carries cX9_carries 7 (some .int) 0 0 D a cA A sa [.ref (a 81), .ref (a o1), .int p2, .ref (a o3), .int p4, .int p5] σ d u.1 u.2 d := by
  refine zz_metI zpl_X9 hDA (Nat.le_of_ble_eq_true rfl) ?_
  intro p e R s m args below meth c Q ls hx hb hml C hRf hRl hQ hP hS hl
  have hl : lv_has ls 7 [(0, .ref (a 81)), (1, .ref (a o1)), (2, .int p2), (3, .ref (a o3)), (4, .int p4), (5, .int p5)] := hl
  unfold f_X9_carries at hf
  refine lv_iconst (v := 0) hx hb dX9_carries_0 (by decide) ?_
  refine lv_istore (lv' := [(6, .int 0), (0, .ref (a 81)), (1, .ref (a o1)), (2, .int p2), (3, .ref (a o3)), (4, .int p4), (5, .int p5)]) hx hb dX9_carries_1 hl (by decide) rfl (fun ls hl => ?_)
  have hJ45 : ∀ (σ1 : PH), j_X9_carries_45 p2 p4 σ1 = some u → ∀ (H : Heap) (locs : List Loc) (ls : Array Slot), lv_has ls 7 [(2, .int p2), (4, .int p4)] → va_P D vwCl (wl a cA σ1 d) H → va_S A s.heap H locs → W p l e R s m args below meth c H locs 0 0 Q (F0 m 45 ls []) := by
    intro σ1 hf H locs ls hl hP hS
    unfold j_X9_carries_45 at hf
    refine lv_iload hx hb dX9_carries_45 (lv_at hl 1 rfl) ?_
    refine lv_iload_n hx hb dX9_carries_47 rfl (lv_at hl 0 rfl) ?_
    refine lv_iadd hx hb dX9_carries_48 ?_
    have hf := Option.some.inj hf
    subst hf
    exact hQ _ _ _ _ dX9_carries_49 hP hS
  refine loopN_ind (P := fun (q2 : Int32 × PH) => ∀ (H : Heap) (locs : List Loc) (ls : Array Slot), lv_has ls 7 [(1, .ref (a o1)), (2, .int p2), (3, .ref (a o3)), (4, .int p4), (5, .int p5), (6, .int q2.1)] → va_P D vwCl (wl a cA q2.2 d) H → va_S A s.heap H locs → W p l e R s m args below meth c H locs 0 0 Q (F0 m 3 ls [])) ?_ _ _ hf _ _ _ (lv_sub hl [2, 3, 4, 5, 6, 0] rfl) hP hS
  intro k3 ihk3 q2 hf H locs ls hl hP hS
  unfold b_X9_carries_3 at hf
  refine lv_iload hx hb dX9_carries_3 (lv_at hl 5 rfl) ?_
  refine lv_iload_n hx hb dX9_carries_5 rfl (lv_at hl 1 rfl) ?_
  refine lv_icmp_ge (tgt := 45) hx hb dX9_carries_6 (by decide) (fun hb3 => ?_) (fun hb3 => ?_)
  · have hf := ifT hb3 hf
    exact hJ45 _ hf _ _ _ (lv_sub hl [1, 3] rfl) hP hS
  · have hf := ifF hb3 hf
    refine lv_iload hx hb dX9_carries_9 (lv_at hl 4 rfl) ?_
    refine lv_if_eq (tgt := 28) hx hb dX9_carries_11 (by decide) (fun hb4 => ?_) (fun hb4 => ?_)
    · have hf := ifT hb4 hf
      refine lv_aload_n hx hb dX9_carries_28 rfl (lv_at hl 2 rfl) ?_
      refine lv_iload hx hb dX9_carries_29 (lv_at hl 3 rfl) ?_
      refine lv_iload hx hb dX9_carries_31 (lv_at hl 5 rfl) ?_
      refine lv_iadd hx hb dX9_carries_33 ?_
      refine lv_aload_n hx hb dX9_carries_34 rfl (lv_at hl 0 rfl) ?_
      refine lv_iload hx hb dX9_carries_35 (lv_at hl 5 rfl) ?_
      obtain ⟨hc5, hf⟩ := chk_some hf
      refine zz_iald hx hb C hP lt_o1 lay_o1 (inb_vp hc5) dX9_carries_37 ?_
      obtain ⟨hc6, hf⟩ := chk_some hf
      refine zz_iast hx hb C hP hS lt_o3 lay_o3 (inb_vp hc6) dX9_carries_38 (fun σ8 eσ8 H locs hP hS => ?_)
      have hf := bnd_at σ8 eσ8 hf
      obtain ⟨v9, ev9⟩ : ∃ z : Int32, z = q2.1 + 1 := ⟨_, rfl⟩
      have hf := bnd_at v9 ev9 hf
      refine lv_iinc (v := v9) (lv' := [(6, .int v9), (1, .ref (a o1)), (2, .int p2), (3, .ref (a o3)), (4, .int p4), (5, .int p5)]) hx hb dX9_carries_39 hl (k := 5) rfl (by rw [ev9]; rfl) (by decide) rfl (fun ls hl => ?_)
      refine lv_goto (tgt := 3) hx hb dX9_carries_42 (by decide) ?_
      exact ihk3 _ hf _ _ _ (lv_sub hl [1, 2, 3, 4, 5, 0] rfl) hP hS
    · have hf := ifF hb4 hf
      refine lv_aload_n hx hb dX9_carries_14 rfl (lv_at hl 0 rfl) ?_
      refine lv_iload hx hb dX9_carries_15 (lv_at hl 5 rfl) ?_
      refine lv_aload_n hx hb dX9_carries_17 rfl (lv_at hl 2 rfl) ?_
      refine lv_iload hx hb dX9_carries_18 (lv_at hl 3 rfl) ?_
      refine lv_iload hx hb dX9_carries_20 (lv_at hl 5 rfl) ?_
      refine lv_iadd hx hb dX9_carries_22 ?_
      obtain ⟨hc9, hf⟩ := chk_some hf
      refine zz_iald hx hb C hP lt_o3 lay_o3 (inb_vp hc9) dX9_carries_23 ?_
      obtain ⟨hc10, hf⟩ := chk_some hf
      refine zz_iast hx hb C hP hS lt_o1 lay_o1 (inb_vp hc10) dX9_carries_24 (fun σ12 eσ12 H locs hP hS => ?_)
      have hf := bnd_at σ12 eσ12 hf
      refine lv_goto (tgt := 39) hx hb dX9_carries_25 (by decide) ?_
      obtain ⟨v13, ev13⟩ : ∃ z : Int32, z = q2.1 + 1 := ⟨_, rfl⟩
      have hf := bnd_at v13 ev13 hf
      refine lv_iinc (v := v13) (lv' := [(6, .int v13), (1, .ref (a o1)), (2, .int p2), (3, .ref (a o3)), (4, .int p4), (5, .int p5)]) hx hb dX9_carries_39 hl (k := 5) rfl (by rw [ev13]; rfl) (by decide) rfl (fun ls hl => ?_)
      refine lv_goto (tgt := 3) hx hb dX9_carries_42 (by decide) ?_
      exact ihk3 _ hf _ _ _ (lv_sub hl [1, 2, 3, 4, 5, 0] rfl) hP hS
set_option maxHeartbeats 4000000 in
set_option maxRecDepth 100000 in
theorem c_X9_all (l : Launch) {D : va_G} {a : Nat → Nat} {cA : Nat → ClassId} {A : Nat → Prop} {sa : Nat → Nat} (hDA : DA a A) {σ : PH} {d : PD} {o1 n1 : Nat} (lt_o1 : o1 < NR) (lay_o1 : lay o1 = (1, n1, [])) (p2 : Int32) {u : PH} (hf : f_X9_all σ o1 n1 p2 = some u) : CTv l yX9_all cX9_all 4 none 1 26 D a cA A sa [.ref (a 81), .ref (a o1), .int p2] σ d u d := by
  refine zz_metV zpl_X9 hDA (Nat.le_of_ble_eq_true rfl) ?_
  intro p e R s m args below meth c Q ls hx hb hml C hRf hRl hQ hP hS hl
  have hl : lv_has ls 4 [(0, .ref (a 81)), (1, .ref (a o1)), (2, .int p2)] := hl
  unfold f_X9_all at hf
  refine lv_aload_n hx hb dX9_all_0 rfl (lv_at hl 0 rfl) ?_
  refine lv_aload_n hx hb dX9_all_1 rfl (lv_at hl 0 rfl) ?_
  refine zg_X9_26 hx hb C hP (by decide) lay_81 rfl dX9_all_2 ?_
  refine lv_bipush (v := 8) hx hb dX9_all_5 (by decide) ?_
  refine lv_aload_n hx hb dX9_all_7 rfl (lv_at hl 1 rfl) ?_
  refine lv_iconst (v := 0) hx hb dX9_all_8 (by decide) ?_
  refine lv_iload_n hx hb dX9_all_9 rfl (lv_at hl 2 rfl) ?_
  obtain ⟨u1, hzu1, hf⟩ := obd_some hf
  refine zz_callVi (rest := []) hx hb hml C hP hS (c_X9_carries l hDA (o1 := 83) (n1 := 8) (by decide) lay_83 8 (o3 := o1) (n3 := n1) lt_o1 lay_o1 0 p2 hzu1) zw_X9_203 ⟨Nat.le_trans (Nat.le_of_ble_eq_true rfl) hRf, Nat.le_trans (Nat.le_of_ble_eq_true rfl) hRl⟩ (by decide) lay_81 rfl rfl hl.1 (Nat.le_of_ble_eq_true rfl) ⟨Nat.zero_le _, Nat.zero_le _⟩ rfl dX9_all_10 (fun H locs hP hS => ?_)
  refine lv_istore_n (lv' := [(3, .int u1.1), (0, .ref (a 81)), (1, .ref (a o1)), (2, .int p2)]) hx hb dX9_all_13 rfl hl (by decide) rfl (fun ls hl => ?_)
  refine lv_aload_n hx hb dX9_all_14 rfl (lv_at hl 1 rfl) ?_
  refine lv_aload_n hx hb dX9_all_15 rfl (lv_at hl 1 rfl) ?_
  refine zg_X9_29 hx hb C hP (by decide) lay_81 rfl dX9_all_16 ?_
  refine lv_bipush (v := 8) hx hb dX9_all_19 (by decide) ?_
  refine lv_aload_n hx hb dX9_all_21 rfl (lv_at hl 2 rfl) ?_
  refine lv_iload_n hx hb dX9_all_22 rfl (lv_at hl 0 rfl) ?_
  refine lv_iload_n hx hb dX9_all_23 rfl (lv_at hl 3 rfl) ?_
  obtain ⟨u2, hzu2, hf⟩ := obd_some hf
  refine zz_callVi (rest := []) hx hb hml C hP hS (c_X9_carries l hDA (o1 := 84) (n1 := 8) (by decide) lay_84 8 (o3 := o1) (n3 := n1) lt_o1 lay_o1 u1.1 p2 hzu2) zw_X9_203 ⟨Nat.le_trans (Nat.le_of_ble_eq_true rfl) hRf, Nat.le_trans (Nat.le_of_ble_eq_true rfl) hRl⟩ (by decide) lay_81 rfl rfl hl.1 (Nat.le_of_ble_eq_true rfl) ⟨Nat.zero_le _, Nat.zero_le _⟩ rfl dX9_all_24 (fun H locs hP hS => ?_)
  refine lv_istore_n (lv' := [(3, .int u2.1), (0, .ref (a 81)), (1, .ref (a o1)), (2, .int p2)]) hx hb dX9_all_27 rfl hl (by decide) rfl (fun ls hl => ?_)
  refine lv_aload_n hx hb dX9_all_28 rfl (lv_at hl 1 rfl) ?_
  refine lv_aload_n hx hb dX9_all_29 rfl (lv_at hl 1 rfl) ?_
  refine zg_X9_32 hx hb C hP (by decide) lay_81 rfl dX9_all_30 ?_
  refine lv_bipush (v := 8) hx hb dX9_all_33 (by decide) ?_
  refine lv_aload_n hx hb dX9_all_35 rfl (lv_at hl 2 rfl) ?_
  refine lv_iload_n hx hb dX9_all_36 rfl (lv_at hl 0 rfl) ?_
  refine lv_iload_n hx hb dX9_all_37 rfl (lv_at hl 3 rfl) ?_
  obtain ⟨u3, hzu3, hf⟩ := obd_some hf
  refine zz_callVi (rest := []) hx hb hml C hP hS (c_X9_carries l hDA (o1 := 85) (n1 := 8) (by decide) lay_85 8 (o3 := o1) (n3 := n1) lt_o1 lay_o1 u2.1 p2 hzu3) zw_X9_203 ⟨Nat.le_trans (Nat.le_of_ble_eq_true rfl) hRf, Nat.le_trans (Nat.le_of_ble_eq_true rfl) hRl⟩ (by decide) lay_81 rfl rfl hl.1 (Nat.le_of_ble_eq_true rfl) ⟨Nat.zero_le _, Nat.zero_le _⟩ rfl dX9_all_38 (fun H locs hP hS => ?_)
  refine lv_istore_n (lv' := [(3, .int u3.1), (0, .ref (a 81)), (1, .ref (a o1)), (2, .int p2)]) hx hb dX9_all_41 rfl hl (by decide) rfl (fun ls hl => ?_)
  refine lv_aload_n hx hb dX9_all_42 rfl (lv_at hl 1 rfl) ?_
  refine lv_aload_n hx hb dX9_all_43 rfl (lv_at hl 1 rfl) ?_
  refine zg_X9_35 hx hb C hP (by decide) lay_81 rfl dX9_all_44 ?_
  refine lv_bipush (v := 8) hx hb dX9_all_47 (by decide) ?_
  refine lv_aload_n hx hb dX9_all_49 rfl (lv_at hl 2 rfl) ?_
  refine lv_iload_n hx hb dX9_all_50 rfl (lv_at hl 0 rfl) ?_
  refine lv_iload_n hx hb dX9_all_51 rfl (lv_at hl 3 rfl) ?_
  obtain ⟨u4, hzu4, hf⟩ := obd_some hf
  refine zz_callVi (rest := []) hx hb hml C hP hS (c_X9_carries l hDA (o1 := 86) (n1 := 8) (by decide) lay_86 8 (o3 := o1) (n3 := n1) lt_o1 lay_o1 u3.1 p2 hzu4) zw_X9_203 ⟨Nat.le_trans (Nat.le_of_ble_eq_true rfl) hRf, Nat.le_trans (Nat.le_of_ble_eq_true rfl) hRl⟩ (by decide) lay_81 rfl rfl hl.1 (Nat.le_of_ble_eq_true rfl) ⟨Nat.zero_le _, Nat.zero_le _⟩ rfl dX9_all_52 (fun H locs hP hS => ?_)
  refine lv_istore_n (lv' := [(3, .int u4.1), (0, .ref (a 81)), (1, .ref (a o1)), (2, .int p2)]) hx hb dX9_all_55 rfl hl (by decide) rfl (fun ls hl => ?_)
  refine lv_aload_n hx hb dX9_all_56 rfl (lv_at hl 1 rfl) ?_
  refine lv_aload_n hx hb dX9_all_57 rfl (lv_at hl 1 rfl) ?_
  refine zg_X9_38 hx hb C hP (by decide) lay_81 rfl dX9_all_58 ?_
  refine lv_bipush (v := 16) hx hb dX9_all_61 (by decide) ?_
  refine lv_aload_n hx hb dX9_all_63 rfl (lv_at hl 2 rfl) ?_
  refine lv_iload_n hx hb dX9_all_64 rfl (lv_at hl 0 rfl) ?_
  refine lv_iload_n hx hb dX9_all_65 rfl (lv_at hl 3 rfl) ?_
  obtain ⟨u5, hzu5, hf⟩ := obd_some hf
  refine zz_callVi (rest := []) hx hb hml C hP hS (c_X9_carries l hDA (o1 := 87) (n1 := 16) (by decide) lay_87 16 (o3 := o1) (n3 := n1) lt_o1 lay_o1 u4.1 p2 hzu5) zw_X9_203 ⟨Nat.le_trans (Nat.le_of_ble_eq_true rfl) hRf, Nat.le_trans (Nat.le_of_ble_eq_true rfl) hRl⟩ (by decide) lay_81 rfl rfl hl.1 (Nat.le_of_ble_eq_true rfl) ⟨Nat.zero_le _, Nat.zero_le _⟩ rfl dX9_all_66 (fun H locs hP hS => ?_)
  refine lv_istore_n (lv' := [(3, .int u5.1), (0, .ref (a 81)), (1, .ref (a o1)), (2, .int p2)]) hx hb dX9_all_69 rfl hl (by decide) rfl (fun ls hl => ?_)
  refine lv_aload_n hx hb dX9_all_70 rfl (lv_at hl 1 rfl) ?_
  refine lv_aload_n hx hb dX9_all_71 rfl (lv_at hl 1 rfl) ?_
  refine zg_X9_41 hx hb C hP (by decide) lay_81 rfl dX9_all_72 ?_
  refine lv_bipush (v := 16) hx hb dX9_all_75 (by decide) ?_
  refine lv_aload_n hx hb dX9_all_77 rfl (lv_at hl 2 rfl) ?_
  refine lv_iload_n hx hb dX9_all_78 rfl (lv_at hl 0 rfl) ?_
  refine lv_iload_n hx hb dX9_all_79 rfl (lv_at hl 3 rfl) ?_
  obtain ⟨u6, hzu6, hf⟩ := obd_some hf
  refine zz_callVi (rest := []) hx hb hml C hP hS (c_X9_carries l hDA (o1 := 88) (n1 := 16) (by decide) lay_88 16 (o3 := o1) (n3 := n1) lt_o1 lay_o1 u5.1 p2 hzu6) zw_X9_203 ⟨Nat.le_trans (Nat.le_of_ble_eq_true rfl) hRf, Nat.le_trans (Nat.le_of_ble_eq_true rfl) hRl⟩ (by decide) lay_81 rfl rfl hl.1 (Nat.le_of_ble_eq_true rfl) ⟨Nat.zero_le _, Nat.zero_le _⟩ rfl dX9_all_80 (fun H locs hP hS => ?_)
  refine lv_istore_n (lv' := [(3, .int u6.1), (0, .ref (a 81)), (1, .ref (a o1)), (2, .int p2)]) hx hb dX9_all_83 rfl hl (by decide) rfl (fun ls hl => ?_)
  refine lv_iload_n hx hb dX9_all_84 rfl (lv_at hl 3 rfl) ?_
  refine lv_if_eq (tgt := 163) hx hb dX9_all_85 (by decide) (fun hb6 => ?_) (fun hb6 => ?_)
  · have hf := ifT hb6 hf
    refine lv_aload_n hx hb dX9_all_163 rfl (lv_at hl 2 rfl) ?_
    refine lv_iload_n hx hb dX9_all_164 rfl (lv_at hl 0 rfl) ?_
    refine lv_aload_n hx hb dX9_all_165 rfl (lv_at hl 1 rfl) ?_
    refine zg_X9_96 hx hb C hP (by decide) lay_81 rfl dX9_all_166 ?_
    obtain ⟨hc7, hf⟩ := chk_some hf
    refine zz_iast hx hb C hP hS lt_o1 lay_o1 (inb_vp hc7) dX9_all_169 (fun σ9 eσ9 H locs hP hS => ?_)
    have hf := bnd_at σ9 eσ9 hf
    refine lv_aload_n hx hb dX9_all_170 rfl (lv_at hl 2 rfl) ?_
    refine lv_iload_n hx hb dX9_all_171 rfl (lv_at hl 0 rfl) ?_
    refine lv_iconst (v := 1) hx hb dX9_all_172 (by decide) ?_
    refine lv_iadd hx hb dX9_all_173 ?_
    refine lv_aload_n hx hb dX9_all_174 rfl (lv_at hl 1 rfl) ?_
    refine zg_X9_7 hx hb C hP (by decide) lay_81 rfl dX9_all_175 ?_
    obtain ⟨hc9, hf⟩ := chk_some hf
    refine zz_iast hx hb C hP hS lt_o1 lay_o1 (inb_vp hc9) dX9_all_178 (fun σ11 eσ11 H locs hP hS => ?_)
    have hf := bnd_at σ11 eσ11 hf
    refine lv_aload_n hx hb dX9_all_179 rfl (lv_at hl 2 rfl) ?_
    refine lv_iload_n hx hb dX9_all_180 rfl (lv_at hl 0 rfl) ?_
    refine lv_iconst (v := 2) hx hb dX9_all_181 (by decide) ?_
    refine lv_iadd hx hb dX9_all_182 ?_
    refine lv_aload_n hx hb dX9_all_183 rfl (lv_at hl 1 rfl) ?_
    refine zg_X9_13 hx hb C hP (by decide) lay_81 rfl dX9_all_184 ?_
    obtain ⟨hc11, hf⟩ := chk_some hf
    refine zz_iast hx hb C hP hS lt_o1 lay_o1 (inb_vp hc11) dX9_all_187 (fun σ13 eσ13 H locs hP hS => ?_)
    have hf := bnd_at σ13 eσ13 hf
    refine lv_aload_n hx hb dX9_all_188 rfl (lv_at hl 2 rfl) ?_
    refine lv_iload_n hx hb dX9_all_189 rfl (lv_at hl 0 rfl) ?_
    refine lv_iconst (v := 3) hx hb dX9_all_190 (by decide) ?_
    refine lv_iadd hx hb dX9_all_191 ?_
    refine lv_aload_n hx hb dX9_all_192 rfl (lv_at hl 1 rfl) ?_
    refine zg_X9_136 hx hb C hP (by decide) lay_81 rfl dX9_all_193 ?_
    obtain ⟨hc13, hf⟩ := chk_some hf
    refine zz_iast hx hb C hP hS lt_o1 lay_o1 (inb_vp hc13) dX9_all_196 (fun σ15 eσ15 H locs hP hS => ?_)
    have hf := bnd_at σ15 eσ15 hf
    refine lv_aload_n hx hb dX9_all_197 rfl (lv_at hl 2 rfl) ?_
    refine lv_iload_n hx hb dX9_all_198 rfl (lv_at hl 0 rfl) ?_
    refine lv_iconst (v := 4) hx hb dX9_all_199 (by decide) ?_
    refine lv_iadd hx hb dX9_all_200 ?_
    refine lv_aload_n hx hb dX9_all_201 rfl (lv_at hl 1 rfl) ?_
    refine zg_X9_139 hx hb C hP (by decide) lay_81 rfl dX9_all_202 ?_
    obtain ⟨hc15, hf⟩ := chk_some hf
    refine zz_iast hx hb C hP hS lt_o1 lay_o1 (inb_vp hc15) dX9_all_205 (fun σ17 eσ17 H locs hP hS => ?_)
    have hf := bnd_at σ17 eσ17 hf
    refine lv_aload_n hx hb dX9_all_206 rfl (lv_at hl 2 rfl) ?_
    refine lv_iload_n hx hb dX9_all_207 rfl (lv_at hl 0 rfl) ?_
    refine lv_iconst (v := 5) hx hb dX9_all_208 (by decide) ?_
    refine lv_iadd hx hb dX9_all_209 ?_
    refine lv_aload_n hx hb dX9_all_210 rfl (lv_at hl 1 rfl) ?_
    refine zg_X9_123 hx hb C hP (by decide) lay_81 rfl dX9_all_211 ?_
    obtain ⟨hc17, hf⟩ := chk_some hf
    refine zz_iast hx hb C hP hS lt_o1 lay_o1 (inb_vp hc17) dX9_all_214 (fun σ19 eσ19 H locs hP hS => ?_)
    have hf := bnd_at σ19 eσ19 hf
    refine lv_aload_n hx hb dX9_all_215 rfl (lv_at hl 2 rfl) ?_
    refine lv_iload_n hx hb dX9_all_216 rfl (lv_at hl 0 rfl) ?_
    refine lv_bipush (v := 6) hx hb dX9_all_217 (by decide) ?_
    refine lv_iadd hx hb dX9_all_219 ?_
    refine lv_aload_n hx hb dX9_all_220 rfl (lv_at hl 1 rfl) ?_
    refine zg_X9_120 hx hb C hP (by decide) lay_81 rfl dX9_all_221 ?_
    obtain ⟨hc19, hf⟩ := chk_some hf
    refine zz_iast hx hb C hP hS lt_o1 lay_o1 (inb_vp hc19) dX9_all_224 (fun σ21 eσ21 H locs hP hS => ?_)
    have hf := bnd_at σ21 eσ21 hf
    refine lv_aload_n hx hb dX9_all_225 rfl (lv_at hl 2 rfl) ?_
    refine lv_iload_n hx hb dX9_all_226 rfl (lv_at hl 0 rfl) ?_
    refine lv_bipush (v := 7) hx hb dX9_all_227 (by decide) ?_
    refine lv_iadd hx hb dX9_all_229 ?_
    refine lv_aload_n hx hb dX9_all_230 rfl (lv_at hl 1 rfl) ?_
    refine zg_X9_16 hx hb C hP (by decide) lay_81 rfl dX9_all_231 ?_
    obtain ⟨hc21, hf⟩ := chk_some hf
    refine zz_iast hx hb C hP hS lt_o1 lay_o1 (inb_vp hc21) dX9_all_234 (fun σ23 eσ23 H locs hP hS => ?_)
    have hf := bnd_at σ23 eσ23 hf
    have hf := Option.some.inj hf
    subst hf
    exact hQ _ _ _ _ dX9_all_235 hP hS
  · have hf := ifF hb6 hf
    refine lv_aload_n hx hb dX9_all_88 rfl (lv_at hl 1 rfl) ?_
    refine lv_aload_n hx hb dX9_all_89 rfl (lv_at hl 2 rfl) ?_
    refine lv_iload_n hx hb dX9_all_90 rfl (lv_at hl 0 rfl) ?_
    obtain ⟨hc23, hf⟩ := chk_some hf
    refine zz_iald hx hb C hP lt_o1 lay_o1 (inb_vp hc23) dX9_all_91 ?_
    refine zp_X9_96 hx hb C hP hS (by decide) lay_81 rfl dX9_all_92 (fun σ25 eσ25 H locs hP hS => ?_)
    have hf := bnd_at σ25 eσ25 hf
    refine lv_aload_n hx hb dX9_all_95 rfl (lv_at hl 1 rfl) ?_
    refine lv_aload_n hx hb dX9_all_96 rfl (lv_at hl 2 rfl) ?_
    refine lv_iload_n hx hb dX9_all_97 rfl (lv_at hl 0 rfl) ?_
    refine lv_iconst (v := 1) hx hb dX9_all_98 (by decide) ?_
    refine lv_iadd hx hb dX9_all_99 ?_
    obtain ⟨hc25, hf⟩ := chk_some hf
    refine zz_iald hx hb C hP lt_o1 lay_o1 (inb_vp hc25) dX9_all_100 ?_
    refine zp_X9_7 hx hb C hP hS (by decide) lay_81 rfl dX9_all_101 (fun σ27 eσ27 H locs hP hS => ?_)
    have hf := bnd_at σ27 eσ27 hf
    refine lv_aload_n hx hb dX9_all_104 rfl (lv_at hl 1 rfl) ?_
    refine lv_aload_n hx hb dX9_all_105 rfl (lv_at hl 2 rfl) ?_
    refine lv_iload_n hx hb dX9_all_106 rfl (lv_at hl 0 rfl) ?_
    refine lv_iconst (v := 2) hx hb dX9_all_107 (by decide) ?_
    refine lv_iadd hx hb dX9_all_108 ?_
    obtain ⟨hc27, hf⟩ := chk_some hf
    refine zz_iald hx hb C hP lt_o1 lay_o1 (inb_vp hc27) dX9_all_109 ?_
    refine zp_X9_13 hx hb C hP hS (by decide) lay_81 rfl dX9_all_110 (fun σ29 eσ29 H locs hP hS => ?_)
    have hf := bnd_at σ29 eσ29 hf
    refine lv_aload_n hx hb dX9_all_113 rfl (lv_at hl 1 rfl) ?_
    refine lv_aload_n hx hb dX9_all_114 rfl (lv_at hl 2 rfl) ?_
    refine lv_iload_n hx hb dX9_all_115 rfl (lv_at hl 0 rfl) ?_
    refine lv_iconst (v := 3) hx hb dX9_all_116 (by decide) ?_
    refine lv_iadd hx hb dX9_all_117 ?_
    obtain ⟨hc29, hf⟩ := chk_some hf
    refine zz_iald hx hb C hP lt_o1 lay_o1 (inb_vp hc29) dX9_all_118 ?_
    refine zp_X9_136 hx hb C hP hS (by decide) lay_81 rfl dX9_all_119 (fun σ31 eσ31 H locs hP hS => ?_)
    have hf := bnd_at σ31 eσ31 hf
    refine lv_aload_n hx hb dX9_all_122 rfl (lv_at hl 1 rfl) ?_
    refine lv_aload_n hx hb dX9_all_123 rfl (lv_at hl 2 rfl) ?_
    refine lv_iload_n hx hb dX9_all_124 rfl (lv_at hl 0 rfl) ?_
    refine lv_iconst (v := 4) hx hb dX9_all_125 (by decide) ?_
    refine lv_iadd hx hb dX9_all_126 ?_
    obtain ⟨hc31, hf⟩ := chk_some hf
    refine zz_iald hx hb C hP lt_o1 lay_o1 (inb_vp hc31) dX9_all_127 ?_
    refine zp_X9_139 hx hb C hP hS (by decide) lay_81 rfl dX9_all_128 (fun σ33 eσ33 H locs hP hS => ?_)
    have hf := bnd_at σ33 eσ33 hf
    refine lv_aload_n hx hb dX9_all_131 rfl (lv_at hl 1 rfl) ?_
    refine lv_aload_n hx hb dX9_all_132 rfl (lv_at hl 2 rfl) ?_
    refine lv_iload_n hx hb dX9_all_133 rfl (lv_at hl 0 rfl) ?_
    refine lv_iconst (v := 5) hx hb dX9_all_134 (by decide) ?_
    refine lv_iadd hx hb dX9_all_135 ?_
    obtain ⟨hc33, hf⟩ := chk_some hf
    refine zz_iald hx hb C hP lt_o1 lay_o1 (inb_vp hc33) dX9_all_136 ?_
    refine zp_X9_123 hx hb C hP hS (by decide) lay_81 rfl dX9_all_137 (fun σ35 eσ35 H locs hP hS => ?_)
    have hf := bnd_at σ35 eσ35 hf
    refine lv_aload_n hx hb dX9_all_140 rfl (lv_at hl 1 rfl) ?_
    refine lv_aload_n hx hb dX9_all_141 rfl (lv_at hl 2 rfl) ?_
    refine lv_iload_n hx hb dX9_all_142 rfl (lv_at hl 0 rfl) ?_
    refine lv_bipush (v := 6) hx hb dX9_all_143 (by decide) ?_
    refine lv_iadd hx hb dX9_all_145 ?_
    obtain ⟨hc35, hf⟩ := chk_some hf
    refine zz_iald hx hb C hP lt_o1 lay_o1 (inb_vp hc35) dX9_all_146 ?_
    refine zp_X9_120 hx hb C hP hS (by decide) lay_81 rfl dX9_all_147 (fun σ37 eσ37 H locs hP hS => ?_)
    have hf := bnd_at σ37 eσ37 hf
    refine lv_aload_n hx hb dX9_all_150 rfl (lv_at hl 1 rfl) ?_
    refine lv_aload_n hx hb dX9_all_151 rfl (lv_at hl 2 rfl) ?_
    refine lv_iload_n hx hb dX9_all_152 rfl (lv_at hl 0 rfl) ?_
    refine lv_bipush (v := 7) hx hb dX9_all_153 (by decide) ?_
    refine lv_iadd hx hb dX9_all_155 ?_
    obtain ⟨hc37, hf⟩ := chk_some hf
    refine zz_iald hx hb C hP lt_o1 lay_o1 (inb_vp hc37) dX9_all_156 ?_
    refine zp_X9_16 hx hb C hP hS (by decide) lay_81 rfl dX9_all_157 (fun σ39 eσ39 H locs hP hS => ?_)
    have hf := bnd_at σ39 eσ39 hf
    refine lv_goto (tgt := 235) hx hb dX9_all_160 (by decide) ?_
    have hf := Option.some.inj hf
    subst hf
    exact hQ _ _ _ _ dX9_all_235 hP hS
set_option maxHeartbeats 4000000 in
set_option maxRecDepth 100000 in
theorem c_X9_loft (l : Launch) {D : va_G} {a : Nat → Nat} {cA : Nat → ClassId} {A : Nat → Prop} {sa : Nat → Nat} (hDA : DA a A) {σ : PH} {d : PD} (p1 : Int32) {u : Int32 × PH} (hf : f_X9_loft σ p1 = some u) : CTi l yX9_loft cX9_loft 5 (some .int) 9 208 D a cA A sa [.ref (a 81), .int p1] σ d u.1 u.2 d := by
  refine zz_metI zpl_X9 hDA (Nat.le_of_ble_eq_true rfl) ?_
  intro p e R s m args below meth c Q ls hx hb hml C hRf hRl hQ hP hS hl
  have hl : lv_has ls 5 [(0, .ref (a 81)), (1, .int p1)] := hl
  unfold f_X9_loft at hf
  refine lv_aload_n hx hb dX9_loft_0 rfl (lv_at hl 0 rfl) ?_
  refine lv_iload_n hx hb dX9_loft_1 rfl (lv_at hl 1 rfl) ?_
  obtain ⟨u1, hzu1, hf⟩ := obd_some hf
  refine zz_callVi (rest := []) hx hb hml C hP hS (c_X9_wanted l hDA p1 hzu1) zw_X9_117 ⟨Nat.le_trans (Nat.le_of_ble_eq_true rfl) hRf, Nat.le_trans (Nat.le_of_ble_eq_true rfl) hRl⟩ (by decide) lay_81 rfl rfl hl.1 (Nat.le_of_ble_eq_true rfl) ⟨Nat.zero_le _, Nat.zero_le _⟩ rfl dX9_loft_2 (fun H locs hP hS => ?_)
  refine lv_istore_n (lv' := [(2, .int u1), (0, .ref (a 81)), (1, .int p1)]) hx hb dX9_loft_5 rfl hl (by decide) rfl (fun ls hl => ?_)
  refine lv_iload_n hx hb dX9_loft_6 rfl (lv_at hl 0 rfl) ?_
  refine lv_if_eq (tgt := 16) hx hb dX9_loft_7 (by decide) (fun hb1 => ?_) (fun hb1 => ?_)
  · have hf := ifT hb1 hf
    refine lv_aload_n hx hb dX9_loft_16 rfl (lv_at hl 1 rfl) ?_
    refine lv_aload_n hx hb dX9_loft_17 rfl (lv_at hl 1 rfl) ?_
    refine zg_X9_72 hx hb C hP (by decide) lay_81 rfl dX9_loft_18 ?_
    refine lv_iconst (v := 0) hx hb dX9_loft_21 (by decide) ?_
    obtain ⟨u3, hzu3, hf⟩ := obd_some hf
    refine zz_callVv (rest := []) hx hb hml C hP hS (c_X9_all l hDA (o1 := 98) (n1 := 80) (by decide) lay_98 0 hzu3) zw_X9_207 ⟨Nat.le_trans (Nat.le_of_ble_eq_true rfl) hRf, Nat.le_trans (Nat.le_of_ble_eq_true rfl) hRl⟩ (by decide) lay_81 rfl rfl hl.1 (Nat.le_of_ble_eq_true rfl) ⟨Nat.zero_le _, Nat.zero_le _⟩ rfl dX9_loft_22 (fun H locs hP hS => ?_)
    refine lv_aload_n hx hb dX9_loft_25 rfl (lv_at hl 1 rfl) ?_
    refine lv_sipush (v := 160) hx hb dX9_loft_26 (by decide) ?_
    refine lv_iload_n hx hb dX9_loft_29 rfl (lv_at hl 2 rfl) ?_
    refine lv_imul hx hb dX9_loft_30 ?_
    refine zp_X9_159 hx hb C hP hS (by decide) lay_81 rfl dX9_loft_31 (fun σ4 eσ4 H locs hP hS => ?_)
    have hf := bnd_at σ4 eσ4 hf
    refine lv_aload_n hx hb dX9_loft_34 rfl (lv_at hl 1 rfl) ?_
    refine lv_iconst (v := 0) hx hb dX9_loft_35 (by decide) ?_
    refine zp_X9_153 hx hb C hP hS (by decide) lay_81 rfl dX9_loft_36 (fun σ5 eσ5 H locs hP hS => ?_)
    have hf := bnd_at σ5 eσ5 hf
    refine lv_aload_n hx hb dX9_loft_39 rfl (lv_at hl 1 rfl) ?_
    refine lv_aload_n hx hb dX9_loft_40 rfl (lv_at hl 1 rfl) ?_
    refine zg_X9_50 hx hb C hP (by decide) lay_81 rfl dX9_loft_41 ?_
    refine lv_iload_n hx hb dX9_loft_44 rfl (lv_at hl 2 rfl) ?_
    obtain ⟨hc5, hf⟩ := chk_some hf
    refine zz_iald hx hb C hP (by decide) lay_91 (inb_vp hc5) dX9_loft_45 ?_
    refine zp_X9_156 hx hb C hP hS (by decide) lay_81 rfl dX9_loft_46 (fun σ7 eσ7 H locs hP hS => ?_)
    have hf := bnd_at σ7 eσ7 hf
    refine lv_aload_n hx hb dX9_loft_49 rfl (lv_at hl 1 rfl) ?_
    refine lv_iconst (v := (-1)) hx hb dX9_loft_50 (by decide) ?_
    refine zp_X9_19 hx hb C hP hS (by decide) lay_81 rfl dX9_loft_51 (fun σ8 eσ8 H locs hP hS => ?_)
    have hf := bnd_at σ8 eσ8 hf
    refine lv_iconst (v := 1) hx hb dX9_loft_54 (by decide) ?_
    refine lv_istore_n (lv' := [(3, .int 1), (2, .int u1), (0, .ref (a 81)), (1, .int p1)]) hx hb dX9_loft_55 rfl hl (by decide) rfl (fun ls hl => ?_)
    refine lv_aload_n hx hb dX9_loft_56 rfl (lv_at hl 2 rfl) ?_
    obtain ⟨u9, hzu9, hf⟩ := obd_some hf
    refine zz_callVi (rest := []) hx hb hml C hP hS (c_X9_item l hDA  hzu9) zw_X9_211 ⟨Nat.le_trans (Nat.le_of_ble_eq_true rfl) hRf, Nat.le_trans (Nat.le_of_ble_eq_true rfl) hRl⟩ (by decide) lay_81 rfl rfl hl.1 (Nat.le_of_ble_eq_true rfl) ⟨Nat.zero_le _, Nat.zero_le _⟩ rfl dX9_loft_57 (fun H locs hP hS => ?_)
    refine lv_istore (lv' := [(4, .int u9.1), (3, .int 1), (2, .int u1), (0, .ref (a 81)), (1, .int p1)]) hx hb dX9_loft_60 hl (by decide) rfl (fun ls hl => ?_)
    have hJ133 : ∀ (v10 : Int32) (v11 : Int32) (σ12 : PH), j_X9_loft_133 v10 v11 σ12 = some u → ∀ (H : Heap) (locs : List Loc) (ls : Array Slot), lv_has ls 5 [(0, .ref (a 81)), (3, .int v10), (4, .int v11)] → va_P D vwCl (wl a cA σ12 d) H → va_S A s.heap H locs → W p l e R s m args below meth c H locs 0 0 Q (F0 m 133 ls []) := by
      intro v10 v11 σ12 hf H locs ls hl hP hS
      unfold j_X9_loft_133 at hf
      refine lv_iload hx hb dX9_loft_133 (lv_at hl 2 rfl) ?_
      refine lv_if_eq (tgt := 140) hx hb dX9_loft_135 (by decide) (fun hb12 => ?_) (fun hb12 => ?_)
      · have hf := ifT hb12 hf
        refine lv_aload_n hx hb dX9_loft_140 rfl (lv_at hl 0 rfl) ?_
        refine lv_aload_n hx hb dX9_loft_141 rfl (lv_at hl 0 rfl) ?_
        refine zg_X9_72 hx hb C hP (by decide) lay_81 rfl dX9_loft_142 ?_
        refine lv_iconst (v := 1) hx hb dX9_loft_145 (by decide) ?_
        obtain ⟨u14, hzu14, hf⟩ := obd_some hf
        refine zz_callVv (rest := []) hx hb hml C hP hS (c_X9_all l hDA (o1 := 98) (n1 := 80) (by decide) lay_98 1 hzu14) zw_X9_207 ⟨Nat.le_trans (Nat.le_of_ble_eq_true rfl) hRf, Nat.le_trans (Nat.le_of_ble_eq_true rfl) hRl⟩ (by decide) lay_81 rfl rfl hl.1 (Nat.le_of_ble_eq_true rfl) ⟨Nat.zero_le _, Nat.zero_le _⟩ rfl dX9_loft_146 (fun H locs hP hS => ?_)
        refine lv_aload_n hx hb dX9_loft_149 rfl (lv_at hl 0 rfl) ?_
        refine lv_aload_n hx hb dX9_loft_150 rfl (lv_at hl 0 rfl) ?_
        refine zg_X9_150 hx hb C hP (by decide) lay_81 rfl dX9_loft_151 ?_
        refine zp_X9_19 hx hb C hP hS (by decide) lay_81 rfl dX9_loft_154 (fun σ15 eσ15 H locs hP hS => ?_)
        have hf := bnd_at σ15 eσ15 hf
        refine lv_aload_n hx hb dX9_loft_157 rfl (lv_at hl 0 rfl) ?_
        refine lv_bipush (v := (-6)) hx hb dX9_loft_158 (by decide) ?_
        obtain ⟨u16, hzu16, hf⟩ := obd_some hf
        refine zz_callVi (rest := []) hx hb hml C hP hS (c_X9_no l hDA (-6) hzu16) zw_X9_107 ⟨Nat.le_trans (Nat.le_of_ble_eq_true rfl) hRf, Nat.le_trans (Nat.le_of_ble_eq_true rfl) hRl⟩ (by decide) lay_81 rfl rfl hl.1 (Nat.le_of_ble_eq_true rfl) ⟨Nat.zero_le _, Nat.zero_le _⟩ rfl dX9_loft_160 (fun H locs hP hS => ?_)
        have hf := Option.some.inj hf
        subst hf
        exact hQ _ _ _ _ dX9_loft_163 hP hS
      · have hf := ifF hb12 hf
        refine lv_iload_n hx hb dX9_loft_138 rfl (lv_at hl 1 rfl) ?_
        have hf := Option.some.inj hf
        subst hf
        exact hQ _ _ _ _ dX9_loft_139 hP hS
    refine loopN_ind (P := fun (q17 : Int32 × Int32 × PH) => ∀ (H : Heap) (locs : List Loc) (ls : Array Slot), lv_has ls 5 [(0, .ref (a 81)), (3, .int q17.1), (4, .int q17.2.1)] → va_P D vwCl (wl a cA q17.2.2 d) H → va_S A s.heap H locs → W p l e R s m args below meth c H locs 0 0 Q (F0 m 62 ls [])) ?_ _ _ hf _ _ _ (lv_sub hl [3, 1, 0] rfl) hP hS
    intro k18 ihk18 q17 hf H locs ls hl hP hS
    unfold b_X9_loft_62 at hf
    refine lv_iload hx hb dX9_loft_62 (lv_at hl 2 rfl) ?_
    refine lv_if_eq (tgt := 133) hx hb dX9_loft_64 (by decide) (fun hb18 => ?_) (fun hb18 => ?_)
    · have hf := ifT hb18 hf
      exact hJ133 _ _ _ hf _ _ _ (lv_sub hl [0, 1, 2] rfl) hP hS
    · have hf := ifF hb18 hf
      refine lv_aload_n hx hb dX9_loft_67 rfl (lv_at hl 0 rfl) ?_
      refine zg_X9_153 hx hb C hP (by decide) lay_81 rfl dX9_loft_68 ?_
      refine lv_aload_n hx hb dX9_loft_71 rfl (lv_at hl 0 rfl) ?_
      refine zg_X9_156 hx hb C hP (by decide) lay_81 rfl dX9_loft_72 ?_
      refine lv_icmp_ge (tgt := 133) hx hb dX9_loft_75 (by decide) (fun hb19 => ?_) (fun hb19 => ?_)
      · have hf := ifT hb19 hf
        exact hJ133 _ _ _ hf _ _ _ (lv_sub hl [0, 1, 2] rfl) hP hS
      · have hf := ifF hb19 hf
        refine lv_aload_n hx hb dX9_loft_78 rfl (lv_at hl 0 rfl) ?_
        refine zg_X9_56 hx hb C hP (by decide) lay_81 rfl dX9_loft_79 ?_
        refine lv_aload_n hx hb dX9_loft_82 rfl (lv_at hl 0 rfl) ?_
        refine zg_X9_159 hx hb C hP (by decide) lay_81 rfl dX9_loft_83 ?_
        refine lv_aload_n hx hb dX9_loft_86 rfl (lv_at hl 0 rfl) ?_
        refine zg_X9_153 hx hb C hP (by decide) lay_81 rfl dX9_loft_87 ?_
        refine lv_iadd hx hb dX9_loft_90 ?_
        obtain ⟨hc20, hf⟩ := chk_some hf
        refine zz_lald hx hb C hP (by decide) lay_93 (inb_vp hc20) dX9_loft_91 ?_
        refine lv_l2i (v := (gJ q17.2.2 93 ((gI q17.2.2 81 25) + (gI q17.2.2 81 26)).toNatClampNeg).toInt32) hx hb dX9_loft_92 rfl ?_
        refine lv_bipush (v := 59) hx hb dX9_loft_93 (by decide) ?_
        refine lv_icmp_eq (tgt := 111) hx hb dX9_loft_95 (by decide) (fun hb21 => ?_) (fun hb21 => ?_)
        · have hf := ifT hb21 hf
          refine lv_aload_n hx hb dX9_loft_111 rfl (lv_at hl 0 rfl) ?_
          refine lv_dup hx hb dX9_loft_112 rfl ?_
          refine zg_X9_153 hx hb C hP (by decide) lay_81 rfl dX9_loft_113 ?_
          refine lv_iconst (v := 1) hx hb dX9_loft_116 (by decide) ?_
          refine lv_iadd hx hb dX9_loft_117 ?_
          refine zp_X9_153 hx hb C hP hS (by decide) lay_81 rfl dX9_loft_118 (fun σ23 eσ23 H locs hP hS => ?_)
          have hf := bnd_at σ23 eσ23 hf
          obtain ⟨v24, ev24⟩ : ∃ z : Int32, z = q17.1 + 1 := ⟨_, rfl⟩
          have hf := bnd_at v24 ev24 hf
          refine lv_iinc (v := v24) (lv' := [(3, .int v24), (0, .ref (a 81)), (4, .int q17.2.1)]) hx hb dX9_loft_121 hl (k := 1) rfl (by rw [ev24]; rfl) (by decide) rfl (fun ls hl => ?_)
          refine lv_aload_n hx hb dX9_loft_124 rfl (lv_at hl 1 rfl) ?_
          obtain ⟨u25, hzu25, hf⟩ := obd_some hf
          refine zz_callVi (rest := []) hx hb hml C hP hS (c_X9_item l hDA  hzu25) zw_X9_211 ⟨Nat.le_trans (Nat.le_of_ble_eq_true rfl) hRf, Nat.le_trans (Nat.le_of_ble_eq_true rfl) hRl⟩ (by decide) lay_81 rfl rfl hl.1 (Nat.le_of_ble_eq_true rfl) ⟨Nat.zero_le _, Nat.zero_le _⟩ rfl dX9_loft_125 (fun H locs hP hS => ?_)
          refine lv_istore (lv' := [(4, .int u25.1), (3, .int v24), (0, .ref (a 81))]) hx hb dX9_loft_128 hl (by decide) rfl (fun ls hl => ?_)
          refine lv_goto (tgt := 62) hx hb dX9_loft_130 (by decide) ?_
          exact ihk18 _ hf _ _ _ (lv_sub hl [2, 1, 0] rfl) hP hS
        · have hf := ifF hb21 hf
          refine lv_aload_n hx hb dX9_loft_98 rfl (lv_at hl 0 rfl) ?_
          refine lv_aload_n hx hb dX9_loft_99 rfl (lv_at hl 0 rfl) ?_
          refine zg_X9_153 hx hb C hP (by decide) lay_81 rfl dX9_loft_100 ?_
          obtain ⟨u26, hzu26⟩ : ∃ z, z = f_X9_wrong q17.2.2 (gI q17.2.2 81 26) := ⟨_, rfl⟩
          have hf := bnd_at u26 hzu26 hf
          refine zz_callVi (rest := []) hx hb hml C hP hS (c_X9_wrong l hDA (gI q17.2.2 81 26) hzu26.symm) zw_X9_169 ⟨Nat.le_trans (Nat.le_of_ble_eq_true rfl) hRf, Nat.le_trans (Nat.le_of_ble_eq_true rfl) hRl⟩ (by decide) lay_81 rfl rfl hl.1 (Nat.le_of_ble_eq_true rfl) ⟨Nat.zero_le _, Nat.zero_le _⟩ rfl dX9_loft_103 (fun H locs hP hS => ?_)
          refine lv_istore (lv' := [(4, .int u26.1), (0, .ref (a 81)), (3, .int q17.1)]) hx hb dX9_loft_106 hl (by decide) rfl (fun ls hl => ?_)
          refine lv_goto (tgt := 62) hx hb dX9_loft_108 (by decide) ?_
          exact ihk18 _ hf _ _ _ (lv_sub hl [1, 2, 0] rfl) hP hS
  · have hf := ifF hb1 hf
    refine lv_aload_n hx hb dX9_loft_10 rfl (lv_at hl 1 rfl) ?_
    refine lv_iload_n hx hb dX9_loft_11 rfl (lv_at hl 0 rfl) ?_
    obtain ⟨u27, hzu27, hf⟩ := obd_some hf
    refine zz_callVi (rest := []) hx hb hml C hP hS (c_X9_no l hDA u1 hzu27) zw_X9_107 ⟨Nat.le_trans (Nat.le_of_ble_eq_true rfl) hRf, Nat.le_trans (Nat.le_of_ble_eq_true rfl) hRl⟩ (by decide) lay_81 rfl rfl hl.1 (Nat.le_of_ble_eq_true rfl) ⟨Nat.zero_le _, Nat.zero_le _⟩ rfl dX9_loft_12 (fun H locs hP hS => ?_)
    have hf := Option.some.inj hf
    subst hf
    exact hQ _ _ _ _ dX9_loft_15 hP hS
set_option maxHeartbeats 4000000 in
set_option maxRecDepth 100000 in
theorem c_X9_fault (l : Launch) {D : va_G} {a : Nat → Nat} {cA : Nat → ClassId} {A : Nat → Prop} {sa : Nat → Nat} (hDA : DA a A) {σ : PH} {d : PD}  {u : Int32} (hf : f_X9_fault σ = u) : CTi l yX9_fault cX9_fault 1 (some .int) 0 0 D a cA A sa [.ref (a 81)] σ d u σ d := by
  refine zz_metI zpl_X9 hDA (Nat.le_of_ble_eq_true rfl) ?_
  intro p e R s m args below meth c Q ls hx hb hml C hRf hRl hQ hP hS hl
  have hl : lv_has ls 1 [(0, .ref (a 81))] := hl
  unfold f_X9_fault at hf
  refine lv_aload_n hx hb dX9_fault_0 rfl (lv_at hl 0 rfl) ?_
  refine zg_X9_19 hx hb C hP (by decide) lay_81 rfl dX9_fault_1 ?_
  subst hf
  exact hQ _ _ _ _ dX9_fault_4 hP hS
