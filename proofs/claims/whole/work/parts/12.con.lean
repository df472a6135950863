set_option maxHeartbeats 4000000 in
set_option maxRecDepth 100000 in
theorem c_X2_copyOf (l : Launch) {D : va_G} {a : Nat → Nat} {cA : Nat → ClassId} {A : Nat → Prop} {sa : Nat → Nat} (hDA : DA a A) {σ : PH} {d : PD} {h : Nat} (hh : isHall h) {h2 : Nat} (hh2 : isHall h2) {u : PH} (hf : f_X2_copyOf σ h h2 = u) : CTv l yX2_copyOf cX2_copyOf 2 none 2 47 D a cA A sa [.ref (a h), .ref (a h2)] σ d u d := by
  refine zz_metV zpl_X2 hDA (Nat.le_of_ble_eq_true rfl) ?_
  intro p e R s m args below meth c Q ls hx hb hml C hRf hRl hQ hP hS hl
  have hl : lv_has ls 2 [(0, .ref (a h)), (1, .ref (a h2))] := hl
  unfold f_X2_copyOf at hf
  refine lv_aload_n hx hb dX2_copyOf_0 rfl (lv_at hl 0 rfl) ?_
  refine zg_X2_12 hx hb C hP (lth0 hh) (lay_h0 hh) rfl dX2_copyOf_1 ?_
  refine lv_aload_n hx hb dX2_copyOf_4 rfl (lv_at hl 1 rfl) ?_
  refine zg_X2_12 hx hb C hP (lth0 hh2) (lay_h0 hh2) rfl dX2_copyOf_5 ?_
  obtain ⟨u1, hzu1⟩ : ∃ z, z = f_X0_copyOf σ h h2 := ⟨_, rfl⟩
  have hf := bnd_at u1 hzu1 hf
  refine zz_callVv (rest := []) hx hb hml C hP hS (c_X0_copyOf l hDA (h := h) hh (h2 := h2) hh2 hzu1.symm) zw_X2_64 ⟨Nat.le_trans (Nat.le_of_ble_eq_true rfl) hRf, Nat.le_trans (Nat.le_of_ble_eq_true rfl) hRl⟩ (lth hh 1 (by decide)) (lay_h1 hh) rfl rfl hl.1 (Nat.le_of_ble_eq_true rfl) ⟨Nat.zero_le _, Nat.zero_le _⟩ rfl dX2_copyOf_8 (fun H locs hP hS => ?_)
  refine lv_aload_n hx hb dX2_copyOf_11 rfl (lv_at hl 0 rfl) ?_
  refine zg_X2_23 hx hb C hP (lth0 hh) (lay_h0 hh) rfl dX2_copyOf_12 ?_
  refine lv_aload_n hx hb dX2_copyOf_15 rfl (lv_at hl 1 rfl) ?_
  refine zg_X2_23 hx hb C hP (lth0 hh2) (lay_h0 hh2) rfl dX2_copyOf_16 ?_
  obtain ⟨u2, hzu2⟩ : ∃ z, z = f_X7_copyOf u1 h h2 := ⟨_, rfl⟩
  have hf := bnd_at u2 hzu2 hf
  refine zz_callVv (rest := []) hx hb hml C hP hS (c_X7_copyOf l hDA (h := h) hh (h2 := h2) hh2 hzu2.symm) zw_X2_67 ⟨Nat.le_trans (Nat.le_of_ble_eq_true rfl) hRf, Nat.le_trans (Nat.le_of_ble_eq_true rfl) hRl⟩ (lth hh 7 (by decide)) (lay_h7 hh) rfl rfl hl.1 (Nat.le_of_ble_eq_true rfl) ⟨Nat.zero_le _, Nat.zero_le _⟩ rfl dX2_copyOf_19 (fun H locs hP hS => ?_)
  refine lv_aload_n hx hb dX2_copyOf_22 rfl (lv_at hl 1 rfl) ?_
  refine zg_X2_27 hx hb C hP (lth0 hh2) (lay_h0 hh2) rfl dX2_copyOf_23 ?_
  refine lv_iconst (v := 0) hx hb dX2_copyOf_26 (by decide) ?_
  refine lv_aload_n hx hb dX2_copyOf_27 rfl (lv_at hl 0 rfl) ?_
  refine zg_X2_27 hx hb C hP (lth0 hh) (lay_h0 hh) rfl dX2_copyOf_28 ?_
  refine lv_iconst (v := 0) hx hb dX2_copyOf_31 (by decide) ?_
  refine lv_iconst (v := 4) hx hb dX2_copyOf_32 (by decide) ?_
  refine zz_cpyI hx hb (hml.trans hl.1.symm) C hP hS (lth hh2 15 (by decide)) (lay_h15 hh2) (lth hh 15 (by decide)) (lay_h15 hh) (by decide) (by decide) (by decide) (by decide) (by decide) km_X2_70 kv_arraycopyName kt_arraycopyName kn_J10 (Nat.le_trans (by decide) hRf) (Nat.le_trans (by decide +kernel) hRl) dX2_copyOf_33 (fun σ3 eσ3 H locs hP hS => ?_)
  have hf := bnd_at σ3 eσ3 hf
  refine lv_aload_n hx hb dX2_copyOf_36 rfl (lv_at hl 1 rfl) ?_
  refine zg_X2_31 hx hb C hP (lth0 hh2) (lay_h0 hh2) rfl dX2_copyOf_37 ?_
  refine lv_iconst (v := 0) hx hb dX2_copyOf_40 (by decide) ?_
  refine lv_aload_n hx hb dX2_copyOf_41 rfl (lv_at hl 0 rfl) ?_
  refine zg_X2_31 hx hb C hP (lth0 hh) (lay_h0 hh) rfl dX2_copyOf_42 ?_
  refine lv_iconst (v := 0) hx hb dX2_copyOf_45 (by decide) ?_
  refine lv_bipush (v := 16) hx hb dX2_copyOf_46 (by decide) ?_
  refine zz_cpyI hx hb (hml.trans hl.1.symm) C hP hS (lth hh2 16 (by decide)) (lay_h16 hh2) (lth hh 16 (by decide)) (lay_h16 hh) (by decide) (by decide) (by decide) (by decide) (by decide) km_X2_70 kv_arraycopyName kt_arraycopyName kn_J10 (Nat.le_trans (by decide) hRf) (Nat.le_trans (by decide +kernel) hRl) dX2_copyOf_48 (fun σ4 eσ4 H locs hP hS => ?_)
  have hf := bnd_at σ4 eσ4 hf
  refine lv_aload_n hx hb dX2_copyOf_51 rfl (lv_at hl 0 rfl) ?_
  refine lv_aload_n hx hb dX2_copyOf_52 rfl (lv_at hl 1 rfl) ?_
  refine zg_X2_34 hx hb C hP (lth0 hh2) (lay_h0 hh2) rfl dX2_copyOf_53 ?_
  refine zp_X2_34 hx hb C hP hS (lth0 hh) (lay_h0 hh) rfl dX2_copyOf_56 (fun σ5 eσ5 H locs hP hS => ?_)
  have hf := bnd_at σ5 eσ5 hf
  refine lv_aload_n hx hb dX2_copyOf_59 rfl (lv_at hl 0 rfl) ?_
  refine lv_aload_n hx hb dX2_copyOf_60 rfl (lv_at hl 1 rfl) ?_
  refine zg_X2_38 hx hb C hP (lth0 hh2) (lay_h0 hh2) rfl dX2_copyOf_61 ?_
  refine zp_X2_38 hx hb C hP hS (lth0 hh) (lay_h0 hh) rfl dX2_copyOf_64 (fun σ6 eσ6 H locs hP hS => ?_)
  have hf := bnd_at σ6 eσ6 hf
  refine lv_aload_n hx hb dX2_copyOf_67 rfl (lv_at hl 0 rfl) ?_
  refine lv_aload_n hx hb dX2_copyOf_68 rfl (lv_at hl 1 rfl) ?_
  refine zg_X2_41 hx hb C hP (lth0 hh2) (lay_h0 hh2) rfl dX2_copyOf_69 ?_
  refine zp_X2_41 hx hb C hP hS (lth0 hh) (lay_h0 hh) rfl dX2_copyOf_72 (fun σ7 eσ7 H locs hP hS => ?_)
  have hf := bnd_at σ7 eσ7 hf
  refine lv_aload_n hx hb dX2_copyOf_75 rfl (lv_at hl 0 rfl) ?_
  refine lv_aload_n hx hb dX2_copyOf_76 rfl (lv_at hl 1 rfl) ?_
  refine zg_X2_44 hx hb C hP (lth0 hh2) (lay_h0 hh2) rfl dX2_copyOf_77 ?_
  refine zp_X2_44 hx hb C hP hS (lth0 hh) (lay_h0 hh) rfl dX2_copyOf_80 (fun σ8 eσ8 H locs hP hS => ?_)
  have hf := bnd_at σ8 eσ8 hf
  refine lv_aload_n hx hb dX2_copyOf_83 rfl (lv_at hl 0 rfl) ?_
  refine lv_aload_n hx hb dX2_copyOf_84 rfl (lv_at hl 1 rfl) ?_
  refine zg_X2_48 hx hb C hP (lth0 hh2) (lay_h0 hh2) rfl dX2_copyOf_85 ?_
  refine zp_X2_48 hx hb C hP hS (lth0 hh) (lay_h0 hh) rfl dX2_copyOf_88 (fun σ9 eσ9 H locs hP hS => ?_)
  have hf := bnd_at σ9 eσ9 hf
  subst hf
  exact hQ _ _ _ _ dX2_copyOf_91 hP hS
set_option maxHeartbeats 4000000 in
set_option maxRecDepth 100000 in
theorem c_X2_join (l : Launch) {D : va_G} {a : Nat → Nat} {cA : Nat → ClassId} {A : Nat → Prop} {sa : Nat → Nat} (hDA : DA a A) {σ : PH} {d : PD} {h : Nat} (hh : isHall h) (p1 : Int32) (p2 : Int32) (p3 : Int32) {u : PH} (hf : f_X2_join σ h p1 p2 p3 = some u) : CTv l yX2_join cX2_join 4 none 4 91 D a cA A sa [.ref (a h), .int p1, .int p2, .int p3] σ d u d := by
  refine zz_metV zpl_X2 hDA (Nat.le_of_ble_eq_true rfl) ?_
  intro p e R s m args below meth c Q ls hx hb hml C hRf hRl hQ hP hS hl
  have hl : lv_has ls 4 [(0, .ref (a h)), (1, .int p1), (2, .int p2), (3, .int p3)] := hl
  unfold f_X2_join at hf
  refine lv_aload_n hx hb dX2_join_0 rfl (lv_at hl 0 rfl) ?_
  refine zg_X2_12 hx hb C hP (lth0 hh) (lay_h0 hh) rfl dX2_join_1 ?_
  refine lv_iload_n hx hb dX2_join_4 rfl (lv_at hl 1 rfl) ?_
  refine lv_iload_n hx hb dX2_join_5 rfl (lv_at hl 2 rfl) ?_
  refine lv_iload_n hx hb dX2_join_6 rfl (lv_at hl 3 rfl) ?_
  obtain ⟨u1, hzu1, hf⟩ := obd_some hf
  refine zz_callVv (rest := []) hx hb hml C hP hS (c_X0_add l hDA (h := h) hh p1 p2 p3 hzu1) zw_X2_83 ⟨Nat.le_trans (Nat.le_of_ble_eq_true rfl) hRf, Nat.le_trans (Nat.le_of_ble_eq_true rfl) hRl⟩ (lth hh 1 (by decide)) (lay_h1 hh) rfl rfl hl.1 (Nat.le_of_ble_eq_true rfl) ⟨Nat.zero_le _, Nat.zero_le _⟩ rfl dX2_join_7 (fun H locs hP hS => ?_)
  refine lv_aload_n hx hb dX2_join_10 rfl (lv_at hl 0 rfl) ?_
  obtain ⟨u2, hzu2, hf⟩ := obd_some hf
  refine zz_callVv (rest := []) hx hb hml C hP hS (c_X2_beginAnew l hDA (h := h) hh hzu2) zw_X2_61 ⟨Nat.le_trans (Nat.le_of_ble_eq_true rfl) hRf, Nat.le_trans (Nat.le_of_ble_eq_true rfl) hRl⟩ (lth0 hh) (lay_h0 hh) rfl rfl hl.1 (Nat.le_of_ble_eq_true rfl) ⟨Nat.zero_le _, Nat.zero_le _⟩ rfl dX2_join_11 (fun H locs hP hS => ?_)
  have hf := Option.some.inj hf
  subst hf
  exact hQ _ _ _ _ dX2_join_14 hP hS
set_option maxHeartbeats 4000000 in
set_option maxRecDepth 100000 in
theorem c_X2_changePlaces (l : Launch) {D : va_G} {a : Nat → Nat} {cA : Nat → ClassId} {A : Nat → Prop} {sa : Nat → Nat} (hDA : DA a A) {σ : PH} {d : PD} {h : Nat} (hh : isHall h) (p1 : Int32) (p2 : Int32) {u : PH} (hf : f_X2_changePlaces σ h p1 p2 = some u) : CTv l yX2_changePlaces cX2_changePlaces 3 none 4 91 D a cA A sa [.ref (a h), .int p1, .int p2] σ d u d := by
  refine zz_metV zpl_X2 hDA (Nat.le_of_ble_eq_true rfl) ?_
  intro p e R s m args below meth c Q ls hx hb hml C hRf hRl hQ hP hS hl
  have hl : lv_has ls 3 [(0, .ref (a h)), (1, .int p1), (2, .int p2)] := hl
  unfold f_X2_changePlaces at hf
  refine lv_aload_n hx hb dX2_changePlaces_0 rfl (lv_at hl 0 rfl) ?_
  refine zg_X2_12 hx hb C hP (lth0 hh) (lay_h0 hh) rfl dX2_changePlaces_1 ?_
  refine lv_iload_n hx hb dX2_changePlaces_4 rfl (lv_at hl 1 rfl) ?_
  refine lv_iload_n hx hb dX2_changePlaces_5 rfl (lv_at hl 2 rfl) ?_
  obtain ⟨u1, hzu1, hf⟩ := obd_some hf
  refine zz_callVv (rest := []) hx hb hml C hP hS (c_X0_exchange l hDA (h := h) hh p1 p2 hzu1) zw_X2_87 ⟨Nat.le_trans (Nat.le_of_ble_eq_true rfl) hRf, Nat.le_trans (Nat.le_of_ble_eq_true rfl) hRl⟩ (lth hh 1 (by decide)) (lay_h1 hh) rfl rfl hl.1 (Nat.le_of_ble_eq_true rfl) ⟨Nat.zero_le _, Nat.zero_le _⟩ rfl dX2_changePlaces_6 (fun H locs hP hS => ?_)
  refine lv_aload_n hx hb dX2_changePlaces_9 rfl (lv_at hl 0 rfl) ?_
  obtain ⟨u2, hzu2, hf⟩ := obd_some hf
  refine zz_callVv (rest := []) hx hb hml C hP hS (c_X2_beginAnew l hDA (h := h) hh hzu2) zw_X2_61 ⟨Nat.le_trans (Nat.le_of_ble_eq_true rfl) hRf, Nat.le_trans (Nat.le_of_ble_eq_true rfl) hRl⟩ (lth0 hh) (lay_h0 hh) rfl rfl hl.1 (Nat.le_of_ble_eq_true rfl) ⟨Nat.zero_le _, Nat.zero_le _⟩ rfl dX2_changePlaces_10 (fun H locs hP hS => ?_)
  have hf := Option.some.inj hf
  subst hf
  exact hQ _ _ _ _ dX2_changePlaces_13 hP hS
set_option maxHeartbeats 4000000 in
set_option maxRecDepth 100000 in
theorem c_X2_makeTrue (l : Launch) {D : va_G} {a : Nat → Nat} {cA : Nat → ClassId} {A : Nat → Prop} {sa : Nat → Nat} (hDA : DA a A) {σ : PH} {d : PD} {h : Nat} (hh : isHall h) (p1 : Int32) {u : PH} (hf : f_X2_makeTrue σ h p1 = u) : CTv l yX2_makeTrue cX2_makeTrue 2 none 2 40 D a cA A sa [.ref (a h), .int p1] σ d u d := by
  refine zz_metV zpl_X2 hDA (Nat.le_of_ble_eq_true rfl) ?_
  intro p e R s m args below meth c Q ls hx hb hml C hRf hRl hQ hP hS hl
  have hl : lv_has ls 2 [(0, .ref (a h)), (1, .int p1)] := hl
  unfold f_X2_makeTrue at hf
  refine lv_aload_n hx hb dX2_makeTrue_0 rfl (lv_at hl 0 rfl) ?_
  refine lv_iload_n hx hb dX2_makeTrue_1 rfl (lv_at hl 1 rfl) ?_
  refine zp_X2_41 hx hb C hP hS (lth0 hh) (lay_h0 hh) rfl dX2_makeTrue_2 (fun σ1 eσ1 H locs hP hS => ?_)
  have hf := bnd_at σ1 eσ1 hf
  refine lv_aload_n hx hb dX2_makeTrue_5 rfl (lv_at hl 0 rfl) ?_
  obtain ⟨u2, hzu2⟩ : ∃ z, z = f_X2_forgetAll σ1 h := ⟨_, rfl⟩
  have hf := bnd_at u2 hzu2 hf
  refine zz_callVv (rest := []) hx hb hml C hP hS (c_X2_forgetAll l hDA (h := h) hh hzu2.symm) zw_X2_80 ⟨Nat.le_trans (Nat.le_of_ble_eq_true rfl) hRf, Nat.le_trans (Nat.le_of_ble_eq_true rfl) hRl⟩ (lth0 hh) (lay_h0 hh) rfl rfl hl.1 (Nat.le_of_ble_eq_true rfl) ⟨Nat.zero_le _, Nat.zero_le _⟩ rfl dX2_makeTrue_6 (fun H locs hP hS => ?_)
  subst hf
  exact hQ _ _ _ _ dX2_makeTrue_9 hP hS
set_option maxHeartbeats 4000000 in
set_option maxRecDepth 100000 in
theorem c_X2_trueWorld (l : Launch) {D : va_G} {a : Nat → Nat} {cA : Nat → ClassId} {A : Nat → Prop} {sa : Nat → Nat} (hDA : DA a A) {σ : PH} {d : PD} {h : Nat} (hh : isHall h) {u : Int32} (hf : f_X2_trueWorld σ h = some u) : CTi l yX2_trueWorld cX2_trueWorld 1 (some .int) 0 0 D a cA A sa [.ref (a h)] σ d u σ d := by
  refine zz_metI zpl_X2 hDA (Nat.le_of_ble_eq_true rfl) ?_
  intro p e R s m args below meth c Q ls hx hb hml C hRf hRl hQ hP hS hl
  have hl : lv_has ls 1 [(0, .ref (a h))] := hl
  unfold f_X2_trueWorld at hf
  refine lv_aload_n hx hb dX2_trueWorld_0 rfl (lv_at hl 0 rfl) ?_
  refine zg_X2_41 hx hb C hP (lth0 hh) (lay_h0 hh) rfl dX2_trueWorld_1 ?_
  refine lv_if_lt (tgt := 36) hx hb dX2_trueWorld_4 (by decide) (fun hb0 => ?_) (fun hb0 => ?_)
  · have hf := ifT hb0 hf
    refine lv_iconst (v := 0) hx hb dX2_trueWorld_36 (by decide) ?_
    have hf := Option.some.inj hf
    subst hf
    exact hQ _ _ _ _ dX2_trueWorld_37 hP hS
  · have hf := ifF hb0 hf
    refine lv_aload_n hx hb dX2_trueWorld_7 rfl (lv_at hl 0 rfl) ?_
    refine zg_X2_41 hx hb C hP (lth0 hh) (lay_h0 hh) rfl dX2_trueWorld_8 ?_
    refine lv_aload_n hx hb dX2_trueWorld_11 rfl (lv_at hl 0 rfl) ?_
    refine zg_X2_23 hx hb C hP (lth0 hh) (lay_h0 hh) rfl dX2_trueWorld_12 ?_
    refine zg_X2_91 hx hb C hP (lth hh 7 (by decide)) (lay_h7 hh) rfl dX2_trueWorld_15 ?_
    refine lv_icmp_ge (tgt := 36) hx hb dX2_trueWorld_18 (by decide) (fun hb1 => ?_) (fun hb1 => ?_)
    · have hf := ifT hb1 hf
      refine lv_iconst (v := 0) hx hb dX2_trueWorld_36 (by decide) ?_
      have hf := Option.some.inj hf
      subst hf
      exact hQ _ _ _ _ dX2_trueWorld_37 hP hS
    · have hf := ifF hb1 hf
      refine lv_aload_n hx hb dX2_trueWorld_21 rfl (lv_at hl 0 rfl) ?_
      refine zg_X2_23 hx hb C hP (lth0 hh) (lay_h0 hh) rfl dX2_trueWorld_22 ?_
      refine zg_X2_94 hx hb C hP (lth hh 7 (by decide)) (lay_h7 hh) rfl dX2_trueWorld_25 ?_
      refine lv_aload_n hx hb dX2_trueWorld_28 rfl (lv_at hl 0 rfl) ?_
      refine zg_X2_41 hx hb C hP (lth0 hh) (lay_h0 hh) rfl dX2_trueWorld_29 ?_
      obtain ⟨hc2, hf⟩ := chk_some hf
      refine zz_iald hx hb C hP (lth hh 8 (by decide)) (lay_h8 hh) (inb_vp hc2) dX2_trueWorld_32 ?_
      refine lv_goto (tgt := 37) hx hb dX2_trueWorld_33 (by decide) ?_
      have hf := Option.some.inj hf
      subst hf
      exact hQ _ _ _ _ dX2_trueWorld_37 hP hS
set_option maxHeartbeats 4000000 in
set_option maxRecDepth 100000 in
theorem c_X7_soundOf (l : Launch) {D : va_G} {a : Nat → Nat} {cA : Nat → ClassId} {A : Nat → Prop} {sa : Nat → Nat} (hDA : DA a A) {σ : PH} {d : PD} {h : Nat} (hh : isHall h) (p1 : Int32) (p2 : Int32) {u : Int32 × PH} (hf : f_X7_soundOf σ h p1 p2 = some u) : CTi l yX7_soundOf cX7_soundOf 4 (some .int) 3 76 D a cA A sa [.ref (a (h + 7)), .int p1, .int p2] σ d u.1 u.2 d := by
  refine zz_metI zpl_X7 hDA (Nat.le_of_ble_eq_true rfl) ?_
  intro p e R s m args below meth c Q ls hx hb hml C hRf hRl hQ hP hS hl
  have hl : lv_has ls 4 [(0, .ref (a (h + 7))), (1, .int p1), (2, .int p2)] := hl
  unfold f_X7_soundOf at hf
  refine lv_aload_n hx hb dX7_soundOf_0 rfl (lv_at hl 0 rfl) ?_
  refine lv_iload_n hx hb dX7_soundOf_1 rfl (lv_at hl 1 rfl) ?_
  obtain ⟨u1, hzu1, hf⟩ := obd_some hf
  refine zz_callVi (rest := []) hx hb hml C hP hS (c_X7_slot l hDA (h := h) hh p1 hzu1) zw_X7_91 ⟨Nat.le_trans (Nat.le_of_ble_eq_true rfl) hRf, Nat.le_trans (Nat.le_of_ble_eq_true rfl) hRl⟩ (lth hh 7 (by decide)) (lay_h7 hh) rfl rfl hl.1 (Nat.le_of_ble_eq_true rfl) ⟨Nat.zero_le _, Nat.zero_le _⟩ rfl dX7_soundOf_2 (fun H locs hP hS => ?_)
  refine lv_istore_n (lv' := [(3, .int u1.1), (0, .ref (a (h + 7))), (1, .int p1), (2, .int p2)]) hx hb dX7_soundOf_5 rfl hl (by decide) rfl (fun ls hl => ?_)
  refine lv_iload_n hx hb dX7_soundOf_6 rfl (lv_at hl 3 rfl) ?_
  refine lv_aload_n hx hb dX7_soundOf_7 rfl (lv_at hl 1 rfl) ?_
  refine zg_X7_31 hx hb C hP (lth hh 7 (by decide)) (lay_h7 hh) rfl dX7_soundOf_8 ?_
  refine lv_iload_n hx hb dX7_soundOf_11 rfl (lv_at hl 0 rfl) ?_
  obtain ⟨hc1, hf⟩ := chk_some hf
  refine zz_lald hx hb C hP (lth hh 12 (by decide)) (lay_h12 hh) (inb_vp hc1) dX7_soundOf_12 ?_
  refine lv_aload_n hx hb dX7_soundOf_13 rfl (lv_at hl 1 rfl) ?_
  refine zg_X7_34 hx hb C hP (lth hh 7 (by decide)) (lay_h7 hh) rfl dX7_soundOf_14 ?_
  refine lv_iload_n hx hb dX7_soundOf_17 rfl (lv_at hl 0 rfl) ?_
  obtain ⟨hc2, hf⟩ := chk_some hf
  refine zz_lald hx hb C hP (lth hh 13 (by decide)) (lay_h13 hh) (inb_vp hc2) dX7_soundOf_18 ?_
  obtain ⟨u4, hzu4⟩ : ∃ z, z = f_X7_isIn p2 (gJ u1.2 (h + 12) u1.1.toNatClampNeg) (gJ u1.2 (h + 13) u1.1.toNatClampNeg) := ⟨_, rfl⟩
  have hf := bnd_at u4 hzu4 hf
  refine zz_callSi (rest := []) hx hb hml C hP hS (c_X7_isIn l hDA p2 (gJ u1.2 (h + 12) u1.1.toNatClampNeg) (gJ u1.2 (h + 13) u1.1.toNatClampNeg) hzu4.symm) zw_X7_83 ⟨Nat.le_trans (Nat.le_of_ble_eq_true rfl) hRf, Nat.le_trans (Nat.le_of_ble_eq_true rfl) hRl⟩  rfl hl.1 (Nat.le_of_ble_eq_true rfl) ⟨Nat.zero_le _, Nat.zero_le _⟩ rfl dX7_soundOf_19 (fun H locs hP hS => ?_)
  refine lv_if_eq (tgt := 29) hx hb dX7_soundOf_22 (by decide) (fun hb4 => ?_) (fun hb4 => ?_)
  · have hf := ifT hb4 hf
    refine lv_iconst (v := 0) hx hb dX7_soundOf_29 (by decide) ?_
    have hf := Option.some.inj hf
    subst hf
    exact hQ _ _ _ _ dX7_soundOf_30 hP hS
  · have hf := ifF hb4 hf
    refine lv_iconst (v := 1) hx hb dX7_soundOf_25 (by decide) ?_
    refine lv_goto (tgt := 30) hx hb dX7_soundOf_26 (by decide) ?_
    have hf := Option.some.inj hf
    subst hf
    exact hQ _ _ _ _ dX7_soundOf_30 hP hS
set_option maxHeartbeats 4000000 in
set_option maxRecDepth 100000 in
theorem c_X2_soundInTruth (l : Launch) {D : va_G} {a : Nat → Nat} {cA : Nat → ClassId} {A : Nat → Prop} {sa : Nat → Nat} (hDA : DA a A) {σ : PH} {d : PD} {h : Nat} (hh : isHall h) (p1 : Int32) {u : Int32 × PH} (hf : f_X2_soundInTruth σ h p1 = some u) : CTi l yX2_soundInTruth cX2_soundInTruth 2 (some .int) 4 99 D a cA A sa [.ref (a h), .int p1] σ d u.1 u.2 d := by
  refine zz_metI zpl_X2 hDA (Nat.le_of_ble_eq_true rfl) ?_
  intro p e R s m args below meth c Q ls hx hb hml C hRf hRl hQ hP hS hl
  have hl : lv_has ls 2 [(0, .ref (a h)), (1, .int p1)] := hl
  unfold f_X2_soundInTruth at hf
  refine lv_aload_n hx hb dX2_soundInTruth_0 rfl (lv_at hl 0 rfl) ?_
  refine zg_X2_23 hx hb C hP (lth0 hh) (lay_h0 hh) rfl dX2_soundInTruth_1 ?_
  refine lv_iload_n hx hb dX2_soundInTruth_4 rfl (lv_at hl 1 rfl) ?_
  refine lv_aload_n hx hb dX2_soundInTruth_5 rfl (lv_at hl 0 rfl) ?_
  refine zg_X2_41 hx hb C hP (lth0 hh) (lay_h0 hh) rfl dX2_soundInTruth_6 ?_
  obtain ⟨u1, hzu1, hf⟩ := obd_some hf
  refine zz_callVi (rest := []) hx hb hml C hP hS (c_X7_soundOf l hDA (h := h) hh p1 (gI σ h 6) hzu1) zw_X2_97 ⟨Nat.le_trans (Nat.le_of_ble_eq_true rfl) hRf, Nat.le_trans (Nat.le_of_ble_eq_true rfl) hRl⟩ (lth hh 7 (by decide)) (lay_h7 hh) rfl rfl hl.1 (Nat.le_of_ble_eq_true rfl) ⟨Nat.zero_le _, Nat.zero_le _⟩ rfl dX2_soundInTruth_9 (fun H locs hP hS => ?_)
  have hf := Option.some.inj hf
  subst hf
  exact hQ _ _ _ _ dX2_soundInTruth_12 hP hS
set_option maxHeartbeats 4000000 in
set_option maxRecDepth 100000 in
theorem c_X2_hasRoom (l : Launch) {D : va_G} {a : Nat → Nat} {cA : Nat → ClassId} {A : Nat → Prop} {sa : Nat → Nat} (hDA : DA a A) {σ : PH} {d : PD} {h : Nat} (hh : isHall h) {u : Int32} (hf : f_X2_hasRoom σ h = u) : CTi l yX2_hasRoom cX2_hasRoom 1 (some .boolean) 0 0 D a cA A sa [.ref (a h)] σ d u σ d := by
  refine zz_metZ zpl_X2 hDA (Nat.le_of_ble_eq_true rfl) ?_
  intro p e R s m args below meth c Q ls hx hb hml C hRf hRl hQ hP hS hl
  have hl : lv_has ls 1 [(0, .ref (a h))] := hl
  unfold f_X2_hasRoom at hf
  refine lv_aload_n hx hb dX2_hasRoom_0 rfl (lv_at hl 0 rfl) ?_
  refine zg_X2_34 hx hb C hP (lth0 hh) (lay_h0 hh) rfl dX2_hasRoom_1 ?_
  refine lv_bipush (v := 16) hx hb dX2_hasRoom_4 (by decide) ?_
  refine lv_icmp_ge (tgt := 13) hx hb dX2_hasRoom_6 (by decide) (fun hb0 => ?_) (fun hb0 => ?_)
  · have hf := ifT hb0 hf
    refine lv_iconst (v := 0) hx hb dX2_hasRoom_13 (by decide) ?_
    subst hf
    exact hQ _ _ _ _ dX2_hasRoom_14 (show narrow .boolean (.int 0) = .int 0 from rfl) hP hS
  · have hf := ifF hb0 hf
    refine lv_iconst (v := 1) hx hb dX2_hasRoom_9 (by decide) ?_
    refine lv_goto (tgt := 14) hx hb dX2_hasRoom_10 (by decide) ?_
    subst hf
    exact hQ _ _ _ _ dX2_hasRoom_14 (show narrow .boolean (.int 1) = .int 1 from rfl) hP hS
set_option maxHeartbeats 4000000 in
set_option maxRecDepth 100000 in
theorem c_X2_possible (l : Launch) {D : va_G} {a : Nat → Nat} {cA : Nat → ClassId} {A : Nat → Prop} {sa : Nat → Nat} (hDA : DA a A) {σ : PH} {d : PD} {h : Nat} (hh : isHall h) {u : Int32} (hf : f_X2_possible σ h = u) : CTi l yX2_possible cX2_possible 1 (some .int) 2 44 D a cA A sa [.ref (a h)] σ d u σ d := by
  refine zz_metI zpl_X2 hDA (Nat.le_of_ble_eq_true rfl) ?_
  intro p e R s m args below meth c Q ls hx hb hml C hRf hRl hQ hP hS hl
  have hl : lv_has ls 1 [(0, .ref (a h))] := hl
  unfold f_X2_possible at hf
  refine lv_aload_n hx hb dX2_possible_0 rfl (lv_at hl 0 rfl) ?_
  refine zg_X2_44 hx hb C hP (lth0 hh) (lay_h0 hh) rfl dX2_possible_1 ?_
  refine lv_aload_n hx hb dX2_possible_4 rfl (lv_at hl 0 rfl) ?_
  refine zg_X2_48 hx hb C hP (lth0 hh) (lay_h0 hh) rfl dX2_possible_5 ?_
  obtain ⟨u1, hzu1⟩ : ∃ z, z = f_X7_countIn (gJ σ h 7) (gJ σ h 8) := ⟨_, rfl⟩
  have hf := bnd_at u1 hzu1 hf
  refine zz_callSi (rest := []) hx hb hml C hP hS (c_X7_countIn l hDA (gJ σ h 7) (gJ σ h 8) hzu1.symm) zw_X2_108 ⟨Nat.le_trans (Nat.le_of_ble_eq_true rfl) hRf, Nat.le_trans (Nat.le_of_ble_eq_true rfl) hRl⟩  rfl hl.1 (Nat.le_of_ble_eq_true rfl) ⟨Nat.zero_le _, Nat.zero_le _⟩ rfl dX2_possible_8 (fun H locs hP hS => ?_)
  subst hf
  exact hQ _ _ _ _ dX2_possible_11 hP hS
set_option maxHeartbeats 4000000 in
set_option maxRecDepth 100000 in
theorem c_X2_possibleWorld (l : Launch) {D : va_G} {a : Nat → Nat} {cA : Nat → ClassId} {A : Nat → Prop} {sa : Nat → Nat} (hDA : DA a A) {σ : PH} {d : PD} {h : Nat} (hh : isHall h) (p1 : Int32) {u : Int32} (hf : f_X2_possibleWorld σ h p1 = some u) : CTi l yX2_possibleWorld cX2_possibleWorld 4 (some .int) 2 44 D a cA A sa [.ref (a h), .int p1] σ d u σ d := by
  refine zz_metI zpl_X2 hDA (Nat.le_of_ble_eq_true rfl) ?_
  intro p e R s m args below meth c Q ls hx hb hml C hRf hRl hQ hP hS hl
  have hl : lv_has ls 4 [(0, .ref (a h)), (1, .int p1)] := hl
  unfold f_X2_possibleWorld at hf
  refine lv_iload_n hx hb dX2_possibleWorld_0 rfl (lv_at hl 1 rfl) ?_
  refine lv_istore_n (lv' := [(2, .int p1), (0, .ref (a h)), (1, .int p1)]) hx hb dX2_possibleWorld_1 rfl hl (by decide) rfl (fun ls hl => ?_)
  refine lv_iconst (v := 0) hx hb dX2_possibleWorld_2 (by decide) ?_
  refine lv_istore_n (lv' := [(3, .int 0), (2, .int p1), (0, .ref (a h)), (1, .int p1)]) hx hb dX2_possibleWorld_3 rfl hl (by decide) rfl (fun ls hl => ?_)
  have hJ34 : ∀ (v1 : Int32), j_X2_possibleWorld_34 σ h v1 = some u → ∀ (H : Heap) (locs : List Loc) (ls : Array Slot), lv_has ls 4 [(0, .ref (a h)), (3, .int v1)] → va_P D vwCl (wl a cA σ d) H → va_S A s.heap H locs → W p l e R s m args below meth c H locs 0 0 Q (F0 m 34 ls []) := by
    intro v1 hf H locs ls hl hP hS
    unfold j_X2_possibleWorld_34 at hf
    refine lv_aload_n hx hb dX2_possibleWorld_34 rfl (lv_at hl 0 rfl) ?_
    refine zg_X2_23 hx hb C hP (lth0 hh) (lay_h0 hh) rfl dX2_possibleWorld_35 ?_
    refine zg_X2_94 hx hb C hP (lth hh 7 (by decide)) (lay_h7 hh) rfl dX2_possibleWorld_38 ?_
    refine lv_iload_n hx hb dX2_possibleWorld_41 rfl (lv_at hl 1 rfl) ?_
    obtain ⟨hc1, hf⟩ := chk_some hf
    refine zz_iald hx hb C hP (lth hh 8 (by decide)) (lay_h8 hh) (inb_vp hc1) dX2_possibleWorld_42 ?_
    have hf := Option.some.inj hf
    subst hf
    exact hQ _ _ _ _ dX2_possibleWorld_43 hP hS
  refine loopN_ind (P := fun (q3 : Int32 × Int32) => ∀ (H : Heap) (locs : List Loc) (ls : Array Slot), lv_has ls 4 [(0, .ref (a h)), (2, .int q3.1), (3, .int q3.2)] → va_P D vwCl (wl a cA σ d) H → va_S A s.heap H locs → W p l e R s m args below meth c H locs 0 0 Q (F0 m 4 ls [])) ?_ _ _ hf _ _ _ (lv_sub hl [2, 1, 0] rfl) hP hS
  intro k4 ihk4 q3 hf H locs ls hl hP hS
  unfold b_X2_possibleWorld_4 at hf
  refine lv_iload_n hx hb dX2_possibleWorld_4 rfl (lv_at hl 2 rfl) ?_
  refine lv_aload_n hx hb dX2_possibleWorld_5 rfl (lv_at hl 0 rfl) ?_
  refine zg_X2_23 hx hb C hP (lth0 hh) (lay_h0 hh) rfl dX2_possibleWorld_6 ?_
  refine zg_X2_91 hx hb C hP (lth hh 7 (by decide)) (lay_h7 hh) rfl dX2_possibleWorld_9 ?_
  refine lv_icmp_ge (tgt := 53) hx hb dX2_possibleWorld_12 (by decide) (fun hb4 => ?_) (fun hb4 => ?_)
  · have hf := ifT hb4 hf
    refine lv_iconst (v := (-1)) hx hb dX2_possibleWorld_53 (by decide) ?_
    have hf := Option.some.inj hf
    subst hf
    exact hQ _ _ _ _ dX2_possibleWorld_54 hP hS
  · have hf := ifF hb4 hf
    refine lv_iload_n hx hb dX2_possibleWorld_15 rfl (lv_at hl 2 rfl) ?_
    refine lv_aload_n hx hb dX2_possibleWorld_16 rfl (lv_at hl 0 rfl) ?_
    refine zg_X2_44 hx hb C hP (lth0 hh) (lay_h0 hh) rfl dX2_possibleWorld_17 ?_
    refine lv_aload_n hx hb dX2_possibleWorld_20 rfl (lv_at hl 0 rfl) ?_
    refine zg_X2_48 hx hb C hP (lth0 hh) (lay_h0 hh) rfl dX2_possibleWorld_21 ?_
    obtain ⟨u6, hzu6⟩ : ∃ z, z = f_X7_isIn q3.2 (gJ σ h 7) (gJ σ h 8) := ⟨_, rfl⟩
    have hf := bnd_at u6 hzu6 hf
    refine zz_callSi (rest := []) hx hb hml C hP hS (c_X7_isIn l hDA q3.2 (gJ σ h 7) (gJ σ h 8) hzu6.symm) zw_X2_112 ⟨Nat.le_trans (Nat.le_of_ble_eq_true rfl) hRf, Nat.le_trans (Nat.le_of_ble_eq_true rfl) hRl⟩  rfl hl.1 (Nat.le_of_ble_eq_true rfl) ⟨Nat.zero_le _, Nat.zero_le _⟩ rfl dX2_possibleWorld_24 (fun H locs hP hS => ?_)
    refine lv_if_eq (tgt := 47) hx hb dX2_possibleWorld_27 (by decide) (fun hb6 => ?_) (fun hb6 => ?_)
    · have hf := ifT hb6 hf
      obtain ⟨v8, ev8⟩ : ∃ z : Int32, z = q3.2 + 1 := ⟨_, rfl⟩
      have hf := bnd_at v8 ev8 hf
      refine lv_iinc (v := v8) (lv' := [(3, .int v8), (0, .ref (a h)), (2, .int q3.1)]) hx hb dX2_possibleWorld_47 hl (k := 2) rfl (by rw [ev8]; rfl) (by decide) rfl (fun ls hl => ?_)
      refine lv_goto (tgt := 4) hx hb dX2_possibleWorld_50 (by decide) ?_
      exact ihk4 _ hf _ _ _ (lv_sub hl [1, 2, 0] rfl) hP hS
    · have hf := ifF hb6 hf
      refine lv_iload_n hx hb dX2_possibleWorld_30 rfl (lv_at hl 1 rfl) ?_
      refine lv_if_ne (tgt := 44) hx hb dX2_possibleWorld_31 (by decide) (fun hb8 => ?_) (fun hb8 => ?_)
      · have hf := ifF hb8 hf
        obtain ⟨v10, ev10⟩ : ∃ z : Int32, z = q3.1 + (-1) := ⟨_, rfl⟩
        have hf := bnd_at v10 ev10 hf
        refine lv_iinc (v := v10) (lv' := [(2, .int v10), (0, .ref (a h)), (3, .int q3.2)]) hx hb dX2_possibleWorld_44 hl (k := 1) rfl (by rw [ev10]; rfl) (by decide) rfl (fun ls hl => ?_)
        obtain ⟨v11, ev11⟩ : ∃ z : Int32, z = q3.2 + 1 := ⟨_, rfl⟩
        have hf := bnd_at v11 ev11 hf
        refine lv_iinc (v := v11) (lv' := [(3, .int v11), (2, .int v10), (0, .ref (a h))]) hx hb dX2_possibleWorld_47 hl (k := 2) rfl (by rw [ev11]; rfl) (by decide) rfl (fun ls hl => ?_)
        refine lv_goto (tgt := 4) hx hb dX2_possibleWorld_50 (by decide) ?_
        exact ihk4 _ hf _ _ _ (lv_sub hl [2, 1, 0] rfl) hP hS
      · have hf := ifT hb8 hf
        exact hJ34 _ hf _ _ _ (lv_sub hl [0, 2] rfl) hP hS
set_option maxHeartbeats 4000000 in
set_option maxRecDepth 100000 in
theorem c_X2_canSound (l : Launch) {D : va_G} {a : Nat → Nat} {cA : Nat → ClassId} {A : Nat → Prop} {sa : Nat → Nat} (hDA : DA a A) {σ : PH} {d : PD} {h : Nat} (hh : isHall h) (p1 : Int32) (p2 : Int32) {u : Int32 × PH} (hf : f_X2_canSound σ h p1 p2 = some u) : CTi l yX2_canSound cX2_canSound 3 (some .boolean) 4 102 D a cA A sa [.ref (a h), .int p1, .int p2] σ d u.1 u.2 d := by
  refine zz_metZ zpl_X2 hDA (Nat.le_of_ble_eq_true rfl) ?_
  intro p e R s m args below meth c Q ls hx hb hml C hRf hRl hQ hP hS hl
  have hl : lv_has ls 3 [(0, .ref (a h)), (1, .int p1), (2, .int p2)] := hl
  unfold f_X2_canSound at hf
  refine lv_iload_n hx hb dX2_canSound_0 rfl (lv_at hl 2 rfl) ?_
  refine lv_if_lt (tgt := 9) hx hb dX2_canSound_1 (by decide) (fun hb0 => ?_) (fun hb0 => ?_)
  · have hf := ifT hb0 hf
    refine lv_iconst (v := 0) hx hb dX2_canSound_9 (by decide) ?_
    have hf := Option.some.inj hf
    subst hf
    exact hQ _ _ _ _ dX2_canSound_10 (show narrow .boolean (.int 0) = .int 0 from rfl) hP hS
  · have hf := ifF hb0 hf
    refine lv_iload_n hx hb dX2_canSound_4 rfl (lv_at hl 2 rfl) ?_
    refine lv_iconst (v := 1) hx hb dX2_canSound_5 (by decide) ?_
    refine lv_icmp_le (tgt := 11) hx hb dX2_canSound_6 (by decide) (fun hb1 => ?_) (fun hb1 => ?_)
    · have hf := ifT hb1 hf
      refine lv_aload_n hx hb dX2_canSound_11 rfl (lv_at hl 0 rfl) ?_
      refine zg_X2_23 hx hb C hP (lth0 hh) (lay_h0 hh) rfl dX2_canSound_12 ?_
      refine lv_iload_n hx hb dX2_canSound_15 rfl (lv_at hl 1 rfl) ?_
      refine lv_iload_n hx hb dX2_canSound_16 rfl (lv_at hl 2 rfl) ?_
      refine lv_aload_n hx hb dX2_canSound_17 rfl (lv_at hl 0 rfl) ?_
      refine zg_X2_44 hx hb C hP (lth0 hh) (lay_h0 hh) rfl dX2_canSound_18 ?_
      obtain ⟨u3, hzu3, hf⟩ := obd_some hf
      refine zz_callVl (rest := []) hx hb hml C hP hS (c_X7_lowBy l hDA (h := h) hh p1 p2 (gJ σ h 7) hzu3) zw_X2_116 ⟨Nat.le_trans (Nat.le_of_ble_eq_true rfl) hRf, Nat.le_trans (Nat.le_of_ble_eq_true rfl) hRl⟩ (lth hh 7 (by decide)) (lay_h7 hh) rfl rfl hl.1 (Nat.le_of_ble_eq_true rfl) ⟨Nat.zero_le _, Nat.zero_le _⟩ rfl dX2_canSound_21 (fun H locs hP hS => ?_)
      refine lv_lconst (v := 0) hx hb dX2_canSound_24 (by decide) ?_
      refine W.lcmp hx hb dX2_canSound_25 ?_
      refine lv_if_ne (tgt := 47) hx hb dX2_canSound_26 (by decide) (fun hb3 => ?_) (fun hb3 => ?_)
      · have hf := ifF hb3 hf
        refine lv_iconst (v := 1) hx hb dX2_canSound_47 (by decide) ?_
        refine lv_goto (tgt := 52) hx hb dX2_canSound_48 (by decide) ?_
        have hf := Option.some.inj hf
        subst hf
        exact hQ _ _ _ _ dX2_canSound_52 (show narrow .boolean (.int 1) = .int 1 from rfl) hP hS
      · have hf := ifT hb3 hf
        refine lv_aload_n hx hb dX2_canSound_29 rfl (lv_at hl 0 rfl) ?_
        refine zg_X2_23 hx hb C hP (lth0 hh) (lay_h0 hh) rfl dX2_canSound_30 ?_
        refine lv_iload_n hx hb dX2_canSound_33 rfl (lv_at hl 1 rfl) ?_
        refine lv_iload_n hx hb dX2_canSound_34 rfl (lv_at hl 2 rfl) ?_
        refine lv_aload_n hx hb dX2_canSound_35 rfl (lv_at hl 0 rfl) ?_
        refine zg_X2_48 hx hb C hP (lth0 hh) (lay_h0 hh) rfl dX2_canSound_36 ?_
        obtain ⟨u5, hzu5, hf⟩ := obd_some hf
        refine zz_callVl (rest := []) hx hb hml C hP hS (c_X7_highBy l hDA (h := h) hh p1 p2 (gJ u3.2 h 8) hzu5) zw_X2_120 ⟨Nat.le_trans (Nat.le_of_ble_eq_true rfl) hRf, Nat.le_trans (Nat.le_of_ble_eq_true rfl) hRl⟩ (lth hh 7 (by decide)) (lay_h7 hh) rfl rfl hl.1 (Nat.le_of_ble_eq_true rfl) ⟨Nat.zero_le _, Nat.zero_le _⟩ rfl dX2_canSound_39 (fun H locs hP hS => ?_)
        refine lv_lconst (v := 0) hx hb dX2_canSound_42 (by decide) ?_
        refine W.lcmp hx hb dX2_canSound_43 ?_
        refine lv_if_eq (tgt := 51) hx hb dX2_canSound_44 (by decide) (fun hb5 => ?_) (fun hb5 => ?_)
        · have hf := ifT hb5 hf
          refine lv_iconst (v := 0) hx hb dX2_canSound_51 (by decide) ?_
          have hf := Option.some.inj hf
          subst hf
          exact hQ _ _ _ _ dX2_canSound_52 (show narrow .boolean (.int 0) = .int 0 from rfl) hP hS
        · have hf := ifF hb5 hf
          refine lv_iconst (v := 1) hx hb dX2_canSound_47 (by decide) ?_
          refine lv_goto (tgt := 52) hx hb dX2_canSound_48 (by decide) ?_
          have hf := Option.some.inj hf
          subst hf
          exact hQ _ _ _ _ dX2_canSound_52 (show narrow .boolean (.int 1) = .int 1 from rfl) hP hS
    · have hf := ifF hb1 hf
      refine lv_iconst (v := 0) hx hb dX2_canSound_9 (by decide) ?_
      have hf := Option.some.inj hf
      subst hf
      exact hQ _ _ _ _ dX2_canSound_10 (show narrow .boolean (.int 0) = .int 0 from rfl) hP hS
set_option maxHeartbeats 4000000 in
set_option maxRecDepth 100000 in
theorem c_X2_isKnown (l : Launch) {D : va_G} {a : Nat → Nat} {cA : Nat → ClassId} {A : Nat → Prop} {sa : Nat → Nat} (hDA : DA a A) {σ : PH} {d : PD} {h : Nat} (hh : isHall h) (p1 : Int32) (p2 : Int32) {u : Int32} (hf : f_X2_isKnown σ h p1 p2 = some u) : CTi l yX2_isKnown cX2_isKnown 4 (some .boolean) 0 0 D a cA A sa [.ref (a h), .int p1, .int p2] σ d u σ d := by
  refine zz_metZ zpl_X2 hDA (Nat.le_of_ble_eq_true rfl) ?_
  intro p e R s m args below meth c Q ls hx hb hml C hRf hRl hQ hP hS hl
  have hl : lv_has ls 4 [(0, .ref (a h)), (1, .int p1), (2, .int p2)] := hl
  unfold f_X2_isKnown at hf
  refine lv_iconst (v := 0) hx hb dX2_isKnown_0 (by decide) ?_
  refine lv_istore_n (lv' := [(3, .int 0), (0, .ref (a h)), (1, .int p1), (2, .int p2)]) hx hb dX2_isKnown_1 rfl hl (by decide) rfl (fun ls hl => ?_)
  refine loopN_ind (P := fun (q1 : Int32) => ∀ (H : Heap) (locs : List Loc) (ls : Array Slot), lv_has ls 4 [(0, .ref (a h)), (1, .int p1), (2, .int p2), (3, .int q1)] → va_P D vwCl (wl a cA σ d) H → va_S A s.heap H locs → W p l e R s m args below meth c H locs 0 0 Q (F0 m 2 ls [])) ?_ _ _ hf _ _ _ (lv_sub hl [1, 2, 3, 0] rfl) hP hS
  intro k2 ihk2 q1 hf H locs ls hl hP hS
  unfold b_X2_isKnown_2 at hf
  refine lv_iload_n hx hb dX2_isKnown_2 rfl (lv_at hl 3 rfl) ?_
  refine lv_aload_n hx hb dX2_isKnown_3 rfl (lv_at hl 0 rfl) ?_
  refine zg_X2_34 hx hb C hP (lth0 hh) (lay_h0 hh) rfl dX2_isKnown_4 ?_
  refine lv_icmp_ge (tgt := 32) hx hb dX2_isKnown_7 (by decide) (fun hb2 => ?_) (fun hb2 => ?_)
  · have hf := ifT hb2 hf
    refine lv_iconst (v := 0) hx hb dX2_isKnown_32 (by decide) ?_
    have hf := Option.some.inj hf
    subst hf
    exact hQ _ _ _ _ dX2_isKnown_33 (show narrow .boolean (.int 0) = .int 0 from rfl) hP hS
  · have hf := ifF hb2 hf
    refine lv_aload_n hx hb dX2_isKnown_10 rfl (lv_at hl 0 rfl) ?_
    refine zg_X2_31 hx hb C hP (lth0 hh) (lay_h0 hh) rfl dX2_isKnown_11 ?_
    refine lv_iload_n hx hb dX2_isKnown_14 rfl (lv_at hl 3 rfl) ?_
    obtain ⟨hc3, hf⟩ := chk_some hf
    refine zz_iald hx hb C hP (lth hh 16 (by decide)) (lay_h16 hh) (inb_vp hc3) dX2_isKnown_15 ?_
    refine lv_iconst (v := 2) hx hb dX2_isKnown_16 (by decide) ?_
    refine lv_iload_n hx hb dX2_isKnown_17 rfl (lv_at hl 1 rfl) ?_
    refine lv_imul hx hb dX2_isKnown_18 ?_
    refine lv_iload_n hx hb dX2_isKnown_19 rfl (lv_at hl 2 rfl) ?_
    refine lv_iadd hx hb dX2_isKnown_20 ?_
    refine lv_icmp_ne (tgt := 26) hx hb dX2_isKnown_21 (by decide) (fun hb4 => ?_) (fun hb4 => ?_)
    · have hf := ifF hb4 hf
      obtain ⟨v6, ev6⟩ : ∃ z : Int32, z = q1 + 1 := ⟨_, rfl⟩
      have hf := bnd_at v6 ev6 hf
      refine lv_iinc (v := v6) (lv' := [(3, .int v6), (0, .ref (a h)), (1, .int p1), (2, .int p2)]) hx hb dX2_isKnown_26 hl (k := 3) rfl (by rw [ev6]; rfl) (by decide) rfl (fun ls hl => ?_)
      refine lv_goto (tgt := 2) hx hb dX2_isKnown_29 (by decide) ?_
      exact ihk2 _ hf _ _ _ (lv_sub hl [1, 2, 3, 0] rfl) hP hS
    · have hf := ifT hb4 hf
      refine lv_iconst (v := 1) hx hb dX2_isKnown_24 (by decide) ?_
      have hf := Option.some.inj hf
      subst hf
      exact hQ _ _ _ _ dX2_isKnown_25 (show narrow .boolean (.int 1) = .int 1 from rfl) hP hS
set_option maxHeartbeats 4000000 in
set_option maxRecDepth 100000 in
theorem c_X2_learn (l : Launch) {D : va_G} {a : Nat → Nat} {cA : Nat → ClassId} {A : Nat → Prop} {sa : Nat → Nat} (hDA : DA a A) {σ : PH} {d : PD} {h : Nat} (hh : isHall h) (p1 : Int32) (p2 : Int32) {u : PH} (hf : f_X2_learn σ h p1 p2 = some u) : CTv l yX2_learn cX2_learn 3 none 4 102 D a cA A sa [.ref (a h), .int p1, .int p2] σ d u d := by
  refine zz_metV zpl_X2 hDA (Nat.le_of_ble_eq_true rfl) ?_
  intro p e R s m args below meth c Q ls hx hb hml C hRf hRl hQ hP hS hl
  have hl : lv_has ls 3 [(0, .ref (a h)), (1, .int p1), (2, .int p2)] := hl
  unfold f_X2_learn at hf
  refine lv_aload_n hx hb dX2_learn_0 rfl (lv_at hl 0 rfl) ?_
  refine lv_iload_n hx hb dX2_learn_1 rfl (lv_at hl 1 rfl) ?_
  refine lv_iload_n hx hb dX2_learn_2 rfl (lv_at hl 2 rfl) ?_
  obtain ⟨u1, hzu1, hf⟩ := obd_some hf
  refine zz_callVi (rest := []) hx hb hml C hP hS (c_X2_isKnown l hDA (h := h) hh p1 p2 hzu1) zw_X2_123 ⟨Nat.le_trans (Nat.le_of_ble_eq_true rfl) hRf, Nat.le_trans (Nat.le_of_ble_eq_true rfl) hRl⟩ (lth0 hh) (lay_h0 hh) rfl rfl hl.1 (Nat.le_of_ble_eq_true rfl) ⟨Nat.zero_le _, Nat.zero_le _⟩ rfl dX2_learn_3 (fun H locs hP hS => ?_)
  refine lv_if_ne (tgt := 16) hx hb dX2_learn_6 (by decide) (fun hb1 => ?_) (fun hb1 => ?_)
  · have hf := ifF hb1 hf
    have hf := Option.some.inj hf
    subst hf
    exact hQ _ _ _ _ dX2_learn_16 hP hS
  · have hf := ifT hb1 hf
    refine lv_aload_n hx hb dX2_learn_9 rfl (lv_at hl 0 rfl) ?_
    obtain ⟨u3, hzu3⟩ : ∃ z, z = f_X2_hasRoom σ h := ⟨_, rfl⟩
    have hf := bnd_at u3 hzu3 hf
    refine zz_callVi (rest := []) hx hb hml C hP hS (c_X2_hasRoom l hDA (h := h) hh hzu3.symm) zw_X2_126 ⟨Nat.le_trans (Nat.le_of_ble_eq_true rfl) hRf, Nat.le_trans (Nat.le_of_ble_eq_true rfl) hRl⟩ (lth0 hh) (lay_h0 hh) rfl rfl hl.1 (Nat.le_of_ble_eq_true rfl) ⟨Nat.zero_le _, Nat.zero_le _⟩ rfl dX2_learn_10 (fun H locs hP hS => ?_)
    refine lv_if_ne (tgt := 17) hx hb dX2_learn_13 (by decide) (fun hb3 => ?_) (fun hb3 => ?_)
    · have hf := ifF hb3 hf
      refine lv_aload_n hx hb dX2_learn_17 rfl (lv_at hl 0 rfl) ?_
      refine zg_X2_31 hx hb C hP (lth0 hh) (lay_h0 hh) rfl dX2_learn_18 ?_
      refine lv_aload_n hx hb dX2_learn_21 rfl (lv_at hl 0 rfl) ?_
      refine zg_X2_34 hx hb C hP (lth0 hh) (lay_h0 hh) rfl dX2_learn_22 ?_
      refine lv_iconst (v := 2) hx hb dX2_learn_25 (by decide) ?_
      refine lv_iload_n hx hb dX2_learn_26 rfl (lv_at hl 1 rfl) ?_
      refine lv_imul hx hb dX2_learn_27 ?_
      refine lv_iload_n hx hb dX2_learn_28 rfl (lv_at hl 2 rfl) ?_
      refine lv_iadd hx hb dX2_learn_29 ?_
      obtain ⟨hc4, hf⟩ := chk_some hf
      refine zz_iast hx hb C hP hS (lth hh 16 (by decide)) (lay_h16 hh) (inb_vp hc4) dX2_learn_30 (fun σ6 eσ6 H locs hP hS => ?_)
      have hf := bnd_at σ6 eσ6 hf
      refine lv_aload_n hx hb dX2_learn_31 rfl (lv_at hl 0 rfl) ?_
      refine lv_dup hx hb dX2_learn_32 rfl ?_
      refine zg_X2_34 hx hb C hP (lth0 hh) (lay_h0 hh) rfl dX2_learn_33 ?_
      refine lv_iconst (v := 1) hx hb dX2_learn_36 (by decide) ?_
      refine lv_iadd hx hb dX2_learn_37 ?_
      refine zp_X2_34 hx hb C hP hS (lth0 hh) (lay_h0 hh) rfl dX2_learn_38 (fun σ7 eσ7 H locs hP hS => ?_)
      have hf := bnd_at σ7 eσ7 hf
      refine lv_aload_n hx hb dX2_learn_41 rfl (lv_at hl 0 rfl) ?_
      refine lv_aload_n hx hb dX2_learn_42 rfl (lv_at hl 0 rfl) ?_
      refine zg_X2_23 hx hb C hP (lth0 hh) (lay_h0 hh) rfl dX2_learn_43 ?_
      refine lv_iload_n hx hb dX2_learn_46 rfl (lv_at hl 1 rfl) ?_
      refine lv_iload_n hx hb dX2_learn_47 rfl (lv_at hl 2 rfl) ?_
      refine lv_aload_n hx hb dX2_learn_48 rfl (lv_at hl 0 rfl) ?_
      refine zg_X2_44 hx hb C hP (lth0 hh) (lay_h0 hh) rfl dX2_learn_49 ?_
      obtain ⟨u8, hzu8, hf⟩ := obd_some hf
      refine zz_callVl (rest := [.ref (a h)]) hx hb hml C hP hS (c_X7_lowBy l hDA (h := h) hh p1 p2 (gJ σ7 h 7) hzu8) zw_X2_116 ⟨Nat.le_trans (Nat.le_of_ble_eq_true rfl) hRf, Nat.le_trans (Nat.le_of_ble_eq_true rfl) hRl⟩ (lth hh 7 (by decide)) (lay_h7 hh) rfl rfl hl.1 (Nat.le_of_ble_eq_true rfl) ⟨Nat.zero_le _, Nat.zero_le _⟩ rfl dX2_learn_52 (fun H locs hP hS => ?_)
      refine zp_X2_44 hx hb C hP hS (lth0 hh) (lay_h0 hh) rfl dX2_learn_55 (fun σ9 eσ9 H locs hP hS => ?_)
      have hf := bnd_at σ9 eσ9 hf
      refine lv_aload_n hx hb dX2_learn_58 rfl (lv_at hl 0 rfl) ?_
      refine lv_aload_n hx hb dX2_learn_59 rfl (lv_at hl 0 rfl) ?_
      refine zg_X2_23 hx hb C hP (lth0 hh) (lay_h0 hh) rfl dX2_learn_60 ?_
      refine lv_iload_n hx hb dX2_learn_63 rfl (lv_at hl 1 rfl) ?_
      refine lv_iload_n hx hb dX2_learn_64 rfl (lv_at hl 2 rfl) ?_
      refine lv_aload_n hx hb dX2_learn_65 rfl (lv_at hl 0 rfl) ?_
      refine zg_X2_48 hx hb C hP (lth0 hh) (lay_h0 hh) rfl dX2_learn_66 ?_
      obtain ⟨u10, hzu10, hf⟩ := obd_some hf
      refine zz_callVl (rest := [.ref (a h)]) hx hb hml C hP hS (c_X7_highBy l hDA (h := h) hh p1 p2 (gJ σ9 h 8) hzu10) zw_X2_120 ⟨Nat.le_trans (Nat.le_of_ble_eq_true rfl) hRf, Nat.le_trans (Nat.le_of_ble_eq_true rfl) hRl⟩ (lth hh 7 (by decide)) (lay_h7 hh) rfl rfl hl.1 (Nat.le_of_ble_eq_true rfl) ⟨Nat.zero_le _, Nat.zero_le _⟩ rfl dX2_learn_69 (fun H locs hP hS => ?_)
      refine zp_X2_48 hx hb C hP hS (lth0 hh) (lay_h0 hh) rfl dX2_learn_72 (fun σ11 eσ11 H locs hP hS => ?_)
      have hf := bnd_at σ11 eσ11 hf
      have hf := Option.some.inj hf
      subst hf
      exact hQ _ _ _ _ dX2_learn_75 hP hS
    · have hf := ifT hb3 hf
      have hf := Option.some.inj hf
      subst hf
      exact hQ _ _ _ _ dX2_learn_16 hP hS
set_option maxHeartbeats 4000000 in
set_option maxRecDepth 100000 in
theorem c_X2_wrongInSome (l : Launch) {D : va_G} {a : Nat → Nat} {cA : Nat → ClassId} {A : Nat → Prop} {sa : Nat → Nat} (hDA : DA a A) {σ : PH} {d : PD} {h : Nat} (hh : isHall h) {u : Int32} (hf : f_X2_wrongInSome σ h = some u) : CTi l yX2_wrongInSome cX2_wrongInSome 3 (some .int) 2 44 D a cA A sa [.ref (a h)] σ d u σ d := by
  refine zz_metI zpl_X2 hDA (Nat.le_of_ble_eq_true rfl) ?_
  intro p e R s m args below meth c Q ls hx hb hml C hRf hRl hQ hP hS hl
  have hl : lv_has ls 3 [(0, .ref (a h))] := hl
  unfold f_X2_wrongInSome at hf
  refine lv_iconst (v := 0) hx hb dX2_wrongInSome_0 (by decide) ?_
  refine lv_istore_n (lv' := [(1, .int 0), (0, .ref (a h))]) hx hb dX2_wrongInSome_1 rfl hl (by decide) rfl (fun ls hl => ?_)
  refine lv_iconst (v := 0) hx hb dX2_wrongInSome_2 (by decide) ?_
  refine lv_istore_n (lv' := [(2, .int 0), (1, .int 0), (0, .ref (a h))]) hx hb dX2_wrongInSome_3 rfl hl (by decide) rfl (fun ls hl => ?_)
  refine loopN_ind (P := fun (q1 : Int32 × Int32) => ∀ (H : Heap) (locs : List Loc) (ls : Array Slot), lv_has ls 3 [(0, .ref (a h)), (1, .int q1.1), (2, .int q1.2)] → va_P D vwCl (wl a cA σ d) H → va_S A s.heap H locs → W p l e R s m args below meth c H locs 0 0 Q (F0 m 4 ls [])) ?_ _ _ hf _ _ _ (lv_sub hl [2, 1, 0] rfl) hP hS
  intro k2 ihk2 q1 hf H locs ls hl hP hS
  unfold b_X2_wrongInSome_4 at hf
  refine lv_iload_n hx hb dX2_wrongInSome_4 rfl (lv_at hl 2 rfl) ?_
  refine lv_aload_n hx hb dX2_wrongInSome_5 rfl (lv_at hl 0 rfl) ?_
  refine zg_X2_23 hx hb C hP (lth0 hh) (lay_h0 hh) rfl dX2_wrongInSome_6 ?_
  refine zg_X2_91 hx hb C hP (lth hh 7 (by decide)) (lay_h7 hh) rfl dX2_wrongInSome_9 ?_
  refine lv_icmp_ge (tgt := 48) hx hb dX2_wrongInSome_12 (by decide) (fun hb2 => ?_) (fun hb2 => ?_)
  · have hf := ifT hb2 hf
    refine lv_iload_n hx hb dX2_wrongInSome_48 rfl (lv_at hl 1 rfl) ?_
    have hf := Option.some.inj hf
    subst hf
    exact hQ _ _ _ _ dX2_wrongInSome_49 hP hS
  · have hf := ifF hb2 hf
    refine lv_iload_n hx hb dX2_wrongInSome_15 rfl (lv_at hl 2 rfl) ?_
    refine lv_aload_n hx hb dX2_wrongInSome_16 rfl (lv_at hl 0 rfl) ?_
    refine zg_X2_44 hx hb C hP (lth0 hh) (lay_h0 hh) rfl dX2_wrongInSome_17 ?_
    refine lv_aload_n hx hb dX2_wrongInSome_20 rfl (lv_at hl 0 rfl) ?_
    refine zg_X2_48 hx hb C hP (lth0 hh) (lay_h0 hh) rfl dX2_wrongInSome_21 ?_
    obtain ⟨u4, hzu4⟩ : ∃ z, z = f_X7_isIn q1.2 (gJ σ h 7) (gJ σ h 8) := ⟨_, rfl⟩
    have hf := bnd_at u4 hzu4 hf
    refine zz_callSi (rest := []) hx hb hml C hP hS (c_X7_isIn l hDA q1.2 (gJ σ h 7) (gJ σ h 8) hzu4.symm) zw_X2_112 ⟨Nat.le_trans (Nat.le_of_ble_eq_true rfl) hRf, Nat.le_trans (Nat.le_of_ble_eq_true rfl) hRl⟩  rfl hl.1 (Nat.le_of_ble_eq_true rfl) ⟨Nat.zero_le _, Nat.zero_le _⟩ rfl dX2_wrongInSome_24 (fun H locs hP hS => ?_)
    refine lv_if_eq (tgt := 42) hx hb dX2_wrongInSome_27 (by decide) (fun hb4 => ?_) (fun hb4 => ?_)
    · have hf := ifT hb4 hf
      obtain ⟨v6, ev6⟩ : ∃ z : Int32, z = q1.2 + 1 := ⟨_, rfl⟩
      have hf := bnd_at v6 ev6 hf
      refine lv_iinc (v := v6) (lv' := [(2, .int v6), (0, .ref (a h)), (1, .int q1.1)]) hx hb dX2_wrongInSome_42 hl (k := 2) rfl (by rw [ev6]; rfl) (by decide) rfl (fun ls hl => ?_)
      refine lv_goto (tgt := 4) hx hb dX2_wrongInSome_45 (by decide) ?_
      exact ihk2 _ hf _ _ _ (lv_sub hl [1, 2, 0] rfl) hP hS
    · have hf := ifF hb4 hf
      refine lv_iload_n hx hb dX2_wrongInSome_30 rfl (lv_at hl 1 rfl) ?_
      refine lv_aload_n hx hb dX2_wrongInSome_31 rfl (lv_at hl 0 rfl) ?_
      refine zg_X2_23 hx hb C hP (lth0 hh) (lay_h0 hh) rfl dX2_wrongInSome_32 ?_
      refine zg_X2_94 hx hb C hP (lth hh 7 (by decide)) (lay_h7 hh) rfl dX2_wrongInSome_35 ?_
      refine lv_iload_n hx hb dX2_wrongInSome_38 rfl (lv_at hl 2 rfl) ?_
      obtain ⟨hc6, hf⟩ := chk_some hf
      refine zz_iald hx hb C hP (lth hh 8 (by decide)) (lay_h8 hh) (inb_vp hc6) dX2_wrongInSome_39 ?_
      refine lv_ior hx hb dX2_wrongInSome_40 ?_
      refine lv_topi (fun v8 ev8 => ?_)
      have hf := bnd_at v8 ev8 hf
      refine lv_istore_n (lv' := [(1, .int v8), (0, .ref (a h)), (2, .int q1.2)]) hx hb dX2_wrongInSome_41 rfl hl (by decide) rfl (fun ls hl => ?_)
      obtain ⟨v9, ev9⟩ : ∃ z : Int32, z = q1.2 + 1 := ⟨_, rfl⟩
      have hf := bnd_at v9 ev9 hf
      refine lv_iinc (v := v9) (lv' := [(2, .int v9), (1, .int v8), (0, .ref (a h))]) hx hb dX2_wrongInSome_42 hl (k := 2) rfl (by rw [ev9]; rfl) (by decide) rfl (fun ls hl => ?_)
      refine lv_goto (tgt := 4) hx hb dX2_wrongInSome_45 (by decide) ?_
      exact ihk2 _ hf _ _ _ (lv_sub hl [2, 1, 0] rfl) hP hS
set_option maxHeartbeats 4000000 in
set_option maxRecDepth 100000 in
theorem c_X2_wrongInAll (l : Launch) {D : va_G} {a : Nat → Nat} {cA : Nat → ClassId} {A : Nat → Prop} {sa : Nat → Nat} (hDA : DA a A) {σ : PH} {d : PD} {h : Nat} (hh : isHall h) {u : Int32} (hf : f_X2_wrongInAll σ h = some u) : CTi l yX2_wrongInAll cX2_wrongInAll 3 (some .int) 3 64 D a cA A sa [.ref (a h)] σ d u σ d := by
  refine zz_metI zpl_X2 hDA (Nat.le_of_ble_eq_true rfl) ?_
  intro p e R s m args below meth c Q ls hx hb hml C hRf hRl hQ hP hS hl
  have hl : lv_has ls 3 [(0, .ref (a h))] := hl
  unfold f_X2_wrongInAll at hf
  refine lv_aload_n hx hb dX2_wrongInAll_0 rfl (lv_at hl 0 rfl) ?_
  obtain ⟨u1, hzu1⟩ : ∃ z, z = f_X2_possible σ h := ⟨_, rfl⟩
  have hf := bnd_at u1 hzu1 hf
  refine zz_callVi (rest := []) hx hb hml C hP hS (c_X2_possible l hDA (h := h) hh hzu1.symm) zw_X2_130 ⟨Nat.le_trans (Nat.le_of_ble_eq_true rfl) hRf, Nat.le_trans (Nat.le_of_ble_eq_true rfl) hRl⟩ (lth0 hh) (lay_h0 hh) rfl rfl hl.1 (Nat.le_of_ble_eq_true rfl) ⟨Nat.zero_le _, Nat.zero_le _⟩ rfl dX2_wrongInAll_1 (fun H locs hP hS => ?_)
  have hJ18 : ∀ (v2 : Int32), j_X2_wrongInAll_18 σ h v2 = some u → ∀ (H : Heap) (locs : List Loc) (ls : Array Slot), lv_has ls 3 [(0, .ref (a h))] → va_P D vwCl (wl a cA σ d) H → va_S A s.heap H locs → W p l e R s m args below meth c H locs 0 0 Q (F0 m 18 ls [.int v2]) := by
    intro v2 hf H locs ls hl hP hS
    unfold j_X2_wrongInAll_18 at hf
    refine lv_istore_n (lv' := [(1, .int v2), (0, .ref (a h))]) hx hb dX2_wrongInAll_18 rfl hl (by decide) rfl (fun ls hl => ?_)
    refine lv_iconst (v := 0) hx hb dX2_wrongInAll_19 (by decide) ?_
    refine lv_istore_n (lv' := [(2, .int 0), (1, .int v2), (0, .ref (a h))]) hx hb dX2_wrongInAll_20 rfl hl (by decide) rfl (fun ls hl => ?_)
    refine loopN_ind (P := fun (q3 : Int32 × Int32) => ∀ (H : Heap) (locs : List Loc) (ls : Array Slot), lv_has ls 3 [(0, .ref (a h)), (1, .int q3.1), (2, .int q3.2)] → va_P D vwCl (wl a cA σ d) H → va_S A s.heap H locs → W p l e R s m args below meth c H locs 0 0 Q (F0 m 21 ls [])) ?_ _ _ hf _ _ _ (lv_sub hl [2, 1, 0] rfl) hP hS
    intro k4 ihk4 q3 hf H locs ls hl hP hS
    unfold b_X2_wrongInAll_21 at hf
    refine lv_iload_n hx hb dX2_wrongInAll_21 rfl (lv_at hl 2 rfl) ?_
    refine lv_aload_n hx hb dX2_wrongInAll_22 rfl (lv_at hl 0 rfl) ?_
    refine zg_X2_23 hx hb C hP (lth0 hh) (lay_h0 hh) rfl dX2_wrongInAll_23 ?_
    refine zg_X2_91 hx hb C hP (lth hh 7 (by decide)) (lay_h7 hh) rfl dX2_wrongInAll_26 ?_
    refine lv_icmp_ge (tgt := 65) hx hb dX2_wrongInAll_29 (by decide) (fun hb4 => ?_) (fun hb4 => ?_)
    · have hf := ifT hb4 hf
      refine lv_iload_n hx hb dX2_wrongInAll_65 rfl (lv_at hl 1 rfl) ?_
      have hf := Option.some.inj hf
      subst hf
      exact hQ _ _ _ _ dX2_wrongInAll_66 hP hS
    · have hf := ifF hb4 hf
      refine lv_iload_n hx hb dX2_wrongInAll_32 rfl (lv_at hl 2 rfl) ?_
      refine lv_aload_n hx hb dX2_wrongInAll_33 rfl (lv_at hl 0 rfl) ?_
      refine zg_X2_44 hx hb C hP (lth0 hh) (lay_h0 hh) rfl dX2_wrongInAll_34 ?_
      refine lv_aload_n hx hb dX2_wrongInAll_37 rfl (lv_at hl 0 rfl) ?_
      refine zg_X2_48 hx hb C hP (lth0 hh) (lay_h0 hh) rfl dX2_wrongInAll_38 ?_
      obtain ⟨u6, hzu6⟩ : ∃ z, z = f_X7_isIn q3.2 (gJ σ h 7) (gJ σ h 8) := ⟨_, rfl⟩
      have hf := bnd_at u6 hzu6 hf
      refine zz_callSi (rest := []) hx hb hml C hP hS (c_X7_isIn l hDA q3.2 (gJ σ h 7) (gJ σ h 8) hzu6.symm) zw_X2_112 ⟨Nat.le_trans (Nat.le_of_ble_eq_true rfl) hRf, Nat.le_trans (Nat.le_of_ble_eq_true rfl) hRl⟩  rfl hl.1 (Nat.le_of_ble_eq_true rfl) ⟨Nat.zero_le _, Nat.zero_le _⟩ rfl dX2_wrongInAll_41 (fun H locs hP hS => ?_)
      refine lv_if_eq (tgt := 59) hx hb dX2_wrongInAll_44 (by decide) (fun hb6 => ?_) (fun hb6 => ?_)
      · have hf := ifT hb6 hf
        obtain ⟨v8, ev8⟩ : ∃ z : Int32, z = q3.2 + 1 := ⟨_, rfl⟩
        have hf := bnd_at v8 ev8 hf
        refine lv_iinc (v := v8) (lv' := [(2, .int v8), (0, .ref (a h)), (1, .int q3.1)]) hx hb dX2_wrongInAll_59 hl (k := 2) rfl (by rw [ev8]; rfl) (by decide) rfl (fun ls hl => ?_)
        refine lv_goto (tgt := 21) hx hb dX2_wrongInAll_62 (by decide) ?_
        exact ihk4 _ hf _ _ _ (lv_sub hl [1, 2, 0] rfl) hP hS
      · have hf := ifF hb6 hf
        refine lv_iload_n hx hb dX2_wrongInAll_47 rfl (lv_at hl 1 rfl) ?_
        refine lv_aload_n hx hb dX2_wrongInAll_48 rfl (lv_at hl 0 rfl) ?_
        refine zg_X2_23 hx hb C hP (lth0 hh) (lay_h0 hh) rfl dX2_wrongInAll_49 ?_
        refine zg_X2_94 hx hb C hP (lth hh 7 (by decide)) (lay_h7 hh) rfl dX2_wrongInAll_52 ?_
        refine lv_iload_n hx hb dX2_wrongInAll_55 rfl (lv_at hl 2 rfl) ?_
        obtain ⟨hc8, hf⟩ := chk_some hf
        refine zz_iald hx hb C hP (lth hh 8 (by decide)) (lay_h8 hh) (inb_vp hc8) dX2_wrongInAll_56 ?_
        refine lv_iand hx hb dX2_wrongInAll_57 ?_
        refine lv_topi (fun v10 ev10 => ?_)
        have hf := bnd_at v10 ev10 hf
        refine lv_istore_n (lv' := [(1, .int v10), (0, .ref (a h)), (2, .int q3.2)]) hx hb dX2_wrongInAll_58 rfl hl (by decide) rfl (fun ls hl => ?_)
        obtain ⟨v11, ev11⟩ : ∃ z : Int32, z = q3.2 + 1 := ⟨_, rfl⟩
        have hf := bnd_at v11 ev11 hf
        refine lv_iinc (v := v11) (lv' := [(2, .int v11), (1, .int v10), (0, .ref (a h))]) hx hb dX2_wrongInAll_59 hl (k := 2) rfl (by rw [ev11]; rfl) (by decide) rfl (fun ls hl => ?_)
        refine lv_goto (tgt := 21) hx hb dX2_wrongInAll_62 (by decide) ?_
        exact ihk4 _ hf _ _ _ (lv_sub hl [2, 1, 0] rfl) hP hS
  refine lv_if_ne (tgt := 11) hx hb dX2_wrongInAll_4 (by decide) (fun hb11 => ?_) (fun hb11 => ?_)
  · have hf := ifF hb11 hf
    refine lv_aload_n hx hb dX2_wrongInAll_11 rfl (lv_at hl 0 rfl) ?_
    refine zg_X2_12 hx hb C hP (lth0 hh) (lay_h0 hh) rfl dX2_wrongInAll_12 ?_
    obtain ⟨u13, hzu13⟩ : ∃ z, z = f_X0_all σ h := ⟨_, rfl⟩
    have hf := bnd_at u13 hzu13 hf
    refine zz_callVi (rest := []) hx hb hml C hP hS (c_X0_all l hDA (h := h) hh hzu13.symm) zw_X2_134 ⟨Nat.le_trans (Nat.le_of_ble_eq_true rfl) hRf, Nat.le_trans (Nat.le_of_ble_eq_true rfl) hRl⟩ (lth hh 1 (by decide)) (lay_h1 hh) rfl rfl hl.1 (Nat.le_of_ble_eq_true rfl) ⟨Nat.zero_le _, Nat.zero_le _⟩ rfl dX2_wrongInAll_15 (fun H locs hP hS => ?_)
    exact hJ18 _ hf _ _ _ (lv_sub hl [0] rfl) hP hS
  · have hf := ifT hb11 hf
    refine lv_iconst (v := 0) hx hb dX2_wrongInAll_7 (by decide) ?_
    refine lv_goto (tgt := 18) hx hb dX2_wrongInAll_8 (by decide) ?_
    exact hJ18 _ hf _ _ _ (lv_sub hl [0] rfl) hP hS
set_option maxHeartbeats 4000000 in
set_option maxRecDepth 100000 in
theorem c_X2_likely (l : Launch) {D : va_G} {a : Nat → Nat} {cA : Nat → ClassId} {A : Nat → Prop} {sa : Nat → Nat} (hDA : DA a A) {σ : PH} {d : PD} {h : Nat} (hh : isHall h) (p1 : Int32) {u : Int32} (hf : f_X2_likely σ h p1 = some u) : CTi l yX2_likely cX2_likely 7 (some .int) 2 44 D a cA A sa [.ref (a h), .int p1] σ d u σ d := by
  refine zz_metI zpl_X2 hDA (Nat.le_of_ble_eq_true rfl) ?_
  intro p e R s m args below meth c Q ls hx hb hml C hRf hRl hQ hP hS hl
  have hl : lv_has ls 7 [(0, .ref (a h)), (1, .int p1)] := hl
  unfold f_X2_likely at hf
  refine lv_lconst (v := 0) hx hb dX2_likely_0 (by decide) ?_
  refine lv_lstore_n (lv' := [(2, .long 0), (0, .ref (a h)), (1, .int p1)]) hx hb dX2_likely_1 rfl hl (by decide) rfl (fun ls hl => ?_)
  refine lv_lconst (v := 0) hx hb dX2_likely_2 (by decide) ?_
  refine lv_lstore (lv' := [(4, .long 0), (2, .long 0), (0, .ref (a h)), (1, .int p1)]) hx hb dX2_likely_3 hl (by decide) rfl (fun ls hl => ?_)
  refine lv_iconst (v := 0) hx hb dX2_likely_5 (by decide) ?_
  refine lv_istore (lv' := [(6, .int 0), (4, .long 0), (2, .long 0), (0, .ref (a h)), (1, .int p1)]) hx hb dX2_likely_6 hl (by decide) rfl (fun ls hl => ?_)
  have hJ88 : ∀ (v1 : Int64) (v2 : Int64), j_X2_likely_88 v1 v2 = some u → ∀ (H : Heap) (locs : List Loc) (ls : Array Slot), lv_has ls 7 [(2, .long v1), (4, .long v2)] → va_P D vwCl (wl a cA σ d) H → va_S A s.heap H locs → W p l e R s m args below meth c H locs 0 0 Q (F0 m 88 ls []) := by
    intro v1 v2 hf H locs ls hl hP hS
    unfold j_X2_likely_88 at hf
    refine lv_lload hx hb dX2_likely_88 (lv_at hl 1 rfl) ?_
    refine lv_lconst (v := 0) hx hb dX2_likely_90 (by decide) ?_
    refine W.lcmp hx hb dX2_likely_91 ?_
    refine lv_if_ne (tgt := 99) hx hb dX2_likely_92 (by decide) (fun hb2 => ?_) (fun hb2 => ?_)
    · have hf := ifF hb2 hf
      refine lv_ldc2 (v := 1000) hx hb C.1 (C.2.1 _ kk_X2_140) dX2_likely_99 ?_
      refine lv_lload_n hx hb dX2_likely_102 rfl (lv_at hl 0 rfl) ?_
      refine lv_lmul hx hb dX2_likely_103 ?_
      refine lv_lload hx hb dX2_likely_104 (lv_at hl 1 rfl) ?_
      obtain ⟨hc4, hf⟩ := chk_some hf
      refine lv_ldiv hx hb dX2_likely_106 hc4 ?_
      refine lv_l2i (v := ((1000 * v1) / v2).toInt32) hx hb dX2_likely_107 rfl ?_
      have hf := Option.some.inj hf
      subst hf
      exact hQ _ _ _ _ dX2_likely_108 hP hS
    · have hf := ifT hb2 hf
      refine lv_iconst (v := 0) hx hb dX2_likely_95 (by decide) ?_
      refine lv_goto (tgt := 108) hx hb dX2_likely_96 (by decide) ?_
      have hf := Option.some.inj hf
      subst hf
      exact hQ _ _ _ _ dX2_likely_108 hP hS
  refine loopN_ind (P := fun (q5 : Int64 × Int64 × Int32) => ∀ (H : Heap) (locs : List Loc) (ls : Array Slot), lv_has ls 7 [(0, .ref (a h)), (1, .int p1), (2, .long q5.1), (4, .long q5.2.1), (6, .int q5.2.2)] → va_P D vwCl (wl a cA σ d) H → va_S A s.heap H locs → W p l e R s m args below meth c H locs 0 0 Q (F0 m 8 ls [])) ?_ _ _ hf _ _ _ (lv_sub hl [3, 4, 2, 1, 0] rfl) hP hS
  intro k6 ihk6 q5 hf H locs ls hl hP hS
  unfold b_X2_likely_8 at hf
  refine lv_iload hx hb dX2_likely_8 (lv_at hl 4 rfl) ?_
  refine lv_aload_n hx hb dX2_likely_10 rfl (lv_at hl 0 rfl) ?_
  refine zg_X2_23 hx hb C hP (lth0 hh) (lay_h0 hh) rfl dX2_likely_11 ?_
  refine zg_X2_91 hx hb C hP (lth hh 7 (by decide)) (lay_h7 hh) rfl dX2_likely_14 ?_
  refine lv_icmp_ge (tgt := 88) hx hb dX2_likely_17 (by decide) (fun hb6 => ?_) (fun hb6 => ?_)
  · have hf := ifT hb6 hf
    exact hJ88 _ _ hf _ _ _ (lv_sub hl [2, 3] rfl) hP hS
  · have hf := ifF hb6 hf
    refine lv_iload hx hb dX2_likely_20 (lv_at hl 4 rfl) ?_
    refine lv_aload_n hx hb dX2_likely_22 rfl (lv_at hl 0 rfl) ?_
    refine zg_X2_44 hx hb C hP (lth0 hh) (lay_h0 hh) rfl dX2_likely_23 ?_
    refine lv_aload_n hx hb dX2_likely_26 rfl (lv_at hl 0 rfl) ?_
    refine zg_X2_48 hx hb C hP (lth0 hh) (lay_h0 hh) rfl dX2_likely_27 ?_
    obtain ⟨u8, hzu8⟩ : ∃ z, z = f_X7_isIn q5.2.2 (gJ σ h 7) (gJ σ h 8) := ⟨_, rfl⟩
    have hf := bnd_at u8 hzu8 hf
    refine zz_callSi (rest := []) hx hb hml C hP hS (c_X7_isIn l hDA q5.2.2 (gJ σ h 7) (gJ σ h 8) hzu8.symm) zw_X2_112 ⟨Nat.le_trans (Nat.le_of_ble_eq_true rfl) hRf, Nat.le_trans (Nat.le_of_ble_eq_true rfl) hRl⟩  rfl hl.1 (Nat.le_of_ble_eq_true rfl) ⟨Nat.zero_le _, Nat.zero_le _⟩ rfl dX2_likely_30 (fun H locs hP hS => ?_)
    refine lv_if_eq (tgt := 82) hx hb dX2_likely_33 (by decide) (fun hb8 => ?_) (fun hb8 => ?_)
    · have hf := ifT hb8 hf
      obtain ⟨v10, ev10⟩ : ∃ z : Int32, z = q5.2.2 + 1 := ⟨_, rfl⟩
      have hf := bnd_at v10 ev10 hf
      refine lv_iinc (v := v10) (lv' := [(6, .int v10), (0, .ref (a h)), (1, .int p1), (2, .long q5.1), (4, .long q5.2.1)]) hx hb dX2_likely_82 hl (k := 4) rfl (by rw [ev10]; rfl) (by decide) rfl (fun ls hl => ?_)
      refine lv_goto (tgt := 8) hx hb dX2_likely_85 (by decide) ?_
      exact ihk6 _ hf _ _ _ (lv_sub hl [1, 2, 3, 4, 0] rfl) hP hS
    · have hf := ifF hb8 hf
      refine lv_lload hx hb dX2_likely_36 (lv_at hl 3 rfl) ?_
      refine lv_aload_n hx hb dX2_likely_38 rfl (lv_at hl 0 rfl) ?_
      refine zg_X2_23 hx hb C hP (lth0 hh) (lay_h0 hh) rfl dX2_likely_39 ?_
      refine zg_X2_137 hx hb C hP (lth hh 7 (by decide)) (lay_h7 hh) rfl dX2_likely_42 ?_
      refine lv_iload hx hb dX2_likely_45 (lv_at hl 4 rfl) ?_
      obtain ⟨hc10, hf⟩ := chk_some hf
      refine zz_iald hx hb C hP (lth hh 9 (by decide)) (lay_h9 hh) (inb_vp hc10) dX2_likely_47 ?_
      refine lv_i2l (v := (gI σ (h + 9) q5.2.2.toNatClampNeg).toInt64) hx hb dX2_likely_48 rfl ?_
      refine lv_ladd hx hb dX2_likely_49 ?_
      refine lv_topl (fun v12 ev12 => ?_)
      have hf := bnd_at v12 ev12 hf
      refine lv_lstore (lv' := [(4, .long v12), (0, .ref (a h)), (1, .int p1), (2, .long q5.1), (6, .int q5.2.2)]) hx hb dX2_likely_50 hl (by decide) rfl (fun ls hl => ?_)
      refine lv_lload_n hx hb dX2_likely_52 rfl (lv_at hl 3 rfl) ?_
      refine lv_aload_n hx hb dX2_likely_53 rfl (lv_at hl 1 rfl) ?_
      refine zg_X2_23 hx hb C hP (lth0 hh) (lay_h0 hh) rfl dX2_likely_54 ?_
      refine zg_X2_94 hx hb C hP (lth hh 7 (by decide)) (lay_h7 hh) rfl dX2_likely_57 ?_
      refine lv_iload hx hb dX2_likely_60 (lv_at hl 4 rfl) ?_
      obtain ⟨hc12, hf⟩ := chk_some hf
      refine zz_iald hx hb C hP (lth hh 8 (by decide)) (lay_h8 hh) (inb_vp hc12) dX2_likely_62 ?_
      refine lv_iload_n hx hb dX2_likely_63 rfl (lv_at hl 2 rfl) ?_
      refine lv_ishr hx hb dX2_likely_64 ?_
      refine lv_iconst (v := 1) hx hb dX2_likely_65 (by decide) ?_
      refine lv_iand hx hb dX2_likely_66 ?_
      refine lv_i2l (v := (((gI σ (h + 8) q5.2.2.toNatClampNeg) >>> (p1 &&& 31)) &&& 1).toInt64) hx hb dX2_likely_67 rfl ?_
      refine lv_aload_n hx hb dX2_likely_68 rfl (lv_at hl 1 rfl) ?_
      refine zg_X2_23 hx hb C hP (lth0 hh) (lay_h0 hh) rfl dX2_likely_69 ?_
      refine zg_X2_137 hx hb C hP (lth hh 7 (by decide)) (lay_h7 hh) rfl dX2_likely_72 ?_
      refine lv_iload hx hb dX2_likely_75 (lv_at hl 4 rfl) ?_
      obtain ⟨hc13, hf⟩ := chk_some hf
      refine zz_iald hx hb C hP (lth hh 9 (by decide)) (lay_h9 hh) (inb_vp hc13) dX2_likely_77 ?_
      refine lv_i2l (v := (gI σ (h + 9) q5.2.2.toNatClampNeg).toInt64) hx hb dX2_likely_78 rfl ?_
      refine lv_lmul hx hb dX2_likely_79 ?_
      refine lv_ladd hx hb dX2_likely_80 ?_
      refine lv_topl (fun v15 ev15 => ?_)
      have hf := bnd_at v15 ev15 hf
      refine lv_lstore_n (lv' := [(2, .long v15), (4, .long v12), (0, .ref (a h)), (1, .int p1), (6, .int q5.2.2)]) hx hb dX2_likely_81 rfl hl (by decide) rfl (fun ls hl => ?_)
      obtain ⟨v16, ev16⟩ : ∃ z : Int32, z = q5.2.2 + 1 := ⟨_, rfl⟩
      have hf := bnd_at v16 ev16 hf
      refine lv_iinc (v := v16) (lv' := [(6, .int v16), (2, .long v15), (4, .long v12), (0, .ref (a h)), (1, .int p1)]) hx hb dX2_likely_82 hl (k := 4) rfl (by rw [ev16]; rfl) (by decide) rfl (fun ls hl => ?_)
      refine lv_goto (tgt := 8) hx hb dX2_likely_85 (by decide) ?_
      exact ihk6 _ hf _ _ _ (lv_sub hl [3, 4, 1, 2, 0] rfl) hP hS
set_option maxHeartbeats 4000000 in
set_option maxRecDepth 100000 in
theorem c_X2_likeliestWorld (l : Launch) {D : va_G} {a : Nat → Nat} {cA : Nat → ClassId} {A : Nat → Prop} {sa : Nat → Nat} (hDA : DA a A) {σ : PH} {d : PD} {h : Nat} (hh : isHall h) {u : Int32} (hf : f_X2_likeliestWorld σ h = some u) : CTi l yX2_likeliestWorld cX2_likeliestWorld 4 (some .int) 2 44 D a cA A sa [.ref (a h)] σ d u σ d := by
  refine zz_metI zpl_X2 hDA (Nat.le_of_ble_eq_true rfl) ?_
  intro p e R s m args below meth c Q ls hx hb hml C hRf hRl hQ hP hS hl
  have hl : lv_has ls 4 [(0, .ref (a h))] := hl
  unfold f_X2_likeliestWorld at hf
  refine lv_iconst (v := (-1)) hx hb dX2_likeliestWorld_0 (by decide) ?_
  refine lv_istore_n (lv' := [(1, .int (-1)), (0, .ref (a h))]) hx hb dX2_likeliestWorld_1 rfl hl (by decide) rfl (fun ls hl => ?_)
  refine lv_iconst (v := 0) hx hb dX2_likeliestWorld_2 (by decide) ?_
  refine lv_istore_n (lv' := [(2, .int 0), (1, .int (-1)), (0, .ref (a h))]) hx hb dX2_likeliestWorld_3 rfl hl (by decide) rfl (fun ls hl => ?_)
  refine lv_iconst (v := 0) hx hb dX2_likeliestWorld_4 (by decide) ?_
  refine lv_istore_n (lv' := [(3, .int 0), (2, .int 0), (1, .int (-1)), (0, .ref (a h))]) hx hb dX2_likeliestWorld_5 rfl hl (by decide) rfl (fun ls hl => ?_)
  refine loopN_ind (P := fun (q1 : Int32 × Int32 × Int32) => ∀ (H : Heap) (locs : List Loc) (ls : Array Slot), lv_has ls 4 [(0, .ref (a h)), (1, .int q1.1), (2, .int q1.2.1), (3, .int q1.2.2)] → va_P D vwCl (wl a cA σ d) H → va_S A s.heap H locs → W p l e R s m args below meth c H locs 0 0 Q (F0 m 6 ls [])) ?_ _ _ hf _ _ _ (lv_sub hl [3, 2, 1, 0] rfl) hP hS
  intro k2 ihk2 q1 hf H locs ls hl hP hS
  unfold b_X2_likeliestWorld_6 at hf
  refine lv_iload_n hx hb dX2_likeliestWorld_6 rfl (lv_at hl 3 rfl) ?_
  refine lv_aload_n hx hb dX2_likeliestWorld_7 rfl (lv_at hl 0 rfl) ?_
  refine zg_X2_23 hx hb C hP (lth0 hh) (lay_h0 hh) rfl dX2_likeliestWorld_8 ?_
  refine zg_X2_91 hx hb C hP (lth hh 7 (by decide)) (lay_h7 hh) rfl dX2_likeliestWorld_11 ?_
  refine lv_icmp_ge (tgt := 71) hx hb dX2_likeliestWorld_14 (by decide) (fun hb2 => ?_) (fun hb2 => ?_)
  · have hf := ifT hb2 hf
    refine lv_iload_n hx hb dX2_likeliestWorld_71 rfl (lv_at hl 1 rfl) ?_
    have hf := Option.some.inj hf
    subst hf
    exact hQ _ _ _ _ dX2_likeliestWorld_72 hP hS
  · have hf := ifF hb2 hf
    refine lv_iload_n hx hb dX2_likeliestWorld_17 rfl (lv_at hl 3 rfl) ?_
    refine lv_aload_n hx hb dX2_likeliestWorld_18 rfl (lv_at hl 0 rfl) ?_
    refine zg_X2_44 hx hb C hP (lth0 hh) (lay_h0 hh) rfl dX2_likeliestWorld_19 ?_
    refine lv_aload_n hx hb dX2_likeliestWorld_22 rfl (lv_at hl 0 rfl) ?_
    refine zg_X2_48 hx hb C hP (lth0 hh) (lay_h0 hh) rfl dX2_likeliestWorld_23 ?_
    obtain ⟨u4, hzu4⟩ : ∃ z, z = f_X7_isIn q1.2.2 (gJ σ h 7) (gJ σ h 8) := ⟨_, rfl⟩
    have hf := bnd_at u4 hzu4 hf
    refine zz_callSi (rest := []) hx hb hml C hP hS (c_X7_isIn l hDA q1.2.2 (gJ σ h 7) (gJ σ h 8) hzu4.symm) zw_X2_112 ⟨Nat.le_trans (Nat.le_of_ble_eq_true rfl) hRf, Nat.le_trans (Nat.le_of_ble_eq_true rfl) hRl⟩  rfl hl.1 (Nat.le_of_ble_eq_true rfl) ⟨Nat.zero_le _, Nat.zero_le _⟩ rfl dX2_likeliestWorld_26 (fun H locs hP hS => ?_)
    refine lv_if_eq (tgt := 65) hx hb dX2_likeliestWorld_29 (by decide) (fun hb4 => ?_) (fun hb4 => ?_)
    · have hf := ifT hb4 hf
      obtain ⟨v6, ev6⟩ : ∃ z : Int32, z = q1.2.2 + 1 := ⟨_, rfl⟩
      have hf := bnd_at v6 ev6 hf
      refine lv_iinc (v := v6) (lv' := [(3, .int v6), (0, .ref (a h)), (1, .int q1.1), (2, .int q1.2.1)]) hx hb dX2_likeliestWorld_65 hl (k := 3) rfl (by rw [ev6]; rfl) (by decide) rfl (fun ls hl => ?_)
      refine lv_goto (tgt := 6) hx hb dX2_likeliestWorld_68 (by decide) ?_
      exact ihk2 _ hf _ _ _ (lv_sub hl [1, 2, 3, 0] rfl) hP hS
    · have hf := ifF hb4 hf
      refine lv_aload_n hx hb dX2_likeliestWorld_32 rfl (lv_at hl 0 rfl) ?_
      refine zg_X2_23 hx hb C hP (lth0 hh) (lay_h0 hh) rfl dX2_likeliestWorld_33 ?_
      refine zg_X2_137 hx hb C hP (lth hh 7 (by decide)) (lay_h7 hh) rfl dX2_likeliestWorld_36 ?_
      refine lv_iload_n hx hb dX2_likeliestWorld_39 rfl (lv_at hl 3 rfl) ?_
      obtain ⟨hc6, hf⟩ := chk_some hf
      refine zz_iald hx hb C hP (lth hh 9 (by decide)) (lay_h9 hh) (inb_vp hc6) dX2_likeliestWorld_40 ?_
      refine lv_iload_n hx hb dX2_likeliestWorld_41 rfl (lv_at hl 2 rfl) ?_
      refine lv_icmp_le (tgt := 65) hx hb dX2_likeliestWorld_42 (by decide) (fun hb7 => ?_) (fun hb7 => ?_)
      · have hf := ifT hb7 hf
        obtain ⟨v9, ev9⟩ : ∃ z : Int32, z = q1.2.2 + 1 := ⟨_, rfl⟩
        have hf := bnd_at v9 ev9 hf
        refine lv_iinc (v := v9) (lv' := [(3, .int v9), (0, .ref (a h)), (1, .int q1.1), (2, .int q1.2.1)]) hx hb dX2_likeliestWorld_65 hl (k := 3) rfl (by rw [ev9]; rfl) (by decide) rfl (fun ls hl => ?_)
        refine lv_goto (tgt := 6) hx hb dX2_likeliestWorld_68 (by decide) ?_
        exact ihk2 _ hf _ _ _ (lv_sub hl [1, 2, 3, 0] rfl) hP hS
      · have hf := ifF hb7 hf
        refine lv_aload_n hx hb dX2_likeliestWorld_45 rfl (lv_at hl 0 rfl) ?_
        refine zg_X2_23 hx hb C hP (lth0 hh) (lay_h0 hh) rfl dX2_likeliestWorld_46 ?_
        refine zg_X2_137 hx hb C hP (lth hh 7 (by decide)) (lay_h7 hh) rfl dX2_likeliestWorld_49 ?_
        refine lv_iload_n hx hb dX2_likeliestWorld_52 rfl (lv_at hl 3 rfl) ?_
        obtain ⟨hc9, hf⟩ := chk_some hf
        refine zz_iald hx hb C hP (lth hh 9 (by decide)) (lay_h9 hh) (inb_vp hc9) dX2_likeliestWorld_53 ?_
        refine lv_topi (fun v11 ev11 => ?_)
        have hf := bnd_at v11 ev11 hf
        refine lv_istore_n (lv' := [(2, .int v11), (0, .ref (a h)), (1, .int q1.1), (3, .int q1.2.2)]) hx hb dX2_likeliestWorld_54 rfl hl (by decide) rfl (fun ls hl => ?_)
        refine lv_aload_n hx hb dX2_likeliestWorld_55 rfl (lv_at hl 1 rfl) ?_
        refine zg_X2_23 hx hb C hP (lth0 hh) (lay_h0 hh) rfl dX2_likeliestWorld_56 ?_
        refine zg_X2_94 hx hb C hP (lth hh 7 (by decide)) (lay_h7 hh) rfl dX2_likeliestWorld_59 ?_
        refine lv_iload_n hx hb dX2_likeliestWorld_62 rfl (lv_at hl 3 rfl) ?_
        obtain ⟨hc11, hf⟩ := chk_some hf
        refine zz_iald hx hb C hP (lth hh 8 (by decide)) (lay_h8 hh) (inb_vp hc11) dX2_likeliestWorld_63 ?_
        refine lv_topi (fun v13 ev13 => ?_)
        have hf := bnd_at v13 ev13 hf
        refine lv_istore_n (lv' := [(1, .int v13), (2, .int v11), (0, .ref (a h)), (3, .int q1.2.2)]) hx hb dX2_likeliestWorld_64 rfl hl (by decide) rfl (fun ls hl => ?_)
        obtain ⟨v14, ev14⟩ : ∃ z : Int32, z = q1.2.2 + 1 := ⟨_, rfl⟩
        have hf := bnd_at v14 ev14 hf
        refine lv_iinc (v := v14) (lv' := [(3, .int v14), (1, .int v13), (2, .int v11), (0, .ref (a h))]) hx hb dX2_likeliestWorld_65 hl (k := 3) rfl (by rw [ev14]; rfl) (by decide) rfl (fun ls hl => ?_)
        refine lv_goto (tgt := 6) hx hb dX2_likeliestWorld_68 (by decide) ?_
        exact ihk2 _ hf _ _ _ (lv_sub hl [3, 1, 2, 0] rfl) hP hS
set_option maxHeartbeats 4000000 in
set_option maxRecDepth 100000 in
theorem c_X2_draw (l : Launch) {D : va_G} {a : Nat → Nat} {cA : Nat → ClassId} {A : Nat → Prop} {sa : Nat → Nat} (hDA : DA a A) {σ : PH} {d : PD} {h : Nat} (hh : isHall h) (p1 : Int32) {u : Int32 × PH} (hf : f_X2_draw σ h p1 = some u) : CTi l yX2_draw cX2_draw 2 (some .int) 0 0 D a cA A sa [.ref (a h), .int p1] σ d u.1 u.2 d := by
  refine zz_metI zpl_X2 hDA (Nat.le_of_ble_eq_true rfl) ?_
  intro p e R s m args below meth c Q ls hx hb hml C hRf hRl hQ hP hS hl
  have hl : lv_has ls 2 [(0, .ref (a h)), (1, .int p1)] := hl
  unfold f_X2_draw at hf
  refine lv_aload_n hx hb dX2_draw_0 rfl (lv_at hl 0 rfl) ?_
  refine lv_aload_n hx hb dX2_draw_1 rfl (lv_at hl 0 rfl) ?_
  refine zg_X2_38 hx hb C hP (lth0 hh) (lay_h0 hh) rfl dX2_draw_2 ?_
  refine lv_ldc (v := 1103515245) hx hb C.1 (C.2.1 _ kk_X2_167) dX2_draw_5 ?_
  refine lv_imul hx hb dX2_draw_7 ?_
  refine lv_sipush (v := 12345) hx hb dX2_draw_8 (by decide) ?_
  refine lv_iadd hx hb dX2_draw_11 ?_
  refine zp_X2_38 hx hb C hP hS (lth0 hh) (lay_h0 hh) rfl dX2_draw_12 (fun σ1 eσ1 H locs hP hS => ?_)
  have hf := bnd_at σ1 eσ1 hf
  refine lv_iload_n hx hb dX2_draw_15 rfl (lv_at hl 1 rfl) ?_
  refine lv_if_le (tgt := 31) hx hb dX2_draw_16 (by decide) (fun hb1 => ?_) (fun hb1 => ?_)
  · have hf := ifT hb1 hf
    refine lv_iconst (v := 0) hx hb dX2_draw_31 (by decide) ?_
    have hf := Option.some.inj hf
    subst hf
    exact hQ _ _ _ _ dX2_draw_32 hP hS
  · have hf := ifF hb1 hf
    refine lv_aload_n hx hb dX2_draw_19 rfl (lv_at hl 0 rfl) ?_
    refine zg_X2_38 hx hb C hP (lth0 hh) (lay_h0 hh) rfl dX2_draw_20 ?_
    refine lv_bipush (v := 16) hx hb dX2_draw_23 (by decide) ?_
    refine lv_iushr (v := ((gI σ1 h 5).toUInt32 >>> ((16 : Int32).toUInt32 &&& Int32.toUInt32 31)).toInt32) hx hb dX2_draw_25 rfl ?_
    refine lv_iload_n hx hb dX2_draw_26 rfl (lv_at hl 1 rfl) ?_
    obtain ⟨hc3, hf⟩ := chk_some hf
    refine lv_irem hx hb dX2_draw_27 hc3 ?_
    refine lv_goto (tgt := 32) hx hb dX2_draw_28 (by decide) ?_
    have hf := Option.some.inj hf
    subst hf
    exact hQ _ _ _ _ dX2_draw_32 hP hS
set_option maxHeartbeats 4000000 in
set_option maxRecDepth 100000 in
theorem c_X2_evening (l : Launch) {D : va_G} {a : Nat → Nat} {cA : Nat → ClassId} {A : Nat → Prop} {sa : Nat → Nat} (hDA : DA a A) {σ : PH} {d : PD} {h : Nat} (hh : isHall h) {u : Int32 × PH} (hf : f_X2_evening σ h = some u) : CTi l yX2_evening cX2_evening 3 (some .int) 5 133 D a cA A sa [.ref (a h)] σ d u.1 u.2 d := by
  refine zz_metI zpl_X2 hDA (Nat.le_of_ble_eq_true rfl) ?_
  intro p e R s m args below meth c Q ls hx hb hml C hRf hRl hQ hP hS hl
  have hl : lv_has ls 3 [(0, .ref (a h))] := hl
  unfold f_X2_evening at hf
  refine lv_aload_n hx hb dX2_evening_0 rfl (lv_at hl 0 rfl) ?_
  refine lv_aload_n hx hb dX2_evening_1 rfl (lv_at hl 0 rfl) ?_
  refine lv_aload_n hx hb dX2_evening_2 rfl (lv_at hl 0 rfl) ?_
  refine zg_X2_23 hx hb C hP (lth0 hh) (lay_h0 hh) rfl dX2_evening_3 ?_
  refine zg_X2_91 hx hb C hP (lth hh 7 (by decide)) (lay_h7 hh) rfl dX2_evening_6 ?_
  obtain ⟨u1, hzu1, hf⟩ := obd_some hf
  refine zz_callVi (rest := [.ref (a h)]) hx hb hml C hP hS (c_X2_draw l hDA (h := h) hh (gI σ (h + 7) 3) hzu1) zw_X2_168 ⟨Nat.le_trans (Nat.le_of_ble_eq_true rfl) hRf, Nat.le_trans (Nat.le_of_ble_eq_true rfl) hRl⟩ (lth0 hh) (lay_h0 hh) rfl rfl hl.1 (Nat.le_of_ble_eq_true rfl) ⟨Nat.zero_le _, Nat.zero_le _⟩ rfl dX2_evening_9 (fun H locs hP hS => ?_)
  obtain ⟨u2, hzu2⟩ : ∃ z, z = f_X2_makeTrue u1.2 h u1.1 := ⟨_, rfl⟩
  have hf := bnd_at u2 hzu2 hf
  refine zz_callVv (rest := []) hx hb hml C hP hS (c_X2_makeTrue l hDA (h := h) hh u1.1 hzu2.symm) zw_X2_171 ⟨Nat.le_trans (Nat.le_of_ble_eq_true rfl) hRf, Nat.le_trans (Nat.le_of_ble_eq_true rfl) hRl⟩ (lth0 hh) (lay_h0 hh) rfl rfl hl.1 (Nat.le_of_ble_eq_true rfl) ⟨Nat.zero_le _, Nat.zero_le _⟩ rfl dX2_evening_12 (fun H locs hP hS => ?_)
  refine lv_iconst (v := 0) hx hb dX2_evening_15 (by decide) ?_
  refine lv_istore_n (lv' := [(1, .int 0), (0, .ref (a h))]) hx hb dX2_evening_16 rfl hl (by decide) rfl (fun ls hl => ?_)
  have hJ48 : ∀ (σ3 : PH), j_X2_evening_48 h σ3 = some u → ∀ (H : Heap) (locs : List Loc) (ls : Array Slot), lv_has ls 3 [(0, .ref (a h))] → va_P D vwCl (wl a cA σ3 d) H → va_S A s.heap H locs → W p l e R s m args below meth c H locs 0 0 Q (F0 m 48 ls []) := by
    intro σ3 hf H locs ls hl hP hS
    unfold j_X2_evening_48 at hf
    refine lv_goto (tgt := 67) hx hb dX2_evening_48 (by decide) ?_
    refine lv_aload_n hx hb dX2_evening_67 rfl (lv_at hl 0 rfl) ?_
    refine zg_X2_34 hx hb C hP (lth0 hh) (lay_h0 hh) rfl dX2_evening_68 ?_
    have hf := Option.some.inj hf
    subst hf
    exact hQ _ _ _ _ dX2_evening_71 hP hS
  refine loopN_ind (P := fun (q4 : Int32 × PH) => ∀ (H : Heap) (locs : List Loc) (ls : Array Slot), lv_has ls 3 [(0, .ref (a h)), (1, .int q4.1)] → va_P D vwCl (wl a cA q4.2 d) H → va_S A s.heap H locs → W p l e R s m args below meth c H locs 0 0 Q (F0 m 17 ls [])) ?_ _ _ hf _ _ _ (lv_sub hl [1, 0] rfl) hP hS
  intro k5 ihk5 q4 hf H locs ls hl hP hS
  unfold b_X2_evening_17 at hf
  refine lv_iload_n hx hb dX2_evening_17 rfl (lv_at hl 1 rfl) ?_
  refine lv_bipush (v := 16) hx hb dX2_evening_18 (by decide) ?_
  refine lv_icmp_ge (tgt := 67) hx hb dX2_evening_20 (by decide) (fun hb5 => ?_) (fun hb5 => ?_)
  · have hf := ifT hb5 hf
    refine lv_aload_n hx hb dX2_evening_67 rfl (lv_at hl 0 rfl) ?_
    refine zg_X2_34 hx hb C hP (lth0 hh) (lay_h0 hh) rfl dX2_evening_68 ?_
    have hf := Option.some.inj hf
    subst hf
    exact hQ _ _ _ _ dX2_evening_71 hP hS
  · have hf := ifF hb5 hf
    refine lv_aload_n hx hb dX2_evening_23 rfl (lv_at hl 0 rfl) ?_
    obtain ⟨u7, hzu7⟩ : ∃ z, z = f_X2_hasRoom q4.2 h := ⟨_, rfl⟩
    have hf := bnd_at u7 hzu7 hf
    refine zz_callVi (rest := []) hx hb hml C hP hS (c_X2_hasRoom l hDA (h := h) hh hzu7.symm) zw_X2_126 ⟨Nat.le_trans (Nat.le_of_ble_eq_true rfl) hRf, Nat.le_trans (Nat.le_of_ble_eq_true rfl) hRl⟩ (lth0 hh) (lay_h0 hh) rfl rfl hl.1 (Nat.le_of_ble_eq_true rfl) ⟨Nat.zero_le _, Nat.zero_le _⟩ rfl dX2_evening_24 (fun H locs hP hS => ?_)
    refine lv_if_eq (tgt := 67) hx hb dX2_evening_27 (by decide) (fun hb7 => ?_) (fun hb7 => ?_)
    · have hf := ifT hb7 hf
      refine lv_aload_n hx hb dX2_evening_67 rfl (lv_at hl 0 rfl) ?_
      refine zg_X2_34 hx hb C hP (lth0 hh) (lay_h0 hh) rfl dX2_evening_68 ?_
      have hf := Option.some.inj hf
      subst hf
      exact hQ _ _ _ _ dX2_evening_71 hP hS
    · have hf := ifF hb7 hf
      refine lv_aload_n hx hb dX2_evening_30 rfl (lv_at hl 0 rfl) ?_
      refine lv_aload_n hx hb dX2_evening_31 rfl (lv_at hl 0 rfl) ?_
      refine zg_X2_44 hx hb C hP (lth0 hh) (lay_h0 hh) rfl dX2_evening_32 ?_
      refine lv_aload_n hx hb dX2_evening_35 rfl (lv_at hl 0 rfl) ?_
      refine zg_X2_48 hx hb C hP (lth0 hh) (lay_h0 hh) rfl dX2_evening_36 ?_
      obtain ⟨u9, hzu9, hf⟩ := obd_some hf
      refine zz_callVi (rest := []) hx hb hml C hP hS (c_X2_best l hDA (h := h) hh (gJ q4.2 h 7) (gJ q4.2 h 8) hzu9) zw_X2_174 ⟨Nat.le_trans (Nat.le_of_ble_eq_true rfl) hRf, Nat.le_trans (Nat.le_of_ble_eq_true rfl) hRl⟩ (lth0 hh) (lay_h0 hh) rfl rfl hl.1 (Nat.le_of_ble_eq_true rfl) ⟨Nat.zero_le _, Nat.zero_le _⟩ rfl dX2_evening_39 (fun H locs hP hS => ?_)
      refine lv_istore_n (lv' := [(2, .int u9.1), (0, .ref (a h)), (1, .int q4.1)]) hx hb dX2_evening_42 rfl hl (by decide) rfl (fun ls hl => ?_)
      refine lv_iload_n hx hb dX2_evening_43 rfl (lv_at hl 0 rfl) ?_
      refine lv_iconst (v := (-1)) hx hb dX2_evening_44 (by decide) ?_
      refine lv_icmp_ne (tgt := 51) hx hb dX2_evening_45 (by decide) (fun hb9 => ?_) (fun hb9 => ?_)
      · have hf := ifF hb9 hf
        refine lv_aload_n hx hb dX2_evening_51 rfl (lv_at hl 1 rfl) ?_
        refine lv_iload_n hx hb dX2_evening_52 rfl (lv_at hl 0 rfl) ?_
        refine lv_aload_n hx hb dX2_evening_53 rfl (lv_at hl 1 rfl) ?_
        refine lv_iload_n hx hb dX2_evening_54 rfl (lv_at hl 0 rfl) ?_
        obtain ⟨u11, hzu11, hf⟩ := obd_some hf
        refine zz_callVi (rest := [.int u9.1, .ref (a h)]) hx hb hml C hP hS (c_X2_soundInTruth l hDA (h := h) hh u9.1 hzu11) zw_X2_177 ⟨Nat.le_trans (Nat.le_of_ble_eq_true rfl) hRf, Nat.le_trans (Nat.le_of_ble_eq_true rfl) hRl⟩ (lth0 hh) (lay_h0 hh) rfl rfl hl.1 (Nat.le_of_ble_eq_true rfl) ⟨Nat.zero_le _, Nat.zero_le _⟩ rfl dX2_evening_55 (fun H locs hP hS => ?_)
        obtain ⟨u12, hzu12, hf⟩ := obd_some hf
        refine zz_callVv (rest := []) hx hb hml C hP hS (c_X2_learn l hDA (h := h) hh u9.1 u11.1 hzu12) zw_X2_180 ⟨Nat.le_trans (Nat.le_of_ble_eq_true rfl) hRf, Nat.le_trans (Nat.le_of_ble_eq_true rfl) hRl⟩ (lth0 hh) (lay_h0 hh) rfl rfl hl.1 (Nat.le_of_ble_eq_true rfl) ⟨Nat.zero_le _, Nat.zero_le _⟩ rfl dX2_evening_58 (fun H locs hP hS => ?_)
        obtain ⟨v13, ev13⟩ : ∃ z : Int32, z = q4.1 + 1 := ⟨_, rfl⟩
        have hf := bnd_at v13 ev13 hf
        refine lv_iinc (v := v13) (lv' := [(1, .int v13), (2, .int u9.1), (0, .ref (a h))]) hx hb dX2_evening_61 hl (k := 2) rfl (by rw [ev13]; rfl) (by decide) rfl (fun ls hl => ?_)
        refine lv_goto (tgt := 17) hx hb dX2_evening_64 (by decide) ?_
        exact ihk5 _ hf _ _ _ (lv_sub hl [2, 0] rfl) hP hS
      · have hf := ifT hb9 hf
        exact hJ48 _ hf _ _ _ (lv_sub hl [1] rfl) hP hS
set_option maxHeartbeats 4000000 in
set_option maxRecDepth 100000 in
theorem c_X7_doubtAll (l : Launch) {D : va_G} {a : Nat → Nat} {cA : Nat → ClassId} {A : Nat → Prop} {sa : Nat → Nat} (hDA : DA a A) {σ : PH} {d : PD} {h : Nat} (hh : isHall h) {u : PH} (hf : f_X7_doubtAll σ h = some u) : CTv l yX7_doubtAll cX7_doubtAll 1 none 1 20 D a cA A sa [.ref (a (h + 7))] σ d u d := by
  refine zz_metV zpl_X7 hDA (Nat.le_of_ble_eq_true rfl) ?_
  intro p e R s m args below meth c Q ls hx hb hml C hRf hRl hQ hP hS hl
  have hl : lv_has ls 1 [(0, .ref (a (h + 7)))] := hl
  unfold f_X7_doubtAll at hf
  refine lv_aload_n hx hb dX7_doubtAll_0 rfl (lv_at hl 0 rfl) ?_
  refine zg_X7_41 hx hb C hP (lth hh 7 (by decide)) (lay_h7 hh) rfl dX7_doubtAll_1 ?_
  obtain ⟨u1, hzu1⟩ : ∃ z, z = f_X0_all σ h := ⟨_, rfl⟩
  have hf := bnd_at u1 hzu1 hf
  refine zz_callVi (rest := []) hx hb hml C hP hS (c_X0_all l hDA (h := h) hh hzu1.symm) zw_X7_51 ⟨Nat.le_trans (Nat.le_of_ble_eq_true rfl) hRf, Nat.le_trans (Nat.le_of_ble_eq_true rfl) hRl⟩ (lth hh 1 (by decide)) (lay_h1 hh) rfl rfl hl.1 (Nat.le_of_ble_eq_true rfl) ⟨Nat.zero_le _, Nat.zero_le _⟩ rfl dX7_doubtAll_4 (fun H locs hP hS => ?_)
  refine lv_sipush (v := 256) hx hb dX7_doubtAll_7 (by decide) ?_
  refine lv_icmp_ge (tgt := 26) hx hb dX7_doubtAll_10 (by decide) (fun hb1 => ?_) (fun hb1 => ?_)
  · have hf := ifT hb1 hf
    have hf := Option.some.inj hf
    subst hf
    exact hQ _ _ _ _ dX7_doubtAll_26 hP hS
  · have hf := ifF hb1 hf
    refine lv_aload_n hx hb dX7_doubtAll_13 rfl (lv_at hl 0 rfl) ?_
    refine zg_X7_37 hx hb C hP (lth hh 7 (by decide)) (lay_h7 hh) rfl dX7_doubtAll_14 ?_
    refine lv_aload_n hx hb dX7_doubtAll_17 rfl (lv_at hl 0 rfl) ?_
    refine zg_X7_41 hx hb C hP (lth hh 7 (by decide)) (lay_h7 hh) rfl dX7_doubtAll_18 ?_
    obtain ⟨u3, hzu3⟩ : ∃ z, z = f_X0_all σ h := ⟨_, rfl⟩
    have hf := bnd_at u3 hzu3 hf
    refine zz_callVi (rest := [.ref (a (h + 14))]) hx hb hml C hP hS (c_X0_all l hDA (h := h) hh hzu3.symm) zw_X7_51 ⟨Nat.le_trans (Nat.le_of_ble_eq_true rfl) hRf, Nat.le_trans (Nat.le_of_ble_eq_true rfl) hRl⟩ (lth hh 1 (by decide)) (lay_h1 hh) rfl rfl hl.1 (Nat.le_of_ble_eq_true rfl) ⟨Nat.zero_le _, Nat.zero_le _⟩ rfl dX7_doubtAll_21 (fun H locs hP hS => ?_)
    refine lv_iconst (v := 0) hx hb dX7_doubtAll_24 (by decide) ?_
    obtain ⟨hc3, hf⟩ := chk_some hf
    refine zz_zast hx hb C hP hS (lth hh 14 (by decide)) (lay_h14 hh) (inb_vp hc3) dX7_doubtAll_25 (fun σ5 eσ5 H locs hP hS => ?_)
    have hf := bnd_at σ5 eσ5 hf
    have hf := Option.some.inj hf
    subst hf
    exact hQ _ _ _ _ dX7_doubtAll_26 hP hS
set_option maxHeartbeats 4000000 in
set_option maxRecDepth 100000 in
theorem c_X2_exchangeForTrial (l : Launch) {D : va_G} {a : Nat → Nat} {cA : Nat → ClassId} {A : Nat → Prop} {sa : Nat → Nat} (hDA : DA a A) {σ : PH} {d : PD} {h : Nat} (hh : isHall h) (p1 : Int32) (p2 : Int32) {u : PH} (hf : f_X2_exchangeForTrial σ h p1 p2 = some u) : CTv l yX2_exchangeForTrial cX2_exchangeForTrial 3 none 2 44 D a cA A sa [.ref (a h), .int p1, .int p2] σ d u d := by
  refine zz_metV zpl_X2 hDA (Nat.le_of_ble_eq_true rfl) ?_
  intro p e R s m args below meth c Q ls hx hb hml C hRf hRl hQ hP hS hl
  have hl : lv_has ls 3 [(0, .ref (a h)), (1, .int p1), (2, .int p2)] := hl
  unfold f_X2_exchangeForTrial at hf
  refine lv_aload_n hx hb dX2_exchangeForTrial_0 rfl (lv_at hl 0 rfl) ?_
  refine zg_X2_12 hx hb C hP (lth0 hh) (lay_h0 hh) rfl dX2_exchangeForTrial_1 ?_
  refine lv_iload_n hx hb dX2_exchangeForTrial_4 rfl (lv_at hl 1 rfl) ?_
  refine lv_iload_n hx hb dX2_exchangeForTrial_5 rfl (lv_at hl 2 rfl) ?_
  obtain ⟨u1, hzu1, hf⟩ := obd_some hf
  refine zz_callVv (rest := []) hx hb hml C hP hS (c_X0_exchange l hDA (h := h) hh p1 p2 hzu1) zw_X2_87 ⟨Nat.le_trans (Nat.le_of_ble_eq_true rfl) hRf, Nat.le_trans (Nat.le_of_ble_eq_true rfl) hRl⟩ (lth hh 1 (by decide)) (lay_h1 hh) rfl rfl hl.1 (Nat.le_of_ble_eq_true rfl) ⟨Nat.zero_le _, Nat.zero_le _⟩ rfl dX2_exchangeForTrial_6 (fun H locs hP hS => ?_)
  refine lv_aload_n hx hb dX2_exchangeForTrial_9 rfl (lv_at hl 0 rfl) ?_
  refine zg_X2_23 hx hb C hP (lth0 hh) (lay_h0 hh) rfl dX2_exchangeForTrial_10 ?_
  obtain ⟨u2, hzu2, hf⟩ := obd_some hf
  refine zz_callVv (rest := []) hx hb hml C hP hS (c_X7_doubtAll l hDA (h := h) hh hzu2) zw_X2_183 ⟨Nat.le_trans (Nat.le_of_ble_eq_true rfl) hRf, Nat.le_trans (Nat.le_of_ble_eq_true rfl) hRl⟩ (lth hh 7 (by decide)) (lay_h7 hh) rfl rfl hl.1 (Nat.le_of_ble_eq_true rfl) ⟨Nat.zero_le _, Nat.zero_le _⟩ rfl dX2_exchangeForTrial_13 (fun H locs hP hS => ?_)
  have hf := Option.some.inj hf
  subst hf
  exact hQ _ _ _ _ dX2_exchangeForTrial_16 hP hS
set_option maxHeartbeats 4000000 in
set_option maxRecDepth 100000 in
theorem c_X7_isRightWhenAllSing (l : Launch) {D : va_G} {a : Nat → Nat} {cA : Nat → ClassId} {A : Nat → Prop} {sa : Nat → Nat} (hDA : DA a A) {σ : PH} {d : PD} {h : Nat} (hh : isHall h) (p1 : Int32) {u : Int32 × PH} (hf : f_X7_isRightWhenAllSing σ h p1 = some u) : CTi l yX7_isRightWhenAllSing cX7_isRightWhenAllSing 2 (some .boolean) 4 99 D a cA A sa [.ref (a (h + 7)), .int p1] σ d u.1 u.2 d := by
  refine zz_metZ zpl_X7 hDA (Nat.le_of_ble_eq_true rfl) ?_
  intro p e R s m args below meth c Q ls hx hb hml C hRf hRl hQ hP hS hl
  have hl : lv_has ls 2 [(0, .ref (a (h + 7))), (1, .int p1)] := hl
  unfold f_X7_isRightWhenAllSing at hf
  refine lv_aload_n hx hb dX7_isRightWhenAllSing_0 rfl (lv_at hl 0 rfl) ?_
  refine lv_aload_n hx hb dX7_isRightWhenAllSing_1 rfl (lv_at hl 0 rfl) ?_
  refine zg_X7_41 hx hb C hP (lth hh 7 (by decide)) (lay_h7 hh) rfl dX7_isRightWhenAllSing_2 ?_
  obtain ⟨u1, hzu1⟩ : ∃ z, z = f_X0_all σ h := ⟨_, rfl⟩
  have hf := bnd_at u1 hzu1 hf
  refine zz_callVi (rest := [.ref (a (h + 7))]) hx hb hml C hP hS (c_X0_all l hDA (h := h) hh hzu1.symm) zw_X7_51 ⟨Nat.le_trans (Nat.le_of_ble_eq_true rfl) hRf, Nat.le_trans (Nat.le_of_ble_eq_true rfl) hRl⟩ (lth hh 1 (by decide)) (lay_h1 hh) rfl rfl hl.1 (Nat.le_of_ble_eq_true rfl) ⟨Nat.zero_le _, Nat.zero_le _⟩ rfl dX7_isRightWhenAllSing_5 (fun H locs hP hS => ?_)
  refine lv_iload_n hx hb dX7_isRightWhenAllSing_8 rfl (lv_at hl 1 rfl) ?_
  obtain ⟨u2, hzu2, hf⟩ := obd_some hf
  refine zz_callVi (rest := []) hx hb hml C hP hS (c_X7_soundOf l hDA (h := h) hh u1 p1 hzu2) zw_X7_105 ⟨Nat.le_trans (Nat.le_of_ble_eq_true rfl) hRf, Nat.le_trans (Nat.le_of_ble_eq_true rfl) hRl⟩ (lth hh 7 (by decide)) (lay_h7 hh) rfl rfl hl.1 (Nat.le_of_ble_eq_true rfl) ⟨Nat.zero_le _, Nat.zero_le _⟩ rfl dX7_isRightWhenAllSing_9 (fun H locs hP hS => ?_)
  refine lv_if_ne (tgt := 19) hx hb dX7_isRightWhenAllSing_12 (by decide) (fun hb2 => ?_) (fun hb2 => ?_)
  · have hf := ifF hb2 hf
    refine lv_iconst (v := 0) hx hb dX7_isRightWhenAllSing_19 (by decide) ?_
    have hf := Option.some.inj hf
    subst hf
    exact hQ _ _ _ _ dX7_isRightWhenAllSing_20 (show narrow .boolean (.int 0) = .int 0 from rfl) hP hS
  · have hf := ifT hb2 hf
    refine lv_iconst (v := 1) hx hb dX7_isRightWhenAllSing_15 (by decide) ?_
    refine lv_goto (tgt := 20) hx hb dX7_isRightWhenAllSing_16 (by decide) ?_
    have hf := Option.some.inj hf
    subst hf
    exact hQ _ _ _ _ dX7_isRightWhenAllSing_20 (show narrow .boolean (.int 1) = .int 1 from rfl) hP hS
set_option maxHeartbeats 4000000 in
set_option maxRecDepth 100000 in
theorem c_X2_firstToChange (l : Launch) {D : va_G} {a : Nat → Nat} {cA : Nat → ClassId} {A : Nat → Prop} {sa : Nat → Nat} (hDA : DA a A) {σ : PH} {d : PD} {h : Nat} (hh : isHall h) {u : Int32 × PH} (hf : f_X2_firstToChange σ h = some u) : CTi l yX2_firstToChange cX2_firstToChange 5 (some .int) 5 120 D a cA A sa [.ref (a h)] σ d u.1 u.2 d := by
  refine zz_metI zpl_X2 hDA (Nat.le_of_ble_eq_true rfl) ?_
  intro p e R s m args below meth c Q ls hx hb hml C hRf hRl hQ hP hS hl
  have hl : lv_has ls 5 [(0, .ref (a h))] := hl
  unfold f_X2_firstToChange at hf
  refine lv_aload_n hx hb dX2_firstToChange_0 rfl (lv_at hl 0 rfl) ?_
  refine zg_X2_23 hx hb C hP (lth0 hh) (lay_h0 hh) rfl dX2_firstToChange_1 ?_
  refine lv_aload_n hx hb dX2_firstToChange_4 rfl (lv_at hl 0 rfl) ?_
  refine zg_X2_41 hx hb C hP (lth0 hh) (lay_h0 hh) rfl dX2_firstToChange_5 ?_
  obtain ⟨u1, hzu1, hf⟩ := obd_some hf
  refine zz_callVi (rest := []) hx hb hml C hP hS (c_X7_isRightWhenAllSing l hDA (h := h) hh (gI σ h 6) hzu1) zw_X2_186 ⟨Nat.le_trans (Nat.le_of_ble_eq_true rfl) hRf, Nat.le_trans (Nat.le_of_ble_eq_true rfl) hRl⟩ (lth hh 7 (by decide)) (lay_h7 hh) rfl rfl hl.1 (Nat.le_of_ble_eq_true rfl) ⟨Nat.zero_le _, Nat.zero_le _⟩ rfl dX2_firstToChange_8 (fun H locs hP hS => ?_)
  refine lv_istore_n (lv' := [(1, .int u1.1), (0, .ref (a h))]) hx hb dX2_firstToChange_11 rfl hl (by decide) rfl (fun ls hl => ?_)
  refine lv_iconst (v := (-1)) hx hb dX2_firstToChange_12 (by decide) ?_
  refine lv_istore_n (lv' := [(2, .int (-1)), (1, .int u1.1), (0, .ref (a h))]) hx hb dX2_firstToChange_13 rfl hl (by decide) rfl (fun ls hl => ?_)
  refine lv_iconst (v := 0) hx hb dX2_firstToChange_14 (by decide) ?_
  refine lv_istore_n (lv' := [(3, .int 0), (2, .int (-1)), (1, .int u1.1), (0, .ref (a h))]) hx hb dX2_firstToChange_15 rfl hl (by decide) rfl (fun ls hl => ?_)
  refine loopN_ind (P := fun (q2 : Int32 × Int32 × Int32 × PH) => ∀ (H : Heap) (locs : List Loc) (ls : Array Slot), lv_has ls 5 [(0, .ref (a h)), (1, .int q2.1), (2, .int q2.2.1), (3, .int q2.2.2.1)] → va_P D vwCl (wl a cA q2.2.2.2 d) H → va_S A s.heap H locs → W p l e R s m args below meth c H locs 0 0 Q (F0 m 16 ls [])) ?_ _ _ hf _ _ _ (lv_sub hl [3, 2, 1, 0] rfl) hP hS
  intro k3 ihk3 q2 hf H locs ls hl hP hS
  unfold b_X2_firstToChange_16 at hf
  refine lv_iload_n hx hb dX2_firstToChange_16 rfl (lv_at hl 3 rfl) ?_
  refine lv_aload_n hx hb dX2_firstToChange_17 rfl (lv_at hl 0 rfl) ?_
  refine zg_X2_12 hx hb C hP (lth0 hh) (lay_h0 hh) rfl dX2_firstToChange_18 ?_
  refine zg_X2_189 hx hb C hP (lth hh 1 (by decide)) (lay_h1 hh) rfl dX2_firstToChange_21 ?_
  refine lv_icmp_ge (tgt := 102) hx hb dX2_firstToChange_24 (by decide) (fun hb3 => ?_) (fun hb3 => ?_)
  · have hf := ifT hb3 hf
    refine lv_iload_n hx hb dX2_firstToChange_102 rfl (lv_at hl 2 rfl) ?_
    have hf := Option.some.inj hf
    subst hf
    exact hQ _ _ _ _ dX2_firstToChange_103 hP hS
  · have hf := ifF hb3 hf
    refine lv_iload_n hx hb dX2_firstToChange_27 rfl (lv_at hl 1 rfl) ?_
    refine lv_if_ne (tgt := 102) hx hb dX2_firstToChange_28 (by decide) (fun hb4 => ?_) (fun hb4 => ?_)
    · have hf := ifF hb4 hf
      refine lv_iload_n hx hb dX2_firstToChange_102 rfl (lv_at hl 2 rfl) ?_
      have hf := Option.some.inj hf
      subst hf
      exact hQ _ _ _ _ dX2_firstToChange_103 hP hS
    · have hf := ifT hb4 hf
      refine lv_iload_n hx hb dX2_firstToChange_31 rfl (lv_at hl 3 rfl) ?_
      refine lv_iconst (v := 1) hx hb dX2_firstToChange_32 (by decide) ?_
      refine lv_iadd hx hb dX2_firstToChange_33 ?_
      refine lv_topi (fun v6 ev6 => ?_)
      have hf := bnd_at v6 ev6 hf
      refine lv_istore (lv' := [(4, .int v6), (0, .ref (a h)), (1, .int q2.1), (2, .int q2.2.1), (3, .int q2.2.2.1)]) hx hb dX2_firstToChange_34 hl (by decide) rfl (fun ls hl => ?_)
      refine loopN_ind (P := fun (q7 : Int32 × Int32 × Int32 × PH) => ∀ (H : Heap) (locs : List Loc) (ls : Array Slot), lv_has ls 5 [(0, .ref (a h)), (1, .int q7.1), (2, .int q7.2.1), (3, .int q2.2.2.1), (4, .int q7.2.2.1)] → va_P D vwCl (wl a cA q7.2.2.2 d) H → va_S A s.heap H locs → W p l e R s m args below meth c H locs 0 0 Q (F0 m 36 ls [])) ?_ _ _ hf _ _ _ (lv_sub hl [1, 2, 3, 4, 0] rfl) hP hS
      intro k8 ihk8 q7 hf H locs ls hl hP hS
      unfold b_X2_firstToChange_36 at hf
      refine lv_iload hx hb dX2_firstToChange_36 (lv_at hl 4 rfl) ?_
      refine lv_aload_n hx hb dX2_firstToChange_38 rfl (lv_at hl 0 rfl) ?_
      refine zg_X2_12 hx hb C hP (lth0 hh) (lay_h0 hh) rfl dX2_firstToChange_39 ?_
      refine zg_X2_189 hx hb C hP (lth hh 1 (by decide)) (lay_h1 hh) rfl dX2_firstToChange_42 ?_
      refine lv_icmp_ge (tgt := 96) hx hb dX2_firstToChange_45 (by decide) (fun hb8 => ?_) (fun hb8 => ?_)
      · have hf := ifT hb8 hf
        obtain ⟨v10, ev10⟩ : ∃ z : Int32, z = q2.2.2.1 + 1 := ⟨_, rfl⟩
        have hf := bnd_at v10 ev10 hf
        refine lv_iinc (v := v10) (lv' := [(3, .int v10), (0, .ref (a h)), (1, .int q7.1), (2, .int q7.2.1), (4, .int q7.2.2.1)]) hx hb dX2_firstToChange_96 hl (k := 3) rfl (by rw [ev10]; rfl) (by decide) rfl (fun ls hl => ?_)
        refine lv_goto (tgt := 16) hx hb dX2_firstToChange_99 (by decide) ?_
        exact ihk3 _ hf _ _ _ (lv_sub hl [1, 2, 3, 0] rfl) hP hS
      · have hf := ifF hb8 hf
        refine lv_iload_n hx hb dX2_firstToChange_48 rfl (lv_at hl 1 rfl) ?_
        refine lv_if_ne (tgt := 96) hx hb dX2_firstToChange_49 (by decide) (fun hb10 => ?_) (fun hb10 => ?_)
        · have hf := ifF hb10 hf
          obtain ⟨v12, ev12⟩ : ∃ z : Int32, z = q2.2.2.1 + 1 := ⟨_, rfl⟩
          have hf := bnd_at v12 ev12 hf
          refine lv_iinc (v := v12) (lv' := [(3, .int v12), (0, .ref (a h)), (1, .int q7.1), (2, .int q7.2.1), (4, .int q7.2.2.1)]) hx hb dX2_firstToChange_96 hl (k := 3) rfl (by rw [ev12]; rfl) (by decide) rfl (fun ls hl => ?_)
          refine lv_goto (tgt := 16) hx hb dX2_firstToChange_99 (by decide) ?_
          exact ihk3 _ hf _ _ _ (lv_sub hl [1, 2, 3, 0] rfl) hP hS
        · have hf := ifT hb10 hf
          refine lv_aload_n hx hb dX2_firstToChange_52 rfl (lv_at hl 0 rfl) ?_
          refine lv_iload_n hx hb dX2_firstToChange_53 rfl (lv_at hl 3 rfl) ?_
          refine lv_iload hx hb dX2_firstToChange_54 (lv_at hl 4 rfl) ?_
          obtain ⟨u13, hzu13, hf⟩ := obd_some hf
          refine zz_callVv (rest := []) hx hb hml C hP hS (c_X2_exchangeForTrial l hDA (h := h) hh q2.2.2.1 q7.2.2.1 hzu13) zw_X2_190 ⟨Nat.le_trans (Nat.le_of_ble_eq_true rfl) hRf, Nat.le_trans (Nat.le_of_ble_eq_true rfl) hRl⟩ (lth0 hh) (lay_h0 hh) rfl rfl hl.1 (Nat.le_of_ble_eq_true rfl) ⟨Nat.zero_le _, Nat.zero_le _⟩ rfl dX2_firstToChange_56 (fun H locs hP hS => ?_)
          refine lv_aload_n hx hb dX2_firstToChange_59 rfl (lv_at hl 0 rfl) ?_
          refine zg_X2_23 hx hb C hP (lth0 hh) (lay_h0 hh) rfl dX2_firstToChange_60 ?_
          refine lv_aload_n hx hb dX2_firstToChange_63 rfl (lv_at hl 0 rfl) ?_
          refine zg_X2_41 hx hb C hP (lth0 hh) (lay_h0 hh) rfl dX2_firstToChange_64 ?_
          obtain ⟨u14, hzu14, hf⟩ := obd_some hf
          refine zz_callVi (rest := []) hx hb hml C hP hS (c_X7_isRightWhenAllSing l hDA (h := h) hh (gI u13 h 6) hzu14) zw_X2_186 ⟨Nat.le_trans (Nat.le_of_ble_eq_true rfl) hRf, Nat.le_trans (Nat.le_of_ble_eq_true rfl) hRl⟩ (lth hh 7 (by decide)) (lay_h7 hh) rfl rfl hl.1 (Nat.le_of_ble_eq_true rfl) ⟨Nat.zero_le _, Nat.zero_le _⟩ rfl dX2_firstToChange_67 (fun H locs hP hS => ?_)
          refine lv_istore_n (lv' := [(1, .int u14.1), (0, .ref (a h)), (2, .int q7.2.1), (3, .int q2.2.2.1), (4, .int q7.2.2.1)]) hx hb dX2_firstToChange_70 rfl hl (by decide) rfl (fun ls hl => ?_)
          refine lv_aload_n hx hb dX2_firstToChange_71 rfl (lv_at hl 1 rfl) ?_
          refine lv_iload_n hx hb dX2_firstToChange_72 rfl (lv_at hl 3 rfl) ?_
          refine lv_iload hx hb dX2_firstToChange_73 (lv_at hl 4 rfl) ?_
          obtain ⟨u15, hzu15, hf⟩ := obd_some hf
          refine zz_callVv (rest := []) hx hb hml C hP hS (c_X2_exchangeForTrial l hDA (h := h) hh q2.2.2.1 q7.2.2.1 hzu15) zw_X2_190 ⟨Nat.le_trans (Nat.le_of_ble_eq_true rfl) hRf, Nat.le_trans (Nat.le_of_ble_eq_true rfl) hRl⟩ (lth0 hh) (lay_h0 hh) rfl rfl hl.1 (Nat.le_of_ble_eq_true rfl) ⟨Nat.zero_le _, Nat.zero_le _⟩ rfl dX2_firstToChange_75 (fun H locs hP hS => ?_)
          refine lv_iload_n hx hb dX2_firstToChange_78 rfl (lv_at hl 0 rfl) ?_
          refine lv_if_eq (tgt := 90) hx hb dX2_firstToChange_79 (by decide) (fun hb15 => ?_) (fun hb15 => ?_)
          · have hf := ifT hb15 hf
            obtain ⟨v17, ev17⟩ : ∃ z : Int32, z = q7.2.2.1 + 1 := ⟨_, rfl⟩
            have hf := bnd_at v17 ev17 hf
            refine lv_iinc (v := v17) (lv' := [(4, .int v17), (1, .int u14.1), (0, .ref (a h)), (2, .int q7.2.1), (3, .int q2.2.2.1)]) hx hb dX2_firstToChange_90 hl (k := 4) rfl (by rw [ev17]; rfl) (by decide) rfl (fun ls hl => ?_)
            refine lv_goto (tgt := 36) hx hb dX2_firstToChange_93 (by decide) ?_
            exact ihk8 _ hf _ _ _ (lv_sub hl [2, 1, 3, 4, 0] rfl) hP hS
          · have hf := ifF hb15 hf
            refine lv_bipush (v := 100) hx hb dX2_firstToChange_82 (by decide) ?_
            refine lv_iload_n hx hb dX2_firstToChange_84 rfl (lv_at hl 3 rfl) ?_
            refine lv_imul hx hb dX2_firstToChange_85 ?_
            refine lv_iload hx hb dX2_firstToChange_86 (lv_at hl 4 rfl) ?_
            refine lv_iadd hx hb dX2_firstToChange_88 ?_
            refine lv_topi (fun v18 ev18 => ?_)
            have hf := bnd_at v18 ev18 hf
            refine lv_istore_n (lv' := [(2, .int v18), (1, .int u14.1), (0, .ref (a h)), (3, .int q2.2.2.1), (4, .int q7.2.2.1)]) hx hb dX2_firstToChange_89 rfl hl (by decide) rfl (fun ls hl => ?_)
            obtain ⟨v19, ev19⟩ : ∃ z : Int32, z = q7.2.2.1 + 1 := ⟨_, rfl⟩
            have hf := bnd_at v19 ev19 hf
            refine lv_iinc (v := v19) (lv' := [(4, .int v19), (2, .int v18), (1, .int u14.1), (0, .ref (a h)), (3, .int q2.2.2.1)]) hx hb dX2_firstToChange_90 hl (k := 4) rfl (by rw [ev19]; rfl) (by decide) rfl (fun ls hl => ?_)
            refine lv_goto (tgt := 36) hx hb dX2_firstToChange_93 (by decide) ?_
            exact ihk8 _ hf _ _ _ (lv_sub hl [3, 2, 1, 4, 0] rfl) hP hS
set_option maxHeartbeats 4000000 in
set_option maxRecDepth 100000 in
theorem c_X7_rightWhenAllSing (l : Launch) {D : va_G} {a : Nat → Nat} {cA : Nat → ClassId} {A : Nat → Prop} {sa : Nat → Nat} (hDA : DA a A) {σ : PH} {d : PD} {h : Nat} (hh : isHall h) {u : Int32 × PH} (hf : f_X7_rightWhenAllSing σ h = some u) : CTi l yX7_rightWhenAllSing cX7_rightWhenAllSing 1 (some .int) 4 102 D a cA A sa [.ref (a (h + 7))] σ d u.1 u.2 d := by
  refine zz_metI zpl_X7 hDA (Nat.le_of_ble_eq_true rfl) ?_
  intro p e R s m args below meth c Q ls hx hb hml C hRf hRl hQ hP hS hl
  have hl : lv_has ls 1 [(0, .ref (a (h + 7)))] := hl
  unfold f_X7_rightWhenAllSing at hf
  refine lv_aload_n hx hb dX7_rightWhenAllSing_0 rfl (lv_at hl 0 rfl) ?_
  refine zg_X7_20 hx hb C hP (lth hh 7 (by decide)) (lay_h7 hh) rfl dX7_rightWhenAllSing_1 ?_
  refine lv_aload_n hx hb dX7_rightWhenAllSing_4 rfl (lv_at hl 0 rfl) ?_
  refine lv_aload_n hx hb dX7_rightWhenAllSing_5 rfl (lv_at hl 0 rfl) ?_
  refine zg_X7_41 hx hb C hP (lth hh 7 (by decide)) (lay_h7 hh) rfl dX7_rightWhenAllSing_6 ?_
  obtain ⟨u1, hzu1⟩ : ∃ z, z = f_X0_all σ h := ⟨_, rfl⟩
  have hf := bnd_at u1 hzu1 hf
  refine zz_callVi (rest := [.ref (a (h + 7)), .int (gI σ (h + 7) 3)]) hx hb hml C hP hS (c_X0_all l hDA (h := h) hh hzu1.symm) zw_X7_51 ⟨Nat.le_trans (Nat.le_of_ble_eq_true rfl) hRf, Nat.le_trans (Nat.le_of_ble_eq_true rfl) hRl⟩ (lth hh 1 (by decide)) (lay_h1 hh) rfl rfl hl.1 (Nat.le_of_ble_eq_true rfl) ⟨Nat.zero_le _, Nat.zero_le _⟩ rfl dX7_rightWhenAllSing_9 (fun H locs hP hS => ?_)
  refine lv_aload_n hx hb dX7_rightWhenAllSing_12 rfl (lv_at hl 0 rfl) ?_
  obtain ⟨u2, hzu2⟩ : ∃ z, z = f_X7_allLow σ h := ⟨_, rfl⟩
  have hf := bnd_at u2 hzu2 hf
  refine zz_callVl (rest := [.int u1, .ref (a (h + 7)), .int (gI σ (h + 7) 3)]) hx hb hml C hP hS (c_X7_allLow l hDA (h := h) hh hzu2.symm) zw_X7_94 ⟨Nat.le_trans (Nat.le_of_ble_eq_true rfl) hRf, Nat.le_trans (Nat.le_of_ble_eq_true rfl) hRl⟩ (lth hh 7 (by decide)) (lay_h7 hh) rfl rfl hl.1 (Nat.le_of_ble_eq_true rfl) ⟨Nat.zero_le _, Nat.zero_le _⟩ rfl dX7_rightWhenAllSing_13 (fun H locs hP hS => ?_)
  refine lv_aload_n hx hb dX7_rightWhenAllSing_16 rfl (lv_at hl 0 rfl) ?_
  obtain ⟨u3, hzu3⟩ : ∃ z, z = f_X7_allHigh σ h := ⟨_, rfl⟩
  have hf := bnd_at u3 hzu3 hf
  refine zz_callVl (rest := [.long u2, .int u1, .ref (a (h + 7)), .int (gI σ (h + 7) 3)]) hx hb hml C hP hS (c_X7_allHigh l hDA (h := h) hh hzu3.symm) zw_X7_98 ⟨Nat.le_trans (Nat.le_of_ble_eq_true rfl) hRf, Nat.le_trans (Nat.le_of_ble_eq_true rfl) hRl⟩ (lth hh 7 (by decide)) (lay_h7 hh) rfl rfl hl.1 (Nat.le_of_ble_eq_true rfl) ⟨Nat.zero_le _, Nat.zero_le _⟩ rfl dX7_rightWhenAllSing_17 (fun H locs hP hS => ?_)
  obtain ⟨u4, hzu4, hf⟩ := obd_some hf
  refine zz_callVi (rest := [.int (gI σ (h + 7) 3)]) hx hb hml C hP hS (c_X7_wrongAmong l hDA (h := h) hh u1 u2 u3 hzu4) zw_X7_101 ⟨Nat.le_trans (Nat.le_of_ble_eq_true rfl) hRf, Nat.le_trans (Nat.le_of_ble_eq_true rfl) hRl⟩ (lth hh 7 (by decide)) (lay_h7 hh) rfl rfl hl.1 (Nat.le_of_ble_eq_true rfl) ⟨Nat.zero_le _, Nat.zero_le _⟩ rfl dX7_rightWhenAllSing_20 (fun H locs hP hS => ?_)
  refine lv_isub hx hb dX7_rightWhenAllSing_23 ?_
  have hf := Option.some.inj hf
  subst hf
  exact hQ _ _ _ _ dX7_rightWhenAllSing_24 hP hS
set_option maxHeartbeats 4000000 in
set_option maxRecDepth 100000 in
theorem c_X2_mostQuiet (l : Launch) {D : va_G} {a : Nat → Nat} {cA : Nat → ClassId} {A : Nat → Prop} {sa : Nat → Nat} (hDA : DA a A) {σ : PH} {d : PD} {h : Nat} (hh : isHall h) {u : Int32 × PH} (hf : f_X2_mostQuiet σ h = some u) : CTi l yX2_mostQuiet cX2_mostQuiet 4 (some .int) 5 122 D a cA A sa [.ref (a h)] σ d u.1 u.2 d := by
  refine zz_metI zpl_X2 hDA (Nat.le_of_ble_eq_true rfl) ?_
  intro p e R s m args below meth c Q ls hx hb hml C hRf hRl hQ hP hS hl
  have hl : lv_has ls 4 [(0, .ref (a h))] := hl
  unfold f_X2_mostQuiet at hf
  refine lv_aload_n hx hb dX2_mostQuiet_0 rfl (lv_at hl 0 rfl) ?_
  refine zg_X2_23 hx hb C hP (lth0 hh) (lay_h0 hh) rfl dX2_mostQuiet_1 ?_
  obtain ⟨u1, hzu1, hf⟩ := obd_some hf
  refine zz_callVi (rest := []) hx hb hml C hP hS (c_X7_rightWhenAllSing l hDA (h := h) hh hzu1) zw_X2_193 ⟨Nat.le_trans (Nat.le_of_ble_eq_true rfl) hRf, Nat.le_trans (Nat.le_of_ble_eq_true rfl) hRl⟩ (lth hh 7 (by decide)) (lay_h7 hh) rfl rfl hl.1 (Nat.le_of_ble_eq_true rfl) ⟨Nat.zero_le _, Nat.zero_le _⟩ rfl dX2_mostQuiet_4 (fun H locs hP hS => ?_)
  refine lv_istore_n (lv' := [(1, .int u1.1), (0, .ref (a h))]) hx hb dX2_mostQuiet_7 rfl hl (by decide) rfl (fun ls hl => ?_)
  refine lv_iconst (v := 0) hx hb dX2_mostQuiet_8 (by decide) ?_
  refine lv_istore_n (lv' := [(2, .int 0), (1, .int u1.1), (0, .ref (a h))]) hx hb dX2_mostQuiet_9 rfl hl (by decide) rfl (fun ls hl => ?_)
  refine loopN_ind (P := fun (q2 : Int32 × Int32 × PH) => ∀ (H : Heap) (locs : List Loc) (ls : Array Slot), lv_has ls 4 [(0, .ref (a h)), (1, .int q2.1), (2, .int q2.2.1)] → va_P D vwCl (wl a cA q2.2.2 d) H → va_S A s.heap H locs → W p l e R s m args below meth c H locs 0 0 Q (F0 m 10 ls [])) ?_ _ _ hf _ _ _ (lv_sub hl [2, 1, 0] rfl) hP hS
  intro k3 ihk3 q2 hf H locs ls hl hP hS
  unfold b_X2_mostQuiet_10 at hf
  refine lv_iload_n hx hb dX2_mostQuiet_10 rfl (lv_at hl 2 rfl) ?_
  refine lv_aload_n hx hb dX2_mostQuiet_11 rfl (lv_at hl 0 rfl) ?_
  refine zg_X2_12 hx hb C hP (lth0 hh) (lay_h0 hh) rfl dX2_mostQuiet_12 ?_
  refine zg_X2_189 hx hb C hP (lth hh 1 (by decide)) (lay_h1 hh) rfl dX2_mostQuiet_15 ?_
  refine lv_icmp_ge (tgt := 72) hx hb dX2_mostQuiet_18 (by decide) (fun hb3 => ?_) (fun hb3 => ?_)
  · have hf := ifT hb3 hf
    refine lv_iload_n hx hb dX2_mostQuiet_72 rfl (lv_at hl 1 rfl) ?_
    have hf := Option.some.inj hf
    subst hf
    exact hQ _ _ _ _ dX2_mostQuiet_73 hP hS
  · have hf := ifF hb3 hf
    refine lv_iload_n hx hb dX2_mostQuiet_21 rfl (lv_at hl 2 rfl) ?_
    refine lv_iconst (v := 1) hx hb dX2_mostQuiet_22 (by decide) ?_
    refine lv_iadd hx hb dX2_mostQuiet_23 ?_
    refine lv_topi (fun v5 ev5 => ?_)
    have hf := bnd_at v5 ev5 hf
    refine lv_istore_n (lv' := [(3, .int v5), (0, .ref (a h)), (1, .int q2.1), (2, .int q2.2.1)]) hx hb dX2_mostQuiet_24 rfl hl (by decide) rfl (fun ls hl => ?_)
    refine loopN_ind (P := fun (q6 : Int32 × Int32 × PH) => ∀ (H : Heap) (locs : List Loc) (ls : Array Slot), lv_has ls 4 [(0, .ref (a h)), (1, .int q6.1), (2, .int q2.2.1), (3, .int q6.2.1)] → va_P D vwCl (wl a cA q6.2.2 d) H → va_S A s.heap H locs → W p l e R s m args below meth c H locs 0 0 Q (F0 m 25 ls [])) ?_ _ _ hf _ _ _ (lv_sub hl [1, 2, 3, 0] rfl) hP hS
    intro k7 ihk7 q6 hf H locs ls hl hP hS
    unfold b_X2_mostQuiet_25 at hf
    refine lv_iload_n hx hb dX2_mostQuiet_25 rfl (lv_at hl 3 rfl) ?_
    refine lv_aload_n hx hb dX2_mostQuiet_26 rfl (lv_at hl 0 rfl) ?_
    refine zg_X2_12 hx hb C hP (lth0 hh) (lay_h0 hh) rfl dX2_mostQuiet_27 ?_
    refine zg_X2_189 hx hb C hP (lth hh 1 (by decide)) (lay_h1 hh) rfl dX2_mostQuiet_30 ?_
    refine lv_icmp_ge (tgt := 66) hx hb dX2_mostQuiet_33 (by decide) (fun hb7 => ?_) (fun hb7 => ?_)
    · have hf := ifT hb7 hf
      obtain ⟨v9, ev9⟩ : ∃ z : Int32, z = q2.2.1 + 1 := ⟨_, rfl⟩
      have hf := bnd_at v9 ev9 hf
      refine lv_iinc (v := v9) (lv' := [(2, .int v9), (0, .ref (a h)), (1, .int q6.1), (3, .int q6.2.1)]) hx hb dX2_mostQuiet_66 hl (k := 2) rfl (by rw [ev9]; rfl) (by decide) rfl (fun ls hl => ?_)
      refine lv_goto (tgt := 10) hx hb dX2_mostQuiet_69 (by decide) ?_
      exact ihk3 _ hf _ _ _ (lv_sub hl [1, 2, 0] rfl) hP hS
    · have hf := ifF hb7 hf
      refine lv_aload_n hx hb dX2_mostQuiet_36 rfl (lv_at hl 0 rfl) ?_
      refine lv_iload_n hx hb dX2_mostQuiet_37 rfl (lv_at hl 2 rfl) ?_
      refine lv_iload_n hx hb dX2_mostQuiet_38 rfl (lv_at hl 3 rfl) ?_
      obtain ⟨u10, hzu10, hf⟩ := obd_some hf
      refine zz_callVv (rest := []) hx hb hml C hP hS (c_X2_exchangeForTrial l hDA (h := h) hh q2.2.1 q6.2.1 hzu10) zw_X2_190 ⟨Nat.le_trans (Nat.le_of_ble_eq_true rfl) hRf, Nat.le_trans (Nat.le_of_ble_eq_true rfl) hRl⟩ (lth0 hh) (lay_h0 hh) rfl rfl hl.1 (Nat.le_of_ble_eq_true rfl) ⟨Nat.zero_le _, Nat.zero_le _⟩ rfl dX2_mostQuiet_39 (fun H locs hP hS => ?_)
      refine lv_iload_n hx hb dX2_mostQuiet_42 rfl (lv_at hl 1 rfl) ?_
      refine lv_aload_n hx hb dX2_mostQuiet_43 rfl (lv_at hl 0 rfl) ?_
      refine zg_X2_23 hx hb C hP (lth0 hh) (lay_h0 hh) rfl dX2_mostQuiet_44 ?_
      obtain ⟨u11, hzu11, hf⟩ := obd_some hf
      refine zz_callVi (rest := [.int q6.1]) hx hb hml C hP hS (c_X7_rightWhenAllSing l hDA (h := h) hh hzu11) zw_X2_193 ⟨Nat.le_trans (Nat.le_of_ble_eq_true rfl) hRf, Nat.le_trans (Nat.le_of_ble_eq_true rfl) hRl⟩ (lth hh 7 (by decide)) (lay_h7 hh) rfl rfl hl.1 (Nat.le_of_ble_eq_true rfl) ⟨Nat.zero_le _, Nat.zero_le _⟩ rfl dX2_mostQuiet_47 (fun H locs hP hS => ?_)
      refine zz_max hx hb (hml.trans hl.1.symm) C km_X2_162 kt_Lib_Math_max_name kn_J9 kc_Lib_Math_max_name (Nat.le_trans (by decide) hRf) (Nat.le_trans (Nat.le_of_ble_eq_true rfl) hRl) ⟨Nat.zero_le _, Nat.zero_le _⟩ dX2_mostQuiet_50 ?_
      refine lv_topi (fun v12 ev12 => ?_)
      have hf := bnd_at v12 ev12 hf
      refine lv_istore_n (lv' := [(1, .int v12), (0, .ref (a h)), (2, .int q2.2.1), (3, .int q6.2.1)]) hx hb dX2_mostQuiet_53 rfl hl (by decide) rfl (fun ls hl => ?_)
      refine lv_aload_n hx hb dX2_mostQuiet_54 rfl (lv_at hl 1 rfl) ?_
      refine lv_iload_n hx hb dX2_mostQuiet_55 rfl (lv_at hl 2 rfl) ?_
      refine lv_iload_n hx hb dX2_mostQuiet_56 rfl (lv_at hl 3 rfl) ?_
      obtain ⟨u13, hzu13, hf⟩ := obd_some hf
      refine zz_callVv (rest := []) hx hb hml C hP hS (c_X2_exchangeForTrial l hDA (h := h) hh q2.2.1 q6.2.1 hzu13) zw_X2_190 ⟨Nat.le_trans (Nat.le_of_ble_eq_true rfl) hRf, Nat.le_trans (Nat.le_of_ble_eq_true rfl) hRl⟩ (lth0 hh) (lay_h0 hh) rfl rfl hl.1 (Nat.le_of_ble_eq_true rfl) ⟨Nat.zero_le _, Nat.zero_le _⟩ rfl dX2_mostQuiet_57 (fun H locs hP hS => ?_)
      obtain ⟨v14, ev14⟩ : ∃ z : Int32, z = q6.2.1 + 1 := ⟨_, rfl⟩
      have hf := bnd_at v14 ev14 hf
      refine lv_iinc (v := v14) (lv' := [(3, .int v14), (1, .int v12), (0, .ref (a h)), (2, .int q2.2.1)]) hx hb dX2_mostQuiet_60 hl (k := 3) rfl (by rw [ev14]; rfl) (by decide) rfl (fun ls hl => ?_)
      refine lv_goto (tgt := 25) hx hb dX2_mostQuiet_63 (by decide) ?_
      exact ihk7 _ hf _ _ _ (lv_sub hl [2, 1, 3, 0] rfl) hP hS
set_option maxHeartbeats 4000000 in
set_option maxRecDepth 100000 in
theorem c_X3_begin (l : Launch) {D : va_G} {a : Nat → Nat} {cA : Nat → ClassId} {A : Nat → Prop} {sa : Nat → Nat} (hDA : DA a A) {σ : PH} {d : PD} {sh1 : Nat} (hsh1 : isShelf sh1) {u : PH} (hf : f_X3_begin σ = u) : CTv l yX3_begin cX3_begin 2 none 0 0 D a cA A sa [.ref (a 5), .ref (a sh1)] σ d u (d.1, d.2.1, some sh1) := by
  refine zz_metV zpl_X3 hDA (Nat.le_of_ble_eq_true rfl) ?_
  intro p e R s m args below meth c Q ls hx hb hml C hRf hRl hQ hP hS hl
  have hl : lv_has ls 2 [(0, .ref (a 5)), (1, .ref (a sh1))] := hl
  unfold f_X3_begin at hf
  refine lv_aload_n hx hb dX3_begin_0 rfl (lv_at hl 0 rfl) ?_
  refine lv_aload_n hx hb dX3_begin_1 rfl (lv_at hl 1 rfl) ?_
  refine zp_text hx hb C hP hS (lts0 hsh1) dX3_begin_2 (fun H locs hP hS => ?_)
  refine lv_aload_n hx hb dX3_begin_5 rfl (lv_at hl 0 rfl) ?_
  refine lv_iconst (v := 0) hx hb dX3_begin_6 (by decide) ?_
  refine zp_X3_19 hx hb C hP hS (by decide) lay_5 rfl dX3_begin_7 (fun σ1 eσ1 H locs hP hS => ?_)
  have hf := bnd_at σ1 eσ1 hf
  refine lv_aload_n hx hb dX3_begin_10 rfl (lv_at hl 0 rfl) ?_
  refine lv_iconst (v := (-1)) hx hb dX3_begin_11 (by decide) ?_
  refine zp_X3_23 hx hb C hP hS (by decide) lay_5 rfl dX3_begin_12 (fun σ2 eσ2 H locs hP hS => ?_)
  have hf := bnd_at σ2 eσ2 hf
  subst hf
  exact hQ _ _ _ _ dX3_begin_15 hP hS
set_option maxHeartbeats 4000000 in
set_option maxRecDepth 100000 in
theorem c_X4_hasElement (l : Launch) {D : va_G} {a : Nat → Nat} {cA : Nat → ClassId} {A : Nat → Prop} {sa : Nat → Nat} (hDA : DA a A) {σ : PH} {d : PD} {sh0 : Nat} (hsh0 : isShelf sh0) (p1 : Int32) {u : Int32} (hf : f_X4_hasElement σ sh0 p1 = u) : CTi l yX4_hasElement cX4_hasElement 2 (some .boolean) 0 0 D a cA A sa [.ref (a sh0), .int p1] σ d u σ d := by
  refine zz_metZ zpl_X4 hDA (Nat.le_of_ble_eq_true rfl) ?_
  intro p e R s m args below meth c Q ls hx hb hml C hRf hRl hQ hP hS hl
  have hl : lv_has ls 2 [(0, .ref (a sh0)), (1, .int p1)] := hl
  unfold f_X4_hasElement at hf
  refine lv_iload_n hx hb dX4_hasElement_0 rfl (lv_at hl 1 rfl) ?_
  refine lv_if_lt (tgt := 16) hx hb dX4_hasElement_1 (by decide) (fun hb0 => ?_) (fun hb0 => ?_)
  · have hf := ifT hb0 hf
    refine lv_iconst (v := 0) hx hb dX4_hasElement_16 (by decide) ?_
    subst hf
    exact hQ _ _ _ _ dX4_hasElement_17 (show narrow .boolean (.int 0) = .int 0 from rfl) hP hS
  · have hf := ifF hb0 hf
    refine lv_iload_n hx hb dX4_hasElement_4 rfl (lv_at hl 1 rfl) ?_
    refine lv_aload_n hx hb dX4_hasElement_5 rfl (lv_at hl 0 rfl) ?_
    refine zg_X4_15 hx hb C hP (lts0 hsh0) (lay_s0 hsh0) rfl dX4_hasElement_6 ?_
    refine lv_icmp_ge (tgt := 16) hx hb dX4_hasElement_9 (by decide) (fun hb1 => ?_) (fun hb1 => ?_)
    · have hf := ifT hb1 hf
      refine lv_iconst (v := 0) hx hb dX4_hasElement_16 (by decide) ?_
      subst hf
      exact hQ _ _ _ _ dX4_hasElement_17 (show narrow .boolean (.int 0) = .int 0 from rfl) hP hS
    · have hf := ifF hb1 hf
      refine lv_iconst (v := 1) hx hb dX4_hasElement_12 (by decide) ?_
      refine lv_goto (tgt := 17) hx hb dX4_hasElement_13 (by decide) ?_
      subst hf
      exact hQ _ _ _ _ dX4_hasElement_17 (show narrow .boolean (.int 1) = .int 1 from rfl) hP hS
set_option maxHeartbeats 4000000 in
set_option maxRecDepth 100000 in
theorem c_X4_asInt (l : Launch) {D : va_G} {a : Nat → Nat} {cA : Nat → ClassId} {A : Nat → Prop} {sa : Nat → Nat} (hDA : DA a A) {σ : PH} {d : PD} {sh0 : Nat} (hsh0 : isShelf sh0) (p1 : Int32) {u : Int32} (hf : f_X4_asInt σ sh0 p1 = some u) : CTi l yX4_asInt cX4_asInt 2 (some .int) 1 21 D a cA A sa [.ref (a sh0), .int p1] σ d u σ d := by
  refine zz_metI zpl_X4 hDA (Nat.le_of_ble_eq_true rfl) ?_
  intro p e R s m args below meth c Q ls hx hb hml C hRf hRl hQ hP hS hl
  have hl : lv_has ls 2 [(0, .ref (a sh0)), (1, .int p1)] := hl
  unfold f_X4_asInt at hf
  refine lv_aload_n hx hb dX4_asInt_0 rfl (lv_at hl 0 rfl) ?_
  refine lv_iload_n hx hb dX4_asInt_1 rfl (lv_at hl 1 rfl) ?_
  obtain ⟨u1, hzu1⟩ : ∃ z, z = f_X4_hasElement σ sh0 p1 := ⟨_, rfl⟩
  have hf := bnd_at u1 hzu1 hf
  refine zz_callVi (rest := []) hx hb hml C hP hS (c_X4_hasElement l hDA (sh0 := sh0) hsh0 p1 hzu1.symm) zw_X4_31 ⟨Nat.le_trans (Nat.le_of_ble_eq_true rfl) hRf, Nat.le_trans (Nat.le_of_ble_eq_true rfl) hRl⟩ (lts0 hsh0) (lay_s0 hsh0) rfl rfl hl.1 (Nat.le_of_ble_eq_true rfl) ⟨Nat.zero_le _, Nat.zero_le _⟩ rfl dX4_asInt_2 (fun H locs hP hS => ?_)
  refine lv_if_eq (tgt := 18) hx hb dX4_asInt_5 (by decide) (fun hb1 => ?_) (fun hb1 => ?_)
  · have hf := ifT hb1 hf
    refine lv_iconst (v := (-1)) hx hb dX4_asInt_18 (by decide) ?_
    have hf := Option.some.inj hf
    subst hf
    exact hQ _ _ _ _ dX4_asInt_19 hP hS
  · have hf := ifF hb1 hf
    refine lv_aload_n hx hb dX4_asInt_8 rfl (lv_at hl 0 rfl) ?_
    refine zg_X4_18 hx hb C hP (lts0 hsh0) (lay_s0 hsh0) rfl dX4_asInt_9 ?_
    refine lv_iload_n hx hb dX4_asInt_12 rfl (lv_at hl 1 rfl) ?_
    obtain ⟨hc2, hf⟩ := chk_some hf
    refine zz_lald hx hb C hP (lts1 hsh0) (lay_s1 hsh0) (inb_vp hc2) dX4_asInt_13 ?_
    refine lv_l2i (v := (gJ σ (sh0 + 1) p1.toNatClampNeg).toInt32) hx hb dX4_asInt_14 rfl ?_
    refine lv_goto (tgt := 19) hx hb dX4_asInt_15 (by decide) ?_
    have hf := Option.some.inj hf
    subst hf
    exact hQ _ _ _ _ dX4_asInt_19 hP hS
set_option maxHeartbeats 4000000 in
set_option maxRecDepth 100000 in
theorem c_X3_sign (l : Launch) {D : va_G} {a : Nat → Nat} {cA : Nat → ClassId} {A : Nat → Prop} {sa : Nat → Nat} (hDA : DA a A) {σ : PH} {d : PD} {tx : Nat} (htx : d.2.2 = some tx) (hstx : isShelf tx) (p1 : Int32) {u : Int32} (hf : f_X3_sign σ tx p1 = some u) : CTi l yX3_sign cX3_sign 2 (some .int) 2 42 D a cA A sa [.ref (a 5), .int p1] σ d u σ d := by
  refine zz_metI zpl_X3 hDA (Nat.le_of_ble_eq_true rfl) ?_
  intro p e R s m args below meth c Q ls hx hb hml C hRf hRl hQ hP hS hl
  have hl : lv_has ls 2 [(0, .ref (a 5)), (1, .int p1)] := hl
  unfold f_X3_sign at hf
  refine lv_aload_n hx hb dX3_sign_0 rfl (lv_at hl 0 rfl) ?_
  refine zg_X3_15 hx hb C hP (by decide) lay_5 rfl htx dX3_sign_1 ?_
  refine lv_ifnonnull (tgt := 11) hx hb dX3_sign_4 (by decide) ?_
  refine lv_aload_n hx hb dX3_sign_11 rfl (lv_at hl 0 rfl) ?_
  refine zg_X3_15 hx hb C hP (by decide) lay_5 rfl htx dX3_sign_12 ?_
  refine lv_iload_n hx hb dX3_sign_15 rfl (lv_at hl 1 rfl) ?_
  obtain ⟨u1, hzu1, hf⟩ := obd_some hf
  refine zz_callVi (rest := []) hx hb hml C hP hS (c_X4_asInt l hDA (sh0 := tx) hstx p1 hzu1) zw_X3_35 ⟨Nat.le_trans (Nat.le_of_ble_eq_true rfl) hRf, Nat.le_trans (Nat.le_of_ble_eq_true rfl) hRl⟩ (lts0 hstx) (lay_s0 hstx) rfl rfl hl.1 (Nat.le_of_ble_eq_true rfl) ⟨Nat.zero_le _, Nat.zero_le _⟩ rfl dX3_sign_16 (fun H locs hP hS => ?_)
  have hf := Option.some.inj hf
  subst hf
  exact hQ _ _ _ _ dX3_sign_19 hP hS
set_option maxHeartbeats 4000000 in
set_option maxRecDepth 100000 in
theorem c_X3_fails (l : Launch) {D : va_G} {a : Nat → Nat} {cA : Nat → ClassId} {A : Nat → Prop} {sa : Nat → Nat} (hDA : DA a A) {σ : PH} {d : PD} (p1 : Int32) {u : Int32 × PH} (hf : f_X3_fails σ p1 = u) : CTi l yX3_fails cX3_fails 2 (some .boolean) 0 0 D a cA A sa [.ref (a 5), .int p1] σ d u.1 u.2 d := by
  refine zz_metZ zpl_X3 hDA (Nat.le_of_ble_eq_true rfl) ?_
  intro p e R s m args below meth c Q ls hx hb hml C hRf hRl hQ hP hS hl
  have hl : lv_has ls 2 [(0, .ref (a 5)), (1, .int p1)] := hl
  unfold f_X3_fails at hf
  refine lv_aload_n hx hb dX3_fails_0 rfl (lv_at hl 0 rfl) ?_
  refine lv_iload_n hx hb dX3_fails_1 rfl (lv_at hl 1 rfl) ?_
  refine zp_X3_23 hx hb C hP hS (by decide) lay_5 rfl dX3_fails_2 (fun σ1 eσ1 H locs hP hS => ?_)
  have hf := bnd_at σ1 eσ1 hf
  refine lv_iconst (v := 0) hx hb dX3_fails_5 (by decide) ?_
  subst hf
  exact hQ _ _ _ _ dX3_fails_6 (show narrow .boolean (.int 0) = .int 0 from rfl) hP hS
set_option maxHeartbeats 4000000 in
set_option maxRecDepth 100000 in
theorem c_X3_stands (l : Launch) {D : va_G} {a : Nat → Nat} {cA : Nat → ClassId} {A : Nat → Prop} {sa : Nat → Nat} (hDA : DA a A) {σ : PH} {d : PD} {tx : Nat} (htx : d.2.2 = some tx) (hstx : isShelf tx) (p1 : Int32) {u : Int32 × PH} (hf : f_X3_stands σ tx p1 = some u) : CTi l yX3_stands cX3_stands 2 (some .boolean) 3 63 D a cA A sa [.ref (a 5), .int p1] σ d u.1 u.2 d := by
  refine zz_metZ zpl_X3 hDA (Nat.le_of_ble_eq_true rfl) ?_
  intro p e R s m args below meth c Q ls hx hb hml C hRf hRl hQ hP hS hl
  have hl : lv_has ls 2 [(0, .ref (a 5)), (1, .int p1)] := hl
  unfold f_X3_stands at hf
  refine lv_aload_n hx hb dX3_stands_0 rfl (lv_at hl 0 rfl) ?_
  refine lv_aload_n hx hb dX3_stands_1 rfl (lv_at hl 0 rfl) ?_
  refine zg_X3_19 hx hb C hP (by decide) lay_5 rfl dX3_stands_2 ?_
  obtain ⟨u1, hzu1, hf⟩ := obd_some hf
  refine zz_callVi (rest := []) hx hb hml C hP hS (c_X3_sign l hDA htx hstx (gI σ 5 2) hzu1) zw_X3_39 ⟨Nat.le_trans (Nat.le_of_ble_eq_true rfl) hRf, Nat.le_trans (Nat.le_of_ble_eq_true rfl) hRl⟩ (by decide) lay_5 rfl rfl hl.1 (Nat.le_of_ble_eq_true rfl) ⟨Nat.zero_le _, Nat.zero_le _⟩ rfl dX3_stands_5 (fun H locs hP hS => ?_)
  refine lv_iload_n hx hb dX3_stands_8 rfl (lv_at hl 1 rfl) ?_
  refine lv_icmp_eq (tgt := 21) hx hb dX3_stands_9 (by decide) (fun hb1 => ?_) (fun hb1 => ?_)
  · have hf := ifT hb1 hf
    refine lv_aload_n hx hb dX3_stands_21 rfl (lv_at hl 0 rfl) ?_
    refine lv_dup hx hb dX3_stands_22 rfl ?_
    refine zg_X3_19 hx hb C hP (by decide) lay_5 rfl dX3_stands_23 ?_
    refine lv_iconst (v := 1) hx hb dX3_stands_26 (by decide) ?_
    refine lv_iadd hx hb dX3_stands_27 ?_
    refine zp_X3_19 hx hb C hP hS (by decide) lay_5 rfl dX3_stands_28 (fun σ3 eσ3 H locs hP hS => ?_)
    have hf := bnd_at σ3 eσ3 hf
    refine lv_iconst (v := 1) hx hb dX3_stands_31 (by decide) ?_
    have hf := Option.some.inj hf
    subst hf
    exact hQ _ _ _ _ dX3_stands_32 (show narrow .boolean (.int 1) = .int 1 from rfl) hP hS
  · have hf := ifF hb1 hf
    refine lv_aload_n hx hb dX3_stands_12 rfl (lv_at hl 0 rfl) ?_
    refine lv_aload_n hx hb dX3_stands_13 rfl (lv_at hl 0 rfl) ?_
    refine zg_X3_19 hx hb C hP (by decide) lay_5 rfl dX3_stands_14 ?_
    obtain ⟨u4, hzu4⟩ : ∃ z, z = f_X3_fails σ (gI σ 5 2) := ⟨_, rfl⟩
    have hf := bnd_at u4 hzu4 hf
    refine zz_callVi (rest := []) hx hb hml C hP hS (c_X3_fails l hDA (gI σ 5 2) hzu4.symm) zw_X3_42 ⟨Nat.le_trans (Nat.le_of_ble_eq_true rfl) hRf, Nat.le_trans (Nat.le_of_ble_eq_true rfl) hRl⟩ (by decide) lay_5 rfl rfl hl.1 (Nat.le_of_ble_eq_true rfl) ⟨Nat.zero_le _, Nat.zero_le _⟩ rfl dX3_stands_17 (fun H locs hP hS => ?_)
    obtain ⟨hc4, hf⟩ := chk_some hf
    have hf := Option.some.inj hf
    subst hf
    exact hQ _ _ _ _ dX3_stands_20 (show narrow .boolean (.int u4.1) = .int u4.1 from congrArg Value.int hc4) hP hS
set_option maxHeartbeats 4000000 in
set_option maxRecDepth 100000 in
theorem c_X3_goesOn (l : Launch) {D : va_G} {a : Nat → Nat} {cA : Nat → ClassId} {A : Nat → Prop} {sa : Nat → Nat} (hDA : DA a A) {σ : PH} {d : PD} {tx : Nat} (htx : d.2.2 = some tx) (hstx : isShelf tx)  {u : Int32 × PH} (hf : f_X3_goesOn σ tx = some u) : CTi l yX3_goesOn cX3_goesOn 1 (some .boolean) 4 84 D a cA A sa [.ref (a 5)] σ d u.1 u.2 d := by
  refine zz_metZ zpl_X3 hDA (Nat.le_of_ble_eq_true rfl) ?_
  intro p e R s m args below meth c Q ls hx hb hml C hRf hRl hQ hP hS hl
  have hl : lv_has ls 1 [(0, .ref (a 5))] := hl
  unfold f_X3_goesOn at hf
  refine lv_aload_n hx hb dX3_goesOn_0 rfl (lv_at hl 0 rfl) ?_
  refine zg_X3_15 hx hb C hP (by decide) lay_5 rfl htx dX3_goesOn_1 ?_
  refine lv_ifnull hx hb dX3_goesOn_4 ?_
  refine lv_aload_n hx hb dX3_goesOn_7 rfl (lv_at hl 0 rfl) ?_
  refine zg_X3_19 hx hb C hP (by decide) lay_5 rfl dX3_goesOn_8 ?_
  refine lv_aload_n hx hb dX3_goesOn_11 rfl (lv_at hl 0 rfl) ?_
  refine zg_X3_15 hx hb C hP (by decide) lay_5 rfl htx dX3_goesOn_12 ?_
  refine zg_X3_26 hx hb C hP (lts0 hstx) (lay_s0 hstx) rfl dX3_goesOn_15 ?_
  refine lv_icmp_ge (tgt := 34) hx hb dX3_goesOn_18 (by decide) (fun hb0 => ?_) (fun hb0 => ?_)
  · have hf := ifT hb0 hf
    refine lv_iconst (v := 0) hx hb dX3_goesOn_34 (by decide) ?_
    have hf := Option.some.inj hf
    subst hf
    exact hQ _ _ _ _ dX3_goesOn_35 (show narrow .boolean (.int 0) = .int 0 from rfl) hP hS
  · have hf := ifF hb0 hf
    refine lv_aload_n hx hb dX3_goesOn_21 rfl (lv_at hl 0 rfl) ?_
    refine lv_bipush (v := 59) hx hb dX3_goesOn_22 (by decide) ?_
    obtain ⟨u2, hzu2, hf⟩ := obd_some hf
    refine zz_callVi (rest := []) hx hb hml C hP hS (c_X3_stands l hDA htx hstx 59 hzu2) zw_X3_31 ⟨Nat.le_trans (Nat.le_of_ble_eq_true rfl) hRf, Nat.le_trans (Nat.le_of_ble_eq_true rfl) hRl⟩ (by decide) lay_5 rfl rfl hl.1 (Nat.le_of_ble_eq_true rfl) ⟨Nat.zero_le _, Nat.zero_le _⟩ rfl dX3_goesOn_24 (fun H locs hP hS => ?_)
    refine lv_if_eq (tgt := 34) hx hb dX3_goesOn_27 (by decide) (fun hb2 => ?_) (fun hb2 => ?_)
    · have hf := ifT hb2 hf
      refine lv_iconst (v := 0) hx hb dX3_goesOn_34 (by decide) ?_
      have hf := Option.some.inj hf
      subst hf
      exact hQ _ _ _ _ dX3_goesOn_35 (show narrow .boolean (.int 0) = .int 0 from rfl) hP hS
    · have hf := ifF hb2 hf
      refine lv_iconst (v := 1) hx hb dX3_goesOn_30 (by decide) ?_
      refine lv_goto (tgt := 35) hx hb dX3_goesOn_31 (by decide) ?_
      have hf := Option.some.inj hf
      subst hf
      exact hQ _ _ _ _ dX3_goesOn_35 (show narrow .boolean (.int 1) = .int 1 from rfl) hP hS
set_option maxHeartbeats 4000000 in
set_option maxRecDepth 100000 in
theorem c_X3_spelled (l : Launch) {D : va_G} {a : Nat → Nat} {cA : Nat → ClassId} {A : Nat → Prop} {sa : Nat → Nat} (hDA : DA a A) {σ : PH} {d : PD} (p1 : Int32) {u : Nat} (hf : f_X3_spelled p1 = u) : CTr l yX3_spelled cX3_spelled 1 (some (.object "java/lang/String")) 0 0 D a cA A sa [.int p1] σ d u σ d := by
  refine zz_metR zpl_X3 hDA (Nat.le_of_ble_eq_true rfl) ?_
  intro p e R s m args below meth c Q ls hx hb hml C hRf hRl hQ hP hS hl
  have hl : lv_has ls 1 [(0, .int p1)] := hl
  unfold f_X3_spelled at hf
  refine lv_iload_n hx hb dX3_spelled_0 rfl (lv_at hl 0 rfl) ?_
  by_cases hb0 : p1 = 0
  · have hf := ifT hb0 hf
    refine lv_tableIn (tgt := 40) hx hb dX3_spelled_1 (by rw [hb0]; decide) (by rw [hb0]; decide) (by rw [hb0]; rfl) (by decide) ?_
    refine va_ldcS hx hb C.1 (C.2.2.2.1.refs 0 (by decide)) dX3_spelled_40 ?_
    subst hf
    exact hQ _ _ _ _ dX3_spelled_42 hP hS
  have hf := ifF hb0 hf
  by_cases hb1 : p1 = 1
  · have hf := ifT hb1 hf
    refine lv_tableIn (tgt := 43) hx hb dX3_spelled_1 (by rw [hb1]; decide) (by rw [hb1]; decide) (by rw [hb1]; rfl) (by decide) ?_
    refine va_ldcS hx hb C.1 (C.2.2.2.1.refs 1 (by decide)) dX3_spelled_43 ?_
    subst hf
    exact hQ _ _ _ _ dX3_spelled_45 hP hS
  have hf := ifF hb1 hf
  by_cases hb2 : p1 = 2
  · have hf := ifT hb2 hf
    refine lv_tableIn (tgt := 46) hx hb dX3_spelled_1 (by rw [hb2]; decide) (by rw [hb2]; decide) (by rw [hb2]; rfl) (by decide) ?_
    refine va_ldcS hx hb C.1 (C.2.2.2.1.refs 2 (by decide)) dX3_spelled_46 ?_
    subst hf
    exact hQ _ _ _ _ dX3_spelled_48 hP hS
  have hf := ifF hb2 hf
  by_cases hb3 : p1 = 3
  · have hf := ifT hb3 hf
    refine lv_tableIn (tgt := 49) hx hb dX3_spelled_1 (by rw [hb3]; decide) (by rw [hb3]; decide) (by rw [hb3]; rfl) (by decide) ?_
    refine va_ldcS hx hb C.1 (C.2.2.2.1.refs 3 (by decide)) dX3_spelled_49 ?_
    subst hf
    exact hQ _ _ _ _ dX3_spelled_51 hP hS
  have hf := ifF hb3 hf
  by_cases hb4 : p1 = 4
  · have hf := ifT hb4 hf
    refine lv_tableIn (tgt := 52) hx hb dX3_spelled_1 (by rw [hb4]; decide) (by rw [hb4]; decide) (by rw [hb4]; rfl) (by decide) ?_
    refine va_ldcS hx hb C.1 (C.2.2.2.1.refs 4 (by decide)) dX3_spelled_52 ?_
    subst hf
    exact hQ _ _ _ _ dX3_spelled_54 hP hS
  have hf := ifF hb4 hf
  by_cases hb5 : p1 = 5
  · have hf := ifT hb5 hf
    refine lv_tableIn (tgt := 55) hx hb dX3_spelled_1 (by rw [hb5]; decide) (by rw [hb5]; decide) (by rw [hb5]; rfl) (by decide) ?_
    refine va_ldcS hx hb C.1 (C.2.2.2.1.refs 5 (by decide)) dX3_spelled_55 ?_
    subst hf
    exact hQ _ _ _ _ dX3_spelled_57 hP hS
  have hf := ifF hb5 hf
  refine lv_tableOut (tgt := 58) hx hb dX3_spelled_1 (sw_0_5 hb0 hb1 hb2 hb3 hb4 hb5) (by decide) ?_
  refine va_ldcS hx hb C.1 (C.2.2.2.1.refs 6 (by decide)) dX3_spelled_58 ?_
  subst hf
  exact hQ _ _ _ _ dX3_spelled_60 hP hS
set_option maxHeartbeats 4000000 in
set_option maxRecDepth 100000 in
theorem c_X3_readWord (l : Launch) {D : va_G} {a : Nat → Nat} {cA : Nat → ClassId} {A : Nat → Prop} {sa : Nat → Nat} (hDA : DA a A) {σ : PH} {d : PD} {tx : Nat} (htx : d.2.2 = some tx) (hstx : isShelf tx)  {u : Int32 × PH} (hf : f_X3_readWord σ tx = some u) : CTi l yX3_readWord cX3_readWord 5 (some .int) 4 85 D a cA A sa [.ref (a 5)] σ d u.1 u.2 d := by
  refine zz_metI zpl_X3 hDA (Nat.le_of_ble_eq_true rfl) ?_
  intro p e R s m args below meth c Q ls hx hb hml C hRf hRl hQ hP hS hl
  have hl : lv_has ls 5 [(0, .ref (a 5))] := hl
  unfold f_X3_readWord at hf
  refine lv_iconst (v := 0) hx hb dX3_readWord_0 (by decide) ?_
  refine lv_istore_n (lv' := [(1, .int 0), (0, .ref (a 5))]) hx hb dX3_readWord_1 rfl hl (by decide) rfl (fun ls hl => ?_)
  refine lv_iconst (v := 0) hx hb dX3_readWord_2 (by decide) ?_
  refine lv_istore_n (lv' := [(2, .int 0), (1, .int 0), (0, .ref (a 5))]) hx hb dX3_readWord_3 rfl hl (by decide) rfl (fun ls hl => ?_)
  have hJ88 : ∀ (v1 : Int32), j_X3_readWord_88 σ v1 = some u → ∀ (H : Heap) (locs : List Loc) (ls : Array Slot), lv_has ls 5 [(0, .ref (a 5)), (1, .int v1)] → va_P D vwCl (wl a cA σ d) H → va_S A s.heap H locs → W p l e R s m args below meth c H locs 0 0 Q (F0 m 88 ls []) := by
    intro v1 hf H locs ls hl hP hS
    unfold j_X3_readWord_88 at hf
    refine lv_aload_n hx hb dX3_readWord_88 rfl (lv_at hl 0 rfl) ?_
    refine lv_aload_n hx hb dX3_readWord_89 rfl (lv_at hl 0 rfl) ?_
    refine zg_X3_19 hx hb C hP (by decide) lay_5 rfl dX3_readWord_90 ?_
    refine lv_iload_n hx hb dX3_readWord_93 rfl (lv_at hl 1 rfl) ?_
    refine lv_iadd hx hb dX3_readWord_94 ?_
    refine zp_X3_23 hx hb C hP hS (by decide) lay_5 rfl dX3_readWord_95 (fun σ2 eσ2 H locs hP hS => ?_)
    have hf := bnd_at σ2 eσ2 hf
    refine lv_iconst (v := (-1)) hx hb dX3_readWord_98 (by decide) ?_
    have hf := Option.some.inj hf
    subst hf
    exact hQ _ _ _ _ dX3_readWord_99 hP hS
  have hJ62 : ∀ (v3 : Int32) (v4 : Int32), j_X3_readWord_62 σ v3 v4 = some u → ∀ (H : Heap) (locs : List Loc) (ls : Array Slot), lv_has ls 5 [(0, .ref (a 5)), (2, .int v3), (4, .int v4)] → va_P D vwCl (wl a cA σ d) H → va_S A s.heap H locs → W p l e R s m args below meth c H locs 0 0 Q (F0 m 62 ls []) := by
    intro v3 v4 hf H locs ls hl hP hS
    unfold j_X3_readWord_62 at hf
    refine lv_aload_n hx hb dX3_readWord_62 rfl (lv_at hl 0 rfl) ?_
    refine lv_dup hx hb dX3_readWord_63 rfl ?_
    refine zg_X3_19 hx hb C hP (by decide) lay_5 rfl dX3_readWord_64 ?_
    refine lv_iload hx hb dX3_readWord_67 (lv_at hl 2 rfl) ?_
    refine lv_iadd hx hb dX3_readWord_69 ?_
    refine zp_X3_19 hx hb C hP hS (by decide) lay_5 rfl dX3_readWord_70 (fun σ5 eσ5 H locs hP hS => ?_)
    have hf := bnd_at σ5 eσ5 hf
    refine lv_iload_n hx hb dX3_readWord_73 rfl (lv_at hl 1 rfl) ?_
    have hf := Option.some.inj hf
    subst hf
    exact hQ _ _ _ _ dX3_readWord_74 hP hS
  refine loopN_ind (P := fun (q6 : Int32 × Int32) => ∀ (H : Heap) (locs : List Loc) (ls : Array Slot), lv_has ls 5 [(0, .ref (a 5)), (1, .int q6.1), (2, .int q6.2)] → va_P D vwCl (wl a cA σ d) H → va_S A s.heap H locs → W p l e R s m args below meth c H locs 0 0 Q (F0 m 4 ls [])) ?_ _ _ hf _ _ _ (lv_sub hl [2, 1, 0] rfl) hP hS
  intro k7 ihk7 q6 hf H locs ls hl hP hS
  unfold b_X3_readWord_4 at hf
  refine lv_iload_n hx hb dX3_readWord_4 rfl (lv_at hl 2 rfl) ?_
  refine lv_bipush (v := 7) hx hb dX3_readWord_5 (by decide) ?_
  refine lv_icmp_ge (tgt := 88) hx hb dX3_readWord_7 (by decide) (fun hb7 => ?_) (fun hb7 => ?_)
  · have hf := ifT hb7 hf
    exact hJ88 _ hf _ _ _ (lv_sub hl [0, 1] rfl) hP hS
  · have hf := ifF hb7 hf
    refine lv_iload_n hx hb dX3_readWord_10 rfl (lv_at hl 2 rfl) ?_
    obtain ⟨u9, hzu9⟩ : ∃ z, z = f_X3_spelled q6.2 := ⟨_, rfl⟩
    have hf := bnd_at u9 hzu9 hf
    refine zz_callSr (rest := []) hx hb hml C hP hS (c_X3_spelled l hDA q6.2 hzu9.symm) zw_X3_91 ⟨Nat.le_trans (Nat.le_of_ble_eq_true rfl) hRf, Nat.le_trans (Nat.le_of_ble_eq_true rfl) hRl⟩  rfl hl.1 (Nat.le_of_ble_eq_true rfl) ⟨Nat.zero_le _, Nat.zero_le _⟩ rfl dX3_readWord_11 (fun H locs hP hS => ?_)
    have htu9 : u9 < 7 := by rw [hzu9]; exact spelled_lt _
    refine lv_astore_n (lv' := [(3, .ref (sa (5 + u9))), (0, .ref (a 5)), (1, .int q6.1), (2, .int q6.2)]) hx hb dX3_readWord_14 rfl hl (by decide) rfl (fun ls hl => ?_)
    refine lv_iconst (v := 0) hx hb dX3_readWord_15 (by decide) ?_
    refine lv_istore (lv' := [(4, .int 0), (3, .ref (sa (5 + u9))), (0, .ref (a 5)), (1, .int q6.1), (2, .int q6.2)]) hx hb dX3_readWord_16 hl (by decide) rfl (fun ls hl => ?_)
    have hJ53 : ∀ (v10 : Int32), j_X3_readWord_53 σ q6 k7 u9 v10 = some u → ∀ (H : Heap) (locs : List Loc) (ls : Array Slot), lv_has ls 5 [(0, .ref (a 5)), (1, .int q6.1), (2, .int q6.2), (3, .ref (sa (5 + u9))), (4, .int v10)] → va_P D vwCl (wl a cA σ d) H → va_S A s.heap H locs → W p l e R s m args below meth c H locs 0 0 Q (F0 m 53 ls []) := by
      intro v10 hf H locs ls hl hP hS
      unfold j_X3_readWord_53 at hf
      refine lv_iload hx hb dX3_readWord_53 (lv_at hl 4 rfl) ?_
      refine lv_aload_n hx hb dX3_readWord_55 rfl (lv_at hl 3 rfl) ?_
      refine zz_callTi (i := u9) (rest := [.int v10]) hx hb hml C hP hS (c_length l hDA htu9) zw_X3_95 ⟨Nat.le_trans (Nat.le_of_ble_eq_true rfl) hRf, Nat.le_trans (Nat.le_of_ble_eq_true rfl) hRl⟩ htu9 rfl rfl hl.1 (Nat.le_of_ble_eq_true rfl) ⟨Nat.zero_le _, Nat.zero_le _⟩ rfl dX3_readWord_56 (fun H locs hP hS => ?_)
      refine lv_icmp_ne (tgt := 75) hx hb dX3_readWord_59 (by decide) (fun hb10 => ?_) (fun hb10 => ?_)
      · have hf := ifF hb10 hf
        refine lv_iload_n hx hb dX3_readWord_75 rfl (lv_at hl 1 rfl) ?_
        refine lv_iload hx hb dX3_readWord_76 (lv_at hl 4 rfl) ?_
        refine zz_max hx hb (hml.trans hl.1.symm) C km_X3_103 kt_Lib_Math_max_name kn_J9 kc_Lib_Math_max_name (Nat.le_trans (by decide) hRf) (Nat.le_trans (Nat.le_of_ble_eq_true rfl) hRl) ⟨Nat.zero_le _, Nat.zero_le _⟩ dX3_readWord_78 ?_
        refine lv_topi (fun v12 ev12 => ?_)
        have hf := bnd_at v12 ev12 hf
        refine lv_istore_n (lv' := [(1, .int v12), (0, .ref (a 5)), (2, .int q6.2), (3, .ref (sa (5 + u9))), (4, .int v10)]) hx hb dX3_readWord_81 rfl hl (by decide) rfl (fun ls hl => ?_)
        obtain ⟨v13, ev13⟩ : ∃ z : Int32, z = q6.2 + 1 := ⟨_, rfl⟩
        have hf := bnd_at v13 ev13 hf
        refine lv_iinc (v := v13) (lv' := [(2, .int v13), (1, .int v12), (0, .ref (a 5)), (3, .ref (sa (5 + u9))), (4, .int v10)]) hx hb dX3_readWord_82 hl (k := 2) rfl (by rw [ev13]; rfl) (by decide) rfl (fun ls hl => ?_)
        refine lv_goto (tgt := 4) hx hb dX3_readWord_85 (by decide) ?_
        exact ihk7 _ hf _ _ _ (lv_sub hl [2, 1, 0] rfl) hP hS
      · have hf := ifT hb10 hf
        exact hJ62 _ _ hf _ _ _ (lv_sub hl [0, 2, 4] rfl) hP hS
    refine loopN_ind (P := fun (q14 : Int32) => ∀ (H : Heap) (locs : List Loc) (ls : Array Slot), lv_has ls 5 [(0, .ref (a 5)), (1, .int q6.1), (2, .int q6.2), (3, .ref (sa (5 + u9))), (4, .int q14)] → va_P D vwCl (wl a cA σ d) H → va_S A s.heap H locs → W p l e R s m args below meth c H locs 0 0 Q (F0 m 18 ls [])) ?_ _ _ hf _ _ _ (lv_sub hl [2, 3, 4, 1, 0] rfl) hP hS
    intro k15 ihk15 q14 hf H locs ls hl hP hS
    unfold b_X3_readWord_18 at hf
    refine lv_iload hx hb dX3_readWord_18 (lv_at hl 4 rfl) ?_
    refine lv_aload_n hx hb dX3_readWord_20 rfl (lv_at hl 3 rfl) ?_
    refine zz_callTi (i := u9) (rest := [.int q14]) hx hb hml C hP hS (c_length l hDA htu9) zw_X3_95 ⟨Nat.le_trans (Nat.le_of_ble_eq_true rfl) hRf, Nat.le_trans (Nat.le_of_ble_eq_true rfl) hRl⟩ htu9 rfl rfl hl.1 (Nat.le_of_ble_eq_true rfl) ⟨Nat.zero_le _, Nat.zero_le _⟩ rfl dX3_readWord_21 (fun H locs hP hS => ?_)
    refine lv_icmp_ge (tgt := 53) hx hb dX3_readWord_24 (by decide) (fun hb15 => ?_) (fun hb15 => ?_)
    · have hf := ifT hb15 hf
      exact hJ53 _ hf _ _ _ (lv_sub hl [0, 1, 2, 3, 4] rfl) hP hS
    · have hf := ifF hb15 hf
      refine lv_aload_n hx hb dX3_readWord_27 rfl (lv_at hl 0 rfl) ?_
      refine lv_aload_n hx hb dX3_readWord_28 rfl (lv_at hl 0 rfl) ?_
      refine zg_X3_19 hx hb C hP (by decide) lay_5 rfl dX3_readWord_29 ?_
      refine lv_iload hx hb dX3_readWord_32 (lv_at hl 4 rfl) ?_
      refine lv_iadd hx hb dX3_readWord_34 ?_
      obtain ⟨u17, hzu17, hf⟩ := obd_some hf
      refine zz_callVi (rest := []) hx hb hml C hP hS (c_X3_sign l hDA htx hstx ((gI σ 5 2) + q14) hzu17) zw_X3_39 ⟨Nat.le_trans (Nat.le_of_ble_eq_true rfl) hRf, Nat.le_trans (Nat.le_of_ble_eq_true rfl) hRl⟩ (by decide) lay_5 rfl rfl hl.1 (Nat.le_of_ble_eq_true rfl) ⟨Nat.zero_le _, Nat.zero_le _⟩ rfl dX3_readWord_35 (fun H locs hP hS => ?_)
      refine lv_aload_n hx hb dX3_readWord_38 rfl (lv_at hl 3 rfl) ?_
      refine lv_iload hx hb dX3_readWord_39 (lv_at hl 4 rfl) ?_
      obtain ⟨hc17, hf⟩ := chk_some hf
      refine zz_callTi (i := u9) (rest := [.int u17]) hx hb hml C hP hS (c_charAt l hDA htu9 (inb_vp hc17)) zw_X3_99 ⟨Nat.le_trans (Nat.le_of_ble_eq_true rfl) hRf, Nat.le_trans (Nat.le_of_ble_eq_true rfl) hRl⟩ htu9 rfl rfl hl.1 (Nat.le_of_ble_eq_true rfl) ⟨Nat.zero_le _, Nat.zero_le _⟩ rfl dX3_readWord_41 (fun H locs hP hS => ?_)
      refine lv_icmp_ne (tgt := 53) hx hb dX3_readWord_44 (by decide) (fun hb18 => ?_) (fun hb18 => ?_)
      · have hf := ifF hb18 hf
        exact hJ53 _ hf _ _ _ (lv_sub hl [0, 1, 2, 3, 4] rfl) hP hS
      · have hf := ifT hb18 hf
        obtain ⟨v20, ev20⟩ : ∃ z : Int32, z = q14 + 1 := ⟨_, rfl⟩
        have hf := bnd_at v20 ev20 hf
        refine lv_iinc (v := v20) (lv' := [(4, .int v20), (0, .ref (a 5)), (1, .int q6.1), (2, .int q6.2), (3, .ref (sa (5 + u9)))]) hx hb dX3_readWord_47 hl (k := 4) rfl (by rw [ev20]; rfl) (by decide) rfl (fun ls hl => ?_)
        refine lv_goto (tgt := 18) hx hb dX3_readWord_50 (by decide) ?_
        exact ihk15 _ hf _ _ _ (lv_sub hl [1, 2, 3, 4, 0] rfl) hP hS
set_option maxHeartbeats 4000000 in
set_option maxRecDepth 100000 in
theorem c_X3_readNumber (l : Launch) {D : va_G} {a : Nat → Nat} {cA : Nat → ClassId} {A : Nat → Prop} {sa : Nat → Nat} (hDA : DA a A) {σ : PH} {d : PD} {tx : Nat} (htx : d.2.2 = some tx) (hstx : isShelf tx) (p1 : Int32) {u : Int32 × PH} (hf : f_X3_readNumber σ tx p1 = some u) : CTi l yX3_readNumber cX3_readNumber 4 (some .boolean) 3 63 D a cA A sa [.ref (a 5), .int p1] σ d u.1 u.2 d := by
  refine zz_metZ zpl_X3 hDA (Nat.le_of_ble_eq_true rfl) ?_
  intro p e R s m args below meth c Q ls hx hb hml C hRf hRl hQ hP hS hl
  have hl : lv_has ls 4 [(0, .ref (a 5)), (1, .int p1)] := hl
  unfold f_X3_readNumber at hf
  refine lv_aload_n hx hb dX3_readNumber_0 rfl (lv_at hl 0 rfl) ?_
  refine zg_X3_19 hx hb C hP (by decide) lay_5 rfl dX3_readNumber_1 ?_
  refine lv_topi (fun v1 ev1 => ?_)
  have hf := bnd_at v1 ev1 hf
  refine lv_istore_n (lv' := [(2, .int v1), (0, .ref (a 5)), (1, .int p1)]) hx hb dX3_readNumber_4 rfl hl (by decide) rfl (fun ls hl => ?_)
  refine lv_iconst (v := 0) hx hb dX3_readNumber_5 (by decide) ?_
  refine lv_istore_n (lv' := [(3, .int 0), (2, .int v1), (0, .ref (a 5)), (1, .int p1)]) hx hb dX3_readNumber_6 rfl hl (by decide) rfl (fun ls hl => ?_)
  have hJ73 : ∀ (v2 : Int32) (σ3 : PH), j_X3_readNumber_73 p1 v1 v2 σ3 = some u → ∀ (H : Heap) (locs : List Loc) (ls : Array Slot), lv_has ls 4 [(0, .ref (a 5)), (1, .int p1), (2, .int v1), (3, .int v2)] → va_P D vwCl (wl a cA σ3 d) H → va_S A s.heap H locs → W p l e R s m args below meth c H locs 0 0 Q (F0 m 73 ls []) := by
    intro v2 σ3 hf H locs ls hl hP hS
    unfold j_X3_readNumber_73 at hf
    refine lv_aload_n hx hb dX3_readNumber_73 rfl (lv_at hl 0 rfl) ?_
    refine zg_X3_19 hx hb C hP (by decide) lay_5 rfl dX3_readNumber_74 ?_
    refine lv_iload_n hx hb dX3_readNumber_77 rfl (lv_at hl 2 rfl) ?_
    refine lv_icmp_eq (tgt := 94) hx hb dX3_readNumber_78 (by decide) (fun hb3 => ?_) (fun hb3 => ?_)
    · have hf := ifT hb3 hf
      refine lv_aload_n hx hb dX3_readNumber_94 rfl (lv_at hl 0 rfl) ?_
      refine lv_aload_n hx hb dX3_readNumber_95 rfl (lv_at hl 0 rfl) ?_
      refine zg_X3_19 hx hb C hP (by decide) lay_5 rfl dX3_readNumber_96 ?_
      obtain ⟨u5, hzu5⟩ : ∃ z, z = f_X3_fails σ3 (gI σ3 5 2) := ⟨_, rfl⟩
      have hf := bnd_at u5 hzu5 hf
      refine zz_callVi (rest := []) hx hb hml C hP hS (c_X3_fails l hDA (gI σ3 5 2) hzu5.symm) zw_X3_42 ⟨Nat.le_trans (Nat.le_of_ble_eq_true rfl) hRf, Nat.le_trans (Nat.le_of_ble_eq_true rfl) hRl⟩ (by decide) lay_5 rfl rfl hl.1 (Nat.le_of_ble_eq_true rfl) ⟨Nat.zero_le _, Nat.zero_le _⟩ rfl dX3_readNumber_99 (fun H locs hP hS => ?_)
      obtain ⟨hc5, hf⟩ := chk_some hf
      have hf := Option.some.inj hf
      subst hf
      exact hQ _ _ _ _ dX3_readNumber_102 (show narrow .boolean (.int u5.1) = .int u5.1 from congrArg Value.int hc5) hP hS
    · have hf := ifF hb3 hf
      refine lv_iload_n hx hb dX3_readNumber_81 rfl (lv_at hl 1 rfl) ?_
      refine lv_if_lt (tgt := 94) hx hb dX3_readNumber_82 (by decide) (fun hb6 => ?_) (fun hb6 => ?_)
      · have hf := ifT hb6 hf
        refine lv_aload_n hx hb dX3_readNumber_94 rfl (lv_at hl 0 rfl) ?_
        refine lv_aload_n hx hb dX3_readNumber_95 rfl (lv_at hl 0 rfl) ?_
        refine zg_X3_19 hx hb C hP (by decide) lay_5 rfl dX3_readNumber_96 ?_
        obtain ⟨u8, hzu8⟩ : ∃ z, z = f_X3_fails σ3 (gI σ3 5 2) := ⟨_, rfl⟩
        have hf := bnd_at u8 hzu8 hf
        refine zz_callVi (rest := []) hx hb hml C hP hS (c_X3_fails l hDA (gI σ3 5 2) hzu8.symm) zw_X3_42 ⟨Nat.le_trans (Nat.le_of_ble_eq_true rfl) hRf, Nat.le_trans (Nat.le_of_ble_eq_true rfl) hRl⟩ (by decide) lay_5 rfl rfl hl.1 (Nat.le_of_ble_eq_true rfl) ⟨Nat.zero_le _, Nat.zero_le _⟩ rfl dX3_readNumber_99 (fun H locs hP hS => ?_)
        obtain ⟨hc8, hf⟩ := chk_some hf
        have hf := Option.some.inj hf
        subst hf
        exact hQ _ _ _ _ dX3_readNumber_102 (show narrow .boolean (.int u8.1) = .int u8.1 from congrArg Value.int hc8) hP hS
      · have hf := ifF hb6 hf
        refine lv_iload_n hx hb dX3_readNumber_85 rfl (lv_at hl 1 rfl) ?_
        refine lv_aload_n hx hb dX3_readNumber_86 rfl (lv_at hl 0 rfl) ?_
        refine zg_X3_9 hx hb C hP (by decide) lay_5 rfl dX3_readNumber_87 ?_
        refine zz_alen (v := 3) hx hb C hP (by decide) lay_6 (by decide) dX3_readNumber_90 ?_
        refine lv_icmp_lt (tgt := 103) hx hb dX3_readNumber_91 (by decide) (fun hb9 => ?_) (fun hb9 => ?_)
        · have hf := ifT hb9 hf
          refine lv_aload_n hx hb dX3_readNumber_103 rfl (lv_at hl 0 rfl) ?_
          refine zg_X3_9 hx hb C hP (by decide) lay_5 rfl dX3_readNumber_104 ?_
          refine lv_iload_n hx hb dX3_readNumber_107 rfl (lv_at hl 1 rfl) ?_
          refine lv_iload_n hx hb dX3_readNumber_108 rfl (lv_at hl 3 rfl) ?_
          obtain ⟨hc10, hf⟩ := chk_some hf
          refine zz_iast hx hb C hP hS (by decide) lay_6 (inb_vp hc10) dX3_readNumber_109 (fun σ12 eσ12 H locs hP hS => ?_)
          have hf := bnd_at σ12 eσ12 hf
          refine lv_iconst (v := 1) hx hb dX3_readNumber_110 (by decide) ?_
          have hf := Option.some.inj hf
          subst hf
          exact hQ _ _ _ _ dX3_readNumber_111 (show narrow .boolean (.int 1) = .int 1 from rfl) hP hS
        · have hf := ifF hb9 hf
          refine lv_aload_n hx hb dX3_readNumber_94 rfl (lv_at hl 0 rfl) ?_
          refine lv_aload_n hx hb dX3_readNumber_95 rfl (lv_at hl 0 rfl) ?_
          refine zg_X3_19 hx hb C hP (by decide) lay_5 rfl dX3_readNumber_96 ?_
          obtain ⟨u13, hzu13⟩ : ∃ z, z = f_X3_fails σ3 (gI σ3 5 2) := ⟨_, rfl⟩
          have hf := bnd_at u13 hzu13 hf
          refine zz_callVi (rest := []) hx hb hml C hP hS (c_X3_fails l hDA (gI σ3 5 2) hzu13.symm) zw_X3_42 ⟨Nat.le_trans (Nat.le_of_ble_eq_true rfl) hRf, Nat.le_trans (Nat.le_of_ble_eq_true rfl) hRl⟩ (by decide) lay_5 rfl rfl hl.1 (Nat.le_of_ble_eq_true rfl) ⟨Nat.zero_le _, Nat.zero_le _⟩ rfl dX3_readNumber_99 (fun H locs hP hS => ?_)
          obtain ⟨hc13, hf⟩ := chk_some hf
          have hf := Option.some.inj hf
          subst hf
          exact hQ _ _ _ _ dX3_readNumber_102 (show narrow .boolean (.int u13.1) = .int u13.1 from congrArg Value.int hc13) hP hS
  refine loopN_ind (P := fun (q15 : Int32 × PH) => ∀ (H : Heap) (locs : List Loc) (ls : Array Slot), lv_has ls 4 [(0, .ref (a 5)), (1, .int p1), (2, .int v1), (3, .int q15.1)] → va_P D vwCl (wl a cA q15.2 d) H → va_S A s.heap H locs → W p l e R s m args below meth c H locs 0 0 Q (F0 m 7 ls [])) ?_ _ _ hf _ _ _ (lv_sub hl [2, 3, 1, 0] rfl) hP hS
  intro k16 ihk16 q15 hf H locs ls hl hP hS
  unfold b_X3_readNumber_7 at hf
  refine lv_aload_n hx hb dX3_readNumber_7 rfl (lv_at hl 0 rfl) ?_
  refine zg_X3_19 hx hb C hP (by decide) lay_5 rfl dX3_readNumber_8 ?_
  refine lv_iload_n hx hb dX3_readNumber_11 rfl (lv_at hl 2 rfl) ?_
  refine lv_isub hx hb dX3_readNumber_12 ?_
  refine lv_iconst (v := 3) hx hb dX3_readNumber_13 (by decide) ?_
  refine lv_icmp_ge (tgt := 73) hx hb dX3_readNumber_14 (by decide) (fun hb16 => ?_) (fun hb16 => ?_)
  · have hf := ifT hb16 hf
    exact hJ73 _ _ hf _ _ _ (lv_sub hl [0, 1, 2, 3] rfl) hP hS
  · have hf := ifF hb16 hf
    refine lv_aload_n hx hb dX3_readNumber_17 rfl (lv_at hl 0 rfl) ?_
    refine lv_aload_n hx hb dX3_readNumber_18 rfl (lv_at hl 0 rfl) ?_
    refine zg_X3_19 hx hb C hP (by decide) lay_5 rfl dX3_readNumber_19 ?_
    obtain ⟨u18, hzu18, hf⟩ := obd_some hf
    refine zz_callVi (rest := []) hx hb hml C hP hS (c_X3_sign l hDA htx hstx (gI q15.2 5 2) hzu18) zw_X3_39 ⟨Nat.le_trans (Nat.le_of_ble_eq_true rfl) hRf, Nat.le_trans (Nat.le_of_ble_eq_true rfl) hRl⟩ (by decide) lay_5 rfl rfl hl.1 (Nat.le_of_ble_eq_true rfl) ⟨Nat.zero_le _, Nat.zero_le _⟩ rfl dX3_readNumber_22 (fun H locs hP hS => ?_)
    refine lv_bipush (v := 48) hx hb dX3_readNumber_25 (by decide) ?_
    refine lv_icmp_lt (tgt := 73) hx hb dX3_readNumber_27 (by decide) (fun hb18 => ?_) (fun hb18 => ?_)
    · have hf := ifT hb18 hf
      exact hJ73 _ _ hf _ _ _ (lv_sub hl [0, 1, 2, 3] rfl) hP hS
    · have hf := ifF hb18 hf
      refine lv_aload_n hx hb dX3_readNumber_30 rfl (lv_at hl 0 rfl) ?_
      refine lv_aload_n hx hb dX3_readNumber_31 rfl (lv_at hl 0 rfl) ?_
      refine zg_X3_19 hx hb C hP (by decide) lay_5 rfl dX3_readNumber_32 ?_
      obtain ⟨u20, hzu20, hf⟩ := obd_some hf
      refine zz_callVi (rest := []) hx hb hml C hP hS (c_X3_sign l hDA htx hstx (gI q15.2 5 2) hzu20) zw_X3_39 ⟨Nat.le_trans (Nat.le_of_ble_eq_true rfl) hRf, Nat.le_trans (Nat.le_of_ble_eq_true rfl) hRl⟩ (by decide) lay_5 rfl rfl hl.1 (Nat.le_of_ble_eq_true rfl) ⟨Nat.zero_le _, Nat.zero_le _⟩ rfl dX3_readNumber_35 (fun H locs hP hS => ?_)
      refine lv_bipush (v := 57) hx hb dX3_readNumber_38 (by decide) ?_
      refine lv_icmp_gt (tgt := 73) hx hb dX3_readNumber_40 (by decide) (fun hb20 => ?_) (fun hb20 => ?_)
      · have hf := ifT hb20 hf
        exact hJ73 _ _ hf _ _ _ (lv_sub hl [0, 1, 2, 3] rfl) hP hS
      · have hf := ifF hb20 hf
        refine lv_bipush (v := 10) hx hb dX3_readNumber_43 (by decide) ?_
        refine lv_iload_n hx hb dX3_readNumber_45 rfl (lv_at hl 3 rfl) ?_
        refine lv_imul hx hb dX3_readNumber_46 ?_
        refine lv_aload_n hx hb dX3_readNumber_47 rfl (lv_at hl 0 rfl) ?_
        refine lv_aload_n hx hb dX3_readNumber_48 rfl (lv_at hl 0 rfl) ?_
        refine zg_X3_19 hx hb C hP (by decide) lay_5 rfl dX3_readNumber_49 ?_
        obtain ⟨u22, hzu22, hf⟩ := obd_some hf
        refine zz_callVi (rest := [.int (10 * q15.1)]) hx hb hml C hP hS (c_X3_sign l hDA htx hstx (gI q15.2 5 2) hzu22) zw_X3_39 ⟨Nat.le_trans (Nat.le_of_ble_eq_true rfl) hRf, Nat.le_trans (Nat.le_of_ble_eq_true rfl) hRl⟩ (by decide) lay_5 rfl rfl hl.1 (Nat.le_of_ble_eq_true rfl) ⟨Nat.zero_le _, Nat.zero_le _⟩ rfl dX3_readNumber_52 (fun H locs hP hS => ?_)
        refine lv_bipush (v := 48) hx hb dX3_readNumber_55 (by decide) ?_
        refine lv_isub hx hb dX3_readNumber_57 ?_
        refine lv_iadd hx hb dX3_readNumber_58 ?_
        refine lv_topi (fun v23 ev23 => ?_)
        have hf := bnd_at v23 ev23 hf
        refine lv_istore_n (lv' := [(3, .int v23), (0, .ref (a 5)), (1, .int p1), (2, .int v1)]) hx hb dX3_readNumber_59 rfl hl (by decide) rfl (fun ls hl => ?_)
        refine lv_aload_n hx hb dX3_readNumber_60 rfl (lv_at hl 1 rfl) ?_
        refine lv_dup hx hb dX3_readNumber_61 rfl ?_
        refine zg_X3_19 hx hb C hP (by decide) lay_5 rfl dX3_readNumber_62 ?_
        refine lv_iconst (v := 1) hx hb dX3_readNumber_65 (by decide) ?_
        refine lv_iadd hx hb dX3_readNumber_66 ?_
        refine zp_X3_19 hx hb C hP hS (by decide) lay_5 rfl dX3_readNumber_67 (fun σ24 eσ24 H locs hP hS => ?_)
        have hf := bnd_at σ24 eσ24 hf
        refine lv_goto (tgt := 7) hx hb dX3_readNumber_70 (by decide) ?_
        exact ihk16 _ hf _ _ _ (lv_sub hl [1, 2, 3, 0] rfl) hP hS
set_option maxHeartbeats 4000000 in
set_option maxRecDepth 100000 in
theorem c_X3_fits (l : Launch) {D : va_G} {a : Nat → Nat} {cA : Nat → ClassId} {A : Nat → Prop} {sa : Nat → Nat} (hDA : DA a A) {σ : PH} {d : PD} {h : Nat} (hh : isHall h) (p2 : Int32) (p3 : Int32) {u : Int32 × PH} (hf : f_X3_fits σ h p2 p3 = some u) : CTi l yX3_fits cX3_fits 5 (some .boolean) 5 124 D a cA A sa [.ref (a 5), .ref (a h), .int p2, .int p3] σ d u.1 u.2 d := by
  refine zz_metZ zpl_X3 hDA (Nat.le_of_ble_eq_true rfl) ?_
  intro p e R s m args below meth c Q ls hx hb hml C hRf hRl hQ hP hS hl
  have hl : lv_has ls 5 [(0, .ref (a 5)), (1, .ref (a h)), (2, .int p2), (3, .int p3)] := hl
  unfold f_X3_fits at hf
  refine lv_iload_n hx hb dX3_fits_0 rfl (lv_at hl 3 rfl) ?_
  have hJ23 : ∀ (v1 : Int32), j_X3_fits_23 σ h p2 p3 v1 = some u → ∀ (H : Heap) (locs : List Loc) (ls : Array Slot), lv_has ls 5 [(0, .ref (a 5)), (1, .ref (a h)), (2, .int p2), (3, .int p3)] → va_P D vwCl (wl a cA σ d) H → va_S A s.heap H locs → W p l e R s m args below meth c H locs 0 0 Q (F0 m 23 ls [.int v1]) := by
    intro v1 hf H locs ls hl hP hS
    unfold j_X3_fits_23 at hf
    refine lv_istore (lv' := [(4, .int v1), (0, .ref (a 5)), (1, .ref (a h)), (2, .int p2), (3, .int p3)]) hx hb dX3_fits_23 hl (by decide) rfl (fun ls hl => ?_)
    refine lv_iload_n hx hb dX3_fits_25 rfl (lv_at hl 3 rfl) ?_
    refine lv_if_ne (tgt := 60) hx hb dX3_fits_26 (by decide) (fun hb1 => ?_) (fun hb1 => ?_)
    · have hf := ifF hb1 hf
      refine lv_iload_n hx hb dX3_fits_60 rfl (lv_at hl 3 rfl) ?_
      refine lv_iconst (v := 4) hx hb dX3_fits_61 (by decide) ?_
      refine lv_icmp_gt (tgt := 74) hx hb dX3_fits_62 (by decide) (fun hb2 => ?_) (fun hb2 => ?_)
      · have hf := ifT hb2 hf
        refine lv_iload_n hx hb dX3_fits_74 rfl (lv_at hl 3 rfl) ?_
        refine lv_iconst (v := 5) hx hb dX3_fits_75 (by decide) ?_
        refine lv_icmp_ne (tgt := 108) hx hb dX3_fits_76 (by decide) (fun hb3 => ?_) (fun hb3 => ?_)
        · have hf := ifF hb3 hf
          refine lv_aload_n hx hb dX3_fits_108 rfl (lv_at hl 2 rfl) ?_
          refine zg_X3_50 hx hb C hP (lth0 hh) (lay_h0 hh) rfl dX3_fits_109 ?_
          refine lv_iload hx hb dX3_fits_112 (lv_at hl 0 rfl) ?_
          obtain ⟨u5, hzu5⟩ : ∃ z, z = f_X0_has σ h v1 := ⟨_, rfl⟩
          have hf := bnd_at u5 hzu5 hf
          refine zz_callVi (rest := []) hx hb hml C hP hS (c_X0_has l hDA (h := h) hh v1 hzu5.symm) zw_X3_128 ⟨Nat.le_trans (Nat.le_of_ble_eq_true rfl) hRf, Nat.le_trans (Nat.le_of_ble_eq_true rfl) hRl⟩ (lth hh 1 (by decide)) (lay_h1 hh) rfl rfl hl.1 (Nat.le_of_ble_eq_true rfl) ⟨Nat.zero_le _, Nat.zero_le _⟩ rfl dX3_fits_114 (fun H locs hP hS => ?_)
          refine lv_if_eq (tgt := 139) hx hb dX3_fits_117 (by decide) (fun hb5 => ?_) (fun hb5 => ?_)
          · have hf := ifT hb5 hf
            refine lv_iconst (v := 0) hx hb dX3_fits_139 (by decide) ?_
            have hf := Option.some.inj hf
            subst hf
            exact hQ _ _ _ _ dX3_fits_140 (show narrow .boolean (.int 0) = .int 0 from rfl) hP hS
          · have hf := ifF hb5 hf
            refine lv_iload_n hx hb dX3_fits_120 rfl (lv_at hl 4 rfl) ?_
            refine lv_if_eq (tgt := 135) hx hb dX3_fits_121 (by decide) (fun hb6 => ?_) (fun hb6 => ?_)
            · have hf := ifT hb6 hf
              refine lv_iconst (v := 1) hx hb dX3_fits_135 (by decide) ?_
              refine lv_goto (tgt := 140) hx hb dX3_fits_136 (by decide) ?_
              have hf := Option.some.inj hf
              subst hf
              exact hQ _ _ _ _ dX3_fits_140 (show narrow .boolean (.int 1) = .int 1 from rfl) hP hS
            · have hf := ifF hb6 hf
              refine lv_iload hx hb dX3_fits_124 (lv_at hl 0 rfl) ?_
              refine lv_aload_n hx hb dX3_fits_126 rfl (lv_at hl 1 rfl) ?_
              refine zg_X3_9 hx hb C hP (by decide) lay_5 rfl dX3_fits_127 ?_
              refine lv_iconst (v := 0) hx hb dX3_fits_130 (by decide) ?_
              refine zz_iald hx hb C hP (by decide) lay_6 (inb_vp (by decide)) dX3_fits_131 ?_
              refine lv_icmp_eq (tgt := 139) hx hb dX3_fits_132 (by decide) (fun hb7 => ?_) (fun hb7 => ?_)
              · have hf := ifT hb7 hf
                refine lv_iconst (v := 0) hx hb dX3_fits_139 (by decide) ?_
                have hf := Option.some.inj hf
                subst hf
                exact hQ _ _ _ _ dX3_fits_140 (show narrow .boolean (.int 0) = .int 0 from rfl) hP hS
              · have hf := ifF hb7 hf
                refine lv_iconst (v := 1) hx hb dX3_fits_135 (by decide) ?_
                refine lv_goto (tgt := 140) hx hb dX3_fits_136 (by decide) ?_
                have hf := Option.some.inj hf
                subst hf
                exact hQ _ _ _ _ dX3_fits_140 (show narrow .boolean (.int 1) = .int 1 from rfl) hP hS
        · have hf := ifT hb3 hf
          refine lv_iload_n hx hb dX3_fits_79 rfl (lv_at hl 4 rfl) ?_
          refine lv_if_ne (tgt := 95) hx hb dX3_fits_80 (by decide) (fun hb8 => ?_) (fun hb8 => ?_)
          · have hf := ifF hb8 hf
            refine lv_aload_n hx hb dX3_fits_95 rfl (lv_at hl 2 rfl) ?_
            refine lv_aload_n hx hb dX3_fits_96 rfl (lv_at hl 1 rfl) ?_
            refine zg_X3_9 hx hb C hP (by decide) lay_5 rfl dX3_fits_97 ?_
            refine lv_iconst (v := 0) hx hb dX3_fits_100 (by decide) ?_
            refine zz_iald hx hb C hP (by decide) lay_6 (inb_vp (by decide)) dX3_fits_101 ?_
            refine lv_iload hx hb dX3_fits_102 (lv_at hl 0 rfl) ?_
            obtain ⟨u10, hzu10, hf⟩ := obd_some hf
            refine zz_callVi (rest := []) hx hb hml C hP hS (c_X2_canSound l hDA (h := h) hh (gI σ 6 (0 : Int32).toNatClampNeg) v1 hzu10) zw_X3_125 ⟨Nat.le_trans (Nat.le_of_ble_eq_true rfl) hRf, Nat.le_trans (Nat.le_of_ble_eq_true rfl) hRl⟩ (lth0 hh) (lay_h0 hh) rfl rfl hl.1 (Nat.le_of_ble_eq_true rfl) ⟨Nat.zero_le _, Nat.zero_le _⟩ rfl dX3_fits_104 (fun H locs hP hS => ?_)
            obtain ⟨hc10, hf⟩ := chk_some hf
            have hf := Option.some.inj hf
            subst hf
            exact hQ _ _ _ _ dX3_fits_107 (show narrow .boolean (.int u10.1) = .int u10.1 from congrArg Value.int hc10) hP hS
          · have hf := ifT hb8 hf
            refine lv_aload_n hx hb dX3_fits_83 rfl (lv_at hl 2 rfl) ?_
            refine zg_X3_50 hx hb C hP (lth0 hh) (lay_h0 hh) rfl dX3_fits_84 ?_
            refine lv_iload hx hb dX3_fits_87 (lv_at hl 0 rfl) ?_
            obtain ⟨u12, hzu12⟩ : ∃ z, z = f_X0_isSet σ h v1 := ⟨_, rfl⟩
            have hf := bnd_at u12 hzu12 hf
            refine zz_callVi (rest := []) hx hb hml C hP hS (c_X0_isSet l hDA (h := h) hh v1 hzu12.symm) zw_X3_122 ⟨Nat.le_trans (Nat.le_of_ble_eq_true rfl) hRf, Nat.le_trans (Nat.le_of_ble_eq_true rfl) hRl⟩ (lth hh 1 (by decide)) (lay_h1 hh) rfl rfl hl.1 (Nat.le_of_ble_eq_true rfl) ⟨Nat.zero_le _, Nat.zero_le _⟩ rfl dX3_fits_89 (fun H locs hP hS => ?_)
            refine lv_goto (tgt := 107) hx hb dX3_fits_92 (by decide) ?_
            obtain ⟨hc12, hf⟩ := chk_some hf
            have hf := Option.some.inj hf
            subst hf
            exact hQ _ _ _ _ dX3_fits_107 (show narrow .boolean (.int u12) = .int u12 from congrArg Value.int hc12) hP hS
      · have hf := ifF hb2 hf
        refine lv_iload_n hx hb dX3_fits_65 rfl (lv_at hl 3 rfl) ?_
        refine lv_iconst (v := 1) hx hb dX3_fits_66 (by decide) ?_
        refine lv_isub hx hb dX3_fits_67 ?_
        refine lv_iload hx hb dX3_fits_68 (lv_at hl 0 rfl) ?_
        obtain ⟨u14, hzu14, hf⟩ := obd_some hf
        refine zz_callSi (rest := []) hx hb hml C hP hS (c_X2_suits l hDA (p2 - 1) v1 hzu14) zw_X3_118 ⟨Nat.le_trans (Nat.le_of_ble_eq_true rfl) hRf, Nat.le_trans (Nat.le_of_ble_eq_true rfl) hRl⟩  rfl hl.1 (Nat.le_of_ble_eq_true rfl) ⟨Nat.zero_le _, Nat.zero_le _⟩ rfl dX3_fits_70 (fun H locs hP hS => ?_)
        obtain ⟨hc14, hf⟩ := chk_some hf
        have hf := Option.some.inj hf
        subst hf
        exact hQ _ _ _ _ dX3_fits_73 (show narrow .boolean (.int u14) = .int u14 from congrArg Value.int hc14) hP hS
    · have hf := ifT hb1 hf
      refine lv_iload_n hx hb dX3_fits_29 rfl (lv_at hl 4 rfl) ?_
      refine lv_if_ne (tgt := 41) hx hb dX3_fits_30 (by decide) (fun hb15 => ?_) (fun hb15 => ?_)
      · have hf := ifF hb15 hf
        refine lv_iload_n hx hb dX3_fits_41 rfl (lv_at hl 4 rfl) ?_
        refine lv_iconst (v := 1) hx hb dX3_fits_42 (by decide) ?_
        refine lv_icmp_ne (tgt := 54) hx hb dX3_fits_43 (by decide) (fun hb16 => ?_) (fun hb16 => ?_)
        · have hf := ifF hb16 hf
          refine lv_iload hx hb dX3_fits_54 (lv_at hl 0 rfl) ?_
          obtain ⟨u18, hzu18⟩ : ∃ z, z = f_X0_isOdds v1 := ⟨_, rfl⟩
          have hf := bnd_at u18 hzu18 hf
          refine zz_callSi (rest := []) hx hb hml C hP hS (c_X0_isOdds l hDA v1 hzu18.symm) zw_X3_115 ⟨Nat.le_trans (Nat.le_of_ble_eq_true rfl) hRf, Nat.le_trans (Nat.le_of_ble_eq_true rfl) hRl⟩  rfl hl.1 (Nat.le_of_ble_eq_true rfl) ⟨Nat.zero_le _, Nat.zero_le _⟩ rfl dX3_fits_56 (fun H locs hP hS => ?_)
          obtain ⟨hc18, hf⟩ := chk_some hf
          have hf := Option.some.inj hf
          subst hf
          exact hQ _ _ _ _ dX3_fits_59 (show narrow .boolean (.int u18) = .int u18 from congrArg Value.int hc18) hP hS
        · have hf := ifT hb16 hf
          refine lv_iload hx hb dX3_fits_46 (lv_at hl 0 rfl) ?_
          obtain ⟨u20, hzu20⟩ : ∃ z, z = f_X0_isA v1 := ⟨_, rfl⟩
          have hf := bnd_at u20 hzu20 hf
          refine zz_callSi (rest := []) hx hb hml C hP hS (c_X0_isA l hDA v1 hzu20.symm) zw_X3_112 ⟨Nat.le_trans (Nat.le_of_ble_eq_true rfl) hRf, Nat.le_trans (Nat.le_of_ble_eq_true rfl) hRl⟩  rfl hl.1 (Nat.le_of_ble_eq_true rfl) ⟨Nat.zero_le _, Nat.zero_le _⟩ rfl dX3_fits_48 (fun H locs hP hS => ?_)
          refine lv_goto (tgt := 59) hx hb dX3_fits_51 (by decide) ?_
          obtain ⟨hc20, hf⟩ := chk_some hf
          have hf := Option.some.inj hf
          subst hf
          exact hQ _ _ _ _ dX3_fits_59 (show narrow .boolean (.int u20) = .int u20 from congrArg Value.int hc20) hP hS
      · have hf := ifT hb15 hf
        refine lv_iload hx hb dX3_fits_33 (lv_at hl 0 rfl) ?_
        obtain ⟨u22, hzu22⟩ : ∃ z, z = f_X0_isKind v1 := ⟨_, rfl⟩
        have hf := bnd_at u22 hzu22 hf
        refine zz_callSi (rest := []) hx hb hml C hP hS (c_X0_isKind l hDA v1 hzu22.symm) zw_X3_109 ⟨Nat.le_trans (Nat.le_of_ble_eq_true rfl) hRf, Nat.le_trans (Nat.le_of_ble_eq_true rfl) hRl⟩  rfl hl.1 (Nat.le_of_ble_eq_true rfl) ⟨Nat.zero_le _, Nat.zero_le _⟩ rfl dX3_fits_35 (fun H locs hP hS => ?_)
        refine lv_goto (tgt := 59) hx hb dX3_fits_38 (by decide) ?_
        obtain ⟨hc22, hf⟩ := chk_some hf
        have hf := Option.some.inj hf
        subst hf
        exact hQ _ _ _ _ dX3_fits_59 (show narrow .boolean (.int u22) = .int u22 from congrArg Value.int hc22) hP hS
  have hJ22 : j_X3_fits_22 σ h p2 p3 = some u → ∀ (H : Heap) (locs : List Loc) (ls : Array Slot), lv_has ls 5 [(0, .ref (a 5)), (1, .ref (a h)), (2, .int p2), (3, .int p3)] → va_P D vwCl (wl a cA σ d) H → va_S A s.heap H locs → W p l e R s m args below meth c H locs 0 0 Q (F0 m 22 ls []) := by
    intro  hf H locs ls hl hP hS
    unfold j_X3_fits_22 at hf
    refine lv_iconst (v := (-1)) hx hb dX3_fits_22 (by decide) ?_
    exact hJ23 _ hf _ _ _ (lv_sub hl [0, 1, 2, 3] rfl) hP hS
  refine lv_if_lt (tgt := 22) hx hb dX3_fits_1 (by decide) (fun hb23 => ?_) (fun hb23 => ?_)
  · have hf := ifT hb23 hf
    exact hJ22  hf _ _ _ (lv_sub hl [0, 1, 2, 3] rfl) hP hS
  · have hf := ifF hb23 hf
    refine lv_iload_n hx hb dX3_fits_4 rfl (lv_at hl 3 rfl) ?_
    refine lv_aload_n hx hb dX3_fits_5 rfl (lv_at hl 0 rfl) ?_
    refine zg_X3_9 hx hb C hP (by decide) lay_5 rfl dX3_fits_6 ?_
    refine zz_alen (v := 3) hx hb C hP (by decide) lay_6 (by decide) dX3_fits_9 ?_
    refine lv_icmp_ge (tgt := 22) hx hb dX3_fits_10 (by decide) (fun hb24 => ?_) (fun hb24 => ?_)
    · have hf := ifT hb24 hf
      exact hJ22  hf _ _ _ (lv_sub hl [0, 1, 2, 3] rfl) hP hS
    · have hf := ifF hb24 hf
      refine lv_aload_n hx hb dX3_fits_13 rfl (lv_at hl 0 rfl) ?_
      refine zg_X3_9 hx hb C hP (by decide) lay_5 rfl dX3_fits_14 ?_
      refine lv_iload_n hx hb dX3_fits_17 rfl (lv_at hl 3 rfl) ?_
      obtain ⟨hc25, hf⟩ := chk_some hf
      refine zz_iald hx hb C hP (by decide) lay_6 (inb_vp hc25) dX3_fits_18 ?_
      refine lv_goto (tgt := 23) hx hb dX3_fits_19 (by decide) ?_
      exact hJ23 _ hf _ _ _ (lv_sub hl [0, 1, 2, 3] rfl) hP hS
set_option maxHeartbeats 4000000 in
set_option maxRecDepth 100000 in
theorem c_X3_tell (l : Launch) {D : va_G} {a : Nat → Nat} {cA : Nat → ClassId} {A : Nat → Prop} {sa : Nat → Nat} (hDA : DA a A) {σ : PH} {d : PD} {h : Nat} (hh : isHall h) (p2 : Int32) {u : PH} (hf : f_X3_tell σ h p2 = some u) : CTv l yX3_tell cX3_tell 3 none 5 124 D a cA A sa [.ref (a 5), .ref (a h), .int p2] σ d u d := by
  refine zz_metV zpl_X3 hDA (Nat.le_of_ble_eq_true rfl) ?_
  intro p e R s m args below meth c Q ls hx hb hml C hRf hRl hQ hP hS hl
  have hl : lv_has ls 3 [(0, .ref (a 5)), (1, .ref (a h)), (2, .int p2)] := hl
  unfold f_X3_tell at hf
  refine lv_iload_n hx hb dX3_tell_0 rfl (lv_at hl 2 rfl) ?_
  refine lv_if_ne (tgt := 29) hx hb dX3_tell_1 (by decide) (fun hb0 => ?_) (fun hb0 => ?_)
  · have hf := ifF hb0 hf
    refine lv_iload_n hx hb dX3_tell_29 rfl (lv_at hl 2 rfl) ?_
    refine lv_iconst (v := 4) hx hb dX3_tell_30 (by decide) ?_
    refine lv_icmp_gt (tgt := 50) hx hb dX3_tell_31 (by decide) (fun hb1 => ?_) (fun hb1 => ?_)
    · have hf := ifT hb1 hf
      refine lv_iload_n hx hb dX3_tell_50 rfl (lv_at hl 2 rfl) ?_
      refine lv_iconst (v := 5) hx hb dX3_tell_51 (by decide) ?_
      refine lv_icmp_ne (tgt := 74) hx hb dX3_tell_52 (by decide) (fun hb2 => ?_) (fun hb2 => ?_)
      · have hf := ifF hb2 hf
        refine lv_aload_n hx hb dX3_tell_74 rfl (lv_at hl 1 rfl) ?_
        refine lv_aload_n hx hb dX3_tell_75 rfl (lv_at hl 0 rfl) ?_
        refine zg_X3_9 hx hb C hP (by decide) lay_5 rfl dX3_tell_76 ?_
        refine lv_iconst (v := 0) hx hb dX3_tell_79 (by decide) ?_
        refine zz_iald hx hb C hP (by decide) lay_6 (inb_vp (by decide)) dX3_tell_80 ?_
        refine lv_aload_n hx hb dX3_tell_81 rfl (lv_at hl 0 rfl) ?_
        refine zg_X3_9 hx hb C hP (by decide) lay_5 rfl dX3_tell_82 ?_
        refine lv_iconst (v := 1) hx hb dX3_tell_85 (by decide) ?_
        refine zz_iald hx hb C hP (by decide) lay_6 (inb_vp (by decide)) dX3_tell_86 ?_
        obtain ⟨u4, hzu4, hf⟩ := obd_some hf
        refine zz_callVv (rest := []) hx hb hml C hP hS (c_X2_changePlaces l hDA (h := h) hh (gI σ 6 (0 : Int32).toNatClampNeg) (gI σ 6 (1 : Int32).toNatClampNeg) hzu4) zw_X3_142 ⟨Nat.le_trans (Nat.le_of_ble_eq_true rfl) hRf, Nat.le_trans (Nat.le_of_ble_eq_true rfl) hRl⟩ (lth0 hh) (lay_h0 hh) rfl rfl hl.1 (Nat.le_of_ble_eq_true rfl) ⟨Nat.zero_le _, Nat.zero_le _⟩ rfl dX3_tell_87 (fun H locs hP hS => ?_)
        have hf := Option.some.inj hf
        subst hf
        exact hQ _ _ _ _ dX3_tell_90 hP hS
      · have hf := ifT hb2 hf
        refine lv_aload_n hx hb dX3_tell_55 rfl (lv_at hl 1 rfl) ?_
        refine lv_aload_n hx hb dX3_tell_56 rfl (lv_at hl 0 rfl) ?_
        refine zg_X3_9 hx hb C hP (by decide) lay_5 rfl dX3_tell_57 ?_
        refine lv_iconst (v := 0) hx hb dX3_tell_60 (by decide) ?_
        refine zz_iald hx hb C hP (by decide) lay_6 (inb_vp (by decide)) dX3_tell_61 ?_
        refine lv_aload_n hx hb dX3_tell_62 rfl (lv_at hl 0 rfl) ?_
        refine zg_X3_9 hx hb C hP (by decide) lay_5 rfl dX3_tell_63 ?_
        refine lv_iconst (v := 1) hx hb dX3_tell_66 (by decide) ?_
        refine zz_iald hx hb C hP (by decide) lay_6 (inb_vp (by decide)) dX3_tell_67 ?_
        obtain ⟨u5, hzu5, hf⟩ := obd_some hf
        refine zz_callVv (rest := []) hx hb hml C hP hS (c_X2_learn l hDA (h := h) hh (gI σ 6 (0 : Int32).toNatClampNeg) (gI σ 6 (1 : Int32).toNatClampNeg) hzu5) zw_X3_139 ⟨Nat.le_trans (Nat.le_of_ble_eq_true rfl) hRf, Nat.le_trans (Nat.le_of_ble_eq_true rfl) hRl⟩ (lth0 hh) (lay_h0 hh) rfl rfl hl.1 (Nat.le_of_ble_eq_true rfl) ⟨Nat.zero_le _, Nat.zero_le _⟩ rfl dX3_tell_68 (fun H locs hP hS => ?_)
        refine lv_goto (tgt := 90) hx hb dX3_tell_71 (by decide) ?_
        have hf := Option.some.inj hf
        subst hf
        exact hQ _ _ _ _ dX3_tell_90 hP hS
    · have hf := ifF hb1 hf
      refine lv_aload_n hx hb dX3_tell_34 rfl (lv_at hl 1 rfl) ?_
      refine lv_iload_n hx hb dX3_tell_35 rfl (lv_at hl 2 rfl) ?_
      refine lv_iconst (v := 1) hx hb dX3_tell_36 (by decide) ?_
      refine lv_isub hx hb dX3_tell_37 ?_
      refine lv_aload_n hx hb dX3_tell_38 rfl (lv_at hl 0 rfl) ?_
      refine zg_X3_9 hx hb C hP (by decide) lay_5 rfl dX3_tell_39 ?_
      refine lv_iconst (v := 0) hx hb dX3_tell_42 (by decide) ?_
      refine zz_iald hx hb C hP (by decide) lay_6 (inb_vp (by decide)) dX3_tell_43 ?_
      obtain ⟨u6, hzu6, hf⟩ := obd_some hf
      refine zz_callVv (rest := []) hx hb hml C hP hS (c_X2_put l hDA (h := h) hh (p2 - 1) (gI σ 6 (0 : Int32).toNatClampNeg) hzu6) zw_X3_135 ⟨Nat.le_trans (Nat.le_of_ble_eq_true rfl) hRf, Nat.le_trans (Nat.le_of_ble_eq_true rfl) hRl⟩ (lth0 hh) (lay_h0 hh) rfl rfl hl.1 (Nat.le_of_ble_eq_true rfl) ⟨Nat.zero_le _, Nat.zero_le _⟩ rfl dX3_tell_44 (fun H locs hP hS => ?_)
      refine lv_goto (tgt := 90) hx hb dX3_tell_47 (by decide) ?_
      have hf := Option.some.inj hf
      subst hf
      exact hQ _ _ _ _ dX3_tell_90 hP hS
  · have hf := ifT hb0 hf
    refine lv_aload_n hx hb dX3_tell_4 rfl (lv_at hl 1 rfl) ?_
    refine lv_aload_n hx hb dX3_tell_5 rfl (lv_at hl 0 rfl) ?_
    refine zg_X3_9 hx hb C hP (by decide) lay_5 rfl dX3_tell_6 ?_
    refine lv_iconst (v := 0) hx hb dX3_tell_9 (by decide) ?_
    refine zz_iald hx hb C hP (by decide) lay_6 (inb_vp (by decide)) dX3_tell_10 ?_
    refine lv_aload_n hx hb dX3_tell_11 rfl (lv_at hl 0 rfl) ?_
    refine zg_X3_9 hx hb C hP (by decide) lay_5 rfl dX3_tell_12 ?_
    refine lv_iconst (v := 1) hx hb dX3_tell_15 (by decide) ?_
    refine zz_iald hx hb C hP (by decide) lay_6 (inb_vp (by decide)) dX3_tell_16 ?_
    refine lv_aload_n hx hb dX3_tell_17 rfl (lv_at hl 0 rfl) ?_
    refine zg_X3_9 hx hb C hP (by decide) lay_5 rfl dX3_tell_18 ?_
    refine lv_iconst (v := 2) hx hb dX3_tell_21 (by decide) ?_
    refine zz_iald hx hb C hP (by decide) lay_6 (inb_vp (by decide)) dX3_tell_22 ?_
    obtain ⟨u7, hzu7, hf⟩ := obd_some hf
    refine zz_callVv (rest := []) hx hb hml C hP hS (c_X2_join l hDA (h := h) hh (gI σ 6 (0 : Int32).toNatClampNeg) (gI σ 6 (1 : Int32).toNatClampNeg) (gI σ 6 (2 : Int32).toNatClampNeg) hzu7) zw_X3_131 ⟨Nat.le_trans (Nat.le_of_ble_eq_true rfl) hRf, Nat.le_trans (Nat.le_of_ble_eq_true rfl) hRl⟩ (lth0 hh) (lay_h0 hh) rfl rfl hl.1 (Nat.le_of_ble_eq_true rfl) ⟨Nat.zero_le _, Nat.zero_le _⟩ rfl dX3_tell_23 (fun H locs hP hS => ?_)
    refine lv_goto (tgt := 90) hx hb dX3_tell_26 (by decide) ?_
    have hf := Option.some.inj hf
    subst hf
    exact hQ _ _ _ _ dX3_tell_90 hP hS
set_option maxHeartbeats 4000000 in
set_option maxRecDepth 100000 in
theorem c_X3_readItem (l : Launch) {D : va_G} {a : Nat → Nat} {cA : Nat → ClassId} {A : Nat → Prop} {sa : Nat → Nat} (hDA : DA a A) {σ : PH} {d : PD} {tx : Nat} (htx : d.2.2 = some tx) (hstx : isShelf tx) {h : Nat} (hh : isHall h) {u : Int32 × PH} (hf : f_X3_readItem σ tx h = some u) : CTi l yX3_readItem cX3_readItem 6 (some .boolean) 6 148 D a cA A sa [.ref (a 5), .ref (a h)] σ d u.1 u.2 d := by
  refine zz_metZ zpl_X3 hDA (Nat.le_of_ble_eq_true rfl) ?_
  intro p e R s m args below meth c Q ls hx hb hml C hRf hRl hQ hP hS hl
  have hl : lv_has ls 6 [(0, .ref (a 5)), (1, .ref (a h))] := hl
  unfold f_X3_readItem at hf
  refine lv_aload_n hx hb dX3_readItem_0 rfl (lv_at hl 0 rfl) ?_
  refine zg_X3_19 hx hb C hP (by decide) lay_5 rfl dX3_readItem_1 ?_
  refine lv_topi (fun v1 ev1 => ?_)
  have hf := bnd_at v1 ev1 hf
  refine lv_istore_n (lv' := [(2, .int v1), (0, .ref (a 5)), (1, .ref (a h))]) hx hb dX3_readItem_4 rfl hl (by decide) rfl (fun ls hl => ?_)
  refine lv_aload_n hx hb dX3_readItem_5 rfl (lv_at hl 1 rfl) ?_
  obtain ⟨u2, hzu2, hf⟩ := obd_some hf
  refine zz_callVi (rest := []) hx hb hml C hP hS (c_X3_readWord l hDA htx hstx hzu2) zw_X3_46 ⟨Nat.le_trans (Nat.le_of_ble_eq_true rfl) hRf, Nat.le_trans (Nat.le_of_ble_eq_true rfl) hRl⟩ (by decide) lay_5 rfl rfl hl.1 (Nat.le_of_ble_eq_true rfl) ⟨Nat.zero_le _, Nat.zero_le _⟩ rfl dX3_readItem_6 (fun H locs hP hS => ?_)
  refine lv_istore_n (lv' := [(3, .int u2.1), (2, .int v1), (0, .ref (a 5)), (1, .ref (a h))]) hx hb dX3_readItem_9 rfl hl (by decide) rfl (fun ls hl => ?_)
  refine lv_iload_n hx hb dX3_readItem_10 rfl (lv_at hl 0 rfl) ?_
  refine lv_iconst (v := (-1)) hx hb dX3_readItem_11 (by decide) ?_
  refine lv_icmp_ne (tgt := 17) hx hb dX3_readItem_12 (by decide) (fun hb2 => ?_) (fun hb2 => ?_)
  · have hf := ifF hb2 hf
    refine lv_iload_n hx hb dX3_readItem_17 rfl (lv_at hl 0 rfl) ?_
    have hJ31 : j_X3_readItem_31 tx h v1 u2 = some u → ∀ (H : Heap) (locs : List Loc) (ls : Array Slot), lv_has ls 6 [(0, .ref (a 5)), (1, .ref (a h)), (2, .int v1), (3, .int u2.1)] → va_P D vwCl (wl a cA u2.2 d) H → va_S A s.heap H locs → W p l e R s m args below meth c H locs 0 0 Q (F0 m 31 ls []) := by
      intro  hf H locs ls hl hP hS
      unfold j_X3_readItem_31 at hf
      refine lv_iload_n hx hb dX3_readItem_31 rfl (lv_at hl 3 rfl) ?_
      refine lv_iconst (v := 5) hx hb dX3_readItem_32 (by decide) ?_
      have hJ49 : j_X3_readItem_49 tx h u2 = some u → ∀ (H : Heap) (locs : List Loc) (ls : Array Slot), lv_has ls 6 [(0, .ref (a 5)), (1, .ref (a h)), (3, .int u2.1)] → va_P D vwCl (wl a cA u2.2 d) H → va_S A s.heap H locs → W p l e R s m args below meth c H locs 0 0 Q (F0 m 49 ls []) := by
        intro  hf H locs ls hl hP hS
        unfold j_X3_readItem_49 at hf
        refine lv_iconst (v := 0) hx hb dX3_readItem_49 (by decide) ?_
        refine lv_istore (lv' := [(4, .int 0), (0, .ref (a 5)), (1, .ref (a h)), (3, .int u2.1)]) hx hb dX3_readItem_50 hl (by decide) rfl (fun ls hl => ?_)
        have hJ114 : ∀ (σ4 : PH), j_X3_readItem_114 h u2 σ4 = some u → ∀ (H : Heap) (locs : List Loc) (ls : Array Slot), lv_has ls 6 [(0, .ref (a 5)), (1, .ref (a h)), (3, .int u2.1)] → va_P D vwCl (wl a cA σ4 d) H → va_S A s.heap H locs → W p l e R s m args below meth c H locs 0 0 Q (F0 m 114 ls []) := by
          intro σ4 hf H locs ls hl hP hS
          unfold j_X3_readItem_114 at hf
          refine lv_aload_n hx hb dX3_readItem_114 rfl (lv_at hl 0 rfl) ?_
          refine lv_aload_n hx hb dX3_readItem_115 rfl (lv_at hl 1 rfl) ?_
          refine lv_iload_n hx hb dX3_readItem_116 rfl (lv_at hl 2 rfl) ?_
          obtain ⟨u5, hzu5, hf⟩ := obd_some hf
          refine zz_callVv (rest := []) hx hb hml C hP hS (c_X3_tell l hDA (h := h) hh u2.1 hzu5) zw_X3_73 ⟨Nat.le_trans (Nat.le_of_ble_eq_true rfl) hRf, Nat.le_trans (Nat.le_of_ble_eq_true rfl) hRl⟩ (by decide) lay_5 rfl rfl hl.1 (Nat.le_of_ble_eq_true rfl) ⟨Nat.zero_le _, Nat.zero_le _⟩ rfl dX3_readItem_117 (fun H locs hP hS => ?_)
          refine lv_iconst (v := 1) hx hb dX3_readItem_120 (by decide) ?_
          have hf := Option.some.inj hf
          subst hf
          exact hQ _ _ _ _ dX3_readItem_121 (show narrow .boolean (.int 1) = .int 1 from rfl) hP hS
        have hJ101 : ∀ (v6 : Int32) (σ7 : PH), j_X3_readItem_101 v6 σ7 = some u → ∀ (H : Heap) (locs : List Loc) (ls : Array Slot), lv_has ls 6 [(0, .ref (a 5)), (5, .int v6)] → va_P D vwCl (wl a cA σ7 d) H → va_S A s.heap H locs → W p l e R s m args below meth c H locs 0 0 Q (F0 m 101 ls []) := by
          intro v6 σ7 hf H locs ls hl hP hS
          unfold j_X3_readItem_101 at hf
          refine lv_aload_n hx hb dX3_readItem_101 rfl (lv_at hl 0 rfl) ?_
          refine lv_iload hx hb dX3_readItem_102 (lv_at hl 1 rfl) ?_
          obtain ⟨u8, hzu8⟩ : ∃ z, z = f_X3_fails σ7 v6 := ⟨_, rfl⟩
          have hf := bnd_at u8 hzu8 hf
          refine zz_callVi (rest := []) hx hb hml C hP hS (c_X3_fails l hDA v6 hzu8.symm) zw_X3_42 ⟨Nat.le_trans (Nat.le_of_ble_eq_true rfl) hRf, Nat.le_trans (Nat.le_of_ble_eq_true rfl) hRl⟩ (by decide) lay_5 rfl rfl hl.1 (Nat.le_of_ble_eq_true rfl) ⟨Nat.zero_le _, Nat.zero_le _⟩ rfl dX3_readItem_104 (fun H locs hP hS => ?_)
          obtain ⟨hc8, hf⟩ := chk_some hf
          have hf := Option.some.inj hf
          subst hf
          exact hQ _ _ _ _ dX3_readItem_107 (show narrow .boolean (.int u8.1) = .int u8.1 from congrArg Value.int hc8) hP hS
        refine loopN_ind (P := fun (q10 : Int32 × PH) => ∀ (H : Heap) (locs : List Loc) (ls : Array Slot), lv_has ls 6 [(0, .ref (a 5)), (1, .ref (a h)), (3, .int u2.1), (4, .int q10.1)] → va_P D vwCl (wl a cA q10.2 d) H → va_S A s.heap H locs → W p l e R s m args below meth c H locs 0 0 Q (F0 m 52 ls [])) ?_ _ _ hf _ _ _ (lv_sub hl [1, 2, 3, 0] rfl) hP hS
        intro k11 ihk11 q10 hf H locs ls hl hP hS
        unfold b_X3_readItem_52 at hf
        refine lv_iload hx hb dX3_readItem_52 (lv_at hl 3 rfl) ?_
        refine zz_sget hx hb C hS C.2.2.2.1.2.2.2.1 kf_X3_63 dX3_readItem_54 ?_
        refine lv_iload_n hx hb dX3_readItem_57 rfl (lv_at hl 2 rfl) ?_
        obtain ⟨hc11, hf⟩ := chk_some hf
        refine zz_sald hx hb hS C.2.2.2.1.2.2.2.1 (inb_vp hc11) dX3_readItem_58 ?_
        refine lv_icmp_ge (tgt := 114) hx hb dX3_readItem_59 (by decide) (fun hb12 => ?_) (fun hb12 => ?_)
        · have hf := ifT hb12 hf
          exact hJ114 _ hf _ _ _ (lv_sub hl [0, 1, 2] rfl) hP hS
        · have hf := ifF hb12 hf
          refine lv_aload_n hx hb dX3_readItem_62 rfl (lv_at hl 0 rfl) ?_
          refine lv_bipush (v := 32) hx hb dX3_readItem_63 (by decide) ?_
          obtain ⟨u14, hzu14, hf⟩ := obd_some hf
          refine zz_callVi (rest := []) hx hb hml C hP hS (c_X3_stands l hDA htx hstx 32 hzu14) zw_X3_31 ⟨Nat.le_trans (Nat.le_of_ble_eq_true rfl) hRf, Nat.le_trans (Nat.le_of_ble_eq_true rfl) hRl⟩ (by decide) lay_5 rfl rfl hl.1 (Nat.le_of_ble_eq_true rfl) ⟨Nat.zero_le _, Nat.zero_le _⟩ rfl dX3_readItem_65 (fun H locs hP hS => ?_)
          refine lv_if_ne (tgt := 73) hx hb dX3_readItem_68 (by decide) (fun hb14 => ?_) (fun hb14 => ?_)
          · have hf := ifF hb14 hf
            refine lv_aload_n hx hb dX3_readItem_73 rfl (lv_at hl 0 rfl) ?_
            refine zg_X3_19 hx hb C hP (by decide) lay_5 rfl dX3_readItem_74 ?_
            refine lv_topi (fun v16 ev16 => ?_)
            have hf := bnd_at v16 ev16 hf
            refine lv_istore (lv' := [(5, .int v16), (0, .ref (a 5)), (1, .ref (a h)), (3, .int u2.1), (4, .int q10.1)]) hx hb dX3_readItem_77 hl (by decide) rfl (fun ls hl => ?_)
            refine lv_aload_n hx hb dX3_readItem_79 rfl (lv_at hl 1 rfl) ?_
            refine lv_iload hx hb dX3_readItem_80 (lv_at hl 4 rfl) ?_
            obtain ⟨u17, hzu17, hf⟩ := obd_some hf
            refine zz_callVi (rest := []) hx hb hml C hP hS (c_X3_readNumber l hDA htx hstx q10.1 hzu17) zw_X3_66 ⟨Nat.le_trans (Nat.le_of_ble_eq_true rfl) hRf, Nat.le_trans (Nat.le_of_ble_eq_true rfl) hRl⟩ (by decide) lay_5 rfl rfl hl.1 (Nat.le_of_ble_eq_true rfl) ⟨Nat.zero_le _, Nat.zero_le _⟩ rfl dX3_readItem_82 (fun H locs hP hS => ?_)
            refine lv_if_ne (tgt := 90) hx hb dX3_readItem_85 (by decide) (fun hb17 => ?_) (fun hb17 => ?_)
            · have hf := ifF hb17 hf
              refine lv_aload_n hx hb dX3_readItem_90 rfl (lv_at hl 1 rfl) ?_
              refine lv_aload_n hx hb dX3_readItem_91 rfl (lv_at hl 2 rfl) ?_
              refine lv_iload_n hx hb dX3_readItem_92 rfl (lv_at hl 3 rfl) ?_
              refine lv_iload hx hb dX3_readItem_93 (lv_at hl 4 rfl) ?_
              obtain ⟨u19, hzu19, hf⟩ := obd_some hf
              refine zz_callVi (rest := []) hx hb hml C hP hS (c_X3_fits l hDA (h := h) hh u2.1 q10.1 hzu19) zw_X3_69 ⟨Nat.le_trans (Nat.le_of_ble_eq_true rfl) hRf, Nat.le_trans (Nat.le_of_ble_eq_true rfl) hRl⟩ (by decide) lay_5 rfl rfl hl.1 (Nat.le_of_ble_eq_true rfl) ⟨Nat.zero_le _, Nat.zero_le _⟩ rfl dX3_readItem_95 (fun H locs hP hS => ?_)
              refine lv_if_ne (tgt := 108) hx hb dX3_readItem_98 (by decide) (fun hb19 => ?_) (fun hb19 => ?_)
              · have hf := ifF hb19 hf
                obtain ⟨v21, ev21⟩ : ∃ z : Int32, z = q10.1 + 1 := ⟨_, rfl⟩
                have hf := bnd_at v21 ev21 hf
                refine lv_iinc (v := v21) (lv' := [(4, .int v21), (5, .int v16), (0, .ref (a 5)), (1, .ref (a h)), (3, .int u2.1)]) hx hb dX3_readItem_108 hl (k := 4) rfl (by rw [ev21]; rfl) (by decide) rfl (fun ls hl => ?_)
                refine lv_goto (tgt := 52) hx hb dX3_readItem_111 (by decide) ?_
                exact ihk11 _ hf _ _ _ (lv_sub hl [2, 3, 4, 0] rfl) hP hS
              · have hf := ifT hb19 hf
                exact hJ101 _ _ hf _ _ _ (lv_sub hl [1, 0] rfl) hP hS
            · have hf := ifT hb17 hf
              refine lv_iconst (v := 0) hx hb dX3_readItem_88 (by decide) ?_
              have hf := Option.some.inj hf
              subst hf
              exact hQ _ _ _ _ dX3_readItem_89 (show narrow .boolean (.int 0) = .int 0 from rfl) hP hS
          · have hf := ifT hb14 hf
            refine lv_iconst (v := 0) hx hb dX3_readItem_71 (by decide) ?_
            have hf := Option.some.inj hf
            subst hf
            exact hQ _ _ _ _ dX3_readItem_72 (show narrow .boolean (.int 0) = .int 0 from rfl) hP hS
      refine lv_icmp_ne (tgt := 49) hx hb dX3_readItem_33 (by decide) (fun hb21 => ?_) (fun hb21 => ?_)
      · have hf := ifF hb21 hf
        exact hJ49  hf _ _ _ (lv_sub hl [0, 1, 3] rfl) hP hS
      · have hf := ifT hb21 hf
        refine lv_aload_n hx hb dX3_readItem_36 rfl (lv_at hl 1 rfl) ?_
        obtain ⟨u23, hzu23⟩ : ∃ z, z = f_X2_hasRoom u2.2 h := ⟨_, rfl⟩
        have hf := bnd_at u23 hzu23 hf
        refine zz_callVi (rest := []) hx hb hml C hP hS (c_X2_hasRoom l hDA (h := h) hh hzu23.symm) zw_X3_62 ⟨Nat.le_trans (Nat.le_of_ble_eq_true rfl) hRf, Nat.le_trans (Nat.le_of_ble_eq_true rfl) hRl⟩ (lth0 hh) (lay_h0 hh) rfl rfl hl.1 (Nat.le_of_ble_eq_true rfl) ⟨Nat.zero_le _, Nat.zero_le _⟩ rfl dX3_readItem_37 (fun H locs hP hS => ?_)
        refine lv_if_ne (tgt := 49) hx hb dX3_readItem_40 (by decide) (fun hb23 => ?_) (fun hb23 => ?_)
        · have hf := ifF hb23 hf
          exact hJ49  hf _ _ _ (lv_sub hl [0, 1, 3] rfl) hP hS
        · have hf := ifT hb23 hf
          refine lv_aload_n hx hb dX3_readItem_43 rfl (lv_at hl 0 rfl) ?_
          refine lv_iload_n hx hb dX3_readItem_44 rfl (lv_at hl 2 rfl) ?_
          obtain ⟨u25, hzu25⟩ : ∃ z, z = f_X3_fails u2.2 v1 := ⟨_, rfl⟩
          have hf := bnd_at u25 hzu25 hf
          refine zz_callVi (rest := []) hx hb hml C hP hS (c_X3_fails l hDA v1 hzu25.symm) zw_X3_42 ⟨Nat.le_trans (Nat.le_of_ble_eq_true rfl) hRf, Nat.le_trans (Nat.le_of_ble_eq_true rfl) hRl⟩ (by decide) lay_5 rfl rfl hl.1 (Nat.le_of_ble_eq_true rfl) ⟨Nat.zero_le _, Nat.zero_le _⟩ rfl dX3_readItem_45 (fun H locs hP hS => ?_)
          obtain ⟨hc25, hf⟩ := chk_some hf
          have hf := Option.some.inj hf
          subst hf
          exact hQ _ _ _ _ dX3_readItem_48 (show narrow .boolean (.int u25.1) = .int u25.1 from congrArg Value.int hc25) hP hS
    refine lv_if_ne (tgt := 31) hx hb dX3_readItem_18 (by decide) (fun hb26 => ?_) (fun hb26 => ?_)
    · have hf := ifF hb26 hf
      exact hJ31  hf _ _ _ (lv_sub hl [2, 3, 1, 0] rfl) hP hS
    · have hf := ifT hb26 hf
      refine lv_aload_n hx hb dX3_readItem_21 rfl (lv_at hl 3 rfl) ?_
      refine zg_X3_50 hx hb C hP (lth0 hh) (lay_h0 hh) rfl dX3_readItem_22 ?_
      obtain ⟨u28, hzu28⟩ : ∃ z, z = f_X0_hasRoom u2.2 h := ⟨_, rfl⟩
      have hf := bnd_at u28 hzu28 hf
      refine zz_callVi (rest := []) hx hb hml C hP hS (c_X0_hasRoom l hDA (h := h) hh hzu28.symm) zw_X3_56 ⟨Nat.le_trans (Nat.le_of_ble_eq_true rfl) hRf, Nat.le_trans (Nat.le_of_ble_eq_true rfl) hRl⟩ (lth hh 1 (by decide)) (lay_h1 hh) rfl rfl hl.1 (Nat.le_of_ble_eq_true rfl) ⟨Nat.zero_le _, Nat.zero_le _⟩ rfl dX3_readItem_25 (fun H locs hP hS => ?_)
      refine lv_if_eq (tgt := 43) hx hb dX3_readItem_28 (by decide) (fun hb28 => ?_) (fun hb28 => ?_)
      · have hf := ifT hb28 hf
        refine lv_aload_n hx hb dX3_readItem_43 rfl (lv_at hl 2 rfl) ?_
        refine lv_iload_n hx hb dX3_readItem_44 rfl (lv_at hl 1 rfl) ?_
        obtain ⟨u30, hzu30⟩ : ∃ z, z = f_X3_fails u2.2 v1 := ⟨_, rfl⟩
        have hf := bnd_at u30 hzu30 hf
        refine zz_callVi (rest := []) hx hb hml C hP hS (c_X3_fails l hDA v1 hzu30.symm) zw_X3_42 ⟨Nat.le_trans (Nat.le_of_ble_eq_true rfl) hRf, Nat.le_trans (Nat.le_of_ble_eq_true rfl) hRl⟩ (by decide) lay_5 rfl rfl hl.1 (Nat.le_of_ble_eq_true rfl) ⟨Nat.zero_le _, Nat.zero_le _⟩ rfl dX3_readItem_45 (fun H locs hP hS => ?_)
        obtain ⟨hc30, hf⟩ := chk_some hf
        have hf := Option.some.inj hf
        subst hf
        exact hQ _ _ _ _ dX3_readItem_48 (show narrow .boolean (.int u30.1) = .int u30.1 from congrArg Value.int hc30) hP hS
      · have hf := ifF hb28 hf
        exact hJ31  hf _ _ _ (lv_sub hl [2, 3, 1, 0] rfl) hP hS
  · have hf := ifT hb2 hf
    refine lv_iconst (v := 0) hx hb dX3_readItem_15 (by decide) ?_
    have hf := Option.some.inj hf
    subst hf
    exact hQ _ _ _ _ dX3_readItem_16 (show narrow .boolean (.int 0) = .int 0 from rfl) hP hS
set_option maxHeartbeats 4000000 in
set_option maxRecDepth 100000 in
theorem c_X4_holdsRow (l : Launch) {D : va_G} {a : Nat → Nat} {cA : Nat → ClassId} {A : Nat → Prop} {sa : Nat → Nat} (hDA : DA a A) {σ : PH} {d : PD} {sh0 : Nat} (hsh0 : isShelf sh0) {u : Int32} (hf : f_X4_holdsRow σ sh0 = u) : CTi l yX4_holdsRow cX4_holdsRow 1 (some .boolean) 0 0 D a cA A sa [.ref (a sh0)] σ d u σ d := by
  refine zz_metZ zpl_X4 hDA (Nat.le_of_ble_eq_true rfl) ?_
  intro p e R s m args below meth c Q ls hx hb hml C hRf hRl hQ hP hS hl
  have hl : lv_has ls 1 [(0, .ref (a sh0))] := hl
  unfold f_X4_holdsRow at hf
  refine lv_aload_n hx hb dX4_holdsRow_0 rfl (lv_at hl 0 rfl) ?_
  refine zg_X4_9 hx hb C hP (lts0 hsh0) (lay_s0 hsh0) rfl dX4_holdsRow_1 ?_
  refine lv_bipush (v := 100) hx hb dX4_holdsRow_4 (by decide) ?_
  refine lv_icmp_lt (tgt := 13) hx hb dX4_holdsRow_6 (by decide) (fun hb0 => ?_) (fun hb0 => ?_)
  · have hf := ifT hb0 hf
    refine lv_iconst (v := 0) hx hb dX4_holdsRow_13 (by decide) ?_
    subst hf
    exact hQ _ _ _ _ dX4_holdsRow_14 (show narrow .boolean (.int 0) = .int 0 from rfl) hP hS
  · have hf := ifF hb0 hf
    refine lv_iconst (v := 1) hx hb dX4_holdsRow_9 (by decide) ?_
    refine lv_goto (tgt := 14) hx hb dX4_holdsRow_10 (by decide) ?_
    subst hf
    exact hQ _ _ _ _ dX4_holdsRow_14 (show narrow .boolean (.int 1) = .int 1 from rfl) hP hS
set_option maxHeartbeats 4000000 in
set_option maxRecDepth 100000 in
theorem c_X4_begin (l : Launch) {D : va_G} {a : Nat → Nat} {cA : Nat → ClassId} {A : Nat → Prop} {sa : Nat → Nat} (hDA : DA a A) {σ : PH} {d : PD} {sh0 : Nat} (hsh0 : isShelf sh0) (p1 : Int32) (p2 : Int32) {u : PH} (hf : f_X4_begin σ sh0 p1 p2 = some u) : CTv l yX4_begin cX4_begin 4 none 1 21 D a cA A sa [.ref (a sh0), .int p1, .int p2] σ d u d := by
  refine zz_metV zpl_X4 hDA (Nat.le_of_ble_eq_true rfl) ?_
  intro p e R s m args below meth c Q ls hx hb hml C hRf hRl hQ hP hS hl
  have hl : lv_has ls 4 [(0, .ref (a sh0)), (1, .int p1), (2, .int p2)] := hl
  unfold f_X4_begin at hf
  refine lv_aload_n hx hb dX4_begin_0 rfl (lv_at hl 0 rfl) ?_
  refine lv_bipush (v := 100) hx hb dX4_begin_1 (by decide) ?_
  refine lv_iload_n hx hb dX4_begin_3 rfl (lv_at hl 1 rfl) ?_
  refine lv_iadd hx hb dX4_begin_4 ?_
  refine zp_X4_9 hx hb C hP hS (lts0 hsh0) (lay_s0 hsh0) rfl dX4_begin_5 (fun σ1 eσ1 H locs hP hS => ?_)
  have hf := bnd_at σ1 eσ1 hf
  refine lv_aload_n hx hb dX4_begin_8 rfl (lv_at hl 0 rfl) ?_
  refine lv_iconst (v := 0) hx hb dX4_begin_9 (by decide) ?_
  refine lv_iload_n hx hb dX4_begin_10 rfl (lv_at hl 2 rfl) ?_
  refine lv_sipush (v := 160) hx hb dX4_begin_11 (by decide) ?_
  refine zz_min hx hb (hml.trans hl.1.symm) C km_X4_22 kt_Lib_Math_min_name kn_J9 kc_Lib_Math_min_name (Nat.le_trans (by decide) hRf) (Nat.le_trans (Nat.le_of_ble_eq_true rfl) hRl) ⟨Nat.zero_le _, Nat.zero_le _⟩ dX4_begin_14 ?_
  refine zz_max hx hb (hml.trans hl.1.symm) C km_X4_28 kt_Lib_Math_max_name kn_J9 kc_Lib_Math_max_name (Nat.le_trans (by decide) hRf) (Nat.le_trans (Nat.le_of_ble_eq_true rfl) hRl) ⟨Nat.zero_le _, Nat.zero_le _⟩ dX4_begin_17 ?_
  refine zp_X4_15 hx hb C hP hS (lts0 hsh0) (lay_s0 hsh0) rfl dX4_begin_20 (fun σ2 eσ2 H locs hP hS => ?_)
  have hf := bnd_at σ2 eσ2 hf
  refine lv_iconst (v := 0) hx hb dX4_begin_23 (by decide) ?_
  refine lv_istore_n (lv' := [(3, .int 0), (0, .ref (a sh0)), (1, .int p1), (2, .int p2)]) hx hb dX4_begin_24 rfl hl (by decide) rfl (fun ls hl => ?_)
  refine loopN_ind (P := fun (q3 : Int32 × PH) => ∀ (H : Heap) (locs : List Loc) (ls : Array Slot), lv_has ls 4 [(0, .ref (a sh0)), (3, .int q3.1)] → va_P D vwCl (wl a cA q3.2 d) H → va_S A s.heap H locs → W p l e R s m args below meth c H locs 0 0 Q (F0 m 25 ls [])) ?_ _ _ hf _ _ _ (lv_sub hl [1, 0] rfl) hP hS
  intro k4 ihk4 q3 hf H locs ls hl hP hS
  unfold b_X4_begin_25 at hf
  refine lv_iload_n hx hb dX4_begin_25 rfl (lv_at hl 1 rfl) ?_
  refine lv_aload_n hx hb dX4_begin_26 rfl (lv_at hl 0 rfl) ?_
  refine zg_X4_15 hx hb C hP (lts0 hsh0) (lay_s0 hsh0) rfl dX4_begin_27 ?_
  refine lv_icmp_ge (tgt := 46) hx hb dX4_begin_30 (by decide) (fun hb4 => ?_) (fun hb4 => ?_)
  · have hf := ifT hb4 hf
    have hf := Option.some.inj hf
    subst hf
    exact hQ _ _ _ _ dX4_begin_46 hP hS
  · have hf := ifF hb4 hf
    refine lv_aload_n hx hb dX4_begin_33 rfl (lv_at hl 0 rfl) ?_
    refine zg_X4_18 hx hb C hP (lts0 hsh0) (lay_s0 hsh0) rfl dX4_begin_34 ?_
    refine lv_iload_n hx hb dX4_begin_37 rfl (lv_at hl 1 rfl) ?_
    refine lv_lconst (v := 0) hx hb dX4_begin_38 (by decide) ?_
    obtain ⟨hc5, hf⟩ := chk_some hf
    refine zz_last hx hb C hP hS (lts1 hsh0) (lay_s1 hsh0) (inb_vp hc5) dX4_begin_39 (fun σ7 eσ7 H locs hP hS => ?_)
    have hf := bnd_at σ7 eσ7 hf
    obtain ⟨v8, ev8⟩ : ∃ z : Int32, z = q3.1 + 1 := ⟨_, rfl⟩
    have hf := bnd_at v8 ev8 hf
    refine lv_iinc (v := v8) (lv' := [(3, .int v8), (0, .ref (a sh0))]) hx hb dX4_begin_40 hl (k := 1) rfl (by rw [ev8]; rfl) (by decide) rfl (fun ls hl => ?_)
    refine lv_goto (tgt := 25) hx hb dX4_begin_43 (by decide) ?_
    exact ihk4 _ hf _ _ _ (lv_sub hl [1, 0] rfl) hP hS
set_option maxHeartbeats 4000000 in
set_option maxRecDepth 100000 in
theorem c_X4_hasElements (l : Launch) {D : va_G} {a : Nat → Nat} {cA : Nat → ClassId} {A : Nat → Prop} {sa : Nat → Nat} (hDA : DA a A) {σ : PH} {d : PD} {sh0 : Nat} (hsh0 : isShelf sh0) (p1 : Int32) (p2 : Int32) {u : Int32} (hf : f_X4_hasElements σ sh0 p1 p2 = u) : CTi l yX4_hasElements cX4_hasElements 3 (some .boolean) 0 0 D a cA A sa [.ref (a sh0), .int p1, .int p2] σ d u σ d := by
  refine zz_metZ zpl_X4 hDA (Nat.le_of_ble_eq_true rfl) ?_
  intro p e R s m args below meth c Q ls hx hb hml C hRf hRl hQ hP hS hl
  have hl : lv_has ls 3 [(0, .ref (a sh0)), (1, .int p1), (2, .int p2)] := hl
  unfold f_X4_hasElements at hf
  refine lv_iload_n hx hb dX4_hasElements_0 rfl (lv_at hl 1 rfl) ?_
  refine lv_if_lt (tgt := 30) hx hb dX4_hasElements_1 (by decide) (fun hb0 => ?_) (fun hb0 => ?_)
  · have hf := ifT hb0 hf
    refine lv_iconst (v := 0) hx hb dX4_hasElements_30 (by decide) ?_
    subst hf
    exact hQ _ _ _ _ dX4_hasElements_31 (show narrow .boolean (.int 0) = .int 0 from rfl) hP hS
  · have hf := ifF hb0 hf
    refine lv_iload_n hx hb dX4_hasElements_4 rfl (lv_at hl 2 rfl) ?_
    refine lv_if_lt (tgt := 30) hx hb dX4_hasElements_5 (by decide) (fun hb1 => ?_) (fun hb1 => ?_)
    · have hf := ifT hb1 hf
      refine lv_iconst (v := 0) hx hb dX4_hasElements_30 (by decide) ?_
      subst hf
      exact hQ _ _ _ _ dX4_hasElements_31 (show narrow .boolean (.int 0) = .int 0 from rfl) hP hS
    · have hf := ifF hb1 hf
      refine lv_iload_n hx hb dX4_hasElements_8 rfl (lv_at hl 2 rfl) ?_
      refine lv_aload_n hx hb dX4_hasElements_9 rfl (lv_at hl 0 rfl) ?_
      refine zg_X4_15 hx hb C hP (lts0 hsh0) (lay_s0 hsh0) rfl dX4_hasElements_10 ?_
      refine lv_icmp_gt (tgt := 30) hx hb dX4_hasElements_13 (by decide) (fun hb2 => ?_) (fun hb2 => ?_)
      · have hf := ifT hb2 hf
        refine lv_iconst (v := 0) hx hb dX4_hasElements_30 (by decide) ?_
        subst hf
        exact hQ _ _ _ _ dX4_hasElements_31 (show narrow .boolean (.int 0) = .int 0 from rfl) hP hS
      · have hf := ifF hb2 hf
        refine lv_iload_n hx hb dX4_hasElements_16 rfl (lv_at hl 1 rfl) ?_
        refine lv_aload_n hx hb dX4_hasElements_17 rfl (lv_at hl 0 rfl) ?_
        refine zg_X4_15 hx hb C hP (lts0 hsh0) (lay_s0 hsh0) rfl dX4_hasElements_18 ?_
        refine lv_iload_n hx hb dX4_hasElements_21 rfl (lv_at hl 2 rfl) ?_
        refine lv_isub hx hb dX4_hasElements_22 ?_
        refine lv_icmp_gt (tgt := 30) hx hb dX4_hasElements_23 (by decide) (fun hb3 => ?_) (fun hb3 => ?_)
        · have hf := ifT hb3 hf
          refine lv_iconst (v := 0) hx hb dX4_hasElements_30 (by decide) ?_
          subst hf
          exact hQ _ _ _ _ dX4_hasElements_31 (show narrow .boolean (.int 0) = .int 0 from rfl) hP hS
        · have hf := ifF hb3 hf
          refine lv_iconst (v := 1) hx hb dX4_hasElements_26 (by decide) ?_
          refine lv_goto (tgt := 31) hx hb dX4_hasElements_27 (by decide) ?_
          subst hf
          exact hQ _ _ _ _ dX4_hasElements_31 (show narrow .boolean (.int 1) = .int 1 from rfl) hP hS
set_option maxHeartbeats 4000000 in
set_option maxRecDepth 100000 in
theorem c_X4_put (l : Launch) {D : va_G} {a : Nat → Nat} {cA : Nat → ClassId} {A : Nat → Prop} {sa : Nat → Nat} (hDA : DA a A) {σ : PH} {d : PD} {sh0 : Nat} (hsh0 : isShelf sh0) (p1 : Int32) (p2 : Int64) {u : PH} (hf : f_X4_put σ sh0 p1 p2 = some u) : CTv l yX4_put cX4_put 4 none 1 21 D a cA A sa [.ref (a sh0), .int p1, .long p2] σ d u d := by
  refine zz_metV zpl_X4 hDA (Nat.le_of_ble_eq_true rfl) ?_
  intro p e R s m args below meth c Q ls hx hb hml C hRf hRl hQ hP hS hl
  have hl : lv_has ls 4 [(0, .ref (a sh0)), (1, .int p1), (2, .long p2)] := hl
  unfold f_X4_put at hf
  refine lv_aload_n hx hb dX4_put_0 rfl (lv_at hl 0 rfl) ?_
  refine lv_iload_n hx hb dX4_put_1 rfl (lv_at hl 1 rfl) ?_
  obtain ⟨u1, hzu1⟩ : ∃ z, z = f_X4_hasElement σ sh0 p1 := ⟨_, rfl⟩
  have hf := bnd_at u1 hzu1 hf
  refine zz_callVi (rest := []) hx hb hml C hP hS (c_X4_hasElement l hDA (sh0 := sh0) hsh0 p1 hzu1.symm) zw_X4_31 ⟨Nat.le_trans (Nat.le_of_ble_eq_true rfl) hRf, Nat.le_trans (Nat.le_of_ble_eq_true rfl) hRl⟩ (lts0 hsh0) (lay_s0 hsh0) rfl rfl hl.1 (Nat.le_of_ble_eq_true rfl) ⟨Nat.zero_le _, Nat.zero_le _⟩ rfl dX4_put_2 (fun H locs hP hS => ?_)
  refine lv_if_ne (tgt := 9) hx hb dX4_put_5 (by decide) (fun hb1 => ?_) (fun hb1 => ?_)
  · have hf := ifF hb1 hf
    refine lv_aload_n hx hb dX4_put_9 rfl (lv_at hl 0 rfl) ?_
    refine zg_X4_9 hx hb C hP (lts0 hsh0) (lay_s0 hsh0) rfl dX4_put_10 ?_
    refine lv_bipush (v := 100) hx hb dX4_put_13 (by decide) ?_
    refine lv_isub hx hb dX4_put_15 ?_
    by_cases hb2 : ((gI σ sh0 0) - 100) = 0
    · have hf := ifT hb2 hf
      refine lv_tableIn (tgt := 44) hx hb dX4_put_16 (by rw [hb2]; decide) (by rw [hb2]; decide) (by rw [hb2]; rfl) (by decide) ?_
      refine lv_aload_n hx hb dX4_put_44 rfl (lv_at hl 0 rfl) ?_
      refine zg_X4_18 hx hb C hP (lts0 hsh0) (lay_s0 hsh0) rfl dX4_put_45 ?_
      refine lv_iload_n hx hb dX4_put_48 rfl (lv_at hl 1 rfl) ?_
      refine lv_lload_n hx hb dX4_put_49 rfl (lv_at hl 2 rfl) ?_
      refine lv_l2i (v := p2.toInt32) hx hb dX4_put_50 rfl ?_
      refine lv_i2b (v := p2.toInt32.toInt8.toInt32) hx hb dX4_put_51 rfl ?_
      refine lv_i2l (v := p2.toInt32.toInt8.toInt32.toInt64) hx hb dX4_put_52 rfl ?_
      obtain ⟨hc3, hf⟩ := chk_some hf
      refine zz_last hx hb C hP hS (lts1 hsh0) (lay_s1 hsh0) (inb_vp hc3) dX4_put_53 (fun σ5 eσ5 H locs hP hS => ?_)
      have hf := bnd_at σ5 eσ5 hf
      refine lv_goto (tgt := 89) hx hb dX4_put_54 (by decide) ?_
      have hf := Option.some.inj hf
      subst hf
      exact hQ _ _ _ _ dX4_put_89 hP hS
    have hf := ifF hb2 hf
    by_cases hb5 : ((gI σ sh0 0) - 100) = 1
    · have hf := ifT hb5 hf
      refine lv_tableIn (tgt := 57) hx hb dX4_put_16 (by rw [hb5]; decide) (by rw [hb5]; decide) (by rw [hb5]; rfl) (by decide) ?_
      refine lv_aload_n hx hb dX4_put_57 rfl (lv_at hl 0 rfl) ?_
      refine zg_X4_18 hx hb C hP (lts0 hsh0) (lay_s0 hsh0) rfl dX4_put_58 ?_
      refine lv_iload_n hx hb dX4_put_61 rfl (lv_at hl 1 rfl) ?_
      refine lv_lload_n hx hb dX4_put_62 rfl (lv_at hl 2 rfl) ?_
      refine lv_l2i (v := p2.toInt32) hx hb dX4_put_63 rfl ?_
      refine lv_i2s (v := p2.toInt32.toInt16.toInt32) hx hb dX4_put_64 rfl ?_
      refine lv_i2l (v := p2.toInt32.toInt16.toInt32.toInt64) hx hb dX4_put_65 rfl ?_
      obtain ⟨hc6, hf⟩ := chk_some hf
      refine zz_last hx hb C hP hS (lts1 hsh0) (lay_s1 hsh0) (inb_vp hc6) dX4_put_66 (fun σ8 eσ8 H locs hP hS => ?_)
      have hf := bnd_at σ8 eσ8 hf
      refine lv_goto (tgt := 89) hx hb dX4_put_67 (by decide) ?_
      have hf := Option.some.inj hf
      subst hf
      exact hQ _ _ _ _ dX4_put_89 hP hS
    have hf := ifF hb5 hf
    by_cases hb8 : ((gI σ sh0 0) - 100) = 2
    · have hf := ifT hb8 hf
      refine lv_tableIn (tgt := 70) hx hb dX4_put_16 (by rw [hb8]; decide) (by rw [hb8]; decide) (by rw [hb8]; rfl) (by decide) ?_
      refine lv_aload_n hx hb dX4_put_70 rfl (lv_at hl 0 rfl) ?_
      refine zg_X4_18 hx hb C hP (lts0 hsh0) (lay_s0 hsh0) rfl dX4_put_71 ?_
      refine lv_iload_n hx hb dX4_put_74 rfl (lv_at hl 1 rfl) ?_
      refine lv_lload_n hx hb dX4_put_75 rfl (lv_at hl 2 rfl) ?_
      refine lv_l2i (v := p2.toInt32) hx hb dX4_put_76 rfl ?_
      refine lv_i2l (v := p2.toInt32.toInt64) hx hb dX4_put_77 rfl ?_
      obtain ⟨hc9, hf⟩ := chk_some hf
      refine zz_last hx hb C hP hS (lts1 hsh0) (lay_s1 hsh0) (inb_vp hc9) dX4_put_78 (fun σ11 eσ11 H locs hP hS => ?_)
      have hf := bnd_at σ11 eσ11 hf
      refine lv_goto (tgt := 89) hx hb dX4_put_79 (by decide) ?_
      have hf := Option.some.inj hf
      subst hf
      exact hQ _ _ _ _ dX4_put_89 hP hS
    have hf := ifF hb8 hf
    refine lv_tableOut (tgt := 82) hx hb dX4_put_16 (sw_0_2 hb2 hb5 hb8) (by decide) ?_
    refine lv_aload_n hx hb dX4_put_82 rfl (lv_at hl 0 rfl) ?_
    refine zg_X4_18 hx hb C hP (lts0 hsh0) (lay_s0 hsh0) rfl dX4_put_83 ?_
    refine lv_iload_n hx hb dX4_put_86 rfl (lv_at hl 1 rfl) ?_
    refine lv_lload_n hx hb dX4_put_87 rfl (lv_at hl 2 rfl) ?_
    obtain ⟨hc11, hf⟩ := chk_some hf
    refine zz_last hx hb C hP hS (lts1 hsh0) (lay_s1 hsh0) (inb_vp hc11) dX4_put_88 (fun σ13 eσ13 H locs hP hS => ?_)
    have hf := bnd_at σ13 eσ13 hf
    have hf := Option.some.inj hf
    subst hf
    exact hQ _ _ _ _ dX4_put_89 hP hS
  · have hf := ifT hb1 hf
    have hf := Option.some.inj hf
    subst hf
    exact hQ _ _ _ _ dX4_put_8 hP hS
set_option maxHeartbeats 4000000 in
set_option maxRecDepth 100000 in
theorem c_X5_areSets (l : Launch) {D : va_G} {a : Nat → Nat} {cA : Nat → ClassId} {A : Nat → Prop} {sa : Nat → Nat} (hDA : DA a A) {σ : PH} {d : PD} {h : Nat} (hh : isHall h) {sh2 : Nat} (hsh2 : isShelf sh2) (p3 : Int32) {u : Int32} (hf : f_X5_areSets σ h sh2 p3 = some u) : CTi l yX5_areSets cX5_areSets 5 (some .boolean) 2 42 D a cA A sa [.ref (a 11), .ref (a h), .ref (a sh2), .int p3] σ d u σ d := by
  refine zz_metZ zpl_X5 hDA (Nat.le_of_ble_eq_true rfl) ?_
  intro p e R s m args below meth c Q ls hx hb hml C hRf hRl hQ hP hS hl
  have hl : lv_has ls 5 [(0, .ref (a 11)), (1, .ref (a h)), (2, .ref (a sh2)), (3, .int p3)] := hl
  unfold f_X5_areSets at hf
  refine lv_iconst (v := 0) hx hb dX5_areSets_0 (by decide) ?_
  refine lv_istore (lv' := [(4, .int 0), (0, .ref (a 11)), (1, .ref (a h)), (2, .ref (a sh2)), (3, .int p3)]) hx hb dX5_areSets_1 hl (by decide) rfl (fun ls hl => ?_)
  refine loopN_ind (P := fun (q1 : Int32) => ∀ (H : Heap) (locs : List Loc) (ls : Array Slot), lv_has ls 5 [(1, .ref (a h)), (2, .ref (a sh2)), (3, .int p3), (4, .int q1)] → va_P D vwCl (wl a cA σ d) H → va_S A s.heap H locs → W p l e R s m args below meth c H locs 0 0 Q (F0 m 3 ls [])) ?_ _ _ hf _ _ _ (lv_sub hl [2, 3, 4, 0] rfl) hP hS
  intro k2 ihk2 q1 hf H locs ls hl hP hS
  unfold b_X5_areSets_3 at hf
  refine lv_iload hx hb dX5_areSets_3 (lv_at hl 3 rfl) ?_
  refine lv_iload_n hx hb dX5_areSets_5 rfl (lv_at hl 2 rfl) ?_
  refine lv_icmp_ge (tgt := 33) hx hb dX5_areSets_6 (by decide) (fun hb2 => ?_) (fun hb2 => ?_)
  · have hf := ifT hb2 hf
    refine lv_iconst (v := 1) hx hb dX5_areSets_33 (by decide) ?_
    have hf := Option.some.inj hf
    subst hf
    exact hQ _ _ _ _ dX5_areSets_34 (show narrow .boolean (.int 1) = .int 1 from rfl) hP hS
  · have hf := ifF hb2 hf
    refine lv_aload_n hx hb dX5_areSets_9 rfl (lv_at hl 0 rfl) ?_
    refine zg_X5_34 hx hb C hP (lth0 hh) (lay_h0 hh) rfl dX5_areSets_10 ?_
    refine lv_aload_n hx hb dX5_areSets_13 rfl (lv_at hl 1 rfl) ?_
    refine lv_iload hx hb dX5_areSets_14 (lv_at hl 3 rfl) ?_
    obtain ⟨u4, hzu4, hf⟩ := obd_some hf
    refine zz_callVi (rest := [.ref (a (h + 1))]) hx hb hml C hP hS (c_X4_asInt l hDA (sh0 := sh2) hsh2 q1 hzu4) zw_X5_40 ⟨Nat.le_trans (Nat.le_of_ble_eq_true rfl) hRf, Nat.le_trans (Nat.le_of_ble_eq_true rfl) hRl⟩ (lts0 hsh2) (lay_s0 hsh2) rfl rfl hl.1 (Nat.le_of_ble_eq_true rfl) ⟨Nat.zero_le _, Nat.zero_le _⟩ rfl dX5_areSets_16 (fun H locs hP hS => ?_)
    obtain ⟨u5, hzu5⟩ : ∃ z, z = f_X0_isSet σ h u4 := ⟨_, rfl⟩
    have hf := bnd_at u5 hzu5 hf
    refine zz_callVi (rest := []) hx hb hml C hP hS (c_X0_isSet l hDA (h := h) hh u4 hzu5.symm) zw_X5_46 ⟨Nat.le_trans (Nat.le_of_ble_eq_true rfl) hRf, Nat.le_trans (Nat.le_of_ble_eq_true rfl) hRl⟩ (lth hh 1 (by decide)) (lay_h1 hh) rfl rfl hl.1 (Nat.le_of_ble_eq_true rfl) ⟨Nat.zero_le _, Nat.zero_le _⟩ rfl dX5_areSets_19 (fun H locs hP hS => ?_)
    refine lv_if_ne (tgt := 27) hx hb dX5_areSets_22 (by decide) (fun hb5 => ?_) (fun hb5 => ?_)
    · have hf := ifF hb5 hf
      obtain ⟨v7, ev7⟩ : ∃ z : Int32, z = q1 + 1 := ⟨_, rfl⟩
      have hf := bnd_at v7 ev7 hf
      refine lv_iinc (v := v7) (lv' := [(4, .int v7), (1, .ref (a h)), (2, .ref (a sh2)), (3, .int p3)]) hx hb dX5_areSets_27 hl (k := 3) rfl (by rw [ev7]; rfl) (by decide) rfl (fun ls hl => ?_)
      refine lv_goto (tgt := 3) hx hb dX5_areSets_30 (by decide) ?_
      exact ihk2 _ hf _ _ _ (lv_sub hl [1, 2, 3, 0] rfl) hP hS
    · have hf := ifT hb5 hf
      refine lv_iconst (v := 0) hx hb dX5_areSets_25 (by decide) ?_
      have hf := Option.some.inj hf
      subst hf
      exact hQ _ _ _ _ dX5_areSets_26 (show narrow .boolean (.int 0) = .int 0 from rfl) hP hS
set_option maxHeartbeats 4000000 in
set_option maxRecDepth 100000 in
theorem c_X5_arePairs (l : Launch) {D : va_G} {a : Nat → Nat} {cA : Nat → ClassId} {A : Nat → Prop} {sa : Nat → Nat} (hDA : DA a A) {σ : PH} {d : PD} {h : Nat} (hh : isHall h) {sh2 : Nat} (hsh2 : isShelf sh2) (p3 : Int32) {u : Int32} (hf : f_X5_arePairs σ h sh2 p3 = some u) : CTi l yX5_arePairs cX5_arePairs 7 (some .boolean) 2 42 D a cA A sa [.ref (a 11), .ref (a h), .ref (a sh2), .int p3] σ d u σ d := by
  refine zz_metZ zpl_X5 hDA (Nat.le_of_ble_eq_true rfl) ?_
  intro p e R s m args below meth c Q ls hx hb hml C hRf hRl hQ hP hS hl
  have hl : lv_has ls 7 [(0, .ref (a 11)), (1, .ref (a h)), (2, .ref (a sh2)), (3, .int p3)] := hl
  unfold f_X5_arePairs at hf
  refine lv_iconst (v := 0) hx hb dX5_arePairs_0 (by decide) ?_
  refine lv_istore (lv' := [(4, .int 0), (0, .ref (a 11)), (1, .ref (a h)), (2, .ref (a sh2)), (3, .int p3)]) hx hb dX5_arePairs_1 hl (by decide) rfl (fun ls hl => ?_)
  refine loopN_ind (P := fun (q1 : Int32) => ∀ (H : Heap) (locs : List Loc) (ls : Array Slot), lv_has ls 7 [(1, .ref (a h)), (2, .ref (a sh2)), (3, .int p3), (4, .int q1)] → va_P D vwCl (wl a cA σ d) H → va_S A s.heap H locs → W p l e R s m args below meth c H locs 0 0 Q (F0 m 3 ls [])) ?_ _ _ hf _ _ _ (lv_sub hl [2, 3, 4, 0] rfl) hP hS
  intro k2 ihk2 q1 hf H locs ls hl hP hS
  unfold b_X5_arePairs_3 at hf
  refine lv_iload hx hb dX5_arePairs_3 (lv_at hl 3 rfl) ?_
  refine lv_iload_n hx hb dX5_arePairs_5 rfl (lv_at hl 2 rfl) ?_
  refine lv_icmp_ge (tgt := 67) hx hb dX5_arePairs_6 (by decide) (fun hb2 => ?_) (fun hb2 => ?_)
  · have hf := ifT hb2 hf
    refine lv_iconst (v := 1) hx hb dX5_arePairs_67 (by decide) ?_
    have hf := Option.some.inj hf
    subst hf
    exact hQ _ _ _ _ dX5_arePairs_68 (show narrow .boolean (.int 1) = .int 1 from rfl) hP hS
  · have hf := ifF hb2 hf
    refine lv_aload_n hx hb dX5_arePairs_9 rfl (lv_at hl 1 rfl) ?_
    refine lv_iload hx hb dX5_arePairs_10 (lv_at hl 3 rfl) ?_
    obtain ⟨u4, hzu4, hf⟩ := obd_some hf
    refine zz_callVi (rest := []) hx hb hml C hP hS (c_X4_asInt l hDA (sh0 := sh2) hsh2 q1 hzu4) zw_X5_40 ⟨Nat.le_trans (Nat.le_of_ble_eq_true rfl) hRf, Nat.le_trans (Nat.le_of_ble_eq_true rfl) hRl⟩ (lts0 hsh2) (lay_s0 hsh2) rfl rfl hl.1 (Nat.le_of_ble_eq_true rfl) ⟨Nat.zero_le _, Nat.zero_le _⟩ rfl dX5_arePairs_12 (fun H locs hP hS => ?_)
    refine lv_istore (lv' := [(5, .int u4), (1, .ref (a h)), (2, .ref (a sh2)), (3, .int p3), (4, .int q1)]) hx hb dX5_arePairs_15 hl (by decide) rfl (fun ls hl => ?_)
    refine lv_iload hx hb dX5_arePairs_17 (lv_at hl 4 rfl) ?_
    refine lv_iconst (v := 1) hx hb dX5_arePairs_19 (by decide) ?_
    refine lv_iand hx hb dX5_arePairs_20 ?_
    refine lv_if_ne (tgt := 36) hx hb dX5_arePairs_21 (by decide) (fun hb4 => ?_) (fun hb4 => ?_)
    · have hf := ifF hb4 hf
      refine lv_iload hx hb dX5_arePairs_36 (lv_at hl 0 rfl) ?_
      have hJ47 : j_X5_arePairs_47 q1 k2 = some u → ∀ (H : Heap) (locs : List Loc) (ls : Array Slot), lv_has ls 7 [(1, .ref (a h)), (2, .ref (a sh2)), (3, .int p3), (4, .int q1)] → va_P D vwCl (wl a cA σ d) H → va_S A s.heap H locs → W p l e R s m args below meth c H locs 0 0 Q (F0 m 47 ls []) := by
        intro  hf H locs ls hl hP hS
        unfold j_X5_arePairs_47 at hf
        refine lv_iconst (v := 1) hx hb dX5_arePairs_47 (by decide) ?_
        refine lv_goto (tgt := 52) hx hb dX5_arePairs_48 (by decide) ?_
        refine lv_istore (lv' := [(6, .int 1), (1, .ref (a h)), (2, .ref (a sh2)), (3, .int p3), (4, .int q1)]) hx hb dX5_arePairs_52 hl (by decide) rfl (fun ls hl => ?_)
        refine lv_iload hx hb dX5_arePairs_54 (lv_at hl 0 rfl) ?_
        refine lv_if_ne (tgt := 61) hx hb dX5_arePairs_56 (by decide) (fun hb5 => ?_) (fun hb5 => ?_)
        · have hf := ifF hb5 hf
          obtain ⟨v7, ev7⟩ : ∃ z : Int32, z = q1 + 1 := ⟨_, rfl⟩
          have hf := bnd_at v7 ev7 hf
          refine lv_iinc (v := v7) (lv' := [(4, .int v7), (6, .int 1), (1, .ref (a h)), (2, .ref (a sh2)), (3, .int p3)]) hx hb dX5_arePairs_61 hl (k := 4) rfl (by rw [ev7]; rfl) (by decide) rfl (fun ls hl => ?_)
          refine lv_goto (tgt := 3) hx hb dX5_arePairs_64 (by decide) ?_
          exact ihk2 _ hf _ _ _ (lv_sub hl [2, 3, 4, 0] rfl) hP hS
        · have hf := ifT hb5 hf
          refine lv_iconst (v := 0) hx hb dX5_arePairs_59 (by decide) ?_
          have hf := Option.some.inj hf
          subst hf
          exact hQ _ _ _ _ dX5_arePairs_60 (show narrow .boolean (.int 0) = .int 0 from rfl) hP hS
      refine lv_if_eq (tgt := 47) hx hb dX5_arePairs_38 (by decide) (fun hb7 => ?_) (fun hb7 => ?_)
      · have hf := ifT hb7 hf
        exact hJ47  hf _ _ _ (lv_sub hl [1, 2, 3, 4] rfl) hP hS
      · have hf := ifF hb7 hf
        refine lv_iload hx hb dX5_arePairs_41 (lv_at hl 0 rfl) ?_
        refine lv_iconst (v := 1) hx hb dX5_arePairs_43 (by decide) ?_
        refine lv_icmp_ne (tgt := 51) hx hb dX5_arePairs_44 (by decide) (fun hb8 => ?_) (fun hb8 => ?_)
        · have hf := ifF hb8 hf
          refine lv_iconst (v := 0) hx hb dX5_arePairs_51 (by decide) ?_
          refine lv_istore (lv' := [(6, .int 0), (5, .int u4), (1, .ref (a h)), (2, .ref (a sh2)), (3, .int p3), (4, .int q1)]) hx hb dX5_arePairs_52 hl (by decide) rfl (fun ls hl => ?_)
          refine lv_iload hx hb dX5_arePairs_54 (lv_at hl 0 rfl) ?_
          refine lv_if_ne (tgt := 61) hx hb dX5_arePairs_56 (by decide) (fun hb9 => ?_) (fun hb9 => ?_)
          · have hf := ifF hb9 hf
            obtain ⟨v11, ev11⟩ : ∃ z : Int32, z = q1 + 1 := ⟨_, rfl⟩
            have hf := bnd_at v11 ev11 hf
            refine lv_iinc (v := v11) (lv' := [(4, .int v11), (6, .int 0), (5, .int u4), (1, .ref (a h)), (2, .ref (a sh2)), (3, .int p3)]) hx hb dX5_arePairs_61 hl (k := 5) rfl (by rw [ev11]; rfl) (by decide) rfl (fun ls hl => ?_)
            refine lv_goto (tgt := 3) hx hb dX5_arePairs_64 (by decide) ?_
            exact ihk2 _ hf _ _ _ (lv_sub hl [3, 4, 5, 0] rfl) hP hS
          · have hf := ifT hb9 hf
            refine lv_iconst (v := 0) hx hb dX5_arePairs_59 (by decide) ?_
            have hf := Option.some.inj hf
            subst hf
            exact hQ _ _ _ _ dX5_arePairs_60 (show narrow .boolean (.int 0) = .int 0 from rfl) hP hS
        · have hf := ifT hb8 hf
          exact hJ47  hf _ _ _ (lv_sub hl [1, 2, 3, 4] rfl) hP hS
    · have hf := ifT hb4 hf
      refine lv_aload_n hx hb dX5_arePairs_24 rfl (lv_at hl 1 rfl) ?_
      refine zg_X5_34 hx hb C hP (lth0 hh) (lay_h0 hh) rfl dX5_arePairs_25 ?_
      refine lv_iload hx hb dX5_arePairs_28 (lv_at hl 0 rfl) ?_
      obtain ⟨u12, hzu12⟩ : ∃ z, z = f_X0_isSet σ h u4 := ⟨_, rfl⟩
      have hf := bnd_at u12 hzu12 hf
      refine zz_callVi (rest := []) hx hb hml C hP hS (c_X0_isSet l hDA (h := h) hh u4 hzu12.symm) zw_X5_46 ⟨Nat.le_trans (Nat.le_of_ble_eq_true rfl) hRf, Nat.le_trans (Nat.le_of_ble_eq_true rfl) hRl⟩ (lth hh 1 (by decide)) (lay_h1 hh) rfl rfl hl.1 (Nat.le_of_ble_eq_true rfl) ⟨Nat.zero_le _, Nat.zero_le _⟩ rfl dX5_arePairs_30 (fun H locs hP hS => ?_)
      refine lv_goto (tgt := 52) hx hb dX5_arePairs_33 (by decide) ?_
      refine lv_istore (lv' := [(6, .int u12), (5, .int u4), (1, .ref (a h)), (2, .ref (a sh2)), (3, .int p3), (4, .int q1)]) hx hb dX5_arePairs_52 hl (by decide) rfl (fun ls hl => ?_)
      refine lv_iload hx hb dX5_arePairs_54 (lv_at hl 0 rfl) ?_
      refine lv_if_ne (tgt := 61) hx hb dX5_arePairs_56 (by decide) (fun hb12 => ?_) (fun hb12 => ?_)
      · have hf := ifF hb12 hf
        obtain ⟨v14, ev14⟩ : ∃ z : Int32, z = q1 + 1 := ⟨_, rfl⟩
        have hf := bnd_at v14 ev14 hf
        refine lv_iinc (v := v14) (lv' := [(4, .int v14), (6, .int u12), (5, .int u4), (1, .ref (a h)), (2, .ref (a sh2)), (3, .int p3)]) hx hb dX5_arePairs_61 hl (k := 5) rfl (by rw [ev14]; rfl) (by decide) rfl (fun ls hl => ?_)
        refine lv_goto (tgt := 3) hx hb dX5_arePairs_64 (by decide) ?_
        exact ihk2 _ hf _ _ _ (lv_sub hl [3, 4, 5, 0] rfl) hP hS
      · have hf := ifT hb12 hf
        refine lv_iconst (v := 0) hx hb dX5_arePairs_59 (by decide) ?_
        have hf := Option.some.inj hf
        subst hf
        exact hQ _ _ _ _ dX5_arePairs_60 (show narrow .boolean (.int 0) = .int 0 from rfl) hP hS
set_option maxHeartbeats 4000000 in
set_option maxRecDepth 100000 in
theorem c_X5_sortIn (l : Launch) {D : va_G} {a : Nat → Nat} {cA : Nat → ClassId} {A : Nat → Prop} {sa : Nat → Nat} (hDA : DA a A) {σ : PH} {d : PD} (p1 : Int32) {u : PH} (hf : f_X5_sortIn σ p1 = some u) : CTv l yX5_sortIn cX5_sortIn 3 none 1 21 D a cA A sa [.ref (a 11), .int p1] σ d u d := by
  refine zz_metV zpl_X5 hDA (Nat.le_of_ble_eq_true rfl) ?_
  intro p e R s m args below meth c Q ls hx hb hml C hRf hRl hQ hP hS hl
  have hl : lv_has ls 3 [(0, .ref (a 11)), (1, .int p1)] := hl
  unfold f_X5_sortIn at hf
  refine lv_iconst (v := 0) hx hb dX5_sortIn_0 (by decide) ?_
  refine lv_istore_n (lv' := [(2, .int 0), (0, .ref (a 11)), (1, .int p1)]) hx hb dX5_sortIn_1 rfl hl (by decide) rfl (fun ls hl => ?_)
  have hJ26 : ∀ (v1 : Int32), j_X5_sortIn_26 σ p1 v1 = some u → ∀ (H : Heap) (locs : List Loc) (ls : Array Slot), lv_has ls 3 [(0, .ref (a 11)), (1, .int p1), (2, .int v1)] → va_P D vwCl (wl a cA σ d) H → va_S A s.heap H locs → W p l e R s m args below meth c H locs 0 0 Q (F0 m 26 ls []) := by
    intro v1 hf H locs ls hl hP hS
    unfold j_X5_sortIn_26 at hf
    refine lv_iload_n hx hb dX5_sortIn_26 rfl (lv_at hl 2 rfl) ?_
    refine lv_aload_n hx hb dX5_sortIn_27 rfl (lv_at hl 0 rfl) ?_
    refine zg_X5_20 hx hb C hP (by decide) lay_11 rfl dX5_sortIn_28 ?_
    have hJ70 : ∀ (σ2 : PH), j_X5_sortIn_70 v1 σ2 = some u → ∀ (H : Heap) (locs : List Loc) (ls : Array Slot), lv_has ls 3 [(0, .ref (a 11)), (2, .int v1)] → va_P D vwCl (wl a cA σ2 d) H → va_S A s.heap H locs → W p l e R s m args below meth c H locs 0 0 Q (F0 m 70 ls []) := by
      intro σ2 hf H locs ls hl hP hS
      unfold j_X5_sortIn_70 at hf
      refine lv_iload_n hx hb dX5_sortIn_70 rfl (lv_at hl 1 rfl) ?_
      refine lv_aload_n hx hb dX5_sortIn_71 rfl (lv_at hl 0 rfl) ?_
      refine zg_X5_20 hx hb C hP (by decide) lay_11 rfl dX5_sortIn_72 ?_
      refine lv_icmp_ge (tgt := 105) hx hb dX5_sortIn_75 (by decide) (fun hb2 => ?_) (fun hb2 => ?_)
      · have hf := ifT hb2 hf
        have hf := Option.some.inj hf
        subst hf
        exact hQ _ _ _ _ dX5_sortIn_105 hP hS
      · have hf := ifF hb2 hf
        refine lv_aload_n hx hb dX5_sortIn_78 rfl (lv_at hl 0 rfl) ?_
        refine zg_X5_17 hx hb C hP (by decide) lay_11 rfl dX5_sortIn_79 ?_
        refine lv_iload_n hx hb dX5_sortIn_82 rfl (lv_at hl 1 rfl) ?_
        refine lv_dup2_11 hx hb dX5_sortIn_83 rfl rfl ?_
        obtain ⟨hc3, hf⟩ := chk_some hf
        refine zz_iald hx hb C hP (by decide) lay_13 (inb_vp hc3) dX5_sortIn_84 ?_
        refine lv_iconst (v := 1) hx hb dX5_sortIn_85 (by decide) ?_
        refine lv_iadd hx hb dX5_sortIn_86 ?_
        obtain ⟨hc4, hf⟩ := chk_some hf
        refine zz_iast hx hb C hP hS (by decide) lay_13 (inb_vp hc4) dX5_sortIn_87 (fun σ6 eσ6 H locs hP hS => ?_)
        have hf := bnd_at σ6 eσ6 hf
        refine lv_aload_n hx hb dX5_sortIn_88 rfl (lv_at hl 0 rfl) ?_
        refine lv_aload_n hx hb dX5_sortIn_89 rfl (lv_at hl 0 rfl) ?_
        refine zg_X5_24 hx hb C hP (by decide) lay_11 rfl dX5_sortIn_90 ?_
        refine lv_aload_n hx hb dX5_sortIn_93 rfl (lv_at hl 0 rfl) ?_
        refine zg_X5_17 hx hb C hP (by decide) lay_11 rfl dX5_sortIn_94 ?_
        refine lv_iload_n hx hb dX5_sortIn_97 rfl (lv_at hl 1 rfl) ?_
        obtain ⟨hc6, hf⟩ := chk_some hf
        refine zz_iald hx hb C hP (by decide) lay_13 (inb_vp hc6) dX5_sortIn_98 ?_
        refine zz_max hx hb (hml.trans hl.1.symm) C km_X5_73 kt_Lib_Math_max_name kn_J9 kc_Lib_Math_max_name (Nat.le_trans (by decide) hRf) (Nat.le_trans (Nat.le_of_ble_eq_true rfl) hRl) ⟨Nat.zero_le _, Nat.zero_le _⟩ dX5_sortIn_99 ?_
        refine zp_X5_24 hx hb C hP hS (by decide) lay_11 rfl dX5_sortIn_102 (fun σ8 eσ8 H locs hP hS => ?_)
        have hf := bnd_at σ8 eσ8 hf
        have hf := Option.some.inj hf
        subst hf
        exact hQ _ _ _ _ dX5_sortIn_105 hP hS
    refine lv_icmp_ne (tgt := 70) hx hb dX5_sortIn_31 (by decide) (fun hb8 => ?_) (fun hb8 => ?_)
    · have hf := ifF hb8 hf
      exact hJ70 _ hf _ _ _ (lv_sub hl [0, 2] rfl) hP hS
    · have hf := ifT hb8 hf
      refine lv_aload_n hx hb dX5_sortIn_34 rfl (lv_at hl 0 rfl) ?_
      refine zg_X5_20 hx hb C hP (by decide) lay_11 rfl dX5_sortIn_35 ?_
      refine lv_aload_n hx hb dX5_sortIn_38 rfl (lv_at hl 0 rfl) ?_
      refine zg_X5_11 hx hb C hP (by decide) lay_11 rfl dX5_sortIn_39 ?_
      refine zz_alen (v := 92) hx hb C hP (by decide) lay_12 (by decide) dX5_sortIn_42 ?_
      refine lv_icmp_ge (tgt := 70) hx hb dX5_sortIn_43 (by decide) (fun hb9 => ?_) (fun hb9 => ?_)
      · have hf := ifT hb9 hf
        exact hJ70 _ hf _ _ _ (lv_sub hl [0, 2] rfl) hP hS
      · have hf := ifF hb9 hf
        refine lv_aload_n hx hb dX5_sortIn_46 rfl (lv_at hl 0 rfl) ?_
        refine zg_X5_11 hx hb C hP (by decide) lay_11 rfl dX5_sortIn_47 ?_
        refine lv_iload_n hx hb dX5_sortIn_50 rfl (lv_at hl 2 rfl) ?_
        refine lv_iload_n hx hb dX5_sortIn_51 rfl (lv_at hl 1 rfl) ?_
        obtain ⟨hc10, hf⟩ := chk_some hf
        refine zz_iast hx hb C hP hS (by decide) lay_12 (inb_vp hc10) dX5_sortIn_52 (fun σ12 eσ12 H locs hP hS => ?_)
        have hf := bnd_at σ12 eσ12 hf
        refine lv_aload_n hx hb dX5_sortIn_53 rfl (lv_at hl 0 rfl) ?_
        refine zg_X5_17 hx hb C hP (by decide) lay_11 rfl dX5_sortIn_54 ?_
        refine lv_iload_n hx hb dX5_sortIn_57 rfl (lv_at hl 2 rfl) ?_
        refine lv_iconst (v := 0) hx hb dX5_sortIn_58 (by decide) ?_
        obtain ⟨hc12, hf⟩ := chk_some hf
        refine zz_iast hx hb C hP hS (by decide) lay_13 (inb_vp hc12) dX5_sortIn_59 (fun σ14 eσ14 H locs hP hS => ?_)
        have hf := bnd_at σ14 eσ14 hf
        refine lv_aload_n hx hb dX5_sortIn_60 rfl (lv_at hl 0 rfl) ?_
        refine lv_dup hx hb dX5_sortIn_61 rfl ?_
        refine zg_X5_20 hx hb C hP (by decide) lay_11 rfl dX5_sortIn_62 ?_
        refine lv_iconst (v := 1) hx hb dX5_sortIn_65 (by decide) ?_
        refine lv_iadd hx hb dX5_sortIn_66 ?_
        refine zp_X5_20 hx hb C hP hS (by decide) lay_11 rfl dX5_sortIn_67 (fun σ15 eσ15 H locs hP hS => ?_)
        have hf := bnd_at σ15 eσ15 hf
        exact hJ70 _ hf _ _ _ (lv_sub hl [0, 2] rfl) hP hS
  refine loopN_ind (P := fun (q16 : Int32) => ∀ (H : Heap) (locs : List Loc) (ls : Array Slot), lv_has ls 3 [(0, .ref (a 11)), (1, .int p1), (2, .int q16)] → va_P D vwCl (wl a cA σ d) H → va_S A s.heap H locs → W p l e R s m args below meth c H locs 0 0 Q (F0 m 2 ls [])) ?_ _ _ hf _ _ _ (lv_sub hl [1, 2, 0] rfl) hP hS
  intro k17 ihk17 q16 hf H locs ls hl hP hS
  unfold b_X5_sortIn_2 at hf
  refine lv_iload_n hx hb dX5_sortIn_2 rfl (lv_at hl 2 rfl) ?_
  refine lv_aload_n hx hb dX5_sortIn_3 rfl (lv_at hl 0 rfl) ?_
  refine zg_X5_20 hx hb C hP (by decide) lay_11 rfl dX5_sortIn_4 ?_
  refine lv_icmp_ge (tgt := 26) hx hb dX5_sortIn_7 (by decide) (fun hb17 => ?_) (fun hb17 => ?_)
  · have hf := ifT hb17 hf
    exact hJ26 _ hf _ _ _ (lv_sub hl [0, 1, 2] rfl) hP hS
  · have hf := ifF hb17 hf
    refine lv_aload_n hx hb dX5_sortIn_10 rfl (lv_at hl 0 rfl) ?_
    refine zg_X5_11 hx hb C hP (by decide) lay_11 rfl dX5_sortIn_11 ?_
    refine lv_iload_n hx hb dX5_sortIn_14 rfl (lv_at hl 2 rfl) ?_
    obtain ⟨hc18, hf⟩ := chk_some hf
    refine zz_iald hx hb C hP (by decide) lay_12 (inb_vp hc18) dX5_sortIn_15 ?_
    refine lv_iload_n hx hb dX5_sortIn_16 rfl (lv_at hl 1 rfl) ?_
    refine lv_icmp_eq (tgt := 26) hx hb dX5_sortIn_17 (by decide) (fun hb19 => ?_) (fun hb19 => ?_)
    · have hf := ifT hb19 hf
      exact hJ26 _ hf _ _ _ (lv_sub hl [0, 1, 2] rfl) hP hS
    · have hf := ifF hb19 hf
      obtain ⟨v21, ev21⟩ : ∃ z : Int32, z = q16 + 1 := ⟨_, rfl⟩
      have hf := bnd_at v21 ev21 hf
      refine lv_iinc (v := v21) (lv' := [(2, .int v21), (0, .ref (a 11)), (1, .int p1)]) hx hb dX5_sortIn_20 hl (k := 2) rfl (by rw [ev21]; rfl) (by decide) rfl (fun ls hl => ?_)
      refine lv_goto (tgt := 2) hx hb dX5_sortIn_23 (by decide) ?_
      exact ihk17 _ hf _ _ _ (lv_sub hl [1, 2, 0] rfl) hP hS
