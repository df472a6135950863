set_option maxHeartbeats 4000000 in
set_option maxRecDepth 100000 in
theorem c_X9_isWorld (l : Launch) {D : va_G} {a : Nat → Nat} {cA : Nat → ClassId} {A : Nat → Prop} {sa : Nat → Nat} (hDA : DA a A) {σ : PH} {d : PD} (p1 : Int32) {u : Int32} (hf : f_X9_isWorld σ p1 = some u) : CTi l yX9_isWorld cX9_isWorld 2 (some .boolean) 2 41 D a cA A sa [.ref (a 81), .int p1] σ d u σ d := by
  refine zz_metZ zpl_X9 hDA (Nat.le_of_ble_eq_true rfl) ?_
  intro p e R s m args below meth c Q ls hx hb hml C hRf hRl hQ hP hS hl
  have hl : lv_has ls 2 [(0, .ref (a 81)), (1, .int p1)] := hl
  unfold f_X9_isWorld at hf
  refine lv_aload_n hx hb dX9_isWorld_0 rfl (lv_at hl 0 rfl) ?_
  refine lv_iload_n hx hb dX9_isWorld_1 rfl (lv_at hl 1 rfl) ?_
  obtain ⟨u1, hzu1⟩ : ∃ z, z = f_X9_isSet σ p1 := ⟨_, rfl⟩
  have hf := bnd_at u1 hzu1 hf
  refine zz_callVi (rest := []) hx hb hml C hP hS (c_X9_isSet l hDA p1 hzu1.symm) zw_X9_172 ⟨Nat.le_trans (Nat.le_of_ble_eq_true rfl) hRf, Nat.le_trans (Nat.le_of_ble_eq_true rfl) hRl⟩ (by decide) lay_81 rfl rfl hl.1 (Nat.le_of_ble_eq_true rfl) ⟨Nat.zero_le _, Nat.zero_le _⟩ rfl dX9_isWorld_2 (fun H locs hP hS => ?_)
  refine lv_if_eq (tgt := 24) hx hb dX9_isWorld_5 (by decide) (fun hb1 => ?_) (fun hb1 => ?_)
  · have hf := ifT hb1 hf
    refine lv_iconst (v := 0) hx hb dX9_isWorld_24 (by decide) ?_
    have hf := Option.some.inj hf
    subst hf
    exact hQ _ _ _ _ dX9_isWorld_25 (show narrow .boolean (.int 0) = .int 0 from rfl) hP hS
  · have hf := ifF hb1 hf
    refine lv_aload_n hx hb dX9_isWorld_8 rfl (lv_at hl 0 rfl) ?_
    refine lv_iload_n hx hb dX9_isWorld_9 rfl (lv_at hl 1 rfl) ?_
    obtain ⟨u3, hzu3, hf⟩ := obd_some hf
    refine zz_callVi (rest := []) hx hb hml C hP hS (c_X9_count l hDA p1 hzu3) zw_X9_221 ⟨Nat.le_trans (Nat.le_of_ble_eq_true rfl) hRf, Nat.le_trans (Nat.le_of_ble_eq_true rfl) hRl⟩ (by decide) lay_81 rfl rfl hl.1 (Nat.le_of_ble_eq_true rfl) ⟨Nat.zero_le _, Nat.zero_le _⟩ rfl dX9_isWorld_10 (fun H locs hP hS => ?_)
    refine lv_aload_n hx hb dX9_isWorld_13 rfl (lv_at hl 0 rfl) ?_
    refine zg_X9_7 hx hb C hP (by decide) lay_81 rfl dX9_isWorld_14 ?_
    refine lv_icmp_gt (tgt := 24) hx hb dX9_isWorld_17 (by decide) (fun hb3 => ?_) (fun hb3 => ?_)
    · have hf := ifT hb3 hf
      refine lv_iconst (v := 0) hx hb dX9_isWorld_24 (by decide) ?_
      have hf := Option.some.inj hf
      subst hf
      exact hQ _ _ _ _ dX9_isWorld_25 (show narrow .boolean (.int 0) = .int 0 from rfl) hP hS
    · have hf := ifF hb3 hf
      refine lv_iconst (v := 1) hx hb dX9_isWorld_20 (by decide) ?_
      refine lv_goto (tgt := 25) hx hb dX9_isWorld_21 (by decide) ?_
      have hf := Option.some.inj hf
      subst hf
      exact hQ _ _ _ _ dX9_isWorld_25 (show narrow .boolean (.int 1) = .int 1 from rfl) hP hS
set_option maxHeartbeats 4000000 in
set_option maxRecDepth 100000 in
theorem c_X9_worlds (l : Launch) {D : va_G} {a : Nat → Nat} {cA : Nat → ClassId} {A : Nat → Prop} {sa : Nat → Nat} (hDA : DA a A) {σ : PH} {d : PD} (p1 : Int32) {u : Int32 × PH} (hf : f_X9_worlds σ p1 = some u) : CTi l yX9_worlds cX9_worlds 2 (some .int) 6 140 D a cA A sa [.ref (a 81), .int p1] σ d u.1 u.2 d := by
  refine zz_metI zpl_X9 hDA (Nat.le_of_ble_eq_true rfl) ?_
  intro p e R s m args below meth c Q ls hx hb hml C hRf hRl hQ hP hS hl
  have hl : lv_has ls 2 [(0, .ref (a 81)), (1, .int p1)] := hl
  unfold f_X9_worlds at hf
  refine lv_aload_n hx hb dX9_worlds_0 rfl (lv_at hl 0 rfl) ?_
  refine lv_iload_n hx hb dX9_worlds_1 rfl (lv_at hl 1 rfl) ?_
  obtain ⟨u1, hzu1⟩ : ∃ z, z = f_X9_isOne p1 := ⟨_, rfl⟩
  have hf := bnd_at u1 hzu1 hf
  refine zz_callVi (rest := []) hx hb hml C hP hS (c_X9_isOne l hDA p1 hzu1.symm) zw_X9_175 ⟨Nat.le_trans (Nat.le_of_ble_eq_true rfl) hRf, Nat.le_trans (Nat.le_of_ble_eq_true rfl) hRl⟩ (by decide) lay_81 rfl rfl hl.1 (Nat.le_of_ble_eq_true rfl) ⟨Nat.zero_le _, Nat.zero_le _⟩ rfl dX9_worlds_2 (fun H locs hP hS => ?_)
  refine lv_if_ne (tgt := 15) hx hb dX9_worlds_5 (by decide) (fun hb1 => ?_) (fun hb1 => ?_)
  · have hf := ifF hb1 hf
    refine lv_iload_n hx hb dX9_worlds_15 rfl (lv_at hl 1 rfl) ?_
    refine lv_if_ne (tgt := 26) hx hb dX9_worlds_16 (by decide) (fun hb2 => ?_) (fun hb2 => ?_)
    · have hf := ifF hb2 hf
      refine lv_aload_n hx hb dX9_worlds_26 rfl (lv_at hl 0 rfl) ?_
      obtain ⟨u4, hzu4, hf⟩ := obd_some hf
      refine zz_callVi (rest := []) hx hb hml C hP hS (c_X9_possible l hDA  hzu4) zw_X9_239 ⟨Nat.le_trans (Nat.le_of_ble_eq_true rfl) hRf, Nat.le_trans (Nat.le_of_ble_eq_true rfl) hRl⟩ (by decide) lay_81 rfl rfl hl.1 (Nat.le_of_ble_eq_true rfl) ⟨Nat.zero_le _, Nat.zero_le _⟩ rfl dX9_worlds_27 (fun H locs hP hS => ?_)
      have hf := Option.some.inj hf
      subst hf
      exact hQ _ _ _ _ dX9_worlds_30 hP hS
    · have hf := ifT hb2 hf
      refine lv_aload_n hx hb dX9_worlds_19 rfl (lv_at hl 0 rfl) ?_
      obtain ⟨u5, hzu5, hf⟩ := obd_some hf
      refine zz_callVi (rest := []) hx hb hml C hP hS (c_X9_lists l hDA  hzu5) zw_X9_233 ⟨Nat.le_trans (Nat.le_of_ble_eq_true rfl) hRf, Nat.le_trans (Nat.le_of_ble_eq_true rfl) hRl⟩ (by decide) lay_81 rfl rfl hl.1 (Nat.le_of_ble_eq_true rfl) ⟨Nat.zero_le _, Nat.zero_le _⟩ rfl dX9_worlds_20 (fun H locs hP hS => ?_)
      refine lv_goto (tgt := 30) hx hb dX9_worlds_23 (by decide) ?_
      have hf := Option.some.inj hf
      subst hf
      exact hQ _ _ _ _ dX9_worlds_30 hP hS
  · have hf := ifT hb1 hf
    refine lv_aload_n hx hb dX9_worlds_8 rfl (lv_at hl 0 rfl) ?_
    refine lv_bipush (v := (-5)) hx hb dX9_worlds_9 (by decide) ?_
    obtain ⟨u6, hzu6, hf⟩ := obd_some hf
    refine zz_callVi (rest := []) hx hb hml C hP hS (c_X9_no l hDA (-5) hzu6) zw_X9_107 ⟨Nat.le_trans (Nat.le_of_ble_eq_true rfl) hRf, Nat.le_trans (Nat.le_of_ble_eq_true rfl) hRl⟩ (by decide) lay_81 rfl rfl hl.1 (Nat.le_of_ble_eq_true rfl) ⟨Nat.zero_le _, Nat.zero_le _⟩ rfl dX9_worlds_11 (fun H locs hP hS => ?_)
    have hf := Option.some.inj hf
    subst hf
    exact hQ _ _ _ _ dX9_worlds_14 hP hS
set_option maxHeartbeats 4000000 in
set_option maxRecDepth 100000 in
theorem c_X9_world (l : Launch) {D : va_G} {a : Nat → Nat} {cA : Nat → ClassId} {A : Nat → Prop} {sa : Nat → Nat} (hDA : DA a A) {σ : PH} {d : PD} (p1 : Int32) {u : Int32 × PH} (hf : f_X9_world σ p1 = some u) : CTi l yX9_world cX9_world 2 (some .int) 6 140 D a cA A sa [.ref (a 81), .int p1] σ d u.1 u.2 d := by
  refine zz_metI zpl_X9 hDA (Nat.le_of_ble_eq_true rfl) ?_
  intro p e R s m args below meth c Q ls hx hb hml C hRf hRl hQ hP hS hl
  have hl : lv_has ls 2 [(0, .ref (a 81)), (1, .int p1)] := hl
  unfold f_X9_world at hf
  refine lv_iload_n hx hb dX9_world_0 rfl (lv_at hl 1 rfl) ?_
  refine lv_if_lt (tgt := 21) hx hb dX9_world_1 (by decide) (fun hb0 => ?_) (fun hb0 => ?_)
  · have hf := ifT hb0 hf
    refine lv_aload_n hx hb dX9_world_21 rfl (lv_at hl 0 rfl) ?_
    refine lv_bipush (v := (-5)) hx hb dX9_world_22 (by decide) ?_
    obtain ⟨u2, hzu2, hf⟩ := obd_some hf
    refine zz_callVi (rest := []) hx hb hml C hP hS (c_X9_no l hDA (-5) hzu2) zw_X9_107 ⟨Nat.le_trans (Nat.le_of_ble_eq_true rfl) hRf, Nat.le_trans (Nat.le_of_ble_eq_true rfl) hRl⟩ (by decide) lay_81 rfl rfl hl.1 (Nat.le_of_ble_eq_true rfl) ⟨Nat.zero_le _, Nat.zero_le _⟩ rfl dX9_world_24 (fun H locs hP hS => ?_)
    have hf := Option.some.inj hf
    subst hf
    exact hQ _ _ _ _ dX9_world_27 hP hS
  · have hf := ifF hb0 hf
    refine lv_iload_n hx hb dX9_world_4 rfl (lv_at hl 1 rfl) ?_
    refine lv_aload_n hx hb dX9_world_5 rfl (lv_at hl 0 rfl) ?_
    obtain ⟨u3, hzu3, hf⟩ := obd_some hf
    refine zz_callVi (rest := [.int p1]) hx hb hml C hP hS (c_X9_possible l hDA  hzu3) zw_X9_239 ⟨Nat.le_trans (Nat.le_of_ble_eq_true rfl) hRf, Nat.le_trans (Nat.le_of_ble_eq_true rfl) hRl⟩ (by decide) lay_81 rfl rfl hl.1 (Nat.le_of_ble_eq_true rfl) ⟨Nat.zero_le _, Nat.zero_le _⟩ rfl dX9_world_6 (fun H locs hP hS => ?_)
    refine lv_icmp_ge (tgt := 21) hx hb dX9_world_9 (by decide) (fun hb3 => ?_) (fun hb3 => ?_)
    · have hf := ifT hb3 hf
      refine lv_aload_n hx hb dX9_world_21 rfl (lv_at hl 0 rfl) ?_
      refine lv_bipush (v := (-5)) hx hb dX9_world_22 (by decide) ?_
      obtain ⟨u5, hzu5, hf⟩ := obd_some hf
      refine zz_callVi (rest := []) hx hb hml C hP hS (c_X9_no l hDA (-5) hzu5) zw_X9_107 ⟨Nat.le_trans (Nat.le_of_ble_eq_true rfl) hRf, Nat.le_trans (Nat.le_of_ble_eq_true rfl) hRl⟩ (by decide) lay_81 rfl rfl hl.1 (Nat.le_of_ble_eq_true rfl) ⟨Nat.zero_le _, Nat.zero_le _⟩ rfl dX9_world_24 (fun H locs hP hS => ?_)
      have hf := Option.some.inj hf
      subst hf
      exact hQ _ _ _ _ dX9_world_27 hP hS
    · have hf := ifF hb3 hf
      refine lv_aload_n hx hb dX9_world_12 rfl (lv_at hl 0 rfl) ?_
      refine zg_X9_81 hx hb C hP (by decide) lay_81 rfl dX9_world_13 ?_
      refine lv_iload_n hx hb dX9_world_16 rfl (lv_at hl 1 rfl) ?_
      obtain ⟨hc5, hf⟩ := chk_some hf
      refine zz_iald hx hb C hP (by decide) lay_101 (inb_vp hc5) dX9_world_17 ?_
      refine lv_goto (tgt := 27) hx hb dX9_world_18 (by decide) ?_
      have hf := Option.some.inj hf
      subst hf
      exact hQ _ _ _ _ dX9_world_27 hP hS
set_option maxHeartbeats 4000000 in
set_option maxRecDepth 100000 in
theorem c_X9_sounds (l : Launch) {D : va_G} {a : Nat → Nat} {cA : Nat → ClassId} {A : Nat → Prop} {sa : Nat → Nat} (hDA : DA a A) {σ : PH} {d : PD} (p1 : Int32) (p2 : Int32) {u : Int32 × PH} (hf : f_X9_sounds σ p1 p2 = some u) : CTi l yX9_sounds cX9_sounds 3 (some .int) 4 93 D a cA A sa [.ref (a 81), .int p1, .int p2] σ d u.1 u.2 d := by
  refine zz_metI zpl_X9 hDA (Nat.le_of_ble_eq_true rfl) ?_
  intro p e R s m args below meth c Q ls hx hb hml C hRf hRl hQ hP hS hl
  have hl : lv_has ls 3 [(0, .ref (a 81)), (1, .int p1), (2, .int p2)] := hl
  unfold f_X9_sounds at hf
  refine lv_aload_n hx hb dX9_sounds_0 rfl (lv_at hl 0 rfl) ?_
  refine lv_iload_n hx hb dX9_sounds_1 rfl (lv_at hl 1 rfl) ?_
  obtain ⟨u1, hzu1⟩ : ∃ z, z = f_X9_isSet σ p1 := ⟨_, rfl⟩
  have hf := bnd_at u1 hzu1 hf
  refine zz_callVi (rest := []) hx hb hml C hP hS (c_X9_isSet l hDA p1 hzu1.symm) zw_X9_172 ⟨Nat.le_trans (Nat.le_of_ble_eq_true rfl) hRf, Nat.le_trans (Nat.le_of_ble_eq_true rfl) hRl⟩ (by decide) lay_81 rfl rfl hl.1 (Nat.le_of_ble_eq_true rfl) ⟨Nat.zero_le _, Nat.zero_le _⟩ rfl dX9_sounds_2 (fun H locs hP hS => ?_)
  refine lv_if_eq (tgt := 25) hx hb dX9_sounds_5 (by decide) (fun hb1 => ?_) (fun hb1 => ?_)
  · have hf := ifT hb1 hf
    refine lv_aload_n hx hb dX9_sounds_25 rfl (lv_at hl 0 rfl) ?_
    refine lv_bipush (v := (-6)) hx hb dX9_sounds_26 (by decide) ?_
    obtain ⟨u3, hzu3, hf⟩ := obd_some hf
    refine zz_callVi (rest := []) hx hb hml C hP hS (c_X9_no l hDA (-6) hzu3) zw_X9_107 ⟨Nat.le_trans (Nat.le_of_ble_eq_true rfl) hRf, Nat.le_trans (Nat.le_of_ble_eq_true rfl) hRl⟩ (by decide) lay_81 rfl rfl hl.1 (Nat.le_of_ble_eq_true rfl) ⟨Nat.zero_le _, Nat.zero_le _⟩ rfl dX9_sounds_28 (fun H locs hP hS => ?_)
    have hf := Option.some.inj hf
    subst hf
    exact hQ _ _ _ _ dX9_sounds_31 hP hS
  · have hf := ifF hb1 hf
    refine lv_aload_n hx hb dX9_sounds_8 rfl (lv_at hl 0 rfl) ?_
    refine lv_iload_n hx hb dX9_sounds_9 rfl (lv_at hl 2 rfl) ?_
    obtain ⟨u4, hzu4, hf⟩ := obd_some hf
    refine zz_callVi (rest := []) hx hb hml C hP hS (c_X9_isWorld l hDA p2 hzu4) zw_X9_242 ⟨Nat.le_trans (Nat.le_of_ble_eq_true rfl) hRf, Nat.le_trans (Nat.le_of_ble_eq_true rfl) hRl⟩ (by decide) lay_81 rfl rfl hl.1 (Nat.le_of_ble_eq_true rfl) ⟨Nat.zero_le _, Nat.zero_le _⟩ rfl dX9_sounds_10 (fun H locs hP hS => ?_)
    refine lv_if_eq (tgt := 25) hx hb dX9_sounds_13 (by decide) (fun hb4 => ?_) (fun hb4 => ?_)
    · have hf := ifT hb4 hf
      refine lv_aload_n hx hb dX9_sounds_25 rfl (lv_at hl 0 rfl) ?_
      refine lv_bipush (v := (-6)) hx hb dX9_sounds_26 (by decide) ?_
      obtain ⟨u6, hzu6, hf⟩ := obd_some hf
      refine zz_callVi (rest := []) hx hb hml C hP hS (c_X9_no l hDA (-6) hzu6) zw_X9_107 ⟨Nat.le_trans (Nat.le_of_ble_eq_true rfl) hRf, Nat.le_trans (Nat.le_of_ble_eq_true rfl) hRl⟩ (by decide) lay_81 rfl rfl hl.1 (Nat.le_of_ble_eq_true rfl) ⟨Nat.zero_le _, Nat.zero_le _⟩ rfl dX9_sounds_28 (fun H locs hP hS => ?_)
      have hf := Option.some.inj hf
      subst hf
      exact hQ _ _ _ _ dX9_sounds_31 hP hS
    · have hf := ifF hb4 hf
      refine lv_aload_n hx hb dX9_sounds_16 rfl (lv_at hl 0 rfl) ?_
      refine lv_iload_n hx hb dX9_sounds_17 rfl (lv_at hl 1 rfl) ?_
      refine lv_iload_n hx hb dX9_sounds_18 rfl (lv_at hl 2 rfl) ?_
      obtain ⟨u7, hzu7, hf⟩ := obd_some hf
      refine zz_callVi (rest := []) hx hb hml C hP hS (c_X9_soundOf l hDA p1 p2 hzu7) zw_X9_230 ⟨Nat.le_trans (Nat.le_of_ble_eq_true rfl) hRf, Nat.le_trans (Nat.le_of_ble_eq_true rfl) hRl⟩ (by decide) lay_81 rfl rfl hl.1 (Nat.le_of_ble_eq_true rfl) ⟨Nat.zero_le _, Nat.zero_le _⟩ rfl dX9_sounds_19 (fun H locs hP hS => ?_)
      refine lv_goto (tgt := 31) hx hb dX9_sounds_22 (by decide) ?_
      have hf := Option.some.inj hf
      subst hf
      exact hQ _ _ _ _ dX9_sounds_31 hP hS
set_option maxHeartbeats 4000000 in
set_option maxRecDepth 100000 in
theorem c_X9_heard (l : Launch) {D : va_G} {a : Nat → Nat} {cA : Nat → ClassId} {A : Nat → Prop} {sa : Nat → Nat} (hDA : DA a A) {σ : PH} {d : PD} (p1 : Int32) (p2 : Int32) {u : Int32 × PH} (hf : f_X9_heard σ p1 p2 = some u) : CTi l yX9_heard cX9_heard 3 (some .int) 7 163 D a cA A sa [.ref (a 81), .int p1, .int p2] σ d u.1 u.2 d := by
  refine zz_metI zpl_X9 hDA (Nat.le_of_ble_eq_true rfl) ?_
  intro p e R s m args below meth c Q ls hx hb hml C hRf hRl hQ hP hS hl
  have hl : lv_has ls 3 [(0, .ref (a 81)), (1, .int p1), (2, .int p2)] := hl
  unfold f_X9_heard at hf
  refine lv_aload_n hx hb dX9_heard_0 rfl (lv_at hl 0 rfl) ?_
  refine lv_iload_n hx hb dX9_heard_1 rfl (lv_at hl 1 rfl) ?_
  obtain ⟨u1, hzu1⟩ : ∃ z, z = f_X9_isSet σ p1 := ⟨_, rfl⟩
  have hf := bnd_at u1 hzu1 hf
  refine zz_callVi (rest := []) hx hb hml C hP hS (c_X9_isSet l hDA p1 hzu1.symm) zw_X9_172 ⟨Nat.le_trans (Nat.le_of_ble_eq_true rfl) hRf, Nat.le_trans (Nat.le_of_ble_eq_true rfl) hRl⟩ (by decide) lay_81 rfl rfl hl.1 (Nat.le_of_ble_eq_true rfl) ⟨Nat.zero_le _, Nat.zero_le _⟩ rfl dX9_heard_2 (fun H locs hP hS => ?_)
  refine lv_if_eq (tgt := 25) hx hb dX9_heard_5 (by decide) (fun hb1 => ?_) (fun hb1 => ?_)
  · have hf := ifT hb1 hf
    refine lv_aload_n hx hb dX9_heard_25 rfl (lv_at hl 0 rfl) ?_
    refine lv_bipush (v := (-6)) hx hb dX9_heard_26 (by decide) ?_
    obtain ⟨u3, hzu3, hf⟩ := obd_some hf
    refine zz_callVi (rest := []) hx hb hml C hP hS (c_X9_no l hDA (-6) hzu3) zw_X9_107 ⟨Nat.le_trans (Nat.le_of_ble_eq_true rfl) hRf, Nat.le_trans (Nat.le_of_ble_eq_true rfl) hRl⟩ (by decide) lay_81 rfl rfl hl.1 (Nat.le_of_ble_eq_true rfl) ⟨Nat.zero_le _, Nat.zero_le _⟩ rfl dX9_heard_28 (fun H locs hP hS => ?_)
    have hf := Option.some.inj hf
    subst hf
    exact hQ _ _ _ _ dX9_heard_31 hP hS
  · have hf := ifF hb1 hf
    refine lv_aload_n hx hb dX9_heard_8 rfl (lv_at hl 0 rfl) ?_
    refine lv_iload_n hx hb dX9_heard_9 rfl (lv_at hl 2 rfl) ?_
    obtain ⟨u4, hzu4⟩ : ∃ z, z = f_X9_isOne p2 := ⟨_, rfl⟩
    have hf := bnd_at u4 hzu4 hf
    refine zz_callVi (rest := []) hx hb hml C hP hS (c_X9_isOne l hDA p2 hzu4.symm) zw_X9_175 ⟨Nat.le_trans (Nat.le_of_ble_eq_true rfl) hRf, Nat.le_trans (Nat.le_of_ble_eq_true rfl) hRl⟩ (by decide) lay_81 rfl rfl hl.1 (Nat.le_of_ble_eq_true rfl) ⟨Nat.zero_le _, Nat.zero_le _⟩ rfl dX9_heard_10 (fun H locs hP hS => ?_)
    refine lv_if_eq (tgt := 25) hx hb dX9_heard_13 (by decide) (fun hb4 => ?_) (fun hb4 => ?_)
    · have hf := ifT hb4 hf
      refine lv_aload_n hx hb dX9_heard_25 rfl (lv_at hl 0 rfl) ?_
      refine lv_bipush (v := (-6)) hx hb dX9_heard_26 (by decide) ?_
      obtain ⟨u6, hzu6, hf⟩ := obd_some hf
      refine zz_callVi (rest := []) hx hb hml C hP hS (c_X9_no l hDA (-6) hzu6) zw_X9_107 ⟨Nat.le_trans (Nat.le_of_ble_eq_true rfl) hRf, Nat.le_trans (Nat.le_of_ble_eq_true rfl) hRl⟩ (by decide) lay_81 rfl rfl hl.1 (Nat.le_of_ble_eq_true rfl) ⟨Nat.zero_le _, Nat.zero_le _⟩ rfl dX9_heard_28 (fun H locs hP hS => ?_)
      have hf := Option.some.inj hf
      subst hf
      exact hQ _ _ _ _ dX9_heard_31 hP hS
    · have hf := ifF hb4 hf
      refine lv_aload_n hx hb dX9_heard_16 rfl (lv_at hl 0 rfl) ?_
      refine lv_iload_n hx hb dX9_heard_17 rfl (lv_at hl 1 rfl) ?_
      refine lv_iload_n hx hb dX9_heard_18 rfl (lv_at hl 2 rfl) ?_
      obtain ⟨u7, hzu7, hf⟩ := obd_some hf
      refine zz_callVi (rest := []) hx hb hml C hP hS (c_X9_mayBe l hDA p1 p2 hzu7) zw_X9_178 ⟨Nat.le_trans (Nat.le_of_ble_eq_true rfl) hRf, Nat.le_trans (Nat.le_of_ble_eq_true rfl) hRl⟩ (by decide) lay_81 rfl rfl hl.1 (Nat.le_of_ble_eq_true rfl) ⟨Nat.zero_le _, Nat.zero_le _⟩ rfl dX9_heard_19 (fun H locs hP hS => ?_)
      refine lv_if_ne (tgt := 32) hx hb dX9_heard_22 (by decide) (fun hb7 => ?_) (fun hb7 => ?_)
      · have hf := ifF hb7 hf
        refine lv_aload_n hx hb dX9_heard_32 rfl (lv_at hl 0 rfl) ?_
        refine lv_iload_n hx hb dX9_heard_33 rfl (lv_at hl 1 rfl) ?_
        refine lv_iload_n hx hb dX9_heard_34 rfl (lv_at hl 2 rfl) ?_
        obtain ⟨u9, hzu9, hf⟩ := obd_some hf
        refine zz_callVi (rest := []) hx hb hml C hP hS (c_X9_isKnown l hDA p1 p2 hzu9) zw_X9_193 ⟨Nat.le_trans (Nat.le_of_ble_eq_true rfl) hRf, Nat.le_trans (Nat.le_of_ble_eq_true rfl) hRl⟩ (by decide) lay_81 rfl rfl hl.1 (Nat.le_of_ble_eq_true rfl) ⟨Nat.zero_le _, Nat.zero_le _⟩ rfl dX9_heard_35 (fun H locs hP hS => ?_)
        refine lv_if_ne (tgt := 63) hx hb dX9_heard_38 (by decide) (fun hb9 => ?_) (fun hb9 => ?_)
        · have hf := ifF hb9 hf
          refine lv_aload_n hx hb dX9_heard_63 rfl (lv_at hl 0 rfl) ?_
          obtain ⟨u11, hzu11, hf⟩ := obd_some hf
          refine zz_callVi (rest := []) hx hb hml C hP hS (c_X9_possible l hDA  hzu11) zw_X9_239 ⟨Nat.le_trans (Nat.le_of_ble_eq_true rfl) hRf, Nat.le_trans (Nat.le_of_ble_eq_true rfl) hRl⟩ (by decide) lay_81 rfl rfl hl.1 (Nat.le_of_ble_eq_true rfl) ⟨Nat.zero_le _, Nat.zero_le _⟩ rfl dX9_heard_64 (fun H locs hP hS => ?_)
          have hf := Option.some.inj hf
          subst hf
          exact hQ _ _ _ _ dX9_heard_67 hP hS
        · have hf := ifT hb9 hf
          refine lv_aload_n hx hb dX9_heard_41 rfl (lv_at hl 0 rfl) ?_
          refine zg_X9_123 hx hb C hP (by decide) lay_81 rfl dX9_heard_42 ?_
          refine lv_bipush (v := 16) hx hb dX9_heard_45 (by decide) ?_
          refine lv_icmp_ne (tgt := 57) hx hb dX9_heard_47 (by decide) (fun hb11 => ?_) (fun hb11 => ?_)
          · have hf := ifF hb11 hf
            refine lv_aload_n hx hb dX9_heard_57 rfl (lv_at hl 0 rfl) ?_
            refine lv_iload_n hx hb dX9_heard_58 rfl (lv_at hl 1 rfl) ?_
            refine lv_iload_n hx hb dX9_heard_59 rfl (lv_at hl 2 rfl) ?_
            obtain ⟨u13, hzu13, hf⟩ := obd_some hf
            refine zz_callVv (rest := []) hx hb hml C hP hS (c_X9_knows l hDA p1 p2 hzu13) zw_X9_196 ⟨Nat.le_trans (Nat.le_of_ble_eq_true rfl) hRf, Nat.le_trans (Nat.le_of_ble_eq_true rfl) hRl⟩ (by decide) lay_81 rfl rfl hl.1 (Nat.le_of_ble_eq_true rfl) ⟨Nat.zero_le _, Nat.zero_le _⟩ rfl dX9_heard_60 (fun H locs hP hS => ?_)
            refine lv_aload_n hx hb dX9_heard_63 rfl (lv_at hl 0 rfl) ?_
            obtain ⟨u14, hzu14, hf⟩ := obd_some hf
            refine zz_callVi (rest := []) hx hb hml C hP hS (c_X9_possible l hDA  hzu14) zw_X9_239 ⟨Nat.le_trans (Nat.le_of_ble_eq_true rfl) hRf, Nat.le_trans (Nat.le_of_ble_eq_true rfl) hRl⟩ (by decide) lay_81 rfl rfl hl.1 (Nat.le_of_ble_eq_true rfl) ⟨Nat.zero_le _, Nat.zero_le _⟩ rfl dX9_heard_64 (fun H locs hP hS => ?_)
            have hf := Option.some.inj hf
            subst hf
            exact hQ _ _ _ _ dX9_heard_67 hP hS
          · have hf := ifT hb11 hf
            refine lv_aload_n hx hb dX9_heard_50 rfl (lv_at hl 0 rfl) ?_
            refine lv_bipush (v := (-7)) hx hb dX9_heard_51 (by decide) ?_
            obtain ⟨u15, hzu15, hf⟩ := obd_some hf
            refine zz_callVi (rest := []) hx hb hml C hP hS (c_X9_no l hDA (-7) hzu15) zw_X9_107 ⟨Nat.le_trans (Nat.le_of_ble_eq_true rfl) hRf, Nat.le_trans (Nat.le_of_ble_eq_true rfl) hRl⟩ (by decide) lay_81 rfl rfl hl.1 (Nat.le_of_ble_eq_true rfl) ⟨Nat.zero_le _, Nat.zero_le _⟩ rfl dX9_heard_53 (fun H locs hP hS => ?_)
            have hf := Option.some.inj hf
            subst hf
            exact hQ _ _ _ _ dX9_heard_56 hP hS
      · have hf := ifT hb7 hf
        refine lv_aload_n hx hb dX9_heard_25 rfl (lv_at hl 0 rfl) ?_
        refine lv_bipush (v := (-6)) hx hb dX9_heard_26 (by decide) ?_
        obtain ⟨u16, hzu16, hf⟩ := obd_some hf
        refine zz_callVi (rest := []) hx hb hml C hP hS (c_X9_no l hDA (-6) hzu16) zw_X9_107 ⟨Nat.le_trans (Nat.le_of_ble_eq_true rfl) hRf, Nat.le_trans (Nat.le_of_ble_eq_true rfl) hRl⟩ (by decide) lay_81 rfl rfl hl.1 (Nat.le_of_ble_eq_true rfl) ⟨Nat.zero_le _, Nat.zero_le _⟩ rfl dX9_heard_28 (fun H locs hP hS => ?_)
        have hf := Option.some.inj hf
        subst hf
        exact hQ _ _ _ _ dX9_heard_31 hP hS
set_option maxHeartbeats 4000000 in
set_option maxRecDepth 100000 in
theorem c_X9_known (l : Launch) {D : va_G} {a : Nat → Nat} {cA : Nat → ClassId} {A : Nat → Prop} {sa : Nat → Nat} (hDA : DA a A) {σ : PH} {d : PD} (p1 : Int32) {u : Int32 × PH} (hf : f_X9_known σ p1 = some u) : CTi l yX9_known cX9_known 2 (some .int) 1 21 D a cA A sa [.ref (a 81), .int p1] σ d u.1 u.2 d := by
  refine zz_metI zpl_X9 hDA (Nat.le_of_ble_eq_true rfl) ?_
  intro p e R s m args below meth c Q ls hx hb hml C hRf hRl hQ hP hS hl
  have hl : lv_has ls 2 [(0, .ref (a 81)), (1, .int p1)] := hl
  unfold f_X9_known at hf
  refine lv_iload_n hx hb dX9_known_0 rfl (lv_at hl 1 rfl) ?_
  refine lv_iconst (v := (-1)) hx hb dX9_known_1 (by decide) ?_
  refine lv_icmp_ne (tgt := 10) hx hb dX9_known_2 (by decide) (fun hb0 => ?_) (fun hb0 => ?_)
  · have hf := ifF hb0 hf
    refine lv_iload_n hx hb dX9_known_10 rfl (lv_at hl 1 rfl) ?_
    refine lv_if_lt (tgt := 40) hx hb dX9_known_11 (by decide) (fun hb1 => ?_) (fun hb1 => ?_)
    · have hf := ifT hb1 hf
      refine lv_aload_n hx hb dX9_known_40 rfl (lv_at hl 0 rfl) ?_
      refine lv_bipush (v := (-5)) hx hb dX9_known_41 (by decide) ?_
      obtain ⟨u3, hzu3, hf⟩ := obd_some hf
      refine zz_callVi (rest := []) hx hb hml C hP hS (c_X9_no l hDA (-5) hzu3) zw_X9_107 ⟨Nat.le_trans (Nat.le_of_ble_eq_true rfl) hRf, Nat.le_trans (Nat.le_of_ble_eq_true rfl) hRl⟩ (by decide) lay_81 rfl rfl hl.1 (Nat.le_of_ble_eq_true rfl) ⟨Nat.zero_le _, Nat.zero_le _⟩ rfl dX9_known_43 (fun H locs hP hS => ?_)
      have hf := Option.some.inj hf
      subst hf
      exact hQ _ _ _ _ dX9_known_46 hP hS
    · have hf := ifF hb1 hf
      refine lv_iload_n hx hb dX9_known_14 rfl (lv_at hl 1 rfl) ?_
      refine lv_aload_n hx hb dX9_known_15 rfl (lv_at hl 0 rfl) ?_
      refine zg_X9_123 hx hb C hP (by decide) lay_81 rfl dX9_known_16 ?_
      refine lv_icmp_ge (tgt := 40) hx hb dX9_known_19 (by decide) (fun hb3 => ?_) (fun hb3 => ?_)
      · have hf := ifT hb3 hf
        refine lv_aload_n hx hb dX9_known_40 rfl (lv_at hl 0 rfl) ?_
        refine lv_bipush (v := (-5)) hx hb dX9_known_41 (by decide) ?_
        obtain ⟨u5, hzu5, hf⟩ := obd_some hf
        refine zz_callVi (rest := []) hx hb hml C hP hS (c_X9_no l hDA (-5) hzu5) zw_X9_107 ⟨Nat.le_trans (Nat.le_of_ble_eq_true rfl) hRf, Nat.le_trans (Nat.le_of_ble_eq_true rfl) hRl⟩ (by decide) lay_81 rfl rfl hl.1 (Nat.le_of_ble_eq_true rfl) ⟨Nat.zero_le _, Nat.zero_le _⟩ rfl dX9_known_43 (fun H locs hP hS => ?_)
        have hf := Option.some.inj hf
        subst hf
        exact hQ _ _ _ _ dX9_known_46 hP hS
      · have hf := ifF hb3 hf
        refine lv_iconst (v := 2) hx hb dX9_known_22 (by decide) ?_
        refine lv_aload_n hx hb dX9_known_23 rfl (lv_at hl 0 rfl) ?_
        refine zg_X9_38 hx hb C hP (by decide) lay_81 rfl dX9_known_24 ?_
        refine lv_iload_n hx hb dX9_known_27 rfl (lv_at hl 1 rfl) ?_
        obtain ⟨hc5, hf⟩ := chk_some hf
        refine zz_iald hx hb C hP (by decide) lay_87 (inb_vp hc5) dX9_known_28 ?_
        refine lv_imul hx hb dX9_known_29 ?_
        refine lv_aload_n hx hb dX9_known_30 rfl (lv_at hl 0 rfl) ?_
        refine zg_X9_41 hx hb C hP (by decide) lay_81 rfl dX9_known_31 ?_
        refine lv_iload_n hx hb dX9_known_34 rfl (lv_at hl 1 rfl) ?_
        obtain ⟨hc6, hf⟩ := chk_some hf
        refine zz_iald hx hb C hP (by decide) lay_88 (inb_vp hc6) dX9_known_35 ?_
        refine lv_iadd hx hb dX9_known_36 ?_
        refine lv_goto (tgt := 46) hx hb dX9_known_37 (by decide) ?_
        have hf := Option.some.inj hf
        subst hf
        exact hQ _ _ _ _ dX9_known_46 hP hS
  · have hf := ifT hb0 hf
    refine lv_aload_n hx hb dX9_known_5 rfl (lv_at hl 0 rfl) ?_
    refine zg_X9_123 hx hb C hP (by decide) lay_81 rfl dX9_known_6 ?_
    have hf := Option.some.inj hf
    subst hf
    exact hQ _ _ _ _ dX9_known_9 hP hS
set_option maxHeartbeats 4000000 in
set_option maxRecDepth 100000 in
theorem c_X9_forget (l : Launch) {D : va_G} {a : Nat → Nat} {cA : Nat → ClassId} {A : Nat → Prop} {sa : Nat → Nat} (hDA : DA a A) {σ : PH} {d : PD}  {u : Int32 × PH} (hf : f_X9_forget σ = u) : CTi l yX9_forget cX9_forget 2 (some .int) 0 0 D a cA A sa [.ref (a 81)] σ d u.1 u.2 d := by
  refine zz_metI zpl_X9 hDA (Nat.le_of_ble_eq_true rfl) ?_
  intro p e R s m args below meth c Q ls hx hb hml C hRf hRl hQ hP hS hl
  have hl : lv_has ls 2 [(0, .ref (a 81))] := hl
  unfold f_X9_forget at hf
  refine lv_aload_n hx hb dX9_forget_0 rfl (lv_at hl 0 rfl) ?_
  refine zg_X9_123 hx hb C hP (by decide) lay_81 rfl dX9_forget_1 ?_
  refine lv_topi (fun v1 ev1 => ?_)
  have hf := bnd_at v1 ev1 hf
  refine lv_istore_n (lv' := [(1, .int v1), (0, .ref (a 81))]) hx hb dX9_forget_4 rfl hl (by decide) rfl (fun ls hl => ?_)
  refine lv_aload_n hx hb dX9_forget_5 rfl (lv_at hl 1 rfl) ?_
  refine lv_iconst (v := 0) hx hb dX9_forget_6 (by decide) ?_
  refine zp_X9_123 hx hb C hP hS (by decide) lay_81 rfl dX9_forget_7 (fun σ2 eσ2 H locs hP hS => ?_)
  have hf := bnd_at σ2 eσ2 hf
  refine lv_iload_n hx hb dX9_forget_10 rfl (lv_at hl 0 rfl) ?_
  subst hf
  exact hQ _ _ _ _ dX9_forget_11 hP hS
set_option maxHeartbeats 4000000 in
set_option maxRecDepth 100000 in
theorem c_X9_may (l : Launch) {D : va_G} {a : Nat → Nat} {cA : Nat → ClassId} {A : Nat → Prop} {sa : Nat → Nat} (hDA : DA a A) {σ : PH} {d : PD} (p1 : Int32) {u : Int32 × PH} (hf : f_X9_may σ p1 = some u) : CTi l yX9_may cX9_may 6 (some .int) 6 140 D a cA A sa [.ref (a 81), .int p1] σ d u.1 u.2 d := by
  refine zz_metI zpl_X9 hDA (Nat.le_of_ble_eq_true rfl) ?_
  intro p e R s m args below meth c Q ls hx hb hml C hRf hRl hQ hP hS hl
  have hl : lv_has ls 6 [(0, .ref (a 81)), (1, .int p1)] := hl
  unfold f_X9_may at hf
  refine lv_aload_n hx hb dX9_may_0 rfl (lv_at hl 0 rfl) ?_
  refine lv_iload_n hx hb dX9_may_1 rfl (lv_at hl 1 rfl) ?_
  obtain ⟨u1, hzu1⟩ : ∃ z, z = f_X9_isOne p1 := ⟨_, rfl⟩
  have hf := bnd_at u1 hzu1 hf
  refine zz_callVi (rest := []) hx hb hml C hP hS (c_X9_isOne l hDA p1 hzu1.symm) zw_X9_175 ⟨Nat.le_trans (Nat.le_of_ble_eq_true rfl) hRf, Nat.le_trans (Nat.le_of_ble_eq_true rfl) hRl⟩ (by decide) lay_81 rfl rfl hl.1 (Nat.le_of_ble_eq_true rfl) ⟨Nat.zero_le _, Nat.zero_le _⟩ rfl dX9_may_2 (fun H locs hP hS => ?_)
  refine lv_if_ne (tgt := 15) hx hb dX9_may_5 (by decide) (fun hb1 => ?_) (fun hb1 => ?_)
  · have hf := ifF hb1 hf
    refine lv_aload_n hx hb dX9_may_15 rfl (lv_at hl 0 rfl) ?_
    obtain ⟨u3, hzu3, hf⟩ := obd_some hf
    refine zz_callVi (rest := []) hx hb hml C hP hS (c_X9_possible l hDA  hzu3) zw_X9_239 ⟨Nat.le_trans (Nat.le_of_ble_eq_true rfl) hRf, Nat.le_trans (Nat.le_of_ble_eq_true rfl) hRl⟩ (by decide) lay_81 rfl rfl hl.1 (Nat.le_of_ble_eq_true rfl) ⟨Nat.zero_le _, Nat.zero_le _⟩ rfl dX9_may_16 (fun H locs hP hS => ?_)
    refine lv_istore_n (lv' := [(2, .int u3.1), (0, .ref (a 81)), (1, .int p1)]) hx hb dX9_may_19 rfl hl (by decide) rfl (fun ls hl => ?_)
    refine lv_iconst (v := 0) hx hb dX9_may_20 (by decide) ?_
    refine lv_istore_n (lv' := [(3, .int 0), (2, .int u3.1), (0, .ref (a 81)), (1, .int p1)]) hx hb dX9_may_21 rfl hl (by decide) rfl (fun ls hl => ?_)
    refine lv_aload_n hx hb dX9_may_22 rfl (lv_at hl 2 rfl) ?_
    obtain ⟨u4, hzu4⟩ : ∃ z, z = f_X9_everybody u3.2 := ⟨_, rfl⟩
    have hf := bnd_at u4 hzu4 hf
    refine zz_callVi (rest := []) hx hb hml C hP hS (c_X9_everybody l hDA  hzu4.symm) zw_X9_99 ⟨Nat.le_trans (Nat.le_of_ble_eq_true rfl) hRf, Nat.le_trans (Nat.le_of_ble_eq_true rfl) hRl⟩ (by decide) lay_81 rfl rfl hl.1 (Nat.le_of_ble_eq_true rfl) ⟨Nat.zero_le _, Nat.zero_le _⟩ rfl dX9_may_23 (fun H locs hP hS => ?_)
    refine lv_istore (lv' := [(4, .int u4), (3, .int 0), (2, .int u3.1), (0, .ref (a 81)), (1, .int p1)]) hx hb dX9_may_26 hl (by decide) rfl (fun ls hl => ?_)
    refine lv_iconst (v := 0) hx hb dX9_may_28 (by decide) ?_
    refine lv_istore (lv' := [(5, .int 0), (4, .int u4), (3, .int 0), (2, .int u3.1), (0, .ref (a 81)), (1, .int p1)]) hx hb dX9_may_29 hl (by decide) rfl (fun ls hl => ?_)
    have hJ65 : ∀ (v5 : Int32) (v6 : Int32), j_X9_may_65 p1 u3 v5 v6 = some u → ∀ (H : Heap) (locs : List Loc) (ls : Array Slot), lv_has ls 6 [(1, .int p1), (2, .int u3.1), (3, .int v5), (4, .int v6)] → va_P D vwCl (wl a cA u3.2 d) H → va_S A s.heap H locs → W p l e R s m args below meth c H locs 0 0 Q (F0 m 65 ls []) := by
      intro v5 v6 hf H locs ls hl hP hS
      unfold j_X9_may_65 at hf
      refine lv_iload_n hx hb dX9_may_65 rfl (lv_at hl 0 rfl) ?_
      refine lv_if_ne (tgt := 73) hx hb dX9_may_66 (by decide) (fun hb6 => ?_) (fun hb6 => ?_)
      · have hf := ifF hb6 hf
        refine lv_iload_n hx hb dX9_may_73 rfl (lv_at hl 1 rfl) ?_
        refine lv_if_ne (tgt := 81) hx hb dX9_may_74 (by decide) (fun hb7 => ?_) (fun hb7 => ?_)
        · have hf := ifF hb7 hf
          refine lv_iload hx hb dX9_may_81 (lv_at hl 3 rfl) ?_
          have hf := Option.some.inj hf
          subst hf
          exact hQ _ _ _ _ dX9_may_83 hP hS
        · have hf := ifT hb7 hf
          refine lv_iconst (v := 0) hx hb dX9_may_77 (by decide) ?_
          refine lv_goto (tgt := 83) hx hb dX9_may_78 (by decide) ?_
          have hf := Option.some.inj hf
          subst hf
          exact hQ _ _ _ _ dX9_may_83 hP hS
      · have hf := ifT hb6 hf
        refine lv_iload_n hx hb dX9_may_69 rfl (lv_at hl 2 rfl) ?_
        refine lv_goto (tgt := 83) hx hb dX9_may_70 (by decide) ?_
        have hf := Option.some.inj hf
        subst hf
        exact hQ _ _ _ _ dX9_may_83 hP hS
    refine loopN_ind (P := fun (q9 : Int32 × Int32 × Int32) => ∀ (H : Heap) (locs : List Loc) (ls : Array Slot), lv_has ls 6 [(0, .ref (a 81)), (1, .int p1), (2, .int u3.1), (3, .int q9.1), (4, .int q9.2.1), (5, .int q9.2.2)] → va_P D vwCl (wl a cA u3.2 d) H → va_S A s.heap H locs → W p l e R s m args below meth c H locs 0 0 Q (F0 m 31 ls [])) ?_ _ _ hf _ _ _ (lv_sub hl [4, 5, 3, 2, 1, 0] rfl) hP hS
    intro k10 ihk10 q9 hf H locs ls hl hP hS
    unfold b_X9_may_31 at hf
    refine lv_iload hx hb dX9_may_31 (lv_at hl 5 rfl) ?_
    refine lv_iload_n hx hb dX9_may_33 rfl (lv_at hl 2 rfl) ?_
    refine lv_icmp_ge (tgt := 65) hx hb dX9_may_34 (by decide) (fun hb10 => ?_) (fun hb10 => ?_)
    · have hf := ifT hb10 hf
      exact hJ65 _ _ hf _ _ _ (lv_sub hl [1, 2, 3, 4] rfl) hP hS
    · have hf := ifF hb10 hf
      refine lv_iload_n hx hb dX9_may_37 rfl (lv_at hl 3 rfl) ?_
      refine lv_aload_n hx hb dX9_may_38 rfl (lv_at hl 0 rfl) ?_
      refine zg_X9_81 hx hb C hP (by decide) lay_81 rfl dX9_may_39 ?_
      refine lv_iload hx hb dX9_may_42 (lv_at hl 5 rfl) ?_
      obtain ⟨hc11, hf⟩ := chk_some hf
      refine zz_iald hx hb C hP (by decide) lay_101 (inb_vp hc11) dX9_may_44 ?_
      refine lv_ior hx hb dX9_may_45 ?_
      refine lv_topi (fun v13 ev13 => ?_)
      have hf := bnd_at v13 ev13 hf
      refine lv_istore_n (lv' := [(3, .int v13), (0, .ref (a 81)), (1, .int p1), (2, .int u3.1), (4, .int q9.2.1), (5, .int q9.2.2)]) hx hb dX9_may_46 rfl hl (by decide) rfl (fun ls hl => ?_)
      refine lv_iload hx hb dX9_may_47 (lv_at hl 4 rfl) ?_
      refine lv_aload_n hx hb dX9_may_49 rfl (lv_at hl 1 rfl) ?_
      refine zg_X9_81 hx hb C hP (by decide) lay_81 rfl dX9_may_50 ?_
      refine lv_iload hx hb dX9_may_53 (lv_at hl 5 rfl) ?_
      obtain ⟨hc13, hf⟩ := chk_some hf
      refine zz_iald hx hb C hP (by decide) lay_101 (inb_vp hc13) dX9_may_55 ?_
      refine lv_iand hx hb dX9_may_56 ?_
      refine lv_topi (fun v15 ev15 => ?_)
      have hf := bnd_at v15 ev15 hf
      refine lv_istore (lv' := [(4, .int v15), (3, .int v13), (0, .ref (a 81)), (1, .int p1), (2, .int u3.1), (5, .int q9.2.2)]) hx hb dX9_may_57 hl (by decide) rfl (fun ls hl => ?_)
      obtain ⟨v16, ev16⟩ : ∃ z : Int32, z = q9.2.2 + 1 := ⟨_, rfl⟩
      have hf := bnd_at v16 ev16 hf
      refine lv_iinc (v := v16) (lv' := [(5, .int v16), (4, .int v15), (3, .int v13), (0, .ref (a 81)), (1, .int p1), (2, .int u3.1)]) hx hb dX9_may_59 hl (k := 5) rfl (by rw [ev16]; rfl) (by decide) rfl (fun ls hl => ?_)
      refine lv_goto (tgt := 31) hx hb dX9_may_62 (by decide) ?_
      exact ihk10 _ hf _ _ _ (lv_sub hl [3, 4, 5, 2, 1, 0] rfl) hP hS
  · have hf := ifT hb1 hf
    refine lv_aload_n hx hb dX9_may_8 rfl (lv_at hl 0 rfl) ?_
    refine lv_bipush (v := (-5)) hx hb dX9_may_9 (by decide) ?_
    obtain ⟨u17, hzu17, hf⟩ := obd_some hf
    refine zz_callVi (rest := []) hx hb hml C hP hS (c_X9_no l hDA (-5) hzu17) zw_X9_107 ⟨Nat.le_trans (Nat.le_of_ble_eq_true rfl) hRf, Nat.le_trans (Nat.le_of_ble_eq_true rfl) hRl⟩ (by decide) lay_81 rfl rfl hl.1 (Nat.le_of_ble_eq_true rfl) ⟨Nat.zero_le _, Nat.zero_le _⟩ rfl dX9_may_11 (fun H locs hP hS => ?_)
    have hf := Option.some.inj hf
    subst hf
    exact hQ _ _ _ _ dX9_may_14 hP hS
set_option maxHeartbeats 4000000 in
set_option maxRecDepth 100000 in
theorem c_X9_likeliest (l : Launch) {D : va_G} {a : Nat → Nat} {cA : Nat → ClassId} {A : Nat → Prop} {sa : Nat → Nat} (hDA : DA a A) {σ : PH} {d : PD}  {u : Int32 × PH} (hf : f_X9_likeliest σ = some u) : CTi l yX9_likeliest cX9_likeliest 4 (some .int) 6 140 D a cA A sa [.ref (a 81)] σ d u.1 u.2 d := by
  refine zz_metI zpl_X9 hDA (Nat.le_of_ble_eq_true rfl) ?_
  intro p e R s m args below meth c Q ls hx hb hml C hRf hRl hQ hP hS hl
  have hl : lv_has ls 4 [(0, .ref (a 81))] := hl
  unfold f_X9_likeliest at hf
  refine lv_aload_n hx hb dX9_likeliest_0 rfl (lv_at hl 0 rfl) ?_
  obtain ⟨u1, hzu1, hf⟩ := obd_some hf
  refine zz_callVi (rest := []) hx hb hml C hP hS (c_X9_possible l hDA  hzu1) zw_X9_239 ⟨Nat.le_trans (Nat.le_of_ble_eq_true rfl) hRf, Nat.le_trans (Nat.le_of_ble_eq_true rfl) hRl⟩ (by decide) lay_81 rfl rfl hl.1 (Nat.le_of_ble_eq_true rfl) ⟨Nat.zero_le _, Nat.zero_le _⟩ rfl dX9_likeliest_1 (fun H locs hP hS => ?_)
  refine lv_istore_n (lv' := [(1, .int u1.1), (0, .ref (a 81))]) hx hb dX9_likeliest_4 rfl hl (by decide) rfl (fun ls hl => ?_)
  refine lv_iload_n hx hb dX9_likeliest_5 rfl (lv_at hl 0 rfl) ?_
  refine lv_if_ne (tgt := 16) hx hb dX9_likeliest_6 (by decide) (fun hb1 => ?_) (fun hb1 => ?_)
  · have hf := ifF hb1 hf
    refine lv_aload_n hx hb dX9_likeliest_16 rfl (lv_at hl 1 rfl) ?_
    refine zg_X9_81 hx hb C hP (by decide) lay_81 rfl dX9_likeliest_17 ?_
    refine lv_iconst (v := 0) hx hb dX9_likeliest_20 (by decide) ?_
    refine zz_iald hx hb C hP (by decide) lay_101 (inb_vp (by decide)) dX9_likeliest_21 ?_
    refine lv_topi (fun v3 ev3 => ?_)
    have hf := bnd_at v3 ev3 hf
    refine lv_istore_n (lv' := [(2, .int v3), (1, .int u1.1), (0, .ref (a 81))]) hx hb dX9_likeliest_22 rfl hl (by decide) rfl (fun ls hl => ?_)
    refine lv_iconst (v := 1) hx hb dX9_likeliest_23 (by decide) ?_
    refine lv_istore_n (lv' := [(3, .int 1), (2, .int v3), (1, .int u1.1), (0, .ref (a 81))]) hx hb dX9_likeliest_24 rfl hl (by decide) rfl (fun ls hl => ?_)
    refine loopN_ind (P := fun (q4 : Int32 × Int32) => ∀ (H : Heap) (locs : List Loc) (ls : Array Slot), lv_has ls 4 [(0, .ref (a 81)), (1, .int u1.1), (2, .int q4.1), (3, .int q4.2)] → va_P D vwCl (wl a cA u1.2 d) H → va_S A s.heap H locs → W p l e R s m args below meth c H locs 0 0 Q (F0 m 25 ls [])) ?_ _ _ hf _ _ _ (lv_sub hl [3, 2, 1, 0] rfl) hP hS
    intro k5 ihk5 q4 hf H locs ls hl hP hS
    unfold b_X9_likeliest_25 at hf
    refine lv_iload_n hx hb dX9_likeliest_25 rfl (lv_at hl 3 rfl) ?_
    refine lv_iload_n hx hb dX9_likeliest_26 rfl (lv_at hl 1 rfl) ?_
    refine lv_icmp_ge (tgt := 61) hx hb dX9_likeliest_27 (by decide) (fun hb5 => ?_) (fun hb5 => ?_)
    · have hf := ifT hb5 hf
      refine lv_iload_n hx hb dX9_likeliest_61 rfl (lv_at hl 2 rfl) ?_
      have hf := Option.some.inj hf
      subst hf
      exact hQ _ _ _ _ dX9_likeliest_62 hP hS
    · have hf := ifF hb5 hf
      refine lv_aload_n hx hb dX9_likeliest_30 rfl (lv_at hl 0 rfl) ?_
      refine lv_aload_n hx hb dX9_likeliest_31 rfl (lv_at hl 0 rfl) ?_
      refine zg_X9_81 hx hb C hP (by decide) lay_81 rfl dX9_likeliest_32 ?_
      refine lv_iload_n hx hb dX9_likeliest_35 rfl (lv_at hl 3 rfl) ?_
      obtain ⟨hc6, hf⟩ := chk_some hf
      refine zz_iald hx hb C hP (by decide) lay_101 (inb_vp hc6) dX9_likeliest_36 ?_
      obtain ⟨u8, hzu8, hf⟩ := obd_some hf
      refine zz_callVi (rest := []) hx hb hml C hP hS (c_X9_weight l hDA (gI u1.2 101 q4.2.toNatClampNeg) hzu8) zw_X9_245 ⟨Nat.le_trans (Nat.le_of_ble_eq_true rfl) hRf, Nat.le_trans (Nat.le_of_ble_eq_true rfl) hRl⟩ (by decide) lay_81 rfl rfl hl.1 (Nat.le_of_ble_eq_true rfl) ⟨Nat.zero_le _, Nat.zero_le _⟩ rfl dX9_likeliest_37 (fun H locs hP hS => ?_)
      refine lv_aload_n hx hb dX9_likeliest_40 rfl (lv_at hl 0 rfl) ?_
      refine lv_iload_n hx hb dX9_likeliest_41 rfl (lv_at hl 2 rfl) ?_
      obtain ⟨u9, hzu9, hf⟩ := obd_some hf
      refine zz_callVi (rest := [.int u8]) hx hb hml C hP hS (c_X9_weight l hDA q4.1 hzu9) zw_X9_245 ⟨Nat.le_trans (Nat.le_of_ble_eq_true rfl) hRf, Nat.le_trans (Nat.le_of_ble_eq_true rfl) hRl⟩ (by decide) lay_81 rfl rfl hl.1 (Nat.le_of_ble_eq_true rfl) ⟨Nat.zero_le _, Nat.zero_le _⟩ rfl dX9_likeliest_42 (fun H locs hP hS => ?_)
      refine lv_icmp_le (tgt := 55) hx hb dX9_likeliest_45 (by decide) (fun hb9 => ?_) (fun hb9 => ?_)
      · have hf := ifT hb9 hf
        obtain ⟨v11, ev11⟩ : ∃ z : Int32, z = q4.2 + 1 := ⟨_, rfl⟩
        have hf := bnd_at v11 ev11 hf
        refine lv_iinc (v := v11) (lv' := [(3, .int v11), (0, .ref (a 81)), (1, .int u1.1), (2, .int q4.1)]) hx hb dX9_likeliest_55 hl (k := 3) rfl (by rw [ev11]; rfl) (by decide) rfl (fun ls hl => ?_)
        refine lv_goto (tgt := 25) hx hb dX9_likeliest_58 (by decide) ?_
        exact ihk5 _ hf _ _ _ (lv_sub hl [1, 2, 3, 0] rfl) hP hS
      · have hf := ifF hb9 hf
        refine lv_aload_n hx hb dX9_likeliest_48 rfl (lv_at hl 0 rfl) ?_
        refine zg_X9_81 hx hb C hP (by decide) lay_81 rfl dX9_likeliest_49 ?_
        refine lv_iload_n hx hb dX9_likeliest_52 rfl (lv_at hl 3 rfl) ?_
        obtain ⟨hc11, hf⟩ := chk_some hf
        refine zz_iald hx hb C hP (by decide) lay_101 (inb_vp hc11) dX9_likeliest_53 ?_
        refine lv_topi (fun v13 ev13 => ?_)
        have hf := bnd_at v13 ev13 hf
        refine lv_istore_n (lv' := [(2, .int v13), (0, .ref (a 81)), (1, .int u1.1), (3, .int q4.2)]) hx hb dX9_likeliest_54 rfl hl (by decide) rfl (fun ls hl => ?_)
        obtain ⟨v14, ev14⟩ : ∃ z : Int32, z = q4.2 + 1 := ⟨_, rfl⟩
        have hf := bnd_at v14 ev14 hf
        refine lv_iinc (v := v14) (lv' := [(3, .int v14), (2, .int v13), (0, .ref (a 81)), (1, .int u1.1)]) hx hb dX9_likeliest_55 hl (k := 3) rfl (by rw [ev14]; rfl) (by decide) rfl (fun ls hl => ?_)
        refine lv_goto (tgt := 25) hx hb dX9_likeliest_58 (by decide) ?_
        exact ihk5 _ hf _ _ _ (lv_sub hl [2, 3, 1, 0] rfl) hP hS
  · have hf := ifT hb1 hf
    refine lv_aload_n hx hb dX9_likeliest_9 rfl (lv_at hl 1 rfl) ?_
    refine lv_bipush (v := (-5)) hx hb dX9_likeliest_10 (by decide) ?_
    obtain ⟨u15, hzu15, hf⟩ := obd_some hf
    refine zz_callVi (rest := []) hx hb hml C hP hS (c_X9_no l hDA (-5) hzu15) zw_X9_107 ⟨Nat.le_trans (Nat.le_of_ble_eq_true rfl) hRf, Nat.le_trans (Nat.le_of_ble_eq_true rfl) hRl⟩ (by decide) lay_81 rfl rfl hl.1 (Nat.le_of_ble_eq_true rfl) ⟨Nat.zero_le _, Nat.zero_le _⟩ rfl dX9_likeliest_12 (fun H locs hP hS => ?_)
    have hf := Option.some.inj hf
    subst hf
    exact hQ _ _ _ _ dX9_likeliest_15 hP hS
set_option maxHeartbeats 4000000 in
set_option maxRecDepth 100000 in
theorem c_X9_isLawful (l : Launch) {D : va_G} {a : Nat → Nat} {cA : Nat → ClassId} {A : Nat → Prop} {sa : Nat → Nat} (hDA : DA a A) {σ : PH} {d : PD} (p1 : Int32) {u : Int32} (hf : f_X9_isLawful σ p1 = some u) : CTi l yX9_isLawful cX9_isLawful 5 (some .boolean) 2 41 D a cA A sa [.ref (a 81), .int p1] σ d u σ d := by
  refine zz_metZ zpl_X9 hDA (Nat.le_of_ble_eq_true rfl) ?_
  intro p e R s m args below meth c Q ls hx hb hml C hRf hRl hQ hP hS hl
  have hl : lv_has ls 5 [(0, .ref (a 81)), (1, .int p1)] := hl
  unfold f_X9_isLawful at hf
  refine lv_aload_n hx hb dX9_isLawful_0 rfl (lv_at hl 0 rfl) ?_
  refine lv_iload_n hx hb dX9_isLawful_1 rfl (lv_at hl 1 rfl) ?_
  obtain ⟨u1, hzu1⟩ : ∃ z, z = f_X9_isSet σ p1 := ⟨_, rfl⟩
  have hf := bnd_at u1 hzu1 hf
  refine zz_callVi (rest := []) hx hb hml C hP hS (c_X9_isSet l hDA p1 hzu1.symm) zw_X9_172 ⟨Nat.le_trans (Nat.le_of_ble_eq_true rfl) hRf, Nat.le_trans (Nat.le_of_ble_eq_true rfl) hRl⟩ (by decide) lay_81 rfl rfl hl.1 (Nat.le_of_ble_eq_true rfl) ⟨Nat.zero_le _, Nat.zero_le _⟩ rfl dX9_isLawful_2 (fun H locs hP hS => ?_)
  refine lv_if_eq (tgt := 20) hx hb dX9_isLawful_5 (by decide) (fun hb1 => ?_) (fun hb1 => ?_)
  · have hf := ifT hb1 hf
    refine lv_iconst (v := 0) hx hb dX9_isLawful_20 (by decide) ?_
    have hf := Option.some.inj hf
    subst hf
    exact hQ _ _ _ _ dX9_isLawful_21 (show narrow .boolean (.int 0) = .int 0 from rfl) hP hS
  · have hf := ifF hb1 hf
    refine lv_aload_n hx hb dX9_isLawful_8 rfl (lv_at hl 0 rfl) ?_
    refine lv_iload_n hx hb dX9_isLawful_9 rfl (lv_at hl 1 rfl) ?_
    obtain ⟨u3, hzu3, hf⟩ := obd_some hf
    refine zz_callVi (rest := []) hx hb hml C hP hS (c_X9_count l hDA p1 hzu3) zw_X9_221 ⟨Nat.le_trans (Nat.le_of_ble_eq_true rfl) hRf, Nat.le_trans (Nat.le_of_ble_eq_true rfl) hRl⟩ (by decide) lay_81 rfl rfl hl.1 (Nat.le_of_ble_eq_true rfl) ⟨Nat.zero_le _, Nat.zero_le _⟩ rfl dX9_isLawful_10 (fun H locs hP hS => ?_)
    refine lv_aload_n hx hb dX9_isLawful_13 rfl (lv_at hl 0 rfl) ?_
    refine zg_X9_13 hx hb C hP (by decide) lay_81 rfl dX9_isLawful_14 ?_
    refine lv_icmp_ge (tgt := 22) hx hb dX9_isLawful_17 (by decide) (fun hb3 => ?_) (fun hb3 => ?_)
    · have hf := ifT hb3 hf
      refine lv_bipush (v := 8) hx hb dX9_isLawful_22 (by decide) ?_
      refine lv_istore_n (lv' := [(2, .int 8), (0, .ref (a 81)), (1, .int p1)]) hx hb dX9_isLawful_24 rfl hl (by decide) rfl (fun ls hl => ?_)
      refine lv_iconst (v := (-1)) hx hb dX9_isLawful_25 (by decide) ?_
      refine lv_istore_n (lv' := [(3, .int (-1)), (2, .int 8), (0, .ref (a 81)), (1, .int p1)]) hx hb dX9_isLawful_26 rfl hl (by decide) rfl (fun ls hl => ?_)
      refine lv_iconst (v := 0) hx hb dX9_isLawful_27 (by decide) ?_
      refine lv_istore (lv' := [(4, .int 0), (3, .int (-1)), (2, .int 8), (0, .ref (a 81)), (1, .int p1)]) hx hb dX9_isLawful_28 hl (by decide) rfl (fun ls hl => ?_)
      have hJ104 : ∀ (v5 : Int32) (v6 : Int32), j_X9_isLawful_104 σ p1 v5 v6 = some u → ∀ (H : Heap) (locs : List Loc) (ls : Array Slot), lv_has ls 5 [(0, .ref (a 81)), (1, .int p1), (2, .int v5), (3, .int v6)] → va_P D vwCl (wl a cA σ d) H → va_S A s.heap H locs → W p l e R s m args below meth c H locs 0 0 Q (F0 m 104 ls []) := by
        intro v5 v6 hf H locs ls hl hP hS
        unfold j_X9_isLawful_104 at hf
        refine lv_aload_n hx hb dX9_isLawful_104 rfl (lv_at hl 0 rfl) ?_
        refine zg_X9_136 hx hb C hP (by decide) lay_81 rfl dX9_isLawful_105 ?_
        refine lv_if_eq (tgt := 124) hx hb dX9_isLawful_108 (by decide) (fun hb6 => ?_) (fun hb6 => ?_)
        · have hf := ifT hb6 hf
          refine lv_iconst (v := 1) hx hb dX9_isLawful_124 (by decide) ?_
          refine lv_goto (tgt := 129) hx hb dX9_isLawful_125 (by decide) ?_
          have hf := Option.some.inj hf
          subst hf
          exact hQ _ _ _ _ dX9_isLawful_129 (show narrow .boolean (.int 1) = .int 1 from rfl) hP hS
        · have hf := ifF hb6 hf
          refine lv_iload_n hx hb dX9_isLawful_111 rfl (lv_at hl 3 rfl) ?_
          refine lv_iload_n hx hb dX9_isLawful_112 rfl (lv_at hl 2 rfl) ?_
          refine lv_isub hx hb dX9_isLawful_113 ?_
          refine lv_iconst (v := 1) hx hb dX9_isLawful_114 (by decide) ?_
          refine lv_iadd hx hb dX9_isLawful_115 ?_
          refine lv_aload_n hx hb dX9_isLawful_116 rfl (lv_at hl 0 rfl) ?_
          refine lv_iload_n hx hb dX9_isLawful_117 rfl (lv_at hl 1 rfl) ?_
          obtain ⟨u8, hzu8, hf⟩ := obd_some hf
          refine zz_callVi (rest := [.int ((v6 - v5) + 1)]) hx hb hml C hP hS (c_X9_count l hDA p1 hzu8) zw_X9_221 ⟨Nat.le_trans (Nat.le_of_ble_eq_true rfl) hRf, Nat.le_trans (Nat.le_of_ble_eq_true rfl) hRl⟩ (by decide) lay_81 rfl rfl hl.1 (Nat.le_of_ble_eq_true rfl) ⟨Nat.zero_le _, Nat.zero_le _⟩ rfl dX9_isLawful_118 (fun H locs hP hS => ?_)
          refine lv_icmp_ne (tgt := 128) hx hb dX9_isLawful_121 (by decide) (fun hb8 => ?_) (fun hb8 => ?_)
          · have hf := ifF hb8 hf
            refine lv_iconst (v := 0) hx hb dX9_isLawful_128 (by decide) ?_
            have hf := Option.some.inj hf
            subst hf
            exact hQ _ _ _ _ dX9_isLawful_129 (show narrow .boolean (.int 0) = .int 0 from rfl) hP hS
          · have hf := ifT hb8 hf
            refine lv_iconst (v := 1) hx hb dX9_isLawful_124 (by decide) ?_
            refine lv_goto (tgt := 129) hx hb dX9_isLawful_125 (by decide) ?_
            have hf := Option.some.inj hf
            subst hf
            exact hQ _ _ _ _ dX9_isLawful_129 (show narrow .boolean (.int 1) = .int 1 from rfl) hP hS
      refine loopN_ind (P := fun (q10 : Int32 × Int32 × Int32) => ∀ (H : Heap) (locs : List Loc) (ls : Array Slot), lv_has ls 5 [(0, .ref (a 81)), (1, .int p1), (2, .int q10.1), (3, .int q10.2.1), (4, .int q10.2.2)] → va_P D vwCl (wl a cA σ d) H → va_S A s.heap H locs → W p l e R s m args below meth c H locs 0 0 Q (F0 m 30 ls [])) ?_ _ _ hf _ _ _ (lv_sub hl [3, 4, 2, 1, 0] rfl) hP hS
      intro k11 ihk11 q10 hf H locs ls hl hP hS
      unfold b_X9_isLawful_30 at hf
      refine lv_iload hx hb dX9_isLawful_30 (lv_at hl 4 rfl) ?_
      refine lv_aload_n hx hb dX9_isLawful_32 rfl (lv_at hl 0 rfl) ?_
      refine zg_X9_96 hx hb C hP (by decide) lay_81 rfl dX9_isLawful_33 ?_
      refine lv_icmp_ge (tgt := 104) hx hb dX9_isLawful_36 (by decide) (fun hb11 => ?_) (fun hb11 => ?_)
      · have hf := ifT hb11 hf
        exact hJ104 _ _ hf _ _ _ (lv_sub hl [0, 1, 2, 3] rfl) hP hS
      · have hf := ifF hb11 hf
        refine lv_aload_n hx hb dX9_isLawful_39 rfl (lv_at hl 0 rfl) ?_
        refine lv_iload_n hx hb dX9_isLawful_40 rfl (lv_at hl 1 rfl) ?_
        refine lv_iload hx hb dX9_isLawful_41 (lv_at hl 4 rfl) ?_
        obtain ⟨u13, hzu13⟩ : ∃ z, z = f_X9_isIn p1 q10.2.2 := ⟨_, rfl⟩
        have hf := bnd_at u13 hzu13 hf
        refine zz_callVi (rest := []) hx hb hml C hP hS (c_X9_isIn l hDA p1 q10.2.2 hzu13.symm) zw_X9_214 ⟨Nat.le_trans (Nat.le_of_ble_eq_true rfl) hRf, Nat.le_trans (Nat.le_of_ble_eq_true rfl) hRl⟩ (by decide) lay_81 rfl rfl hl.1 (Nat.le_of_ble_eq_true rfl) ⟨Nat.zero_le _, Nat.zero_le _⟩ rfl dX9_isLawful_43 (fun H locs hP hS => ?_)
        refine lv_if_ne (tgt := 52) hx hb dX9_isLawful_46 (by decide) (fun hb13 => ?_) (fun hb13 => ?_)
        · have hf := ifF hb13 hf
          refine lv_aload_n hx hb dX9_isLawful_52 rfl (lv_at hl 0 rfl) ?_
          refine zg_X9_35 hx hb C hP (by decide) lay_81 rfl dX9_isLawful_53 ?_
          refine lv_iload hx hb dX9_isLawful_56 (lv_at hl 4 rfl) ?_
          obtain ⟨hc14, hf⟩ := chk_some hf
          refine zz_iald hx hb C hP (by decide) lay_86 (inb_vp hc14) dX9_isLawful_58 ?_
          refine lv_iload_n hx hb dX9_isLawful_59 rfl (lv_at hl 2 rfl) ?_
          have hJ74 : ∀ (v16 : Int32), j_X9_isLawful_74 σ q10 k11 v16 = some u → ∀ (H : Heap) (locs : List Loc) (ls : Array Slot), lv_has ls 5 [(0, .ref (a 81)), (1, .int p1), (3, .int q10.2.1), (4, .int q10.2.2)] → va_P D vwCl (wl a cA σ d) H → va_S A s.heap H locs → W p l e R s m args below meth c H locs 0 0 Q (F0 m 74 ls [.int v16]) := by
            intro v16 hf H locs ls hl hP hS
            unfold j_X9_isLawful_74 at hf
            refine lv_istore_n (lv' := [(2, .int v16), (0, .ref (a 81)), (1, .int p1), (3, .int q10.2.1), (4, .int q10.2.2)]) hx hb dX9_isLawful_74 rfl hl (by decide) rfl (fun ls hl => ?_)
            refine lv_aload_n hx hb dX9_isLawful_75 rfl (lv_at hl 1 rfl) ?_
            refine zg_X9_35 hx hb C hP (by decide) lay_81 rfl dX9_isLawful_76 ?_
            refine lv_iload hx hb dX9_isLawful_79 (lv_at hl 4 rfl) ?_
            obtain ⟨hc16, hf⟩ := chk_some hf
            refine zz_iald hx hb C hP (by decide) lay_86 (inb_vp hc16) dX9_isLawful_81 ?_
            refine lv_iload_n hx hb dX9_isLawful_82 rfl (lv_at hl 3 rfl) ?_
            refine lv_icmp_le (tgt := 96) hx hb dX9_isLawful_83 (by decide) (fun hb17 => ?_) (fun hb17 => ?_)
            · have hf := ifT hb17 hf
              refine lv_iload_n hx hb dX9_isLawful_96 rfl (lv_at hl 3 rfl) ?_
              refine lv_istore_n (lv' := [(3, .int q10.2.1), (2, .int v16), (0, .ref (a 81)), (1, .int p1), (4, .int q10.2.2)]) hx hb dX9_isLawful_97 rfl hl (by decide) rfl (fun ls hl => ?_)
              obtain ⟨v19, ev19⟩ : ∃ z : Int32, z = q10.2.2 + 1 := ⟨_, rfl⟩
              have hf := bnd_at v19 ev19 hf
              refine lv_iinc (v := v19) (lv' := [(4, .int v19), (3, .int q10.2.1), (2, .int v16), (0, .ref (a 81)), (1, .int p1)]) hx hb dX9_isLawful_98 hl (k := 4) rfl (by rw [ev19]; rfl) (by decide) rfl (fun ls hl => ?_)
              refine lv_goto (tgt := 30) hx hb dX9_isLawful_101 (by decide) ?_
              exact ihk11 _ hf _ _ _ (lv_sub hl [3, 4, 2, 1, 0] rfl) hP hS
            · have hf := ifF hb17 hf
              refine lv_aload_n hx hb dX9_isLawful_86 rfl (lv_at hl 1 rfl) ?_
              refine zg_X9_35 hx hb C hP (by decide) lay_81 rfl dX9_isLawful_87 ?_
              refine lv_iload hx hb dX9_isLawful_90 (lv_at hl 4 rfl) ?_
              obtain ⟨hc19, hf⟩ := chk_some hf
              refine zz_iald hx hb C hP (by decide) lay_86 (inb_vp hc19) dX9_isLawful_92 ?_
              refine lv_goto (tgt := 97) hx hb dX9_isLawful_93 (by decide) ?_
              refine lv_topi (fun v21 ev21 => ?_)
              have hf := bnd_at v21 ev21 hf
              refine lv_istore_n (lv' := [(3, .int v21), (2, .int v16), (0, .ref (a 81)), (1, .int p1), (4, .int q10.2.2)]) hx hb dX9_isLawful_97 rfl hl (by decide) rfl (fun ls hl => ?_)
              obtain ⟨v22, ev22⟩ : ∃ z : Int32, z = q10.2.2 + 1 := ⟨_, rfl⟩
              have hf := bnd_at v22 ev22 hf
              refine lv_iinc (v := v22) (lv' := [(4, .int v22), (3, .int v21), (2, .int v16), (0, .ref (a 81)), (1, .int p1)]) hx hb dX9_isLawful_98 hl (k := 4) rfl (by rw [ev22]; rfl) (by decide) rfl (fun ls hl => ?_)
              refine lv_goto (tgt := 30) hx hb dX9_isLawful_101 (by decide) ?_
              exact ihk11 _ hf _ _ _ (lv_sub hl [3, 4, 2, 1, 0] rfl) hP hS
          refine lv_icmp_ge (tgt := 73) hx hb dX9_isLawful_60 (by decide) (fun hb22 => ?_) (fun hb22 => ?_)
          · have hf := ifT hb22 hf
            refine lv_iload_n hx hb dX9_isLawful_73 rfl (lv_at hl 2 rfl) ?_
            exact hJ74 _ hf _ _ _ (lv_sub hl [0, 1, 3, 4] rfl) hP hS
          · have hf := ifF hb22 hf
            refine lv_aload_n hx hb dX9_isLawful_63 rfl (lv_at hl 0 rfl) ?_
            refine zg_X9_35 hx hb C hP (by decide) lay_81 rfl dX9_isLawful_64 ?_
            refine lv_iload hx hb dX9_isLawful_67 (lv_at hl 4 rfl) ?_
            obtain ⟨hc23, hf⟩ := chk_some hf
            refine zz_iald hx hb C hP (by decide) lay_86 (inb_vp hc23) dX9_isLawful_69 ?_
            refine lv_goto (tgt := 74) hx hb dX9_isLawful_70 (by decide) ?_
            exact hJ74 _ hf _ _ _ (lv_sub hl [0, 1, 3, 4] rfl) hP hS
        · have hf := ifT hb13 hf
          refine lv_goto (tgt := 98) hx hb dX9_isLawful_49 (by decide) ?_
          obtain ⟨v25, ev25⟩ : ∃ z : Int32, z = q10.2.2 + 1 := ⟨_, rfl⟩
          have hf := bnd_at v25 ev25 hf
          refine lv_iinc (v := v25) (lv' := [(4, .int v25), (0, .ref (a 81)), (1, .int p1), (2, .int q10.1), (3, .int q10.2.1)]) hx hb dX9_isLawful_98 hl (k := 4) rfl (by rw [ev25]; rfl) (by decide) rfl (fun ls hl => ?_)
          refine lv_goto (tgt := 30) hx hb dX9_isLawful_101 (by decide) ?_
          exact ihk11 _ hf _ _ _ (lv_sub hl [1, 2, 3, 4, 0] rfl) hP hS
    · have hf := ifF hb3 hf
      refine lv_iconst (v := 0) hx hb dX9_isLawful_20 (by decide) ?_
      have hf := Option.some.inj hf
      subst hf
      exact hQ _ _ _ _ dX9_isLawful_21 (show narrow .boolean (.int 0) = .int 0 from rfl) hP hS
set_option maxHeartbeats 4000000 in
set_option maxRecDepth 100000 in
theorem c_X9_lawful (l : Launch) {D : va_G} {a : Nat → Nat} {cA : Nat → ClassId} {A : Nat → Prop} {sa : Nat → Nat} (hDA : DA a A) {σ : PH} {d : PD} (p1 : Int32) {u : Int32} (hf : f_X9_lawful σ p1 = some u) : CTi l yX9_lawful cX9_lawful 2 (some .int) 3 65 D a cA A sa [.ref (a 81), .int p1] σ d u σ d := by
  refine zz_metI zpl_X9 hDA (Nat.le_of_ble_eq_true rfl) ?_
  intro p e R s m args below meth c Q ls hx hb hml C hRf hRl hQ hP hS hl
  have hl : lv_has ls 2 [(0, .ref (a 81)), (1, .int p1)] := hl
  unfold f_X9_lawful at hf
  refine lv_aload_n hx hb dX9_lawful_0 rfl (lv_at hl 0 rfl) ?_
  refine lv_iload_n hx hb dX9_lawful_1 rfl (lv_at hl 1 rfl) ?_
  obtain ⟨u1, hzu1, hf⟩ := obd_some hf
  refine zz_callVi (rest := []) hx hb hml C hP hS (c_X9_isLawful l hDA p1 hzu1) zw_X9_248 ⟨Nat.le_trans (Nat.le_of_ble_eq_true rfl) hRf, Nat.le_trans (Nat.le_of_ble_eq_true rfl) hRl⟩ (by decide) lay_81 rfl rfl hl.1 (Nat.le_of_ble_eq_true rfl) ⟨Nat.zero_le _, Nat.zero_le _⟩ rfl dX9_lawful_2 (fun H locs hP hS => ?_)
  refine lv_if_eq (tgt := 12) hx hb dX9_lawful_5 (by decide) (fun hb1 => ?_) (fun hb1 => ?_)
  · have hf := ifT hb1 hf
    refine lv_iconst (v := 0) hx hb dX9_lawful_12 (by decide) ?_
    have hf := Option.some.inj hf
    subst hf
    exact hQ _ _ _ _ dX9_lawful_13 hP hS
  · have hf := ifF hb1 hf
    refine lv_iconst (v := 1) hx hb dX9_lawful_8 (by decide) ?_
    refine lv_goto (tgt := 13) hx hb dX9_lawful_9 (by decide) ?_
    have hf := Option.some.inj hf
    subst hf
    exact hQ _ _ _ _ dX9_lawful_13 hP hS
set_option maxHeartbeats 4000000 in
set_option maxRecDepth 100000 in
theorem c_X9_wrongOf (l : Launch) {D : va_G} {a : Nat → Nat} {cA : Nat → ClassId} {A : Nat → Prop} {sa : Nat → Nat} (hDA : DA a A) {σ : PH} {d : PD} (p1 : Int32) (p2 : Int32) (p3 : Int32) {u : Int32} (hf : f_X9_wrongOf σ p1 p2 p3 = some u) : CTi l yX9_wrongOf cX9_wrongOf 6 (some .int) 4 93 D a cA A sa [.ref (a 81), .int p1, .int p2, .int p3] σ d u σ d := by
  refine zz_metI zpl_X9 hDA (Nat.le_of_ble_eq_true rfl) ?_
  intro p e R s m args below meth c Q ls hx hb hml C hRf hRl hQ hP hS hl
  have hl : lv_has ls 6 [(0, .ref (a 81)), (1, .int p1), (2, .int p2), (3, .int p3)] := hl
  unfold f_X9_wrongOf at hf
  refine lv_iconst (v := 0) hx hb dX9_wrongOf_0 (by decide) ?_
  refine lv_istore (lv' := [(4, .int 0), (0, .ref (a 81)), (1, .int p1), (2, .int p2), (3, .int p3)]) hx hb dX9_wrongOf_1 hl (by decide) rfl (fun ls hl => ?_)
  refine lv_iconst (v := 0) hx hb dX9_wrongOf_3 (by decide) ?_
  refine lv_istore (lv' := [(5, .int 0), (4, .int 0), (0, .ref (a 81)), (1, .int p1), (2, .int p2), (3, .int p3)]) hx hb dX9_wrongOf_4 hl (by decide) rfl (fun ls hl => ?_)
  refine loopN_ind (P := fun (q1 : Int32 × Int32) => ∀ (H : Heap) (locs : List Loc) (ls : Array Slot), lv_has ls 6 [(0, .ref (a 81)), (1, .int p1), (2, .int p2), (3, .int p3), (4, .int q1.1), (5, .int q1.2)] → va_P D vwCl (wl a cA σ d) H → va_S A s.heap H locs → W p l e R s m args below meth c H locs 0 0 Q (F0 m 6 ls [])) ?_ _ _ hf _ _ _ (lv_sub hl [2, 3, 4, 5, 1, 0] rfl) hP hS
  intro k2 ihk2 q1 hf H locs ls hl hP hS
  unfold b_X9_wrongOf_6 at hf
  refine lv_iload hx hb dX9_wrongOf_6 (lv_at hl 5 rfl) ?_
  refine lv_iload_n hx hb dX9_wrongOf_8 rfl (lv_at hl 1 rfl) ?_
  refine lv_icmp_ge (tgt := 37) hx hb dX9_wrongOf_9 (by decide) (fun hb2 => ?_) (fun hb2 => ?_)
  · have hf := ifT hb2 hf
    refine lv_iload hx hb dX9_wrongOf_37 (lv_at hl 4 rfl) ?_
    have hf := Option.some.inj hf
    subst hf
    exact hQ _ _ _ _ dX9_wrongOf_39 hP hS
  · have hf := ifF hb2 hf
    refine lv_iload hx hb dX9_wrongOf_12 (lv_at hl 4 rfl) ?_
    refine lv_aload_n hx hb dX9_wrongOf_14 rfl (lv_at hl 0 rfl) ?_
    refine lv_iload_n hx hb dX9_wrongOf_15 rfl (lv_at hl 3 rfl) ?_
    refine lv_aload_n hx hb dX9_wrongOf_16 rfl (lv_at hl 0 rfl) ?_
    refine zg_X9_81 hx hb C hP (by decide) lay_81 rfl dX9_wrongOf_17 ?_
    refine lv_iload_n hx hb dX9_wrongOf_20 rfl (lv_at hl 2 rfl) ?_
    refine lv_iload hx hb dX9_wrongOf_21 (lv_at hl 5 rfl) ?_
    refine lv_iadd hx hb dX9_wrongOf_23 ?_
    obtain ⟨hc3, hf⟩ := chk_some hf
    refine zz_iald hx hb C hP (by decide) lay_101 (inb_vp hc3) dX9_wrongOf_24 ?_
    obtain ⟨u5, hzu5, hf⟩ := obd_some hf
    refine zz_callVi (rest := [.int q1.1]) hx hb hml C hP hS (c_X9_soundOf l hDA p3 (gI σ 101 (p2 + q1.2).toNatClampNeg) hzu5) zw_X9_230 ⟨Nat.le_trans (Nat.le_of_ble_eq_true rfl) hRf, Nat.le_trans (Nat.le_of_ble_eq_true rfl) hRl⟩ (by decide) lay_81 rfl rfl hl.1 (Nat.le_of_ble_eq_true rfl) ⟨Nat.zero_le _, Nat.zero_le _⟩ rfl dX9_wrongOf_25 (fun H locs hP hS => ?_)
    refine lv_iadd hx hb dX9_wrongOf_28 ?_
    refine lv_topi (fun v6 ev6 => ?_)
    have hf := bnd_at v6 ev6 hf
    refine lv_istore (lv' := [(4, .int v6), (0, .ref (a 81)), (1, .int p1), (2, .int p2), (3, .int p3), (5, .int q1.2)]) hx hb dX9_wrongOf_29 hl (by decide) rfl (fun ls hl => ?_)
    obtain ⟨v7, ev7⟩ : ∃ z : Int32, z = q1.2 + 1 := ⟨_, rfl⟩
    have hf := bnd_at v7 ev7 hf
    refine lv_iinc (v := v7) (lv' := [(5, .int v7), (4, .int v6), (0, .ref (a 81)), (1, .int p1), (2, .int p2), (3, .int p3)]) hx hb dX9_wrongOf_31 hl (k := 5) rfl (by rw [ev7]; rfl) (by decide) rfl (fun ls hl => ?_)
    refine lv_goto (tgt := 6) hx hb dX9_wrongOf_34 (by decide) ?_
    exact ihk2 _ hf _ _ _ (lv_sub hl [2, 3, 4, 5, 1, 0] rfl) hP hS
set_option maxHeartbeats 4000000 in
set_option maxRecDepth 100000 in
theorem c_X9_parts (l : Launch) {D : va_G} {a : Nat → Nat} {cA : Nat → ClassId} {A : Nat → Prop} {sa : Nat → Nat} (hDA : DA a A) {σ : PH} {d : PD} (p1 : Int32) (p2 : Int32) {u : Int32 × PH} (hf : f_X9_parts σ p1 p2 = some u) : CTi l yX9_parts cX9_parts 5 (some .int) 6 140 D a cA A sa [.ref (a 81), .int p1, .int p2] σ d u.1 u.2 d := by
  refine zz_metI zpl_X9 hDA (Nat.le_of_ble_eq_true rfl) ?_
  intro p e R s m args below meth c Q ls hx hb hml C hRf hRl hQ hP hS hl
  have hl : lv_has ls 5 [(0, .ref (a 81)), (1, .int p1), (2, .int p2)] := hl
  unfold f_X9_parts at hf
  refine lv_aload_n hx hb dX9_parts_0 rfl (lv_at hl 0 rfl) ?_
  refine lv_iload_n hx hb dX9_parts_1 rfl (lv_at hl 2 rfl) ?_
  obtain ⟨u1, hzu1⟩ : ∃ z, z = f_X9_isOne p2 := ⟨_, rfl⟩
  have hf := bnd_at u1 hzu1 hf
  refine zz_callVi (rest := []) hx hb hml C hP hS (c_X9_isOne l hDA p2 hzu1.symm) zw_X9_175 ⟨Nat.le_trans (Nat.le_of_ble_eq_true rfl) hRf, Nat.le_trans (Nat.le_of_ble_eq_true rfl) hRl⟩ (by decide) lay_81 rfl rfl hl.1 (Nat.le_of_ble_eq_true rfl) ⟨Nat.zero_le _, Nat.zero_le _⟩ rfl dX9_parts_2 (fun H locs hP hS => ?_)
  refine lv_if_ne (tgt := 15) hx hb dX9_parts_5 (by decide) (fun hb1 => ?_) (fun hb1 => ?_)
  · have hf := ifF hb1 hf
    refine lv_aload_n hx hb dX9_parts_15 rfl (lv_at hl 0 rfl) ?_
    refine lv_iload_n hx hb dX9_parts_16 rfl (lv_at hl 1 rfl) ?_
    obtain ⟨u3, hzu3⟩ : ∃ z, z = f_X9_isSet σ p1 := ⟨_, rfl⟩
    have hf := bnd_at u3 hzu3 hf
    refine zz_callVi (rest := []) hx hb hml C hP hS (c_X9_isSet l hDA p1 hzu3.symm) zw_X9_172 ⟨Nat.le_trans (Nat.le_of_ble_eq_true rfl) hRf, Nat.le_trans (Nat.le_of_ble_eq_true rfl) hRl⟩ (by decide) lay_81 rfl rfl hl.1 (Nat.le_of_ble_eq_true rfl) ⟨Nat.zero_le _, Nat.zero_le _⟩ rfl dX9_parts_17 (fun H locs hP hS => ?_)
    refine lv_if_ne (tgt := 30) hx hb dX9_parts_20 (by decide) (fun hb3 => ?_) (fun hb3 => ?_)
    · have hf := ifF hb3 hf
      refine lv_aload_n hx hb dX9_parts_30 rfl (lv_at hl 0 rfl) ?_
      obtain ⟨u5, hzu5, hf⟩ := obd_some hf
      refine zz_callVi (rest := []) hx hb hml C hP hS (c_X9_possible l hDA  hzu5) zw_X9_239 ⟨Nat.le_trans (Nat.le_of_ble_eq_true rfl) hRf, Nat.le_trans (Nat.le_of_ble_eq_true rfl) hRl⟩ (by decide) lay_81 rfl rfl hl.1 (Nat.le_of_ble_eq_true rfl) ⟨Nat.zero_le _, Nat.zero_le _⟩ rfl dX9_parts_31 (fun H locs hP hS => ?_)
      refine lv_istore_n (lv' := [(3, .int u5.1), (0, .ref (a 81)), (1, .int p1), (2, .int p2)]) hx hb dX9_parts_34 rfl hl (by decide) rfl (fun ls hl => ?_)
      refine lv_aload_n hx hb dX9_parts_35 rfl (lv_at hl 1 rfl) ?_
      refine lv_iload_n hx hb dX9_parts_36 rfl (lv_at hl 0 rfl) ?_
      refine lv_iconst (v := 0) hx hb dX9_parts_37 (by decide) ?_
      refine lv_iload_n hx hb dX9_parts_38 rfl (lv_at hl 2 rfl) ?_
      obtain ⟨u6, hzu6, hf⟩ := obd_some hf
      refine zz_callVi (rest := []) hx hb hml C hP hS (c_X9_wrongOf l hDA u5.1 0 p1 hzu6) zw_X9_251 ⟨Nat.le_trans (Nat.le_of_ble_eq_true rfl) hRf, Nat.le_trans (Nat.le_of_ble_eq_true rfl) hRl⟩ (by decide) lay_81 rfl rfl hl.1 (Nat.le_of_ble_eq_true rfl) ⟨Nat.zero_le _, Nat.zero_le _⟩ rfl dX9_parts_39 (fun H locs hP hS => ?_)
      refine lv_istore (lv' := [(4, .int u6), (3, .int u5.1), (0, .ref (a 81)), (1, .int p1), (2, .int p2)]) hx hb dX9_parts_42 hl (by decide) rfl (fun ls hl => ?_)
      refine lv_iload_n hx hb dX9_parts_44 rfl (lv_at hl 4 rfl) ?_
      refine lv_if_ne (tgt := 53) hx hb dX9_parts_45 (by decide) (fun hb6 => ?_) (fun hb6 => ?_)
      · have hf := ifF hb6 hf
        refine lv_iload hx hb dX9_parts_53 (lv_at hl 0 rfl) ?_
        refine lv_iload_n hx hb dX9_parts_55 rfl (lv_at hl 1 rfl) ?_
        refine lv_iload hx hb dX9_parts_56 (lv_at hl 0 rfl) ?_
        refine lv_isub hx hb dX9_parts_58 ?_
        refine lv_icmp_le (tgt := 67) hx hb dX9_parts_59 (by decide) (fun hb7 => ?_) (fun hb7 => ?_)
        · have hf := ifT hb7 hf
          refine lv_iload_n hx hb dX9_parts_67 rfl (lv_at hl 1 rfl) ?_
          refine lv_iload hx hb dX9_parts_68 (lv_at hl 0 rfl) ?_
          refine lv_isub hx hb dX9_parts_70 ?_
          have hf := Option.some.inj hf
          subst hf
          exact hQ _ _ _ _ dX9_parts_71 hP hS
        · have hf := ifF hb7 hf
          refine lv_iload hx hb dX9_parts_62 (lv_at hl 0 rfl) ?_
          refine lv_goto (tgt := 71) hx hb dX9_parts_64 (by decide) ?_
          have hf := Option.some.inj hf
          subst hf
          exact hQ _ _ _ _ dX9_parts_71 hP hS
      · have hf := ifT hb6 hf
        refine lv_iload hx hb dX9_parts_48 (lv_at hl 0 rfl) ?_
        refine lv_goto (tgt := 71) hx hb dX9_parts_50 (by decide) ?_
        have hf := Option.some.inj hf
        subst hf
        exact hQ _ _ _ _ dX9_parts_71 hP hS
    · have hf := ifT hb3 hf
      refine lv_aload_n hx hb dX9_parts_23 rfl (lv_at hl 0 rfl) ?_
      refine lv_bipush (v := (-6)) hx hb dX9_parts_24 (by decide) ?_
      obtain ⟨u9, hzu9, hf⟩ := obd_some hf
      refine zz_callVi (rest := []) hx hb hml C hP hS (c_X9_no l hDA (-6) hzu9) zw_X9_107 ⟨Nat.le_trans (Nat.le_of_ble_eq_true rfl) hRf, Nat.le_trans (Nat.le_of_ble_eq_true rfl) hRl⟩ (by decide) lay_81 rfl rfl hl.1 (Nat.le_of_ble_eq_true rfl) ⟨Nat.zero_le _, Nat.zero_le _⟩ rfl dX9_parts_26 (fun H locs hP hS => ?_)
      have hf := Option.some.inj hf
      subst hf
      exact hQ _ _ _ _ dX9_parts_29 hP hS
  · have hf := ifT hb1 hf
    refine lv_aload_n hx hb dX9_parts_8 rfl (lv_at hl 0 rfl) ?_
    refine lv_bipush (v := (-5)) hx hb dX9_parts_9 (by decide) ?_
    obtain ⟨u10, hzu10, hf⟩ := obd_some hf
    refine zz_callVi (rest := []) hx hb hml C hP hS (c_X9_no l hDA (-5) hzu10) zw_X9_107 ⟨Nat.le_trans (Nat.le_of_ble_eq_true rfl) hRf, Nat.le_trans (Nat.le_of_ble_eq_true rfl) hRl⟩ (by decide) lay_81 rfl rfl hl.1 (Nat.le_of_ble_eq_true rfl) ⟨Nat.zero_le _, Nat.zero_le _⟩ rfl dX9_parts_11 (fun H locs hP hS => ?_)
    have hf := Option.some.inj hf
    subst hf
    exact hQ _ _ _ _ dX9_parts_14 hP hS
set_option maxHeartbeats 4000000 in
set_option maxRecDepth 100000 in
theorem c_X9_tables (l : Launch) {D : va_G} {a : Nat → Nat} {cA : Nat → ClassId} {A : Nat → Prop} {sa : Nat → Nat} (hDA : DA a A) {σ : PH} {d : PD} (p1 : Int32) {u : PH} (hf : f_X9_tables σ p1 = some u) : CTv l yX9_tables cX9_tables 4 none 4 93 D a cA A sa [.ref (a 81), .int p1] σ d u d := by
  refine zz_metV zpl_X9 hDA (Nat.le_of_ble_eq_true rfl) ?_
  intro p e R s m args below meth c Q ls hx hb hml C hRf hRl hQ hP hS hl
  have hl : lv_has ls 4 [(0, .ref (a 81)), (1, .int p1)] := hl
  unfold f_X9_tables at hf
  refine lv_iconst (v := 1) hx hb dX9_tables_0 (by decide) ?_
  refine lv_istore_n (lv' := [(2, .int 1), (0, .ref (a 81)), (1, .int p1)]) hx hb dX9_tables_1 rfl hl (by decide) rfl (fun ls hl => ?_)
  refine loopN_ind (P := fun (q1 : Int32 × PH) => ∀ (H : Heap) (locs : List Loc) (ls : Array Slot), lv_has ls 4 [(0, .ref (a 81)), (1, .int p1), (2, .int q1.1)] → va_P D vwCl (wl a cA q1.2 d) H → va_S A s.heap H locs → W p l e R s m args below meth c H locs 0 0 Q (F0 m 2 ls [])) ?_ _ _ hf _ _ _ (lv_sub hl [1, 2, 0] rfl) hP hS
  intro k2 ihk2 q1 hf H locs ls hl hP hS
  unfold b_X9_tables_2 at hf
  refine lv_iload_n hx hb dX9_tables_2 rfl (lv_at hl 2 rfl) ?_
  refine lv_aload_n hx hb dX9_tables_3 rfl (lv_at hl 0 rfl) ?_
  obtain ⟨u3, hzu3⟩ : ∃ z, z = f_X9_everybody q1.2 := ⟨_, rfl⟩
  have hf := bnd_at u3 hzu3 hf
  refine zz_callVi (rest := [.int q1.1]) hx hb hml C hP hS (c_X9_everybody l hDA  hzu3.symm) zw_X9_99 ⟨Nat.le_trans (Nat.le_of_ble_eq_true rfl) hRf, Nat.le_trans (Nat.le_of_ble_eq_true rfl) hRl⟩ (by decide) lay_81 rfl rfl hl.1 (Nat.le_of_ble_eq_true rfl) ⟨Nat.zero_le _, Nat.zero_le _⟩ rfl dX9_tables_4 (fun H locs hP hS => ?_)
  refine lv_icmp_gt (tgt := 63) hx hb dX9_tables_7 (by decide) (fun hb3 => ?_) (fun hb3 => ?_)
  · have hf := ifT hb3 hf
    have hf := Option.some.inj hf
    subst hf
    exact hQ _ _ _ _ dX9_tables_63 hP hS
  · have hf := ifF hb3 hf
    refine lv_iconst (v := 0) hx hb dX9_tables_10 (by decide) ?_
    refine lv_istore_n (lv' := [(3, .int 0), (0, .ref (a 81)), (1, .int p1), (2, .int q1.1)]) hx hb dX9_tables_11 rfl hl (by decide) rfl (fun ls hl => ?_)
    refine loopN_ind (P := fun (q5 : Int32 × PH) => ∀ (H : Heap) (locs : List Loc) (ls : Array Slot), lv_has ls 4 [(0, .ref (a 81)), (1, .int p1), (2, .int q1.1), (3, .int q5.1)] → va_P D vwCl (wl a cA q5.2 d) H → va_S A s.heap H locs → W p l e R s m args below meth c H locs 0 0 Q (F0 m 12 ls [])) ?_ _ _ hf _ _ _ (lv_sub hl [1, 2, 3, 0] rfl) hP hS
    intro k6 ihk6 q5 hf H locs ls hl hP hS
    unfold b_X9_tables_12 at hf
    refine lv_iload_n hx hb dX9_tables_12 rfl (lv_at hl 3 rfl) ?_
    refine lv_iload_n hx hb dX9_tables_13 rfl (lv_at hl 1 rfl) ?_
    refine lv_icmp_ge (tgt := 57) hx hb dX9_tables_14 (by decide) (fun hb6 => ?_) (fun hb6 => ?_)
    · have hf := ifT hb6 hf
      obtain ⟨v8, ev8⟩ : ∃ z : Int32, z = q1.1 + 1 := ⟨_, rfl⟩
      have hf := bnd_at v8 ev8 hf
      refine lv_iinc (v := v8) (lv' := [(2, .int v8), (0, .ref (a 81)), (1, .int p1), (3, .int q5.1)]) hx hb dX9_tables_57 hl (k := 2) rfl (by rw [ev8]; rfl) (by decide) rfl (fun ls hl => ?_)
      refine lv_goto (tgt := 2) hx hb dX9_tables_60 (by decide) ?_
      exact ihk2 _ hf _ _ _ (lv_sub hl [1, 2, 0] rfl) hP hS
    · have hf := ifF hb6 hf
      refine lv_aload_n hx hb dX9_tables_17 rfl (lv_at hl 0 rfl) ?_
      refine zg_X9_84 hx hb C hP (by decide) lay_81 rfl dX9_tables_18 ?_
      refine lv_bipush (v := 92) hx hb dX9_tables_21 (by decide) ?_
      refine lv_iload_n hx hb dX9_tables_23 rfl (lv_at hl 2 rfl) ?_
      refine lv_imul hx hb dX9_tables_24 ?_
      refine lv_iload_n hx hb dX9_tables_25 rfl (lv_at hl 3 rfl) ?_
      refine lv_iadd hx hb dX9_tables_26 ?_
      refine lv_aload_n hx hb dX9_tables_27 rfl (lv_at hl 0 rfl) ?_
      refine lv_iload_n hx hb dX9_tables_28 rfl (lv_at hl 2 rfl) ?_
      obtain ⟨u9, hzu9, hf⟩ := obd_some hf
      refine zz_callVi (rest := [.int ((92 * q1.1) + q5.1), .ref (a 102)]) hx hb hml C hP hS (c_X9_isLawful l hDA q1.1 hzu9) zw_X9_248 ⟨Nat.le_trans (Nat.le_of_ble_eq_true rfl) hRf, Nat.le_trans (Nat.le_of_ble_eq_true rfl) hRl⟩ (by decide) lay_81 rfl rfl hl.1 (Nat.le_of_ble_eq_true rfl) ⟨Nat.zero_le _, Nat.zero_le _⟩ rfl dX9_tables_29 (fun H locs hP hS => ?_)
      refine lv_if_eq (tgt := 49) hx hb dX9_tables_32 (by decide) (fun hb9 => ?_) (fun hb9 => ?_)
      · have hf := ifT hb9 hf
        refine lv_iconst (v := (-1)) hx hb dX9_tables_49 (by decide) ?_
        obtain ⟨hc10, hf⟩ := chk_some hf
        refine zz_iast hx hb C hP hS (by decide) lay_102 (inb_vp hc10) dX9_tables_50 (fun σ12 eσ12 H locs hP hS => ?_)
        have hf := bnd_at σ12 eσ12 hf
        obtain ⟨v13, ev13⟩ : ∃ z : Int32, z = q5.1 + 1 := ⟨_, rfl⟩
        have hf := bnd_at v13 ev13 hf
        refine lv_iinc (v := v13) (lv' := [(3, .int v13), (0, .ref (a 81)), (1, .int p1), (2, .int q1.1)]) hx hb dX9_tables_51 hl (k := 3) rfl (by rw [ev13]; rfl) (by decide) rfl (fun ls hl => ?_)
        refine lv_goto (tgt := 12) hx hb dX9_tables_54 (by decide) ?_
        exact ihk6 _ hf _ _ _ (lv_sub hl [1, 2, 3, 0] rfl) hP hS
      · have hf := ifF hb9 hf
        refine lv_aload_n hx hb dX9_tables_35 rfl (lv_at hl 0 rfl) ?_
        refine lv_iload_n hx hb dX9_tables_36 rfl (lv_at hl 2 rfl) ?_
        refine lv_aload_n hx hb dX9_tables_37 rfl (lv_at hl 0 rfl) ?_
        refine zg_X9_81 hx hb C hP (by decide) lay_81 rfl dX9_tables_38 ?_
        refine lv_iload_n hx hb dX9_tables_41 rfl (lv_at hl 3 rfl) ?_
        obtain ⟨hc13, hf⟩ := chk_some hf
        refine zz_iald hx hb C hP (by decide) lay_101 (inb_vp hc13) dX9_tables_42 ?_
        obtain ⟨u15, hzu15, hf⟩ := obd_some hf
        refine zz_callVi (rest := [.int ((92 * q1.1) + q5.1), .ref (a 102)]) hx hb hml C hP hS (c_X9_soundOf l hDA q1.1 (gI q5.2 101 q5.1.toNatClampNeg) hzu15) zw_X9_230 ⟨Nat.le_trans (Nat.le_of_ble_eq_true rfl) hRf, Nat.le_trans (Nat.le_of_ble_eq_true rfl) hRl⟩ (by decide) lay_81 rfl rfl hl.1 (Nat.le_of_ble_eq_true rfl) ⟨Nat.zero_le _, Nat.zero_le _⟩ rfl dX9_tables_43 (fun H locs hP hS => ?_)
        refine lv_goto (tgt := 50) hx hb dX9_tables_46 (by decide) ?_
        obtain ⟨hc15, hf⟩ := chk_some hf
        refine zz_iast hx hb C hP hS (by decide) lay_102 (inb_vp hc15) dX9_tables_50 (fun σ17 eσ17 H locs hP hS => ?_)
        have hf := bnd_at σ17 eσ17 hf
        obtain ⟨v18, ev18⟩ : ∃ z : Int32, z = q5.1 + 1 := ⟨_, rfl⟩
        have hf := bnd_at v18 ev18 hf
        refine lv_iinc (v := v18) (lv' := [(3, .int v18), (0, .ref (a 81)), (1, .int p1), (2, .int q1.1)]) hx hb dX9_tables_51 hl (k := 3) rfl (by rw [ev18]; rfl) (by decide) rfl (fun ls hl => ?_)
        refine lv_goto (tgt := 12) hx hb dX9_tables_54 (by decide) ?_
        exact ihk6 _ hf _ _ _ (lv_sub hl [1, 2, 3, 0] rfl) hP hS
set_option maxHeartbeats 4000000 in
set_option maxRecDepth 100000 in
theorem c_X9_nextOf (l : Launch) {D : va_G} {a : Nat → Nat} {cA : Nat → ClassId} {A : Nat → Prop} {sa : Nat → Nat} (hDA : DA a A) {σ : PH} {d : PD} (p1 : Int32) (p2 : Int32) {u : Int32} (hf : f_X9_nextOf σ p1 p2 = some u) : CTi l yX9_nextOf cX9_nextOf 8 (some .int) 1 20 D a cA A sa [.ref (a 81), .int p1, .int p2] σ d u σ d := by
  refine zz_metI zpl_X9 hDA (Nat.le_of_ble_eq_true rfl) ?_
  intro p e R s m args below meth c Q ls hx hb hml C hRf hRl hQ hP hS hl
  have hl : lv_has ls 8 [(0, .ref (a 81)), (1, .int p1), (2, .int p2)] := hl
  unfold f_X9_nextOf at hf
  refine lv_iconst (v := (-1)) hx hb dX9_nextOf_0 (by decide) ?_
  refine lv_istore_n (lv' := [(3, .int (-1)), (0, .ref (a 81)), (1, .int p1), (2, .int p2)]) hx hb dX9_nextOf_1 rfl hl (by decide) rfl (fun ls hl => ?_)
  refine lv_iload_n hx hb dX9_nextOf_2 rfl (lv_at hl 3 rfl) ?_
  refine lv_istore (lv' := [(4, .int p2), (3, .int (-1)), (0, .ref (a 81)), (1, .int p1), (2, .int p2)]) hx hb dX9_nextOf_3 hl (by decide) rfl (fun ls hl => ?_)
  refine lv_iconst (v := 1) hx hb dX9_nextOf_5 (by decide) ?_
  refine lv_istore (lv' := [(5, .int 1), (4, .int p2), (3, .int (-1)), (0, .ref (a 81)), (1, .int p1), (2, .int p2)]) hx hb dX9_nextOf_6 hl (by decide) rfl (fun ls hl => ?_)
  refine loopN_ind (P := fun (q1 : Int32 × Int32 × Int32) => ∀ (H : Heap) (locs : List Loc) (ls : Array Slot), lv_has ls 8 [(0, .ref (a 81)), (1, .int p1), (2, .int p2), (3, .int q1.1), (4, .int q1.2.1), (5, .int q1.2.2)] → va_P D vwCl (wl a cA σ d) H → va_S A s.heap H locs → W p l e R s m args below meth c H locs 0 0 Q (F0 m 8 ls [])) ?_ _ _ hf _ _ _ (lv_sub hl [3, 4, 5, 2, 1, 0] rfl) hP hS
  intro k2 ihk2 q1 hf H locs ls hl hP hS
  unfold b_X9_nextOf_8 at hf
  refine lv_iload hx hb dX9_nextOf_8 (lv_at hl 5 rfl) ?_
  refine lv_aload_n hx hb dX9_nextOf_10 rfl (lv_at hl 0 rfl) ?_
  obtain ⟨u3, hzu3⟩ : ∃ z, z = f_X9_everybody σ := ⟨_, rfl⟩
  have hf := bnd_at u3 hzu3 hf
  refine zz_callVi (rest := [.int q1.2.2]) hx hb hml C hP hS (c_X9_everybody l hDA  hzu3.symm) zw_X9_99 ⟨Nat.le_trans (Nat.le_of_ble_eq_true rfl) hRf, Nat.le_trans (Nat.le_of_ble_eq_true rfl) hRl⟩ (by decide) lay_81 rfl rfl hl.1 (Nat.le_of_ble_eq_true rfl) ⟨Nat.zero_le _, Nat.zero_le _⟩ rfl dX9_nextOf_11 (fun H locs hP hS => ?_)
  refine lv_icmp_gt (tgt := 124) hx hb dX9_nextOf_14 (by decide) (fun hb3 => ?_) (fun hb3 => ?_)
  · have hf := ifT hb3 hf
    refine lv_iload_n hx hb dX9_nextOf_124 rfl (lv_at hl 3 rfl) ?_
    have hf := Option.some.inj hf
    subst hf
    exact hQ _ _ _ _ dX9_nextOf_125 hP hS
  · have hf := ifF hb3 hf
    refine lv_iload_n hx hb dX9_nextOf_17 rfl (lv_at hl 2 rfl) ?_
    refine lv_if_eq (tgt := 118) hx hb dX9_nextOf_18 (by decide) (fun hb4 => ?_) (fun hb4 => ?_)
    · have hf := ifT hb4 hf
      obtain ⟨v6, ev6⟩ : ∃ z : Int32, z = q1.2.2 + 1 := ⟨_, rfl⟩
      have hf := bnd_at v6 ev6 hf
      refine lv_iinc (v := v6) (lv' := [(5, .int v6), (0, .ref (a 81)), (1, .int p1), (2, .int p2), (3, .int q1.1), (4, .int q1.2.1)]) hx hb dX9_nextOf_118 hl (k := 5) rfl (by rw [ev6]; rfl) (by decide) rfl (fun ls hl => ?_)
      refine lv_goto (tgt := 8) hx hb dX9_nextOf_121 (by decide) ?_
      exact ihk2 _ hf _ _ _ (lv_sub hl [1, 2, 3, 4, 5, 0] rfl) hP hS
    · have hf := ifF hb4 hf
      refine lv_aload_n hx hb dX9_nextOf_21 rfl (lv_at hl 0 rfl) ?_
      refine zg_X9_84 hx hb C hP (by decide) lay_81 rfl dX9_nextOf_22 ?_
      refine lv_bipush (v := 92) hx hb dX9_nextOf_25 (by decide) ?_
      refine lv_iload hx hb dX9_nextOf_27 (lv_at hl 5 rfl) ?_
      refine lv_imul hx hb dX9_nextOf_29 ?_
      obtain ⟨hc6, hf⟩ := chk_some hf
      refine zz_iald hx hb C hP (by decide) lay_102 (inb_vp hc6) dX9_nextOf_30 ?_
      refine lv_iconst (v := (-1)) hx hb dX9_nextOf_31 (by decide) ?_
      refine lv_icmp_ne (tgt := 38) hx hb dX9_nextOf_32 (by decide) (fun hb7 => ?_) (fun hb7 => ?_)
      · have hf := ifF hb7 hf
        refine lv_iconst (v := 0) hx hb dX9_nextOf_38 (by decide) ?_
        refine lv_istore (lv' := [(6, .int 0), (0, .ref (a 81)), (1, .int p1), (2, .int p2), (3, .int q1.1), (4, .int q1.2.1), (5, .int q1.2.2)]) hx hb dX9_nextOf_39 hl (by decide) rfl (fun ls hl => ?_)
        refine lv_iconst (v := 0) hx hb dX9_nextOf_41 (by decide) ?_
        refine lv_istore (lv' := [(7, .int 0), (6, .int 0), (0, .ref (a 81)), (1, .int p1), (2, .int p2), (3, .int q1.1), (4, .int q1.2.1), (5, .int q1.2.2)]) hx hb dX9_nextOf_42 hl (by decide) rfl (fun ls hl => ?_)
        have hJ81 : ∀ (v9 : Int32), j_X9_nextOf_81 p2 q1 k2 v9 = some u → ∀ (H : Heap) (locs : List Loc) (ls : Array Slot), lv_has ls 8 [(0, .ref (a 81)), (1, .int p1), (2, .int p2), (3, .int q1.1), (4, .int q1.2.1), (5, .int q1.2.2), (6, .int v9)] → va_P D vwCl (wl a cA σ d) H → va_S A s.heap H locs → W p l e R s m args below meth c H locs 0 0 Q (F0 m 81 ls []) := by
          intro v9 hf H locs ls hl hP hS
          unfold j_X9_nextOf_81 at hf
          refine lv_iload hx hb dX9_nextOf_81 (lv_at hl 6 rfl) ?_
          refine lv_iload_n hx hb dX9_nextOf_83 rfl (lv_at hl 2 rfl) ?_
          refine lv_iload hx hb dX9_nextOf_84 (lv_at hl 6 rfl) ?_
          refine lv_isub hx hb dX9_nextOf_86 ?_
          have hJ99 : ∀ (v10 : Int32), j_X9_nextOf_99 q1 k2 v10 = some u → ∀ (H : Heap) (locs : List Loc) (ls : Array Slot), lv_has ls 8 [(0, .ref (a 81)), (1, .int p1), (2, .int p2), (3, .int q1.1), (4, .int q1.2.1), (5, .int q1.2.2)] → va_P D vwCl (wl a cA σ d) H → va_S A s.heap H locs → W p l e R s m args below meth c H locs 0 0 Q (F0 m 99 ls [.int v10]) := by
            intro v10 hf H locs ls hl hP hS
            unfold j_X9_nextOf_99 at hf
            refine lv_istore (lv' := [(7, .int v10), (0, .ref (a 81)), (1, .int p1), (2, .int p2), (3, .int q1.1), (4, .int q1.2.1), (5, .int q1.2.2)]) hx hb dX9_nextOf_99 hl (by decide) rfl (fun ls hl => ?_)
            refine lv_iload hx hb dX9_nextOf_101 (lv_at hl 0 rfl) ?_
            refine lv_iload hx hb dX9_nextOf_103 (lv_at hl 5 rfl) ?_
            refine lv_icmp_lt (tgt := 111) hx hb dX9_nextOf_105 (by decide) (fun hb10 => ?_) (fun hb10 => ?_)
            · have hf := ifT hb10 hf
              refine lv_iload hx hb dX9_nextOf_111 (lv_at hl 6 rfl) ?_
              refine lv_istore_n (lv' := [(3, .int q1.2.2), (7, .int v10), (0, .ref (a 81)), (1, .int p1), (2, .int p2), (4, .int q1.2.1), (5, .int q1.2.2)]) hx hb dX9_nextOf_113 rfl hl (by decide) rfl (fun ls hl => ?_)
              refine lv_iload hx hb dX9_nextOf_114 (lv_at hl 1 rfl) ?_
              refine lv_istore (lv' := [(4, .int v10), (3, .int q1.2.2), (7, .int v10), (0, .ref (a 81)), (1, .int p1), (2, .int p2), (5, .int q1.2.2)]) hx hb dX9_nextOf_116 hl (by decide) rfl (fun ls hl => ?_)
              obtain ⟨v12, ev12⟩ : ∃ z : Int32, z = q1.2.2 + 1 := ⟨_, rfl⟩
              have hf := bnd_at v12 ev12 hf
              refine lv_iinc (v := v12) (lv' := [(5, .int v12), (4, .int v10), (3, .int q1.2.2), (7, .int v10), (0, .ref (a 81)), (1, .int p1), (2, .int p2)]) hx hb dX9_nextOf_118 hl (k := 6) rfl (by rw [ev12]; rfl) (by decide) rfl (fun ls hl => ?_)
              refine lv_goto (tgt := 8) hx hb dX9_nextOf_121 (by decide) ?_
              exact ihk2 _ hf _ _ _ (lv_sub hl [4, 5, 6, 2, 1, 0] rfl) hP hS
            · have hf := ifF hb10 hf
              refine lv_goto (tgt := 118) hx hb dX9_nextOf_108 (by decide) ?_
              obtain ⟨v13, ev13⟩ : ∃ z : Int32, z = q1.2.2 + 1 := ⟨_, rfl⟩
              have hf := bnd_at v13 ev13 hf
              refine lv_iinc (v := v13) (lv' := [(5, .int v13), (7, .int v10), (0, .ref (a 81)), (1, .int p1), (2, .int p2), (3, .int q1.1), (4, .int q1.2.1)]) hx hb dX9_nextOf_118 hl (k := 6) rfl (by rw [ev13]; rfl) (by decide) rfl (fun ls hl => ?_)
              refine lv_goto (tgt := 8) hx hb dX9_nextOf_121 (by decide) ?_
              exact ihk2 _ hf _ _ _ (lv_sub hl [2, 3, 4, 5, 6, 0] rfl) hP hS
          refine lv_icmp_le (tgt := 95) hx hb dX9_nextOf_87 (by decide) (fun hb13 => ?_) (fun hb13 => ?_)
          · have hf := ifT hb13 hf
            refine lv_iload_n hx hb dX9_nextOf_95 rfl (lv_at hl 2 rfl) ?_
            refine lv_iload hx hb dX9_nextOf_96 (lv_at hl 6 rfl) ?_
            refine lv_isub hx hb dX9_nextOf_98 ?_
            exact hJ99 _ hf _ _ _ (lv_sub hl [0, 1, 2, 3, 4, 5] rfl) hP hS
          · have hf := ifF hb13 hf
            refine lv_iload hx hb dX9_nextOf_90 (lv_at hl 6 rfl) ?_
            refine lv_goto (tgt := 99) hx hb dX9_nextOf_92 (by decide) ?_
            exact hJ99 _ hf _ _ _ (lv_sub hl [0, 1, 2, 3, 4, 5] rfl) hP hS
        refine loopN_ind (P := fun (q15 : Int32 × Int32) => ∀ (H : Heap) (locs : List Loc) (ls : Array Slot), lv_has ls 8 [(0, .ref (a 81)), (1, .int p1), (2, .int p2), (3, .int q1.1), (4, .int q1.2.1), (5, .int q1.2.2), (6, .int q15.1), (7, .int q15.2)] → va_P D vwCl (wl a cA σ d) H → va_S A s.heap H locs → W p l e R s m args below meth c H locs 0 0 Q (F0 m 44 ls [])) ?_ _ _ hf _ _ _ (lv_sub hl [2, 3, 4, 5, 6, 7, 1, 0] rfl) hP hS
        intro k16 ihk16 q15 hf H locs ls hl hP hS
        unfold b_X9_nextOf_44 at hf
        refine lv_iload hx hb dX9_nextOf_44 (lv_at hl 7 rfl) ?_
        refine lv_iload_n hx hb dX9_nextOf_46 rfl (lv_at hl 2 rfl) ?_
        refine lv_icmp_ge (tgt := 81) hx hb dX9_nextOf_47 (by decide) (fun hb16 => ?_) (fun hb16 => ?_)
        · have hf := ifT hb16 hf
          exact hJ81 _ hf _ _ _ (lv_sub hl [0, 1, 2, 3, 4, 5, 6] rfl) hP hS
        · have hf := ifF hb16 hf
          refine lv_iload hx hb dX9_nextOf_50 (lv_at hl 6 rfl) ?_
          refine lv_aload_n hx hb dX9_nextOf_52 rfl (lv_at hl 0 rfl) ?_
          refine zg_X9_84 hx hb C hP (by decide) lay_81 rfl dX9_nextOf_53 ?_
          refine lv_bipush (v := 92) hx hb dX9_nextOf_56 (by decide) ?_
          refine lv_iload hx hb dX9_nextOf_58 (lv_at hl 5 rfl) ?_
          refine lv_imul hx hb dX9_nextOf_60 ?_
          refine lv_aload_n hx hb dX9_nextOf_61 rfl (lv_at hl 0 rfl) ?_
          refine zg_X9_87 hx hb C hP (by decide) lay_81 rfl dX9_nextOf_62 ?_
          refine lv_iload_n hx hb dX9_nextOf_65 rfl (lv_at hl 1 rfl) ?_
          refine lv_iload hx hb dX9_nextOf_66 (lv_at hl 7 rfl) ?_
          refine lv_iadd hx hb dX9_nextOf_68 ?_
          obtain ⟨hc17, hf⟩ := chk_some hf
          refine zz_iald hx hb C hP (by decide) lay_103 (inb_vp hc17) dX9_nextOf_69 ?_
          refine lv_iadd hx hb dX9_nextOf_70 ?_
          obtain ⟨hc18, hf⟩ := chk_some hf
          refine zz_iald hx hb C hP (by decide) lay_102 (inb_vp hc18) dX9_nextOf_71 ?_
          refine lv_iadd hx hb dX9_nextOf_72 ?_
          refine lv_topi (fun v20 ev20 => ?_)
          have hf := bnd_at v20 ev20 hf
          refine lv_istore (lv' := [(6, .int v20), (0, .ref (a 81)), (1, .int p1), (2, .int p2), (3, .int q1.1), (4, .int q1.2.1), (5, .int q1.2.2), (7, .int q15.2)]) hx hb dX9_nextOf_73 hl (by decide) rfl (fun ls hl => ?_)
          obtain ⟨v21, ev21⟩ : ∃ z : Int32, z = q15.2 + 1 := ⟨_, rfl⟩
          have hf := bnd_at v21 ev21 hf
          refine lv_iinc (v := v21) (lv' := [(7, .int v21), (6, .int v20), (0, .ref (a 81)), (1, .int p1), (2, .int p2), (3, .int q1.1), (4, .int q1.2.1), (5, .int q1.2.2)]) hx hb dX9_nextOf_75 hl (k := 7) rfl (by rw [ev21]; rfl) (by decide) rfl (fun ls hl => ?_)
          refine lv_goto (tgt := 44) hx hb dX9_nextOf_78 (by decide) ?_
          exact ihk16 _ hf _ _ _ (lv_sub hl [2, 3, 4, 5, 6, 7, 1, 0] rfl) hP hS
      · have hf := ifT hb7 hf
        refine lv_goto (tgt := 118) hx hb dX9_nextOf_35 (by decide) ?_
        obtain ⟨v22, ev22⟩ : ∃ z : Int32, z = q1.2.2 + 1 := ⟨_, rfl⟩
        have hf := bnd_at v22 ev22 hf
        refine lv_iinc (v := v22) (lv' := [(5, .int v22), (0, .ref (a 81)), (1, .int p1), (2, .int p2), (3, .int q1.1), (4, .int q1.2.1)]) hx hb dX9_nextOf_118 hl (k := 5) rfl (by rw [ev22]; rfl) (by decide) rfl (fun ls hl => ?_)
        refine lv_goto (tgt := 8) hx hb dX9_nextOf_121 (by decide) ?_
        exact ihk2 _ hf _ _ _ (lv_sub hl [1, 2, 3, 4, 5, 0] rfl) hP hS
set_option maxHeartbeats 4000000 in
set_option maxRecDepth 100000 in
theorem c_X9_begins (l : Launch) {D : va_G} {a : Nat → Nat} {cA : Nat → ClassId} {A : Nat → Prop} {sa : Nat → Nat} (hDA : DA a A) {σ : PH} {d : PD}  {u : Int32 × PH} (hf : f_X9_begins σ = some u) : CTi l yX9_begins cX9_begins 3 (some .int) 6 140 D a cA A sa [.ref (a 81)] σ d u.1 u.2 d := by
  refine zz_metI zpl_X9 hDA (Nat.le_of_ble_eq_true rfl) ?_
  intro p e R s m args below meth c Q ls hx hb hml C hRf hRl hQ hP hS hl
  have hl : lv_has ls 3 [(0, .ref (a 81))] := hl
  unfold f_X9_begins at hf
  refine lv_aload_n hx hb dX9_begins_0 rfl (lv_at hl 0 rfl) ?_
  obtain ⟨u1, hzu1, hf⟩ := obd_some hf
  refine zz_callVi (rest := []) hx hb hml C hP hS (c_X9_possible l hDA  hzu1) zw_X9_239 ⟨Nat.le_trans (Nat.le_of_ble_eq_true rfl) hRf, Nat.le_trans (Nat.le_of_ble_eq_true rfl) hRl⟩ (by decide) lay_81 rfl rfl hl.1 (Nat.le_of_ble_eq_true rfl) ⟨Nat.zero_le _, Nat.zero_le _⟩ rfl dX9_begins_1 (fun H locs hP hS => ?_)
  refine lv_istore_n (lv' := [(1, .int u1.1), (0, .ref (a 81))]) hx hb dX9_begins_4 rfl hl (by decide) rfl (fun ls hl => ?_)
  refine lv_aload_n hx hb dX9_begins_5 rfl (lv_at hl 1 rfl) ?_
  refine lv_iload_n hx hb dX9_begins_6 rfl (lv_at hl 0 rfl) ?_
  obtain ⟨u2, hzu2, hf⟩ := obd_some hf
  refine zz_callVv (rest := []) hx hb hml C hP hS (c_X9_tables l hDA u1.1 hzu2) zw_X9_254 ⟨Nat.le_trans (Nat.le_of_ble_eq_true rfl) hRf, Nat.le_trans (Nat.le_of_ble_eq_true rfl) hRl⟩ (by decide) lay_81 rfl rfl hl.1 (Nat.le_of_ble_eq_true rfl) ⟨Nat.zero_le _, Nat.zero_le _⟩ rfl dX9_begins_7 (fun H locs hP hS => ?_)
  refine lv_iconst (v := 0) hx hb dX9_begins_10 (by decide) ?_
  refine lv_istore_n (lv' := [(2, .int 0), (1, .int u1.1), (0, .ref (a 81))]) hx hb dX9_begins_11 rfl hl (by decide) rfl (fun ls hl => ?_)
  refine loopN_ind (P := fun (q3 : Int32 × PH) => ∀ (H : Heap) (locs : List Loc) (ls : Array Slot), lv_has ls 3 [(0, .ref (a 81)), (1, .int u1.1), (2, .int q3.1)] → va_P D vwCl (wl a cA q3.2 d) H → va_S A s.heap H locs → W p l e R s m args below meth c H locs 0 0 Q (F0 m 12 ls [])) ?_ _ _ hf _ _ _ (lv_sub hl [2, 1, 0] rfl) hP hS
  intro k4 ihk4 q3 hf H locs ls hl hP hS
  unfold b_X9_begins_12 at hf
  refine lv_iload_n hx hb dX9_begins_12 rfl (lv_at hl 2 rfl) ?_
  refine lv_iload_n hx hb dX9_begins_13 rfl (lv_at hl 1 rfl) ?_
  refine lv_icmp_ge (tgt := 30) hx hb dX9_begins_14 (by decide) (fun hb4 => ?_) (fun hb4 => ?_)
  · have hf := ifT hb4 hf
    refine lv_iload_n hx hb dX9_begins_30 rfl (lv_at hl 1 rfl) ?_
    have hf := Option.some.inj hf
    subst hf
    exact hQ _ _ _ _ dX9_begins_31 hP hS
  · have hf := ifF hb4 hf
    refine lv_aload_n hx hb dX9_begins_17 rfl (lv_at hl 0 rfl) ?_
    refine zg_X9_87 hx hb C hP (by decide) lay_81 rfl dX9_begins_18 ?_
    refine lv_iload_n hx hb dX9_begins_21 rfl (lv_at hl 2 rfl) ?_
    refine lv_iload_n hx hb dX9_begins_22 rfl (lv_at hl 2 rfl) ?_
    obtain ⟨hc5, hf⟩ := chk_some hf
    refine zz_iast hx hb C hP hS (by decide) lay_103 (inb_vp hc5) dX9_begins_23 (fun σ7 eσ7 H locs hP hS => ?_)
    have hf := bnd_at σ7 eσ7 hf
    obtain ⟨v8, ev8⟩ : ∃ z : Int32, z = q3.1 + 1 := ⟨_, rfl⟩
    have hf := bnd_at v8 ev8 hf
    refine lv_iinc (v := v8) (lv' := [(2, .int v8), (0, .ref (a 81)), (1, .int u1.1)]) hx hb dX9_begins_24 hl (k := 2) rfl (by rw [ev8]; rfl) (by decide) rfl (fun ls hl => ?_)
    refine lv_goto (tgt := 12) hx hb dX9_begins_27 (by decide) ?_
    exact ihk4 _ hf _ _ _ (lv_sub hl [1, 2, 0] rfl) hP hS
set_option maxHeartbeats 4000000 in
set_option maxRecDepth 100000 in
theorem c_X9_next (l : Launch) {D : va_G} {a : Nat → Nat} {cA : Nat → ClassId} {A : Nat → Prop} {sa : Nat → Nat} (hDA : DA a A) {σ : PH} {d : PD}  {u : Int32 × PH} (hf : f_X9_next σ = some u) : CTi l yX9_next cX9_next 1 (some .int) 7 162 D a cA A sa [.ref (a 81)] σ d u.1 u.2 d := by
  refine zz_metI zpl_X9 hDA (Nat.le_of_ble_eq_true rfl) ?_
  intro p e R s m args below meth c Q ls hx hb hml C hRf hRl hQ hP hS hl
  have hl : lv_has ls 1 [(0, .ref (a 81))] := hl
  unfold f_X9_next at hf
  refine lv_aload_n hx hb dX9_next_0 rfl (lv_at hl 0 rfl) ?_
  refine lv_iconst (v := 0) hx hb dX9_next_1 (by decide) ?_
  refine lv_aload_n hx hb dX9_next_2 rfl (lv_at hl 0 rfl) ?_
  obtain ⟨u1, hzu1, hf⟩ := obd_some hf
  refine zz_callVi (rest := [.int 0, .ref (a 81)]) hx hb hml C hP hS (c_X9_begins l hDA  hzu1) zw_X9_258 ⟨Nat.le_trans (Nat.le_of_ble_eq_true rfl) hRf, Nat.le_trans (Nat.le_of_ble_eq_true rfl) hRl⟩ (by decide) lay_81 rfl rfl hl.1 (Nat.le_of_ble_eq_true rfl) ⟨Nat.zero_le _, Nat.zero_le _⟩ rfl dX9_next_3 (fun H locs hP hS => ?_)
  obtain ⟨u2, hzu2, hf⟩ := obd_some hf
  refine zz_callVi (rest := []) hx hb hml C hP hS (c_X9_nextOf l hDA 0 u1.1 hzu2) zw_X9_261 ⟨Nat.le_trans (Nat.le_of_ble_eq_true rfl) hRf, Nat.le_trans (Nat.le_of_ble_eq_true rfl) hRl⟩ (by decide) lay_81 rfl rfl hl.1 (Nat.le_of_ble_eq_true rfl) ⟨Nat.zero_le _, Nat.zero_le _⟩ rfl dX9_next_6 (fun H locs hP hS => ?_)
  have hf := Option.some.inj hf
  subst hf
  exact hQ _ _ _ _ dX9_next_9 hP hS
set_option maxHeartbeats 4000000 in
set_option maxRecDepth 100000 in
theorem c_X9_goesBy (l : Launch) {D : va_G} {a : Nat → Nat} {cA : Nat → ClassId} {A : Nat → Prop} {sa : Nat → Nat} (hDA : DA a A) : ∀ (n : Nat) {σ : PH} {d : PD} (p1 : Int32) (p2 : Int32) (p3 : Int32) {u : PH}, f_X9_goesBy n σ p1 p2 p3 = some u → CTv l yX9_goesBy cX9_goesBy 8 none (2 + n) (47 + n * 27) D a cA A sa [.ref (a 81), .int p1, .int p2, .int p3] σ d u d := by
  intro n
  induction n with
  | zero => intro σ d p1 p2 p3 u hf; cases hf
  | succ n ih =>
    intro σ d p1 p2 p3 u hf
    have hf : g_X9_goesBy (f_X9_goesBy n) σ p1 p2 p3 = some u := hf
    have ih : ∀ {σ : PH} {d : PD} (p1 : Int32) (p2 : Int32) (p3 : Int32) {u : PH}, f_X9_goesBy n σ p1 p2 p3 = some u → CTv l yX9_goesBy cX9_goesBy 8 none (2 + n) (47 + n * 27) D a cA A sa [.ref (a 81), .int p1, .int p2, .int p3] σ d u d := ih
    generalize f_X9_goesBy n = rc at hf ih
    refine zz_metV zpl_X9 hDA (Nat.le_of_ble_eq_true rfl) ?_
    intro p e R s m args below meth c Q ls hx hb hml C hRf hRl hQ hP hS hl
    have hl : lv_has ls 8 [(0, .ref (a 81)), (1, .int p1), (2, .int p2), (3, .int p3)] := hl
    unfold g_X9_goesBy at hf
    refine lv_iload_n hx hb dX9_goesBy_0 rfl (lv_at hl 2 rfl) ?_
    refine lv_iconst (v := 2) hx hb dX9_goesBy_1 (by decide) ?_
    have hJ15 : ∀ (v1 : Int32), j_X9_goesBy_15 σ p1 p2 p3 rc v1 = some u → ∀ (H : Heap) (locs : List Loc) (ls : Array Slot), lv_has ls 8 [(0, .ref (a 81)), (1, .int p1), (2, .int p2), (3, .int p3)] → va_P D vwCl (wl a cA σ d) H → va_S A s.heap H locs → W p l e R s m args below meth c H locs 0 0 Q (F0 m 15 ls [.int v1]) := by
      intro v1 hf H locs ls hl hP hS
      unfold j_X9_goesBy_15 at hf
      refine lv_istore (lv' := [(4, .int v1), (0, .ref (a 81)), (1, .int p1), (2, .int p2), (3, .int p3)]) hx hb dX9_goesBy_15 hl (by decide) rfl (fun ls hl => ?_)
      refine lv_iload hx hb dX9_goesBy_17 (lv_at hl 0 rfl) ?_
      refine lv_iconst (v := (-1)) hx hb dX9_goesBy_19 (by decide) ?_
      refine lv_icmp_ne (tgt := 110) hx hb dX9_goesBy_20 (by decide) (fun hb1 => ?_) (fun hb1 => ?_)
      · have hf := ifF hb1 hf
        refine lv_iconst (v := 0) hx hb dX9_goesBy_110 (by decide) ?_
        refine lv_istore (lv' := [(5, .int 0), (4, .int v1), (0, .ref (a 81)), (1, .int p1), (2, .int p2), (3, .int p3)]) hx hb dX9_goesBy_111 hl (by decide) rfl (fun ls hl => ?_)
        refine loopN_ind (P := fun (q3 : Int32 × PH) => ∀ (H : Heap) (locs : List Loc) (ls : Array Slot), lv_has ls 8 [(0, .ref (a 81)), (1, .int p1), (2, .int p2), (3, .int p3), (4, .int v1), (5, .int q3.1)] → va_P D vwCl (wl a cA q3.2 d) H → va_S A s.heap H locs → W p l e R s m args below meth c H locs 0 0 Q (F0 m 113 ls [])) ?_ _ _ hf _ _ _ (lv_sub hl [2, 3, 4, 5, 1, 0] rfl) hP hS
        intro k4 ihk4 q3 hf H locs ls hl hP hS
        unfold b_X9_goesBy_113 at hf
        refine lv_iload hx hb dX9_goesBy_113 (lv_at hl 5 rfl) ?_
        refine lv_iconst (v := 2) hx hb dX9_goesBy_115 (by decide) ?_
        refine lv_icmp_ge (tgt := 206) hx hb dX9_goesBy_116 (by decide) (fun hb4 => ?_) (fun hb4 => ?_)
        · have hf := ifT hb4 hf
          have hf := Option.some.inj hf
          subst hf
          exact hQ _ _ _ _ dX9_goesBy_206 hP hS
        · have hf := ifF hb4 hf
          refine lv_iconst (v := 0) hx hb dX9_goesBy_119 (by decide) ?_
          refine lv_istore (lv' := [(6, .int 0), (0, .ref (a 81)), (1, .int p1), (2, .int p2), (3, .int p3), (4, .int v1), (5, .int q3.1)]) hx hb dX9_goesBy_120 hl (by decide) rfl (fun ls hl => ?_)
          refine lv_iconst (v := 0) hx hb dX9_goesBy_122 (by decide) ?_
          refine lv_istore (lv' := [(7, .int 0), (6, .int 0), (0, .ref (a 81)), (1, .int p1), (2, .int p2), (3, .int p3), (4, .int v1), (5, .int q3.1)]) hx hb dX9_goesBy_123 hl (by decide) rfl (fun ls hl => ?_)
          have hJ188 : ∀ (v6 : Int32) (σ7 : PH), j_X9_goesBy_188 p1 p2 p3 rc q3 k4 v6 σ7 = some u → ∀ (H : Heap) (locs : List Loc) (ls : Array Slot), lv_has ls 8 [(0, .ref (a 81)), (1, .int p1), (2, .int p2), (3, .int p3), (4, .int v1), (5, .int q3.1), (6, .int v6)] → va_P D vwCl (wl a cA σ7 d) H → va_S A s.heap H locs → W p l e R s m args below meth c H locs 0 0 Q (F0 m 188 ls []) := by
            intro v6 σ7 hf H locs ls hl hP hS
            unfold j_X9_goesBy_188 at hf
            refine lv_aload_n hx hb dX9_goesBy_188 rfl (lv_at hl 0 rfl) ?_
            refine lv_iload_n hx hb dX9_goesBy_189 rfl (lv_at hl 1 rfl) ?_
            refine lv_iload_n hx hb dX9_goesBy_190 rfl (lv_at hl 2 rfl) ?_
            refine lv_iadd hx hb dX9_goesBy_191 ?_
            refine lv_iload hx hb dX9_goesBy_192 (lv_at hl 6 rfl) ?_
            refine lv_iload_n hx hb dX9_goesBy_194 rfl (lv_at hl 3 rfl) ?_
            refine lv_iconst (v := 1) hx hb dX9_goesBy_195 (by decide) ?_
            refine lv_iadd hx hb dX9_goesBy_196 ?_
            obtain ⟨u8, hzu8, hf⟩ := obd_some hf
            refine zz_callVv (rest := []) hx hb hml C hP hS (ih (p1 + p2) v6 (p3 + 1) hzu8) zw_X9_274 ⟨Nat.le_trans (by omega) hRf, Nat.le_trans (by omega) hRl⟩ (by decide) lay_81 rfl rfl hl.1 (Nat.le_of_ble_eq_true rfl) ⟨Nat.zero_le _, Nat.zero_le _⟩ rfl dX9_goesBy_197 (fun H locs hP hS => ?_)
            obtain ⟨v9, ev9⟩ : ∃ z : Int32, z = q3.1 + 1 := ⟨_, rfl⟩
            have hf := bnd_at v9 ev9 hf
            refine lv_iinc (v := v9) (lv' := [(5, .int v9), (0, .ref (a 81)), (1, .int p1), (2, .int p2), (3, .int p3), (4, .int v1), (6, .int v6)]) hx hb dX9_goesBy_200 hl (k := 5) rfl (by rw [ev9]; rfl) (by decide) rfl (fun ls hl => ?_)
            refine lv_goto (tgt := 113) hx hb dX9_goesBy_203 (by decide) ?_
            exact ihk4 _ hf _ _ _ (lv_sub hl [1, 2, 3, 4, 5, 0] rfl) hP hS
          refine loopN_ind (P := fun (q10 : Int32 × Int32 × PH) => ∀ (H : Heap) (locs : List Loc) (ls : Array Slot), lv_has ls 8 [(0, .ref (a 81)), (1, .int p1), (2, .int p2), (3, .int p3), (4, .int v1), (5, .int q3.1), (6, .int q10.1), (7, .int q10.2.1)] → va_P D vwCl (wl a cA q10.2.2 d) H → va_S A s.heap H locs → W p l e R s m args below meth c H locs 0 0 Q (F0 m 125 ls [])) ?_ _ _ hf _ _ _ (lv_sub hl [2, 3, 4, 5, 6, 7, 1, 0] rfl) hP hS
          intro k11 ihk11 q10 hf H locs ls hl hP hS
          unfold b_X9_goesBy_125 at hf
          refine lv_iload hx hb dX9_goesBy_125 (lv_at hl 7 rfl) ?_
          refine lv_iload_n hx hb dX9_goesBy_127 rfl (lv_at hl 2 rfl) ?_
          refine lv_icmp_ge (tgt := 188) hx hb dX9_goesBy_128 (by decide) (fun hb11 => ?_) (fun hb11 => ?_)
          · have hf := ifT hb11 hf
            exact hJ188 _ _ hf _ _ _ (lv_sub hl [0, 1, 2, 3, 4, 5, 6] rfl) hP hS
          · have hf := ifF hb11 hf
            refine lv_aload_n hx hb dX9_goesBy_131 rfl (lv_at hl 0 rfl) ?_
            refine zg_X9_84 hx hb C hP (by decide) lay_81 rfl dX9_goesBy_132 ?_
            refine lv_bipush (v := 92) hx hb dX9_goesBy_135 (by decide) ?_
            refine lv_iload hx hb dX9_goesBy_137 (lv_at hl 4 rfl) ?_
            refine lv_imul hx hb dX9_goesBy_139 ?_
            refine lv_aload_n hx hb dX9_goesBy_140 rfl (lv_at hl 0 rfl) ?_
            refine zg_X9_87 hx hb C hP (by decide) lay_81 rfl dX9_goesBy_141 ?_
            refine lv_iload_n hx hb dX9_goesBy_144 rfl (lv_at hl 1 rfl) ?_
            refine lv_iload hx hb dX9_goesBy_145 (lv_at hl 7 rfl) ?_
            refine lv_iadd hx hb dX9_goesBy_147 ?_
            obtain ⟨hc12, hf⟩ := chk_some hf
            refine zz_iald hx hb C hP (by decide) lay_103 (inb_vp hc12) dX9_goesBy_148 ?_
            refine lv_iadd hx hb dX9_goesBy_149 ?_
            obtain ⟨hc13, hf⟩ := chk_some hf
            refine zz_iald hx hb C hP (by decide) lay_102 (inb_vp hc13) dX9_goesBy_150 ?_
            refine lv_iload hx hb dX9_goesBy_151 (lv_at hl 5 rfl) ?_
            refine lv_icmp_eq (tgt := 159) hx hb dX9_goesBy_153 (by decide) (fun hb14 => ?_) (fun hb14 => ?_)
            · have hf := ifT hb14 hf
              refine lv_aload_n hx hb dX9_goesBy_159 rfl (lv_at hl 0 rfl) ?_
              refine zg_X9_87 hx hb C hP (by decide) lay_81 rfl dX9_goesBy_160 ?_
              refine lv_iload_n hx hb dX9_goesBy_163 rfl (lv_at hl 1 rfl) ?_
              refine lv_iload_n hx hb dX9_goesBy_164 rfl (lv_at hl 2 rfl) ?_
              refine lv_iadd hx hb dX9_goesBy_165 ?_
              refine lv_iload hx hb dX9_goesBy_166 (lv_at hl 6 rfl) ?_
              refine lv_iadd hx hb dX9_goesBy_168 ?_
              refine lv_aload_n hx hb dX9_goesBy_169 rfl (lv_at hl 0 rfl) ?_
              refine zg_X9_87 hx hb C hP (by decide) lay_81 rfl dX9_goesBy_170 ?_
              refine lv_iload_n hx hb dX9_goesBy_173 rfl (lv_at hl 1 rfl) ?_
              refine lv_iload hx hb dX9_goesBy_174 (lv_at hl 7 rfl) ?_
              refine lv_iadd hx hb dX9_goesBy_176 ?_
              obtain ⟨hc15, hf⟩ := chk_some hf
              refine zz_iald hx hb C hP (by decide) lay_103 (inb_vp hc15) dX9_goesBy_177 ?_
              obtain ⟨hc16, hf⟩ := chk_some hf
              refine zz_iast hx hb C hP hS (by decide) lay_103 (inb_vp hc16) dX9_goesBy_178 (fun σ18 eσ18 H locs hP hS => ?_)
              have hf := bnd_at σ18 eσ18 hf
              obtain ⟨v19, ev19⟩ : ∃ z : Int32, z = q10.1 + 1 := ⟨_, rfl⟩
              have hf := bnd_at v19 ev19 hf
              refine lv_iinc (v := v19) (lv' := [(6, .int v19), (0, .ref (a 81)), (1, .int p1), (2, .int p2), (3, .int p3), (4, .int v1), (5, .int q3.1), (7, .int q10.2.1)]) hx hb dX9_goesBy_179 hl (k := 6) rfl (by rw [ev19]; rfl) (by decide) rfl (fun ls hl => ?_)
              obtain ⟨v20, ev20⟩ : ∃ z : Int32, z = q10.2.1 + 1 := ⟨_, rfl⟩
              have hf := bnd_at v20 ev20 hf
              refine lv_iinc (v := v20) (lv' := [(7, .int v20), (6, .int v19), (0, .ref (a 81)), (1, .int p1), (2, .int p2), (3, .int p3), (4, .int v1), (5, .int q3.1)]) hx hb dX9_goesBy_182 hl (k := 7) rfl (by rw [ev20]; rfl) (by decide) rfl (fun ls hl => ?_)
              refine lv_goto (tgt := 125) hx hb dX9_goesBy_185 (by decide) ?_
              exact ihk11 _ hf _ _ _ (lv_sub hl [2, 3, 4, 5, 6, 7, 1, 0] rfl) hP hS
            · have hf := ifF hb14 hf
              refine lv_goto (tgt := 182) hx hb dX9_goesBy_156 (by decide) ?_
              obtain ⟨v21, ev21⟩ : ∃ z : Int32, z = q10.2.1 + 1 := ⟨_, rfl⟩
              have hf := bnd_at v21 ev21 hf
              refine lv_iinc (v := v21) (lv' := [(7, .int v21), (0, .ref (a 81)), (1, .int p1), (2, .int p2), (3, .int p3), (4, .int v1), (5, .int q3.1), (6, .int q10.1)]) hx hb dX9_goesBy_182 hl (k := 7) rfl (by rw [ev21]; rfl) (by decide) rfl (fun ls hl => ?_)
              refine lv_goto (tgt := 125) hx hb dX9_goesBy_185 (by decide) ?_
              exact ihk11 _ hf _ _ _ (lv_sub hl [1, 2, 3, 4, 5, 6, 7, 0] rfl) hP hS
      · have hf := ifT hb1 hf
        refine lv_aload_n hx hb dX9_goesBy_23 rfl (lv_at hl 1 rfl) ?_
        refine lv_iload_n hx hb dX9_goesBy_24 rfl (lv_at hl 4 rfl) ?_
        refine lv_aload_n hx hb dX9_goesBy_25 rfl (lv_at hl 1 rfl) ?_
        refine zg_X9_264 hx hb C hP (by decide) lay_81 rfl dX9_goesBy_26 ?_
        have hJ40 : ∀ (v22 : Int32), j_X9_goesBy_40 σ p1 p2 p3 v22 = some u → ∀ (H : Heap) (locs : List Loc) (ls : Array Slot), lv_has ls 8 [(0, .ref (a 81)), (1, .int p1), (2, .int p2), (3, .int p3)] → va_P D vwCl (wl a cA σ d) H → va_S A s.heap H locs → W p l e R s m args below meth c H locs 0 0 Q (F0 m 40 ls [.int v22, .ref (a 81)]) := by
          intro v22 hf H locs ls hl hP hS
          unfold j_X9_goesBy_40 at hf
          refine zp_X9_264 hx hb C hP hS (by decide) lay_81 rfl dX9_goesBy_40 (fun σ23 eσ23 H locs hP hS => ?_)
          have hf := bnd_at σ23 eσ23 hf
          refine lv_aload_n hx hb dX9_goesBy_43 rfl (lv_at hl 0 rfl) ?_
          refine lv_iload_n hx hb dX9_goesBy_44 rfl (lv_at hl 2 rfl) ?_
          refine lv_aload_n hx hb dX9_goesBy_45 rfl (lv_at hl 0 rfl) ?_
          refine zg_X9_267 hx hb C hP (by decide) lay_81 rfl dX9_goesBy_46 ?_
          have hJ60 : ∀ (v24 : Int32), j_X9_goesBy_60 p1 p2 p3 σ23 v24 = some u → ∀ (H : Heap) (locs : List Loc) (ls : Array Slot), lv_has ls 8 [(0, .ref (a 81)), (1, .int p1), (2, .int p2), (3, .int p3)] → va_P D vwCl (wl a cA σ23 d) H → va_S A s.heap H locs → W p l e R s m args below meth c H locs 0 0 Q (F0 m 60 ls [.int v24, .ref (a 81)]) := by
            intro v24 hf H locs ls hl hP hS
            unfold j_X9_goesBy_60 at hf
            refine zp_X9_267 hx hb C hP hS (by decide) lay_81 rfl dX9_goesBy_60 (fun σ25 eσ25 H locs hP hS => ?_)
            have hf := bnd_at σ25 eσ25 hf
            refine lv_iconst (v := 0) hx hb dX9_goesBy_63 (by decide) ?_
            refine lv_istore (lv' := [(5, .int 0), (0, .ref (a 81)), (1, .int p1), (2, .int p2), (3, .int p3)]) hx hb dX9_goesBy_64 hl (by decide) rfl (fun ls hl => ?_)
            refine loopN_ind (P := fun (q26 : Int32 × PH) => ∀ (H : Heap) (locs : List Loc) (ls : Array Slot), lv_has ls 8 [(0, .ref (a 81)), (1, .int p1), (2, .int p2), (3, .int p3), (5, .int q26.1)] → va_P D vwCl (wl a cA q26.2 d) H → va_S A s.heap H locs → W p l e R s m args below meth c H locs 0 0 Q (F0 m 66 ls [])) ?_ _ _ hf _ _ _ (lv_sub hl [1, 2, 3, 4, 0] rfl) hP hS
            intro k27 ihk27 q26 hf H locs ls hl hP hS
            unfold b_X9_goesBy_66 at hf
            refine lv_iload hx hb dX9_goesBy_66 (lv_at hl 4 rfl) ?_
            refine lv_iload_n hx hb dX9_goesBy_68 rfl (lv_at hl 2 rfl) ?_
            refine lv_icmp_ge (tgt := 109) hx hb dX9_goesBy_69 (by decide) (fun hb27 => ?_) (fun hb27 => ?_)
            · have hf := ifT hb27 hf
              have hf := Option.some.inj hf
              subst hf
              exact hQ _ _ _ _ dX9_goesBy_109 hP hS
            · have hf := ifF hb27 hf
              refine lv_aload_n hx hb dX9_goesBy_72 rfl (lv_at hl 0 rfl) ?_
              refine lv_dup hx hb dX9_goesBy_73 rfl ?_
              refine zg_X9_270 hx hb C hP (by decide) lay_81 rfl dX9_goesBy_74 ?_
              refine lv_iload_n hx hb dX9_goesBy_77 rfl (lv_at hl 3 rfl) ?_
              refine lv_i2l (v := p3.toInt64) hx hb dX9_goesBy_78 rfl ?_
              refine lv_aload_n hx hb dX9_goesBy_79 rfl (lv_at hl 0 rfl) ?_
              refine lv_aload_n hx hb dX9_goesBy_80 rfl (lv_at hl 0 rfl) ?_
              refine zg_X9_81 hx hb C hP (by decide) lay_81 rfl dX9_goesBy_81 ?_
              refine lv_aload_n hx hb dX9_goesBy_84 rfl (lv_at hl 0 rfl) ?_
              refine zg_X9_87 hx hb C hP (by decide) lay_81 rfl dX9_goesBy_85 ?_
              refine lv_iload_n hx hb dX9_goesBy_88 rfl (lv_at hl 1 rfl) ?_
              refine lv_iload hx hb dX9_goesBy_89 (lv_at hl 4 rfl) ?_
              refine lv_iadd hx hb dX9_goesBy_91 ?_
              obtain ⟨hc28, hf⟩ := chk_some hf
              refine zz_iald hx hb C hP (by decide) lay_103 (inb_vp hc28) dX9_goesBy_92 ?_
              obtain ⟨hc29, hf⟩ := chk_some hf
              refine zz_iald hx hb C hP (by decide) lay_101 (inb_vp hc29) dX9_goesBy_93 ?_
              obtain ⟨u31, hzu31, hf⟩ := obd_some hf
              refine zz_callVi (rest := [.long p3.toInt64, .long (gJ q26.2 81 39), .ref (a 81)]) hx hb hml C hP hS (c_X9_weight l hDA (gI q26.2 101 (gI q26.2 103 (p1 + q26.1).toNatClampNeg).toNatClampNeg) hzu31) zw_X9_245 ⟨Nat.le_trans (Nat.le_of_ble_eq_true rfl) (Nat.le_trans (Nat.le_add_right _ _) hRf), Nat.le_trans (Nat.le_of_ble_eq_true rfl) (Nat.le_trans (Nat.le_add_right _ _) hRl)⟩ (by decide) lay_81 rfl rfl hl.1 (Nat.le_of_ble_eq_true rfl) ⟨Nat.zero_le _, Nat.zero_le _⟩ rfl dX9_goesBy_94 (fun H locs hP hS => ?_)
              refine lv_i2l (v := u31.toInt64) hx hb dX9_goesBy_97 rfl ?_
              refine lv_lmul hx hb dX9_goesBy_98 ?_
              refine lv_ladd hx hb dX9_goesBy_99 ?_
              refine zp_X9_270 hx hb C hP hS (by decide) lay_81 rfl dX9_goesBy_100 (fun σ32 eσ32 H locs hP hS => ?_)
              have hf := bnd_at σ32 eσ32 hf
              obtain ⟨v33, ev33⟩ : ∃ z : Int32, z = q26.1 + 1 := ⟨_, rfl⟩
              have hf := bnd_at v33 ev33 hf
              refine lv_iinc (v := v33) (lv' := [(5, .int v33), (0, .ref (a 81)), (1, .int p1), (2, .int p2), (3, .int p3)]) hx hb dX9_goesBy_103 hl (k := 4) rfl (by rw [ev33]; rfl) (by decide) rfl (fun ls hl => ?_)
              refine lv_goto (tgt := 66) hx hb dX9_goesBy_106 (by decide) ?_
              exact ihk27 _ hf _ _ _ (lv_sub hl [1, 2, 3, 4, 0] rfl) hP hS
          refine lv_icmp_le (tgt := 56) hx hb dX9_goesBy_49 (by decide) (fun hb33 => ?_) (fun hb33 => ?_)
          · have hf := ifT hb33 hf
            refine lv_aload_n hx hb dX9_goesBy_56 rfl (lv_at hl 0 rfl) ?_
            refine zg_X9_267 hx hb C hP (by decide) lay_81 rfl dX9_goesBy_57 ?_
            exact hJ60 _ hf _ _ _ (lv_sub hl [0, 1, 2, 3] rfl) hP hS
          · have hf := ifF hb33 hf
            refine lv_iload_n hx hb dX9_goesBy_52 rfl (lv_at hl 2 rfl) ?_
            refine lv_goto (tgt := 60) hx hb dX9_goesBy_53 (by decide) ?_
            exact hJ60 _ hf _ _ _ (lv_sub hl [0, 1, 2, 3] rfl) hP hS
        refine lv_icmp_le (tgt := 36) hx hb dX9_goesBy_29 (by decide) (fun hb34 => ?_) (fun hb34 => ?_)
        · have hf := ifT hb34 hf
          refine lv_aload_n hx hb dX9_goesBy_36 rfl (lv_at hl 1 rfl) ?_
          refine zg_X9_264 hx hb C hP (by decide) lay_81 rfl dX9_goesBy_37 ?_
          exact hJ40 _ hf _ _ _ (lv_sub hl [1, 2, 3, 4] rfl) hP hS
        · have hf := ifF hb34 hf
          refine lv_iload_n hx hb dX9_goesBy_32 rfl (lv_at hl 4 rfl) ?_
          refine lv_goto (tgt := 40) hx hb dX9_goesBy_33 (by decide) ?_
          exact hJ40 _ hf _ _ _ (lv_sub hl [1, 2, 3, 4] rfl) hP hS
    refine lv_icmp_ge (tgt := 9) hx hb dX9_goesBy_2 (by decide) (fun hb35 => ?_) (fun hb35 => ?_)
    · have hf := ifT hb35 hf
      refine lv_aload_n hx hb dX9_goesBy_9 rfl (lv_at hl 0 rfl) ?_
      refine lv_iload_n hx hb dX9_goesBy_10 rfl (lv_at hl 1 rfl) ?_
      refine lv_iload_n hx hb dX9_goesBy_11 rfl (lv_at hl 2 rfl) ?_
      obtain ⟨u37, hzu37, hf⟩ := obd_some hf
      refine zz_callVi (rest := []) hx hb hml C hP hS (c_X9_nextOf l hDA p1 p2 hzu37) zw_X9_261 ⟨Nat.le_trans (Nat.le_of_ble_eq_true rfl) (Nat.le_trans (Nat.le_add_right _ _) hRf), Nat.le_trans (Nat.le_of_ble_eq_true rfl) (Nat.le_trans (Nat.le_add_right _ _) hRl)⟩ (by decide) lay_81 rfl rfl hl.1 (Nat.le_of_ble_eq_true rfl) ⟨Nat.zero_le _, Nat.zero_le _⟩ rfl dX9_goesBy_12 (fun H locs hP hS => ?_)
      exact hJ15 _ hf _ _ _ (lv_sub hl [0, 1, 2, 3] rfl) hP hS
    · have hf := ifF hb35 hf
      refine lv_iconst (v := (-1)) hx hb dX9_goesBy_5 (by decide) ?_
      refine lv_goto (tgt := 15) hx hb dX9_goesBy_6 (by decide) ?_
      exact hJ15 _ hf _ _ _ (lv_sub hl [0, 1, 2, 3] rfl) hP hS
set_option maxHeartbeats 4000000 in
set_option maxRecDepth 100000 in
theorem c_X9_by (l : Launch) {D : va_G} {a : Nat → Nat} {cA : Nat → ClassId} {A : Nat → Prop} {sa : Nat → Nat} (hDA : DA a A) {σ : PH} {d : PD} (p1 : Int32) {u : Int32 × PH} (hf : f_X9_by σ p1 = some u) : CTi l yX9_by cX9_by 6 (some .int) 103 2774 D a cA A sa [.ref (a 81), .int p1] σ d u.1 u.2 d := by
  refine zz_metI zpl_X9 hDA (Nat.le_of_ble_eq_true rfl) ?_
  intro p e R s m args below meth c Q ls hx hb hml C hRf hRl hQ hP hS hl
  have hl : lv_has ls 6 [(0, .ref (a 81)), (1, .int p1)] := hl
  unfold f_X9_by at hf
  refine lv_iload_n hx hb dX9_by_0 rfl (lv_at hl 1 rfl) ?_
  refine lv_if_lt (tgt := 9) hx hb dX9_by_1 (by decide) (fun hb0 => ?_) (fun hb0 => ?_)
  · have hf := ifT hb0 hf
    refine lv_aload_n hx hb dX9_by_9 rfl (lv_at hl 0 rfl) ?_
    refine lv_bipush (v := (-5)) hx hb dX9_by_10 (by decide) ?_
    obtain ⟨u2, hzu2, hf⟩ := obd_some hf
    refine zz_callVi (rest := []) hx hb hml C hP hS (c_X9_no l hDA (-5) hzu2) zw_X9_107 ⟨Nat.le_trans (Nat.le_of_ble_eq_true rfl) hRf, Nat.le_trans (Nat.le_of_ble_eq_true rfl) hRl⟩ (by decide) lay_81 rfl rfl hl.1 (Nat.le_of_ble_eq_true rfl) ⟨Nat.zero_le _, Nat.zero_le _⟩ rfl dX9_by_12 (fun H locs hP hS => ?_)
    have hf := Option.some.inj hf
    subst hf
    exact hQ _ _ _ _ dX9_by_15 hP hS
  · have hf := ifF hb0 hf
    refine lv_iload_n hx hb dX9_by_4 rfl (lv_at hl 1 rfl) ?_
    refine lv_iconst (v := 2) hx hb dX9_by_5 (by decide) ?_
    refine lv_icmp_le (tgt := 16) hx hb dX9_by_6 (by decide) (fun hb2 => ?_) (fun hb2 => ?_)
    · have hf := ifT hb2 hf
      refine lv_aload_n hx hb dX9_by_16 rfl (lv_at hl 0 rfl) ?_
      obtain ⟨u4, hzu4, hf⟩ := obd_some hf
      refine zz_callVi (rest := []) hx hb hml C hP hS (c_X9_begins l hDA  hzu4) zw_X9_258 ⟨Nat.le_trans (Nat.le_of_ble_eq_true rfl) hRf, Nat.le_trans (Nat.le_of_ble_eq_true rfl) hRl⟩ (by decide) lay_81 rfl rfl hl.1 (Nat.le_of_ble_eq_true rfl) ⟨Nat.zero_le _, Nat.zero_le _⟩ rfl dX9_by_17 (fun H locs hP hS => ?_)
      refine lv_istore_n (lv' := [(2, .int u4.1), (0, .ref (a 81)), (1, .int p1)]) hx hb dX9_by_20 rfl hl (by decide) rfl (fun ls hl => ?_)
      refine lv_iload_n hx hb dX9_by_21 rfl (lv_at hl 0 rfl) ?_
      refine lv_if_ne (tgt := 32) hx hb dX9_by_22 (by decide) (fun hb4 => ?_) (fun hb4 => ?_)
      · have hf := ifF hb4 hf
        refine lv_aload_n hx hb dX9_by_32 rfl (lv_at hl 1 rfl) ?_
        refine lv_iconst (v := 0) hx hb dX9_by_33 (by decide) ?_
        refine zp_X9_264 hx hb C hP hS (by decide) lay_81 rfl dX9_by_34 (fun σ6 eσ6 H locs hP hS => ?_)
        have hf := bnd_at σ6 eσ6 hf
        refine lv_aload_n hx hb dX9_by_37 rfl (lv_at hl 1 rfl) ?_
        refine lv_iconst (v := 0) hx hb dX9_by_38 (by decide) ?_
        refine zp_X9_267 hx hb C hP hS (by decide) lay_81 rfl dX9_by_39 (fun σ7 eσ7 H locs hP hS => ?_)
        have hf := bnd_at σ7 eσ7 hf
        refine lv_aload_n hx hb dX9_by_42 rfl (lv_at hl 1 rfl) ?_
        refine lv_lconst (v := 0) hx hb dX9_by_43 (by decide) ?_
        refine zp_X9_270 hx hb C hP hS (by decide) lay_81 rfl dX9_by_44 (fun σ8 eσ8 H locs hP hS => ?_)
        have hf := bnd_at σ8 eσ8 hf
        refine lv_aload_n hx hb dX9_by_47 rfl (lv_at hl 1 rfl) ?_
        refine lv_iconst (v := 0) hx hb dX9_by_48 (by decide) ?_
        refine lv_iload_n hx hb dX9_by_49 rfl (lv_at hl 0 rfl) ?_
        refine lv_iconst (v := 0) hx hb dX9_by_50 (by decide) ?_
        obtain ⟨u9, hzu9, hf⟩ := obd_some hf
        refine zz_callVv (rest := []) hx hb hml C hP hS (c_X9_goesBy l hDA 100 0 u4.1 0 hzu9) zw_X9_274 ⟨Nat.le_trans (Nat.le_of_ble_eq_true rfl) hRf, Nat.le_trans (Nat.le_of_ble_eq_true rfl) hRl⟩ (by decide) lay_81 rfl rfl hl.1 (Nat.le_of_ble_eq_true rfl) ⟨Nat.zero_le _, Nat.zero_le _⟩ rfl dX9_by_51 (fun H locs hP hS => ?_)
        refine lv_lconst (v := 0) hx hb dX9_by_54 (by decide) ?_
        refine lv_lstore_n (lv' := [(3, .long 0), (2, .int u4.1), (0, .ref (a 81)), (1, .int p1)]) hx hb dX9_by_55 rfl hl (by decide) rfl (fun ls hl => ?_)
        refine lv_iconst (v := 0) hx hb dX9_by_56 (by decide) ?_
        refine lv_istore (lv' := [(5, .int 0), (3, .long 0), (2, .int u4.1), (0, .ref (a 81)), (1, .int p1)]) hx hb dX9_by_57 hl (by decide) rfl (fun ls hl => ?_)
        have hJ86 : ∀ (v10 : Int64), j_X9_by_86 p1 u9 v10 = some u → ∀ (H : Heap) (locs : List Loc) (ls : Array Slot), lv_has ls 6 [(0, .ref (a 81)), (1, .int p1), (3, .long v10)] → va_P D vwCl (wl a cA u9 d) H → va_S A s.heap H locs → W p l e R s m args below meth c H locs 0 0 Q (F0 m 86 ls []) := by
          intro v10 hf H locs ls hl hP hS
          unfold j_X9_by_86 at hf
          refine lv_iload_n hx hb dX9_by_86 rfl (lv_at hl 1 rfl) ?_
          refine lv_if_ne (tgt := 97) hx hb dX9_by_87 (by decide) (fun hb10 => ?_) (fun hb10 => ?_)
          · have hf := ifF hb10 hf
            refine lv_iload_n hx hb dX9_by_97 rfl (lv_at hl 1 rfl) ?_
            refine lv_iconst (v := 1) hx hb dX9_by_98 (by decide) ?_
            refine lv_icmp_ne (tgt := 116) hx hb dX9_by_99 (by decide) (fun hb11 => ?_) (fun hb11 => ?_)
            · have hf := ifF hb11 hf
              refine lv_aload_n hx hb dX9_by_116 rfl (lv_at hl 0 rfl) ?_
              refine zg_X9_267 hx hb C hP (by decide) lay_81 rfl dX9_by_117 ?_
              have hf := Option.some.inj hf
              subst hf
              exact hQ _ _ _ _ dX9_by_120 hP hS
            · have hf := ifT hb11 hf
              refine lv_ldc2 (v := 1000) hx hb C.1 (C.2.1 _ kk_X9_278) dX9_by_102 ?_
              refine lv_aload_n hx hb dX9_by_105 rfl (lv_at hl 0 rfl) ?_
              refine zg_X9_270 hx hb C hP (by decide) lay_81 rfl dX9_by_106 ?_
              refine lv_lmul hx hb dX9_by_109 ?_
              refine lv_lload_n hx hb dX9_by_110 rfl (lv_at hl 2 rfl) ?_
              obtain ⟨hc13, hf⟩ := chk_some hf
              refine lv_ldiv hx hb dX9_by_111 hc13 ?_
              refine lv_l2i (v := ((1000 * (gJ u9 81 39)) / v10).toInt32) hx hb dX9_by_112 rfl ?_
              refine lv_goto (tgt := 120) hx hb dX9_by_113 (by decide) ?_
              have hf := Option.some.inj hf
              subst hf
              exact hQ _ _ _ _ dX9_by_120 hP hS
          · have hf := ifT hb10 hf
            refine lv_aload_n hx hb dX9_by_90 rfl (lv_at hl 0 rfl) ?_
            refine zg_X9_264 hx hb C hP (by decide) lay_81 rfl dX9_by_91 ?_
            refine lv_goto (tgt := 120) hx hb dX9_by_94 (by decide) ?_
            have hf := Option.some.inj hf
            subst hf
            exact hQ _ _ _ _ dX9_by_120 hP hS
        refine loopN_ind (P := fun (q14 : Int64 × Int32) => ∀ (H : Heap) (locs : List Loc) (ls : Array Slot), lv_has ls 6 [(0, .ref (a 81)), (1, .int p1), (2, .int u4.1), (3, .long q14.1), (5, .int q14.2)] → va_P D vwCl (wl a cA u9 d) H → va_S A s.heap H locs → W p l e R s m args below meth c H locs 0 0 Q (F0 m 59 ls [])) ?_ _ _ hf _ _ _ (lv_sub hl [3, 4, 2, 1, 0] rfl) hP hS
        intro k15 ihk15 q14 hf H locs ls hl hP hS
        unfold b_X9_by_59 at hf
        refine lv_iload hx hb dX9_by_59 (lv_at hl 4 rfl) ?_
        refine lv_iload_n hx hb dX9_by_61 rfl (lv_at hl 2 rfl) ?_
        refine lv_icmp_ge (tgt := 86) hx hb dX9_by_62 (by decide) (fun hb15 => ?_) (fun hb15 => ?_)
        · have hf := ifT hb15 hf
          exact hJ86 _ hf _ _ _ (lv_sub hl [0, 1, 3] rfl) hP hS
        · have hf := ifF hb15 hf
          refine lv_lload_n hx hb dX9_by_65 rfl (lv_at hl 3 rfl) ?_
          refine lv_aload_n hx hb dX9_by_66 rfl (lv_at hl 0 rfl) ?_
          refine lv_aload_n hx hb dX9_by_67 rfl (lv_at hl 0 rfl) ?_
          refine zg_X9_81 hx hb C hP (by decide) lay_81 rfl dX9_by_68 ?_
          refine lv_iload hx hb dX9_by_71 (lv_at hl 4 rfl) ?_
          obtain ⟨hc16, hf⟩ := chk_some hf
          refine zz_iald hx hb C hP (by decide) lay_101 (inb_vp hc16) dX9_by_73 ?_
          obtain ⟨u18, hzu18, hf⟩ := obd_some hf
          refine zz_callVi (rest := [.long q14.1]) hx hb hml C hP hS (c_X9_weight l hDA (gI u9 101 q14.2.toNatClampNeg) hzu18) zw_X9_245 ⟨Nat.le_trans (Nat.le_of_ble_eq_true rfl) hRf, Nat.le_trans (Nat.le_of_ble_eq_true rfl) hRl⟩ (by decide) lay_81 rfl rfl hl.1 (Nat.le_of_ble_eq_true rfl) ⟨Nat.zero_le _, Nat.zero_le _⟩ rfl dX9_by_74 (fun H locs hP hS => ?_)
          refine lv_i2l (v := u18.toInt64) hx hb dX9_by_77 rfl ?_
          refine lv_ladd hx hb dX9_by_78 ?_
          refine lv_topl (fun v19 ev19 => ?_)
          have hf := bnd_at v19 ev19 hf
          refine lv_lstore_n (lv' := [(3, .long v19), (0, .ref (a 81)), (1, .int p1), (2, .int u4.1), (5, .int q14.2)]) hx hb dX9_by_79 rfl hl (by decide) rfl (fun ls hl => ?_)
          obtain ⟨v20, ev20⟩ : ∃ z : Int32, z = q14.2 + 1 := ⟨_, rfl⟩
          have hf := bnd_at v20 ev20 hf
          refine lv_iinc (v := v20) (lv' := [(5, .int v20), (3, .long v19), (0, .ref (a 81)), (1, .int p1), (2, .int u4.1)]) hx hb dX9_by_80 hl (k := 4) rfl (by rw [ev20]; rfl) (by decide) rfl (fun ls hl => ?_)
          refine lv_goto (tgt := 59) hx hb dX9_by_83 (by decide) ?_
          exact ihk15 _ hf _ _ _ (lv_sub hl [2, 3, 4, 1, 0] rfl) hP hS
      · have hf := ifT hb4 hf
        refine lv_aload_n hx hb dX9_by_25 rfl (lv_at hl 1 rfl) ?_
        refine lv_bipush (v := (-5)) hx hb dX9_by_26 (by decide) ?_
        obtain ⟨u21, hzu21, hf⟩ := obd_some hf
        refine zz_callVi (rest := []) hx hb hml C hP hS (c_X9_no l hDA (-5) hzu21) zw_X9_107 ⟨Nat.le_trans (Nat.le_of_ble_eq_true rfl) hRf, Nat.le_trans (Nat.le_of_ble_eq_true rfl) hRl⟩ (by decide) lay_81 rfl rfl hl.1 (Nat.le_of_ble_eq_true rfl) ⟨Nat.zero_le _, Nat.zero_le _⟩ rfl dX9_by_28 (fun H locs hP hS => ?_)
        have hf := Option.some.inj hf
        subst hf
        exact hQ _ _ _ _ dX9_by_31 hP hS
    · have hf := ifF hb2 hf
      refine lv_aload_n hx hb dX9_by_9 rfl (lv_at hl 0 rfl) ?_
      refine lv_bipush (v := (-5)) hx hb dX9_by_10 (by decide) ?_
      obtain ⟨u22, hzu22, hf⟩ := obd_some hf
      refine zz_callVi (rest := []) hx hb hml C hP hS (c_X9_no l hDA (-5) hzu22) zw_X9_107 ⟨Nat.le_trans (Nat.le_of_ble_eq_true rfl) hRf, Nat.le_trans (Nat.le_of_ble_eq_true rfl) hRl⟩ (by decide) lay_81 rfl rfl hl.1 (Nat.le_of_ble_eq_true rfl) ⟨Nat.zero_le _, Nat.zero_le _⟩ rfl dX9_by_12 (fun H locs hP hS => ?_)
      have hf := Option.some.inj hf
      subst hf
      exact hQ _ _ _ _ dX9_by_15 hP hS
set_option maxHeartbeats 4000000 in
set_option maxRecDepth 100000 in
theorem c_X9_ahead (l : Launch) {D : va_G} {a : Nat → Nat} {cA : Nat → ClassId} {A : Nat → Prop} {sa : Nat → Nat} (hDA : DA a A) {σ : PH} {d : PD} (p1 : Int32) (p2 : Int32) (p3 : Int32) {u : Int32 × PH} (hf : f_X9_ahead σ p1 p2 p3 = some u) : CTi l yX9_ahead cX9_ahead 12 (some .int) 6 140 D a cA A sa [.ref (a 81), .int p1, .int p2, .int p3] σ d u.1 u.2 d := by
  refine zz_metI zpl_X9 hDA (Nat.le_of_ble_eq_true rfl) ?_
  intro p e R s m args below meth c Q ls hx hb hml C hRf hRl hQ hP hS hl
  have hl : lv_has ls 12 [(0, .ref (a 81)), (1, .int p1), (2, .int p2), (3, .int p3)] := hl
  unfold f_X9_ahead at hf
  refine lv_aload_n hx hb dX9_ahead_0 rfl (lv_at hl 0 rfl) ?_
  refine lv_iload_n hx hb dX9_ahead_1 rfl (lv_at hl 1 rfl) ?_
  refine lv_iload_n hx hb dX9_ahead_2 rfl (lv_at hl 2 rfl) ?_
  obtain ⟨u1, hzu1, hf⟩ := obd_some hf
  refine zz_callVi (rest := []) hx hb hml C hP hS (c_X9_bars l hDA p1 p2 hzu1) zw_X9_280 ⟨Nat.le_trans (Nat.le_of_ble_eq_true rfl) hRf, Nat.le_trans (Nat.le_of_ble_eq_true rfl) hRl⟩ (by decide) lay_81 rfl rfl hl.1 (Nat.le_of_ble_eq_true rfl) ⟨Nat.zero_le _, Nat.zero_le _⟩ rfl dX9_ahead_3 (fun H locs hP hS => ?_)
  refine lv_istore (lv' := [(4, .int u1), (0, .ref (a 81)), (1, .int p1), (2, .int p2), (3, .int p3)]) hx hb dX9_ahead_6 hl (by decide) rfl (fun ls hl => ?_)
  refine lv_iload hx hb dX9_ahead_8 (lv_at hl 0 rfl) ?_
  have hJ25 : ∀ (v2 : Int32), j_X9_ahead_25 σ p1 p2 p3 v2 = some u → ∀ (H : Heap) (locs : List Loc) (ls : Array Slot), lv_has ls 12 [(0, .ref (a 81)), (1, .int p1), (2, .int p2), (3, .int p3), (4, .int v2)] → va_P D vwCl (wl a cA σ d) H → va_S A s.heap H locs → W p l e R s m args below meth c H locs 0 0 Q (F0 m 25 ls []) := by
    intro v2 hf H locs ls hl hP hS
    unfold j_X9_ahead_25 at hf
    refine lv_iload hx hb dX9_ahead_25 (lv_at hl 4 rfl) ?_
    have hJ40 : ∀ (v3 : Int32), j_X9_ahead_40 σ p1 p2 p3 v3 = some u → ∀ (H : Heap) (locs : List Loc) (ls : Array Slot), lv_has ls 12 [(0, .ref (a 81)), (1, .int p1), (2, .int p2), (3, .int p3), (4, .int v3)] → va_P D vwCl (wl a cA σ d) H → va_S A s.heap H locs → W p l e R s m args below meth c H locs 0 0 Q (F0 m 40 ls []) := by
      intro v3 hf H locs ls hl hP hS
      unfold j_X9_ahead_40 at hf
      refine lv_iconst (v := 0) hx hb dX9_ahead_40 (by decide) ?_
      refine lv_istore (lv' := [(5, .int 0), (0, .ref (a 81)), (1, .int p1), (2, .int p2), (3, .int p3), (4, .int v3)]) hx hb dX9_ahead_41 hl (by decide) rfl (fun ls hl => ?_)
      have hJ78 : ∀ (v4 : Int32), j_X9_ahead_78 σ p1 p2 p3 v4 = some u → ∀ (H : Heap) (locs : List Loc) (ls : Array Slot), lv_has ls 12 [(0, .ref (a 81)), (1, .int p1), (2, .int p2), (3, .int p3), (4, .int v4)] → va_P D vwCl (wl a cA σ d) H → va_S A s.heap H locs → W p l e R s m args below meth c H locs 0 0 Q (F0 m 78 ls []) := by
        intro v4 hf H locs ls hl hP hS
        unfold j_X9_ahead_78 at hf
        refine lv_iload hx hb dX9_ahead_78 (lv_at hl 4 rfl) ?_
        refine lv_if_eq (tgt := 90) hx hb dX9_ahead_80 (by decide) (fun hb4 => ?_) (fun hb4 => ?_)
        · have hf := ifT hb4 hf
          refine lv_aload_n hx hb dX9_ahead_90 rfl (lv_at hl 0 rfl) ?_
          obtain ⟨u6, hzu6, hf⟩ := obd_some hf
          refine zz_callVi (rest := []) hx hb hml C hP hS (c_X9_possible l hDA  hzu6) zw_X9_239 ⟨Nat.le_trans (Nat.le_of_ble_eq_true rfl) hRf, Nat.le_trans (Nat.le_of_ble_eq_true rfl) hRl⟩ (by decide) lay_81 rfl rfl hl.1 (Nat.le_of_ble_eq_true rfl) ⟨Nat.zero_le _, Nat.zero_le _⟩ rfl dX9_ahead_91 (fun H locs hP hS => ?_)
          refine lv_istore (lv' := [(5, .int u6.1), (0, .ref (a 81)), (1, .int p1), (2, .int p2), (3, .int p3), (4, .int v4)]) hx hb dX9_ahead_94 hl (by decide) rfl (fun ls hl => ?_)
          refine lv_iconst (v := 0) hx hb dX9_ahead_96 (by decide) ?_
          refine lv_istore (lv' := [(6, .int 0), (5, .int u6.1), (0, .ref (a 81)), (1, .int p1), (2, .int p2), (3, .int p3), (4, .int v4)]) hx hb dX9_ahead_97 hl (by decide) rfl (fun ls hl => ?_)
          refine lv_iconst (v := 0) hx hb dX9_ahead_99 (by decide) ?_
          refine lv_istore (lv' := [(7, .int 0), (6, .int 0), (5, .int u6.1), (0, .ref (a 81)), (1, .int p1), (2, .int p2), (3, .int p3), (4, .int v4)]) hx hb dX9_ahead_100 hl (by decide) rfl (fun ls hl => ?_)
          refine lv_iconst (v := 0) hx hb dX9_ahead_102 (by decide) ?_
          refine lv_istore (lv' := [(8, .int 0), (7, .int 0), (6, .int 0), (5, .int u6.1), (0, .ref (a 81)), (1, .int p1), (2, .int p2), (3, .int p3), (4, .int v4)]) hx hb dX9_ahead_103 hl (by decide) rfl (fun ls hl => ?_)
          have hJ172 : ∀ (σ7 : PH), j_X9_ahead_172 p3 u6 σ7 = some u → ∀ (H : Heap) (locs : List Loc) (ls : Array Slot), lv_has ls 12 [(0, .ref (a 81)), (3, .int p3), (5, .int u6.1), (6, .int 0), (7, .int 0)] → va_P D vwCl (wl a cA σ7 d) H → va_S A s.heap H locs → W p l e R s m args below meth c H locs 0 0 Q (F0 m 172 ls []) := by
            intro σ7 hf H locs ls hl hP hS
            unfold j_X9_ahead_172 at hf
            refine lv_iconst (v := 0) hx hb dX9_ahead_172 (by decide) ?_
            refine lv_istore (lv' := [(8, .int 0), (0, .ref (a 81)), (3, .int p3), (5, .int u6.1), (6, .int 0), (7, .int 0)]) hx hb dX9_ahead_173 hl (by decide) rfl (fun ls hl => ?_)
            have hJ267 : ∀ (v8 : Int32) (v9 : Int32), j_X9_ahead_267 p3 σ7 v8 v9 = some u → ∀ (H : Heap) (locs : List Loc) (ls : Array Slot), lv_has ls 12 [(3, .int p3), (6, .int v8), (7, .int v9)] → va_P D vwCl (wl a cA σ7 d) H → va_S A s.heap H locs → W p l e R s m args below meth c H locs 0 0 Q (F0 m 267 ls []) := by
              intro v8 v9 hf H locs ls hl hP hS
              unfold j_X9_ahead_267 at hf
              refine lv_iload_n hx hb dX9_ahead_267 rfl (lv_at hl 0 rfl) ?_
              refine lv_if_ne (tgt := 276) hx hb dX9_ahead_268 (by decide) (fun hb9 => ?_) (fun hb9 => ?_)
              · have hf := ifF hb9 hf
                refine lv_iload hx hb dX9_ahead_276 (lv_at hl 2 rfl) ?_
                have hf := Option.some.inj hf
                subst hf
                exact hQ _ _ _ _ dX9_ahead_278 hP hS
              · have hf := ifT hb9 hf
                refine lv_iload hx hb dX9_ahead_271 (lv_at hl 1 rfl) ?_
                refine lv_goto (tgt := 278) hx hb dX9_ahead_273 (by decide) ?_
                have hf := Option.some.inj hf
                subst hf
                exact hQ _ _ _ _ dX9_ahead_278 hP hS
            refine loopN_ind (P := fun (q11 : Int32 × Int32 × Int32) => ∀ (H : Heap) (locs : List Loc) (ls : Array Slot), lv_has ls 12 [(0, .ref (a 81)), (3, .int p3), (5, .int u6.1), (6, .int q11.1), (7, .int q11.2.1), (8, .int q11.2.2)] → va_P D vwCl (wl a cA σ7 d) H → va_S A s.heap H locs → W p l e R s m args below meth c H locs 0 0 Q (F0 m 175 ls [])) ?_ _ _ hf _ _ _ (lv_sub hl [1, 2, 3, 4, 5, 0] rfl) hP hS
            intro k12 ihk12 q11 hf H locs ls hl hP hS
            unfold b_X9_ahead_175 at hf
            refine lv_iload hx hb dX9_ahead_175 (lv_at hl 5 rfl) ?_
            refine lv_iload hx hb dX9_ahead_177 (lv_at hl 2 rfl) ?_
            refine lv_icmp_ge (tgt := 267) hx hb dX9_ahead_179 (by decide) (fun hb12 => ?_) (fun hb12 => ?_)
            · have hf := ifT hb12 hf
              exact hJ267 _ _ hf _ _ _ (lv_sub hl [1, 3, 4] rfl) hP hS
            · have hf := ifF hb12 hf
              refine lv_iconst (v := 0) hx hb dX9_ahead_182 (by decide) ?_
              refine lv_istore (lv' := [(9, .int 0), (0, .ref (a 81)), (3, .int p3), (5, .int u6.1), (6, .int q11.1), (7, .int q11.2.1), (8, .int q11.2.2)]) hx hb dX9_ahead_183 hl (by decide) rfl (fun ls hl => ?_)
              refine lv_iconst (v := 0) hx hb dX9_ahead_185 (by decide) ?_
              refine lv_istore (lv' := [(10, .int 0), (9, .int 0), (0, .ref (a 81)), (3, .int p3), (5, .int u6.1), (6, .int q11.1), (7, .int q11.2.1), (8, .int q11.2.2)]) hx hb dX9_ahead_186 hl (by decide) rfl (fun ls hl => ?_)
              refine lv_iconst (v := 0) hx hb dX9_ahead_188 (by decide) ?_
              refine lv_istore (lv' := [(11, .int 0), (10, .int 0), (9, .int 0), (0, .ref (a 81)), (3, .int p3), (5, .int u6.1), (6, .int q11.1), (7, .int q11.2.1), (8, .int q11.2.2)]) hx hb dX9_ahead_189 hl (by decide) rfl (fun ls hl => ?_)
              have hJ237 : ∀ (v14 : Int32) (v15 : Int32), j_X9_ahead_237 q11 k12 v14 v15 = some u → ∀ (H : Heap) (locs : List Loc) (ls : Array Slot), lv_has ls 12 [(0, .ref (a 81)), (3, .int p3), (5, .int u6.1), (6, .int q11.1), (7, .int q11.2.1), (8, .int q11.2.2), (9, .int v14), (10, .int v15)] → va_P D vwCl (wl a cA σ7 d) H → va_S A s.heap H locs → W p l e R s m args below meth c H locs 0 0 Q (F0 m 237 ls []) := by
                intro v14 v15 hf H locs ls hl hP hS
                unfold j_X9_ahead_237 at hf
                refine lv_iload hx hb dX9_ahead_237 (lv_at hl 6 rfl) ?_
                have hJ245 : ∀ (v16 : Int32), j_X9_ahead_245 q11 k12 v15 v16 = some u → ∀ (H : Heap) (locs : List Loc) (ls : Array Slot), lv_has ls 12 [(0, .ref (a 81)), (3, .int p3), (5, .int u6.1), (6, .int v16), (7, .int q11.2.1), (8, .int q11.2.2), (10, .int v15)] → va_P D vwCl (wl a cA σ7 d) H → va_S A s.heap H locs → W p l e R s m args below meth c H locs 0 0 Q (F0 m 245 ls []) := by
                  intro v16 hf H locs ls hl hP hS
                  unfold j_X9_ahead_245 at hf
                  refine lv_iload hx hb dX9_ahead_245 (lv_at hl 6 rfl) ?_
                  refine lv_iload hx hb dX9_ahead_247 (lv_at hl 4 rfl) ?_
                  refine lv_icmp_le (tgt := 257) hx hb dX9_ahead_249 (by decide) (fun hb16 => ?_) (fun hb16 => ?_)
                  · have hf := ifT hb16 hf
                    refine lv_iload hx hb dX9_ahead_257 (lv_at hl 4 rfl) ?_
                    refine lv_istore (lv' := [(7, .int q11.2.1), (0, .ref (a 81)), (3, .int p3), (5, .int u6.1), (6, .int v16), (8, .int q11.2.2), (10, .int v15)]) hx hb dX9_ahead_259 hl (by decide) rfl (fun ls hl => ?_)
                    obtain ⟨v18, ev18⟩ : ∃ z : Int32, z = q11.2.2 + 1 := ⟨_, rfl⟩
                    have hf := bnd_at v18 ev18 hf
                    refine lv_iinc (v := v18) (lv' := [(8, .int v18), (7, .int q11.2.1), (0, .ref (a 81)), (3, .int p3), (5, .int u6.1), (6, .int v16), (10, .int v15)]) hx hb dX9_ahead_261 hl (k := 5) rfl (by rw [ev18]; rfl) (by decide) rfl (fun ls hl => ?_)
                    refine lv_goto (tgt := 175) hx hb dX9_ahead_264 (by decide) ?_
                    exact ihk12 _ hf _ _ _ (lv_sub hl [2, 3, 4, 5, 1, 0] rfl) hP hS
                  · have hf := ifF hb16 hf
                    refine lv_iload hx hb dX9_ahead_252 (lv_at hl 6 rfl) ?_
                    refine lv_goto (tgt := 259) hx hb dX9_ahead_254 (by decide) ?_
                    refine lv_istore (lv' := [(7, .int v15), (0, .ref (a 81)), (3, .int p3), (5, .int u6.1), (6, .int v16), (8, .int q11.2.2), (10, .int v15)]) hx hb dX9_ahead_259 hl (by decide) rfl (fun ls hl => ?_)
                    obtain ⟨v19, ev19⟩ : ∃ z : Int32, z = q11.2.2 + 1 := ⟨_, rfl⟩
                    have hf := bnd_at v19 ev19 hf
                    refine lv_iinc (v := v19) (lv' := [(8, .int v19), (7, .int v15), (0, .ref (a 81)), (3, .int p3), (5, .int u6.1), (6, .int v16), (10, .int v15)]) hx hb dX9_ahead_261 hl (k := 5) rfl (by rw [ev19]; rfl) (by decide) rfl (fun ls hl => ?_)
                    refine lv_goto (tgt := 175) hx hb dX9_ahead_264 (by decide) ?_
                    exact ihk12 _ hf _ _ _ (lv_sub hl [2, 3, 4, 5, 1, 0] rfl) hP hS
                refine lv_if_ne (tgt := 245) hx hb dX9_ahead_239 (by decide) (fun hb19 => ?_) (fun hb19 => ?_)
                · have hf := ifF hb19 hf
                  exact hJ245 _ hf _ _ _ (lv_sub hl [0, 1, 2, 3, 4, 5, 7] rfl) hP hS
                · have hf := ifT hb19 hf
                  obtain ⟨v21, ev21⟩ : ∃ z : Int32, z = q11.1 + 1 := ⟨_, rfl⟩
                  have hf := bnd_at v21 ev21 hf
                  refine lv_iinc (v := v21) (lv' := [(6, .int v21), (0, .ref (a 81)), (3, .int p3), (5, .int u6.1), (7, .int q11.2.1), (8, .int q11.2.2), (9, .int v14), (10, .int v15)]) hx hb dX9_ahead_242 hl (k := 3) rfl (by rw [ev21]; rfl) (by decide) rfl (fun ls hl => ?_)
                  exact hJ245 _ hf _ _ _ (lv_sub hl [1, 2, 3, 0, 4, 5, 7] rfl) hP hS
              refine loopN_ind (P := fun (q22 : Int32 × Int32 × Int32) => ∀ (H : Heap) (locs : List Loc) (ls : Array Slot), lv_has ls 12 [(0, .ref (a 81)), (3, .int p3), (5, .int u6.1), (6, .int q11.1), (7, .int q11.2.1), (8, .int q11.2.2), (9, .int q22.1), (10, .int q22.2.1), (11, .int q22.2.2)] → va_P D vwCl (wl a cA σ7 d) H → va_S A s.heap H locs → W p l e R s m args below meth c H locs 0 0 Q (F0 m 191 ls [])) ?_ _ _ hf _ _ _ (lv_sub hl [3, 4, 5, 6, 7, 8, 2, 1, 0] rfl) hP hS
              intro k23 ihk23 q22 hf H locs ls hl hP hS
              unfold b_X9_ahead_191 at hf
              refine lv_iload hx hb dX9_ahead_191 (lv_at hl 8 rfl) ?_
              refine lv_iload hx hb dX9_ahead_193 (lv_at hl 2 rfl) ?_
              refine lv_icmp_ge (tgt := 237) hx hb dX9_ahead_195 (by decide) (fun hb23 => ?_) (fun hb23 => ?_)
              · have hf := ifT hb23 hf
                exact hJ237 _ _ hf _ _ _ (lv_sub hl [0, 1, 2, 3, 4, 5, 6, 7] rfl) hP hS
              · have hf := ifF hb23 hf
                refine lv_aload_n hx hb dX9_ahead_198 rfl (lv_at hl 0 rfl) ?_
                refine zg_X9_90 hx hb C hP (by decide) lay_81 rfl dX9_ahead_199 ?_
                refine lv_iload hx hb dX9_ahead_202 (lv_at hl 8 rfl) ?_
                obtain ⟨hc24, hf⟩ := chk_some hf
                refine zz_iald hx hb C hP (by decide) lay_104 (inb_vp hc24) dX9_ahead_204 ?_
                refine lv_aload_n hx hb dX9_ahead_205 rfl (lv_at hl 0 rfl) ?_
                refine zg_X9_90 hx hb C hP (by decide) lay_81 rfl dX9_ahead_206 ?_
                refine lv_iload hx hb dX9_ahead_209 (lv_at hl 5 rfl) ?_
                obtain ⟨hc25, hf⟩ := chk_some hf
                refine zz_iald hx hb C hP (by decide) lay_104 (inb_vp hc25) dX9_ahead_211 ?_
                refine lv_icmp_eq (tgt := 218) hx hb dX9_ahead_212 (by decide) (fun hb26 => ?_) (fun hb26 => ?_)
                · have hf := ifT hb26 hf
                  obtain ⟨v28, ev28⟩ : ∃ z : Int32, z = q22.2.1 + 1 := ⟨_, rfl⟩
                  have hf := bnd_at v28 ev28 hf
                  refine lv_iinc (v := v28) (lv' := [(10, .int v28), (0, .ref (a 81)), (3, .int p3), (5, .int u6.1), (6, .int q11.1), (7, .int q11.2.1), (8, .int q11.2.2), (9, .int q22.1), (11, .int q22.2.2)]) hx hb dX9_ahead_218 hl (k := 7) rfl (by rw [ev28]; rfl) (by decide) rfl (fun ls hl => ?_)
                  refine lv_iload hx hb dX9_ahead_221 (lv_at hl 8 rfl) ?_
                  refine lv_iload hx hb dX9_ahead_223 (lv_at hl 6 rfl) ?_
                  refine lv_icmp_ge (tgt := 231) hx hb dX9_ahead_225 (by decide) (fun hb28 => ?_) (fun hb28 => ?_)
                  · have hf := ifT hb28 hf
                    obtain ⟨v30, ev30⟩ : ∃ z : Int32, z = q22.2.2 + 1 := ⟨_, rfl⟩
                    have hf := bnd_at v30 ev30 hf
                    refine lv_iinc (v := v30) (lv' := [(11, .int v30), (10, .int v28), (0, .ref (a 81)), (3, .int p3), (5, .int u6.1), (6, .int q11.1), (7, .int q11.2.1), (8, .int q11.2.2), (9, .int q22.1)]) hx hb dX9_ahead_231 hl (k := 8) rfl (by rw [ev30]; rfl) (by decide) rfl (fun ls hl => ?_)
                    refine lv_goto (tgt := 191) hx hb dX9_ahead_234 (by decide) ?_
                    exact ihk23 _ hf _ _ _ (lv_sub hl [2, 3, 4, 5, 6, 7, 8, 1, 0] rfl) hP hS
                  · have hf := ifF hb28 hf
                    obtain ⟨v31, ev31⟩ : ∃ z : Int32, z = q22.1 + 1 := ⟨_, rfl⟩
                    have hf := bnd_at v31 ev31 hf
                    refine lv_iinc (v := v31) (lv' := [(9, .int v31), (10, .int v28), (0, .ref (a 81)), (3, .int p3), (5, .int u6.1), (6, .int q11.1), (7, .int q11.2.1), (8, .int q11.2.2), (11, .int q22.2.2)]) hx hb dX9_ahead_228 hl (k := 7) rfl (by rw [ev31]; rfl) (by decide) rfl (fun ls hl => ?_)
                    obtain ⟨v32, ev32⟩ : ∃ z : Int32, z = q22.2.2 + 1 := ⟨_, rfl⟩
                    have hf := bnd_at v32 ev32 hf
                    refine lv_iinc (v := v32) (lv' := [(11, .int v32), (9, .int v31), (10, .int v28), (0, .ref (a 81)), (3, .int p3), (5, .int u6.1), (6, .int q11.1), (7, .int q11.2.1), (8, .int q11.2.2)]) hx hb dX9_ahead_231 hl (k := 8) rfl (by rw [ev32]; rfl) (by decide) rfl (fun ls hl => ?_)
                    refine lv_goto (tgt := 191) hx hb dX9_ahead_234 (by decide) ?_
                    exact ihk23 _ hf _ _ _ (lv_sub hl [3, 4, 5, 6, 7, 8, 1, 2, 0] rfl) hP hS
                · have hf := ifF hb26 hf
                  refine lv_goto (tgt := 231) hx hb dX9_ahead_215 (by decide) ?_
                  obtain ⟨v33, ev33⟩ : ∃ z : Int32, z = q22.2.2 + 1 := ⟨_, rfl⟩
                  have hf := bnd_at v33 ev33 hf
                  refine lv_iinc (v := v33) (lv' := [(11, .int v33), (0, .ref (a 81)), (3, .int p3), (5, .int u6.1), (6, .int q11.1), (7, .int q11.2.1), (8, .int q11.2.2), (9, .int q22.1), (10, .int q22.2.1)]) hx hb dX9_ahead_231 hl (k := 8) rfl (by rw [ev33]; rfl) (by decide) rfl (fun ls hl => ?_)
                  refine lv_goto (tgt := 191) hx hb dX9_ahead_234 (by decide) ?_
                  exact ihk23 _ hf _ _ _ (lv_sub hl [1, 2, 3, 4, 5, 6, 7, 8, 0] rfl) hP hS
          refine loopN_ind (P := fun (q34 : Int32 × PH) => ∀ (H : Heap) (locs : List Loc) (ls : Array Slot), lv_has ls 12 [(0, .ref (a 81)), (1, .int p1), (2, .int p2), (3, .int p3), (5, .int u6.1), (6, .int 0), (7, .int 0), (8, .int q34.1)] → va_P D vwCl (wl a cA q34.2 d) H → va_S A s.heap H locs → W p l e R s m args below meth c H locs 0 0 Q (F0 m 105 ls [])) ?_ _ _ hf _ _ _ (lv_sub hl [4, 5, 6, 7, 3, 2, 1, 0] rfl) hP hS
          intro k35 ihk35 q34 hf H locs ls hl hP hS
          unfold b_X9_ahead_105 at hf
          refine lv_iload hx hb dX9_ahead_105 (lv_at hl 7 rfl) ?_
          refine lv_iload hx hb dX9_ahead_107 (lv_at hl 4 rfl) ?_
          refine lv_icmp_ge (tgt := 172) hx hb dX9_ahead_109 (by decide) (fun hb35 => ?_) (fun hb35 => ?_)
          · have hf := ifT hb35 hf
            exact hJ172 _ hf _ _ _ (lv_sub hl [0, 3, 4, 5, 6] rfl) hP hS
          · have hf := ifF hb35 hf
            refine lv_aload_n hx hb dX9_ahead_112 rfl (lv_at hl 0 rfl) ?_
            refine zg_X9_90 hx hb C hP (by decide) lay_81 rfl dX9_ahead_113 ?_
            refine lv_iload hx hb dX9_ahead_116 (lv_at hl 7 rfl) ?_
            refine lv_iconst (v := 0) hx hb dX9_ahead_118 (by decide) ?_
            obtain ⟨hc36, hf⟩ := chk_some hf
            refine zz_iast hx hb C hP hS (by decide) lay_104 (inb_vp hc36) dX9_ahead_119 (fun σ38 eσ38 H locs hP hS => ?_)
            have hf := bnd_at σ38 eσ38 hf
            refine lv_iconst (v := 0) hx hb dX9_ahead_120 (by decide) ?_
            refine lv_istore (lv' := [(9, .int 0), (0, .ref (a 81)), (1, .int p1), (2, .int p2), (3, .int p3), (5, .int u6.1), (6, .int 0), (7, .int 0), (8, .int q34.1)]) hx hb dX9_ahead_121 hl (by decide) rfl (fun ls hl => ?_)
            refine loopN_ind (P := fun (q39 : Int32 × PH) => ∀ (H : Heap) (locs : List Loc) (ls : Array Slot), lv_has ls 12 [(0, .ref (a 81)), (1, .int p1), (2, .int p2), (3, .int p3), (5, .int u6.1), (6, .int 0), (7, .int 0), (8, .int q34.1), (9, .int q39.1)] → va_P D vwCl (wl a cA q39.2 d) H → va_S A s.heap H locs → W p l e R s m args below meth c H locs 0 0 Q (F0 m 123 ls [])) ?_ _ _ hf _ _ _ (lv_sub hl [1, 2, 3, 4, 5, 6, 7, 8, 0] rfl) hP hS
            intro k40 ihk40 q39 hf H locs ls hl hP hS
            unfold b_X9_ahead_123 at hf
            refine lv_iload hx hb dX9_ahead_123 (lv_at hl 8 rfl) ?_
            refine lv_iload_n hx hb dX9_ahead_125 rfl (lv_at hl 2 rfl) ?_
            refine lv_icmp_ge (tgt := 166) hx hb dX9_ahead_126 (by decide) (fun hb40 => ?_) (fun hb40 => ?_)
            · have hf := ifT hb40 hf
              obtain ⟨v42, ev42⟩ : ∃ z : Int32, z = q34.1 + 1 := ⟨_, rfl⟩
              have hf := bnd_at v42 ev42 hf
              refine lv_iinc (v := v42) (lv' := [(8, .int v42), (0, .ref (a 81)), (1, .int p1), (2, .int p2), (3, .int p3), (5, .int u6.1), (6, .int 0), (7, .int 0), (9, .int q39.1)]) hx hb dX9_ahead_166 hl (k := 7) rfl (by rw [ev42]; rfl) (by decide) rfl (fun ls hl => ?_)
              refine lv_goto (tgt := 105) hx hb dX9_ahead_169 (by decide) ?_
              exact ihk35 _ hf _ _ _ (lv_sub hl [1, 2, 3, 4, 5, 6, 7, 0] rfl) hP hS
            · have hf := ifF hb40 hf
              refine lv_aload_n hx hb dX9_ahead_129 rfl (lv_at hl 0 rfl) ?_
              refine zg_X9_90 hx hb C hP (by decide) lay_81 rfl dX9_ahead_130 ?_
              refine lv_iload hx hb dX9_ahead_133 (lv_at hl 7 rfl) ?_
              refine lv_dup2_11 hx hb dX9_ahead_135 rfl rfl ?_
              obtain ⟨hc42, hf⟩ := chk_some hf
              refine zz_iald hx hb C hP (by decide) lay_104 (inb_vp hc42) dX9_ahead_136 ?_
              refine lv_aload_n hx hb dX9_ahead_137 rfl (lv_at hl 0 rfl) ?_
              refine lv_aload_n hx hb dX9_ahead_138 rfl (lv_at hl 0 rfl) ?_
              refine lv_iload_n hx hb dX9_ahead_139 rfl (lv_at hl 1 rfl) ?_
              refine lv_iload hx hb dX9_ahead_140 (lv_at hl 8 rfl) ?_
              obtain ⟨u44, hzu44, hf⟩ := obd_some hf
              refine zz_callVi (rest := [.ref (a 81), .int (gI q39.2 104 q34.1.toNatClampNeg), .int q34.1, .ref (a 104)]) hx hb hml C hP hS (c_X9_intAt l hDA p1 q39.1 hzu44) zw_X9_283 ⟨Nat.le_trans (Nat.le_of_ble_eq_true rfl) hRf, Nat.le_trans (Nat.le_of_ble_eq_true rfl) hRl⟩ (by decide) lay_81 rfl rfl hl.1 (Nat.le_of_ble_eq_true rfl) ⟨Nat.zero_le _, Nat.zero_le _⟩ rfl dX9_ahead_142 (fun H locs hP hS => ?_)
              refine lv_aload_n hx hb dX9_ahead_145 rfl (lv_at hl 0 rfl) ?_
              refine zg_X9_81 hx hb C hP (by decide) lay_81 rfl dX9_ahead_146 ?_
              refine lv_iload hx hb dX9_ahead_149 (lv_at hl 7 rfl) ?_
              obtain ⟨hc44, hf⟩ := chk_some hf
              refine zz_iald hx hb C hP (by decide) lay_101 (inb_vp hc44) dX9_ahead_151 ?_
              obtain ⟨u46, hzu46, hf⟩ := obd_some hf
              refine zz_callVi (rest := [.int (gI q39.2 104 q34.1.toNatClampNeg), .int q34.1, .ref (a 104)]) hx hb hml C hP hS (c_X9_soundOf l hDA u44 (gI q39.2 101 q34.1.toNatClampNeg) hzu46) zw_X9_230 ⟨Nat.le_trans (Nat.le_of_ble_eq_true rfl) hRf, Nat.le_trans (Nat.le_of_ble_eq_true rfl) hRl⟩ (by decide) lay_81 rfl rfl hl.1 (Nat.le_of_ble_eq_true rfl) ⟨Nat.zero_le _, Nat.zero_le _⟩ rfl dX9_ahead_152 (fun H locs hP hS => ?_)
              refine lv_iload hx hb dX9_ahead_155 (lv_at hl 8 rfl) ?_
              refine lv_ishl hx hb dX9_ahead_157 ?_
              refine lv_ior hx hb dX9_ahead_158 ?_
              obtain ⟨hc46, hf⟩ := chk_some hf
              refine zz_iast hx hb C hP hS (by decide) lay_104 (inb_vp hc46) dX9_ahead_159 (fun σ48 eσ48 H locs hP hS => ?_)
              have hf := bnd_at σ48 eσ48 hf
              obtain ⟨v49, ev49⟩ : ∃ z : Int32, z = q39.1 + 1 := ⟨_, rfl⟩
              have hf := bnd_at v49 ev49 hf
              refine lv_iinc (v := v49) (lv' := [(9, .int v49), (0, .ref (a 81)), (1, .int p1), (2, .int p2), (3, .int p3), (5, .int u6.1), (6, .int 0), (7, .int 0), (8, .int q34.1)]) hx hb dX9_ahead_160 hl (k := 8) rfl (by rw [ev49]; rfl) (by decide) rfl (fun ls hl => ?_)
              refine lv_goto (tgt := 123) hx hb dX9_ahead_163 (by decide) ?_
              exact ihk40 _ hf _ _ _ (lv_sub hl [1, 2, 3, 4, 5, 6, 7, 8, 0] rfl) hP hS
        · have hf := ifF hb4 hf
          refine lv_aload_n hx hb dX9_ahead_83 rfl (lv_at hl 0 rfl) ?_
          refine lv_iload hx hb dX9_ahead_84 (lv_at hl 4 rfl) ?_
          obtain ⟨u50, hzu50, hf⟩ := obd_some hf
          refine zz_callVi (rest := []) hx hb hml C hP hS (c_X9_no l hDA v4 hzu50) zw_X9_107 ⟨Nat.le_trans (Nat.le_of_ble_eq_true rfl) hRf, Nat.le_trans (Nat.le_of_ble_eq_true rfl) hRl⟩ (by decide) lay_81 rfl rfl hl.1 (Nat.le_of_ble_eq_true rfl) ⟨Nat.zero_le _, Nat.zero_le _⟩ rfl dX9_ahead_86 (fun H locs hP hS => ?_)
          have hf := Option.some.inj hf
          subst hf
          exact hQ _ _ _ _ dX9_ahead_89 hP hS
      refine loopN_ind (P := fun (q51 : Int32 × Int32) => ∀ (H : Heap) (locs : List Loc) (ls : Array Slot), lv_has ls 12 [(0, .ref (a 81)), (1, .int p1), (2, .int p2), (3, .int p3), (4, .int q51.1), (5, .int q51.2)] → va_P D vwCl (wl a cA σ d) H → va_S A s.heap H locs → W p l e R s m args below meth c H locs 0 0 Q (F0 m 43 ls [])) ?_ _ _ hf _ _ _ (lv_sub hl [1, 2, 3, 4, 5, 0] rfl) hP hS
      intro k52 ihk52 q51 hf H locs ls hl hP hS
      unfold b_X9_ahead_43 at hf
      refine lv_iload hx hb dX9_ahead_43 (lv_at hl 5 rfl) ?_
      refine lv_iload_n hx hb dX9_ahead_45 rfl (lv_at hl 2 rfl) ?_
      refine lv_icmp_ge (tgt := 78) hx hb dX9_ahead_46 (by decide) (fun hb52 => ?_) (fun hb52 => ?_)
      · have hf := ifT hb52 hf
        exact hJ78 _ hf _ _ _ (lv_sub hl [0, 1, 2, 3, 4] rfl) hP hS
      · have hf := ifF hb52 hf
        refine lv_iload hx hb dX9_ahead_49 (lv_at hl 4 rfl) ?_
        refine lv_if_ne (tgt := 78) hx hb dX9_ahead_51 (by decide) (fun hb53 => ?_) (fun hb53 => ?_)
        · have hf := ifF hb53 hf
          exact hJ78 _ hf _ _ _ (lv_sub hl [0, 1, 2, 3, 4] rfl) hP hS
        · have hf := ifT hb53 hf
          refine lv_aload_n hx hb dX9_ahead_54 rfl (lv_at hl 0 rfl) ?_
          refine lv_aload_n hx hb dX9_ahead_55 rfl (lv_at hl 0 rfl) ?_
          refine lv_iload_n hx hb dX9_ahead_56 rfl (lv_at hl 1 rfl) ?_
          refine lv_iload hx hb dX9_ahead_57 (lv_at hl 5 rfl) ?_
          obtain ⟨u55, hzu55, hf⟩ := obd_some hf
          refine zz_callVi (rest := [.ref (a 81)]) hx hb hml C hP hS (c_X9_intAt l hDA p1 q51.2 hzu55) zw_X9_283 ⟨Nat.le_trans (Nat.le_of_ble_eq_true rfl) hRf, Nat.le_trans (Nat.le_of_ble_eq_true rfl) hRl⟩ (by decide) lay_81 rfl rfl hl.1 (Nat.le_of_ble_eq_true rfl) ⟨Nat.zero_le _, Nat.zero_le _⟩ rfl dX9_ahead_59 (fun H locs hP hS => ?_)
          obtain ⟨u56, hzu56⟩ : ∃ z, z = f_X9_isSet σ u55 := ⟨_, rfl⟩
          have hf := bnd_at u56 hzu56 hf
          refine zz_callVi (rest := []) hx hb hml C hP hS (c_X9_isSet l hDA u55 hzu56.symm) zw_X9_172 ⟨Nat.le_trans (Nat.le_of_ble_eq_true rfl) hRf, Nat.le_trans (Nat.le_of_ble_eq_true rfl) hRl⟩ (by decide) lay_81 rfl rfl hl.1 (Nat.le_of_ble_eq_true rfl) ⟨Nat.zero_le _, Nat.zero_le _⟩ rfl dX9_ahead_62 (fun H locs hP hS => ?_)
          refine lv_if_ne (tgt := 72) hx hb dX9_ahead_65 (by decide) (fun hb56 => ?_) (fun hb56 => ?_)
          · have hf := ifF hb56 hf
            obtain ⟨v58, ev58⟩ : ∃ z : Int32, z = q51.2 + 1 := ⟨_, rfl⟩
            have hf := bnd_at v58 ev58 hf
            refine lv_iinc (v := v58) (lv' := [(5, .int v58), (0, .ref (a 81)), (1, .int p1), (2, .int p2), (3, .int p3), (4, .int q51.1)]) hx hb dX9_ahead_72 hl (k := 5) rfl (by rw [ev58]; rfl) (by decide) rfl (fun ls hl => ?_)
            refine lv_goto (tgt := 43) hx hb dX9_ahead_75 (by decide) ?_
            exact ihk52 _ hf _ _ _ (lv_sub hl [1, 2, 3, 4, 5, 0] rfl) hP hS
          · have hf := ifT hb56 hf
            refine lv_bipush (v := (-6)) hx hb dX9_ahead_68 (by decide) ?_
            refine lv_istore (lv' := [(4, .int (-6)), (0, .ref (a 81)), (1, .int p1), (2, .int p2), (3, .int p3), (5, .int q51.2)]) hx hb dX9_ahead_70 hl (by decide) rfl (fun ls hl => ?_)
            obtain ⟨v59, ev59⟩ : ∃ z : Int32, z = q51.2 + 1 := ⟨_, rfl⟩
            have hf := bnd_at v59 ev59 hf
            refine lv_iinc (v := v59) (lv' := [(5, .int v59), (4, .int (-6)), (0, .ref (a 81)), (1, .int p1), (2, .int p2), (3, .int p3)]) hx hb dX9_ahead_72 hl (k := 5) rfl (by rw [ev59]; rfl) (by decide) rfl (fun ls hl => ?_)
            refine lv_goto (tgt := 43) hx hb dX9_ahead_75 (by decide) ?_
            exact ihk52 _ hf _ _ _ (lv_sub hl [2, 3, 4, 5, 1, 0] rfl) hP hS
    refine lv_if_ne (tgt := 40) hx hb dX9_ahead_27 (by decide) (fun hb59 => ?_) (fun hb59 => ?_)
    · have hf := ifF hb59 hf
      exact hJ40 _ hf _ _ _ (lv_sub hl [0, 1, 2, 3, 4] rfl) hP hS
    · have hf := ifT hb59 hf
      refine lv_iload_n hx hb dX9_ahead_30 rfl (lv_at hl 2 rfl) ?_
      refine lv_bipush (v := 16) hx hb dX9_ahead_31 (by decide) ?_
      refine lv_icmp_le (tgt := 40) hx hb dX9_ahead_33 (by decide) (fun hb60 => ?_) (fun hb60 => ?_)
      · have hf := ifT hb60 hf
        exact hJ40 _ hf _ _ _ (lv_sub hl [0, 1, 2, 3, 4] rfl) hP hS
      · have hf := ifF hb60 hf
        refine lv_bipush (v := (-6)) hx hb dX9_ahead_36 (by decide) ?_
        refine lv_istore (lv' := [(4, .int (-6)), (0, .ref (a 81)), (1, .int p1), (2, .int p2), (3, .int p3)]) hx hb dX9_ahead_38 hl (by decide) rfl (fun ls hl => ?_)
        exact hJ40 _ hf _ _ _ (lv_sub hl [1, 2, 3, 4, 0] rfl) hP hS
  refine lv_if_ne (tgt := 25) hx hb dX9_ahead_10 (by decide) (fun hb61 => ?_) (fun hb61 => ?_)
  · have hf := ifF hb61 hf
    exact hJ25 _ hf _ _ _ (lv_sub hl [1, 2, 3, 4, 0] rfl) hP hS
  · have hf := ifT hb61 hf
    refine lv_aload_n hx hb dX9_ahead_13 rfl (lv_at hl 1 rfl) ?_
    refine lv_iload_n hx hb dX9_ahead_14 rfl (lv_at hl 4 rfl) ?_
    obtain ⟨u63, hzu63⟩ : ∃ z, z = f_X9_isOne p3 := ⟨_, rfl⟩
    have hf := bnd_at u63 hzu63 hf
    refine zz_callVi (rest := []) hx hb hml C hP hS (c_X9_isOne l hDA p3 hzu63.symm) zw_X9_175 ⟨Nat.le_trans (Nat.le_of_ble_eq_true rfl) hRf, Nat.le_trans (Nat.le_of_ble_eq_true rfl) hRl⟩ (by decide) lay_81 rfl rfl hl.1 (Nat.le_of_ble_eq_true rfl) ⟨Nat.zero_le _, Nat.zero_le _⟩ rfl dX9_ahead_15 (fun H locs hP hS => ?_)
    refine lv_if_ne (tgt := 25) hx hb dX9_ahead_18 (by decide) (fun hb63 => ?_) (fun hb63 => ?_)
    · have hf := ifF hb63 hf
      exact hJ25 _ hf _ _ _ (lv_sub hl [1, 2, 3, 4, 0] rfl) hP hS
    · have hf := ifT hb63 hf
      refine lv_bipush (v := (-5)) hx hb dX9_ahead_21 (by decide) ?_
      refine lv_istore (lv' := [(4, .int (-5)), (0, .ref (a 81)), (1, .int p1), (2, .int p2), (3, .int p3)]) hx hb dX9_ahead_23 hl (by decide) rfl (fun ls hl => ?_)
      exact hJ25 _ hf _ _ _ (lv_sub hl [1, 2, 3, 4, 0] rfl) hP hS
set_option maxHeartbeats 4000000 in
set_option maxRecDepth 100000 in
theorem c_X9_wrongIn (l : Launch) {D : va_G} {a : Nat → Nat} {cA : Nat → ClassId} {A : Nat → Prop} {sa : Nat → Nat} (hDA : DA a A) {σ : PH} {d : PD} (p1 : Int32) (p2 : Int32) {u : Int32 × PH} (hf : f_X9_wrongIn σ p1 p2 = some u) : CTi l yX9_wrongIn cX9_wrongIn 5 (some .int) 6 140 D a cA A sa [.ref (a 81), .int p1, .int p2] σ d u.1 u.2 d := by
  refine zz_metI zpl_X9 hDA (Nat.le_of_ble_eq_true rfl) ?_
  intro p e R s m args below meth c Q ls hx hb hml C hRf hRl hQ hP hS hl
  have hl : lv_has ls 5 [(0, .ref (a 81)), (1, .int p1), (2, .int p2)] := hl
  unfold f_X9_wrongIn at hf
  refine lv_aload_n hx hb dX9_wrongIn_0 rfl (lv_at hl 0 rfl) ?_
  refine lv_aload_n hx hb dX9_wrongIn_1 rfl (lv_at hl 0 rfl) ?_
  obtain ⟨u1, hzu1, hf⟩ := obd_some hf
  refine zz_callVi (rest := [.ref (a 81)]) hx hb hml C hP hS (c_X9_possible l hDA  hzu1) zw_X9_239 ⟨Nat.le_trans (Nat.le_of_ble_eq_true rfl) hRf, Nat.le_trans (Nat.le_of_ble_eq_true rfl) hRl⟩ (by decide) lay_81 rfl rfl hl.1 (Nat.le_of_ble_eq_true rfl) ⟨Nat.zero_le _, Nat.zero_le _⟩ rfl dX9_wrongIn_2 (fun H locs hP hS => ?_)
  refine zp_X9_286 hx hb C hP hS (by decide) lay_81 rfl dX9_wrongIn_5 (fun σ2 eσ2 H locs hP hS => ?_)
  have hf := bnd_at σ2 eσ2 hf
  refine lv_iconst (v := 0) hx hb dX9_wrongIn_8 (by decide) ?_
  refine lv_istore_n (lv' := [(3, .int 0), (0, .ref (a 81)), (1, .int p1), (2, .int p2)]) hx hb dX9_wrongIn_9 rfl hl (by decide) rfl (fun ls hl => ?_)
  refine loopN_ind (P := fun (q3 : Int32 × PH) => ∀ (H : Heap) (locs : List Loc) (ls : Array Slot), lv_has ls 5 [(0, .ref (a 81)), (1, .int p1), (2, .int p2), (3, .int q3.1)] → va_P D vwCl (wl a cA q3.2 d) H → va_S A s.heap H locs → W p l e R s m args below meth c H locs 0 0 Q (F0 m 10 ls [])) ?_ _ _ hf _ _ _ (lv_sub hl [1, 2, 3, 0] rfl) hP hS
  intro k4 ihk4 q3 hf H locs ls hl hP hS
  unfold b_X9_wrongIn_10 at hf
  refine lv_iload_n hx hb dX9_wrongIn_10 rfl (lv_at hl 3 rfl) ?_
  refine lv_iload_n hx hb dX9_wrongIn_11 rfl (lv_at hl 2 rfl) ?_
  refine lv_icmp_ge (tgt := 88) hx hb dX9_wrongIn_12 (by decide) (fun hb4 => ?_) (fun hb4 => ?_)
  · have hf := ifT hb4 hf
    refine lv_iconst (v := (-1)) hx hb dX9_wrongIn_88 (by decide) ?_
    have hf := Option.some.inj hf
    subst hf
    exact hQ _ _ _ _ dX9_wrongIn_89 hP hS
  · have hf := ifF hb4 hf
    refine lv_aload_n hx hb dX9_wrongIn_15 rfl (lv_at hl 0 rfl) ?_
    refine lv_iload_n hx hb dX9_wrongIn_16 rfl (lv_at hl 1 rfl) ?_
    refine lv_iload_n hx hb dX9_wrongIn_17 rfl (lv_at hl 3 rfl) ?_
    obtain ⟨u6, hzu6, hf⟩ := obd_some hf
    refine zz_callVi (rest := []) hx hb hml C hP hS (c_X9_intAt l hDA p1 q3.1 hzu6) zw_X9_283 ⟨Nat.le_trans (Nat.le_of_ble_eq_true rfl) hRf, Nat.le_trans (Nat.le_of_ble_eq_true rfl) hRl⟩ (by decide) lay_81 rfl rfl hl.1 (Nat.le_of_ble_eq_true rfl) ⟨Nat.zero_le _, Nat.zero_le _⟩ rfl dX9_wrongIn_18 (fun H locs hP hS => ?_)
    refine lv_istore (lv' := [(4, .int u6), (0, .ref (a 81)), (1, .int p1), (2, .int p2), (3, .int q3.1)]) hx hb dX9_wrongIn_21 hl (by decide) rfl (fun ls hl => ?_)
    refine lv_iload_n hx hb dX9_wrongIn_23 rfl (lv_at hl 4 rfl) ?_
    refine lv_iconst (v := 2) hx hb dX9_wrongIn_24 (by decide) ?_
    refine lv_irem hx hb dX9_wrongIn_25 (by decide) ?_
    refine lv_if_ne (tgt := 40) hx hb dX9_wrongIn_26 (by decide) (fun hb6 => ?_) (fun hb6 => ?_)
    · have hf := ifF hb6 hf
      refine lv_aload_n hx hb dX9_wrongIn_40 rfl (lv_at hl 1 rfl) ?_
      refine lv_iload hx hb dX9_wrongIn_41 (lv_at hl 0 rfl) ?_
      obtain ⟨u8, hzu8⟩ : ∃ z, z = f_X9_isOne u6 := ⟨_, rfl⟩
      have hf := bnd_at u8 hzu8 hf
      refine zz_callVi (rest := []) hx hb hml C hP hS (c_X9_isOne l hDA u6 hzu8.symm) zw_X9_175 ⟨Nat.le_trans (Nat.le_of_ble_eq_true rfl) hRf, Nat.le_trans (Nat.le_of_ble_eq_true rfl) hRl⟩ (by decide) lay_81 rfl rfl hl.1 (Nat.le_of_ble_eq_true rfl) ⟨Nat.zero_le _, Nat.zero_le _⟩ rfl dX9_wrongIn_43 (fun H locs hP hS => ?_)
      refine lv_if_ne (tgt := 51) hx hb dX9_wrongIn_46 (by decide) (fun hb8 => ?_) (fun hb8 => ?_)
      · have hf := ifF hb8 hf
        refine lv_aload_n hx hb dX9_wrongIn_51 rfl (lv_at hl 1 rfl) ?_
        refine lv_aload_n hx hb dX9_wrongIn_52 rfl (lv_at hl 1 rfl) ?_
        refine lv_aload_n hx hb dX9_wrongIn_53 rfl (lv_at hl 1 rfl) ?_
        refine zg_X9_286 hx hb C hP (by decide) lay_81 rfl dX9_wrongIn_54 ?_
        refine lv_aload_n hx hb dX9_wrongIn_57 rfl (lv_at hl 1 rfl) ?_
        refine lv_iload_n hx hb dX9_wrongIn_58 rfl (lv_at hl 2 rfl) ?_
        refine lv_iload_n hx hb dX9_wrongIn_59 rfl (lv_at hl 4 rfl) ?_
        refine lv_iconst (v := 1) hx hb dX9_wrongIn_60 (by decide) ?_
        refine lv_isub hx hb dX9_wrongIn_61 ?_
        obtain ⟨u10, hzu10, hf⟩ := obd_some hf
        refine zz_callVi (rest := [.int (gI q3.2 81 41), .ref (a 81), .ref (a 81)]) hx hb hml C hP hS (c_X9_intAt l hDA p1 (q3.1 - 1) hzu10) zw_X9_283 ⟨Nat.le_trans (Nat.le_of_ble_eq_true rfl) hRf, Nat.le_trans (Nat.le_of_ble_eq_true rfl) hRl⟩ (by decide) lay_81 rfl rfl hl.1 (Nat.le_of_ble_eq_true rfl) ⟨Nat.zero_le _, Nat.zero_le _⟩ rfl dX9_wrongIn_62 (fun H locs hP hS => ?_)
        refine lv_iload hx hb dX9_wrongIn_65 (lv_at hl 0 rfl) ?_
        obtain ⟨u11, hzu11, hf⟩ := obd_some hf
        refine zz_callVi (rest := [.ref (a 81)]) hx hb hml C hP hS (c_X9_stays l hDA (gI q3.2 81 41) u10 u6 hzu11) zw_X9_236 ⟨Nat.le_trans (Nat.le_of_ble_eq_true rfl) hRf, Nat.le_trans (Nat.le_of_ble_eq_true rfl) hRl⟩ (by decide) lay_81 rfl rfl hl.1 (Nat.le_of_ble_eq_true rfl) ⟨Nat.zero_le _, Nat.zero_le _⟩ rfl dX9_wrongIn_67 (fun H locs hP hS => ?_)
        refine zp_X9_286 hx hb C hP hS (by decide) lay_81 rfl dX9_wrongIn_70 (fun σ12 eσ12 H locs hP hS => ?_)
        have hf := bnd_at σ12 eσ12 hf
        refine lv_aload_n hx hb dX9_wrongIn_73 rfl (lv_at hl 1 rfl) ?_
        refine zg_X9_286 hx hb C hP (by decide) lay_81 rfl dX9_wrongIn_74 ?_
        refine lv_if_ne (tgt := 82) hx hb dX9_wrongIn_77 (by decide) (fun hb12 => ?_) (fun hb12 => ?_)
        · have hf := ifF hb12 hf
          obtain ⟨v14, ev14⟩ : ∃ z : Int32, z = q3.1 + 1 := ⟨_, rfl⟩
          have hf := bnd_at v14 ev14 hf
          refine lv_iinc (v := v14) (lv' := [(3, .int v14), (4, .int u6), (0, .ref (a 81)), (1, .int p1), (2, .int p2)]) hx hb dX9_wrongIn_82 hl (k := 4) rfl (by rw [ev14]; rfl) (by decide) rfl (fun ls hl => ?_)
          refine lv_goto (tgt := 10) hx hb dX9_wrongIn_85 (by decide) ?_
          exact ihk4 _ hf _ _ _ (lv_sub hl [2, 3, 4, 0] rfl) hP hS
        · have hf := ifT hb12 hf
          refine lv_iload_n hx hb dX9_wrongIn_80 rfl (lv_at hl 4 rfl) ?_
          have hf := Option.some.inj hf
          subst hf
          exact hQ _ _ _ _ dX9_wrongIn_81 hP hS
      · have hf := ifT hb8 hf
        refine lv_iload_n hx hb dX9_wrongIn_49 rfl (lv_at hl 4 rfl) ?_
        have hf := Option.some.inj hf
        subst hf
        exact hQ _ _ _ _ dX9_wrongIn_50 hP hS
    · have hf := ifT hb6 hf
      refine lv_aload_n hx hb dX9_wrongIn_29 rfl (lv_at hl 1 rfl) ?_
      refine lv_iload hx hb dX9_wrongIn_30 (lv_at hl 0 rfl) ?_
      obtain ⟨u15, hzu15, hf⟩ := obd_some hf
      refine zz_callVi (rest := []) hx hb hml C hP hS (c_X9_isLawful l hDA u6 hzu15) zw_X9_248 ⟨Nat.le_trans (Nat.le_of_ble_eq_true rfl) hRf, Nat.le_trans (Nat.le_of_ble_eq_true rfl) hRl⟩ (by decide) lay_81 rfl rfl hl.1 (Nat.le_of_ble_eq_true rfl) ⟨Nat.zero_le _, Nat.zero_le _⟩ rfl dX9_wrongIn_32 (fun H locs hP hS => ?_)
      refine lv_if_ne (tgt := 82) hx hb dX9_wrongIn_35 (by decide) (fun hb15 => ?_) (fun hb15 => ?_)
      · have hf := ifF hb15 hf
        obtain ⟨v17, ev17⟩ : ∃ z : Int32, z = q3.1 + 1 := ⟨_, rfl⟩
        have hf := bnd_at v17 ev17 hf
        refine lv_iinc (v := v17) (lv' := [(3, .int v17), (4, .int u6), (0, .ref (a 81)), (1, .int p1), (2, .int p2)]) hx hb dX9_wrongIn_82 hl (k := 4) rfl (by rw [ev17]; rfl) (by decide) rfl (fun ls hl => ?_)
        refine lv_goto (tgt := 10) hx hb dX9_wrongIn_85 (by decide) ?_
        exact ihk4 _ hf _ _ _ (lv_sub hl [2, 3, 4, 0] rfl) hP hS
      · have hf := ifT hb15 hf
        refine lv_iload_n hx hb dX9_wrongIn_38 rfl (lv_at hl 4 rfl) ?_
        have hf := Option.some.inj hf
        subst hf
        exact hQ _ _ _ _ dX9_wrongIn_39 hP hS
set_option maxHeartbeats 4000000 in
set_option maxRecDepth 100000 in
theorem c_X9_barsOf (l : Launch) {D : va_G} {a : Nat → Nat} {cA : Nat → ClassId} {A : Nat → Prop} {sa : Nat → Nat} (hDA : DA a A) {σ : PH} {d : PD} (p1 : Int32) (p2 : Int32) {u : Int32} (hf : f_X9_barsOf σ p1 p2 = some u) : CTi l yX9_barsOf cX9_barsOf 4 (some .int) 3 65 D a cA A sa [.ref (a 81), .int p1, .int p2] σ d u σ d := by
  refine zz_metI zpl_X9 hDA (Nat.le_of_ble_eq_true rfl) ?_
  intro p e R s m args below meth c Q ls hx hb hml C hRf hRl hQ hP hS hl
  have hl : lv_has ls 4 [(0, .ref (a 81)), (1, .int p1), (2, .int p2)] := hl
  unfold f_X9_barsOf at hf
  refine lv_aload_n hx hb dX9_barsOf_0 rfl (lv_at hl 0 rfl) ?_
  refine lv_iload_n hx hb dX9_barsOf_1 rfl (lv_at hl 1 rfl) ?_
  refine lv_iload_n hx hb dX9_barsOf_2 rfl (lv_at hl 2 rfl) ?_
  obtain ⟨u1, hzu1, hf⟩ := obd_some hf
  refine zz_callVi (rest := []) hx hb hml C hP hS (c_X9_bars l hDA p1 p2 hzu1) zw_X9_280 ⟨Nat.le_trans (Nat.le_of_ble_eq_true rfl) hRf, Nat.le_trans (Nat.le_of_ble_eq_true rfl) hRl⟩ (by decide) lay_81 rfl rfl hl.1 (Nat.le_of_ble_eq_true rfl) ⟨Nat.zero_le _, Nat.zero_le _⟩ rfl dX9_barsOf_3 (fun H locs hP hS => ?_)
  refine lv_istore_n (lv' := [(3, .int u1), (0, .ref (a 81)), (1, .int p1), (2, .int p2)]) hx hb dX9_barsOf_6 rfl hl (by decide) rfl (fun ls hl => ?_)
  refine lv_iload_n hx hb dX9_barsOf_7 rfl (lv_at hl 0 rfl) ?_
  refine lv_if_ne (tgt := 22) hx hb dX9_barsOf_8 (by decide) (fun hb1 => ?_) (fun hb1 => ?_)
  · have hf := ifF hb1 hf
    refine lv_iload_n hx hb dX9_barsOf_22 rfl (lv_at hl 0 rfl) ?_
    have hf := Option.some.inj hf
    subst hf
    exact hQ _ _ _ _ dX9_barsOf_23 hP hS
  · have hf := ifT hb1 hf
    refine lv_iload_n hx hb dX9_barsOf_11 rfl (lv_at hl 3 rfl) ?_
    refine lv_bipush (v := 32) hx hb dX9_barsOf_12 (by decide) ?_
    refine lv_icmp_le (tgt := 22) hx hb dX9_barsOf_14 (by decide) (fun hb2 => ?_) (fun hb2 => ?_)
    · have hf := ifT hb2 hf
      refine lv_iload_n hx hb dX9_barsOf_22 rfl (lv_at hl 0 rfl) ?_
      have hf := Option.some.inj hf
      subst hf
      exact hQ _ _ _ _ dX9_barsOf_23 hP hS
    · have hf := ifF hb2 hf
      refine lv_bipush (v := (-6)) hx hb dX9_barsOf_17 (by decide) ?_
      refine lv_goto (tgt := 23) hx hb dX9_barsOf_19 (by decide) ?_
      have hf := Option.some.inj hf
      subst hf
      exact hQ _ _ _ _ dX9_barsOf_23 hP hS
set_option maxHeartbeats 4000000 in
set_option maxRecDepth 100000 in
theorem c_X9_judge (l : Launch) {D : va_G} {a : Nat → Nat} {cA : Nat → ClassId} {A : Nat → Prop} {sa : Nat → Nat} (hDA : DA a A) {σ : PH} {d : PD} (p1 : Int32) (p2 : Int32) {u : Int32 × PH} (hf : f_X9_judge σ p1 p2 = some u) : CTi l yX9_judge cX9_judge 4 (some .int) 7 164 D a cA A sa [.ref (a 81), .int p1, .int p2] σ d u.1 u.2 d := by
  refine zz_metI zpl_X9 hDA (Nat.le_of_ble_eq_true rfl) ?_
  intro p e R s m args below meth c Q ls hx hb hml C hRf hRl hQ hP hS hl
  have hl : lv_has ls 4 [(0, .ref (a 81)), (1, .int p1), (2, .int p2)] := hl
  unfold f_X9_judge at hf
  refine lv_aload_n hx hb dX9_judge_0 rfl (lv_at hl 0 rfl) ?_
  refine lv_iload_n hx hb dX9_judge_1 rfl (lv_at hl 1 rfl) ?_
  refine lv_iload_n hx hb dX9_judge_2 rfl (lv_at hl 2 rfl) ?_
  obtain ⟨u1, hzu1, hf⟩ := obd_some hf
  refine zz_callVi (rest := []) hx hb hml C hP hS (c_X9_barsOf l hDA p1 p2 hzu1) zw_X9_289 ⟨Nat.le_trans (Nat.le_of_ble_eq_true rfl) hRf, Nat.le_trans (Nat.le_of_ble_eq_true rfl) hRl⟩ (by decide) lay_81 rfl rfl hl.1 (Nat.le_of_ble_eq_true rfl) ⟨Nat.zero_le _, Nat.zero_le _⟩ rfl dX9_judge_3 (fun H locs hP hS => ?_)
  refine lv_istore_n (lv' := [(3, .int u1), (0, .ref (a 81)), (1, .int p1), (2, .int p2)]) hx hb dX9_judge_6 rfl hl (by decide) rfl (fun ls hl => ?_)
  refine lv_iload_n hx hb dX9_judge_7 rfl (lv_at hl 0 rfl) ?_
  refine lv_if_eq (tgt := 19) hx hb dX9_judge_8 (by decide) (fun hb1 => ?_) (fun hb1 => ?_)
  · have hf := ifT hb1 hf
    refine lv_aload_n hx hb dX9_judge_19 rfl (lv_at hl 1 rfl) ?_
    refine lv_iload_n hx hb dX9_judge_20 rfl (lv_at hl 2 rfl) ?_
    refine lv_iload_n hx hb dX9_judge_21 rfl (lv_at hl 3 rfl) ?_
    obtain ⟨u3, hzu3, hf⟩ := obd_some hf
    refine zz_callVi (rest := []) hx hb hml C hP hS (c_X9_wrongIn l hDA p1 p2 hzu3) zw_X9_295 ⟨Nat.le_trans (Nat.le_of_ble_eq_true rfl) hRf, Nat.le_trans (Nat.le_of_ble_eq_true rfl) hRl⟩ (by decide) lay_81 rfl rfl hl.1 (Nat.le_of_ble_eq_true rfl) ⟨Nat.zero_le _, Nat.zero_le _⟩ rfl dX9_judge_22 (fun H locs hP hS => ?_)
    have hf := Option.some.inj hf
    subst hf
    exact hQ _ _ _ _ dX9_judge_25 hP hS
  · have hf := ifF hb1 hf
    refine lv_aload_n hx hb dX9_judge_11 rfl (lv_at hl 1 rfl) ?_
    refine lv_iload_n hx hb dX9_judge_12 rfl (lv_at hl 0 rfl) ?_
    obtain ⟨u4, hzu4, hf⟩ := obd_some hf
    refine zz_callVi (rest := []) hx hb hml C hP hS (c_X9_noTen l hDA u1 hzu4) zw_X9_292 ⟨Nat.le_trans (Nat.le_of_ble_eq_true rfl) hRf, Nat.le_trans (Nat.le_of_ble_eq_true rfl) hRl⟩ (by decide) lay_81 rfl rfl hl.1 (Nat.le_of_ble_eq_true rfl) ⟨Nat.zero_le _, Nat.zero_le _⟩ rfl dX9_judge_13 (fun H locs hP hS => ?_)
    refine lv_goto (tgt := 25) hx hb dX9_judge_16 (by decide) ?_
    have hf := Option.some.inj hf
    subst hf
    exact hQ _ _ _ _ dX9_judge_25 hP hS
set_option maxHeartbeats 4000000 in
set_option maxRecDepth 100000 in
theorem c_X9_behind (l : Launch) {D : va_G} {a : Nat → Nat} {cA : Nat → ClassId} {A : Nat → Prop} {sa : Nat → Nat} (hDA : DA a A) {σ : PH} {d : PD} (p1 : Int32) (p2 : Int32) {u : Int32 × PH} (hf : f_X9_behind σ p1 p2 = some u) : CTi l yX9_behind cX9_behind 4 (some .int) 7 164 D a cA A sa [.ref (a 81), .int p1, .int p2] σ d u.1 u.2 d := by
  refine zz_metI zpl_X9 hDA (Nat.le_of_ble_eq_true rfl) ?_
  intro p e R s m args below meth c Q ls hx hb hml C hRf hRl hQ hP hS hl
  have hl : lv_has ls 4 [(0, .ref (a 81)), (1, .int p1), (2, .int p2)] := hl
  unfold f_X9_behind at hf
  refine lv_aload_n hx hb dX9_behind_0 rfl (lv_at hl 0 rfl) ?_
  refine lv_iload_n hx hb dX9_behind_1 rfl (lv_at hl 1 rfl) ?_
  refine lv_iload_n hx hb dX9_behind_2 rfl (lv_at hl 2 rfl) ?_
  obtain ⟨u1, hzu1, hf⟩ := obd_some hf
  refine zz_callVi (rest := []) hx hb hml C hP hS (c_X9_barsOf l hDA p1 p2 hzu1) zw_X9_289 ⟨Nat.le_trans (Nat.le_of_ble_eq_true rfl) hRf, Nat.le_trans (Nat.le_of_ble_eq_true rfl) hRl⟩ (by decide) lay_81 rfl rfl hl.1 (Nat.le_of_ble_eq_true rfl) ⟨Nat.zero_le _, Nat.zero_le _⟩ rfl dX9_behind_3 (fun H locs hP hS => ?_)
  refine lv_istore_n (lv' := [(3, .int u1), (0, .ref (a 81)), (1, .int p1), (2, .int p2)]) hx hb dX9_behind_6 rfl hl (by decide) rfl (fun ls hl => ?_)
  refine lv_iload_n hx hb dX9_behind_7 rfl (lv_at hl 0 rfl) ?_
  have hJ31 : ∀ (v2 : Int32) (σ3 : PH), j_X9_behind_31 v2 σ3 = some u → ∀ (H : Heap) (locs : List Loc) (ls : Array Slot), lv_has ls 4 [(0, .ref (a 81)), (3, .int v2)] → va_P D vwCl (wl a cA σ3 d) H → va_S A s.heap H locs → W p l e R s m args below meth c H locs 0 0 Q (F0 m 31 ls []) := by
    intro v2 σ3 hf H locs ls hl hP hS
    unfold j_X9_behind_31 at hf
    refine lv_iload_n hx hb dX9_behind_31 rfl (lv_at hl 1 rfl) ?_
    refine lv_if_eq (tgt := 43) hx hb dX9_behind_32 (by decide) (fun hb3 => ?_) (fun hb3 => ?_)
    · have hf := ifT hb3 hf
      refine lv_aload_n hx hb dX9_behind_43 rfl (lv_at hl 0 rfl) ?_
      refine zg_X9_286 hx hb C hP (by decide) lay_81 rfl dX9_behind_44 ?_
      have hf := Option.some.inj hf
      subst hf
      exact hQ _ _ _ _ dX9_behind_47 hP hS
    · have hf := ifF hb3 hf
      refine lv_aload_n hx hb dX9_behind_35 rfl (lv_at hl 0 rfl) ?_
      refine lv_iload_n hx hb dX9_behind_36 rfl (lv_at hl 1 rfl) ?_
      obtain ⟨u5, hzu5, hf⟩ := obd_some hf
      refine zz_callVi (rest := []) hx hb hml C hP hS (c_X9_no l hDA v2 hzu5) zw_X9_107 ⟨Nat.le_trans (Nat.le_of_ble_eq_true rfl) hRf, Nat.le_trans (Nat.le_of_ble_eq_true rfl) hRl⟩ (by decide) lay_81 rfl rfl hl.1 (Nat.le_of_ble_eq_true rfl) ⟨Nat.zero_le _, Nat.zero_le _⟩ rfl dX9_behind_37 (fun H locs hP hS => ?_)
      refine lv_goto (tgt := 47) hx hb dX9_behind_40 (by decide) ?_
      have hf := Option.some.inj hf
      subst hf
      exact hQ _ _ _ _ dX9_behind_47 hP hS
  refine lv_if_ne (tgt := 31) hx hb dX9_behind_8 (by decide) (fun hb5 => ?_) (fun hb5 => ?_)
  · have hf := ifF hb5 hf
    exact hJ31 _ _ hf _ _ _ (lv_sub hl [1, 0] rfl) hP hS
  · have hf := ifT hb5 hf
    refine lv_iload_n hx hb dX9_behind_11 rfl (lv_at hl 3 rfl) ?_
    refine lv_iconst (v := 2) hx hb dX9_behind_12 (by decide) ?_
    refine lv_irem hx hb dX9_behind_13 (by decide) ?_
    refine lv_iconst (v := 1) hx hb dX9_behind_14 (by decide) ?_
    have hJ28 : ∀ (σ7 : PH), j_X9_behind_28 σ7 = some u → ∀ (H : Heap) (locs : List Loc) (ls : Array Slot), lv_has ls 4 [(0, .ref (a 81))] → va_P D vwCl (wl a cA σ7 d) H → va_S A s.heap H locs → W p l e R s m args below meth c H locs 0 0 Q (F0 m 28 ls []) := by
      intro σ7 hf H locs ls hl hP hS
      unfold j_X9_behind_28 at hf
      refine lv_bipush (v := (-6)) hx hb dX9_behind_28 (by decide) ?_
      refine lv_istore_n (lv' := [(3, .int (-6)), (0, .ref (a 81))]) hx hb dX9_behind_30 rfl hl (by decide) rfl (fun ls hl => ?_)
      exact hJ31 _ _ hf _ _ _ (lv_sub hl [1, 0] rfl) hP hS
    refine lv_icmp_eq (tgt := 28) hx hb dX9_behind_15 (by decide) (fun hb7 => ?_) (fun hb7 => ?_)
    · have hf := ifT hb7 hf
      exact hJ28 _ hf _ _ _ (lv_sub hl [1] rfl) hP hS
    · have hf := ifF hb7 hf
      refine lv_aload_n hx hb dX9_behind_18 rfl (lv_at hl 1 rfl) ?_
      refine lv_iload_n hx hb dX9_behind_19 rfl (lv_at hl 2 rfl) ?_
      refine lv_iload_n hx hb dX9_behind_20 rfl (lv_at hl 3 rfl) ?_
      obtain ⟨u9, hzu9, hf⟩ := obd_some hf
      refine zz_callVi (rest := []) hx hb hml C hP hS (c_X9_wrongIn l hDA p1 p2 hzu9) zw_X9_295 ⟨Nat.le_trans (Nat.le_of_ble_eq_true rfl) hRf, Nat.le_trans (Nat.le_of_ble_eq_true rfl) hRl⟩ (by decide) lay_81 rfl rfl hl.1 (Nat.le_of_ble_eq_true rfl) ⟨Nat.zero_le _, Nat.zero_le _⟩ rfl dX9_behind_21 (fun H locs hP hS => ?_)
      refine lv_iconst (v := (-1)) hx hb dX9_behind_24 (by decide) ?_
      refine lv_icmp_eq (tgt := 31) hx hb dX9_behind_25 (by decide) (fun hb9 => ?_) (fun hb9 => ?_)
      · have hf := ifT hb9 hf
        exact hJ31 _ _ hf _ _ _ (lv_sub hl [1, 0] rfl) hP hS
      · have hf := ifF hb9 hf
        exact hJ28 _ hf _ _ _ (lv_sub hl [1] rfl) hP hS
set_option maxHeartbeats 4000000 in
set_option maxRecDepth 100000 in
theorem c_X9_byEar (l : Launch) {D : va_G} {a : Nat → Nat} {cA : Nat → ClassId} {A : Nat → Prop} {sa : Nat → Nat} (hDA : DA a A) {σ : PH} {d : PD} (p1 : Int32) (p2 : Int32) {u : Int32 × PH} (hf : f_X9_byEar σ p1 p2 = some u) : CTi l yX9_byEar cX9_byEar 11 (some .int) 4 93 D a cA A sa [.ref (a 81), .int p1, .int p2] σ d u.1 u.2 d := by
  refine zz_metI zpl_X9 hDA (Nat.le_of_ble_eq_true rfl) ?_
  intro p e R s m args below meth c Q ls hx hb hml C hRf hRl hQ hP hS hl
  have hl : lv_has ls 11 [(0, .ref (a 81)), (1, .int p1), (2, .int p2)] := hl
  unfold f_X9_byEar at hf
  refine lv_aload_n hx hb dX9_byEar_0 rfl (lv_at hl 0 rfl) ?_
  refine lv_iload_n hx hb dX9_byEar_1 rfl (lv_at hl 1 rfl) ?_
  refine lv_iload_n hx hb dX9_byEar_2 rfl (lv_at hl 2 rfl) ?_
  obtain ⟨u1, hzu1, hf⟩ := obd_some hf
  refine zz_callVi (rest := []) hx hb hml C hP hS (c_X9_bars l hDA p1 p2 hzu1) zw_X9_280 ⟨Nat.le_trans (Nat.le_of_ble_eq_true rfl) hRf, Nat.le_trans (Nat.le_of_ble_eq_true rfl) hRl⟩ (by decide) lay_81 rfl rfl hl.1 (Nat.le_of_ble_eq_true rfl) ⟨Nat.zero_le _, Nat.zero_le _⟩ rfl dX9_byEar_3 (fun H locs hP hS => ?_)
  refine lv_istore_n (lv' := [(3, .int u1), (0, .ref (a 81)), (1, .int p1), (2, .int p2)]) hx hb dX9_byEar_6 rfl hl (by decide) rfl (fun ls hl => ?_)
  refine lv_iload_n hx hb dX9_byEar_7 rfl (lv_at hl 0 rfl) ?_
  have hJ21 : ∀ (v2 : Int32), j_X9_byEar_21 σ p1 p2 v2 = some u → ∀ (H : Heap) (locs : List Loc) (ls : Array Slot), lv_has ls 11 [(0, .ref (a 81)), (1, .int p1), (2, .int p2), (3, .int v2)] → va_P D vwCl (wl a cA σ d) H → va_S A s.heap H locs → W p l e R s m args below meth c H locs 0 0 Q (F0 m 21 ls []) := by
    intro v2 hf H locs ls hl hP hS
    unfold j_X9_byEar_21 at hf
    refine lv_iload_n hx hb dX9_byEar_21 rfl (lv_at hl 3 rfl) ?_
    have hJ41 : ∀ (v3 : Int32), j_X9_byEar_41 σ p1 p2 v3 = some u → ∀ (H : Heap) (locs : List Loc) (ls : Array Slot), lv_has ls 11 [(0, .ref (a 81)), (1, .int p1), (2, .int p2), (3, .int v3)] → va_P D vwCl (wl a cA σ d) H → va_S A s.heap H locs → W p l e R s m args below meth c H locs 0 0 Q (F0 m 41 ls []) := by
      intro v3 hf H locs ls hl hP hS
      unfold j_X9_byEar_41 at hf
      refine lv_iconst (v := 0) hx hb dX9_byEar_41 (by decide) ?_
      refine lv_istore (lv' := [(4, .int 0), (0, .ref (a 81)), (1, .int p1), (2, .int p2), (3, .int v3)]) hx hb dX9_byEar_42 hl (by decide) rfl (fun ls hl => ?_)
      have hJ101 : ∀ (v4 : Int32), j_X9_byEar_101 σ p1 p2 v4 = some u → ∀ (H : Heap) (locs : List Loc) (ls : Array Slot), lv_has ls 11 [(0, .ref (a 81)), (1, .int p1), (2, .int p2), (3, .int v4)] → va_P D vwCl (wl a cA σ d) H → va_S A s.heap H locs → W p l e R s m args below meth c H locs 0 0 Q (F0 m 101 ls []) := by
        intro v4 hf H locs ls hl hP hS
        unfold j_X9_byEar_101 at hf
        refine lv_iload_n hx hb dX9_byEar_101 rfl (lv_at hl 3 rfl) ?_
        refine lv_if_eq (tgt := 111) hx hb dX9_byEar_102 (by decide) (fun hb4 => ?_) (fun hb4 => ?_)
        · have hf := ifT hb4 hf
          refine lv_aload_n hx hb dX9_byEar_111 rfl (lv_at hl 0 rfl) ?_
          obtain ⟨u6, hzu6, hf⟩ := obd_some hf
          refine zz_callVi (rest := []) hx hb hml C hP hS (c_X9_lists l hDA  hzu6) zw_X9_233 ⟨Nat.le_trans (Nat.le_of_ble_eq_true rfl) hRf, Nat.le_trans (Nat.le_of_ble_eq_true rfl) hRl⟩ (by decide) lay_81 rfl rfl hl.1 (Nat.le_of_ble_eq_true rfl) ⟨Nat.zero_le _, Nat.zero_le _⟩ rfl dX9_byEar_112 (fun H locs hP hS => ?_)
          refine lv_istore (lv' := [(4, .int u6.1), (0, .ref (a 81)), (1, .int p1), (2, .int p2), (3, .int v4)]) hx hb dX9_byEar_115 hl (by decide) rfl (fun ls hl => ?_)
          refine lv_iconst (v := 0) hx hb dX9_byEar_117 (by decide) ?_
          refine lv_istore (lv' := [(5, .int 0), (4, .int u6.1), (0, .ref (a 81)), (1, .int p1), (2, .int p2), (3, .int v4)]) hx hb dX9_byEar_118 hl (by decide) rfl (fun ls hl => ?_)
          refine lv_iconst (v := (-1)) hx hb dX9_byEar_120 (by decide) ?_
          refine lv_istore (lv' := [(6, .int (-1)), (5, .int 0), (4, .int u6.1), (0, .ref (a 81)), (1, .int p1), (2, .int p2), (3, .int v4)]) hx hb dX9_byEar_121 hl (by decide) rfl (fun ls hl => ?_)
          refine lv_iconst (v := 0) hx hb dX9_byEar_123 (by decide) ?_
          refine lv_istore (lv' := [(7, .int 0), (6, .int (-1)), (5, .int 0), (4, .int u6.1), (0, .ref (a 81)), (1, .int p1), (2, .int p2), (3, .int v4)]) hx hb dX9_byEar_124 hl (by decide) rfl (fun ls hl => ?_)
          refine loopN_ind (P := fun (q7 : Int32 × Int32 × Int32) => ∀ (H : Heap) (locs : List Loc) (ls : Array Slot), lv_has ls 11 [(0, .ref (a 81)), (1, .int p1), (2, .int p2), (4, .int u6.1), (5, .int q7.1), (6, .int q7.2.1), (7, .int q7.2.2)] → va_P D vwCl (wl a cA u6.2 d) H → va_S A s.heap H locs → W p l e R s m args below meth c H locs 0 0 Q (F0 m 126 ls [])) ?_ _ _ hf _ _ _ (lv_sub hl [4, 5, 6, 3, 2, 1, 0] rfl) hP hS
          intro k8 ihk8 q7 hf H locs ls hl hP hS
          unfold b_X9_byEar_126 at hf
          refine lv_iload hx hb dX9_byEar_126 (lv_at hl 6 rfl) ?_
          refine lv_iload hx hb dX9_byEar_128 (lv_at hl 3 rfl) ?_
          refine lv_icmp_ge (tgt := 262) hx hb dX9_byEar_130 (by decide) (fun hb8 => ?_) (fun hb8 => ?_)
          · have hf := ifT hb8 hf
            refine lv_iload hx hb dX9_byEar_262 (lv_at hl 4 rfl) ?_
            have hf := Option.some.inj hf
            subst hf
            exact hQ _ _ _ _ dX9_byEar_264 hP hS
          · have hf := ifF hb8 hf
            refine lv_sipush (v := 10000) hx hb dX9_byEar_133 (by decide) ?_
            refine lv_aload_n hx hb dX9_byEar_136 rfl (lv_at hl 0 rfl) ?_
            refine lv_aload_n hx hb dX9_byEar_137 rfl (lv_at hl 0 rfl) ?_
            refine zg_X9_78 hx hb C hP (by decide) lay_81 rfl dX9_byEar_138 ?_
            refine lv_iload hx hb dX9_byEar_141 (lv_at hl 6 rfl) ?_
            obtain ⟨hc9, hf⟩ := chk_some hf
            refine zz_iald hx hb C hP (by decide) lay_100 (inb_vp hc9) dX9_byEar_143 ?_
            obtain ⟨u11, hzu11, hf⟩ := obd_some hf
            refine zz_callVi (rest := [.int 10000]) hx hb hml C hP hS (c_X9_weight l hDA (gI u6.2 100 q7.2.2.toNatClampNeg) hzu11) zw_X9_245 ⟨Nat.le_trans (Nat.le_of_ble_eq_true rfl) hRf, Nat.le_trans (Nat.le_of_ble_eq_true rfl) hRl⟩ (by decide) lay_81 rfl rfl hl.1 (Nat.le_of_ble_eq_true rfl) ⟨Nat.zero_le _, Nat.zero_le _⟩ rfl dX9_byEar_144 (fun H locs hP hS => ?_)
            refine lv_imul hx hb dX9_byEar_147 ?_
            refine lv_topi (fun v12 ev12 => ?_)
            have hf := bnd_at v12 ev12 hf
            refine lv_istore (lv' := [(8, .int v12), (0, .ref (a 81)), (1, .int p1), (2, .int p2), (4, .int u6.1), (5, .int q7.1), (6, .int q7.2.1), (7, .int q7.2.2)]) hx hb dX9_byEar_148 hl (by decide) rfl (fun ls hl => ?_)
            refine lv_iconst (v := 0) hx hb dX9_byEar_150 (by decide) ?_
            refine lv_istore (lv' := [(9, .int 0), (8, .int v12), (0, .ref (a 81)), (1, .int p1), (2, .int p2), (4, .int u6.1), (5, .int q7.1), (6, .int q7.2.1), (7, .int q7.2.2)]) hx hb dX9_byEar_151 hl (by decide) rfl (fun ls hl => ?_)
            have hJ233 : ∀ (v13 : Int32), j_X9_byEar_233 u6 q7 k8 v13 = some u → ∀ (H : Heap) (locs : List Loc) (ls : Array Slot), lv_has ls 11 [(0, .ref (a 81)), (1, .int p1), (2, .int p2), (4, .int u6.1), (5, .int q7.1), (6, .int q7.2.1), (7, .int q7.2.2), (8, .int v13)] → va_P D vwCl (wl a cA u6.2 d) H → va_S A s.heap H locs → W p l e R s m args below meth c H locs 0 0 Q (F0 m 233 ls []) := by
              intro v13 hf H locs ls hl hP hS
              unfold j_X9_byEar_233 at hf
              refine lv_iload hx hb dX9_byEar_233 (lv_at hl 7 rfl) ?_
              refine lv_iload hx hb dX9_byEar_235 (lv_at hl 5 rfl) ?_
              refine lv_icmp_gt (tgt := 243) hx hb dX9_byEar_237 (by decide) (fun hb13 => ?_) (fun hb13 => ?_)
              · have hf := ifT hb13 hf
                refine lv_aload_n hx hb dX9_byEar_243 rfl (lv_at hl 0 rfl) ?_
                refine zg_X9_78 hx hb C hP (by decide) lay_81 rfl dX9_byEar_244 ?_
                refine lv_iload hx hb dX9_byEar_247 (lv_at hl 6 rfl) ?_
                obtain ⟨hc14, hf⟩ := chk_some hf
                refine zz_iald hx hb C hP (by decide) lay_100 (inb_vp hc14) dX9_byEar_249 ?_
                refine lv_topi (fun v16 ev16 => ?_)
                have hf := bnd_at v16 ev16 hf
                refine lv_istore (lv' := [(5, .int v16), (0, .ref (a 81)), (1, .int p1), (2, .int p2), (4, .int u6.1), (6, .int q7.2.1), (7, .int q7.2.2), (8, .int v13)]) hx hb dX9_byEar_250 hl (by decide) rfl (fun ls hl => ?_)
                refine lv_iload hx hb dX9_byEar_252 (lv_at hl 7 rfl) ?_
                refine lv_istore (lv' := [(6, .int v13), (5, .int v16), (0, .ref (a 81)), (1, .int p1), (2, .int p2), (4, .int u6.1), (7, .int q7.2.2), (8, .int v13)]) hx hb dX9_byEar_254 hl (by decide) rfl (fun ls hl => ?_)
                obtain ⟨v17, ev17⟩ : ∃ z : Int32, z = q7.2.2 + 1 := ⟨_, rfl⟩
                have hf := bnd_at v17 ev17 hf
                refine lv_iinc (v := v17) (lv' := [(7, .int v17), (6, .int v13), (5, .int v16), (0, .ref (a 81)), (1, .int p1), (2, .int p2), (4, .int u6.1), (8, .int v13)]) hx hb dX9_byEar_256 hl (k := 6) rfl (by rw [ev17]; rfl) (by decide) rfl (fun ls hl => ?_)
                refine lv_goto (tgt := 126) hx hb dX9_byEar_259 (by decide) ?_
                exact ihk8 _ hf _ _ _ (lv_sub hl [3, 4, 5, 6, 2, 1, 0] rfl) hP hS
              · have hf := ifF hb13 hf
                refine lv_goto (tgt := 256) hx hb dX9_byEar_240 (by decide) ?_
                obtain ⟨v18, ev18⟩ : ∃ z : Int32, z = q7.2.2 + 1 := ⟨_, rfl⟩
                have hf := bnd_at v18 ev18 hf
                refine lv_iinc (v := v18) (lv' := [(7, .int v18), (0, .ref (a 81)), (1, .int p1), (2, .int p2), (4, .int u6.1), (5, .int q7.1), (6, .int q7.2.1), (8, .int v13)]) hx hb dX9_byEar_256 hl (k := 6) rfl (by rw [ev18]; rfl) (by decide) rfl (fun ls hl => ?_)
                refine lv_goto (tgt := 126) hx hb dX9_byEar_259 (by decide) ?_
                exact ihk8 _ hf _ _ _ (lv_sub hl [1, 2, 3, 4, 5, 6, 0] rfl) hP hS
            refine loopN_ind (P := fun (q19 : Int32 × Int32) => ∀ (H : Heap) (locs : List Loc) (ls : Array Slot), lv_has ls 11 [(0, .ref (a 81)), (1, .int p1), (2, .int p2), (4, .int u6.1), (5, .int q7.1), (6, .int q7.2.1), (7, .int q7.2.2), (8, .int q19.1), (9, .int q19.2)] → va_P D vwCl (wl a cA u6.2 d) H → va_S A s.heap H locs → W p l e R s m args below meth c H locs 0 0 Q (F0 m 153 ls [])) ?_ _ _ hf _ _ _ (lv_sub hl [2, 3, 4, 5, 6, 7, 8, 1, 0] rfl) hP hS
            intro k20 ihk20 q19 hf H locs ls hl hP hS
            unfold b_X9_byEar_153 at hf
            refine lv_iload hx hb dX9_byEar_153 (lv_at hl 8 rfl) ?_
            refine lv_iload_n hx hb dX9_byEar_155 rfl (lv_at hl 2 rfl) ?_
            refine lv_icmp_ge (tgt := 233) hx hb dX9_byEar_156 (by decide) (fun hb20 => ?_) (fun hb20 => ?_)
            · have hf := ifT hb20 hf
              exact hJ233 _ hf _ _ _ (lv_sub hl [0, 1, 2, 3, 4, 5, 6, 7] rfl) hP hS
            · have hf := ifF hb20 hf
              refine lv_aload_n hx hb dX9_byEar_159 rfl (lv_at hl 0 rfl) ?_
              refine lv_aload_n hx hb dX9_byEar_160 rfl (lv_at hl 0 rfl) ?_
              refine lv_iload_n hx hb dX9_byEar_161 rfl (lv_at hl 1 rfl) ?_
              refine lv_iload hx hb dX9_byEar_162 (lv_at hl 8 rfl) ?_
              obtain ⟨u22, hzu22, hf⟩ := obd_some hf
              refine zz_callVi (rest := [.ref (a 81)]) hx hb hml C hP hS (c_X9_intAt l hDA p1 q19.2 hzu22) zw_X9_283 ⟨Nat.le_trans (Nat.le_of_ble_eq_true rfl) hRf, Nat.le_trans (Nat.le_of_ble_eq_true rfl) hRl⟩ (by decide) lay_81 rfl rfl hl.1 (Nat.le_of_ble_eq_true rfl) ⟨Nat.zero_le _, Nat.zero_le _⟩ rfl dX9_byEar_164 (fun H locs hP hS => ?_)
              refine lv_aload_n hx hb dX9_byEar_167 rfl (lv_at hl 0 rfl) ?_
              refine zg_X9_78 hx hb C hP (by decide) lay_81 rfl dX9_byEar_168 ?_
              refine lv_iload hx hb dX9_byEar_171 (lv_at hl 6 rfl) ?_
              obtain ⟨hc22, hf⟩ := chk_some hf
              refine zz_iald hx hb C hP (by decide) lay_100 (inb_vp hc22) dX9_byEar_173 ?_
              obtain ⟨u24, hzu24, hf⟩ := obd_some hf
              refine zz_callVi (rest := []) hx hb hml C hP hS (c_X9_soundOf l hDA u22 (gI u6.2 100 q7.2.2.toNatClampNeg) hzu24) zw_X9_230 ⟨Nat.le_trans (Nat.le_of_ble_eq_true rfl) hRf, Nat.le_trans (Nat.le_of_ble_eq_true rfl) hRl⟩ (by decide) lay_81 rfl rfl hl.1 (Nat.le_of_ble_eq_true rfl) ⟨Nat.zero_le _, Nat.zero_le _⟩ rfl dX9_byEar_174 (fun H locs hP hS => ?_)
              refine lv_aload_n hx hb dX9_byEar_177 rfl (lv_at hl 0 rfl) ?_
              refine lv_iload_n hx hb dX9_byEar_178 rfl (lv_at hl 1 rfl) ?_
              refine lv_iload hx hb dX9_byEar_179 (lv_at hl 8 rfl) ?_
              refine lv_iconst (v := 1) hx hb dX9_byEar_181 (by decide) ?_
              refine lv_iadd hx hb dX9_byEar_182 ?_
              obtain ⟨u25, hzu25, hf⟩ := obd_some hf
              refine zz_callVi (rest := [.int u24]) hx hb hml C hP hS (c_X9_intAt l hDA p1 (q19.2 + 1) hzu25) zw_X9_283 ⟨Nat.le_trans (Nat.le_of_ble_eq_true rfl) hRf, Nat.le_trans (Nat.le_of_ble_eq_true rfl) hRl⟩ (by decide) lay_81 rfl rfl hl.1 (Nat.le_of_ble_eq_true rfl) ⟨Nat.zero_le _, Nat.zero_le _⟩ rfl dX9_byEar_183 (fun H locs hP hS => ?_)
              have hJ194 : ∀ (v26 : Int32), j_X9_byEar_194 u6 q19 k20 v26 = some u → ∀ (H : Heap) (locs : List Loc) (ls : Array Slot), lv_has ls 11 [(0, .ref (a 81)), (1, .int p1), (2, .int p2), (4, .int u6.1), (5, .int q7.1), (6, .int q7.2.1), (7, .int q7.2.2), (8, .int q19.1), (9, .int q19.2)] → va_P D vwCl (wl a cA u6.2 d) H → va_S A s.heap H locs → W p l e R s m args below meth c H locs 0 0 Q (F0 m 194 ls [.int v26]) := by
                intro v26 hf H locs ls hl hP hS
                unfold j_X9_byEar_194 at hf
                refine lv_istore (lv' := [(10, .int v26), (0, .ref (a 81)), (1, .int p1), (2, .int p2), (4, .int u6.1), (5, .int q7.1), (6, .int q7.2.1), (7, .int q7.2.2), (8, .int q19.1), (9, .int q19.2)]) hx hb dX9_byEar_194 hl (by decide) rfl (fun ls hl => ?_)
                refine lv_iload hx hb dX9_byEar_196 (lv_at hl 8 rfl) ?_
                refine lv_i2l (v := q19.1.toInt64) hx hb dX9_byEar_198 rfl ?_
                refine lv_iload hx hb dX9_byEar_199 (lv_at hl 0 rfl) ?_
                refine lv_if_eq (tgt := 214) hx hb dX9_byEar_201 (by decide) (fun hb26 => ?_) (fun hb26 => ?_)
                · have hf := ifT hb26 hf
                  refine lv_aload_n hx hb dX9_byEar_214 rfl (lv_at hl 1 rfl) ?_
                  refine zg_X9_139 hx hb C hP (by decide) lay_81 rfl dX9_byEar_215 ?_
                  refine lv_i2l (v := (gI u6.2 81 4).toInt64) hx hb dX9_byEar_218 rfl ?_
                  refine lv_lmul hx hb dX9_byEar_219 ?_
                  refine lv_ldc2 (v := 100) hx hb C.1 (C.2.1 _ kk_X9_298) dX9_byEar_220 ?_
                  refine lv_ldiv hx hb dX9_byEar_223 (by decide) ?_
                  refine lv_l2i (v := ((q19.1.toInt64 * ((gI u6.2 81 4).toInt64)) / 100).toInt32) hx hb dX9_byEar_224 rfl ?_
                  refine lv_topi (fun v28 ev28 => ?_)
                  have hf := bnd_at v28 ev28 hf
                  refine lv_istore (lv' := [(8, .int v28), (10, .int v26), (0, .ref (a 81)), (1, .int p1), (2, .int p2), (4, .int u6.1), (5, .int q7.1), (6, .int q7.2.1), (7, .int q7.2.2), (9, .int q19.2)]) hx hb dX9_byEar_225 hl (by decide) rfl (fun ls hl => ?_)
                  obtain ⟨v29, ev29⟩ : ∃ z : Int32, z = q19.2 + 2 := ⟨_, rfl⟩
                  have hf := bnd_at v29 ev29 hf
                  refine lv_iinc (v := v29) (lv' := [(9, .int v29), (8, .int v28), (10, .int v26), (0, .ref (a 81)), (1, .int p1), (2, .int p2), (4, .int u6.1), (5, .int q7.1), (6, .int q7.2.1), (7, .int q7.2.2)]) hx hb dX9_byEar_227 hl (k := 9) rfl (by rw [ev29]; rfl) (by decide) rfl (fun ls hl => ?_)
                  refine lv_goto (tgt := 153) hx hb dX9_byEar_230 (by decide) ?_
                  exact ihk20 _ hf _ _ _ (lv_sub hl [3, 4, 5, 6, 7, 8, 9, 1, 0] rfl) hP hS
                · have hf := ifF hb26 hf
                  refine lv_bipush (v := 100) hx hb dX9_byEar_204 (by decide) ?_
                  refine lv_aload_n hx hb dX9_byEar_206 rfl (lv_at hl 1 rfl) ?_
                  refine zg_X9_139 hx hb C hP (by decide) lay_81 rfl dX9_byEar_207 ?_
                  refine lv_isub hx hb dX9_byEar_210 ?_
                  refine lv_goto (tgt := 218) hx hb dX9_byEar_211 (by decide) ?_
                  refine lv_i2l (v := (100 - (gI u6.2 81 4)).toInt64) hx hb dX9_byEar_218 rfl ?_
                  refine lv_lmul hx hb dX9_byEar_219 ?_
                  refine lv_ldc2 (v := 100) hx hb C.1 (C.2.1 _ kk_X9_298) dX9_byEar_220 ?_
                  refine lv_ldiv hx hb dX9_byEar_223 (by decide) ?_
                  refine lv_l2i (v := ((q19.1.toInt64 * ((100 - (gI u6.2 81 4)).toInt64)) / 100).toInt32) hx hb dX9_byEar_224 rfl ?_
                  refine lv_topi (fun v30 ev30 => ?_)
                  have hf := bnd_at v30 ev30 hf
                  refine lv_istore (lv' := [(8, .int v30), (10, .int v26), (0, .ref (a 81)), (1, .int p1), (2, .int p2), (4, .int u6.1), (5, .int q7.1), (6, .int q7.2.1), (7, .int q7.2.2), (9, .int q19.2)]) hx hb dX9_byEar_225 hl (by decide) rfl (fun ls hl => ?_)
                  obtain ⟨v31, ev31⟩ : ∃ z : Int32, z = q19.2 + 2 := ⟨_, rfl⟩
                  have hf := bnd_at v31 ev31 hf
                  refine lv_iinc (v := v31) (lv' := [(9, .int v31), (8, .int v30), (10, .int v26), (0, .ref (a 81)), (1, .int p1), (2, .int p2), (4, .int u6.1), (5, .int q7.1), (6, .int q7.2.1), (7, .int q7.2.2)]) hx hb dX9_byEar_227 hl (k := 9) rfl (by rw [ev31]; rfl) (by decide) rfl (fun ls hl => ?_)
                  refine lv_goto (tgt := 153) hx hb dX9_byEar_230 (by decide) ?_
                  exact ihk20 _ hf _ _ _ (lv_sub hl [3, 4, 5, 6, 7, 8, 9, 1, 0] rfl) hP hS
              refine lv_icmp_ne (tgt := 193) hx hb dX9_byEar_186 (by decide) (fun hb31 => ?_) (fun hb31 => ?_)
              · have hf := ifF hb31 hf
                refine lv_iconst (v := 0) hx hb dX9_byEar_193 (by decide) ?_
                exact hJ194 _ hf _ _ _ (lv_sub hl [0, 1, 2, 3, 4, 5, 6, 7, 8] rfl) hP hS
              · have hf := ifT hb31 hf
                refine lv_iconst (v := 1) hx hb dX9_byEar_189 (by decide) ?_
                refine lv_goto (tgt := 194) hx hb dX9_byEar_190 (by decide) ?_
                exact hJ194 _ hf _ _ _ (lv_sub hl [0, 1, 2, 3, 4, 5, 6, 7, 8] rfl) hP hS
        · have hf := ifF hb4 hf
          refine lv_aload_n hx hb dX9_byEar_105 rfl (lv_at hl 0 rfl) ?_
          refine lv_iload_n hx hb dX9_byEar_106 rfl (lv_at hl 3 rfl) ?_
          obtain ⟨u33, hzu33, hf⟩ := obd_some hf
          refine zz_callVi (rest := []) hx hb hml C hP hS (c_X9_no l hDA v4 hzu33) zw_X9_107 ⟨Nat.le_trans (Nat.le_of_ble_eq_true rfl) hRf, Nat.le_trans (Nat.le_of_ble_eq_true rfl) hRl⟩ (by decide) lay_81 rfl rfl hl.1 (Nat.le_of_ble_eq_true rfl) ⟨Nat.zero_le _, Nat.zero_le _⟩ rfl dX9_byEar_107 (fun H locs hP hS => ?_)
          have hf := Option.some.inj hf
          subst hf
          exact hQ _ _ _ _ dX9_byEar_110 hP hS
      refine loopN_ind (P := fun (q34 : Int32 × Int32) => ∀ (H : Heap) (locs : List Loc) (ls : Array Slot), lv_has ls 11 [(0, .ref (a 81)), (1, .int p1), (2, .int p2), (3, .int q34.1), (4, .int q34.2)] → va_P D vwCl (wl a cA σ d) H → va_S A s.heap H locs → W p l e R s m args below meth c H locs 0 0 Q (F0 m 44 ls [])) ?_ _ _ hf _ _ _ (lv_sub hl [1, 2, 3, 4, 0] rfl) hP hS
      intro k35 ihk35 q34 hf H locs ls hl hP hS
      unfold b_X9_byEar_44 at hf
      refine lv_iload hx hb dX9_byEar_44 (lv_at hl 4 rfl) ?_
      refine lv_iload_n hx hb dX9_byEar_46 rfl (lv_at hl 2 rfl) ?_
      refine lv_icmp_ge (tgt := 101) hx hb dX9_byEar_47 (by decide) (fun hb35 => ?_) (fun hb35 => ?_)
      · have hf := ifT hb35 hf
        exact hJ101 _ hf _ _ _ (lv_sub hl [0, 1, 2, 3] rfl) hP hS
      · have hf := ifF hb35 hf
        refine lv_iload_n hx hb dX9_byEar_50 rfl (lv_at hl 3 rfl) ?_
        refine lv_if_ne (tgt := 101) hx hb dX9_byEar_51 (by decide) (fun hb36 => ?_) (fun hb36 => ?_)
        · have hf := ifF hb36 hf
          exact hJ101 _ hf _ _ _ (lv_sub hl [0, 1, 2, 3] rfl) hP hS
        · have hf := ifT hb36 hf
          refine lv_iload hx hb dX9_byEar_54 (lv_at hl 4 rfl) ?_
          refine lv_iconst (v := 2) hx hb dX9_byEar_56 (by decide) ?_
          refine lv_irem hx hb dX9_byEar_57 (by decide) ?_
          refine lv_if_ne (tgt := 78) hx hb dX9_byEar_58 (by decide) (fun hb37 => ?_) (fun hb37 => ?_)
          · have hf := ifF hb37 hf
            refine lv_aload_n hx hb dX9_byEar_78 rfl (lv_at hl 0 rfl) ?_
            refine lv_aload_n hx hb dX9_byEar_79 rfl (lv_at hl 0 rfl) ?_
            refine lv_iload_n hx hb dX9_byEar_80 rfl (lv_at hl 1 rfl) ?_
            refine lv_iload hx hb dX9_byEar_81 (lv_at hl 4 rfl) ?_
            obtain ⟨u39, hzu39, hf⟩ := obd_some hf
            refine zz_callVi (rest := [.ref (a 81)]) hx hb hml C hP hS (c_X9_intAt l hDA p1 q34.2 hzu39) zw_X9_283 ⟨Nat.le_trans (Nat.le_of_ble_eq_true rfl) hRf, Nat.le_trans (Nat.le_of_ble_eq_true rfl) hRl⟩ (by decide) lay_81 rfl rfl hl.1 (Nat.le_of_ble_eq_true rfl) ⟨Nat.zero_le _, Nat.zero_le _⟩ rfl dX9_byEar_83 (fun H locs hP hS => ?_)
            obtain ⟨u40, hzu40⟩ : ∃ z, z = f_X9_isOne u39 := ⟨_, rfl⟩
            have hf := bnd_at u40 hzu40 hf
            refine zz_callVi (rest := []) hx hb hml C hP hS (c_X9_isOne l hDA u39 hzu40.symm) zw_X9_175 ⟨Nat.le_trans (Nat.le_of_ble_eq_true rfl) hRf, Nat.le_trans (Nat.le_of_ble_eq_true rfl) hRl⟩ (by decide) lay_81 rfl rfl hl.1 (Nat.le_of_ble_eq_true rfl) ⟨Nat.zero_le _, Nat.zero_le _⟩ rfl dX9_byEar_86 (fun H locs hP hS => ?_)
            refine lv_if_ne (tgt := 95) hx hb dX9_byEar_89 (by decide) (fun hb40 => ?_) (fun hb40 => ?_)
            · have hf := ifF hb40 hf
              obtain ⟨v42, ev42⟩ : ∃ z : Int32, z = q34.2 + 1 := ⟨_, rfl⟩
              have hf := bnd_at v42 ev42 hf
              refine lv_iinc (v := v42) (lv' := [(4, .int v42), (0, .ref (a 81)), (1, .int p1), (2, .int p2), (3, .int q34.1)]) hx hb dX9_byEar_95 hl (k := 4) rfl (by rw [ev42]; rfl) (by decide) rfl (fun ls hl => ?_)
              refine lv_goto (tgt := 44) hx hb dX9_byEar_98 (by decide) ?_
              exact ihk35 _ hf _ _ _ (lv_sub hl [1, 2, 3, 4, 0] rfl) hP hS
            · have hf := ifT hb40 hf
              refine lv_bipush (v := (-6)) hx hb dX9_byEar_92 (by decide) ?_
              refine lv_istore_n (lv' := [(3, .int (-6)), (0, .ref (a 81)), (1, .int p1), (2, .int p2), (4, .int q34.2)]) hx hb dX9_byEar_94 rfl hl (by decide) rfl (fun ls hl => ?_)
              obtain ⟨v43, ev43⟩ : ∃ z : Int32, z = q34.2 + 1 := ⟨_, rfl⟩
              have hf := bnd_at v43 ev43 hf
              refine lv_iinc (v := v43) (lv' := [(4, .int v43), (3, .int (-6)), (0, .ref (a 81)), (1, .int p1), (2, .int p2)]) hx hb dX9_byEar_95 hl (k := 4) rfl (by rw [ev43]; rfl) (by decide) rfl (fun ls hl => ?_)
              refine lv_goto (tgt := 44) hx hb dX9_byEar_98 (by decide) ?_
              exact ihk35 _ hf _ _ _ (lv_sub hl [2, 3, 4, 1, 0] rfl) hP hS
          · have hf := ifT hb37 hf
            refine lv_aload_n hx hb dX9_byEar_61 rfl (lv_at hl 0 rfl) ?_
            refine lv_aload_n hx hb dX9_byEar_62 rfl (lv_at hl 0 rfl) ?_
            refine lv_iload_n hx hb dX9_byEar_63 rfl (lv_at hl 1 rfl) ?_
            refine lv_iload hx hb dX9_byEar_64 (lv_at hl 4 rfl) ?_
            obtain ⟨u44, hzu44, hf⟩ := obd_some hf
            refine zz_callVi (rest := [.ref (a 81)]) hx hb hml C hP hS (c_X9_intAt l hDA p1 q34.2 hzu44) zw_X9_283 ⟨Nat.le_trans (Nat.le_of_ble_eq_true rfl) hRf, Nat.le_trans (Nat.le_of_ble_eq_true rfl) hRl⟩ (by decide) lay_81 rfl rfl hl.1 (Nat.le_of_ble_eq_true rfl) ⟨Nat.zero_le _, Nat.zero_le _⟩ rfl dX9_byEar_66 (fun H locs hP hS => ?_)
            obtain ⟨u45, hzu45⟩ : ∃ z, z = f_X9_isSet σ u44 := ⟨_, rfl⟩
            have hf := bnd_at u45 hzu45 hf
            refine zz_callVi (rest := []) hx hb hml C hP hS (c_X9_isSet l hDA u44 hzu45.symm) zw_X9_172 ⟨Nat.le_trans (Nat.le_of_ble_eq_true rfl) hRf, Nat.le_trans (Nat.le_of_ble_eq_true rfl) hRl⟩ (by decide) lay_81 rfl rfl hl.1 (Nat.le_of_ble_eq_true rfl) ⟨Nat.zero_le _, Nat.zero_le _⟩ rfl dX9_byEar_69 (fun H locs hP hS => ?_)
            refine lv_if_ne (tgt := 95) hx hb dX9_byEar_72 (by decide) (fun hb45 => ?_) (fun hb45 => ?_)
            · have hf := ifF hb45 hf
              obtain ⟨v47, ev47⟩ : ∃ z : Int32, z = q34.2 + 1 := ⟨_, rfl⟩
              have hf := bnd_at v47 ev47 hf
              refine lv_iinc (v := v47) (lv' := [(4, .int v47), (0, .ref (a 81)), (1, .int p1), (2, .int p2), (3, .int q34.1)]) hx hb dX9_byEar_95 hl (k := 4) rfl (by rw [ev47]; rfl) (by decide) rfl (fun ls hl => ?_)
              refine lv_goto (tgt := 44) hx hb dX9_byEar_98 (by decide) ?_
              exact ihk35 _ hf _ _ _ (lv_sub hl [1, 2, 3, 4, 0] rfl) hP hS
            · have hf := ifT hb45 hf
              refine lv_goto (tgt := 92) hx hb dX9_byEar_75 (by decide) ?_
              refine lv_bipush (v := (-6)) hx hb dX9_byEar_92 (by decide) ?_
              refine lv_istore_n (lv' := [(3, .int (-6)), (0, .ref (a 81)), (1, .int p1), (2, .int p2), (4, .int q34.2)]) hx hb dX9_byEar_94 rfl hl (by decide) rfl (fun ls hl => ?_)
              obtain ⟨v48, ev48⟩ : ∃ z : Int32, z = q34.2 + 1 := ⟨_, rfl⟩
              have hf := bnd_at v48 ev48 hf
              refine lv_iinc (v := v48) (lv' := [(4, .int v48), (3, .int (-6)), (0, .ref (a 81)), (1, .int p1), (2, .int p2)]) hx hb dX9_byEar_95 hl (k := 4) rfl (by rw [ev48]; rfl) (by decide) rfl (fun ls hl => ?_)
              refine lv_goto (tgt := 44) hx hb dX9_byEar_98 (by decide) ?_
              exact ihk35 _ hf _ _ _ (lv_sub hl [2, 3, 4, 1, 0] rfl) hP hS
    refine lv_if_ne (tgt := 41) hx hb dX9_byEar_22 (by decide) (fun hb48 => ?_) (fun hb48 => ?_)
    · have hf := ifF hb48 hf
      exact hJ41 _ hf _ _ _ (lv_sub hl [0, 1, 2, 3] rfl) hP hS
    · have hf := ifT hb48 hf
      refine lv_iload_n hx hb dX9_byEar_25 rfl (lv_at hl 2 rfl) ?_
      refine lv_bipush (v := 32) hx hb dX9_byEar_26 (by decide) ?_
      have hJ38 : j_X9_byEar_38 σ p1 p2 = some u → ∀ (H : Heap) (locs : List Loc) (ls : Array Slot), lv_has ls 11 [(0, .ref (a 81)), (1, .int p1), (2, .int p2)] → va_P D vwCl (wl a cA σ d) H → va_S A s.heap H locs → W p l e R s m args below meth c H locs 0 0 Q (F0 m 38 ls []) := by
        intro  hf H locs ls hl hP hS
        unfold j_X9_byEar_38 at hf
        refine lv_bipush (v := (-6)) hx hb dX9_byEar_38 (by decide) ?_
        refine lv_istore_n (lv' := [(3, .int (-6)), (0, .ref (a 81)), (1, .int p1), (2, .int p2)]) hx hb dX9_byEar_40 rfl hl (by decide) rfl (fun ls hl => ?_)
        exact hJ41 _ hf _ _ _ (lv_sub hl [1, 2, 3, 0] rfl) hP hS
      refine lv_icmp_gt (tgt := 38) hx hb dX9_byEar_28 (by decide) (fun hb49 => ?_) (fun hb49 => ?_)
      · have hf := ifT hb49 hf
        exact hJ38  hf _ _ _ (lv_sub hl [0, 1, 2] rfl) hP hS
      · have hf := ifF hb49 hf
        refine lv_iload_n hx hb dX9_byEar_31 rfl (lv_at hl 2 rfl) ?_
        refine lv_iconst (v := 2) hx hb dX9_byEar_32 (by decide) ?_
        refine lv_irem hx hb dX9_byEar_33 (by decide) ?_
        refine lv_iconst (v := 1) hx hb dX9_byEar_34 (by decide) ?_
        refine lv_icmp_ne (tgt := 41) hx hb dX9_byEar_35 (by decide) (fun hb50 => ?_) (fun hb50 => ?_)
        · have hf := ifF hb50 hf
          exact hJ41 _ hf _ _ _ (lv_sub hl [0, 1, 2, 3] rfl) hP hS
        · have hf := ifT hb50 hf
          exact hJ38  hf _ _ _ (lv_sub hl [0, 1, 2] rfl) hP hS
  refine lv_if_ne (tgt := 21) hx hb dX9_byEar_8 (by decide) (fun hb51 => ?_) (fun hb51 => ?_)
  · have hf := ifF hb51 hf
    exact hJ21 _ hf _ _ _ (lv_sub hl [1, 2, 3, 0] rfl) hP hS
  · have hf := ifT hb51 hf
    refine lv_aload_n hx hb dX9_byEar_11 rfl (lv_at hl 1 rfl) ?_
    refine zg_X9_96 hx hb C hP (by decide) lay_81 rfl dX9_byEar_12 ?_
    refine lv_if_ne (tgt := 21) hx hb dX9_byEar_15 (by decide) (fun hb52 => ?_) (fun hb52 => ?_)
    · have hf := ifF hb52 hf
      exact hJ21 _ hf _ _ _ (lv_sub hl [1, 2, 3, 0] rfl) hP hS
    · have hf := ifT hb52 hf
      refine lv_bipush (v := (-5)) hx hb dX9_byEar_18 (by decide) ?_
      refine lv_istore_n (lv' := [(3, .int (-5)), (0, .ref (a 81)), (1, .int p1), (2, .int p2)]) hx hb dX9_byEar_20 rfl hl (by decide) rfl (fun ls hl => ?_)
      exact hJ21 _ hf _ _ _ (lv_sub hl [1, 2, 3, 0] rfl) hP hS
set_option maxHeartbeats 4000000 in
set_option maxRecDepth 100000 in
theorem c_X9_beside (l : Launch) {D : va_G} {a : Nat → Nat} {cA : Nat → ClassId} {A : Nat → Prop} {sa : Nat → Nat} (hDA : DA a A) {σ : PH} {d : PD}  {u : Int32 × PH} (hf : f_X9_beside σ = some u) : CTi l yX9_beside cX9_beside 4 (some .int) 4 93 D a cA A sa [.ref (a 81)] σ d u.1 u.2 d := by
  refine zz_metI zpl_X9 hDA (Nat.le_of_ble_eq_true rfl) ?_
  intro p e R s m args below meth c Q ls hx hb hml C hRf hRl hQ hP hS hl
  have hl : lv_has ls 4 [(0, .ref (a 81))] := hl
  unfold f_X9_beside at hf
  refine lv_aload_n hx hb dX9_beside_0 rfl (lv_at hl 0 rfl) ?_
  refine zg_X9_96 hx hb C hP (by decide) lay_81 rfl dX9_beside_1 ?_
  refine lv_if_eq (tgt := 22) hx hb dX9_beside_4 (by decide) (fun hb0 => ?_) (fun hb0 => ?_)
  · have hf := ifT hb0 hf
    refine lv_iconst (v := (-1)) hx hb dX9_beside_22 (by decide) ?_
    have hf := Option.some.inj hf
    subst hf
    exact hQ _ _ _ _ dX9_beside_23 hP hS
  · have hf := ifF hb0 hf
    refine lv_aload_n hx hb dX9_beside_7 rfl (lv_at hl 0 rfl) ?_
    refine lv_aload_n hx hb dX9_beside_8 rfl (lv_at hl 0 rfl) ?_
    obtain ⟨u2, hzu2⟩ : ∃ z, z = f_X9_everybody σ := ⟨_, rfl⟩
    have hf := bnd_at u2 hzu2 hf
    refine zz_callVi (rest := [.ref (a 81)]) hx hb hml C hP hS (c_X9_everybody l hDA  hzu2.symm) zw_X9_99 ⟨Nat.le_trans (Nat.le_of_ble_eq_true rfl) hRf, Nat.le_trans (Nat.le_of_ble_eq_true rfl) hRl⟩ (by decide) lay_81 rfl rfl hl.1 (Nat.le_of_ble_eq_true rfl) ⟨Nat.zero_le _, Nat.zero_le _⟩ rfl dX9_beside_9 (fun H locs hP hS => ?_)
    refine lv_aload_n hx hb dX9_beside_12 rfl (lv_at hl 0 rfl) ?_
    refine zg_X9_120 hx hb C hP (by decide) lay_81 rfl dX9_beside_13 ?_
    obtain ⟨u3, hzu3, hf⟩ := obd_some hf
    refine zz_callVi (rest := []) hx hb hml C hP hS (c_X9_soundOf l hDA u2 (gI σ 81 6) hzu3) zw_X9_230 ⟨Nat.le_trans (Nat.le_of_ble_eq_true rfl) hRf, Nat.le_trans (Nat.le_of_ble_eq_true rfl) hRl⟩ (by decide) lay_81 rfl rfl hl.1 (Nat.le_of_ble_eq_true rfl) ⟨Nat.zero_le _, Nat.zero_le _⟩ rfl dX9_beside_16 (fun H locs hP hS => ?_)
    refine lv_if_ne (tgt := 24) hx hb dX9_beside_19 (by decide) (fun hb3 => ?_) (fun hb3 => ?_)
    · have hf := ifF hb3 hf
      refine lv_iconst (v := 0) hx hb dX9_beside_24 (by decide) ?_
      refine lv_istore_n (lv' := [(1, .int 0), (0, .ref (a 81))]) hx hb dX9_beside_25 rfl hl (by decide) rfl (fun ls hl => ?_)
      have hJ75 : ∀ (v5 : Int32) (v6 : Int32) (σ7 : PH), j_X9_beside_75 v5 v6 σ7 = some u → ∀ (H : Heap) (locs : List Loc) (ls : Array Slot), lv_has ls 4 [(1, .int v5), (2, .int v6)] → va_P D vwCl (wl a cA σ7 d) H → va_S A s.heap H locs → W p l e R s m args below meth c H locs 0 0 Q (F0 m 75 ls []) := by
        intro v5 v6 σ7 hf H locs ls hl hP hS
        unfold j_X9_beside_75 at hf
        refine lv_bipush (v := 100) hx hb dX9_beside_75 (by decide) ?_
        refine lv_iload_n hx hb dX9_beside_77 rfl (lv_at hl 0 rfl) ?_
        refine lv_imul hx hb dX9_beside_78 ?_
        refine lv_iload_n hx hb dX9_beside_79 rfl (lv_at hl 1 rfl) ?_
        refine lv_iadd hx hb dX9_beside_80 ?_
        have hf := Option.some.inj hf
        subst hf
        exact hQ _ _ _ _ dX9_beside_81 hP hS
      refine loopN_ind (P := fun (q8 : Int32 × PH) => ∀ (H : Heap) (locs : List Loc) (ls : Array Slot), lv_has ls 4 [(0, .ref (a 81)), (1, .int q8.1)] → va_P D vwCl (wl a cA q8.2 d) H → va_S A s.heap H locs → W p l e R s m args below meth c H locs 0 0 Q (F0 m 26 ls [])) ?_ _ _ hf _ _ _ (lv_sub hl [1, 0] rfl) hP hS
      intro k9 ihk9 q8 hf H locs ls hl hP hS
      unfold b_X9_beside_26 at hf
      refine lv_iload_n hx hb dX9_beside_26 rfl (lv_at hl 1 rfl) ?_
      refine lv_aload_n hx hb dX9_beside_27 rfl (lv_at hl 0 rfl) ?_
      refine zg_X9_96 hx hb C hP (by decide) lay_81 rfl dX9_beside_28 ?_
      refine lv_icmp_ge (tgt := 94) hx hb dX9_beside_31 (by decide) (fun hb9 => ?_) (fun hb9 => ?_)
      · have hf := ifT hb9 hf
        refine lv_iconst (v := (-1)) hx hb dX9_beside_94 (by decide) ?_
        have hf := Option.some.inj hf
        subst hf
        exact hQ _ _ _ _ dX9_beside_95 hP hS
      · have hf := ifF hb9 hf
        refine lv_iload_n hx hb dX9_beside_34 rfl (lv_at hl 1 rfl) ?_
        refine lv_iconst (v := 1) hx hb dX9_beside_35 (by decide) ?_
        refine lv_iadd hx hb dX9_beside_36 ?_
        refine lv_topi (fun v11 ev11 => ?_)
        have hf := bnd_at v11 ev11 hf
        refine lv_istore_n (lv' := [(2, .int v11), (0, .ref (a 81)), (1, .int q8.1)]) hx hb dX9_beside_37 rfl hl (by decide) rfl (fun ls hl => ?_)
        refine loopN_ind (P := fun (q12 : Int32 × PH) => ∀ (H : Heap) (locs : List Loc) (ls : Array Slot), lv_has ls 4 [(0, .ref (a 81)), (1, .int q8.1), (2, .int q12.1)] → va_P D vwCl (wl a cA q12.2 d) H → va_S A s.heap H locs → W p l e R s m args below meth c H locs 0 0 Q (F0 m 38 ls [])) ?_ _ _ hf _ _ _ (lv_sub hl [1, 2, 0] rfl) hP hS
        intro k13 ihk13 q12 hf H locs ls hl hP hS
        unfold b_X9_beside_38 at hf
        refine lv_iload_n hx hb dX9_beside_38 rfl (lv_at hl 2 rfl) ?_
        refine lv_aload_n hx hb dX9_beside_39 rfl (lv_at hl 0 rfl) ?_
        refine zg_X9_96 hx hb C hP (by decide) lay_81 rfl dX9_beside_40 ?_
        refine lv_icmp_ge (tgt := 88) hx hb dX9_beside_43 (by decide) (fun hb13 => ?_) (fun hb13 => ?_)
        · have hf := ifT hb13 hf
          obtain ⟨v15, ev15⟩ : ∃ z : Int32, z = q8.1 + 1 := ⟨_, rfl⟩
          have hf := bnd_at v15 ev15 hf
          refine lv_iinc (v := v15) (lv' := [(1, .int v15), (0, .ref (a 81)), (2, .int q12.1)]) hx hb dX9_beside_88 hl (k := 1) rfl (by rw [ev15]; rfl) (by decide) rfl (fun ls hl => ?_)
          refine lv_goto (tgt := 26) hx hb dX9_beside_91 (by decide) ?_
          exact ihk9 _ hf _ _ _ (lv_sub hl [1, 0] rfl) hP hS
        · have hf := ifF hb13 hf
          refine lv_aload_n hx hb dX9_beside_46 rfl (lv_at hl 0 rfl) ?_
          refine lv_iload_n hx hb dX9_beside_47 rfl (lv_at hl 1 rfl) ?_
          refine lv_iload_n hx hb dX9_beside_48 rfl (lv_at hl 2 rfl) ?_
          obtain ⟨u16, hzu16, hf⟩ := obd_some hf
          refine zz_callVv (rest := []) hx hb hml C hP hS (c_X9_changes l hDA q8.1 q12.1 hzu16) zw_X9_200 ⟨Nat.le_trans (Nat.le_of_ble_eq_true rfl) hRf, Nat.le_trans (Nat.le_of_ble_eq_true rfl) hRl⟩ (by decide) lay_81 rfl rfl hl.1 (Nat.le_of_ble_eq_true rfl) ⟨Nat.zero_le _, Nat.zero_le _⟩ rfl dX9_beside_49 (fun H locs hP hS => ?_)
          refine lv_aload_n hx hb dX9_beside_52 rfl (lv_at hl 0 rfl) ?_
          refine lv_aload_n hx hb dX9_beside_53 rfl (lv_at hl 0 rfl) ?_
          obtain ⟨u17, hzu17⟩ : ∃ z, z = f_X9_everybody u16 := ⟨_, rfl⟩
          have hf := bnd_at u17 hzu17 hf
          refine zz_callVi (rest := [.ref (a 81)]) hx hb hml C hP hS (c_X9_everybody l hDA  hzu17.symm) zw_X9_99 ⟨Nat.le_trans (Nat.le_of_ble_eq_true rfl) hRf, Nat.le_trans (Nat.le_of_ble_eq_true rfl) hRl⟩ (by decide) lay_81 rfl rfl hl.1 (Nat.le_of_ble_eq_true rfl) ⟨Nat.zero_le _, Nat.zero_le _⟩ rfl dX9_beside_54 (fun H locs hP hS => ?_)
          refine lv_aload_n hx hb dX9_beside_57 rfl (lv_at hl 0 rfl) ?_
          refine zg_X9_120 hx hb C hP (by decide) lay_81 rfl dX9_beside_58 ?_
          obtain ⟨u18, hzu18, hf⟩ := obd_some hf
          refine zz_callVi (rest := []) hx hb hml C hP hS (c_X9_soundOf l hDA u17 (gI u16 81 6) hzu18) zw_X9_230 ⟨Nat.le_trans (Nat.le_of_ble_eq_true rfl) hRf, Nat.le_trans (Nat.le_of_ble_eq_true rfl) hRl⟩ (by decide) lay_81 rfl rfl hl.1 (Nat.le_of_ble_eq_true rfl) ⟨Nat.zero_le _, Nat.zero_le _⟩ rfl dX9_beside_61 (fun H locs hP hS => ?_)
          refine lv_istore_n (lv' := [(3, .int u18), (0, .ref (a 81)), (1, .int q8.1), (2, .int q12.1)]) hx hb dX9_beside_64 rfl hl (by decide) rfl (fun ls hl => ?_)
          refine lv_aload_n hx hb dX9_beside_65 rfl (lv_at hl 1 rfl) ?_
          refine lv_iload_n hx hb dX9_beside_66 rfl (lv_at hl 2 rfl) ?_
          refine lv_iload_n hx hb dX9_beside_67 rfl (lv_at hl 3 rfl) ?_
          obtain ⟨u19, hzu19, hf⟩ := obd_some hf
          refine zz_callVv (rest := []) hx hb hml C hP hS (c_X9_changes l hDA q8.1 q12.1 hzu19) zw_X9_200 ⟨Nat.le_trans (Nat.le_of_ble_eq_true rfl) hRf, Nat.le_trans (Nat.le_of_ble_eq_true rfl) hRl⟩ (by decide) lay_81 rfl rfl hl.1 (Nat.le_of_ble_eq_true rfl) ⟨Nat.zero_le _, Nat.zero_le _⟩ rfl dX9_beside_68 (fun H locs hP hS => ?_)
          refine lv_iload_n hx hb dX9_beside_71 rfl (lv_at hl 0 rfl) ?_
          refine lv_if_ne (tgt := 82) hx hb dX9_beside_72 (by decide) (fun hb19 => ?_) (fun hb19 => ?_)
          · have hf := ifF hb19 hf
            obtain ⟨v21, ev21⟩ : ∃ z : Int32, z = q12.1 + 1 := ⟨_, rfl⟩
            have hf := bnd_at v21 ev21 hf
            refine lv_iinc (v := v21) (lv' := [(2, .int v21), (3, .int u18), (0, .ref (a 81)), (1, .int q8.1)]) hx hb dX9_beside_82 hl (k := 3) rfl (by rw [ev21]; rfl) (by decide) rfl (fun ls hl => ?_)
            refine lv_goto (tgt := 38) hx hb dX9_beside_85 (by decide) ?_
            exact ihk13 _ hf _ _ _ (lv_sub hl [2, 3, 0] rfl) hP hS
          · have hf := ifT hb19 hf
            exact hJ75 _ _ _ hf _ _ _ (lv_sub hl [2, 3] rfl) hP hS
    · have hf := ifT hb3 hf
      refine lv_iconst (v := (-1)) hx hb dX9_beside_22 (by decide) ?_
      have hf := Option.some.inj hf
      subst hf
      exact hQ _ _ _ _ dX9_beside_23 hP hS
set_option maxHeartbeats 4000000 in
set_option maxRecDepth 100000 in
theorem c_X9_right (l : Launch) {D : va_G} {a : Nat → Nat} {cA : Nat → ClassId} {A : Nat → Prop} {sa : Nat → Nat} (hDA : DA a A) {σ : PH} {d : PD}  {u : Int32 × PH} (hf : f_X9_right σ = some u) : CTi l yX9_right cX9_right 4 (some .int) 4 93 D a cA A sa [.ref (a 81)] σ d u.1 u.2 d := by
  refine zz_metI zpl_X9 hDA (Nat.le_of_ble_eq_true rfl) ?_
  intro p e R s m args below meth c Q ls hx hb hml C hRf hRl hQ hP hS hl
  have hl : lv_has ls 4 [(0, .ref (a 81))] := hl
  unfold f_X9_right at hf
  refine lv_aload_n hx hb dX9_right_0 rfl (lv_at hl 0 rfl) ?_
  obtain ⟨u1, hzu1, hf⟩ := obd_some hf
  refine zz_callVi (rest := []) hx hb hml C hP hS (c_X9_lists l hDA  hzu1) zw_X9_233 ⟨Nat.le_trans (Nat.le_of_ble_eq_true rfl) hRf, Nat.le_trans (Nat.le_of_ble_eq_true rfl) hRl⟩ (by decide) lay_81 rfl rfl hl.1 (Nat.le_of_ble_eq_true rfl) ⟨Nat.zero_le _, Nat.zero_le _⟩ rfl dX9_right_1 (fun H locs hP hS => ?_)
  refine lv_istore_n (lv' := [(1, .int u1.1), (0, .ref (a 81))]) hx hb dX9_right_4 rfl hl (by decide) rfl (fun ls hl => ?_)
  refine lv_iconst (v := 0) hx hb dX9_right_5 (by decide) ?_
  refine lv_istore_n (lv' := [(2, .int 0), (1, .int u1.1), (0, .ref (a 81))]) hx hb dX9_right_6 rfl hl (by decide) rfl (fun ls hl => ?_)
  refine lv_iconst (v := 0) hx hb dX9_right_7 (by decide) ?_
  refine lv_istore_n (lv' := [(3, .int 0), (2, .int 0), (1, .int u1.1), (0, .ref (a 81))]) hx hb dX9_right_8 rfl hl (by decide) rfl (fun ls hl => ?_)
  refine loopN_ind (P := fun (q2 : Int32 × Int32) => ∀ (H : Heap) (locs : List Loc) (ls : Array Slot), lv_has ls 4 [(0, .ref (a 81)), (1, .int u1.1), (2, .int q2.1), (3, .int q2.2)] → va_P D vwCl (wl a cA u1.2 d) H → va_S A s.heap H locs → W p l e R s m args below meth c H locs 0 0 Q (F0 m 9 ls [])) ?_ _ _ hf _ _ _ (lv_sub hl [3, 2, 1, 0] rfl) hP hS
  intro k3 ihk3 q2 hf H locs ls hl hP hS
  unfold b_X9_right_9 at hf
  refine lv_iload_n hx hb dX9_right_9 rfl (lv_at hl 3 rfl) ?_
  refine lv_iload_n hx hb dX9_right_10 rfl (lv_at hl 1 rfl) ?_
  refine lv_icmp_ge (tgt := 39) hx hb dX9_right_11 (by decide) (fun hb3 => ?_) (fun hb3 => ?_)
  · have hf := ifT hb3 hf
    refine lv_iload_n hx hb dX9_right_39 rfl (lv_at hl 2 rfl) ?_
    have hf := Option.some.inj hf
    subst hf
    exact hQ _ _ _ _ dX9_right_40 hP hS
  · have hf := ifF hb3 hf
    refine lv_iload_n hx hb dX9_right_14 rfl (lv_at hl 2 rfl) ?_
    refine lv_iconst (v := 1) hx hb dX9_right_15 (by decide) ?_
    refine lv_aload_n hx hb dX9_right_16 rfl (lv_at hl 0 rfl) ?_
    refine lv_aload_n hx hb dX9_right_17 rfl (lv_at hl 0 rfl) ?_
    obtain ⟨u5, hzu5⟩ : ∃ z, z = f_X9_everybody u1.2 := ⟨_, rfl⟩
    have hf := bnd_at u5 hzu5 hf
    refine zz_callVi (rest := [.ref (a 81), .int 1, .int q2.1]) hx hb hml C hP hS (c_X9_everybody l hDA  hzu5.symm) zw_X9_99 ⟨Nat.le_trans (Nat.le_of_ble_eq_true rfl) hRf, Nat.le_trans (Nat.le_of_ble_eq_true rfl) hRl⟩ (by decide) lay_81 rfl rfl hl.1 (Nat.le_of_ble_eq_true rfl) ⟨Nat.zero_le _, Nat.zero_le _⟩ rfl dX9_right_18 (fun H locs hP hS => ?_)
    refine lv_aload_n hx hb dX9_right_21 rfl (lv_at hl 0 rfl) ?_
    refine zg_X9_78 hx hb C hP (by decide) lay_81 rfl dX9_right_22 ?_
    refine lv_iload_n hx hb dX9_right_25 rfl (lv_at hl 3 rfl) ?_
    obtain ⟨hc5, hf⟩ := chk_some hf
    refine zz_iald hx hb C hP (by decide) lay_100 (inb_vp hc5) dX9_right_26 ?_
    obtain ⟨u7, hzu7, hf⟩ := obd_some hf
    refine zz_callVi (rest := [.int 1, .int q2.1]) hx hb hml C hP hS (c_X9_soundOf l hDA u5 (gI u1.2 100 q2.2.toNatClampNeg) hzu7) zw_X9_230 ⟨Nat.le_trans (Nat.le_of_ble_eq_true rfl) hRf, Nat.le_trans (Nat.le_of_ble_eq_true rfl) hRl⟩ (by decide) lay_81 rfl rfl hl.1 (Nat.le_of_ble_eq_true rfl) ⟨Nat.zero_le _, Nat.zero_le _⟩ rfl dX9_right_27 (fun H locs hP hS => ?_)
    refine lv_isub hx hb dX9_right_30 ?_
    refine lv_iadd hx hb dX9_right_31 ?_
    refine lv_topi (fun v8 ev8 => ?_)
    have hf := bnd_at v8 ev8 hf
    refine lv_istore_n (lv' := [(2, .int v8), (0, .ref (a 81)), (1, .int u1.1), (3, .int q2.2)]) hx hb dX9_right_32 rfl hl (by decide) rfl (fun ls hl => ?_)
    obtain ⟨v9, ev9⟩ : ∃ z : Int32, z = q2.2 + 1 := ⟨_, rfl⟩
    have hf := bnd_at v9 ev9 hf
    refine lv_iinc (v := v9) (lv' := [(3, .int v9), (2, .int v8), (0, .ref (a 81)), (1, .int u1.1)]) hx hb dX9_right_33 hl (k := 3) rfl (by rw [ev9]; rfl) (by decide) rfl (fun ls hl => ?_)
    refine lv_goto (tgt := 9) hx hb dX9_right_36 (by decide) ?_
    exact ihk3 _ hf _ _ _ (lv_sub hl [2, 3, 1, 0] rfl) hP hS
set_option maxHeartbeats 4000000 in
set_option maxRecDepth 100000 in
theorem c_X9_quiet (l : Launch) {D : va_G} {a : Nat → Nat} {cA : Nat → ClassId} {A : Nat → Prop} {sa : Nat → Nat} (hDA : DA a A) {σ : PH} {d : PD}  {u : Int32 × PH} (hf : f_X9_quiet σ = some u) : CTi l yX9_quiet cX9_quiet 5 (some .int) 5 116 D a cA A sa [.ref (a 81)] σ d u.1 u.2 d := by
  refine zz_metI zpl_X9 hDA (Nat.le_of_ble_eq_true rfl) ?_
  intro p e R s m args below meth c Q ls hx hb hml C hRf hRl hQ hP hS hl
  have hl : lv_has ls 5 [(0, .ref (a 81))] := hl
  unfold f_X9_quiet at hf
  refine lv_aload_n hx hb dX9_quiet_0 rfl (lv_at hl 0 rfl) ?_
  refine zg_X9_96 hx hb C hP (by decide) lay_81 rfl dX9_quiet_1 ?_
  refine lv_if_ne (tgt := 14) hx hb dX9_quiet_4 (by decide) (fun hb0 => ?_) (fun hb0 => ?_)
  · have hf := ifF hb0 hf
    refine lv_aload_n hx hb dX9_quiet_14 rfl (lv_at hl 0 rfl) ?_
    obtain ⟨u2, hzu2, hf⟩ := obd_some hf
    refine zz_callVi (rest := []) hx hb hml C hP hS (c_X9_right l hDA  hzu2) zw_X9_300 ⟨Nat.le_trans (Nat.le_of_ble_eq_true rfl) hRf, Nat.le_trans (Nat.le_of_ble_eq_true rfl) hRl⟩ (by decide) lay_81 rfl rfl hl.1 (Nat.le_of_ble_eq_true rfl) ⟨Nat.zero_le _, Nat.zero_le _⟩ rfl dX9_quiet_15 (fun H locs hP hS => ?_)
    refine lv_istore_n (lv' := [(1, .int u2.1), (0, .ref (a 81))]) hx hb dX9_quiet_18 rfl hl (by decide) rfl (fun ls hl => ?_)
    refine lv_iconst (v := 0) hx hb dX9_quiet_19 (by decide) ?_
    refine lv_istore_n (lv' := [(2, .int 0), (1, .int u2.1), (0, .ref (a 81))]) hx hb dX9_quiet_20 rfl hl (by decide) rfl (fun ls hl => ?_)
    refine loopN_ind (P := fun (q3 : Int32 × Int32 × PH) => ∀ (H : Heap) (locs : List Loc) (ls : Array Slot), lv_has ls 5 [(0, .ref (a 81)), (1, .int q3.1), (2, .int q3.2.1)] → va_P D vwCl (wl a cA q3.2.2 d) H → va_S A s.heap H locs → W p l e R s m args below meth c H locs 0 0 Q (F0 m 21 ls [])) ?_ _ _ hf _ _ _ (lv_sub hl [2, 1, 0] rfl) hP hS
    intro k4 ihk4 q3 hf H locs ls hl hP hS
    unfold b_X9_quiet_21 at hf
    refine lv_iload_n hx hb dX9_quiet_21 rfl (lv_at hl 2 rfl) ?_
    refine lv_aload_n hx hb dX9_quiet_22 rfl (lv_at hl 0 rfl) ?_
    refine zg_X9_96 hx hb C hP (by decide) lay_81 rfl dX9_quiet_23 ?_
    refine lv_icmp_ge (tgt := 84) hx hb dX9_quiet_26 (by decide) (fun hb4 => ?_) (fun hb4 => ?_)
    · have hf := ifT hb4 hf
      refine lv_iload_n hx hb dX9_quiet_84 rfl (lv_at hl 1 rfl) ?_
      have hf := Option.some.inj hf
      subst hf
      exact hQ _ _ _ _ dX9_quiet_85 hP hS
    · have hf := ifF hb4 hf
      refine lv_iload_n hx hb dX9_quiet_29 rfl (lv_at hl 2 rfl) ?_
      refine lv_iconst (v := 1) hx hb dX9_quiet_30 (by decide) ?_
      refine lv_iadd hx hb dX9_quiet_31 ?_
      refine lv_topi (fun v6 ev6 => ?_)
      have hf := bnd_at v6 ev6 hf
      refine lv_istore_n (lv' := [(3, .int v6), (0, .ref (a 81)), (1, .int q3.1), (2, .int q3.2.1)]) hx hb dX9_quiet_32 rfl hl (by decide) rfl (fun ls hl => ?_)
      refine loopN_ind (P := fun (q7 : Int32 × Int32 × PH) => ∀ (H : Heap) (locs : List Loc) (ls : Array Slot), lv_has ls 5 [(0, .ref (a 81)), (1, .int q7.1), (2, .int q3.2.1), (3, .int q7.2.1)] → va_P D vwCl (wl a cA q7.2.2 d) H → va_S A s.heap H locs → W p l e R s m args below meth c H locs 0 0 Q (F0 m 33 ls [])) ?_ _ _ hf _ _ _ (lv_sub hl [1, 2, 3, 0] rfl) hP hS
      intro k8 ihk8 q7 hf H locs ls hl hP hS
      unfold b_X9_quiet_33 at hf
      refine lv_iload_n hx hb dX9_quiet_33 rfl (lv_at hl 3 rfl) ?_
      refine lv_aload_n hx hb dX9_quiet_34 rfl (lv_at hl 0 rfl) ?_
      refine zg_X9_96 hx hb C hP (by decide) lay_81 rfl dX9_quiet_35 ?_
      refine lv_icmp_ge (tgt := 78) hx hb dX9_quiet_38 (by decide) (fun hb8 => ?_) (fun hb8 => ?_)
      · have hf := ifT hb8 hf
        obtain ⟨v10, ev10⟩ : ∃ z : Int32, z = q3.2.1 + 1 := ⟨_, rfl⟩
        have hf := bnd_at v10 ev10 hf
        refine lv_iinc (v := v10) (lv' := [(2, .int v10), (0, .ref (a 81)), (1, .int q7.1), (3, .int q7.2.1)]) hx hb dX9_quiet_78 hl (k := 2) rfl (by rw [ev10]; rfl) (by decide) rfl (fun ls hl => ?_)
        refine lv_goto (tgt := 21) hx hb dX9_quiet_81 (by decide) ?_
        exact ihk4 _ hf _ _ _ (lv_sub hl [1, 2, 0] rfl) hP hS
      · have hf := ifF hb8 hf
        refine lv_aload_n hx hb dX9_quiet_41 rfl (lv_at hl 0 rfl) ?_
        refine lv_iload_n hx hb dX9_quiet_42 rfl (lv_at hl 2 rfl) ?_
        refine lv_iload_n hx hb dX9_quiet_43 rfl (lv_at hl 3 rfl) ?_
        obtain ⟨u11, hzu11, hf⟩ := obd_some hf
        refine zz_callVv (rest := []) hx hb hml C hP hS (c_X9_changes l hDA q3.2.1 q7.2.1 hzu11) zw_X9_200 ⟨Nat.le_trans (Nat.le_of_ble_eq_true rfl) hRf, Nat.le_trans (Nat.le_of_ble_eq_true rfl) hRl⟩ (by decide) lay_81 rfl rfl hl.1 (Nat.le_of_ble_eq_true rfl) ⟨Nat.zero_le _, Nat.zero_le _⟩ rfl dX9_quiet_44 (fun H locs hP hS => ?_)
        refine lv_aload_n hx hb dX9_quiet_47 rfl (lv_at hl 0 rfl) ?_
        obtain ⟨u12, hzu12, hf⟩ := obd_some hf
        refine zz_callVi (rest := []) hx hb hml C hP hS (c_X9_right l hDA  hzu12) zw_X9_300 ⟨Nat.le_trans (Nat.le_of_ble_eq_true rfl) hRf, Nat.le_trans (Nat.le_of_ble_eq_true rfl) hRl⟩ (by decide) lay_81 rfl rfl hl.1 (Nat.le_of_ble_eq_true rfl) ⟨Nat.zero_le _, Nat.zero_le _⟩ rfl dX9_quiet_48 (fun H locs hP hS => ?_)
        refine lv_istore (lv' := [(4, .int u12.1), (0, .ref (a 81)), (1, .int q7.1), (2, .int q3.2.1), (3, .int q7.2.1)]) hx hb dX9_quiet_51 hl (by decide) rfl (fun ls hl => ?_)
        refine lv_aload_n hx hb dX9_quiet_53 rfl (lv_at hl 1 rfl) ?_
        refine lv_iload_n hx hb dX9_quiet_54 rfl (lv_at hl 3 rfl) ?_
        refine lv_iload_n hx hb dX9_quiet_55 rfl (lv_at hl 4 rfl) ?_
        obtain ⟨u13, hzu13, hf⟩ := obd_some hf
        refine zz_callVv (rest := []) hx hb hml C hP hS (c_X9_changes l hDA q3.2.1 q7.2.1 hzu13) zw_X9_200 ⟨Nat.le_trans (Nat.le_of_ble_eq_true rfl) hRf, Nat.le_trans (Nat.le_of_ble_eq_true rfl) hRl⟩ (by decide) lay_81 rfl rfl hl.1 (Nat.le_of_ble_eq_true rfl) ⟨Nat.zero_le _, Nat.zero_le _⟩ rfl dX9_quiet_56 (fun H locs hP hS => ?_)
        refine lv_iload hx hb dX9_quiet_59 (lv_at hl 0 rfl) ?_
        refine lv_iload_n hx hb dX9_quiet_61 rfl (lv_at hl 2 rfl) ?_
        refine lv_icmp_le (tgt := 70) hx hb dX9_quiet_62 (by decide) (fun hb13 => ?_) (fun hb13 => ?_)
        · have hf := ifT hb13 hf
          refine lv_iload_n hx hb dX9_quiet_70 rfl (lv_at hl 2 rfl) ?_
          refine lv_istore_n (lv' := [(1, .int q7.1), (4, .int u12.1), (0, .ref (a 81)), (2, .int q3.2.1), (3, .int q7.2.1)]) hx hb dX9_quiet_71 rfl hl (by decide) rfl (fun ls hl => ?_)
          obtain ⟨v15, ev15⟩ : ∃ z : Int32, z = q7.2.1 + 1 := ⟨_, rfl⟩
          have hf := bnd_at v15 ev15 hf
          refine lv_iinc (v := v15) (lv' := [(3, .int v15), (1, .int q7.1), (4, .int u12.1), (0, .ref (a 81)), (2, .int q3.2.1)]) hx hb dX9_quiet_72 hl (k := 4) rfl (by rw [ev15]; rfl) (by decide) rfl (fun ls hl => ?_)
          refine lv_goto (tgt := 33) hx hb dX9_quiet_75 (by decide) ?_
          exact ihk8 _ hf _ _ _ (lv_sub hl [3, 1, 4, 0] rfl) hP hS
        · have hf := ifF hb13 hf
          refine lv_iload hx hb dX9_quiet_65 (lv_at hl 0 rfl) ?_
          refine lv_goto (tgt := 71) hx hb dX9_quiet_67 (by decide) ?_
          refine lv_istore_n (lv' := [(1, .int u12.1), (4, .int u12.1), (0, .ref (a 81)), (2, .int q3.2.1), (3, .int q7.2.1)]) hx hb dX9_quiet_71 rfl hl (by decide) rfl (fun ls hl => ?_)
          obtain ⟨v16, ev16⟩ : ∃ z : Int32, z = q7.2.1 + 1 := ⟨_, rfl⟩
          have hf := bnd_at v16 ev16 hf
          refine lv_iinc (v := v16) (lv' := [(3, .int v16), (1, .int u12.1), (4, .int u12.1), (0, .ref (a 81)), (2, .int q3.2.1)]) hx hb dX9_quiet_72 hl (k := 4) rfl (by rw [ev16]; rfl) (by decide) rfl (fun ls hl => ?_)
          refine lv_goto (tgt := 33) hx hb dX9_quiet_75 (by decide) ?_
          exact ihk8 _ hf _ _ _ (lv_sub hl [3, 1, 4, 0] rfl) hP hS
  · have hf := ifT hb0 hf
    refine lv_aload_n hx hb dX9_quiet_7 rfl (lv_at hl 0 rfl) ?_
    refine lv_bipush (v := (-5)) hx hb dX9_quiet_8 (by decide) ?_
    obtain ⟨u17, hzu17, hf⟩ := obd_some hf
    refine zz_callVi (rest := []) hx hb hml C hP hS (c_X9_no l hDA (-5) hzu17) zw_X9_107 ⟨Nat.le_trans (Nat.le_of_ble_eq_true rfl) hRf, Nat.le_trans (Nat.le_of_ble_eq_true rfl) hRl⟩ (by decide) lay_81 rfl rfl hl.1 (Nat.le_of_ble_eq_true rfl) ⟨Nat.zero_le _, Nat.zero_le _⟩ rfl dX9_quiet_10 (fun H locs hP hS => ?_)
    have hf := Option.some.inj hf
    subst hf
    exact hQ _ _ _ _ dX9_quiet_13 hP hS
set_option maxHeartbeats 4000000 in
set_option maxRecDepth 100000 in
theorem c_X9_swap (l : Launch) {D : va_G} {a : Nat → Nat} {cA : Nat → ClassId} {A : Nat → Prop} {sa : Nat → Nat} (hDA : DA a A) {σ : PH} {d : PD} (p1 : Int32) (p2 : Int32) {u : Int32 × PH} (hf : f_X9_swap σ p1 p2 = some u) : CTi l yX9_swap cX9_swap 3 (some .int) 1 23 D a cA A sa [.ref (a 81), .int p1, .int p2] σ d u.1 u.2 d := by
  refine zz_metI zpl_X9 hDA (Nat.le_of_ble_eq_true rfl) ?_
  intro p e R s m args below meth c Q ls hx hb hml C hRf hRl hQ hP hS hl
  have hl : lv_has ls 3 [(0, .ref (a 81)), (1, .int p1), (2, .int p2)] := hl
  unfold f_X9_swap at hf
  refine lv_aload_n hx hb dX9_swap_0 rfl (lv_at hl 0 rfl) ?_
  refine lv_iload_n hx hb dX9_swap_1 rfl (lv_at hl 1 rfl) ?_
  obtain ⟨u1, hzu1⟩ : ∃ z, z = f_X9_isSinger σ p1 := ⟨_, rfl⟩
  have hf := bnd_at u1 hzu1 hf
  refine zz_callVi (rest := []) hx hb hml C hP hS (c_X9_isSinger l hDA p1 hzu1.symm) zw_X9_111 ⟨Nat.le_trans (Nat.le_of_ble_eq_true rfl) hRf, Nat.le_trans (Nat.le_of_ble_eq_true rfl) hRl⟩ (by decide) lay_81 rfl rfl hl.1 (Nat.le_of_ble_eq_true rfl) ⟨Nat.zero_le _, Nat.zero_le _⟩ rfl dX9_swap_2 (fun H locs hP hS => ?_)
  refine lv_if_eq (tgt := 16) hx hb dX9_swap_5 (by decide) (fun hb1 => ?_) (fun hb1 => ?_)
  · have hf := ifT hb1 hf
    refine lv_aload_n hx hb dX9_swap_16 rfl (lv_at hl 0 rfl) ?_
    refine lv_iconst (v := (-1)) hx hb dX9_swap_17 (by decide) ?_
    obtain ⟨u3, hzu3, hf⟩ := obd_some hf
    refine zz_callVi (rest := []) hx hb hml C hP hS (c_X9_no l hDA (-1) hzu3) zw_X9_107 ⟨Nat.le_trans (Nat.le_of_ble_eq_true rfl) hRf, Nat.le_trans (Nat.le_of_ble_eq_true rfl) hRl⟩ (by decide) lay_81 rfl rfl hl.1 (Nat.le_of_ble_eq_true rfl) ⟨Nat.zero_le _, Nat.zero_le _⟩ rfl dX9_swap_18 (fun H locs hP hS => ?_)
    have hf := Option.some.inj hf
    subst hf
    exact hQ _ _ _ _ dX9_swap_21 hP hS
  · have hf := ifF hb1 hf
    refine lv_aload_n hx hb dX9_swap_8 rfl (lv_at hl 0 rfl) ?_
    refine lv_iload_n hx hb dX9_swap_9 rfl (lv_at hl 2 rfl) ?_
    obtain ⟨u4, hzu4⟩ : ∃ z, z = f_X9_isSinger σ p2 := ⟨_, rfl⟩
    have hf := bnd_at u4 hzu4 hf
    refine zz_callVi (rest := []) hx hb hml C hP hS (c_X9_isSinger l hDA p2 hzu4.symm) zw_X9_111 ⟨Nat.le_trans (Nat.le_of_ble_eq_true rfl) hRf, Nat.le_trans (Nat.le_of_ble_eq_true rfl) hRl⟩ (by decide) lay_81 rfl rfl hl.1 (Nat.le_of_ble_eq_true rfl) ⟨Nat.zero_le _, Nat.zero_le _⟩ rfl dX9_swap_10 (fun H locs hP hS => ?_)
    refine lv_if_ne (tgt := 22) hx hb dX9_swap_13 (by decide) (fun hb4 => ?_) (fun hb4 => ?_)
    · have hf := ifF hb4 hf
      refine lv_iload_n hx hb dX9_swap_22 rfl (lv_at hl 1 rfl) ?_
      refine lv_iload_n hx hb dX9_swap_23 rfl (lv_at hl 2 rfl) ?_
      refine lv_icmp_ne (tgt := 34) hx hb dX9_swap_24 (by decide) (fun hb5 => ?_) (fun hb5 => ?_)
      · have hf := ifF hb5 hf
        refine lv_aload_n hx hb dX9_swap_34 rfl (lv_at hl 0 rfl) ?_
        refine lv_iload_n hx hb dX9_swap_35 rfl (lv_at hl 1 rfl) ?_
        refine lv_iload_n hx hb dX9_swap_36 rfl (lv_at hl 2 rfl) ?_
        obtain ⟨u7, hzu7, hf⟩ := obd_some hf
        refine zz_callVv (rest := []) hx hb hml C hP hS (c_X9_changes l hDA p1 p2 hzu7) zw_X9_200 ⟨Nat.le_trans (Nat.le_of_ble_eq_true rfl) hRf, Nat.le_trans (Nat.le_of_ble_eq_true rfl) hRl⟩ (by decide) lay_81 rfl rfl hl.1 (Nat.le_of_ble_eq_true rfl) ⟨Nat.zero_le _, Nat.zero_le _⟩ rfl dX9_swap_37 (fun H locs hP hS => ?_)
        refine lv_aload_n hx hb dX9_swap_40 rfl (lv_at hl 0 rfl) ?_
        obtain ⟨u8, hzu8⟩ : ∃ z, z = f_X9_anew u7 := ⟨_, rfl⟩
        have hf := bnd_at u8 hzu8 hf
        refine zz_callVv (rest := []) hx hb hml C hP hS (c_X9_anew l hDA  hzu8.symm) zw_X9_126 ⟨Nat.le_trans (Nat.le_of_ble_eq_true rfl) hRf, Nat.le_trans (Nat.le_of_ble_eq_true rfl) hRl⟩ (by decide) lay_81 rfl rfl hl.1 (Nat.le_of_ble_eq_true rfl) ⟨Nat.zero_le _, Nat.zero_le _⟩ rfl dX9_swap_41 (fun H locs hP hS => ?_)
        refine lv_iconst (v := 1) hx hb dX9_swap_44 (by decide) ?_
        have hf := Option.some.inj hf
        subst hf
        exact hQ _ _ _ _ dX9_swap_45 hP hS
      · have hf := ifT hb5 hf
        refine lv_aload_n hx hb dX9_swap_27 rfl (lv_at hl 0 rfl) ?_
        refine lv_bipush (v := (-6)) hx hb dX9_swap_28 (by decide) ?_
        obtain ⟨u9, hzu9, hf⟩ := obd_some hf
        refine zz_callVi (rest := []) hx hb hml C hP hS (c_X9_no l hDA (-6) hzu9) zw_X9_107 ⟨Nat.le_trans (Nat.le_of_ble_eq_true rfl) hRf, Nat.le_trans (Nat.le_of_ble_eq_true rfl) hRl⟩ (by decide) lay_81 rfl rfl hl.1 (Nat.le_of_ble_eq_true rfl) ⟨Nat.zero_le _, Nat.zero_le _⟩ rfl dX9_swap_30 (fun H locs hP hS => ?_)
        have hf := Option.some.inj hf
        subst hf
        exact hQ _ _ _ _ dX9_swap_33 hP hS
    · have hf := ifT hb4 hf
      refine lv_aload_n hx hb dX9_swap_16 rfl (lv_at hl 0 rfl) ?_
      refine lv_iconst (v := (-1)) hx hb dX9_swap_17 (by decide) ?_
      obtain ⟨u10, hzu10, hf⟩ := obd_some hf
      refine zz_callVi (rest := []) hx hb hml C hP hS (c_X9_no l hDA (-1) hzu10) zw_X9_107 ⟨Nat.le_trans (Nat.le_of_ble_eq_true rfl) hRf, Nat.le_trans (Nat.le_of_ble_eq_true rfl) hRl⟩ (by decide) lay_81 rfl rfl hl.1 (Nat.le_of_ble_eq_true rfl) ⟨Nat.zero_le _, Nat.zero_le _⟩ rfl dX9_swap_18 (fun H locs hP hS => ?_)
      have hf := Option.some.inj hf
      subst hf
      exact hQ _ _ _ _ dX9_swap_21 hP hS
set_option maxHeartbeats 4000000 in
set_option maxRecDepth 100000 in
theorem c_X9_isTrue (l : Launch) {D : va_G} {a : Nat → Nat} {cA : Nat → ClassId} {A : Nat → Prop} {sa : Nat → Nat} (hDA : DA a A) {σ : PH} {d : PD} (p1 : Int32) {u : Int32 × PH} (hf : f_X9_isTrue σ p1 = some u) : CTi l yX9_isTrue cX9_isTrue 3 (some .int) 3 62 D a cA A sa [.ref (a 81), .int p1] σ d u.1 u.2 d := by
  refine zz_metI zpl_X9 hDA (Nat.le_of_ble_eq_true rfl) ?_
  intro p e R s m args below meth c Q ls hx hb hml C hRf hRl hQ hP hS hl
  have hl : lv_has ls 3 [(0, .ref (a 81)), (1, .int p1)] := hl
  unfold f_X9_isTrue at hf
  refine lv_aload_n hx hb dX9_isTrue_0 rfl (lv_at hl 0 rfl) ?_
  refine lv_iload_n hx hb dX9_isTrue_1 rfl (lv_at hl 1 rfl) ?_
  obtain ⟨u1, hzu1, hf⟩ := obd_some hf
  refine zz_callVi (rest := []) hx hb hml C hP hS (c_X9_isWorld l hDA p1 hzu1) zw_X9_242 ⟨Nat.le_trans (Nat.le_of_ble_eq_true rfl) hRf, Nat.le_trans (Nat.le_of_ble_eq_true rfl) hRl⟩ (by decide) lay_81 rfl rfl hl.1 (Nat.le_of_ble_eq_true rfl) ⟨Nat.zero_le _, Nat.zero_le _⟩ rfl dX9_isTrue_2 (fun H locs hP hS => ?_)
  refine lv_if_ne (tgt := 15) hx hb dX9_isTrue_5 (by decide) (fun hb1 => ?_) (fun hb1 => ?_)
  · have hf := ifF hb1 hf
    refine lv_aload_n hx hb dX9_isTrue_15 rfl (lv_at hl 0 rfl) ?_
    refine zg_X9_120 hx hb C hP (by decide) lay_81 rfl dX9_isTrue_16 ?_
    refine lv_topi (fun v3 ev3 => ?_)
    have hf := bnd_at v3 ev3 hf
    refine lv_istore_n (lv' := [(2, .int v3), (0, .ref (a 81)), (1, .int p1)]) hx hb dX9_isTrue_19 rfl hl (by decide) rfl (fun ls hl => ?_)
    refine lv_aload_n hx hb dX9_isTrue_20 rfl (lv_at hl 1 rfl) ?_
    refine lv_iload_n hx hb dX9_isTrue_21 rfl (lv_at hl 2 rfl) ?_
    refine zp_X9_120 hx hb C hP hS (by decide) lay_81 rfl dX9_isTrue_22 (fun σ4 eσ4 H locs hP hS => ?_)
    have hf := bnd_at σ4 eσ4 hf
    refine lv_aload_n hx hb dX9_isTrue_25 rfl (lv_at hl 1 rfl) ?_
    refine lv_iconst (v := 0) hx hb dX9_isTrue_26 (by decide) ?_
    refine zp_X9_123 hx hb C hP hS (by decide) lay_81 rfl dX9_isTrue_27 (fun σ5 eσ5 H locs hP hS => ?_)
    have hf := bnd_at σ5 eσ5 hf
    refine lv_iload_n hx hb dX9_isTrue_30 rfl (lv_at hl 0 rfl) ?_
    have hf := Option.some.inj hf
    subst hf
    exact hQ _ _ _ _ dX9_isTrue_31 hP hS
  · have hf := ifT hb1 hf
    refine lv_aload_n hx hb dX9_isTrue_8 rfl (lv_at hl 0 rfl) ?_
    refine lv_bipush (v := (-6)) hx hb dX9_isTrue_9 (by decide) ?_
    obtain ⟨u6, hzu6, hf⟩ := obd_some hf
    refine zz_callVi (rest := []) hx hb hml C hP hS (c_X9_no l hDA (-6) hzu6) zw_X9_107 ⟨Nat.le_trans (Nat.le_of_ble_eq_true rfl) hRf, Nat.le_trans (Nat.le_of_ble_eq_true rfl) hRl⟩ (by decide) lay_81 rfl rfl hl.1 (Nat.le_of_ble_eq_true rfl) ⟨Nat.zero_le _, Nat.zero_le _⟩ rfl dX9_isTrue_11 (fun H locs hP hS => ?_)
    have hf := Option.some.inj hf
    subst hf
    exact hQ _ _ _ _ dX9_isTrue_14 hP hS
