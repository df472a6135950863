set_option maxHeartbeats 4000000 in
set_option maxRecDepth 100000 in
theorem c_X8_ahead (l : Launch) {D : va_G} {a : Nat → Nat} {cA : Nat → ClassId} {A : Nat → Prop} {sa : Nat → Nat} (hDA : DA a A) {σ : PH} {d : PD} (hd1 : isHall d.1) (p1 : Int32) (p2 : Int32) (p3 : Int32) {u : Int32 × PH} (hf : f_X8_ahead σ d p1 p2 p3 = some u) : CTi l yX8_ahead cX8_ahead 5 (some .int) 5 125 D a cA A sa [.ref (a 0), .int p1, .int p2, .int p3] σ d u.1 u.2 d := by
  refine zz_metI zpl_X8 hDA (Nat.le_of_ble_eq_true rfl) ?_
  intro p e R s m args below meth c Q ls hx hb hml C hRf hRl hQ hP hS hl
  have hl : lv_has ls 5 [(0, .ref (a 0)), (1, .int p1), (2, .int p2), (3, .int p3)] := hl
  unfold f_X8_ahead at hf
  refine lv_aload_n hx hb dX8_ahead_0 rfl (lv_at hl 0 rfl) ?_
  refine lv_iload_n hx hb dX8_ahead_1 rfl (lv_at hl 1 rfl) ?_
  refine lv_iload_n hx hb dX8_ahead_2 rfl (lv_at hl 2 rfl) ?_
  obtain ⟨u1, hzu1, hf⟩ := obd_some hf
  refine zz_callVi (rest := []) hx hb hml C hP hS (c_X8_lackOfTold l hDA p1 p2 hzu1) zw_X8_276 ⟨Nat.le_trans (Nat.le_of_ble_eq_true rfl) hRf, Nat.le_trans (Nat.le_of_ble_eq_true rfl) hRl⟩ (by decide) lay_0 rfl rfl hl.1 (Nat.le_of_ble_eq_true rfl) ⟨Nat.zero_le _, Nat.zero_le _⟩ rfl dX8_ahead_3 (fun H locs hP hS => ?_)
  refine lv_istore (lv' := [(4, .int u1), (0, .ref (a 0)), (1, .int p1), (2, .int p2), (3, .int p3)]) hx hb dX8_ahead_6 hl (by decide) rfl (fun ls hl => ?_)
  refine lv_iload hx hb dX8_ahead_8 (lv_at hl 0 rfl) ?_
  have hJ26 : ∀ (v2 : Int32), j_X8_ahead_26 σ d p1 p2 p3 v2 = some u → ∀ (H : Heap) (locs : List Loc) (ls : Array Slot), lv_has ls 5 [(0, .ref (a 0)), (1, .int p1), (2, .int p2), (3, .int p3), (4, .int v2)] → va_P D vwCl (wl a cA σ d) H → va_S A s.heap H locs → W p l e R s m args below meth c H locs 0 0 Q (F0 m 26 ls []) := by
    intro v2 hf H locs ls hl hP hS
    unfold j_X8_ahead_26 at hf
    refine lv_iload hx hb dX8_ahead_26 (lv_at hl 4 rfl) ?_
    have hJ62 : ∀ (v3 : Int32), j_X8_ahead_62 σ d p1 p2 p3 v3 = some u → ∀ (H : Heap) (locs : List Loc) (ls : Array Slot), lv_has ls 5 [(0, .ref (a 0)), (1, .int p1), (2, .int p2), (3, .int p3), (4, .int v3)] → va_P D vwCl (wl a cA σ d) H → va_S A s.heap H locs → W p l e R s m args below meth c H locs 0 0 Q (F0 m 62 ls []) := by
      intro v3 hf H locs ls hl hP hS
      unfold j_X8_ahead_62 at hf
      refine lv_iload hx hb dX8_ahead_62 (lv_at hl 4 rfl) ?_
      refine lv_if_eq (tgt := 74) hx hb dX8_ahead_64 (by decide) (fun hb3 => ?_) (fun hb3 => ?_)
      · have hf := ifT hb3 hf
        refine lv_aload_n hx hb dX8_ahead_74 rfl (lv_at hl 0 rfl) ?_
        refine zg_X8_43 hx hb C hP (by decide) lay_0 rfl dX8_ahead_75 ?_
        refine lv_aload_n hx hb dX8_ahead_78 rfl (lv_at hl 0 rfl) ?_
        refine zg_X8_50 hx hb C hP (by decide) lay_0 rfl dX8_ahead_79 ?_
        refine lv_aload_n hx hb dX8_ahead_82 rfl (lv_at hl 0 rfl) ?_
        refine zg_X8_11 hx hb C hP (by decide) lay_0 rfl dX8_ahead_83 ?_
        refine lv_iload_n hx hb dX8_ahead_86 rfl (lv_at hl 1 rfl) ?_
        obtain ⟨hc4, hf⟩ := chk_some hf
        refine zz_shelf hx hb C hP (inb_vp hc4) dX8_ahead_87 (fun r6 er6 hr6 => ?_)
        have hf := bnd_at r6 er6 hf
        refine lv_iload_n hx hb dX8_ahead_88 rfl (lv_at hl 2 rfl) ?_
        obtain ⟨u7, hzu7, hf⟩ := obd_some hf
        refine zz_callVv (rest := []) hx hb hml C hP hS (c_X5_sortOut l hDA (h := d.1) hd1 (sh2 := r6) hr6 p2 hzu7) zw_X8_283 ⟨Nat.le_trans (Nat.le_of_ble_eq_true rfl) hRf, Nat.le_trans (Nat.le_of_ble_eq_true rfl) hRl⟩ (by decide) lay_11 rfl rfl hl.1 (Nat.le_of_ble_eq_true rfl) ⟨Nat.zero_le _, Nat.zero_le _⟩ rfl dX8_ahead_89 (fun H locs hP hS => ?_)
        refine lv_iload_n hx hb dX8_ahead_92 rfl (lv_at hl 3 rfl) ?_
        refine lv_if_ne (tgt := 106) hx hb dX8_ahead_93 (by decide) (fun hb7 => ?_) (fun hb7 => ?_)
        · have hf := ifF hb7 hf
          refine lv_aload_n hx hb dX8_ahead_106 rfl (lv_at hl 0 rfl) ?_
          refine zg_X8_43 hx hb C hP (by decide) lay_0 rfl dX8_ahead_107 ?_
          refine zg_X8_290 hx hb C hP (by decide) lay_11 rfl dX8_ahead_110 ?_
          have hf := Option.some.inj hf
          subst hf
          exact hQ _ _ _ _ dX8_ahead_113 hP hS
        · have hf := ifT hb7 hf
          refine lv_aload_n hx hb dX8_ahead_96 rfl (lv_at hl 0 rfl) ?_
          refine zg_X8_43 hx hb C hP (by decide) lay_0 rfl dX8_ahead_97 ?_
          refine zg_X8_287 hx hb C hP (by decide) lay_11 rfl dX8_ahead_100 ?_
          refine lv_goto (tgt := 113) hx hb dX8_ahead_103 (by decide) ?_
          have hf := Option.some.inj hf
          subst hf
          exact hQ _ _ _ _ dX8_ahead_113 hP hS
      · have hf := ifF hb3 hf
        refine lv_aload_n hx hb dX8_ahead_67 rfl (lv_at hl 0 rfl) ?_
        refine lv_iload hx hb dX8_ahead_68 (lv_at hl 4 rfl) ?_
        obtain ⟨u9, hzu9, hf⟩ := obd_some hf
        refine zz_callVi (rest := []) hx hb hml C hP hS (c_X8_refuse l hDA v3 hzu9) zw_X8_73 ⟨Nat.le_trans (Nat.le_of_ble_eq_true rfl) hRf, Nat.le_trans (Nat.le_of_ble_eq_true rfl) hRl⟩ (by decide) lay_0 rfl rfl hl.1 (Nat.le_of_ble_eq_true rfl) ⟨Nat.zero_le _, Nat.zero_le _⟩ rfl dX8_ahead_70 (fun H locs hP hS => ?_)
        have hf := Option.some.inj hf
        subst hf
        exact hQ _ _ _ _ dX8_ahead_73 hP hS
    refine lv_if_ne (tgt := 62) hx hb dX8_ahead_28 (by decide) (fun hb9 => ?_) (fun hb9 => ?_)
    · have hf := ifF hb9 hf
      exact hJ62 _ hf _ _ _ (lv_sub hl [0, 1, 2, 3, 4] rfl) hP hS
    · have hf := ifT hb9 hf
      refine lv_iload_n hx hb dX8_ahead_31 rfl (lv_at hl 2 rfl) ?_
      refine lv_bipush (v := 16) hx hb dX8_ahead_32 (by decide) ?_
      have hJ58 : j_X8_ahead_58 σ d p1 p2 p3 = some u → ∀ (H : Heap) (locs : List Loc) (ls : Array Slot), lv_has ls 5 [(0, .ref (a 0)), (1, .int p1), (2, .int p2), (3, .int p3)] → va_P D vwCl (wl a cA σ d) H → va_S A s.heap H locs → W p l e R s m args below meth c H locs 0 0 Q (F0 m 58 ls []) := by
        intro  hf H locs ls hl hP hS
        unfold j_X8_ahead_58 at hf
        refine lv_bipush (v := (-6)) hx hb dX8_ahead_58 (by decide) ?_
        refine lv_istore (lv' := [(4, .int (-6)), (0, .ref (a 0)), (1, .int p1), (2, .int p2), (3, .int p3)]) hx hb dX8_ahead_60 hl (by decide) rfl (fun ls hl => ?_)
        exact hJ62 _ hf _ _ _ (lv_sub hl [1, 2, 3, 4, 0] rfl) hP hS
      refine lv_icmp_gt (tgt := 58) hx hb dX8_ahead_34 (by decide) (fun hb10 => ?_) (fun hb10 => ?_)
      · have hf := ifT hb10 hf
        exact hJ58  hf _ _ _ (lv_sub hl [0, 1, 2, 3] rfl) hP hS
      · have hf := ifF hb10 hf
        refine lv_aload_n hx hb dX8_ahead_37 rfl (lv_at hl 0 rfl) ?_
        refine zg_X8_43 hx hb C hP (by decide) lay_0 rfl dX8_ahead_38 ?_
        refine lv_aload_n hx hb dX8_ahead_41 rfl (lv_at hl 0 rfl) ?_
        refine zg_X8_50 hx hb C hP (by decide) lay_0 rfl dX8_ahead_42 ?_
        refine lv_aload_n hx hb dX8_ahead_45 rfl (lv_at hl 0 rfl) ?_
        refine zg_X8_11 hx hb C hP (by decide) lay_0 rfl dX8_ahead_46 ?_
        refine lv_iload_n hx hb dX8_ahead_49 rfl (lv_at hl 1 rfl) ?_
        obtain ⟨hc11, hf⟩ := chk_some hf
        refine zz_shelf hx hb C hP (inb_vp hc11) dX8_ahead_50 (fun r13 er13 hr13 => ?_)
        have hf := bnd_at r13 er13 hf
        refine lv_iload_n hx hb dX8_ahead_51 rfl (lv_at hl 2 rfl) ?_
        obtain ⟨u14, hzu14, hf⟩ := obd_some hf
        refine zz_callVi (rest := []) hx hb hml C hP hS (c_X5_areSets l hDA (h := d.1) hd1 (sh2 := r13) hr13 p2 hzu14) zw_X8_279 ⟨Nat.le_trans (Nat.le_of_ble_eq_true rfl) hRf, Nat.le_trans (Nat.le_of_ble_eq_true rfl) hRl⟩ (by decide) lay_11 rfl rfl hl.1 (Nat.le_of_ble_eq_true rfl) ⟨Nat.zero_le _, Nat.zero_le _⟩ rfl dX8_ahead_52 (fun H locs hP hS => ?_)
        refine lv_if_ne (tgt := 62) hx hb dX8_ahead_55 (by decide) (fun hb14 => ?_) (fun hb14 => ?_)
        · have hf := ifF hb14 hf
          exact hJ62 _ hf _ _ _ (lv_sub hl [0, 1, 2, 3, 4] rfl) hP hS
        · have hf := ifT hb14 hf
          exact hJ58  hf _ _ _ (lv_sub hl [0, 1, 2, 3] rfl) hP hS
  refine lv_if_ne (tgt := 26) hx hb dX8_ahead_10 (by decide) (fun hb15 => ?_) (fun hb15 => ?_)
  · have hf := ifF hb15 hf
    exact hJ26 _ hf _ _ _ (lv_sub hl [1, 2, 3, 4, 0] rfl) hP hS
  · have hf := ifT hb15 hf
    refine lv_iload_n hx hb dX8_ahead_13 rfl (lv_at hl 4 rfl) ?_
    have hJ22 : j_X8_ahead_22 σ d p1 p2 p3 = some u → ∀ (H : Heap) (locs : List Loc) (ls : Array Slot), lv_has ls 5 [(0, .ref (a 0)), (1, .int p1), (2, .int p2), (3, .int p3)] → va_P D vwCl (wl a cA σ d) H → va_S A s.heap H locs → W p l e R s m args below meth c H locs 0 0 Q (F0 m 22 ls []) := by
      intro  hf H locs ls hl hP hS
      unfold j_X8_ahead_22 at hf
      refine lv_bipush (v := (-5)) hx hb dX8_ahead_22 (by decide) ?_
      refine lv_istore (lv' := [(4, .int (-5)), (0, .ref (a 0)), (1, .int p1), (2, .int p2), (3, .int p3)]) hx hb dX8_ahead_24 hl (by decide) rfl (fun ls hl => ?_)
      exact hJ26 _ hf _ _ _ (lv_sub hl [1, 2, 3, 4, 0] rfl) hP hS
    refine lv_if_lt (tgt := 22) hx hb dX8_ahead_14 (by decide) (fun hb16 => ?_) (fun hb16 => ?_)
    · have hf := ifT hb16 hf
      exact hJ22  hf _ _ _ (lv_sub hl [1, 2, 3, 4] rfl) hP hS
    · have hf := ifF hb16 hf
      refine lv_iload_n hx hb dX8_ahead_17 rfl (lv_at hl 4 rfl) ?_
      refine lv_iconst (v := 1) hx hb dX8_ahead_18 (by decide) ?_
      refine lv_icmp_le (tgt := 26) hx hb dX8_ahead_19 (by decide) (fun hb17 => ?_) (fun hb17 => ?_)
      · have hf := ifT hb17 hf
        exact hJ26 _ hf _ _ _ (lv_sub hl [1, 2, 3, 4, 0] rfl) hP hS
      · have hf := ifF hb17 hf
        exact hJ22  hf _ _ _ (lv_sub hl [1, 2, 3, 4] rfl) hP hS
set_option maxHeartbeats 4000000 in
set_option maxRecDepth 100000 in
theorem c_X8_judge (l : Launch) {D : va_G} {a : Nat → Nat} {cA : Nat → ClassId} {A : Nat → Prop} {sa : Nat → Nat} (hDA : DA a A) {σ : PH} {d : PD} (hd1 : isHall d.1) (p1 : Int32) (p2 : Int32) {u : Int32 × PH} (hf : f_X8_judge σ d p1 p2 = some u) : CTi l yX8_judge cX8_judge 4 (some .int) 5 128 D a cA A sa [.ref (a 0), .int p1, .int p2] σ d u.1 u.2 d := by
  refine zz_metI zpl_X8 hDA (Nat.le_of_ble_eq_true rfl) ?_
  intro p e R s m args below meth c Q ls hx hb hml C hRf hRl hQ hP hS hl
  have hl : lv_has ls 4 [(0, .ref (a 0)), (1, .int p1), (2, .int p2)] := hl
  unfold f_X8_judge at hf
  refine lv_aload_n hx hb dX8_judge_0 rfl (lv_at hl 0 rfl) ?_
  refine lv_iload_n hx hb dX8_judge_1 rfl (lv_at hl 1 rfl) ?_
  refine lv_iload_n hx hb dX8_judge_2 rfl (lv_at hl 2 rfl) ?_
  obtain ⟨u1, hzu1, hf⟩ := obd_some hf
  refine zz_callVi (rest := []) hx hb hml C hP hS (c_X8_lackOfTold l hDA p1 p2 hzu1) zw_X8_276 ⟨Nat.le_trans (Nat.le_of_ble_eq_true rfl) hRf, Nat.le_trans (Nat.le_of_ble_eq_true rfl) hRl⟩ (by decide) lay_0 rfl rfl hl.1 (Nat.le_of_ble_eq_true rfl) ⟨Nat.zero_le _, Nat.zero_le _⟩ rfl dX8_judge_3 (fun H locs hP hS => ?_)
  refine lv_istore_n (lv' := [(3, .int u1), (0, .ref (a 0)), (1, .int p1), (2, .int p2)]) hx hb dX8_judge_6 rfl hl (by decide) rfl (fun ls hl => ?_)
  refine lv_iload_n hx hb dX8_judge_7 rfl (lv_at hl 0 rfl) ?_
  have hJ20 : ∀ (v2 : Int32), j_X8_judge_20 σ d p1 p2 v2 = some u → ∀ (H : Heap) (locs : List Loc) (ls : Array Slot), lv_has ls 4 [(0, .ref (a 0)), (1, .int p1), (2, .int p2), (3, .int v2)] → va_P D vwCl (wl a cA σ d) H → va_S A s.heap H locs → W p l e R s m args below meth c H locs 0 0 Q (F0 m 20 ls []) := by
    intro v2 hf H locs ls hl hP hS
    unfold j_X8_judge_20 at hf
    refine lv_iload_n hx hb dX8_judge_20 rfl (lv_at hl 3 rfl) ?_
    refine lv_if_eq (tgt := 33) hx hb dX8_judge_21 (by decide) (fun hb2 => ?_) (fun hb2 => ?_)
    · have hf := ifT hb2 hf
      refine lv_aload_n hx hb dX8_judge_33 rfl (lv_at hl 0 rfl) ?_
      refine zg_X8_43 hx hb C hP (by decide) lay_0 rfl dX8_judge_34 ?_
      refine lv_aload_n hx hb dX8_judge_37 rfl (lv_at hl 0 rfl) ?_
      refine zg_X8_50 hx hb C hP (by decide) lay_0 rfl dX8_judge_38 ?_
      refine lv_aload_n hx hb dX8_judge_41 rfl (lv_at hl 0 rfl) ?_
      refine zg_X8_11 hx hb C hP (by decide) lay_0 rfl dX8_judge_42 ?_
      refine lv_iload_n hx hb dX8_judge_45 rfl (lv_at hl 1 rfl) ?_
      obtain ⟨hc3, hf⟩ := chk_some hf
      refine zz_shelf hx hb C hP (inb_vp hc3) dX8_judge_46 (fun r5 er5 hr5 => ?_)
      have hf := bnd_at r5 er5 hf
      refine lv_iload_n hx hb dX8_judge_47 rfl (lv_at hl 2 rfl) ?_
      obtain ⟨u6, hzu6, hf⟩ := obd_some hf
      refine zz_callVi (rest := []) hx hb hml C hP hS (c_X5_firstWrong l hDA (h := d.1) hd1 (sh2 := r5) hr5 p2 hzu6) zw_X8_293 ⟨Nat.le_trans (Nat.le_of_ble_eq_true rfl) hRf, Nat.le_trans (Nat.le_of_ble_eq_true rfl) hRl⟩ (by decide) lay_11 rfl rfl hl.1 (Nat.le_of_ble_eq_true rfl) ⟨Nat.zero_le _, Nat.zero_le _⟩ rfl dX8_judge_48 (fun H locs hP hS => ?_)
      have hf := Option.some.inj hf
      subst hf
      exact hQ _ _ _ _ dX8_judge_51 hP hS
    · have hf := ifF hb2 hf
      refine lv_aload_n hx hb dX8_judge_24 rfl (lv_at hl 0 rfl) ?_
      refine lv_iload_n hx hb dX8_judge_25 rfl (lv_at hl 3 rfl) ?_
      obtain ⟨u7, hzu7, hf⟩ := obd_some hf
      refine zz_callVi (rest := []) hx hb hml C hP hS (c_X8_refuse l hDA v2 hzu7) zw_X8_73 ⟨Nat.le_trans (Nat.le_of_ble_eq_true rfl) hRf, Nat.le_trans (Nat.le_of_ble_eq_true rfl) hRl⟩ (by decide) lay_0 rfl rfl hl.1 (Nat.le_of_ble_eq_true rfl) ⟨Nat.zero_le _, Nat.zero_le _⟩ rfl dX8_judge_26 (fun H locs hP hS => ?_)
      refine lv_bipush (v := 10) hx hb dX8_judge_29 (by decide) ?_
      refine lv_isub hx hb dX8_judge_31 ?_
      have hf := Option.some.inj hf
      subst hf
      exact hQ _ _ _ _ dX8_judge_32 hP hS
  refine lv_if_ne (tgt := 20) hx hb dX8_judge_8 (by decide) (fun hb7 => ?_) (fun hb7 => ?_)
  · have hf := ifF hb7 hf
    exact hJ20 _ hf _ _ _ (lv_sub hl [1, 2, 3, 0] rfl) hP hS
  · have hf := ifT hb7 hf
    refine lv_iload_n hx hb dX8_judge_11 rfl (lv_at hl 3 rfl) ?_
    refine lv_bipush (v := 32) hx hb dX8_judge_12 (by decide) ?_
    refine lv_icmp_le (tgt := 20) hx hb dX8_judge_14 (by decide) (fun hb8 => ?_) (fun hb8 => ?_)
    · have hf := ifT hb8 hf
      exact hJ20 _ hf _ _ _ (lv_sub hl [1, 2, 3, 0] rfl) hP hS
    · have hf := ifF hb8 hf
      refine lv_bipush (v := (-6)) hx hb dX8_judge_17 (by decide) ?_
      refine lv_istore_n (lv' := [(3, .int (-6)), (0, .ref (a 0)), (1, .int p1), (2, .int p2)]) hx hb dX8_judge_19 rfl hl (by decide) rfl (fun ls hl => ?_)
      exact hJ20 _ hf _ _ _ (lv_sub hl [1, 2, 3, 0] rfl) hP hS
set_option maxHeartbeats 4000000 in
set_option maxRecDepth 100000 in
theorem c_X8_isToldInPairs (l : Launch) {D : va_G} {a : Nat → Nat} {cA : Nat → ClassId} {A : Nat → Prop} {sa : Nat → Nat} (hDA : DA a A) {σ : PH} {d : PD} (p1 : Int32) {u : Int32} (hf : f_X8_isToldInPairs p1 = u) : CTi l yX8_isToldInPairs cX8_isToldInPairs 1 (some .boolean) 0 0 D a cA A sa [.int p1] σ d u σ d := by
  refine zz_metZ zpl_X8 hDA (Nat.le_of_ble_eq_true rfl) ?_
  intro p e R s m args below meth c Q ls hx hb hml C hRf hRl hQ hP hS hl
  have hl : lv_has ls 1 [(0, .int p1)] := hl
  unfold f_X8_isToldInPairs at hf
  refine lv_iload_n hx hb dX8_isToldInPairs_0 rfl (lv_at hl 0 rfl) ?_
  refine lv_bipush (v := 32) hx hb dX8_isToldInPairs_1 (by decide) ?_
  refine lv_icmp_gt (tgt := 16) hx hb dX8_isToldInPairs_3 (by decide) (fun hb0 => ?_) (fun hb0 => ?_)
  · have hf := ifT hb0 hf
    refine lv_iconst (v := 0) hx hb dX8_isToldInPairs_16 (by decide) ?_
    subst hf
    exact hQ _ _ _ _ dX8_isToldInPairs_17 (show narrow .boolean (.int 0) = .int 0 from rfl) hP hS
  · have hf := ifF hb0 hf
    refine lv_iload_n hx hb dX8_isToldInPairs_6 rfl (lv_at hl 0 rfl) ?_
    refine lv_iconst (v := 1) hx hb dX8_isToldInPairs_7 (by decide) ?_
    refine lv_iand hx hb dX8_isToldInPairs_8 ?_
    refine lv_if_ne (tgt := 16) hx hb dX8_isToldInPairs_9 (by decide) (fun hb1 => ?_) (fun hb1 => ?_)
    · have hf := ifF hb1 hf
      refine lv_iconst (v := 0) hx hb dX8_isToldInPairs_16 (by decide) ?_
      subst hf
      exact hQ _ _ _ _ dX8_isToldInPairs_17 (show narrow .boolean (.int 0) = .int 0 from rfl) hP hS
    · have hf := ifT hb1 hf
      refine lv_iconst (v := 1) hx hb dX8_isToldInPairs_12 (by decide) ?_
      refine lv_goto (tgt := 17) hx hb dX8_isToldInPairs_13 (by decide) ?_
      subst hf
      exact hQ _ _ _ _ dX8_isToldInPairs_17 (show narrow .boolean (.int 1) = .int 1 from rfl) hP hS
set_option maxHeartbeats 4000000 in
set_option maxRecDepth 100000 in
theorem c_X8_behind (l : Launch) {D : va_G} {a : Nat → Nat} {cA : Nat → ClassId} {A : Nat → Prop} {sa : Nat → Nat} (hDA : DA a A) {σ : PH} {d : PD} (hd1 : isHall d.1) (p1 : Int32) (p2 : Int32) {u : Int32 × PH} (hf : f_X8_behind σ d p1 p2 = some u) : CTi l yX8_behind cX8_behind 4 (some .int) 5 128 D a cA A sa [.ref (a 0), .int p1, .int p2] σ d u.1 u.2 d := by
  refine zz_metI zpl_X8 hDA (Nat.le_of_ble_eq_true rfl) ?_
  intro p e R s m args below meth c Q ls hx hb hml C hRf hRl hQ hP hS hl
  have hl : lv_has ls 4 [(0, .ref (a 0)), (1, .int p1), (2, .int p2)] := hl
  unfold f_X8_behind at hf
  refine lv_aload_n hx hb dX8_behind_0 rfl (lv_at hl 0 rfl) ?_
  refine lv_iload_n hx hb dX8_behind_1 rfl (lv_at hl 1 rfl) ?_
  refine lv_iload_n hx hb dX8_behind_2 rfl (lv_at hl 2 rfl) ?_
  obtain ⟨u1, hzu1, hf⟩ := obd_some hf
  refine zz_callVi (rest := []) hx hb hml C hP hS (c_X8_lackOfTold l hDA p1 p2 hzu1) zw_X8_276 ⟨Nat.le_trans (Nat.le_of_ble_eq_true rfl) hRf, Nat.le_trans (Nat.le_of_ble_eq_true rfl) hRl⟩ (by decide) lay_0 rfl rfl hl.1 (Nat.le_of_ble_eq_true rfl) ⟨Nat.zero_le _, Nat.zero_le _⟩ rfl dX8_behind_3 (fun H locs hP hS => ?_)
  refine lv_istore_n (lv' := [(3, .int u1), (0, .ref (a 0)), (1, .int p1), (2, .int p2)]) hx hb dX8_behind_6 rfl hl (by decide) rfl (fun ls hl => ?_)
  refine lv_iload_n hx hb dX8_behind_7 rfl (lv_at hl 0 rfl) ?_
  have hJ43 : ∀ (v2 : Int32) (σ3 : PH), j_X8_behind_43 v2 σ3 = some u → ∀ (H : Heap) (locs : List Loc) (ls : Array Slot), lv_has ls 4 [(0, .ref (a 0)), (3, .int v2)] → va_P D vwCl (wl a cA σ3 d) H → va_S A s.heap H locs → W p l e R s m args below meth c H locs 0 0 Q (F0 m 43 ls []) := by
    intro v2 σ3 hf H locs ls hl hP hS
    unfold j_X8_behind_43 at hf
    refine lv_iload_n hx hb dX8_behind_43 rfl (lv_at hl 1 rfl) ?_
    refine lv_if_eq (tgt := 53) hx hb dX8_behind_44 (by decide) (fun hb3 => ?_) (fun hb3 => ?_)
    · have hf := ifT hb3 hf
      refine lv_aload_n hx hb dX8_behind_53 rfl (lv_at hl 0 rfl) ?_
      refine zg_X8_43 hx hb C hP (by decide) lay_0 rfl dX8_behind_54 ?_
      refine zg_X8_300 hx hb C hP (by decide) lay_11 rfl dX8_behind_57 ?_
      refine lv_aload_n hx hb dX8_behind_60 rfl (lv_at hl 0 rfl) ?_
      refine zg_X8_43 hx hb C hP (by decide) lay_0 rfl dX8_behind_61 ?_
      refine zg_X8_301 hx hb C hP (by decide) lay_11 rfl dX8_behind_64 ?_
      obtain ⟨u5, hzu5⟩ : ∃ z, z = f_X7_countIn (gJ σ3 11 4) (gJ σ3 11 5) := ⟨_, rfl⟩
      have hf := bnd_at u5 hzu5 hf
      refine zz_callSi (rest := []) hx hb hml C hP hS (c_X7_countIn l hDA (gJ σ3 11 4) (gJ σ3 11 5) hzu5.symm) zw_X8_302 ⟨Nat.le_trans (Nat.le_of_ble_eq_true rfl) hRf, Nat.le_trans (Nat.le_of_ble_eq_true rfl) hRl⟩  rfl hl.1 (Nat.le_of_ble_eq_true rfl) ⟨Nat.zero_le _, Nat.zero_le _⟩ rfl dX8_behind_67 (fun H locs hP hS => ?_)
      have hf := Option.some.inj hf
      subst hf
      exact hQ _ _ _ _ dX8_behind_70 hP hS
    · have hf := ifF hb3 hf
      refine lv_aload_n hx hb dX8_behind_47 rfl (lv_at hl 0 rfl) ?_
      refine lv_iload_n hx hb dX8_behind_48 rfl (lv_at hl 1 rfl) ?_
      obtain ⟨u6, hzu6, hf⟩ := obd_some hf
      refine zz_callVi (rest := []) hx hb hml C hP hS (c_X8_refuse l hDA v2 hzu6) zw_X8_73 ⟨Nat.le_trans (Nat.le_of_ble_eq_true rfl) hRf, Nat.le_trans (Nat.le_of_ble_eq_true rfl) hRl⟩ (by decide) lay_0 rfl rfl hl.1 (Nat.le_of_ble_eq_true rfl) ⟨Nat.zero_le _, Nat.zero_le _⟩ rfl dX8_behind_49 (fun H locs hP hS => ?_)
      have hf := Option.some.inj hf
      subst hf
      exact hQ _ _ _ _ dX8_behind_52 hP hS
  refine lv_if_ne (tgt := 43) hx hb dX8_behind_8 (by decide) (fun hb6 => ?_) (fun hb6 => ?_)
  · have hf := ifF hb6 hf
    exact hJ43 _ _ hf _ _ _ (lv_sub hl [1, 0] rfl) hP hS
  · have hf := ifT hb6 hf
    refine lv_iload_n hx hb dX8_behind_11 rfl (lv_at hl 3 rfl) ?_
    obtain ⟨u8, hzu8⟩ : ∃ z, z = f_X8_isToldInPairs p2 := ⟨_, rfl⟩
    have hf := bnd_at u8 hzu8 hf
    refine zz_callSi (rest := []) hx hb hml C hP hS (c_X8_isToldInPairs l hDA p2 hzu8.symm) zw_X8_297 ⟨Nat.le_trans (Nat.le_of_ble_eq_true rfl) hRf, Nat.le_trans (Nat.le_of_ble_eq_true rfl) hRl⟩  rfl hl.1 (Nat.le_of_ble_eq_true rfl) ⟨Nat.zero_le _, Nat.zero_le _⟩ rfl dX8_behind_12 (fun H locs hP hS => ?_)
    have hJ40 : ∀ (σ9 : PH), j_X8_behind_40 σ9 = some u → ∀ (H : Heap) (locs : List Loc) (ls : Array Slot), lv_has ls 4 [(0, .ref (a 0))] → va_P D vwCl (wl a cA σ9 d) H → va_S A s.heap H locs → W p l e R s m args below meth c H locs 0 0 Q (F0 m 40 ls []) := by
      intro σ9 hf H locs ls hl hP hS
      unfold j_X8_behind_40 at hf
      refine lv_bipush (v := (-6)) hx hb dX8_behind_40 (by decide) ?_
      refine lv_istore_n (lv' := [(3, .int (-6)), (0, .ref (a 0))]) hx hb dX8_behind_42 rfl hl (by decide) rfl (fun ls hl => ?_)
      exact hJ43 _ _ hf _ _ _ (lv_sub hl [1, 0] rfl) hP hS
    refine lv_if_eq (tgt := 40) hx hb dX8_behind_15 (by decide) (fun hb9 => ?_) (fun hb9 => ?_)
    · have hf := ifT hb9 hf
      exact hJ40 _ hf _ _ _ (lv_sub hl [1] rfl) hP hS
    · have hf := ifF hb9 hf
      refine lv_aload_n hx hb dX8_behind_18 rfl (lv_at hl 1 rfl) ?_
      refine zg_X8_43 hx hb C hP (by decide) lay_0 rfl dX8_behind_19 ?_
      refine lv_aload_n hx hb dX8_behind_22 rfl (lv_at hl 1 rfl) ?_
      refine zg_X8_50 hx hb C hP (by decide) lay_0 rfl dX8_behind_23 ?_
      refine lv_aload_n hx hb dX8_behind_26 rfl (lv_at hl 1 rfl) ?_
      refine zg_X8_11 hx hb C hP (by decide) lay_0 rfl dX8_behind_27 ?_
      refine lv_iload_n hx hb dX8_behind_30 rfl (lv_at hl 2 rfl) ?_
      obtain ⟨hc10, hf⟩ := chk_some hf
      refine zz_shelf hx hb C hP (inb_vp hc10) dX8_behind_31 (fun r12 er12 hr12 => ?_)
      have hf := bnd_at r12 er12 hf
      refine lv_iload_n hx hb dX8_behind_32 rfl (lv_at hl 3 rfl) ?_
      obtain ⟨u13, hzu13, hf⟩ := obd_some hf
      refine zz_callVi (rest := []) hx hb hml C hP hS (c_X5_firstWrong l hDA (h := d.1) hd1 (sh2 := r12) hr12 p2 hzu13) zw_X8_293 ⟨Nat.le_trans (Nat.le_of_ble_eq_true rfl) hRf, Nat.le_trans (Nat.le_of_ble_eq_true rfl) hRl⟩ (by decide) lay_11 rfl rfl hl.1 (Nat.le_of_ble_eq_true rfl) ⟨Nat.zero_le _, Nat.zero_le _⟩ rfl dX8_behind_33 (fun H locs hP hS => ?_)
      refine lv_iconst (v := (-1)) hx hb dX8_behind_36 (by decide) ?_
      refine lv_icmp_eq (tgt := 43) hx hb dX8_behind_37 (by decide) (fun hb13 => ?_) (fun hb13 => ?_)
      · have hf := ifT hb13 hf
        exact hJ43 _ _ hf _ _ _ (lv_sub hl [1, 0] rfl) hP hS
      · have hf := ifF hb13 hf
        exact hJ40 _ hf _ _ _ (lv_sub hl [1] rfl) hP hS
set_option maxHeartbeats 4000000 in
set_option maxRecDepth 100000 in
theorem c_X8_byEar (l : Launch) {D : va_G} {a : Nat → Nat} {cA : Nat → ClassId} {A : Nat → Prop} {sa : Nat → Nat} (hDA : DA a A) {σ : PH} {d : PD} (hd1 : isHall d.1) (p1 : Int32) (p2 : Int32) {u : Int32 × PH} (hf : f_X8_byEar σ d p1 p2 = some u) : CTi l yX8_byEar cX8_byEar 4 (some .int) 5 131 D a cA A sa [.ref (a 0), .int p1, .int p2] σ d u.1 u.2 d := by
  refine zz_metI zpl_X8 hDA (Nat.le_of_ble_eq_true rfl) ?_
  intro p e R s m args below meth c Q ls hx hb hml C hRf hRl hQ hP hS hl
  have hl : lv_has ls 4 [(0, .ref (a 0)), (1, .int p1), (2, .int p2)] := hl
  unfold f_X8_byEar at hf
  refine lv_aload_n hx hb dX8_byEar_0 rfl (lv_at hl 0 rfl) ?_
  refine lv_iload_n hx hb dX8_byEar_1 rfl (lv_at hl 1 rfl) ?_
  refine lv_iload_n hx hb dX8_byEar_2 rfl (lv_at hl 2 rfl) ?_
  obtain ⟨u1, hzu1, hf⟩ := obd_some hf
  refine zz_callVi (rest := []) hx hb hml C hP hS (c_X8_lackOfTold l hDA p1 p2 hzu1) zw_X8_276 ⟨Nat.le_trans (Nat.le_of_ble_eq_true rfl) hRf, Nat.le_trans (Nat.le_of_ble_eq_true rfl) hRl⟩ (by decide) lay_0 rfl rfl hl.1 (Nat.le_of_ble_eq_true rfl) ⟨Nat.zero_le _, Nat.zero_le _⟩ rfl dX8_byEar_3 (fun H locs hP hS => ?_)
  refine lv_istore_n (lv' := [(3, .int u1), (0, .ref (a 0)), (1, .int p1), (2, .int p2)]) hx hb dX8_byEar_6 rfl hl (by decide) rfl (fun ls hl => ?_)
  refine lv_iload_n hx hb dX8_byEar_7 rfl (lv_at hl 0 rfl) ?_
  have hJ27 : ∀ (v2 : Int32), j_X8_byEar_27 σ d p1 p2 v2 = some u → ∀ (H : Heap) (locs : List Loc) (ls : Array Slot), lv_has ls 4 [(0, .ref (a 0)), (1, .int p1), (2, .int p2), (3, .int v2)] → va_P D vwCl (wl a cA σ d) H → va_S A s.heap H locs → W p l e R s m args below meth c H locs 0 0 Q (F0 m 27 ls []) := by
    intro v2 hf H locs ls hl hP hS
    unfold j_X8_byEar_27 at hf
    refine lv_iload_n hx hb dX8_byEar_27 rfl (lv_at hl 3 rfl) ?_
    have hJ62 : ∀ (v3 : Int32), j_X8_byEar_62 σ d p1 p2 v3 = some u → ∀ (H : Heap) (locs : List Loc) (ls : Array Slot), lv_has ls 4 [(0, .ref (a 0)), (1, .int p1), (2, .int p2), (3, .int v3)] → va_P D vwCl (wl a cA σ d) H → va_S A s.heap H locs → W p l e R s m args below meth c H locs 0 0 Q (F0 m 62 ls []) := by
      intro v3 hf H locs ls hl hP hS
      unfold j_X8_byEar_62 at hf
      refine lv_iload_n hx hb dX8_byEar_62 rfl (lv_at hl 3 rfl) ?_
      refine lv_if_eq (tgt := 72) hx hb dX8_byEar_63 (by decide) (fun hb3 => ?_) (fun hb3 => ?_)
      · have hf := ifT hb3 hf
        refine lv_aload_n hx hb dX8_byEar_72 rfl (lv_at hl 0 rfl) ?_
        refine zg_X8_43 hx hb C hP (by decide) lay_0 rfl dX8_byEar_73 ?_
        refine lv_aload_n hx hb dX8_byEar_76 rfl (lv_at hl 0 rfl) ?_
        refine zg_X8_50 hx hb C hP (by decide) lay_0 rfl dX8_byEar_77 ?_
        refine lv_aload_n hx hb dX8_byEar_80 rfl (lv_at hl 0 rfl) ?_
        refine zg_X8_11 hx hb C hP (by decide) lay_0 rfl dX8_byEar_81 ?_
        refine lv_iload_n hx hb dX8_byEar_84 rfl (lv_at hl 1 rfl) ?_
        obtain ⟨hc4, hf⟩ := chk_some hf
        refine zz_shelf hx hb C hP (inb_vp hc4) dX8_byEar_85 (fun r6 er6 hr6 => ?_)
        have hf := bnd_at r6 er6 hf
        refine lv_iload_n hx hb dX8_byEar_86 rfl (lv_at hl 2 rfl) ?_
        obtain ⟨u7, hzu7, hf⟩ := obd_some hf
        refine zz_callVi (rest := []) hx hb hml C hP hS (c_X5_likeliestByEar l hDA (h := d.1) hd1 (sh2 := r6) hr6 p2 hzu7) zw_X8_308 ⟨Nat.le_trans (Nat.le_of_ble_eq_true rfl) hRf, Nat.le_trans (Nat.le_of_ble_eq_true rfl) hRl⟩ (by decide) lay_11 rfl rfl hl.1 (Nat.le_of_ble_eq_true rfl) ⟨Nat.zero_le _, Nat.zero_le _⟩ rfl dX8_byEar_87 (fun H locs hP hS => ?_)
        have hf := Option.some.inj hf
        subst hf
        exact hQ _ _ _ _ dX8_byEar_90 hP hS
      · have hf := ifF hb3 hf
        refine lv_aload_n hx hb dX8_byEar_66 rfl (lv_at hl 0 rfl) ?_
        refine lv_iload_n hx hb dX8_byEar_67 rfl (lv_at hl 3 rfl) ?_
        obtain ⟨u8, hzu8, hf⟩ := obd_some hf
        refine zz_callVi (rest := []) hx hb hml C hP hS (c_X8_refuse l hDA v3 hzu8) zw_X8_73 ⟨Nat.le_trans (Nat.le_of_ble_eq_true rfl) hRf, Nat.le_trans (Nat.le_of_ble_eq_true rfl) hRl⟩ (by decide) lay_0 rfl rfl hl.1 (Nat.le_of_ble_eq_true rfl) ⟨Nat.zero_le _, Nat.zero_le _⟩ rfl dX8_byEar_68 (fun H locs hP hS => ?_)
        have hf := Option.some.inj hf
        subst hf
        exact hQ _ _ _ _ dX8_byEar_71 hP hS
    refine lv_if_ne (tgt := 62) hx hb dX8_byEar_28 (by decide) (fun hb8 => ?_) (fun hb8 => ?_)
    · have hf := ifF hb8 hf
      exact hJ62 _ hf _ _ _ (lv_sub hl [0, 1, 2, 3] rfl) hP hS
    · have hf := ifT hb8 hf
      refine lv_iload_n hx hb dX8_byEar_31 rfl (lv_at hl 2 rfl) ?_
      obtain ⟨u10, hzu10⟩ : ∃ z, z = f_X8_isToldInPairs p2 := ⟨_, rfl⟩
      have hf := bnd_at u10 hzu10 hf
      refine zz_callSi (rest := []) hx hb hml C hP hS (c_X8_isToldInPairs l hDA p2 hzu10.symm) zw_X8_297 ⟨Nat.le_trans (Nat.le_of_ble_eq_true rfl) hRf, Nat.le_trans (Nat.le_of_ble_eq_true rfl) hRl⟩  rfl hl.1 (Nat.le_of_ble_eq_true rfl) ⟨Nat.zero_le _, Nat.zero_le _⟩ rfl dX8_byEar_32 (fun H locs hP hS => ?_)
      have hJ59 : j_X8_byEar_59 σ d p1 p2 = some u → ∀ (H : Heap) (locs : List Loc) (ls : Array Slot), lv_has ls 4 [(0, .ref (a 0)), (1, .int p1), (2, .int p2)] → va_P D vwCl (wl a cA σ d) H → va_S A s.heap H locs → W p l e R s m args below meth c H locs 0 0 Q (F0 m 59 ls []) := by
        intro  hf H locs ls hl hP hS
        unfold j_X8_byEar_59 at hf
        refine lv_bipush (v := (-6)) hx hb dX8_byEar_59 (by decide) ?_
        refine lv_istore_n (lv' := [(3, .int (-6)), (0, .ref (a 0)), (1, .int p1), (2, .int p2)]) hx hb dX8_byEar_61 rfl hl (by decide) rfl (fun ls hl => ?_)
        exact hJ62 _ hf _ _ _ (lv_sub hl [1, 2, 3, 0] rfl) hP hS
      refine lv_if_eq (tgt := 59) hx hb dX8_byEar_35 (by decide) (fun hb10 => ?_) (fun hb10 => ?_)
      · have hf := ifT hb10 hf
        exact hJ59  hf _ _ _ (lv_sub hl [0, 1, 2] rfl) hP hS
      · have hf := ifF hb10 hf
        refine lv_aload_n hx hb dX8_byEar_38 rfl (lv_at hl 0 rfl) ?_
        refine zg_X8_43 hx hb C hP (by decide) lay_0 rfl dX8_byEar_39 ?_
        refine lv_aload_n hx hb dX8_byEar_42 rfl (lv_at hl 0 rfl) ?_
        refine zg_X8_50 hx hb C hP (by decide) lay_0 rfl dX8_byEar_43 ?_
        refine lv_aload_n hx hb dX8_byEar_46 rfl (lv_at hl 0 rfl) ?_
        refine zg_X8_11 hx hb C hP (by decide) lay_0 rfl dX8_byEar_47 ?_
        refine lv_iload_n hx hb dX8_byEar_50 rfl (lv_at hl 1 rfl) ?_
        obtain ⟨hc11, hf⟩ := chk_some hf
        refine zz_shelf hx hb C hP (inb_vp hc11) dX8_byEar_51 (fun r13 er13 hr13 => ?_)
        have hf := bnd_at r13 er13 hf
        refine lv_iload_n hx hb dX8_byEar_52 rfl (lv_at hl 2 rfl) ?_
        obtain ⟨u14, hzu14, hf⟩ := obd_some hf
        refine zz_callVi (rest := []) hx hb hml C hP hS (c_X5_arePairs l hDA (h := d.1) hd1 (sh2 := r13) hr13 p2 hzu14) zw_X8_305 ⟨Nat.le_trans (Nat.le_of_ble_eq_true rfl) hRf, Nat.le_trans (Nat.le_of_ble_eq_true rfl) hRl⟩ (by decide) lay_11 rfl rfl hl.1 (Nat.le_of_ble_eq_true rfl) ⟨Nat.zero_le _, Nat.zero_le _⟩ rfl dX8_byEar_53 (fun H locs hP hS => ?_)
        refine lv_if_ne (tgt := 62) hx hb dX8_byEar_56 (by decide) (fun hb14 => ?_) (fun hb14 => ?_)
        · have hf := ifF hb14 hf
          exact hJ62 _ hf _ _ _ (lv_sub hl [0, 1, 2, 3] rfl) hP hS
        · have hf := ifT hb14 hf
          exact hJ59  hf _ _ _ (lv_sub hl [0, 1, 2] rfl) hP hS
  refine lv_if_ne (tgt := 27) hx hb dX8_byEar_8 (by decide) (fun hb15 => ?_) (fun hb15 => ?_)
  · have hf := ifF hb15 hf
    exact hJ27 _ hf _ _ _ (lv_sub hl [1, 2, 3, 0] rfl) hP hS
  · have hf := ifT hb15 hf
    refine lv_aload_n hx hb dX8_byEar_11 rfl (lv_at hl 1 rfl) ?_
    refine zg_X8_50 hx hb C hP (by decide) lay_0 rfl dX8_byEar_12 ?_
    refine zg_X8_109 hx hb C hP (lth0 hd1) (lay_h0 hd1) rfl dX8_byEar_15 ?_
    refine zg_X8_150 hx hb C hP (lth hd1 1 (by decide)) (lay_h1 hd1) rfl dX8_byEar_18 ?_
    refine lv_if_ne (tgt := 27) hx hb dX8_byEar_21 (by decide) (fun hb16 => ?_) (fun hb16 => ?_)
    · have hf := ifF hb16 hf
      exact hJ27 _ hf _ _ _ (lv_sub hl [1, 2, 3, 0] rfl) hP hS
    · have hf := ifT hb16 hf
      refine lv_bipush (v := (-5)) hx hb dX8_byEar_24 (by decide) ?_
      refine lv_istore_n (lv' := [(3, .int (-5)), (0, .ref (a 0)), (1, .int p1), (2, .int p2)]) hx hb dX8_byEar_26 rfl hl (by decide) rfl (fun ls hl => ?_)
      exact hJ27 _ hf _ _ _ (lv_sub hl [1, 2, 3, 0] rfl) hP hS
set_option maxHeartbeats 4000000 in
set_option maxRecDepth 100000 in
theorem c_X8_beside (l : Launch) {D : va_G} {a : Nat → Nat} {cA : Nat → ClassId} {A : Nat → Prop} {sa : Nat → Nat} (hDA : DA a A) {σ : PH} {d : PD} (hd1 : isHall d.1)  {u : Int32 × PH} (hf : f_X8_beside σ d = some u) : CTi l yX8_beside cX8_beside 1 (some .int) 6 144 D a cA A sa [.ref (a 0)] σ d u.1 u.2 d := by
  refine zz_metI zpl_X8 hDA (Nat.le_of_ble_eq_true rfl) ?_
  intro p e R s m args below meth c Q ls hx hb hml C hRf hRl hQ hP hS hl
  have hl : lv_has ls 1 [(0, .ref (a 0))] := hl
  unfold f_X8_beside at hf
  refine lv_aload_n hx hb dX8_beside_0 rfl (lv_at hl 0 rfl) ?_
  refine zg_X8_50 hx hb C hP (by decide) lay_0 rfl dX8_beside_1 ?_
  obtain ⟨u1, hzu1, hf⟩ := obd_some hf
  refine zz_callVi (rest := []) hx hb hml C hP hS (c_X2_firstToChange l hDA (h := d.1) hd1 hzu1) zw_X8_311 ⟨Nat.le_trans (Nat.le_of_ble_eq_true rfl) hRf, Nat.le_trans (Nat.le_of_ble_eq_true rfl) hRl⟩ (lth0 hd1) (lay_h0 hd1) rfl rfl hl.1 (Nat.le_of_ble_eq_true rfl) ⟨Nat.zero_le _, Nat.zero_le _⟩ rfl dX8_beside_4 (fun H locs hP hS => ?_)
  have hf := Option.some.inj hf
  subst hf
  exact hQ _ _ _ _ dX8_beside_7 hP hS
set_option maxHeartbeats 4000000 in
set_option maxRecDepth 100000 in
theorem c_X8_quiet (l : Launch) {D : va_G} {a : Nat → Nat} {cA : Nat → ClassId} {A : Nat → Prop} {sa : Nat → Nat} (hDA : DA a A) {σ : PH} {d : PD} (hd1 : isHall d.1)  {u : Int32 × PH} (hf : f_X8_quiet σ d = some u) : CTi l yX8_quiet cX8_quiet 1 (some .int) 6 145 D a cA A sa [.ref (a 0)] σ d u.1 u.2 d := by
  refine zz_metI zpl_X8 hDA (Nat.le_of_ble_eq_true rfl) ?_
  intro p e R s m args below meth c Q ls hx hb hml C hRf hRl hQ hP hS hl
  have hl : lv_has ls 1 [(0, .ref (a 0))] := hl
  unfold f_X8_quiet at hf
  refine lv_aload_n hx hb dX8_quiet_0 rfl (lv_at hl 0 rfl) ?_
  refine zg_X8_50 hx hb C hP (by decide) lay_0 rfl dX8_quiet_1 ?_
  refine zg_X8_109 hx hb C hP (lth0 hd1) (lay_h0 hd1) rfl dX8_quiet_4 ?_
  refine zg_X8_150 hx hb C hP (lth hd1 1 (by decide)) (lay_h1 hd1) rfl dX8_quiet_7 ?_
  refine lv_if_ne (tgt := 20) hx hb dX8_quiet_10 (by decide) (fun hb0 => ?_) (fun hb0 => ?_)
  · have hf := ifF hb0 hf
    refine lv_aload_n hx hb dX8_quiet_20 rfl (lv_at hl 0 rfl) ?_
    refine zg_X8_50 hx hb C hP (by decide) lay_0 rfl dX8_quiet_21 ?_
    obtain ⟨u2, hzu2, hf⟩ := obd_some hf
    refine zz_callVi (rest := []) hx hb hml C hP hS (c_X2_mostQuiet l hDA (h := d.1) hd1 hzu2) zw_X8_314 ⟨Nat.le_trans (Nat.le_of_ble_eq_true rfl) hRf, Nat.le_trans (Nat.le_of_ble_eq_true rfl) hRl⟩ (lth0 hd1) (lay_h0 hd1) rfl rfl hl.1 (Nat.le_of_ble_eq_true rfl) ⟨Nat.zero_le _, Nat.zero_le _⟩ rfl dX8_quiet_24 (fun H locs hP hS => ?_)
    have hf := Option.some.inj hf
    subst hf
    exact hQ _ _ _ _ dX8_quiet_27 hP hS
  · have hf := ifT hb0 hf
    refine lv_aload_n hx hb dX8_quiet_13 rfl (lv_at hl 0 rfl) ?_
    refine lv_bipush (v := (-5)) hx hb dX8_quiet_14 (by decide) ?_
    obtain ⟨u3, hzu3, hf⟩ := obd_some hf
    refine zz_callVi (rest := []) hx hb hml C hP hS (c_X8_refuse l hDA (-5) hzu3) zw_X8_73 ⟨Nat.le_trans (Nat.le_of_ble_eq_true rfl) hRf, Nat.le_trans (Nat.le_of_ble_eq_true rfl) hRl⟩ (by decide) lay_0 rfl rfl hl.1 (Nat.le_of_ble_eq_true rfl) ⟨Nat.zero_le _, Nat.zero_le _⟩ rfl dX8_quiet_16 (fun H locs hP hS => ?_)
    have hf := Option.some.inj hf
    subst hf
    exact hQ _ _ _ _ dX8_quiet_19 hP hS
set_option maxHeartbeats 4000000 in
set_option maxRecDepth 100000 in
theorem c_X8_swap (l : Launch) {D : va_G} {a : Nat → Nat} {cA : Nat → ClassId} {A : Nat → Prop} {sa : Nat → Nat} (hDA : DA a A) {σ : PH} {d : PD} (hd1 : isHall d.1) (p1 : Int32) (p2 : Int32) {u : Int32 × PH} (hf : f_X8_swap σ d p1 p2 = some u) : CTi l yX8_swap cX8_swap 3 (some .int) 5 113 D a cA A sa [.ref (a 0), .int p1, .int p2] σ d u.1 u.2 d := by
  refine zz_metI zpl_X8 hDA (Nat.le_of_ble_eq_true rfl) ?_
  intro p e R s m args below meth c Q ls hx hb hml C hRf hRl hQ hP hS hl
  have hl : lv_has ls 3 [(0, .ref (a 0)), (1, .int p1), (2, .int p2)] := hl
  unfold f_X8_swap at hf
  refine lv_aload_n hx hb dX8_swap_0 rfl (lv_at hl 0 rfl) ?_
  refine zg_X8_50 hx hb C hP (by decide) lay_0 rfl dX8_swap_1 ?_
  refine zg_X8_109 hx hb C hP (lth0 hd1) (lay_h0 hd1) rfl dX8_swap_4 ?_
  refine lv_iload_n hx hb dX8_swap_7 rfl (lv_at hl 1 rfl) ?_
  obtain ⟨u1, hzu1⟩ : ∃ z, z = f_X0_has σ d.1 p1 := ⟨_, rfl⟩
  have hf := bnd_at u1 hzu1 hf
  refine zz_callVi (rest := []) hx hb hml C hP hS (c_X0_has l hDA (h := d.1) hd1 p1 hzu1.symm) zw_X8_113 ⟨Nat.le_trans (Nat.le_of_ble_eq_true rfl) hRf, Nat.le_trans (Nat.le_of_ble_eq_true rfl) hRl⟩ (lth hd1 1 (by decide)) (lay_h1 hd1) rfl rfl hl.1 (Nat.le_of_ble_eq_true rfl) ⟨Nat.zero_le _, Nat.zero_le _⟩ rfl dX8_swap_8 (fun H locs hP hS => ?_)
  refine lv_if_eq (tgt := 28) hx hb dX8_swap_11 (by decide) (fun hb1 => ?_) (fun hb1 => ?_)
  · have hf := ifT hb1 hf
    refine lv_aload_n hx hb dX8_swap_28 rfl (lv_at hl 0 rfl) ?_
    refine lv_iconst (v := (-1)) hx hb dX8_swap_29 (by decide) ?_
    obtain ⟨u3, hzu3, hf⟩ := obd_some hf
    refine zz_callVi (rest := []) hx hb hml C hP hS (c_X8_refuse l hDA (-1) hzu3) zw_X8_73 ⟨Nat.le_trans (Nat.le_of_ble_eq_true rfl) hRf, Nat.le_trans (Nat.le_of_ble_eq_true rfl) hRl⟩ (by decide) lay_0 rfl rfl hl.1 (Nat.le_of_ble_eq_true rfl) ⟨Nat.zero_le _, Nat.zero_le _⟩ rfl dX8_swap_30 (fun H locs hP hS => ?_)
    have hf := Option.some.inj hf
    subst hf
    exact hQ _ _ _ _ dX8_swap_33 hP hS
  · have hf := ifF hb1 hf
    refine lv_aload_n hx hb dX8_swap_14 rfl (lv_at hl 0 rfl) ?_
    refine zg_X8_50 hx hb C hP (by decide) lay_0 rfl dX8_swap_15 ?_
    refine zg_X8_109 hx hb C hP (lth0 hd1) (lay_h0 hd1) rfl dX8_swap_18 ?_
    refine lv_iload_n hx hb dX8_swap_21 rfl (lv_at hl 2 rfl) ?_
    obtain ⟨u4, hzu4⟩ : ∃ z, z = f_X0_has σ d.1 p2 := ⟨_, rfl⟩
    have hf := bnd_at u4 hzu4 hf
    refine zz_callVi (rest := []) hx hb hml C hP hS (c_X0_has l hDA (h := d.1) hd1 p2 hzu4.symm) zw_X8_113 ⟨Nat.le_trans (Nat.le_of_ble_eq_true rfl) hRf, Nat.le_trans (Nat.le_of_ble_eq_true rfl) hRl⟩ (lth hd1 1 (by decide)) (lay_h1 hd1) rfl rfl hl.1 (Nat.le_of_ble_eq_true rfl) ⟨Nat.zero_le _, Nat.zero_le _⟩ rfl dX8_swap_22 (fun H locs hP hS => ?_)
    refine lv_if_ne (tgt := 34) hx hb dX8_swap_25 (by decide) (fun hb4 => ?_) (fun hb4 => ?_)
    · have hf := ifF hb4 hf
      refine lv_iload_n hx hb dX8_swap_34 rfl (lv_at hl 1 rfl) ?_
      refine lv_iload_n hx hb dX8_swap_35 rfl (lv_at hl 2 rfl) ?_
      refine lv_icmp_ne (tgt := 46) hx hb dX8_swap_36 (by decide) (fun hb5 => ?_) (fun hb5 => ?_)
      · have hf := ifF hb5 hf
        refine lv_aload_n hx hb dX8_swap_46 rfl (lv_at hl 0 rfl) ?_
        refine zg_X8_50 hx hb C hP (by decide) lay_0 rfl dX8_swap_47 ?_
        refine lv_iload_n hx hb dX8_swap_50 rfl (lv_at hl 1 rfl) ?_
        refine lv_iload_n hx hb dX8_swap_51 rfl (lv_at hl 2 rfl) ?_
        obtain ⟨u7, hzu7, hf⟩ := obd_some hf
        refine zz_callVv (rest := []) hx hb hml C hP hS (c_X2_changePlaces l hDA (h := d.1) hd1 p1 p2 hzu7) zw_X8_317 ⟨Nat.le_trans (Nat.le_of_ble_eq_true rfl) hRf, Nat.le_trans (Nat.le_of_ble_eq_true rfl) hRl⟩ (lth0 hd1) (lay_h0 hd1) rfl rfl hl.1 (Nat.le_of_ble_eq_true rfl) ⟨Nat.zero_le _, Nat.zero_le _⟩ rfl dX8_swap_52 (fun H locs hP hS => ?_)
        refine lv_iconst (v := 1) hx hb dX8_swap_55 (by decide) ?_
        have hf := Option.some.inj hf
        subst hf
        exact hQ _ _ _ _ dX8_swap_56 hP hS
      · have hf := ifT hb5 hf
        refine lv_aload_n hx hb dX8_swap_39 rfl (lv_at hl 0 rfl) ?_
        refine lv_bipush (v := (-6)) hx hb dX8_swap_40 (by decide) ?_
        obtain ⟨u8, hzu8, hf⟩ := obd_some hf
        refine zz_callVi (rest := []) hx hb hml C hP hS (c_X8_refuse l hDA (-6) hzu8) zw_X8_73 ⟨Nat.le_trans (Nat.le_of_ble_eq_true rfl) hRf, Nat.le_trans (Nat.le_of_ble_eq_true rfl) hRl⟩ (by decide) lay_0 rfl rfl hl.1 (Nat.le_of_ble_eq_true rfl) ⟨Nat.zero_le _, Nat.zero_le _⟩ rfl dX8_swap_42 (fun H locs hP hS => ?_)
        have hf := Option.some.inj hf
        subst hf
        exact hQ _ _ _ _ dX8_swap_45 hP hS
    · have hf := ifT hb4 hf
      refine lv_aload_n hx hb dX8_swap_28 rfl (lv_at hl 0 rfl) ?_
      refine lv_iconst (v := (-1)) hx hb dX8_swap_29 (by decide) ?_
      obtain ⟨u9, hzu9, hf⟩ := obd_some hf
      refine zz_callVi (rest := []) hx hb hml C hP hS (c_X8_refuse l hDA (-1) hzu9) zw_X8_73 ⟨Nat.le_trans (Nat.le_of_ble_eq_true rfl) hRf, Nat.le_trans (Nat.le_of_ble_eq_true rfl) hRl⟩ (by decide) lay_0 rfl rfl hl.1 (Nat.le_of_ble_eq_true rfl) ⟨Nat.zero_le _, Nat.zero_le _⟩ rfl dX8_swap_30 (fun H locs hP hS => ?_)
      have hf := Option.some.inj hf
      subst hf
      exact hQ _ _ _ _ dX8_swap_33 hP hS
set_option maxHeartbeats 4000000 in
set_option maxRecDepth 100000 in
theorem c_X8_isTrue (l : Launch) {D : va_G} {a : Nat → Nat} {cA : Nat → ClassId} {A : Nat → Prop} {sa : Nat → Nat} (hDA : DA a A) {σ : PH} {d : PD} (hd1 : isHall d.1) (p1 : Int32) {u : Int32 × PH} (hf : f_X8_isTrue σ d p1 = some u) : CTi l yX8_isTrue cX8_isTrue 4 (some .int) 3 61 D a cA A sa [.ref (a 0), .int p1] σ d u.1 u.2 d := by
  refine zz_metI zpl_X8 hDA (Nat.le_of_ble_eq_true rfl) ?_
  intro p e R s m args below meth c Q ls hx hb hml C hRf hRl hQ hP hS hl
  have hl : lv_has ls 4 [(0, .ref (a 0)), (1, .int p1)] := hl
  unfold f_X8_isTrue at hf
  refine lv_aload_n hx hb dX8_isTrue_0 rfl (lv_at hl 0 rfl) ?_
  refine zg_X8_50 hx hb C hP (by decide) lay_0 rfl dX8_isTrue_1 ?_
  refine zg_X8_190 hx hb C hP (lth0 hd1) (lay_h0 hd1) rfl dX8_isTrue_4 ?_
  refine lv_iload_n hx hb dX8_isTrue_7 rfl (lv_at hl 1 rfl) ?_
  obtain ⟨u1, hzu1, hf⟩ := obd_some hf
  refine zz_callVi (rest := []) hx hb hml C hP hS (c_X7_indexOf l hDA (h := d.1) hd1 p1 hzu1) zw_X8_204 ⟨Nat.le_trans (Nat.le_of_ble_eq_true rfl) hRf, Nat.le_trans (Nat.le_of_ble_eq_true rfl) hRl⟩ (lth hd1 7 (by decide)) (lay_h7 hd1) rfl rfl hl.1 (Nat.le_of_ble_eq_true rfl) ⟨Nat.zero_le _, Nat.zero_le _⟩ rfl dX8_isTrue_8 (fun H locs hP hS => ?_)
  refine lv_istore_n (lv' := [(2, .int u1), (0, .ref (a 0)), (1, .int p1)]) hx hb dX8_isTrue_11 rfl hl (by decide) rfl (fun ls hl => ?_)
  refine lv_iload_n hx hb dX8_isTrue_12 rfl (lv_at hl 0 rfl) ?_
  refine lv_iconst (v := (-1)) hx hb dX8_isTrue_13 (by decide) ?_
  refine lv_icmp_ne (tgt := 24) hx hb dX8_isTrue_14 (by decide) (fun hb1 => ?_) (fun hb1 => ?_)
  · have hf := ifF hb1 hf
    refine lv_aload_n hx hb dX8_isTrue_24 rfl (lv_at hl 1 rfl) ?_
    refine zg_X8_50 hx hb C hP (by decide) lay_0 rfl dX8_isTrue_25 ?_
    obtain ⟨u3, hzu3, hf⟩ := obd_some hf
    refine zz_callVi (rest := []) hx hb hml C hP hS (c_X2_trueWorld l hDA (h := d.1) hd1 hzu3) zw_X8_320 ⟨Nat.le_trans (Nat.le_of_ble_eq_true rfl) hRf, Nat.le_trans (Nat.le_of_ble_eq_true rfl) hRl⟩ (lth0 hd1) (lay_h0 hd1) rfl rfl hl.1 (Nat.le_of_ble_eq_true rfl) ⟨Nat.zero_le _, Nat.zero_le _⟩ rfl dX8_isTrue_28 (fun H locs hP hS => ?_)
    refine lv_istore_n (lv' := [(3, .int u3), (2, .int u1), (0, .ref (a 0)), (1, .int p1)]) hx hb dX8_isTrue_31 rfl hl (by decide) rfl (fun ls hl => ?_)
    refine lv_aload_n hx hb dX8_isTrue_32 rfl (lv_at hl 2 rfl) ?_
    refine zg_X8_50 hx hb C hP (by decide) lay_0 rfl dX8_isTrue_33 ?_
    refine lv_iload_n hx hb dX8_isTrue_36 rfl (lv_at hl 1 rfl) ?_
    obtain ⟨u4, hzu4⟩ : ∃ z, z = f_X2_makeTrue σ d.1 u1 := ⟨_, rfl⟩
    have hf := bnd_at u4 hzu4 hf
    refine zz_callVv (rest := []) hx hb hml C hP hS (c_X2_makeTrue l hDA (h := d.1) hd1 u1 hzu4.symm) zw_X8_323 ⟨Nat.le_trans (Nat.le_of_ble_eq_true rfl) hRf, Nat.le_trans (Nat.le_of_ble_eq_true rfl) hRl⟩ (lth0 hd1) (lay_h0 hd1) rfl rfl hl.1 (Nat.le_of_ble_eq_true rfl) ⟨Nat.zero_le _, Nat.zero_le _⟩ rfl dX8_isTrue_37 (fun H locs hP hS => ?_)
    refine lv_iload_n hx hb dX8_isTrue_40 rfl (lv_at hl 0 rfl) ?_
    have hf := Option.some.inj hf
    subst hf
    exact hQ _ _ _ _ dX8_isTrue_41 hP hS
  · have hf := ifT hb1 hf
    refine lv_aload_n hx hb dX8_isTrue_17 rfl (lv_at hl 1 rfl) ?_
    refine lv_bipush (v := (-6)) hx hb dX8_isTrue_18 (by decide) ?_
    obtain ⟨u5, hzu5, hf⟩ := obd_some hf
    refine zz_callVi (rest := []) hx hb hml C hP hS (c_X8_refuse l hDA (-6) hzu5) zw_X8_73 ⟨Nat.le_trans (Nat.le_of_ble_eq_true rfl) hRf, Nat.le_trans (Nat.le_of_ble_eq_true rfl) hRl⟩ (by decide) lay_0 rfl rfl hl.1 (Nat.le_of_ble_eq_true rfl) ⟨Nat.zero_le _, Nat.zero_le _⟩ rfl dX8_isTrue_20 (fun H locs hP hS => ?_)
    have hf := Option.some.inj hf
    subst hf
    exact hQ _ _ _ _ dX8_isTrue_23 hP hS
set_option maxHeartbeats 4000000 in
set_option maxRecDepth 100000 in
theorem c_X8_hear (l : Launch) {D : va_G} {a : Nat → Nat} {cA : Nat → ClassId} {A : Nat → Prop} {sa : Nat → Nat} (hDA : DA a A) {σ : PH} {d : PD} (hd1 : isHall d.1) (p1 : Int32) {u : Int32 × PH} (hf : f_X8_hear σ d p1 = some u) : CTi l yX8_hear cX8_hear 3 (some .int) 5 124 D a cA A sa [.ref (a 0), .int p1] σ d u.1 u.2 d := by
  refine zz_metI zpl_X8 hDA (Nat.le_of_ble_eq_true rfl) ?_
  intro p e R s m args below meth c Q ls hx hb hml C hRf hRl hQ hP hS hl
  have hl : lv_has ls 3 [(0, .ref (a 0)), (1, .int p1)] := hl
  unfold f_X8_hear at hf
  refine lv_aload_n hx hb dX8_hear_0 rfl (lv_at hl 0 rfl) ?_
  refine zg_X8_50 hx hb C hP (by decide) lay_0 rfl dX8_hear_1 ?_
  refine lv_iload_n hx hb dX8_hear_4 rfl (lv_at hl 1 rfl) ?_
  obtain ⟨u1, hzu1, hf⟩ := obd_some hf
  refine zz_callVi (rest := []) hx hb hml C hP hS (c_X2_allows l hDA (h := d.1) hd1 p1 hzu1) zw_X8_241 ⟨Nat.le_trans (Nat.le_of_ble_eq_true rfl) hRf, Nat.le_trans (Nat.le_of_ble_eq_true rfl) hRl⟩ (lth0 hd1) (lay_h0 hd1) rfl rfl hl.1 (Nat.le_of_ble_eq_true rfl) ⟨Nat.zero_le _, Nat.zero_le _⟩ rfl dX8_hear_5 (fun H locs hP hS => ?_)
  refine lv_if_ne (tgt := 18) hx hb dX8_hear_8 (by decide) (fun hb1 => ?_) (fun hb1 => ?_)
  · have hf := ifF hb1 hf
    refine lv_aload_n hx hb dX8_hear_18 rfl (lv_at hl 0 rfl) ?_
    refine zg_X8_50 hx hb C hP (by decide) lay_0 rfl dX8_hear_19 ?_
    refine lv_iload_n hx hb dX8_hear_22 rfl (lv_at hl 1 rfl) ?_
    obtain ⟨u3, hzu3, hf⟩ := obd_some hf
    refine zz_callVi (rest := []) hx hb hml C hP hS (c_X2_soundInTruth l hDA (h := d.1) hd1 p1 hzu3) zw_X8_327 ⟨Nat.le_trans (Nat.le_of_ble_eq_true rfl) hRf, Nat.le_trans (Nat.le_of_ble_eq_true rfl) hRl⟩ (lth0 hd1) (lay_h0 hd1) rfl rfl hl.1 (Nat.le_of_ble_eq_true rfl) ⟨Nat.zero_le _, Nat.zero_le _⟩ rfl dX8_hear_23 (fun H locs hP hS => ?_)
    refine lv_istore_n (lv' := [(2, .int u3.1), (0, .ref (a 0)), (1, .int p1)]) hx hb dX8_hear_26 rfl hl (by decide) rfl (fun ls hl => ?_)
    refine lv_aload_n hx hb dX8_hear_27 rfl (lv_at hl 1 rfl) ?_
    refine zg_X8_50 hx hb C hP (by decide) lay_0 rfl dX8_hear_28 ?_
    refine lv_iload_n hx hb dX8_hear_31 rfl (lv_at hl 2 rfl) ?_
    refine lv_iload_n hx hb dX8_hear_32 rfl (lv_at hl 0 rfl) ?_
    obtain ⟨u4, hzu4, hf⟩ := obd_some hf
    refine zz_callVi (rest := []) hx hb hml C hP hS (c_X2_isKnown l hDA (h := d.1) hd1 p1 u3.1 hzu4) zw_X8_216 ⟨Nat.le_trans (Nat.le_of_ble_eq_true rfl) hRf, Nat.le_trans (Nat.le_of_ble_eq_true rfl) hRl⟩ (lth0 hd1) (lay_h0 hd1) rfl rfl hl.1 (Nat.le_of_ble_eq_true rfl) ⟨Nat.zero_le _, Nat.zero_le _⟩ rfl dX8_hear_33 (fun H locs hP hS => ?_)
    have hJ56 : j_X8_hear_56 d p1 u3 = some u → ∀ (H : Heap) (locs : List Loc) (ls : Array Slot), lv_has ls 3 [(0, .ref (a 0)), (1, .int p1), (2, .int u3.1)] → va_P D vwCl (wl a cA u3.2 d) H → va_S A s.heap H locs → W p l e R s m args below meth c H locs 0 0 Q (F0 m 56 ls []) := by
      intro  hf H locs ls hl hP hS
      unfold j_X8_hear_56 at hf
      refine lv_aload_n hx hb dX8_hear_56 rfl (lv_at hl 0 rfl) ?_
      refine zg_X8_50 hx hb C hP (by decide) lay_0 rfl dX8_hear_57 ?_
      refine lv_iload_n hx hb dX8_hear_60 rfl (lv_at hl 1 rfl) ?_
      refine lv_iload_n hx hb dX8_hear_61 rfl (lv_at hl 2 rfl) ?_
      obtain ⟨u5, hzu5, hf⟩ := obd_some hf
      refine zz_callVv (rest := []) hx hb hml C hP hS (c_X2_learn l hDA (h := d.1) hd1 p1 u3.1 hzu5) zw_X8_220 ⟨Nat.le_trans (Nat.le_of_ble_eq_true rfl) hRf, Nat.le_trans (Nat.le_of_ble_eq_true rfl) hRl⟩ (lth0 hd1) (lay_h0 hd1) rfl rfl hl.1 (Nat.le_of_ble_eq_true rfl) ⟨Nat.zero_le _, Nat.zero_le _⟩ rfl dX8_hear_62 (fun H locs hP hS => ?_)
      refine lv_iload_n hx hb dX8_hear_65 rfl (lv_at hl 2 rfl) ?_
      have hf := Option.some.inj hf
      subst hf
      exact hQ _ _ _ _ dX8_hear_66 hP hS
    refine lv_if_ne (tgt := 56) hx hb dX8_hear_36 (by decide) (fun hb5 => ?_) (fun hb5 => ?_)
    · have hf := ifF hb5 hf
      exact hJ56  hf _ _ _ (lv_sub hl [1, 2, 0] rfl) hP hS
    · have hf := ifT hb5 hf
      refine lv_aload_n hx hb dX8_hear_39 rfl (lv_at hl 1 rfl) ?_
      refine zg_X8_50 hx hb C hP (by decide) lay_0 rfl dX8_hear_40 ?_
      obtain ⟨u7, hzu7⟩ : ∃ z, z = f_X2_hasRoom u3.2 d.1 := ⟨_, rfl⟩
      have hf := bnd_at u7 hzu7 hf
      refine zz_callVi (rest := []) hx hb hml C hP hS (c_X2_hasRoom l hDA (h := d.1) hd1 hzu7.symm) zw_X8_219 ⟨Nat.le_trans (Nat.le_of_ble_eq_true rfl) hRf, Nat.le_trans (Nat.le_of_ble_eq_true rfl) hRl⟩ (lth0 hd1) (lay_h0 hd1) rfl rfl hl.1 (Nat.le_of_ble_eq_true rfl) ⟨Nat.zero_le _, Nat.zero_le _⟩ rfl dX8_hear_43 (fun H locs hP hS => ?_)
      refine lv_if_ne (tgt := 56) hx hb dX8_hear_46 (by decide) (fun hb7 => ?_) (fun hb7 => ?_)
      · have hf := ifF hb7 hf
        exact hJ56  hf _ _ _ (lv_sub hl [1, 2, 0] rfl) hP hS
      · have hf := ifT hb7 hf
        refine lv_aload_n hx hb dX8_hear_49 rfl (lv_at hl 1 rfl) ?_
        refine lv_bipush (v := (-7)) hx hb dX8_hear_50 (by decide) ?_
        obtain ⟨u9, hzu9, hf⟩ := obd_some hf
        refine zz_callVi (rest := []) hx hb hml C hP hS (c_X8_refuse l hDA (-7) hzu9) zw_X8_73 ⟨Nat.le_trans (Nat.le_of_ble_eq_true rfl) hRf, Nat.le_trans (Nat.le_of_ble_eq_true rfl) hRl⟩ (by decide) lay_0 rfl rfl hl.1 (Nat.le_of_ble_eq_true rfl) ⟨Nat.zero_le _, Nat.zero_le _⟩ rfl dX8_hear_52 (fun H locs hP hS => ?_)
        have hf := Option.some.inj hf
        subst hf
        exact hQ _ _ _ _ dX8_hear_55 hP hS
  · have hf := ifT hb1 hf
    refine lv_aload_n hx hb dX8_hear_11 rfl (lv_at hl 0 rfl) ?_
    refine lv_bipush (v := (-6)) hx hb dX8_hear_12 (by decide) ?_
    obtain ⟨u10, hzu10, hf⟩ := obd_some hf
    refine zz_callVi (rest := []) hx hb hml C hP hS (c_X8_refuse l hDA (-6) hzu10) zw_X8_73 ⟨Nat.le_trans (Nat.le_of_ble_eq_true rfl) hRf, Nat.le_trans (Nat.le_of_ble_eq_true rfl) hRl⟩ (by decide) lay_0 rfl rfl hl.1 (Nat.le_of_ble_eq_true rfl) ⟨Nat.zero_le _, Nat.zero_le _⟩ rfl dX8_hear_14 (fun H locs hP hS => ?_)
    have hf := Option.some.inj hf
    subst hf
    exact hQ _ _ _ _ dX8_hear_17 hP hS
set_option maxHeartbeats 4000000 in
set_option maxRecDepth 100000 in
theorem c_X8_evenings (l : Launch) {D : va_G} {a : Nat → Nat} {cA : Nat → ClassId} {A : Nat → Prop} {sa : Nat → Nat} (hDA : DA a A) {σ : PH} {d : PD} (hd1 : isHall d.1) (p1 : Int32) {u : Int32 × PH} (hf : f_X8_evenings σ d p1 = some u) : CTi l yX8_evenings cX8_evenings 4 (some .int) 6 155 D a cA A sa [.ref (a 0), .int p1] σ d u.1 u.2 d := by
  refine zz_metI zpl_X8 hDA (Nat.le_of_ble_eq_true rfl) ?_
  intro p e R s m args below meth c Q ls hx hb hml C hRf hRl hQ hP hS hl
  have hl : lv_has ls 4 [(0, .ref (a 0)), (1, .int p1)] := hl
  unfold f_X8_evenings at hf
  refine lv_aload_n hx hb dX8_evenings_0 rfl (lv_at hl 0 rfl) ?_
  refine zg_X8_50 hx hb C hP (by decide) lay_0 rfl dX8_evenings_1 ?_
  refine zg_X8_109 hx hb C hP (lth0 hd1) (lay_h0 hd1) rfl dX8_evenings_4 ?_
  refine zg_X8_150 hx hb C hP (lth hd1 1 (by decide)) (lay_h1 hd1) rfl dX8_evenings_7 ?_
  refine lv_if_ne (tgt := 20) hx hb dX8_evenings_10 (by decide) (fun hb0 => ?_) (fun hb0 => ?_)
  · have hf := ifF hb0 hf
    refine lv_iload_n hx hb dX8_evenings_20 rfl (lv_at hl 1 rfl) ?_
    refine lv_iconst (v := 1) hx hb dX8_evenings_21 (by decide) ?_
    refine lv_icmp_lt (tgt := 31) hx hb dX8_evenings_22 (by decide) (fun hb1 => ?_) (fun hb1 => ?_)
    · have hf := ifT hb1 hf
      refine lv_aload_n hx hb dX8_evenings_31 rfl (lv_at hl 0 rfl) ?_
      refine lv_bipush (v := (-6)) hx hb dX8_evenings_32 (by decide) ?_
      obtain ⟨u3, hzu3, hf⟩ := obd_some hf
      refine zz_callVi (rest := []) hx hb hml C hP hS (c_X8_refuse l hDA (-6) hzu3) zw_X8_73 ⟨Nat.le_trans (Nat.le_of_ble_eq_true rfl) hRf, Nat.le_trans (Nat.le_of_ble_eq_true rfl) hRl⟩ (by decide) lay_0 rfl rfl hl.1 (Nat.le_of_ble_eq_true rfl) ⟨Nat.zero_le _, Nat.zero_le _⟩ rfl dX8_evenings_34 (fun H locs hP hS => ?_)
      have hf := Option.some.inj hf
      subst hf
      exact hQ _ _ _ _ dX8_evenings_37 hP hS
    · have hf := ifF hb1 hf
      refine lv_iload_n hx hb dX8_evenings_25 rfl (lv_at hl 1 rfl) ?_
      refine lv_bipush (v := 20) hx hb dX8_evenings_26 (by decide) ?_
      refine lv_icmp_le (tgt := 38) hx hb dX8_evenings_28 (by decide) (fun hb3 => ?_) (fun hb3 => ?_)
      · have hf := ifT hb3 hf
        refine lv_iconst (v := 0) hx hb dX8_evenings_38 (by decide) ?_
        refine lv_istore_n (lv' := [(2, .int 0), (0, .ref (a 0)), (1, .int p1)]) hx hb dX8_evenings_39 rfl hl (by decide) rfl (fun ls hl => ?_)
        refine lv_iconst (v := 0) hx hb dX8_evenings_40 (by decide) ?_
        refine lv_istore_n (lv' := [(3, .int 0), (2, .int 0), (0, .ref (a 0)), (1, .int p1)]) hx hb dX8_evenings_41 rfl hl (by decide) rfl (fun ls hl => ?_)
        refine loopN_ind (P := fun (q5 : Int32 × Int32 × PH) => ∀ (H : Heap) (locs : List Loc) (ls : Array Slot), lv_has ls 4 [(0, .ref (a 0)), (1, .int p1), (2, .int q5.1), (3, .int q5.2.1)] → va_P D vwCl (wl a cA q5.2.2 d) H → va_S A s.heap H locs → W p l e R s m args below meth c H locs 0 0 Q (F0 m 42 ls [])) ?_ _ _ hf _ _ _ (lv_sub hl [2, 3, 1, 0] rfl) hP hS
        intro k6 ihk6 q5 hf H locs ls hl hP hS
        unfold b_X8_evenings_42 at hf
        refine lv_iload_n hx hb dX8_evenings_42 rfl (lv_at hl 3 rfl) ?_
        refine lv_iload_n hx hb dX8_evenings_43 rfl (lv_at hl 1 rfl) ?_
        refine lv_icmp_ge (tgt := 63) hx hb dX8_evenings_44 (by decide) (fun hb6 => ?_) (fun hb6 => ?_)
        · have hf := ifT hb6 hf
          refine lv_iload_n hx hb dX8_evenings_63 rfl (lv_at hl 2 rfl) ?_
          have hf := Option.some.inj hf
          subst hf
          exact hQ _ _ _ _ dX8_evenings_64 hP hS
        · have hf := ifF hb6 hf
          refine lv_iload_n hx hb dX8_evenings_47 rfl (lv_at hl 2 rfl) ?_
          refine lv_aload_n hx hb dX8_evenings_48 rfl (lv_at hl 0 rfl) ?_
          refine zg_X8_50 hx hb C hP (by decide) lay_0 rfl dX8_evenings_49 ?_
          obtain ⟨u8, hzu8, hf⟩ := obd_some hf
          refine zz_callVi (rest := [.int q5.1]) hx hb hml C hP hS (c_X2_evening l hDA (h := d.1) hd1 hzu8) zw_X8_330 ⟨Nat.le_trans (Nat.le_of_ble_eq_true rfl) hRf, Nat.le_trans (Nat.le_of_ble_eq_true rfl) hRl⟩ (lth0 hd1) (lay_h0 hd1) rfl rfl hl.1 (Nat.le_of_ble_eq_true rfl) ⟨Nat.zero_le _, Nat.zero_le _⟩ rfl dX8_evenings_52 (fun H locs hP hS => ?_)
          refine lv_iadd hx hb dX8_evenings_55 ?_
          refine lv_topi (fun v9 ev9 => ?_)
          have hf := bnd_at v9 ev9 hf
          refine lv_istore_n (lv' := [(2, .int v9), (0, .ref (a 0)), (1, .int p1), (3, .int q5.2.1)]) hx hb dX8_evenings_56 rfl hl (by decide) rfl (fun ls hl => ?_)
          obtain ⟨v10, ev10⟩ : ∃ z : Int32, z = q5.2.1 + 1 := ⟨_, rfl⟩
          have hf := bnd_at v10 ev10 hf
          refine lv_iinc (v := v10) (lv' := [(3, .int v10), (2, .int v9), (0, .ref (a 0)), (1, .int p1)]) hx hb dX8_evenings_57 hl (k := 3) rfl (by rw [ev10]; rfl) (by decide) rfl (fun ls hl => ?_)
          refine lv_goto (tgt := 42) hx hb dX8_evenings_60 (by decide) ?_
          exact ihk6 _ hf _ _ _ (lv_sub hl [2, 3, 1, 0] rfl) hP hS
      · have hf := ifF hb3 hf
        refine lv_aload_n hx hb dX8_evenings_31 rfl (lv_at hl 0 rfl) ?_
        refine lv_bipush (v := (-6)) hx hb dX8_evenings_32 (by decide) ?_
        obtain ⟨u11, hzu11, hf⟩ := obd_some hf
        refine zz_callVi (rest := []) hx hb hml C hP hS (c_X8_refuse l hDA (-6) hzu11) zw_X8_73 ⟨Nat.le_trans (Nat.le_of_ble_eq_true rfl) hRf, Nat.le_trans (Nat.le_of_ble_eq_true rfl) hRl⟩ (by decide) lay_0 rfl rfl hl.1 (Nat.le_of_ble_eq_true rfl) ⟨Nat.zero_le _, Nat.zero_le _⟩ rfl dX8_evenings_34 (fun H locs hP hS => ?_)
        have hf := Option.some.inj hf
        subst hf
        exact hQ _ _ _ _ dX8_evenings_37 hP hS
  · have hf := ifT hb0 hf
    refine lv_aload_n hx hb dX8_evenings_13 rfl (lv_at hl 0 rfl) ?_
    refine lv_bipush (v := (-5)) hx hb dX8_evenings_14 (by decide) ?_
    obtain ⟨u12, hzu12, hf⟩ := obd_some hf
    refine zz_callVi (rest := []) hx hb hml C hP hS (c_X8_refuse l hDA (-5) hzu12) zw_X8_73 ⟨Nat.le_trans (Nat.le_of_ble_eq_true rfl) hRf, Nat.le_trans (Nat.le_of_ble_eq_true rfl) hRl⟩ (by decide) lay_0 rfl rfl hl.1 (Nat.le_of_ble_eq_true rfl) ⟨Nat.zero_le _, Nat.zero_le _⟩ rfl dX8_evenings_16 (fun H locs hP hS => ?_)
    have hf := Option.some.inj hf
    subst hf
    exact hQ _ _ _ _ dX8_evenings_19 hP hS
set_option maxHeartbeats 4000000 in
set_option maxRecDepth 100000 in
theorem c_X8_seed (l : Launch) {D : va_G} {a : Nat → Nat} {cA : Nat → ClassId} {A : Nat → Prop} {sa : Nat → Nat} (hDA : DA a A) {σ : PH} {d : PD} (hd1 : isHall d.1) (p1 : Int32) {u : Int32 × PH} (hf : f_X8_seed σ d p1 = u) : CTi l yX8_seed cX8_seed 3 (some .int) 0 0 D a cA A sa [.ref (a 0), .int p1] σ d u.1 u.2 d := by
  refine zz_metI zpl_X8 hDA (Nat.le_of_ble_eq_true rfl) ?_
  intro p e R s m args below meth c Q ls hx hb hml C hRf hRl hQ hP hS hl
  have hl : lv_has ls 3 [(0, .ref (a 0)), (1, .int p1)] := hl
  unfold f_X8_seed at hf
  refine lv_aload_n hx hb dX8_seed_0 rfl (lv_at hl 0 rfl) ?_
  refine zg_X8_50 hx hb C hP (by decide) lay_0 rfl dX8_seed_1 ?_
  refine zg_X8_333 hx hb C hP (lth0 hd1) (lay_h0 hd1) rfl dX8_seed_4 ?_
  refine lv_topi (fun v1 ev1 => ?_)
  have hf := bnd_at v1 ev1 hf
  refine lv_istore_n (lv' := [(2, .int v1), (0, .ref (a 0)), (1, .int p1)]) hx hb dX8_seed_7 rfl hl (by decide) rfl (fun ls hl => ?_)
  refine lv_aload_n hx hb dX8_seed_8 rfl (lv_at hl 1 rfl) ?_
  refine zg_X8_50 hx hb C hP (by decide) lay_0 rfl dX8_seed_9 ?_
  refine lv_iload_n hx hb dX8_seed_12 rfl (lv_at hl 2 rfl) ?_
  refine zp_X8_333 hx hb C hP hS (lth0 hd1) (lay_h0 hd1) rfl dX8_seed_13 (fun σ2 eσ2 H locs hP hS => ?_)
  have hf := bnd_at σ2 eσ2 hf
  refine lv_iload_n hx hb dX8_seed_16 rfl (lv_at hl 0 rfl) ?_
  subst hf
  exact hQ _ _ _ _ dX8_seed_17 hP hS
set_option maxHeartbeats 4000000 in
set_option maxRecDepth 100000 in
theorem c_X8_act (l : Launch) {D : va_G} {a : Nat → Nat} {cA : Nat → ClassId} {A : Nat → Prop} {sa : Nat → Nat} (hDA : DA a A) {σ : PH} {d : PD} (hd1 : isHall d.1) (p1 : Int32) (p2 : Int32) (p3 : Int32) {u : Int32 × PH} (hf : f_X8_act σ d p1 p2 p3 = some u) : CTi l yX8_act cX8_act 4 (some .int) 26 711 D a cA A sa [.ref (a 0), .int p1, .int p2, .int p3] σ d u.1 u.2 d := by
  refine zz_metI zpl_X8 hDA (Nat.le_of_ble_eq_true rfl) ?_
  intro p e R s m args below meth c Q ls hx hb hml C hRf hRl hQ hP hS hl
  have hl : lv_has ls 4 [(0, .ref (a 0)), (1, .int p1), (2, .int p2), (3, .int p3)] := hl
  unfold f_X8_act at hf
  refine lv_aload_n hx hb dX8_act_0 rfl (lv_at hl 0 rfl) ?_
  refine zg_X8_22 hx hb C hP (by decide) lay_0 rfl dX8_act_1 ?_
  obtain ⟨u1, hzu1⟩ : ∃ z, z = f_X6_silence σ := ⟨_, rfl⟩
  have hf := bnd_at u1 hzu1 hf
  refine zz_callVv (rest := []) hx hb hml C hP hS (c_X6_silence l hDA  hzu1.symm) zw_X8_336 ⟨Nat.le_trans (Nat.le_of_ble_eq_true rfl) hRf, Nat.le_trans (Nat.le_of_ble_eq_true rfl) hRl⟩ (by decide) lay_3 rfl rfl hl.1 (Nat.le_of_ble_eq_true rfl) ⟨Nat.zero_le _, Nat.zero_le _⟩ rfl dX8_act_4 (fun H locs hP hS => ?_)
  refine lv_aload_n hx hb dX8_act_7 rfl (lv_at hl 0 rfl) ?_
  refine zg_X8_50 hx hb C hP (by decide) lay_0 rfl dX8_act_8 ?_
  refine zg_X8_109 hx hb C hP (lth0 hd1) (lay_h0 hd1) rfl dX8_act_11 ?_
  refine lv_iload_n hx hb dX8_act_14 rfl (lv_at hl 1 rfl) ?_
  obtain ⟨u2, hzu2⟩ : ∃ z, z = f_X0_has u1 d.1 p1 := ⟨_, rfl⟩
  have hf := bnd_at u2 hzu2 hf
  refine zz_callVi (rest := []) hx hb hml C hP hS (c_X0_has l hDA (h := d.1) hd1 p1 hzu2.symm) zw_X8_113 ⟨Nat.le_trans (Nat.le_of_ble_eq_true rfl) hRf, Nat.le_trans (Nat.le_of_ble_eq_true rfl) hRl⟩ (lth hd1 1 (by decide)) (lay_h1 hd1) rfl rfl hl.1 (Nat.le_of_ble_eq_true rfl) ⟨Nat.zero_le _, Nat.zero_le _⟩ rfl dX8_act_15 (fun H locs hP hS => ?_)
  refine lv_if_eq (tgt := 30) hx hb dX8_act_18 (by decide) (fun hb2 => ?_) (fun hb2 => ?_)
  · have hf := ifT hb2 hf
    refine lv_iconst (v := 0) hx hb dX8_act_30 (by decide) ?_
    have hf := Option.some.inj hf
    subst hf
    exact hQ _ _ _ _ dX8_act_31 hP hS
  · have hf := ifF hb2 hf
    refine lv_iload_n hx hb dX8_act_21 rfl (lv_at hl 2 rfl) ?_
    refine lv_if_lt (tgt := 30) hx hb dX8_act_22 (by decide) (fun hb3 => ?_) (fun hb3 => ?_)
    · have hf := ifT hb3 hf
      refine lv_iconst (v := 0) hx hb dX8_act_30 (by decide) ?_
      have hf := Option.some.inj hf
      subst hf
      exact hQ _ _ _ _ dX8_act_31 hP hS
    · have hf := ifF hb3 hf
      refine lv_iload_n hx hb dX8_act_25 rfl (lv_at hl 2 rfl) ?_
      refine lv_iconst (v := 3) hx hb dX8_act_26 (by decide) ?_
      refine lv_icmp_lt (tgt := 32) hx hb dX8_act_27 (by decide) (fun hb4 => ?_) (fun hb4 => ?_)
      · have hf := ifT hb4 hf
        refine lv_aload_n hx hb dX8_act_32 rfl (lv_at hl 0 rfl) ?_
        refine zg_X8_22 hx hb C hP (by decide) lay_0 rfl dX8_act_33 ?_
        refine lv_aload_n hx hb dX8_act_36 rfl (lv_at hl 0 rfl) ?_
        refine zg_X8_50 hx hb C hP (by decide) lay_0 rfl dX8_act_37 ?_
        refine zg_X8_109 hx hb C hP (lth0 hd1) (lay_h0 hd1) rfl dX8_act_40 ?_
        refine lv_iload_n hx hb dX8_act_43 rfl (lv_at hl 1 rfl) ?_
        refine lv_iload_n hx hb dX8_act_44 rfl (lv_at hl 2 rfl) ?_
        refine lv_iload_n hx hb dX8_act_45 rfl (lv_at hl 3 rfl) ?_
        obtain ⟨u6, hzu6, hf⟩ := obd_some hf
        refine zz_callVi (rest := []) hx hb hml C hP hS (c_X6_perform l hDA (h := d.1) hd1 p1 p2 p3 hzu6) zw_X8_339 ⟨Nat.le_trans (Nat.le_of_ble_eq_true rfl) hRf, Nat.le_trans (Nat.le_of_ble_eq_true rfl) hRl⟩ (by decide) lay_3 rfl rfl hl.1 (Nat.le_of_ble_eq_true rfl) ⟨Nat.zero_le _, Nat.zero_le _⟩ rfl dX8_act_46 (fun H locs hP hS => ?_)
        have hf := Option.some.inj hf
        subst hf
        exact hQ _ _ _ _ dX8_act_49 hP hS
      · have hf := ifF hb4 hf
        refine lv_iconst (v := 0) hx hb dX8_act_30 (by decide) ?_
        have hf := Option.some.inj hf
        subst hf
        exact hQ _ _ _ _ dX8_act_31 hP hS
set_option maxHeartbeats 4000000 in
set_option maxRecDepth 100000 in
theorem c_X8_trace (l : Launch) {D : va_G} {a : Nat → Nat} {cA : Nat → ClassId} {A : Nat → Prop} {sa : Nat → Nat} (hDA : DA a A) {σ : PH} {d : PD} (p1 : Int32) {u : Int32} (hf : f_X8_trace σ p1 = some u) : CTi l yX8_trace cX8_trace 2 (some .int) 1 21 D a cA A sa [.ref (a 0), .int p1] σ d u σ d := by
  refine zz_metI zpl_X8 hDA (Nat.le_of_ble_eq_true rfl) ?_
  intro p e R s m args below meth c Q ls hx hb hml C hRf hRl hQ hP hS hl
  have hl : lv_has ls 2 [(0, .ref (a 0)), (1, .int p1)] := hl
  unfold f_X8_trace at hf
  refine lv_aload_n hx hb dX8_trace_0 rfl (lv_at hl 0 rfl) ?_
  refine zg_X8_22 hx hb C hP (by decide) lay_0 rfl dX8_trace_1 ?_
  refine lv_iload_n hx hb dX8_trace_4 rfl (lv_at hl 1 rfl) ?_
  obtain ⟨u1, hzu1, hf⟩ := obd_some hf
  refine zz_callVi (rest := []) hx hb hml C hP hS (c_X6_traced l hDA p1 hzu1) zw_X8_343 ⟨Nat.le_trans (Nat.le_of_ble_eq_true rfl) hRf, Nat.le_trans (Nat.le_of_ble_eq_true rfl) hRl⟩ (by decide) lay_3 rfl rfl hl.1 (Nat.le_of_ble_eq_true rfl) ⟨Nat.zero_le _, Nat.zero_le _⟩ rfl dX8_trace_5 (fun H locs hP hS => ?_)
  have hf := Option.some.inj hf
  subst hf
  exact hQ _ _ _ _ dX8_trace_8 hP hS
set_option maxHeartbeats 4000000 in
set_option maxRecDepth 100000 in
theorem c_X8_image (l : Launch) {D : va_G} {a : Nat → Nat} {cA : Nat → ClassId} {A : Nat → Prop} {sa : Nat → Nat} (hDA : DA a A) {σ : PH} {d : PD} (hd1 : isHall d.1)  {u : Int32 × PH} (hf : f_X8_image σ d = u) : CTi l yX8_image cX8_image 1 (some .int) 3 68 D a cA A sa [.ref (a 0)] σ d u.1 u.2 d := by
  refine zz_metI zpl_X8 hDA (Nat.le_of_ble_eq_true rfl) ?_
  intro p e R s m args below meth c Q ls hx hb hml C hRf hRl hQ hP hS hl
  have hl : lv_has ls 1 [(0, .ref (a 0))] := hl
  unfold f_X8_image at hf
  refine lv_aload_n hx hb dX8_image_0 rfl (lv_at hl 0 rfl) ?_
  refine zg_X8_57 hx hb C hP (by decide) lay_0 rfl dX8_image_1 ?_
  refine lv_aload_n hx hb dX8_image_4 rfl (lv_at hl 0 rfl) ?_
  refine zg_X8_50 hx hb C hP (by decide) lay_0 rfl dX8_image_5 ?_
  obtain ⟨u1, hzu1⟩ : ∃ z, z = f_X2_copyOf σ 64 d.1 := ⟨_, rfl⟩
  have hf := bnd_at u1 hzu1 hf
  refine zz_callVv (rest := []) hx hb hml C hP hS (c_X2_copyOf l hDA (h := 64) (Or.inr (Or.inr rfl) : isHall 64) (h2 := d.1) hd1 hzu1.symm) zw_X8_173 ⟨Nat.le_trans (Nat.le_of_ble_eq_true rfl) hRf, Nat.le_trans (Nat.le_of_ble_eq_true rfl) hRl⟩ (lth0 (Or.inr (Or.inr rfl) : isHall 64)) (lay_h0 (Or.inr (Or.inr rfl) : isHall 64)) rfl rfl hl.1 (Nat.le_of_ble_eq_true rfl) ⟨Nat.zero_le _, Nat.zero_le _⟩ rfl dX8_image_8 (fun H locs hP hS => ?_)
  refine lv_aload_n hx hb dX8_image_11 rfl (lv_at hl 0 rfl) ?_
  refine lv_iconst (v := 1) hx hb dX8_image_12 (by decide) ?_
  refine zp_X8_60 hx hb C hP hS (by decide) lay_0 rfl rfl rfl dX8_image_13 (fun σ2 eσ2 H locs hP hS => ?_)
  have hf := bnd_at σ2 eσ2 hf
  refine lv_aload_n hx hb dX8_image_16 rfl (lv_at hl 0 rfl) ?_
  refine zg_X8_50 hx hb C hP (by decide) lay_0 rfl dX8_image_17 ?_
  refine zg_X8_109 hx hb C hP (lth0 hd1) (lay_h0 hd1) rfl dX8_image_20 ?_
  refine zg_X8_150 hx hb C hP (lth hd1 1 (by decide)) (lay_h1 hd1) rfl dX8_image_23 ?_
  subst hf
  exact hQ _ _ _ _ dX8_image_26 hP hS
set_option maxHeartbeats 4000000 in
set_option maxRecDepth 100000 in
theorem c_X8_restore (l : Launch) {D : va_G} {a : Nat → Nat} {cA : Nat → ClassId} {A : Nat → Prop} {sa : Nat → Nat} (hDA : DA a A) {σ : PH} {d : PD} (hd1 : isHall d.1)  {u : Int32 × PH} (hf : f_X8_restore σ d = some u) : CTi l yX8_restore cX8_restore 2 (some .int) 3 68 D a cA A sa [.ref (a 0)] σ d u.1 u.2 d := by
  refine zz_metI zpl_X8 hDA (Nat.le_of_ble_eq_true rfl) ?_
  intro p e R s m args below meth c Q ls hx hb hml C hRf hRl hQ hP hS hl
  have hl : lv_has ls 2 [(0, .ref (a 0))] := hl
  unfold f_X8_restore at hf
  refine lv_aload_n hx hb dX8_restore_0 rfl (lv_at hl 0 rfl) ?_
  refine zg_X8_60 hx hb C hP (by decide) lay_0 rfl dX8_restore_1 ?_
  refine lv_if_ne (tgt := 14) hx hb dX8_restore_4 (by decide) (fun hb0 => ?_) (fun hb0 => ?_)
  · have hf := ifF hb0 hf
    refine lv_aload_n hx hb dX8_restore_14 rfl (lv_at hl 0 rfl) ?_
    refine zg_X8_50 hx hb C hP (by decide) lay_0 rfl dX8_restore_15 ?_
    refine lv_aload_n hx hb dX8_restore_18 rfl (lv_at hl 0 rfl) ?_
    refine zg_X8_57 hx hb C hP (by decide) lay_0 rfl dX8_restore_19 ?_
    obtain ⟨u2, hzu2⟩ : ∃ z, z = f_X2_copyOf σ d.1 64 := ⟨_, rfl⟩
    have hf := bnd_at u2 hzu2 hf
    refine zz_callVv (rest := []) hx hb hml C hP hS (c_X2_copyOf l hDA (h := d.1) hd1 (h2 := 64) (Or.inr (Or.inr rfl) : isHall 64) hzu2.symm) zw_X8_173 ⟨Nat.le_trans (Nat.le_of_ble_eq_true rfl) hRf, Nat.le_trans (Nat.le_of_ble_eq_true rfl) hRl⟩ (lth0 hd1) (lay_h0 hd1) rfl rfl hl.1 (Nat.le_of_ble_eq_true rfl) ⟨Nat.zero_le _, Nat.zero_le _⟩ rfl dX8_restore_22 (fun H locs hP hS => ?_)
    refine lv_iconst (v := 0) hx hb dX8_restore_25 (by decide) ?_
    refine lv_istore_n (lv' := [(1, .int 0), (0, .ref (a 0))]) hx hb dX8_restore_26 rfl hl (by decide) rfl (fun ls hl => ?_)
    have hJ83 : ∀ (σ3 : PH), j_X8_restore_83 d σ3 = some u → ∀ (H : Heap) (locs : List Loc) (ls : Array Slot), lv_has ls 2 [(0, .ref (a 0))] → va_P D vwCl (wl a cA σ3 d) H → va_S A s.heap H locs → W p l e R s m args below meth c H locs 0 0 Q (F0 m 83 ls []) := by
      intro σ3 hf H locs ls hl hP hS
      unfold j_X8_restore_83 at hf
      refine lv_aload_n hx hb dX8_restore_83 rfl (lv_at hl 0 rfl) ?_
      refine zg_X8_50 hx hb C hP (by decide) lay_0 rfl dX8_restore_84 ?_
      refine zg_X8_109 hx hb C hP (lth0 hd1) (lay_h0 hd1) rfl dX8_restore_87 ?_
      refine zg_X8_150 hx hb C hP (lth hd1 1 (by decide)) (lay_h1 hd1) rfl dX8_restore_90 ?_
      have hf := Option.some.inj hf
      subst hf
      exact hQ _ _ _ _ dX8_restore_93 hP hS
    refine loopN_ind (P := fun (q4 : Int32 × PH) => ∀ (H : Heap) (locs : List Loc) (ls : Array Slot), lv_has ls 2 [(0, .ref (a 0)), (1, .int q4.1)] → va_P D vwCl (wl a cA q4.2 d) H → va_S A s.heap H locs → W p l e R s m args below meth c H locs 0 0 Q (F0 m 27 ls [])) ?_ _ _ hf _ _ _ (lv_sub hl [1, 0] rfl) hP hS
    intro k5 ihk5 q4 hf H locs ls hl hP hS
    unfold b_X8_restore_27 at hf
    refine lv_iload_n hx hb dX8_restore_27 rfl (lv_at hl 1 rfl) ?_
    refine lv_bipush (v := 8) hx hb dX8_restore_28 (by decide) ?_
    refine lv_icmp_ge (tgt := 83) hx hb dX8_restore_30 (by decide) (fun hb5 => ?_) (fun hb5 => ?_)
    · have hf := ifT hb5 hf
      exact hJ83 _ hf _ _ _ (lv_sub hl [0] rfl) hP hS
    · have hf := ifF hb5 hf
      refine lv_aload_n hx hb dX8_restore_33 rfl (lv_at hl 0 rfl) ?_
      refine zg_X8_11 hx hb C hP (by decide) lay_0 rfl dX8_restore_34 ?_
      refine lv_iload_n hx hb dX8_restore_37 rfl (lv_at hl 1 rfl) ?_
      obtain ⟨hc6, hf⟩ := chk_some hf
      refine zz_shelf hx hb C hP (inb_vp hc6) dX8_restore_38 (fun r8 er8 hr8 => ?_)
      have hf := bnd_at r8 er8 hf
      obtain ⟨u9, hzu9⟩ : ∃ z, z = f_X4_holdsRow q4.2 r8 := ⟨_, rfl⟩
      have hf := bnd_at u9 hzu9 hf
      refine zz_callVi (rest := []) hx hb hml C hP hS (c_X4_holdsRow l hDA (sh0 := r8) hr8 hzu9.symm) zw_X8_124 ⟨Nat.le_trans (Nat.le_of_ble_eq_true rfl) hRf, Nat.le_trans (Nat.le_of_ble_eq_true rfl) hRl⟩ (lts0 hr8) (lay_s0 hr8) rfl rfl hl.1 (Nat.le_of_ble_eq_true rfl) ⟨Nat.zero_le _, Nat.zero_le _⟩ rfl dX8_restore_39 (fun H locs hP hS => ?_)
      refine lv_if_ne (tgt := 77) hx hb dX8_restore_42 (by decide) (fun hb9 => ?_) (fun hb9 => ?_)
      · have hf := ifF hb9 hf
        obtain ⟨v11, ev11⟩ : ∃ z : Int32, z = q4.1 + 1 := ⟨_, rfl⟩
        have hf := bnd_at v11 ev11 hf
        refine lv_iinc (v := v11) (lv' := [(1, .int v11), (0, .ref (a 0))]) hx hb dX8_restore_77 hl (k := 1) rfl (by rw [ev11]; rfl) (by decide) rfl (fun ls hl => ?_)
        refine lv_goto (tgt := 27) hx hb dX8_restore_80 (by decide) ?_
        exact ihk5 _ hf _ _ _ (lv_sub hl [1, 0] rfl) hP hS
      · have hf := ifT hb9 hf
        refine lv_aload_n hx hb dX8_restore_45 rfl (lv_at hl 0 rfl) ?_
        refine zg_X8_50 hx hb C hP (by decide) lay_0 rfl dX8_restore_46 ?_
        refine zg_X8_109 hx hb C hP (lth0 hd1) (lay_h0 hd1) rfl dX8_restore_49 ?_
        refine lv_aload_n hx hb dX8_restore_52 rfl (lv_at hl 0 rfl) ?_
        refine zg_X8_11 hx hb C hP (by decide) lay_0 rfl dX8_restore_53 ?_
        refine lv_iload_n hx hb dX8_restore_56 rfl (lv_at hl 1 rfl) ?_
        obtain ⟨hc11, hf⟩ := chk_some hf
        refine zz_shelf hx hb C hP (inb_vp hc11) dX8_restore_57 (fun r13 er13 hr13 => ?_)
        have hf := bnd_at r13 er13 hf
        refine zg_X8_118 hx hb C hP (lts0 hr13) (lay_s0 hr13) rfl dX8_restore_58 ?_
        obtain ⟨u14, hzu14⟩ : ∃ z, z = f_X0_has q4.2 d.1 (gI q4.2 r13 0) := ⟨_, rfl⟩
        have hf := bnd_at u14 hzu14 hf
        refine zz_callVi (rest := []) hx hb hml C hP hS (c_X0_has l hDA (h := d.1) hd1 (gI q4.2 r13 0) hzu14.symm) zw_X8_113 ⟨Nat.le_trans (Nat.le_of_ble_eq_true rfl) hRf, Nat.le_trans (Nat.le_of_ble_eq_true rfl) hRl⟩ (lth hd1 1 (by decide)) (lay_h1 hd1) rfl rfl hl.1 (Nat.le_of_ble_eq_true rfl) ⟨Nat.zero_le _, Nat.zero_le _⟩ rfl dX8_restore_61 (fun H locs hP hS => ?_)
        refine lv_if_ne (tgt := 77) hx hb dX8_restore_64 (by decide) (fun hb14 => ?_) (fun hb14 => ?_)
        · have hf := ifF hb14 hf
          obtain ⟨v16, ev16⟩ : ∃ z : Int32, z = q4.1 + 1 := ⟨_, rfl⟩
          have hf := bnd_at v16 ev16 hf
          refine lv_iinc (v := v16) (lv' := [(1, .int v16), (0, .ref (a 0))]) hx hb dX8_restore_77 hl (k := 1) rfl (by rw [ev16]; rfl) (by decide) rfl (fun ls hl => ?_)
          refine lv_goto (tgt := 27) hx hb dX8_restore_80 (by decide) ?_
          exact ihk5 _ hf _ _ _ (lv_sub hl [1, 0] rfl) hP hS
        · have hf := ifT hb14 hf
          refine lv_aload_n hx hb dX8_restore_67 rfl (lv_at hl 0 rfl) ?_
          refine zg_X8_11 hx hb C hP (by decide) lay_0 rfl dX8_restore_68 ?_
          refine lv_iload_n hx hb dX8_restore_71 rfl (lv_at hl 1 rfl) ?_
          obtain ⟨hc16, hf⟩ := chk_some hf
          refine zz_shelf hx hb C hP (inb_vp hc16) dX8_restore_72 (fun r18 er18 hr18 => ?_)
          have hf := bnd_at r18 er18 hf
          refine lv_iconst (v := (-1)) hx hb dX8_restore_73 (by decide) ?_
          refine zp_X8_118 hx hb C hP hS (lts0 hr18) (lay_s0 hr18) rfl dX8_restore_74 (fun σ19 eσ19 H locs hP hS => ?_)
          have hf := bnd_at σ19 eσ19 hf
          obtain ⟨v20, ev20⟩ : ∃ z : Int32, z = q4.1 + 1 := ⟨_, rfl⟩
          have hf := bnd_at v20 ev20 hf
          refine lv_iinc (v := v20) (lv' := [(1, .int v20), (0, .ref (a 0))]) hx hb dX8_restore_77 hl (k := 1) rfl (by rw [ev20]; rfl) (by decide) rfl (fun ls hl => ?_)
          refine lv_goto (tgt := 27) hx hb dX8_restore_80 (by decide) ?_
          exact ihk5 _ hf _ _ _ (lv_sub hl [1, 0] rfl) hP hS
  · have hf := ifT hb0 hf
    refine lv_aload_n hx hb dX8_restore_7 rfl (lv_at hl 0 rfl) ?_
    refine lv_bipush (v := (-6)) hx hb dX8_restore_8 (by decide) ?_
    obtain ⟨u21, hzu21, hf⟩ := obd_some hf
    refine zz_callVi (rest := []) hx hb hml C hP hS (c_X8_refuse l hDA (-6) hzu21) zw_X8_73 ⟨Nat.le_trans (Nat.le_of_ble_eq_true rfl) hRf, Nat.le_trans (Nat.le_of_ble_eq_true rfl) hRl⟩ (by decide) lay_0 rfl rfl hl.1 (Nat.le_of_ble_eq_true rfl) ⟨Nat.zero_le _, Nat.zero_le _⟩ rfl dX8_restore_10 (fun H locs hP hS => ?_)
    have hf := Option.some.inj hf
    subst hf
    exact hQ _ _ _ _ dX8_restore_13 hP hS
set_option maxHeartbeats 4000000 in
set_option maxRecDepth 100000 in
theorem c_X8_refusalsOf (l : Launch) {D : va_G} {a : Nat → Nat} {cA : Nat → ClassId} {A : Nat → Prop} {sa : Nat → Nat} (hDA : DA a A) {σ : PH} {d : PD} (p1 : Int32) {u : Int32} (hf : f_X8_refusalsOf σ p1 = some u) : CTi l yX8_refusalsOf cX8_refusalsOf 3 (some .int) 0 0 D a cA A sa [.ref (a 0), .int p1] σ d u σ d := by
  refine zz_metI zpl_X8 hDA (Nat.le_of_ble_eq_true rfl) ?_
  intro p e R s m args below meth c Q ls hx hb hml C hRf hRl hQ hP hS hl
  have hl : lv_has ls 3 [(0, .ref (a 0)), (1, .int p1)] := hl
  unfold f_X8_refusalsOf at hf
  refine lv_iload_n hx hb dX8_refusalsOf_0 rfl (lv_at hl 1 rfl) ?_
  refine lv_bipush (v := 11) hx hb dX8_refusalsOf_1 (by decide) ?_
  have hJ16 : ∀ (v1 : Int32), j_X8_refusalsOf_16 σ v1 = some u → ∀ (H : Heap) (locs : List Loc) (ls : Array Slot), lv_has ls 3 [(0, .ref (a 0))] → va_P D vwCl (wl a cA σ d) H → va_S A s.heap H locs → W p l e R s m args below meth c H locs 0 0 Q (F0 m 16 ls [.int v1]) := by
    intro v1 hf H locs ls hl hP hS
    unfold j_X8_refusalsOf_16 at hf
    refine lv_istore_n (lv' := [(2, .int v1), (0, .ref (a 0))]) hx hb dX8_refusalsOf_16 rfl hl (by decide) rfl (fun ls hl => ?_)
    refine lv_iload_n hx hb dX8_refusalsOf_17 rfl (lv_at hl 0 rfl) ?_
    refine lv_iconst (v := 1) hx hb dX8_refusalsOf_18 (by decide) ?_
    refine lv_icmp_lt (tgt := 37) hx hb dX8_refusalsOf_19 (by decide) (fun hb1 => ?_) (fun hb1 => ?_)
    · have hf := ifT hb1 hf
      refine lv_iconst (v := (-1)) hx hb dX8_refusalsOf_37 (by decide) ?_
      have hf := Option.some.inj hf
      subst hf
      exact hQ _ _ _ _ dX8_refusalsOf_38 hP hS
    · have hf := ifF hb1 hf
      refine lv_iload_n hx hb dX8_refusalsOf_22 rfl (lv_at hl 0 rfl) ?_
      refine lv_bipush (v := 7) hx hb dX8_refusalsOf_23 (by decide) ?_
      refine lv_icmp_gt (tgt := 37) hx hb dX8_refusalsOf_25 (by decide) (fun hb2 => ?_) (fun hb2 => ?_)
      · have hf := ifT hb2 hf
        refine lv_iconst (v := (-1)) hx hb dX8_refusalsOf_37 (by decide) ?_
        have hf := Option.some.inj hf
        subst hf
        exact hQ _ _ _ _ dX8_refusalsOf_38 hP hS
      · have hf := ifF hb2 hf
        refine lv_aload_n hx hb dX8_refusalsOf_28 rfl (lv_at hl 1 rfl) ?_
        refine zg_X8_15 hx hb C hP (by decide) lay_0 rfl dX8_refusalsOf_29 ?_
        refine lv_iload_n hx hb dX8_refusalsOf_32 rfl (lv_at hl 0 rfl) ?_
        obtain ⟨hc3, hf⟩ := chk_some hf
        refine zz_iald hx hb C hP (by decide) lay_2 (inb_vp hc3) dX8_refusalsOf_33 ?_
        refine lv_goto (tgt := 38) hx hb dX8_refusalsOf_34 (by decide) ?_
        have hf := Option.some.inj hf
        subst hf
        exact hQ _ _ _ _ dX8_refusalsOf_38 hP hS
  refine lv_icmp_ge (tgt := 10) hx hb dX8_refusalsOf_3 (by decide) (fun hb4 => ?_) (fun hb4 => ?_)
  · have hf := ifT hb4 hf
    refine lv_iload_n hx hb dX8_refusalsOf_10 rfl (lv_at hl 1 rfl) ?_
    refine lv_bipush (v := 11) hx hb dX8_refusalsOf_11 (by decide) ?_
    refine lv_isub hx hb dX8_refusalsOf_13 ?_
    refine lv_iconst (v := 1) hx hb dX8_refusalsOf_14 (by decide) ?_
    refine lv_iadd hx hb dX8_refusalsOf_15 ?_
    exact hJ16 _ hf _ _ _ (lv_sub hl [0] rfl) hP hS
  · have hf := ifF hb4 hf
    refine lv_iconst (v := 0) hx hb dX8_refusalsOf_6 (by decide) ?_
    refine lv_goto (tgt := 16) hx hb dX8_refusalsOf_7 (by decide) ?_
    exact hJ16 _ hf _ _ _ (lv_sub hl [0] rfl) hP hS
set_option maxHeartbeats 4000000 in
set_option maxRecDepth 100000 in
theorem c_X8_status (l : Launch) {D : va_G} {a : Nat → Nat} {cA : Nat → ClassId} {A : Nat → Prop} {sa : Nat → Nat} (hDA : DA a A) {σ : PH} {d : PD} (hd1 : isHall d.1) (p1 : Int32) {u : Int32} (hf : f_X8_status σ d p1 = some u) : CTi l yX8_status cX8_status 2 (some .int) 1 22 D a cA A sa [.ref (a 0), .int p1] σ d u σ d := by
  refine zz_metI zpl_X8 hDA (Nat.le_of_ble_eq_true rfl) ?_
  intro p e R s m args below meth c Q ls hx hb hml C hRf hRl hQ hP hS hl
  have hl : lv_has ls 2 [(0, .ref (a 0)), (1, .int p1)] := hl
  unfold f_X8_status at hf
  refine lv_iload_n hx hb dX8_status_0 rfl (lv_at hl 1 rfl) ?_
  have hJ63 : j_X8_status_63 σ d p1 = some u → ∀ (H : Heap) (locs : List Loc) (ls : Array Slot), lv_has ls 2 [(0, .ref (a 0)), (1, .int p1)] → va_P D vwCl (wl a cA σ d) H → va_S A s.heap H locs → W p l e R s m args below meth c H locs 0 0 Q (F0 m 63 ls []) := by
    intro  hf H locs ls hl hP hS
    unfold j_X8_status_63 at hf
    refine lv_aload_n hx hb dX8_status_63 rfl (lv_at hl 0 rfl) ?_
    refine zg_X8_50 hx hb C hP (by decide) lay_0 rfl dX8_status_64 ?_
    refine lv_iload_n hx hb dX8_status_67 rfl (lv_at hl 1 rfl) ?_
    refine lv_iconst (v := 1) hx hb dX8_status_68 (by decide) ?_
    refine lv_isub hx hb dX8_status_69 ?_
    obtain ⟨u1, hzu1, hf⟩ := obd_some hf
    refine zz_callVi (rest := []) hx hb hml C hP hS (c_X2_rule l hDA (h := d.1) hd1 (p1 - 1) hzu1) zw_X8_168 ⟨Nat.le_trans (Nat.le_of_ble_eq_true rfl) hRf, Nat.le_trans (Nat.le_of_ble_eq_true rfl) hRl⟩ (lth0 hd1) (lay_h0 hd1) rfl rfl hl.1 (Nat.le_of_ble_eq_true rfl) ⟨Nat.zero_le _, Nat.zero_le _⟩ rfl dX8_status_70 (fun H locs hP hS => ?_)
    have hf := Option.some.inj hf
    subst hf
    exact hQ _ _ _ _ dX8_status_73 hP hS
  by_cases hb1 : p1 = 0
  · have hf := ifT hb1 hf
    refine lv_tableIn (tgt := 52) hx hb dX8_status_1 (by rw [hb1]; decide) (by rw [hb1]; decide) (by rw [hb1]; rfl) (by decide) ?_
    refine lv_aload_n hx hb dX8_status_52 rfl (lv_at hl 0 rfl) ?_
    refine zg_X8_50 hx hb C hP (by decide) lay_0 rfl dX8_status_53 ?_
    refine zg_X8_109 hx hb C hP (lth0 hd1) (lay_h0 hd1) rfl dX8_status_56 ?_
    refine zg_X8_150 hx hb C hP (lth hd1 1 (by decide)) (lay_h1 hd1) rfl dX8_status_59 ?_
    have hf := Option.some.inj hf
    subst hf
    exact hQ _ _ _ _ dX8_status_62 hP hS
  have hf := ifF hb1 hf
  by_cases hb2 : p1 = 1
  · have hf := ifT hb2 hf
    refine lv_tableIn (tgt := 63) hx hb dX8_status_1 (by rw [hb2]; decide) (by rw [hb2]; decide) (by rw [hb2]; rfl) (by decide) ?_
    exact hJ63  hf _ _ _ (lv_sub hl [0, 1] rfl) hP hS
  have hf := ifF hb2 hf
  by_cases hb3 : p1 = 2
  · have hf := ifT hb3 hf
    refine lv_tableIn (tgt := 63) hx hb dX8_status_1 (by rw [hb3]; decide) (by rw [hb3]; decide) (by rw [hb3]; rfl) (by decide) ?_
    exact hJ63  hf _ _ _ (lv_sub hl [0, 1] rfl) hP hS
  have hf := ifF hb3 hf
  by_cases hb4 : p1 = 3
  · have hf := ifT hb4 hf
    refine lv_tableIn (tgt := 63) hx hb dX8_status_1 (by rw [hb4]; decide) (by rw [hb4]; decide) (by rw [hb4]; rfl) (by decide) ?_
    exact hJ63  hf _ _ _ (lv_sub hl [0, 1] rfl) hP hS
  have hf := ifF hb4 hf
  by_cases hb5 : p1 = 4
  · have hf := ifT hb5 hf
    refine lv_tableIn (tgt := 63) hx hb dX8_status_1 (by rw [hb5]; decide) (by rw [hb5]; decide) (by rw [hb5]; rfl) (by decide) ?_
    exact hJ63  hf _ _ _ (lv_sub hl [0, 1] rfl) hP hS
  have hf := ifF hb5 hf
  by_cases hb6 : p1 = 5
  · have hf := ifT hb6 hf
    refine lv_tableIn (tgt := 74) hx hb dX8_status_1 (by rw [hb6]; decide) (by rw [hb6]; decide) (by rw [hb6]; rfl) (by decide) ?_
    refine lv_aload_n hx hb dX8_status_74 rfl (lv_at hl 0 rfl) ?_
    refine zg_X8_50 hx hb C hP (by decide) lay_0 rfl dX8_status_75 ?_
    refine zg_X8_223 hx hb C hP (lth0 hd1) (lay_h0 hd1) rfl dX8_status_78 ?_
    have hf := Option.some.inj hf
    subst hf
    exact hQ _ _ _ _ dX8_status_81 hP hS
  have hf := ifF hb6 hf
  by_cases hb7 : p1 = 6
  · have hf := ifT hb7 hf
    refine lv_tableIn (tgt := 82) hx hb dX8_status_1 (by rw [hb7]; decide) (by rw [hb7]; decide) (by rw [hb7]; rfl) (by decide) ?_
    refine lv_aload_n hx hb dX8_status_82 rfl (lv_at hl 0 rfl) ?_
    refine zg_X8_50 hx hb C hP (by decide) lay_0 rfl dX8_status_83 ?_
    obtain ⟨u9, hzu9, hf⟩ := obd_some hf
    refine zz_callVi (rest := []) hx hb hml C hP hS (c_X2_trueWorld l hDA (h := d.1) hd1 hzu9) zw_X8_320 ⟨Nat.le_trans (Nat.le_of_ble_eq_true rfl) hRf, Nat.le_trans (Nat.le_of_ble_eq_true rfl) hRl⟩ (lth0 hd1) (lay_h0 hd1) rfl rfl hl.1 (Nat.le_of_ble_eq_true rfl) ⟨Nat.zero_le _, Nat.zero_le _⟩ rfl dX8_status_86 (fun H locs hP hS => ?_)
    have hf := Option.some.inj hf
    subst hf
    exact hQ _ _ _ _ dX8_status_89 hP hS
  have hf := ifF hb7 hf
  by_cases hb9 : p1 = 7
  · have hf := ifT hb9 hf
    refine lv_tableIn (tgt := 90) hx hb dX8_status_1 (by rw [hb9]; decide) (by rw [hb9]; decide) (by rw [hb9]; rfl) (by decide) ?_
    refine lv_aload_n hx hb dX8_status_90 rfl (lv_at hl 0 rfl) ?_
    refine zg_X8_50 hx hb C hP (by decide) lay_0 rfl dX8_status_91 ?_
    refine zg_X8_333 hx hb C hP (lth0 hd1) (lay_h0 hd1) rfl dX8_status_94 ?_
    have hf := Option.some.inj hf
    subst hf
    exact hQ _ _ _ _ dX8_status_97 hP hS
  have hf := ifF hb9 hf
  by_cases hb10 : p1 = 8
  · have hf := ifT hb10 hf
    refine lv_tableIn (tgt := 98) hx hb dX8_status_1 (by rw [hb10]; decide) (by rw [hb10]; decide) (by rw [hb10]; rfl) (by decide) ?_
    refine lv_aload_n hx hb dX8_status_98 rfl (lv_at hl 0 rfl) ?_
    refine zg_X8_22 hx hb C hP (by decide) lay_0 rfl dX8_status_99 ?_
    refine zg_X8_346 hx hb C hP (by decide) lay_3 rfl dX8_status_102 ?_
    have hf := Option.some.inj hf
    subst hf
    exact hQ _ _ _ _ dX8_status_105 hP hS
  have hf := ifF hb10 hf
  refine lv_tableOut (tgt := 106) hx hb dX8_status_1 (sw_0_8 hb1 hb2 hb3 hb4 hb5 hb6 hb7 hb9 hb10) (by decide) ?_
  refine lv_aload_n hx hb dX8_status_106 rfl (lv_at hl 0 rfl) ?_
  refine lv_iload_n hx hb dX8_status_107 rfl (lv_at hl 1 rfl) ?_
  obtain ⟨u12, hzu12, hf⟩ := obd_some hf
  refine zz_callVi (rest := []) hx hb hml C hP hS (c_X8_refusalsOf l hDA p1 hzu12) zw_X8_349 ⟨Nat.le_trans (Nat.le_of_ble_eq_true rfl) hRf, Nat.le_trans (Nat.le_of_ble_eq_true rfl) hRl⟩ (by decide) lay_0 rfl rfl hl.1 (Nat.le_of_ble_eq_true rfl) ⟨Nat.zero_le _, Nat.zero_le _⟩ rfl dX8_status_108 (fun H locs hP hS => ?_)
  have hf := Option.some.inj hf
  subst hf
  exact hQ _ _ _ _ dX8_status_111 hP hS
set_option maxHeartbeats 4000000 in
set_option maxRecDepth 100000 in
theorem c_X9_no (l : Launch) {D : va_G} {a : Nat → Nat} {cA : Nat → ClassId} {A : Nat → Prop} {sa : Nat → Nat} (hDA : DA a A) {σ : PH} {d : PD} (p1 : Int32) {u : Int32 × PH} (hf : f_X9_no σ p1 = some u) : CTi l yX9_no cX9_no 2 (some .int) 0 0 D a cA A sa [.ref (a 81), .int p1] σ d u.1 u.2 d := by
  refine zz_metI zpl_X9 hDA (Nat.le_of_ble_eq_true rfl) ?_
  intro p e R s m args below meth c Q ls hx hb hml C hRf hRl hQ hP hS hl
  have hl : lv_has ls 2 [(0, .ref (a 81)), (1, .int p1)] := hl
  unfold f_X9_no at hf
  refine lv_aload_n hx hb dX9_no_0 rfl (lv_at hl 0 rfl) ?_
  refine zg_X9_22 hx hb C hP (by decide) lay_81 rfl dX9_no_1 ?_
  refine lv_iload_n hx hb dX9_no_4 rfl (lv_at hl 1 rfl) ?_
  refine lv_ineg hx hb dX9_no_5 ?_
  refine lv_dup2_11 hx hb dX9_no_6 rfl rfl ?_
  obtain ⟨hc0, hf⟩ := chk_some hf
  refine zz_iald hx hb C hP (by decide) lay_82 (inb_vp hc0) dX9_no_7 ?_
  refine lv_iconst (v := 1) hx hb dX9_no_8 (by decide) ?_
  refine lv_iadd hx hb dX9_no_9 ?_
  obtain ⟨hc1, hf⟩ := chk_some hf
  refine zz_iast hx hb C hP hS (by decide) lay_82 (inb_vp hc1) dX9_no_10 (fun σ3 eσ3 H locs hP hS => ?_)
  have hf := bnd_at σ3 eσ3 hf
  refine lv_iload_n hx hb dX9_no_11 rfl (lv_at hl 1 rfl) ?_
  have hf := Option.some.inj hf
  subst hf
  exact hQ _ _ _ _ dX9_no_12 hP hS
set_option maxHeartbeats 4000000 in
set_option maxRecDepth 100000 in
theorem c_X9_noTen (l : Launch) {D : va_G} {a : Nat → Nat} {cA : Nat → ClassId} {A : Nat → Prop} {sa : Nat → Nat} (hDA : DA a A) {σ : PH} {d : PD} (p1 : Int32) {u : Int32 × PH} (hf : f_X9_noTen σ p1 = some u) : CTi l yX9_noTen cX9_noTen 2 (some .int) 0 0 D a cA A sa [.ref (a 81), .int p1] σ d u.1 u.2 d := by
  refine zz_metI zpl_X9 hDA (Nat.le_of_ble_eq_true rfl) ?_
  intro p e R s m args below meth c Q ls hx hb hml C hRf hRl hQ hP hS hl
  have hl : lv_has ls 2 [(0, .ref (a 81)), (1, .int p1)] := hl
  unfold f_X9_noTen at hf
  refine lv_aload_n hx hb dX9_noTen_0 rfl (lv_at hl 0 rfl) ?_
  refine zg_X9_22 hx hb C hP (by decide) lay_81 rfl dX9_noTen_1 ?_
  refine lv_iload_n hx hb dX9_noTen_4 rfl (lv_at hl 1 rfl) ?_
  refine lv_ineg hx hb dX9_noTen_5 ?_
  refine lv_dup2_11 hx hb dX9_noTen_6 rfl rfl ?_
  obtain ⟨hc0, hf⟩ := chk_some hf
  refine zz_iald hx hb C hP (by decide) lay_82 (inb_vp hc0) dX9_noTen_7 ?_
  refine lv_iconst (v := 1) hx hb dX9_noTen_8 (by decide) ?_
  refine lv_iadd hx hb dX9_noTen_9 ?_
  obtain ⟨hc1, hf⟩ := chk_some hf
  refine zz_iast hx hb C hP hS (by decide) lay_82 (inb_vp hc1) dX9_noTen_10 (fun σ3 eσ3 H locs hP hS => ?_)
  have hf := bnd_at σ3 eσ3 hf
  refine lv_iload_n hx hb dX9_noTen_11 rfl (lv_at hl 1 rfl) ?_
  refine lv_bipush (v := 10) hx hb dX9_noTen_12 (by decide) ?_
  refine lv_isub hx hb dX9_noTen_14 ?_
  have hf := Option.some.inj hf
  subst hf
  exact hQ _ _ _ _ dX9_noTen_15 hP hS
set_option maxHeartbeats 4000000 in
set_option maxRecDepth 100000 in
theorem c_X9_isShelf (l : Launch) {D : va_G} {a : Nat → Nat} {cA : Nat → ClassId} {A : Nat → Prop} {sa : Nat → Nat} (hDA : DA a A) {σ : PH} {d : PD} (p1 : Int32) {u : Int32} (hf : f_X9_isShelf p1 = u) : CTi l yX9_isShelf cX9_isShelf 2 (some .boolean) 0 0 D a cA A sa [.ref (a 81), .int p1] σ d u σ d := by
  refine zz_metZ zpl_X9 hDA (Nat.le_of_ble_eq_true rfl) ?_
  intro p e R s m args below meth c Q ls hx hb hml C hRf hRl hQ hP hS hl
  have hl : lv_has ls 2 [(0, .ref (a 81)), (1, .int p1)] := hl
  unfold f_X9_isShelf at hf
  refine lv_iload_n hx hb dX9_isShelf_0 rfl (lv_at hl 1 rfl) ?_
  refine lv_if_lt (tgt := 14) hx hb dX9_isShelf_1 (by decide) (fun hb0 => ?_) (fun hb0 => ?_)
  · have hf := ifT hb0 hf
    refine lv_iconst (v := 0) hx hb dX9_isShelf_14 (by decide) ?_
    subst hf
    exact hQ _ _ _ _ dX9_isShelf_15 (show narrow .boolean (.int 0) = .int 0 from rfl) hP hS
  · have hf := ifF hb0 hf
    refine lv_iload_n hx hb dX9_isShelf_4 rfl (lv_at hl 1 rfl) ?_
    refine lv_bipush (v := 8) hx hb dX9_isShelf_5 (by decide) ?_
    refine lv_icmp_ge (tgt := 14) hx hb dX9_isShelf_7 (by decide) (fun hb1 => ?_) (fun hb1 => ?_)
    · have hf := ifT hb1 hf
      refine lv_iconst (v := 0) hx hb dX9_isShelf_14 (by decide) ?_
      subst hf
      exact hQ _ _ _ _ dX9_isShelf_15 (show narrow .boolean (.int 0) = .int 0 from rfl) hP hS
    · have hf := ifF hb1 hf
      refine lv_iconst (v := 1) hx hb dX9_isShelf_10 (by decide) ?_
      refine lv_goto (tgt := 15) hx hb dX9_isShelf_11 (by decide) ?_
      subst hf
      exact hQ _ _ _ _ dX9_isShelf_15 (show narrow .boolean (.int 1) = .int 1 from rfl) hP hS
set_option maxHeartbeats 4000000 in
set_option maxRecDepth 100000 in
theorem c_X9_isSinger (l : Launch) {D : va_G} {a : Nat → Nat} {cA : Nat → ClassId} {A : Nat → Prop} {sa : Nat → Nat} (hDA : DA a A) {σ : PH} {d : PD} (p1 : Int32) {u : Int32} (hf : f_X9_isSinger σ p1 = u) : CTi l yX9_isSinger cX9_isSinger 2 (some .boolean) 0 0 D a cA A sa [.ref (a 81), .int p1] σ d u σ d := by
  refine zz_metZ zpl_X9 hDA (Nat.le_of_ble_eq_true rfl) ?_
  intro p e R s m args below meth c Q ls hx hb hml C hRf hRl hQ hP hS hl
  have hl : lv_has ls 2 [(0, .ref (a 81)), (1, .int p1)] := hl
  unfold f_X9_isSinger at hf
  refine lv_iload_n hx hb dX9_isSinger_0 rfl (lv_at hl 1 rfl) ?_
  refine lv_if_lt (tgt := 16) hx hb dX9_isSinger_1 (by decide) (fun hb0 => ?_) (fun hb0 => ?_)
  · have hf := ifT hb0 hf
    refine lv_iconst (v := 0) hx hb dX9_isSinger_16 (by decide) ?_
    subst hf
    exact hQ _ _ _ _ dX9_isSinger_17 (show narrow .boolean (.int 0) = .int 0 from rfl) hP hS
  · have hf := ifF hb0 hf
    refine lv_iload_n hx hb dX9_isSinger_4 rfl (lv_at hl 1 rfl) ?_
    refine lv_aload_n hx hb dX9_isSinger_5 rfl (lv_at hl 0 rfl) ?_
    refine zg_X9_96 hx hb C hP (by decide) lay_81 rfl dX9_isSinger_6 ?_
    refine lv_icmp_ge (tgt := 16) hx hb dX9_isSinger_9 (by decide) (fun hb1 => ?_) (fun hb1 => ?_)
    · have hf := ifT hb1 hf
      refine lv_iconst (v := 0) hx hb dX9_isSinger_16 (by decide) ?_
      subst hf
      exact hQ _ _ _ _ dX9_isSinger_17 (show narrow .boolean (.int 0) = .int 0 from rfl) hP hS
    · have hf := ifF hb1 hf
      refine lv_iconst (v := 1) hx hb dX9_isSinger_12 (by decide) ?_
      refine lv_goto (tgt := 17) hx hb dX9_isSinger_13 (by decide) ?_
      subst hf
      exact hQ _ _ _ _ dX9_isSinger_17 (show narrow .boolean (.int 1) = .int 1 from rfl) hP hS
set_option maxHeartbeats 4000000 in
set_option maxRecDepth 100000 in
theorem c_X9_isIn (l : Launch) {D : va_G} {a : Nat → Nat} {cA : Nat → ClassId} {A : Nat → Prop} {sa : Nat → Nat} (hDA : DA a A) {σ : PH} {d : PD} (p1 : Int32) (p2 : Int32) {u : Int32} (hf : f_X9_isIn p1 p2 = u) : CTi l yX9_isIn cX9_isIn 3 (some .boolean) 0 0 D a cA A sa [.ref (a 81), .int p1, .int p2] σ d u σ d := by
  refine zz_metZ zpl_X9 hDA (Nat.le_of_ble_eq_true rfl) ?_
  intro p e R s m args below meth c Q ls hx hb hml C hRf hRl hQ hP hS hl
  have hl : lv_has ls 3 [(0, .ref (a 81)), (1, .int p1), (2, .int p2)] := hl
  unfold f_X9_isIn at hf
  refine lv_iload_n hx hb dX9_isIn_0 rfl (lv_at hl 1 rfl) ?_
  refine lv_iload_n hx hb dX9_isIn_1 rfl (lv_at hl 2 rfl) ?_
  refine lv_ishr hx hb dX9_isIn_2 ?_
  refine lv_iconst (v := 1) hx hb dX9_isIn_3 (by decide) ?_
  refine lv_iand hx hb dX9_isIn_4 ?_
  refine lv_iconst (v := 1) hx hb dX9_isIn_5 (by decide) ?_
  refine lv_icmp_ne (tgt := 13) hx hb dX9_isIn_6 (by decide) (fun hb0 => ?_) (fun hb0 => ?_)
  · have hf := ifF hb0 hf
    refine lv_iconst (v := 0) hx hb dX9_isIn_13 (by decide) ?_
    subst hf
    exact hQ _ _ _ _ dX9_isIn_14 (show narrow .boolean (.int 0) = .int 0 from rfl) hP hS
  · have hf := ifT hb0 hf
    refine lv_iconst (v := 1) hx hb dX9_isIn_9 (by decide) ?_
    refine lv_goto (tgt := 14) hx hb dX9_isIn_10 (by decide) ?_
    subst hf
    exact hQ _ _ _ _ dX9_isIn_14 (show narrow .boolean (.int 1) = .int 1 from rfl) hP hS
set_option maxHeartbeats 4000000 in
set_option maxRecDepth 100000 in
theorem c_X9_everybody (l : Launch) {D : va_G} {a : Nat → Nat} {cA : Nat → ClassId} {A : Nat → Prop} {sa : Nat → Nat} (hDA : DA a A) {σ : PH} {d : PD}  {u : Int32} (hf : f_X9_everybody σ = u) : CTi l yX9_everybody cX9_everybody 1 (some .int) 0 0 D a cA A sa [.ref (a 81)] σ d u σ d := by
  refine zz_metI zpl_X9 hDA (Nat.le_of_ble_eq_true rfl) ?_
  intro p e R s m args below meth c Q ls hx hb hml C hRf hRl hQ hP hS hl
  have hl : lv_has ls 1 [(0, .ref (a 81))] := hl
  unfold f_X9_everybody at hf
  refine lv_iconst (v := 1) hx hb dX9_everybody_0 (by decide) ?_
  refine lv_aload_n hx hb dX9_everybody_1 rfl (lv_at hl 0 rfl) ?_
  refine zg_X9_96 hx hb C hP (by decide) lay_81 rfl dX9_everybody_2 ?_
  refine lv_ishl hx hb dX9_everybody_5 ?_
  refine lv_iconst (v := 1) hx hb dX9_everybody_6 (by decide) ?_
  refine lv_isub hx hb dX9_everybody_7 ?_
  subst hf
  exact hQ _ _ _ _ dX9_everybody_8 hP hS
set_option maxHeartbeats 4000000 in
set_option maxRecDepth 100000 in
theorem c_X9_isSet (l : Launch) {D : va_G} {a : Nat → Nat} {cA : Nat → ClassId} {A : Nat → Prop} {sa : Nat → Nat} (hDA : DA a A) {σ : PH} {d : PD} (p1 : Int32) {u : Int32} (hf : f_X9_isSet σ p1 = u) : CTi l yX9_isSet cX9_isSet 2 (some .boolean) 1 20 D a cA A sa [.ref (a 81), .int p1] σ d u σ d := by
  refine zz_metZ zpl_X9 hDA (Nat.le_of_ble_eq_true rfl) ?_
  intro p e R s m args below meth c Q ls hx hb hml C hRf hRl hQ hP hS hl
  have hl : lv_has ls 2 [(0, .ref (a 81)), (1, .int p1)] := hl
  unfold f_X9_isSet at hf
  refine lv_iload_n hx hb dX9_isSet_0 rfl (lv_at hl 1 rfl) ?_
  refine lv_if_le (tgt := 16) hx hb dX9_isSet_1 (by decide) (fun hb0 => ?_) (fun hb0 => ?_)
  · have hf := ifT hb0 hf
    refine lv_iconst (v := 0) hx hb dX9_isSet_16 (by decide) ?_
    subst hf
    exact hQ _ _ _ _ dX9_isSet_17 (show narrow .boolean (.int 0) = .int 0 from rfl) hP hS
  · have hf := ifF hb0 hf
    refine lv_iload_n hx hb dX9_isSet_4 rfl (lv_at hl 1 rfl) ?_
    refine lv_aload_n hx hb dX9_isSet_5 rfl (lv_at hl 0 rfl) ?_
    obtain ⟨u2, hzu2⟩ : ∃ z, z = f_X9_everybody σ := ⟨_, rfl⟩
    have hf := bnd_at u2 hzu2 hf
    refine zz_callVi (rest := [.int p1]) hx hb hml C hP hS (c_X9_everybody l hDA  hzu2.symm) zw_X9_99 ⟨Nat.le_trans (Nat.le_of_ble_eq_true rfl) hRf, Nat.le_trans (Nat.le_of_ble_eq_true rfl) hRl⟩ (by decide) lay_81 rfl rfl hl.1 (Nat.le_of_ble_eq_true rfl) ⟨Nat.zero_le _, Nat.zero_le _⟩ rfl dX9_isSet_6 (fun H locs hP hS => ?_)
    refine lv_icmp_gt (tgt := 16) hx hb dX9_isSet_9 (by decide) (fun hb2 => ?_) (fun hb2 => ?_)
    · have hf := ifT hb2 hf
      refine lv_iconst (v := 0) hx hb dX9_isSet_16 (by decide) ?_
      subst hf
      exact hQ _ _ _ _ dX9_isSet_17 (show narrow .boolean (.int 0) = .int 0 from rfl) hP hS
    · have hf := ifF hb2 hf
      refine lv_iconst (v := 1) hx hb dX9_isSet_12 (by decide) ?_
      refine lv_goto (tgt := 17) hx hb dX9_isSet_13 (by decide) ?_
      subst hf
      exact hQ _ _ _ _ dX9_isSet_17 (show narrow .boolean (.int 1) = .int 1 from rfl) hP hS
set_option maxHeartbeats 4000000 in
set_option maxRecDepth 100000 in
theorem c_X9_count (l : Launch) {D : va_G} {a : Nat → Nat} {cA : Nat → ClassId} {A : Nat → Prop} {sa : Nat → Nat} (hDA : DA a A) {σ : PH} {d : PD} (p1 : Int32) {u : Int32} (hf : f_X9_count p1 = some u) : CTi l yX9_count cX9_count 4 (some .int) 0 0 D a cA A sa [.ref (a 81), .int p1] σ d u σ d := by
  refine zz_metI zpl_X9 hDA (Nat.le_of_ble_eq_true rfl) ?_
  intro p e R s m args below meth c Q ls hx hb hml C hRf hRl hQ hP hS hl
  have hl : lv_has ls 4 [(0, .ref (a 81)), (1, .int p1)] := hl
  unfold f_X9_count at hf
  refine lv_iconst (v := 0) hx hb dX9_count_0 (by decide) ?_
  refine lv_istore_n (lv' := [(2, .int 0), (0, .ref (a 81)), (1, .int p1)]) hx hb dX9_count_1 rfl hl (by decide) rfl (fun ls hl => ?_)
  refine lv_iconst (v := 0) hx hb dX9_count_2 (by decide) ?_
  refine lv_istore_n (lv' := [(3, .int 0), (2, .int 0), (0, .ref (a 81)), (1, .int p1)]) hx hb dX9_count_3 rfl hl (by decide) rfl (fun ls hl => ?_)
  refine loopN_ind (P := fun (q1 : Int32 × Int32) => ∀ (H : Heap) (locs : List Loc) (ls : Array Slot), lv_has ls 4 [(1, .int p1), (2, .int q1.1), (3, .int q1.2)] → va_P D vwCl (wl a cA σ d) H → va_S A s.heap H locs → W p l e R s m args below meth c H locs 0 0 Q (F0 m 4 ls [])) ?_ _ _ hf _ _ _ (lv_sub hl [3, 1, 0] rfl) hP hS
  intro k2 ihk2 q1 hf H locs ls hl hP hS
  unfold b_X9_count_4 at hf
  refine lv_iload_n hx hb dX9_count_4 rfl (lv_at hl 2 rfl) ?_
  refine lv_bipush (v := 8) hx hb dX9_count_5 (by decide) ?_
  refine lv_icmp_ge (tgt := 24) hx hb dX9_count_7 (by decide) (fun hb2 => ?_) (fun hb2 => ?_)
  · have hf := ifT hb2 hf
    refine lv_iload_n hx hb dX9_count_24 rfl (lv_at hl 1 rfl) ?_
    have hf := Option.some.inj hf
    subst hf
    exact hQ _ _ _ _ dX9_count_25 hP hS
  · have hf := ifF hb2 hf
    refine lv_iload_n hx hb dX9_count_10 rfl (lv_at hl 1 rfl) ?_
    refine lv_iload_n hx hb dX9_count_11 rfl (lv_at hl 0 rfl) ?_
    refine lv_iload_n hx hb dX9_count_12 rfl (lv_at hl 2 rfl) ?_
    refine lv_ishr hx hb dX9_count_13 ?_
    refine lv_iconst (v := 1) hx hb dX9_count_14 (by decide) ?_
    refine lv_iand hx hb dX9_count_15 ?_
    refine lv_iadd hx hb dX9_count_16 ?_
    refine lv_topi (fun v4 ev4 => ?_)
    have hf := bnd_at v4 ev4 hf
    refine lv_istore_n (lv' := [(2, .int v4), (1, .int p1), (3, .int q1.2)]) hx hb dX9_count_17 rfl hl (by decide) rfl (fun ls hl => ?_)
    obtain ⟨v5, ev5⟩ : ∃ z : Int32, z = q1.2 + 1 := ⟨_, rfl⟩
    have hf := bnd_at v5 ev5 hf
    refine lv_iinc (v := v5) (lv' := [(3, .int v5), (2, .int v4), (1, .int p1)]) hx hb dX9_count_18 hl (k := 2) rfl (by rw [ev5]; rfl) (by decide) rfl (fun ls hl => ?_)
    refine lv_goto (tgt := 4) hx hb dX9_count_21 (by decide) ?_
    exact ihk2 _ hf _ _ _ (lv_sub hl [2, 1, 0] rfl) hP hS
set_option maxHeartbeats 4000000 in
set_option maxRecDepth 100000 in
theorem c_X9_isOne (l : Launch) {D : va_G} {a : Nat → Nat} {cA : Nat → ClassId} {A : Nat → Prop} {sa : Nat → Nat} (hDA : DA a A) {σ : PH} {d : PD} (p1 : Int32) {u : Int32} (hf : f_X9_isOne p1 = u) : CTi l yX9_isOne cX9_isOne 2 (some .boolean) 0 0 D a cA A sa [.ref (a 81), .int p1] σ d u σ d := by
  refine zz_metZ zpl_X9 hDA (Nat.le_of_ble_eq_true rfl) ?_
  intro p e R s m args below meth c Q ls hx hb hml C hRf hRl hQ hP hS hl
  have hl : lv_has ls 2 [(0, .ref (a 81)), (1, .int p1)] := hl
  unfold f_X9_isOne at hf
  refine lv_iload_n hx hb dX9_isOne_0 rfl (lv_at hl 1 rfl) ?_
  refine lv_if_eq (tgt := 9) hx hb dX9_isOne_1 (by decide) (fun hb0 => ?_) (fun hb0 => ?_)
  · have hf := ifT hb0 hf
    refine lv_iconst (v := 1) hx hb dX9_isOne_9 (by decide) ?_
    refine lv_goto (tgt := 14) hx hb dX9_isOne_10 (by decide) ?_
    subst hf
    exact hQ _ _ _ _ dX9_isOne_14 (show narrow .boolean (.int 1) = .int 1 from rfl) hP hS
  · have hf := ifF hb0 hf
    refine lv_iload_n hx hb dX9_isOne_4 rfl (lv_at hl 1 rfl) ?_
    refine lv_iconst (v := 1) hx hb dX9_isOne_5 (by decide) ?_
    refine lv_icmp_ne (tgt := 13) hx hb dX9_isOne_6 (by decide) (fun hb1 => ?_) (fun hb1 => ?_)
    · have hf := ifF hb1 hf
      refine lv_iconst (v := 0) hx hb dX9_isOne_13 (by decide) ?_
      subst hf
      exact hQ _ _ _ _ dX9_isOne_14 (show narrow .boolean (.int 0) = .int 0 from rfl) hP hS
    · have hf := ifT hb1 hf
      refine lv_iconst (v := 1) hx hb dX9_isOne_9 (by decide) ?_
      refine lv_goto (tgt := 14) hx hb dX9_isOne_10 (by decide) ?_
      subst hf
      exact hQ _ _ _ _ dX9_isOne_14 (show narrow .boolean (.int 1) = .int 1 from rfl) hP hS
set_option maxHeartbeats 4000000 in
set_option maxRecDepth 100000 in
theorem c_X9_row (l : Launch) {D : va_G} {a : Nat → Nat} {cA : Nat → ClassId} {A : Nat → Prop} {sa : Nat → Nat} (hDA : DA a A) {σ : PH} {d : PD} (p1 : Int32) (p2 : Int32) (p3 : Int32) {u : Int32 × PH} (hf : f_X9_row σ p1 p2 p3 = some u) : CTi l yX9_row cX9_row 5 (some .int) 1 21 D a cA A sa [.ref (a 81), .int p1, .int p2, .int p3] σ d u.1 u.2 d := by
  refine zz_metI zpl_X9 hDA (Nat.le_of_ble_eq_true rfl) ?_
  intro p e R s m args below meth c Q ls hx hb hml C hRf hRl hQ hP hS hl
  have hl : lv_has ls 5 [(0, .ref (a 81)), (1, .int p1), (2, .int p2), (3, .int p3)] := hl
  unfold f_X9_row at hf
  refine lv_aload_n hx hb dX9_row_0 rfl (lv_at hl 0 rfl) ?_
  refine lv_iload_n hx hb dX9_row_1 rfl (lv_at hl 1 rfl) ?_
  obtain ⟨u1, hzu1⟩ : ∃ z, z = f_X9_isShelf p1 := ⟨_, rfl⟩
  have hf := bnd_at u1 hzu1 hf
  refine zz_callVi (rest := []) hx hb hml C hP hS (c_X9_isShelf l hDA p1 hzu1.symm) zw_X9_103 ⟨Nat.le_trans (Nat.le_of_ble_eq_true rfl) hRf, Nat.le_trans (Nat.le_of_ble_eq_true rfl) hRl⟩ (by decide) lay_81 rfl rfl hl.1 (Nat.le_of_ble_eq_true rfl) ⟨Nat.zero_le _, Nat.zero_le _⟩ rfl dX9_row_2 (fun H locs hP hS => ?_)
  refine lv_if_ne (tgt := 14) hx hb dX9_row_5 (by decide) (fun hb1 => ?_) (fun hb1 => ?_)
  · have hf := ifF hb1 hf
    refine lv_iload_n hx hb dX9_row_14 rfl (lv_at hl 3 rfl) ?_
    refine lv_if_ge (tgt := 25) hx hb dX9_row_15 (by decide) (fun hb2 => ?_) (fun hb2 => ?_)
    · have hf := ifT hb2 hf
      refine lv_iload_n hx hb dX9_row_25 rfl (lv_at hl 2 rfl) ?_
      refine lv_if_lt (tgt := 34) hx hb dX9_row_26 (by decide) (fun hb3 => ?_) (fun hb3 => ?_)
      · have hf := ifT hb3 hf
        refine lv_aload_n hx hb dX9_row_34 rfl (lv_at hl 0 rfl) ?_
        refine lv_bipush (v := (-6)) hx hb dX9_row_35 (by decide) ?_
        obtain ⟨u5, hzu5, hf⟩ := obd_some hf
        refine zz_callVi (rest := []) hx hb hml C hP hS (c_X9_no l hDA (-6) hzu5) zw_X9_107 ⟨Nat.le_trans (Nat.le_of_ble_eq_true rfl) hRf, Nat.le_trans (Nat.le_of_ble_eq_true rfl) hRl⟩ (by decide) lay_81 rfl rfl hl.1 (Nat.le_of_ble_eq_true rfl) ⟨Nat.zero_le _, Nat.zero_le _⟩ rfl dX9_row_37 (fun H locs hP hS => ?_)
        have hf := Option.some.inj hf
        subst hf
        exact hQ _ _ _ _ dX9_row_40 hP hS
      · have hf := ifF hb3 hf
        refine lv_iload_n hx hb dX9_row_29 rfl (lv_at hl 2 rfl) ?_
        refine lv_iconst (v := 3) hx hb dX9_row_30 (by decide) ?_
        refine lv_icmp_le (tgt := 41) hx hb dX9_row_31 (by decide) (fun hb5 => ?_) (fun hb5 => ?_)
        · have hf := ifT hb5 hf
          refine lv_iload_n hx hb dX9_row_41 rfl (lv_at hl 3 rfl) ?_
          refine lv_sipush (v := 160) hx hb dX9_row_42 (by decide) ?_
          refine lv_icmp_le (tgt := 55) hx hb dX9_row_45 (by decide) (fun hb6 => ?_) (fun hb6 => ?_)
          · have hf := ifT hb6 hf
            refine lv_aload_n hx hb dX9_row_55 rfl (lv_at hl 0 rfl) ?_
            refine zg_X9_44 hx hb C hP (by decide) lay_81 rfl dX9_row_56 ?_
            refine lv_iload_n hx hb dX9_row_59 rfl (lv_at hl 1 rfl) ?_
            refine lv_iconst (v := 1) hx hb dX9_row_60 (by decide) ?_
            obtain ⟨hc7, hf⟩ := chk_some hf
            refine zz_iast hx hb C hP hS (by decide) lay_89 (inb_vp hc7) dX9_row_61 (fun σ9 eσ9 H locs hP hS => ?_)
            have hf := bnd_at σ9 eσ9 hf
            refine lv_aload_n hx hb dX9_row_62 rfl (lv_at hl 0 rfl) ?_
            refine zg_X9_47 hx hb C hP (by decide) lay_81 rfl dX9_row_63 ?_
            refine lv_iload_n hx hb dX9_row_66 rfl (lv_at hl 1 rfl) ?_
            refine lv_iload_n hx hb dX9_row_67 rfl (lv_at hl 2 rfl) ?_
            obtain ⟨hc9, hf⟩ := chk_some hf
            refine zz_iast hx hb C hP hS (by decide) lay_90 (inb_vp hc9) dX9_row_68 (fun σ11 eσ11 H locs hP hS => ?_)
            have hf := bnd_at σ11 eσ11 hf
            refine lv_aload_n hx hb dX9_row_69 rfl (lv_at hl 0 rfl) ?_
            refine zg_X9_50 hx hb C hP (by decide) lay_81 rfl dX9_row_70 ?_
            refine lv_iload_n hx hb dX9_row_73 rfl (lv_at hl 1 rfl) ?_
            refine lv_iload_n hx hb dX9_row_74 rfl (lv_at hl 3 rfl) ?_
            obtain ⟨hc11, hf⟩ := chk_some hf
            refine zz_iast hx hb C hP hS (by decide) lay_91 (inb_vp hc11) dX9_row_75 (fun σ13 eσ13 H locs hP hS => ?_)
            have hf := bnd_at σ13 eσ13 hf
            refine lv_iconst (v := 0) hx hb dX9_row_76 (by decide) ?_
            refine lv_istore (lv' := [(4, .int 0), (0, .ref (a 81)), (1, .int p1), (2, .int p2), (3, .int p3)]) hx hb dX9_row_77 hl (by decide) rfl (fun ls hl => ?_)
            refine loopN_ind (P := fun (q14 : Int32 × PH) => ∀ (H : Heap) (locs : List Loc) (ls : Array Slot), lv_has ls 5 [(0, .ref (a 81)), (1, .int p1), (4, .int q14.1)] → va_P D vwCl (wl a cA q14.2 d) H → va_S A s.heap H locs → W p l e R s m args below meth c H locs 0 0 Q (F0 m 79 ls [])) ?_ _ _ hf _ _ _ (lv_sub hl [1, 2, 0] rfl) hP hS
            intro k15 ihk15 q14 hf H locs ls hl hP hS
            unfold b_X9_row_79 at hf
            refine lv_iload hx hb dX9_row_79 (lv_at hl 2 rfl) ?_
            refine lv_sipush (v := 160) hx hb dX9_row_81 (by decide) ?_
            refine lv_icmp_ge (tgt := 107) hx hb dX9_row_84 (by decide) (fun hb15 => ?_) (fun hb15 => ?_)
            · have hf := ifT hb15 hf
              refine lv_iconst (v := 1) hx hb dX9_row_107 (by decide) ?_
              have hf := Option.some.inj hf
              subst hf
              exact hQ _ _ _ _ dX9_row_108 hP hS
            · have hf := ifF hb15 hf
              refine lv_aload_n hx hb dX9_row_87 rfl (lv_at hl 0 rfl) ?_
              refine zg_X9_56 hx hb C hP (by decide) lay_81 rfl dX9_row_88 ?_
              refine lv_sipush (v := 160) hx hb dX9_row_91 (by decide) ?_
              refine lv_iload_n hx hb dX9_row_94 rfl (lv_at hl 1 rfl) ?_
              refine lv_imul hx hb dX9_row_95 ?_
              refine lv_iload hx hb dX9_row_96 (lv_at hl 2 rfl) ?_
              refine lv_iadd hx hb dX9_row_98 ?_
              refine lv_lconst (v := 0) hx hb dX9_row_99 (by decide) ?_
              obtain ⟨hc16, hf⟩ := chk_some hf
              refine zz_last hx hb C hP hS (by decide) lay_93 (inb_vp hc16) dX9_row_100 (fun σ18 eσ18 H locs hP hS => ?_)
              have hf := bnd_at σ18 eσ18 hf
              obtain ⟨v19, ev19⟩ : ∃ z : Int32, z = q14.1 + 1 := ⟨_, rfl⟩
              have hf := bnd_at v19 ev19 hf
              refine lv_iinc (v := v19) (lv' := [(4, .int v19), (0, .ref (a 81)), (1, .int p1)]) hx hb dX9_row_101 hl (k := 2) rfl (by rw [ev19]; rfl) (by decide) rfl (fun ls hl => ?_)
              refine lv_goto (tgt := 79) hx hb dX9_row_104 (by decide) ?_
              exact ihk15 _ hf _ _ _ (lv_sub hl [1, 2, 0] rfl) hP hS
          · have hf := ifF hb6 hf
            refine lv_aload_n hx hb dX9_row_48 rfl (lv_at hl 0 rfl) ?_
            refine lv_bipush (v := (-7)) hx hb dX9_row_49 (by decide) ?_
            obtain ⟨u20, hzu20, hf⟩ := obd_some hf
            refine zz_callVi (rest := []) hx hb hml C hP hS (c_X9_no l hDA (-7) hzu20) zw_X9_107 ⟨Nat.le_trans (Nat.le_of_ble_eq_true rfl) hRf, Nat.le_trans (Nat.le_of_ble_eq_true rfl) hRl⟩ (by decide) lay_81 rfl rfl hl.1 (Nat.le_of_ble_eq_true rfl) ⟨Nat.zero_le _, Nat.zero_le _⟩ rfl dX9_row_51 (fun H locs hP hS => ?_)
            have hf := Option.some.inj hf
            subst hf
            exact hQ _ _ _ _ dX9_row_54 hP hS
        · have hf := ifF hb5 hf
          refine lv_aload_n hx hb dX9_row_34 rfl (lv_at hl 0 rfl) ?_
          refine lv_bipush (v := (-6)) hx hb dX9_row_35 (by decide) ?_
          obtain ⟨u21, hzu21, hf⟩ := obd_some hf
          refine zz_callVi (rest := []) hx hb hml C hP hS (c_X9_no l hDA (-6) hzu21) zw_X9_107 ⟨Nat.le_trans (Nat.le_of_ble_eq_true rfl) hRf, Nat.le_trans (Nat.le_of_ble_eq_true rfl) hRl⟩ (by decide) lay_81 rfl rfl hl.1 (Nat.le_of_ble_eq_true rfl) ⟨Nat.zero_le _, Nat.zero_le _⟩ rfl dX9_row_37 (fun H locs hP hS => ?_)
          have hf := Option.some.inj hf
          subst hf
          exact hQ _ _ _ _ dX9_row_40 hP hS
    · have hf := ifF hb2 hf
      refine lv_aload_n hx hb dX9_row_18 rfl (lv_at hl 0 rfl) ?_
      refine lv_bipush (v := (-4)) hx hb dX9_row_19 (by decide) ?_
      obtain ⟨u22, hzu22, hf⟩ := obd_some hf
      refine zz_callVi (rest := []) hx hb hml C hP hS (c_X9_no l hDA (-4) hzu22) zw_X9_107 ⟨Nat.le_trans (Nat.le_of_ble_eq_true rfl) hRf, Nat.le_trans (Nat.le_of_ble_eq_true rfl) hRl⟩ (by decide) lay_81 rfl rfl hl.1 (Nat.le_of_ble_eq_true rfl) ⟨Nat.zero_le _, Nat.zero_le _⟩ rfl dX9_row_21 (fun H locs hP hS => ?_)
      have hf := Option.some.inj hf
      subst hf
      exact hQ _ _ _ _ dX9_row_24 hP hS
  · have hf := ifT hb1 hf
    refine lv_aload_n hx hb dX9_row_8 rfl (lv_at hl 0 rfl) ?_
    refine lv_iconst (v := (-1)) hx hb dX9_row_9 (by decide) ?_
    obtain ⟨u23, hzu23, hf⟩ := obd_some hf
    refine zz_callVi (rest := []) hx hb hml C hP hS (c_X9_no l hDA (-1) hzu23) zw_X9_107 ⟨Nat.le_trans (Nat.le_of_ble_eq_true rfl) hRf, Nat.le_trans (Nat.le_of_ble_eq_true rfl) hRl⟩ (by decide) lay_81 rfl rfl hl.1 (Nat.le_of_ble_eq_true rfl) ⟨Nat.zero_le _, Nat.zero_le _⟩ rfl dX9_row_10 (fun H locs hP hS => ?_)
    have hf := Option.some.inj hf
    subst hf
    exact hQ _ _ _ _ dX9_row_13 hP hS
set_option maxHeartbeats 4000000 in
set_option maxRecDepth 100000 in
theorem c_X9_set (l : Launch) {D : va_G} {a : Nat → Nat} {cA : Nat → ClassId} {A : Nat → Prop} {sa : Nat → Nat} (hDA : DA a A) {σ : PH} {d : PD} (p1 : Int32) (p2 : Int32) (p3 : Int64) {u : Int32 × PH} (hf : f_X9_set σ p1 p2 p3 = some u) : CTi l yX9_set cX9_set 5 (some .int) 1 21 D a cA A sa [.ref (a 81), .int p1, .int p2, .long p3] σ d u.1 u.2 d := by
  refine zz_metI zpl_X9 hDA (Nat.le_of_ble_eq_true rfl) ?_
  intro p e R s m args below meth c Q ls hx hb hml C hRf hRl hQ hP hS hl
  have hl : lv_has ls 5 [(0, .ref (a 81)), (1, .int p1), (2, .int p2), (3, .long p3)] := hl
  unfold f_X9_set at hf
  refine lv_aload_n hx hb dX9_set_0 rfl (lv_at hl 0 rfl) ?_
  refine lv_iload_n hx hb dX9_set_1 rfl (lv_at hl 1 rfl) ?_
  obtain ⟨u1, hzu1⟩ : ∃ z, z = f_X9_isShelf p1 := ⟨_, rfl⟩
  have hf := bnd_at u1 hzu1 hf
  refine zz_callVi (rest := []) hx hb hml C hP hS (c_X9_isShelf l hDA p1 hzu1.symm) zw_X9_103 ⟨Nat.le_trans (Nat.le_of_ble_eq_true rfl) hRf, Nat.le_trans (Nat.le_of_ble_eq_true rfl) hRl⟩ (by decide) lay_81 rfl rfl hl.1 (Nat.le_of_ble_eq_true rfl) ⟨Nat.zero_le _, Nat.zero_le _⟩ rfl dX9_set_2 (fun H locs hP hS => ?_)
  refine lv_if_ne (tgt := 14) hx hb dX9_set_5 (by decide) (fun hb1 => ?_) (fun hb1 => ?_)
  · have hf := ifF hb1 hf
    refine lv_aload_n hx hb dX9_set_14 rfl (lv_at hl 0 rfl) ?_
    refine zg_X9_44 hx hb C hP (by decide) lay_81 rfl dX9_set_15 ?_
    refine lv_iload_n hx hb dX9_set_18 rfl (lv_at hl 1 rfl) ?_
    obtain ⟨hc2, hf⟩ := chk_some hf
    refine zz_iald hx hb C hP (by decide) lay_89 (inb_vp hc2) dX9_set_19 ?_
    refine lv_iconst (v := 2) hx hb dX9_set_20 (by decide) ?_
    refine lv_icmp_ne (tgt := 31) hx hb dX9_set_21 (by decide) (fun hb3 => ?_) (fun hb3 => ?_)
    · have hf := ifF hb3 hf
      refine lv_aload_n hx hb dX9_set_31 rfl (lv_at hl 0 rfl) ?_
      refine zg_X9_44 hx hb C hP (by decide) lay_81 rfl dX9_set_32 ?_
      refine lv_iload_n hx hb dX9_set_35 rfl (lv_at hl 1 rfl) ?_
      obtain ⟨hc4, hf⟩ := chk_some hf
      refine zz_iald hx hb C hP (by decide) lay_89 (inb_vp hc4) dX9_set_36 ?_
      refine lv_if_ne (tgt := 47) hx hb dX9_set_37 (by decide) (fun hb5 => ?_) (fun hb5 => ?_)
      · have hf := ifF hb5 hf
        refine lv_iload_n hx hb dX9_set_47 rfl (lv_at hl 2 rfl) ?_
        refine lv_if_lt (tgt := 61) hx hb dX9_set_48 (by decide) (fun hb6 => ?_) (fun hb6 => ?_)
        · have hf := ifT hb6 hf
          refine lv_aload_n hx hb dX9_set_61 rfl (lv_at hl 0 rfl) ?_
          refine lv_bipush (v := (-5)) hx hb dX9_set_62 (by decide) ?_
          obtain ⟨u8, hzu8, hf⟩ := obd_some hf
          refine zz_callVi (rest := []) hx hb hml C hP hS (c_X9_no l hDA (-5) hzu8) zw_X9_107 ⟨Nat.le_trans (Nat.le_of_ble_eq_true rfl) hRf, Nat.le_trans (Nat.le_of_ble_eq_true rfl) hRl⟩ (by decide) lay_81 rfl rfl hl.1 (Nat.le_of_ble_eq_true rfl) ⟨Nat.zero_le _, Nat.zero_le _⟩ rfl dX9_set_64 (fun H locs hP hS => ?_)
          have hf := Option.some.inj hf
          subst hf
          exact hQ _ _ _ _ dX9_set_67 hP hS
        · have hf := ifF hb6 hf
          refine lv_iload_n hx hb dX9_set_51 rfl (lv_at hl 2 rfl) ?_
          refine lv_aload_n hx hb dX9_set_52 rfl (lv_at hl 0 rfl) ?_
          refine zg_X9_50 hx hb C hP (by decide) lay_81 rfl dX9_set_53 ?_
          refine lv_iload_n hx hb dX9_set_56 rfl (lv_at hl 1 rfl) ?_
          obtain ⟨hc8, hf⟩ := chk_some hf
          refine zz_iald hx hb C hP (by decide) lay_91 (inb_vp hc8) dX9_set_57 ?_
          refine lv_icmp_lt (tgt := 68) hx hb dX9_set_58 (by decide) (fun hb9 => ?_) (fun hb9 => ?_)
          · have hf := ifT hb9 hf
            refine lv_aload_n hx hb dX9_set_68 rfl (lv_at hl 0 rfl) ?_
            refine zg_X9_56 hx hb C hP (by decide) lay_81 rfl dX9_set_69 ?_
            refine lv_sipush (v := 160) hx hb dX9_set_72 (by decide) ?_
            refine lv_iload_n hx hb dX9_set_75 rfl (lv_at hl 1 rfl) ?_
            refine lv_imul hx hb dX9_set_76 ?_
            refine lv_iload_n hx hb dX9_set_77 rfl (lv_at hl 2 rfl) ?_
            refine lv_iadd hx hb dX9_set_78 ?_
            refine lv_aload_n hx hb dX9_set_79 rfl (lv_at hl 0 rfl) ?_
            refine zg_X9_47 hx hb C hP (by decide) lay_81 rfl dX9_set_80 ?_
            refine lv_iload_n hx hb dX9_set_83 rfl (lv_at hl 1 rfl) ?_
            obtain ⟨hc10, hf⟩ := chk_some hf
            refine zz_iald hx hb C hP (by decide) lay_90 (inb_vp hc10) dX9_set_84 ?_
            refine lv_if_ne (tgt := 95) hx hb dX9_set_85 (by decide) (fun hb11 => ?_) (fun hb11 => ?_)
            · have hf := ifF hb11 hf
              refine lv_aload_n hx hb dX9_set_95 rfl (lv_at hl 0 rfl) ?_
              refine zg_X9_47 hx hb C hP (by decide) lay_81 rfl dX9_set_96 ?_
              refine lv_iload_n hx hb dX9_set_99 rfl (lv_at hl 1 rfl) ?_
              obtain ⟨hc12, hf⟩ := chk_some hf
              refine zz_iald hx hb C hP (by decide) lay_90 (inb_vp hc12) dX9_set_100 ?_
              refine lv_iconst (v := 1) hx hb dX9_set_101 (by decide) ?_
              refine lv_icmp_ne (tgt := 112) hx hb dX9_set_102 (by decide) (fun hb13 => ?_) (fun hb13 => ?_)
              · have hf := ifF hb13 hf
                refine lv_aload_n hx hb dX9_set_112 rfl (lv_at hl 0 rfl) ?_
                refine zg_X9_47 hx hb C hP (by decide) lay_81 rfl dX9_set_113 ?_
                refine lv_iload_n hx hb dX9_set_116 rfl (lv_at hl 1 rfl) ?_
                obtain ⟨hc14, hf⟩ := chk_some hf
                refine zz_iald hx hb C hP (by decide) lay_90 (inb_vp hc14) dX9_set_117 ?_
                refine lv_iconst (v := 2) hx hb dX9_set_118 (by decide) ?_
                refine lv_icmp_ne (tgt := 128) hx hb dX9_set_119 (by decide) (fun hb15 => ?_) (fun hb15 => ?_)
                · have hf := ifF hb15 hf
                  refine lv_lload_n hx hb dX9_set_128 rfl (lv_at hl 3 rfl) ?_
                  obtain ⟨hc16, hf⟩ := chk_some hf
                  refine zz_last hx hb C hP hS (by decide) lay_93 (inb_vp hc16) dX9_set_129 (fun σ18 eσ18 H locs hP hS => ?_)
                  have hf := bnd_at σ18 eσ18 hf
                  refine lv_iconst (v := 1) hx hb dX9_set_130 (by decide) ?_
                  have hf := Option.some.inj hf
                  subst hf
                  exact hQ _ _ _ _ dX9_set_131 hP hS
                · have hf := ifT hb15 hf
                  refine lv_lload_n hx hb dX9_set_122 rfl (lv_at hl 3 rfl) ?_
                  refine lv_l2i (v := p3.toInt32) hx hb dX9_set_123 rfl ?_
                  refine lv_i2l (v := p3.toInt32.toInt64) hx hb dX9_set_124 rfl ?_
                  refine lv_goto (tgt := 129) hx hb dX9_set_125 (by decide) ?_
                  obtain ⟨hc18, hf⟩ := chk_some hf
                  refine zz_last hx hb C hP hS (by decide) lay_93 (inb_vp hc18) dX9_set_129 (fun σ20 eσ20 H locs hP hS => ?_)
                  have hf := bnd_at σ20 eσ20 hf
                  refine lv_iconst (v := 1) hx hb dX9_set_130 (by decide) ?_
                  have hf := Option.some.inj hf
                  subst hf
                  exact hQ _ _ _ _ dX9_set_131 hP hS
              · have hf := ifT hb13 hf
                refine lv_lload_n hx hb dX9_set_105 rfl (lv_at hl 3 rfl) ?_
                refine lv_l2i (v := p3.toInt32) hx hb dX9_set_106 rfl ?_
                refine lv_i2s (v := p3.toInt32.toInt16.toInt32) hx hb dX9_set_107 rfl ?_
                refine lv_i2l (v := p3.toInt32.toInt16.toInt32.toInt64) hx hb dX9_set_108 rfl ?_
                refine lv_goto (tgt := 129) hx hb dX9_set_109 (by decide) ?_
                obtain ⟨hc20, hf⟩ := chk_some hf
                refine zz_last hx hb C hP hS (by decide) lay_93 (inb_vp hc20) dX9_set_129 (fun σ22 eσ22 H locs hP hS => ?_)
                have hf := bnd_at σ22 eσ22 hf
                refine lv_iconst (v := 1) hx hb dX9_set_130 (by decide) ?_
                have hf := Option.some.inj hf
                subst hf
                exact hQ _ _ _ _ dX9_set_131 hP hS
            · have hf := ifT hb11 hf
              refine lv_lload_n hx hb dX9_set_88 rfl (lv_at hl 3 rfl) ?_
              refine lv_l2i (v := p3.toInt32) hx hb dX9_set_89 rfl ?_
              refine lv_i2b (v := p3.toInt32.toInt8.toInt32) hx hb dX9_set_90 rfl ?_
              refine lv_i2l (v := p3.toInt32.toInt8.toInt32.toInt64) hx hb dX9_set_91 rfl ?_
              refine lv_goto (tgt := 129) hx hb dX9_set_92 (by decide) ?_
              obtain ⟨hc22, hf⟩ := chk_some hf
              refine zz_last hx hb C hP hS (by decide) lay_93 (inb_vp hc22) dX9_set_129 (fun σ24 eσ24 H locs hP hS => ?_)
              have hf := bnd_at σ24 eσ24 hf
              refine lv_iconst (v := 1) hx hb dX9_set_130 (by decide) ?_
              have hf := Option.some.inj hf
              subst hf
              exact hQ _ _ _ _ dX9_set_131 hP hS
          · have hf := ifF hb9 hf
            refine lv_aload_n hx hb dX9_set_61 rfl (lv_at hl 0 rfl) ?_
            refine lv_bipush (v := (-5)) hx hb dX9_set_62 (by decide) ?_
            obtain ⟨u25, hzu25, hf⟩ := obd_some hf
            refine zz_callVi (rest := []) hx hb hml C hP hS (c_X9_no l hDA (-5) hzu25) zw_X9_107 ⟨Nat.le_trans (Nat.le_of_ble_eq_true rfl) hRf, Nat.le_trans (Nat.le_of_ble_eq_true rfl) hRl⟩ (by decide) lay_81 rfl rfl hl.1 (Nat.le_of_ble_eq_true rfl) ⟨Nat.zero_le _, Nat.zero_le _⟩ rfl dX9_set_64 (fun H locs hP hS => ?_)
            have hf := Option.some.inj hf
            subst hf
            exact hQ _ _ _ _ dX9_set_67 hP hS
      · have hf := ifT hb5 hf
        refine lv_aload_n hx hb dX9_set_40 rfl (lv_at hl 0 rfl) ?_
        refine lv_bipush (v := (-3)) hx hb dX9_set_41 (by decide) ?_
        obtain ⟨u26, hzu26, hf⟩ := obd_some hf
        refine zz_callVi (rest := []) hx hb hml C hP hS (c_X9_no l hDA (-3) hzu26) zw_X9_107 ⟨Nat.le_trans (Nat.le_of_ble_eq_true rfl) hRf, Nat.le_trans (Nat.le_of_ble_eq_true rfl) hRl⟩ (by decide) lay_81 rfl rfl hl.1 (Nat.le_of_ble_eq_true rfl) ⟨Nat.zero_le _, Nat.zero_le _⟩ rfl dX9_set_43 (fun H locs hP hS => ?_)
        have hf := Option.some.inj hf
        subst hf
        exact hQ _ _ _ _ dX9_set_46 hP hS
    · have hf := ifT hb3 hf
      refine lv_aload_n hx hb dX9_set_24 rfl (lv_at hl 0 rfl) ?_
      refine lv_bipush (v := (-2)) hx hb dX9_set_25 (by decide) ?_
      obtain ⟨u27, hzu27, hf⟩ := obd_some hf
      refine zz_callVi (rest := []) hx hb hml C hP hS (c_X9_no l hDA (-2) hzu27) zw_X9_107 ⟨Nat.le_trans (Nat.le_of_ble_eq_true rfl) hRf, Nat.le_trans (Nat.le_of_ble_eq_true rfl) hRl⟩ (by decide) lay_81 rfl rfl hl.1 (Nat.le_of_ble_eq_true rfl) ⟨Nat.zero_le _, Nat.zero_le _⟩ rfl dX9_set_27 (fun H locs hP hS => ?_)
      have hf := Option.some.inj hf
      subst hf
      exact hQ _ _ _ _ dX9_set_30 hP hS
  · have hf := ifT hb1 hf
    refine lv_aload_n hx hb dX9_set_8 rfl (lv_at hl 0 rfl) ?_
    refine lv_iconst (v := (-1)) hx hb dX9_set_9 (by decide) ?_
    obtain ⟨u28, hzu28, hf⟩ := obd_some hf
    refine zz_callVi (rest := []) hx hb hml C hP hS (c_X9_no l hDA (-1) hzu28) zw_X9_107 ⟨Nat.le_trans (Nat.le_of_ble_eq_true rfl) hRf, Nat.le_trans (Nat.le_of_ble_eq_true rfl) hRl⟩ (by decide) lay_81 rfl rfl hl.1 (Nat.le_of_ble_eq_true rfl) ⟨Nat.zero_le _, Nat.zero_le _⟩ rfl dX9_set_10 (fun H locs hP hS => ?_)
    have hf := Option.some.inj hf
    subst hf
    exact hQ _ _ _ _ dX9_set_13 hP hS
set_option maxHeartbeats 4000000 in
set_option maxRecDepth 100000 in
theorem c_X9_copy (l : Launch) {D : va_G} {a : Nat → Nat} {cA : Nat → ClassId} {A : Nat → Prop} {sa : Nat → Nat} (hDA : DA a A) {σ : PH} {d : PD} (p1 : Int32) (p2 : Int32) (p3 : Int32) (p4 : Int32) (p5 : Int32) {u : Int32 × PH} (hf : f_X9_copy σ p1 p2 p3 p4 p5 = some u) : CTi l yX9_copy cX9_copy 7 (some .int) 1 21 D a cA A sa [.ref (a 81), .int p1, .int p2, .int p3, .int p4, .int p5] σ d u.1 u.2 d := by
  refine zz_metI zpl_X9 hDA (Nat.le_of_ble_eq_true rfl) ?_
  intro p e R s m args below meth c Q ls hx hb hml C hRf hRl hQ hP hS hl
  have hl : lv_has ls 7 [(0, .ref (a 81)), (1, .int p1), (2, .int p2), (3, .int p3), (4, .int p4), (5, .int p5)] := hl
  unfold f_X9_copy at hf
  refine lv_aload_n hx hb dX9_copy_0 rfl (lv_at hl 0 rfl) ?_
  refine lv_iload_n hx hb dX9_copy_1 rfl (lv_at hl 1 rfl) ?_
  obtain ⟨u1, hzu1⟩ : ∃ z, z = f_X9_isShelf p1 := ⟨_, rfl⟩
  have hf := bnd_at u1 hzu1 hf
  refine zz_callVi (rest := []) hx hb hml C hP hS (c_X9_isShelf l hDA p1 hzu1.symm) zw_X9_103 ⟨Nat.le_trans (Nat.le_of_ble_eq_true rfl) hRf, Nat.le_trans (Nat.le_of_ble_eq_true rfl) hRl⟩ (by decide) lay_81 rfl rfl hl.1 (Nat.le_of_ble_eq_true rfl) ⟨Nat.zero_le _, Nat.zero_le _⟩ rfl dX9_copy_2 (fun H locs hP hS => ?_)
  refine lv_if_eq (tgt := 16) hx hb dX9_copy_5 (by decide) (fun hb1 => ?_) (fun hb1 => ?_)
  · have hf := ifT hb1 hf
    refine lv_aload_n hx hb dX9_copy_16 rfl (lv_at hl 0 rfl) ?_
    refine lv_iconst (v := (-1)) hx hb dX9_copy_17 (by decide) ?_
    obtain ⟨u3, hzu3, hf⟩ := obd_some hf
    refine zz_callVi (rest := []) hx hb hml C hP hS (c_X9_no l hDA (-1) hzu3) zw_X9_107 ⟨Nat.le_trans (Nat.le_of_ble_eq_true rfl) hRf, Nat.le_trans (Nat.le_of_ble_eq_true rfl) hRl⟩ (by decide) lay_81 rfl rfl hl.1 (Nat.le_of_ble_eq_true rfl) ⟨Nat.zero_le _, Nat.zero_le _⟩ rfl dX9_copy_18 (fun H locs hP hS => ?_)
    have hf := Option.some.inj hf
    subst hf
    exact hQ _ _ _ _ dX9_copy_21 hP hS
  · have hf := ifF hb1 hf
    refine lv_aload_n hx hb dX9_copy_8 rfl (lv_at hl 0 rfl) ?_
    refine lv_iload_n hx hb dX9_copy_9 rfl (lv_at hl 2 rfl) ?_
    obtain ⟨u4, hzu4⟩ : ∃ z, z = f_X9_isShelf p2 := ⟨_, rfl⟩
    have hf := bnd_at u4 hzu4 hf
    refine zz_callVi (rest := []) hx hb hml C hP hS (c_X9_isShelf l hDA p2 hzu4.symm) zw_X9_103 ⟨Nat.le_trans (Nat.le_of_ble_eq_true rfl) hRf, Nat.le_trans (Nat.le_of_ble_eq_true rfl) hRl⟩ (by decide) lay_81 rfl rfl hl.1 (Nat.le_of_ble_eq_true rfl) ⟨Nat.zero_le _, Nat.zero_le _⟩ rfl dX9_copy_10 (fun H locs hP hS => ?_)
    refine lv_if_ne (tgt := 22) hx hb dX9_copy_13 (by decide) (fun hb4 => ?_) (fun hb4 => ?_)
    · have hf := ifF hb4 hf
      refine lv_aload_n hx hb dX9_copy_22 rfl (lv_at hl 0 rfl) ?_
      refine zg_X9_44 hx hb C hP (by decide) lay_81 rfl dX9_copy_23 ?_
      refine lv_iload_n hx hb dX9_copy_26 rfl (lv_at hl 1 rfl) ?_
      obtain ⟨hc5, hf⟩ := chk_some hf
      refine zz_iald hx hb C hP (by decide) lay_89 (inb_vp hc5) dX9_copy_27 ?_
      refine lv_iconst (v := 2) hx hb dX9_copy_28 (by decide) ?_
      refine lv_icmp_eq (tgt := 77) hx hb dX9_copy_29 (by decide) (fun hb6 => ?_) (fun hb6 => ?_)
      · have hf := ifT hb6 hf
        refine lv_aload_n hx hb dX9_copy_77 rfl (lv_at hl 0 rfl) ?_
        refine lv_bipush (v := (-2)) hx hb dX9_copy_78 (by decide) ?_
        obtain ⟨u8, hzu8, hf⟩ := obd_some hf
        refine zz_callVi (rest := []) hx hb hml C hP hS (c_X9_no l hDA (-2) hzu8) zw_X9_107 ⟨Nat.le_trans (Nat.le_of_ble_eq_true rfl) hRf, Nat.le_trans (Nat.le_of_ble_eq_true rfl) hRl⟩ (by decide) lay_81 rfl rfl hl.1 (Nat.le_of_ble_eq_true rfl) ⟨Nat.zero_le _, Nat.zero_le _⟩ rfl dX9_copy_80 (fun H locs hP hS => ?_)
        have hf := Option.some.inj hf
        subst hf
        exact hQ _ _ _ _ dX9_copy_83 hP hS
      · have hf := ifF hb6 hf
        refine lv_aload_n hx hb dX9_copy_32 rfl (lv_at hl 0 rfl) ?_
        refine zg_X9_44 hx hb C hP (by decide) lay_81 rfl dX9_copy_33 ?_
        refine lv_iload_n hx hb dX9_copy_36 rfl (lv_at hl 2 rfl) ?_
        obtain ⟨hc8, hf⟩ := chk_some hf
        refine zz_iald hx hb C hP (by decide) lay_89 (inb_vp hc8) dX9_copy_37 ?_
        refine lv_iconst (v := 2) hx hb dX9_copy_38 (by decide) ?_
        refine lv_icmp_eq (tgt := 77) hx hb dX9_copy_39 (by decide) (fun hb9 => ?_) (fun hb9 => ?_)
        · have hf := ifT hb9 hf
          refine lv_aload_n hx hb dX9_copy_77 rfl (lv_at hl 0 rfl) ?_
          refine lv_bipush (v := (-2)) hx hb dX9_copy_78 (by decide) ?_
          obtain ⟨u11, hzu11, hf⟩ := obd_some hf
          refine zz_callVi (rest := []) hx hb hml C hP hS (c_X9_no l hDA (-2) hzu11) zw_X9_107 ⟨Nat.le_trans (Nat.le_of_ble_eq_true rfl) hRf, Nat.le_trans (Nat.le_of_ble_eq_true rfl) hRl⟩ (by decide) lay_81 rfl rfl hl.1 (Nat.le_of_ble_eq_true rfl) ⟨Nat.zero_le _, Nat.zero_le _⟩ rfl dX9_copy_80 (fun H locs hP hS => ?_)
          have hf := Option.some.inj hf
          subst hf
          exact hQ _ _ _ _ dX9_copy_83 hP hS
        · have hf := ifF hb9 hf
          refine lv_aload_n hx hb dX9_copy_42 rfl (lv_at hl 0 rfl) ?_
          refine zg_X9_44 hx hb C hP (by decide) lay_81 rfl dX9_copy_43 ?_
          refine lv_iload_n hx hb dX9_copy_46 rfl (lv_at hl 1 rfl) ?_
          obtain ⟨hc11, hf⟩ := chk_some hf
          refine zz_iald hx hb C hP (by decide) lay_89 (inb_vp hc11) dX9_copy_47 ?_
          refine lv_iconst (v := 1) hx hb dX9_copy_48 (by decide) ?_
          have hJ84 : j_X9_copy_84 σ p1 p2 p3 p4 p5 = some u → ∀ (H : Heap) (locs : List Loc) (ls : Array Slot), lv_has ls 7 [(0, .ref (a 81)), (1, .int p1), (2, .int p2), (3, .int p3), (4, .int p4), (5, .int p5)] → va_P D vwCl (wl a cA σ d) H → va_S A s.heap H locs → W p l e R s m args below meth c H locs 0 0 Q (F0 m 84 ls []) := by
            intro  hf H locs ls hl hP hS
            unfold j_X9_copy_84 at hf
            refine lv_aload_n hx hb dX9_copy_84 rfl (lv_at hl 0 rfl) ?_
            refine zg_X9_44 hx hb C hP (by decide) lay_81 rfl dX9_copy_85 ?_
            refine lv_iload_n hx hb dX9_copy_88 rfl (lv_at hl 1 rfl) ?_
            obtain ⟨hc12, hf⟩ := chk_some hf
            refine zz_iald hx hb C hP (by decide) lay_89 (inb_vp hc12) dX9_copy_89 ?_
            refine lv_if_eq (tgt := 102) hx hb dX9_copy_90 (by decide) (fun hb13 => ?_) (fun hb13 => ?_)
            · have hf := ifT hb13 hf
              refine lv_aload_n hx hb dX9_copy_102 rfl (lv_at hl 0 rfl) ?_
              refine lv_bipush (v := (-3)) hx hb dX9_copy_103 (by decide) ?_
              obtain ⟨u15, hzu15, hf⟩ := obd_some hf
              refine zz_callVi (rest := []) hx hb hml C hP hS (c_X9_no l hDA (-3) hzu15) zw_X9_107 ⟨Nat.le_trans (Nat.le_of_ble_eq_true rfl) hRf, Nat.le_trans (Nat.le_of_ble_eq_true rfl) hRl⟩ (by decide) lay_81 rfl rfl hl.1 (Nat.le_of_ble_eq_true rfl) ⟨Nat.zero_le _, Nat.zero_le _⟩ rfl dX9_copy_105 (fun H locs hP hS => ?_)
              have hf := Option.some.inj hf
              subst hf
              exact hQ _ _ _ _ dX9_copy_108 hP hS
            · have hf := ifF hb13 hf
              refine lv_aload_n hx hb dX9_copy_93 rfl (lv_at hl 0 rfl) ?_
              refine zg_X9_44 hx hb C hP (by decide) lay_81 rfl dX9_copy_94 ?_
              refine lv_iload_n hx hb dX9_copy_97 rfl (lv_at hl 2 rfl) ?_
              obtain ⟨hc15, hf⟩ := chk_some hf
              refine zz_iald hx hb C hP (by decide) lay_89 (inb_vp hc15) dX9_copy_98 ?_
              refine lv_if_ne (tgt := 109) hx hb dX9_copy_99 (by decide) (fun hb16 => ?_) (fun hb16 => ?_)
              · have hf := ifF hb16 hf
                refine lv_iload hx hb dX9_copy_109 (lv_at hl 5 rfl) ?_
                refine lv_if_ge (tgt := 121) hx hb dX9_copy_111 (by decide) (fun hb17 => ?_) (fun hb17 => ?_)
                · have hf := ifT hb17 hf
                  refine lv_iload_n hx hb dX9_copy_121 rfl (lv_at hl 3 rfl) ?_
                  refine lv_if_lt (tgt := 157) hx hb dX9_copy_122 (by decide) (fun hb18 => ?_) (fun hb18 => ?_)
                  · have hf := ifT hb18 hf
                    refine lv_aload_n hx hb dX9_copy_157 rfl (lv_at hl 0 rfl) ?_
                    refine lv_bipush (v := (-5)) hx hb dX9_copy_158 (by decide) ?_
                    obtain ⟨u20, hzu20, hf⟩ := obd_some hf
                    refine zz_callVi (rest := []) hx hb hml C hP hS (c_X9_no l hDA (-5) hzu20) zw_X9_107 ⟨Nat.le_trans (Nat.le_of_ble_eq_true rfl) hRf, Nat.le_trans (Nat.le_of_ble_eq_true rfl) hRl⟩ (by decide) lay_81 rfl rfl hl.1 (Nat.le_of_ble_eq_true rfl) ⟨Nat.zero_le _, Nat.zero_le _⟩ rfl dX9_copy_160 (fun H locs hP hS => ?_)
                    have hf := Option.some.inj hf
                    subst hf
                    exact hQ _ _ _ _ dX9_copy_163 hP hS
                  · have hf := ifF hb18 hf
                    refine lv_iload hx hb dX9_copy_125 (lv_at hl 4 rfl) ?_
                    refine lv_if_lt (tgt := 157) hx hb dX9_copy_127 (by decide) (fun hb20 => ?_) (fun hb20 => ?_)
                    · have hf := ifT hb20 hf
                      refine lv_aload_n hx hb dX9_copy_157 rfl (lv_at hl 0 rfl) ?_
                      refine lv_bipush (v := (-5)) hx hb dX9_copy_158 (by decide) ?_
                      obtain ⟨u22, hzu22, hf⟩ := obd_some hf
                      refine zz_callVi (rest := []) hx hb hml C hP hS (c_X9_no l hDA (-5) hzu22) zw_X9_107 ⟨Nat.le_trans (Nat.le_of_ble_eq_true rfl) hRf, Nat.le_trans (Nat.le_of_ble_eq_true rfl) hRl⟩ (by decide) lay_81 rfl rfl hl.1 (Nat.le_of_ble_eq_true rfl) ⟨Nat.zero_le _, Nat.zero_le _⟩ rfl dX9_copy_160 (fun H locs hP hS => ?_)
                      have hf := Option.some.inj hf
                      subst hf
                      exact hQ _ _ _ _ dX9_copy_163 hP hS
                    · have hf := ifF hb20 hf
                      refine lv_iload_n hx hb dX9_copy_130 rfl (lv_at hl 3 rfl) ?_
                      refine lv_aload_n hx hb dX9_copy_131 rfl (lv_at hl 0 rfl) ?_
                      refine zg_X9_50 hx hb C hP (by decide) lay_81 rfl dX9_copy_132 ?_
                      refine lv_iload_n hx hb dX9_copy_135 rfl (lv_at hl 1 rfl) ?_
                      obtain ⟨hc22, hf⟩ := chk_some hf
                      refine zz_iald hx hb C hP (by decide) lay_91 (inb_vp hc22) dX9_copy_136 ?_
                      refine lv_iload hx hb dX9_copy_137 (lv_at hl 5 rfl) ?_
                      refine lv_isub hx hb dX9_copy_139 ?_
                      refine lv_icmp_gt (tgt := 157) hx hb dX9_copy_140 (by decide) (fun hb23 => ?_) (fun hb23 => ?_)
                      · have hf := ifT hb23 hf
                        refine lv_aload_n hx hb dX9_copy_157 rfl (lv_at hl 0 rfl) ?_
                        refine lv_bipush (v := (-5)) hx hb dX9_copy_158 (by decide) ?_
                        obtain ⟨u25, hzu25, hf⟩ := obd_some hf
                        refine zz_callVi (rest := []) hx hb hml C hP hS (c_X9_no l hDA (-5) hzu25) zw_X9_107 ⟨Nat.le_trans (Nat.le_of_ble_eq_true rfl) hRf, Nat.le_trans (Nat.le_of_ble_eq_true rfl) hRl⟩ (by decide) lay_81 rfl rfl hl.1 (Nat.le_of_ble_eq_true rfl) ⟨Nat.zero_le _, Nat.zero_le _⟩ rfl dX9_copy_160 (fun H locs hP hS => ?_)
                        have hf := Option.some.inj hf
                        subst hf
                        exact hQ _ _ _ _ dX9_copy_163 hP hS
                      · have hf := ifF hb23 hf
                        refine lv_iload hx hb dX9_copy_143 (lv_at hl 4 rfl) ?_
                        refine lv_aload_n hx hb dX9_copy_145 rfl (lv_at hl 0 rfl) ?_
                        refine zg_X9_50 hx hb C hP (by decide) lay_81 rfl dX9_copy_146 ?_
                        refine lv_iload_n hx hb dX9_copy_149 rfl (lv_at hl 2 rfl) ?_
                        obtain ⟨hc25, hf⟩ := chk_some hf
                        refine zz_iald hx hb C hP (by decide) lay_91 (inb_vp hc25) dX9_copy_150 ?_
                        refine lv_iload hx hb dX9_copy_151 (lv_at hl 5 rfl) ?_
                        refine lv_isub hx hb dX9_copy_153 ?_
                        refine lv_icmp_le (tgt := 164) hx hb dX9_copy_154 (by decide) (fun hb26 => ?_) (fun hb26 => ?_)
                        · have hf := ifT hb26 hf
                          refine lv_iconst (v := 0) hx hb dX9_copy_164 (by decide) ?_
                          refine lv_istore (lv' := [(6, .int 0), (0, .ref (a 81)), (1, .int p1), (2, .int p2), (3, .int p3), (4, .int p4), (5, .int p5)]) hx hb dX9_copy_165 hl (by decide) rfl (fun ls hl => ?_)
                          have hJ202 : ∀ (σ28 : PH), j_X9_copy_202 p2 p4 p5 σ28 = some u → ∀ (H : Heap) (locs : List Loc) (ls : Array Slot), lv_has ls 7 [(0, .ref (a 81)), (2, .int p2), (4, .int p4), (5, .int p5)] → va_P D vwCl (wl a cA σ28 d) H → va_S A s.heap H locs → W p l e R s m args below meth c H locs 0 0 Q (F0 m 202 ls []) := by
                            intro σ28 hf H locs ls hl hP hS
                            unfold j_X9_copy_202 at hf
                            refine lv_iconst (v := 0) hx hb dX9_copy_202 (by decide) ?_
                            refine lv_istore (lv' := [(6, .int 0), (0, .ref (a 81)), (2, .int p2), (4, .int p4), (5, .int p5)]) hx hb dX9_copy_203 hl (by decide) rfl (fun ls hl => ?_)
                            refine loopN_ind (P := fun (q29 : Int32 × PH) => ∀ (H : Heap) (locs : List Loc) (ls : Array Slot), lv_has ls 7 [(0, .ref (a 81)), (2, .int p2), (4, .int p4), (5, .int p5), (6, .int q29.1)] → va_P D vwCl (wl a cA q29.2 d) H → va_S A s.heap H locs → W p l e R s m args below meth c H locs 0 0 Q (F0 m 205 ls [])) ?_ _ _ hf _ _ _ (lv_sub hl [1, 2, 3, 4, 0] rfl) hP hS
                            intro k30 ihk30 q29 hf H locs ls hl hP hS
                            unfold b_X9_copy_205 at hf
                            refine lv_iload hx hb dX9_copy_205 (lv_at hl 4 rfl) ?_
                            refine lv_iload hx hb dX9_copy_207 (lv_at hl 3 rfl) ?_
                            refine lv_icmp_ge (tgt := 241) hx hb dX9_copy_209 (by decide) (fun hb30 => ?_) (fun hb30 => ?_)
                            · have hf := ifT hb30 hf
                              refine lv_iconst (v := 1) hx hb dX9_copy_241 (by decide) ?_
                              have hf := Option.some.inj hf
                              subst hf
                              exact hQ _ _ _ _ dX9_copy_242 hP hS
                            · have hf := ifF hb30 hf
                              refine lv_aload_n hx hb dX9_copy_212 rfl (lv_at hl 0 rfl) ?_
                              refine zg_X9_56 hx hb C hP (by decide) lay_81 rfl dX9_copy_213 ?_
                              refine lv_sipush (v := 160) hx hb dX9_copy_216 (by decide) ?_
                              refine lv_iload_n hx hb dX9_copy_219 rfl (lv_at hl 1 rfl) ?_
                              refine lv_imul hx hb dX9_copy_220 ?_
                              refine lv_iload hx hb dX9_copy_221 (lv_at hl 2 rfl) ?_
                              refine lv_iadd hx hb dX9_copy_223 ?_
                              refine lv_iload hx hb dX9_copy_224 (lv_at hl 4 rfl) ?_
                              refine lv_iadd hx hb dX9_copy_226 ?_
                              refine lv_aload_n hx hb dX9_copy_227 rfl (lv_at hl 0 rfl) ?_
                              refine zg_X9_60 hx hb C hP (by decide) lay_81 rfl dX9_copy_228 ?_
                              refine lv_iload hx hb dX9_copy_231 (lv_at hl 4 rfl) ?_
                              obtain ⟨hc31, hf⟩ := chk_some hf
                              refine zz_lald hx hb C hP (by decide) lay_94 (inb_vp hc31) dX9_copy_233 ?_
                              obtain ⟨hc32, hf⟩ := chk_some hf
                              refine zz_last hx hb C hP hS (by decide) lay_93 (inb_vp hc32) dX9_copy_234 (fun σ34 eσ34 H locs hP hS => ?_)
                              have hf := bnd_at σ34 eσ34 hf
                              obtain ⟨v35, ev35⟩ : ∃ z : Int32, z = q29.1 + 1 := ⟨_, rfl⟩
                              have hf := bnd_at v35 ev35 hf
                              refine lv_iinc (v := v35) (lv' := [(6, .int v35), (0, .ref (a 81)), (2, .int p2), (4, .int p4), (5, .int p5)]) hx hb dX9_copy_235 hl (k := 4) rfl (by rw [ev35]; rfl) (by decide) rfl (fun ls hl => ?_)
                              refine lv_goto (tgt := 205) hx hb dX9_copy_238 (by decide) ?_
                              exact ihk30 _ hf _ _ _ (lv_sub hl [1, 2, 3, 4, 0] rfl) hP hS
                          refine loopN_ind (P := fun (q36 : Int32 × PH) => ∀ (H : Heap) (locs : List Loc) (ls : Array Slot), lv_has ls 7 [(0, .ref (a 81)), (1, .int p1), (2, .int p2), (3, .int p3), (4, .int p4), (5, .int p5), (6, .int q36.1)] → va_P D vwCl (wl a cA q36.2 d) H → va_S A s.heap H locs → W p l e R s m args below meth c H locs 0 0 Q (F0 m 167 ls [])) ?_ _ _ hf _ _ _ (lv_sub hl [1, 2, 3, 4, 5, 6, 0] rfl) hP hS
                          intro k37 ihk37 q36 hf H locs ls hl hP hS
                          unfold b_X9_copy_167 at hf
                          refine lv_iload hx hb dX9_copy_167 (lv_at hl 6 rfl) ?_
                          refine lv_iload hx hb dX9_copy_169 (lv_at hl 5 rfl) ?_
                          refine lv_icmp_ge (tgt := 202) hx hb dX9_copy_171 (by decide) (fun hb37 => ?_) (fun hb37 => ?_)
                          · have hf := ifT hb37 hf
                            exact hJ202 _ hf _ _ _ (lv_sub hl [0, 2, 4, 5] rfl) hP hS
                          · have hf := ifF hb37 hf
                            refine lv_aload_n hx hb dX9_copy_174 rfl (lv_at hl 0 rfl) ?_
                            refine zg_X9_60 hx hb C hP (by decide) lay_81 rfl dX9_copy_175 ?_
                            refine lv_iload hx hb dX9_copy_178 (lv_at hl 6 rfl) ?_
                            refine lv_aload_n hx hb dX9_copy_180 rfl (lv_at hl 0 rfl) ?_
                            refine zg_X9_56 hx hb C hP (by decide) lay_81 rfl dX9_copy_181 ?_
                            refine lv_sipush (v := 160) hx hb dX9_copy_184 (by decide) ?_
                            refine lv_iload_n hx hb dX9_copy_187 rfl (lv_at hl 1 rfl) ?_
                            refine lv_imul hx hb dX9_copy_188 ?_
                            refine lv_iload_n hx hb dX9_copy_189 rfl (lv_at hl 3 rfl) ?_
                            refine lv_iadd hx hb dX9_copy_190 ?_
                            refine lv_iload hx hb dX9_copy_191 (lv_at hl 6 rfl) ?_
                            refine lv_iadd hx hb dX9_copy_193 ?_
                            obtain ⟨hc38, hf⟩ := chk_some hf
                            refine zz_lald hx hb C hP (by decide) lay_93 (inb_vp hc38) dX9_copy_194 ?_
                            obtain ⟨hc39, hf⟩ := chk_some hf
                            refine zz_last hx hb C hP hS (by decide) lay_94 (inb_vp hc39) dX9_copy_195 (fun σ41 eσ41 H locs hP hS => ?_)
                            have hf := bnd_at σ41 eσ41 hf
                            obtain ⟨v42, ev42⟩ : ∃ z : Int32, z = q36.1 + 1 := ⟨_, rfl⟩
                            have hf := bnd_at v42 ev42 hf
                            refine lv_iinc (v := v42) (lv' := [(6, .int v42), (0, .ref (a 81)), (1, .int p1), (2, .int p2), (3, .int p3), (4, .int p4), (5, .int p5)]) hx hb dX9_copy_196 hl (k := 6) rfl (by rw [ev42]; rfl) (by decide) rfl (fun ls hl => ?_)
                            refine lv_goto (tgt := 167) hx hb dX9_copy_199 (by decide) ?_
                            exact ihk37 _ hf _ _ _ (lv_sub hl [1, 2, 3, 4, 5, 6, 0] rfl) hP hS
                        · have hf := ifF hb26 hf
                          refine lv_aload_n hx hb dX9_copy_157 rfl (lv_at hl 0 rfl) ?_
                          refine lv_bipush (v := (-5)) hx hb dX9_copy_158 (by decide) ?_
                          obtain ⟨u43, hzu43, hf⟩ := obd_some hf
                          refine zz_callVi (rest := []) hx hb hml C hP hS (c_X9_no l hDA (-5) hzu43) zw_X9_107 ⟨Nat.le_trans (Nat.le_of_ble_eq_true rfl) hRf, Nat.le_trans (Nat.le_of_ble_eq_true rfl) hRl⟩ (by decide) lay_81 rfl rfl hl.1 (Nat.le_of_ble_eq_true rfl) ⟨Nat.zero_le _, Nat.zero_le _⟩ rfl dX9_copy_160 (fun H locs hP hS => ?_)
                          have hf := Option.some.inj hf
                          subst hf
                          exact hQ _ _ _ _ dX9_copy_163 hP hS
                · have hf := ifF hb17 hf
                  refine lv_aload_n hx hb dX9_copy_114 rfl (lv_at hl 0 rfl) ?_
                  refine lv_bipush (v := (-4)) hx hb dX9_copy_115 (by decide) ?_
                  obtain ⟨u44, hzu44, hf⟩ := obd_some hf
                  refine zz_callVi (rest := []) hx hb hml C hP hS (c_X9_no l hDA (-4) hzu44) zw_X9_107 ⟨Nat.le_trans (Nat.le_of_ble_eq_true rfl) hRf, Nat.le_trans (Nat.le_of_ble_eq_true rfl) hRl⟩ (by decide) lay_81 rfl rfl hl.1 (Nat.le_of_ble_eq_true rfl) ⟨Nat.zero_le _, Nat.zero_le _⟩ rfl dX9_copy_117 (fun H locs hP hS => ?_)
                  have hf := Option.some.inj hf
                  subst hf
                  exact hQ _ _ _ _ dX9_copy_120 hP hS
              · have hf := ifT hb16 hf
                refine lv_aload_n hx hb dX9_copy_102 rfl (lv_at hl 0 rfl) ?_
                refine lv_bipush (v := (-3)) hx hb dX9_copy_103 (by decide) ?_
                obtain ⟨u45, hzu45, hf⟩ := obd_some hf
                refine zz_callVi (rest := []) hx hb hml C hP hS (c_X9_no l hDA (-3) hzu45) zw_X9_107 ⟨Nat.le_trans (Nat.le_of_ble_eq_true rfl) hRf, Nat.le_trans (Nat.le_of_ble_eq_true rfl) hRl⟩ (by decide) lay_81 rfl rfl hl.1 (Nat.le_of_ble_eq_true rfl) ⟨Nat.zero_le _, Nat.zero_le _⟩ rfl dX9_copy_105 (fun H locs hP hS => ?_)
                have hf := Option.some.inj hf
                subst hf
                exact hQ _ _ _ _ dX9_copy_108 hP hS
          refine lv_icmp_ne (tgt := 84) hx hb dX9_copy_49 (by decide) (fun hb45 => ?_) (fun hb45 => ?_)
          · have hf := ifF hb45 hf
            exact hJ84  hf _ _ _ (lv_sub hl [0, 1, 2, 3, 4, 5] rfl) hP hS
          · have hf := ifT hb45 hf
            refine lv_aload_n hx hb dX9_copy_52 rfl (lv_at hl 0 rfl) ?_
            refine zg_X9_44 hx hb C hP (by decide) lay_81 rfl dX9_copy_53 ?_
            refine lv_iload_n hx hb dX9_copy_56 rfl (lv_at hl 2 rfl) ?_
            obtain ⟨hc46, hf⟩ := chk_some hf
            refine zz_iald hx hb C hP (by decide) lay_89 (inb_vp hc46) dX9_copy_57 ?_
            refine lv_iconst (v := 1) hx hb dX9_copy_58 (by decide) ?_
            refine lv_icmp_ne (tgt := 84) hx hb dX9_copy_59 (by decide) (fun hb47 => ?_) (fun hb47 => ?_)
            · have hf := ifF hb47 hf
              exact hJ84  hf _ _ _ (lv_sub hl [0, 1, 2, 3, 4, 5] rfl) hP hS
            · have hf := ifT hb47 hf
              refine lv_aload_n hx hb dX9_copy_62 rfl (lv_at hl 0 rfl) ?_
              refine zg_X9_47 hx hb C hP (by decide) lay_81 rfl dX9_copy_63 ?_
              refine lv_iload_n hx hb dX9_copy_66 rfl (lv_at hl 1 rfl) ?_
              obtain ⟨hc48, hf⟩ := chk_some hf
              refine zz_iald hx hb C hP (by decide) lay_90 (inb_vp hc48) dX9_copy_67 ?_
              refine lv_aload_n hx hb dX9_copy_68 rfl (lv_at hl 0 rfl) ?_
              refine zg_X9_47 hx hb C hP (by decide) lay_81 rfl dX9_copy_69 ?_
              refine lv_iload_n hx hb dX9_copy_72 rfl (lv_at hl 2 rfl) ?_
              obtain ⟨hc49, hf⟩ := chk_some hf
              refine zz_iald hx hb C hP (by decide) lay_90 (inb_vp hc49) dX9_copy_73 ?_
              refine lv_icmp_eq (tgt := 84) hx hb dX9_copy_74 (by decide) (fun hb50 => ?_) (fun hb50 => ?_)
              · have hf := ifT hb50 hf
                exact hJ84  hf _ _ _ (lv_sub hl [0, 1, 2, 3, 4, 5] rfl) hP hS
              · have hf := ifF hb50 hf
                refine lv_aload_n hx hb dX9_copy_77 rfl (lv_at hl 0 rfl) ?_
                refine lv_bipush (v := (-2)) hx hb dX9_copy_78 (by decide) ?_
                obtain ⟨u52, hzu52, hf⟩ := obd_some hf
                refine zz_callVi (rest := []) hx hb hml C hP hS (c_X9_no l hDA (-2) hzu52) zw_X9_107 ⟨Nat.le_trans (Nat.le_of_ble_eq_true rfl) hRf, Nat.le_trans (Nat.le_of_ble_eq_true rfl) hRl⟩ (by decide) lay_81 rfl rfl hl.1 (Nat.le_of_ble_eq_true rfl) ⟨Nat.zero_le _, Nat.zero_le _⟩ rfl dX9_copy_80 (fun H locs hP hS => ?_)
                have hf := Option.some.inj hf
                subst hf
                exact hQ _ _ _ _ dX9_copy_83 hP hS
    · have hf := ifT hb4 hf
      refine lv_aload_n hx hb dX9_copy_16 rfl (lv_at hl 0 rfl) ?_
      refine lv_iconst (v := (-1)) hx hb dX9_copy_17 (by decide) ?_
      obtain ⟨u53, hzu53, hf⟩ := obd_some hf
      refine zz_callVi (rest := []) hx hb hml C hP hS (c_X9_no l hDA (-1) hzu53) zw_X9_107 ⟨Nat.le_trans (Nat.le_of_ble_eq_true rfl) hRf, Nat.le_trans (Nat.le_of_ble_eq_true rfl) hRl⟩ (by decide) lay_81 rfl rfl hl.1 (Nat.le_of_ble_eq_true rfl) ⟨Nat.zero_le _, Nat.zero_le _⟩ rfl dX9_copy_18 (fun H locs hP hS => ?_)
      have hf := Option.some.inj hf
      subst hf
      exact hQ _ _ _ _ dX9_copy_21 hP hS
set_option maxHeartbeats 4000000 in
set_option maxRecDepth 100000 in
theorem c_X9_element (l : Launch) {D : va_G} {a : Nat → Nat} {cA : Nat → ClassId} {A : Nat → Prop} {sa : Nat → Nat} (hDA : DA a A) {σ : PH} {d : PD} (p1 : Int32) (p2 : Int32) {u : Int64} (hf : f_X9_element σ p1 p2 = some u) : CTl l yX9_element cX9_element 3 (some .long) 1 21 D a cA A sa [.ref (a 81), .int p1, .int p2] σ d u σ d := by
  refine zz_metL zpl_X9 hDA (Nat.le_of_ble_eq_true rfl) ?_
  intro p e R s m args below meth c Q ls hx hb hml C hRf hRl hQ hP hS hl
  have hl : lv_has ls 3 [(0, .ref (a 81)), (1, .int p1), (2, .int p2)] := hl
  unfold f_X9_element at hf
  refine lv_aload_n hx hb dX9_element_0 rfl (lv_at hl 0 rfl) ?_
  refine lv_iload_n hx hb dX9_element_1 rfl (lv_at hl 1 rfl) ?_
  obtain ⟨u1, hzu1⟩ : ∃ z, z = f_X9_isShelf p1 := ⟨_, rfl⟩
  have hf := bnd_at u1 hzu1 hf
  refine zz_callVi (rest := []) hx hb hml C hP hS (c_X9_isShelf l hDA p1 hzu1.symm) zw_X9_103 ⟨Nat.le_trans (Nat.le_of_ble_eq_true rfl) hRf, Nat.le_trans (Nat.le_of_ble_eq_true rfl) hRl⟩ (by decide) lay_81 rfl rfl hl.1 (Nat.le_of_ble_eq_true rfl) ⟨Nat.zero_le _, Nat.zero_le _⟩ rfl dX9_element_2 (fun H locs hP hS => ?_)
  refine lv_if_eq (tgt := 47) hx hb dX9_element_5 (by decide) (fun hb1 => ?_) (fun hb1 => ?_)
  · have hf := ifT hb1 hf
    refine lv_lconst (v := 0) hx hb dX9_element_47 (by decide) ?_
    have hf := Option.some.inj hf
    subst hf
    exact hQ _ _ _ _ dX9_element_48 hP hS
  · have hf := ifF hb1 hf
    refine lv_aload_n hx hb dX9_element_8 rfl (lv_at hl 0 rfl) ?_
    refine zg_X9_44 hx hb C hP (by decide) lay_81 rfl dX9_element_9 ?_
    refine lv_iload_n hx hb dX9_element_12 rfl (lv_at hl 1 rfl) ?_
    obtain ⟨hc2, hf⟩ := chk_some hf
    refine zz_iald hx hb C hP (by decide) lay_89 (inb_vp hc2) dX9_element_13 ?_
    refine lv_iconst (v := 1) hx hb dX9_element_14 (by decide) ?_
    refine lv_icmp_ne (tgt := 47) hx hb dX9_element_15 (by decide) (fun hb3 => ?_) (fun hb3 => ?_)
    · have hf := ifF hb3 hf
      refine lv_lconst (v := 0) hx hb dX9_element_47 (by decide) ?_
      have hf := Option.some.inj hf
      subst hf
      exact hQ _ _ _ _ dX9_element_48 hP hS
    · have hf := ifT hb3 hf
      refine lv_iload_n hx hb dX9_element_18 rfl (lv_at hl 2 rfl) ?_
      refine lv_if_lt (tgt := 47) hx hb dX9_element_19 (by decide) (fun hb4 => ?_) (fun hb4 => ?_)
      · have hf := ifT hb4 hf
        refine lv_lconst (v := 0) hx hb dX9_element_47 (by decide) ?_
        have hf := Option.some.inj hf
        subst hf
        exact hQ _ _ _ _ dX9_element_48 hP hS
      · have hf := ifF hb4 hf
        refine lv_iload_n hx hb dX9_element_22 rfl (lv_at hl 2 rfl) ?_
        refine lv_aload_n hx hb dX9_element_23 rfl (lv_at hl 0 rfl) ?_
        refine zg_X9_50 hx hb C hP (by decide) lay_81 rfl dX9_element_24 ?_
        refine lv_iload_n hx hb dX9_element_27 rfl (lv_at hl 1 rfl) ?_
        obtain ⟨hc5, hf⟩ := chk_some hf
        refine zz_iald hx hb C hP (by decide) lay_91 (inb_vp hc5) dX9_element_28 ?_
        refine lv_icmp_ge (tgt := 47) hx hb dX9_element_29 (by decide) (fun hb6 => ?_) (fun hb6 => ?_)
        · have hf := ifT hb6 hf
          refine lv_lconst (v := 0) hx hb dX9_element_47 (by decide) ?_
          have hf := Option.some.inj hf
          subst hf
          exact hQ _ _ _ _ dX9_element_48 hP hS
        · have hf := ifF hb6 hf
          refine lv_aload_n hx hb dX9_element_32 rfl (lv_at hl 0 rfl) ?_
          refine zg_X9_56 hx hb C hP (by decide) lay_81 rfl dX9_element_33 ?_
          refine lv_sipush (v := 160) hx hb dX9_element_36 (by decide) ?_
          refine lv_iload_n hx hb dX9_element_39 rfl (lv_at hl 1 rfl) ?_
          refine lv_imul hx hb dX9_element_40 ?_
          refine lv_iload_n hx hb dX9_element_41 rfl (lv_at hl 2 rfl) ?_
          refine lv_iadd hx hb dX9_element_42 ?_
          obtain ⟨hc7, hf⟩ := chk_some hf
          refine zz_lald hx hb C hP (by decide) lay_93 (inb_vp hc7) dX9_element_43 ?_
          refine lv_goto (tgt := 48) hx hb dX9_element_44 (by decide) ?_
          have hf := Option.some.inj hf
          subst hf
          exact hQ _ _ _ _ dX9_element_48 hP hS
set_option maxHeartbeats 4000000 in
set_option maxRecDepth 100000 in
theorem c_X9_show (l : Launch) {D : va_G} {a : Nat → Nat} {cA : Nat → ClassId} {A : Nat → Prop} {sa : Nat → Nat} (hDA : DA a A) {σ : PH} {d : PD} (p1 : Int32) (p2 : Int32) {u : Int32 × PH} (hf : f_X9_show σ p1 p2 = some u) : CTi l yX9_show cX9_show 3 (some .int) 1 21 D a cA A sa [.ref (a 81), .int p1, .int p2] σ d u.1 u.2 d := by
  refine zz_metI zpl_X9 hDA (Nat.le_of_ble_eq_true rfl) ?_
  intro p e R s m args below meth c Q ls hx hb hml C hRf hRl hQ hP hS hl
  have hl : lv_has ls 3 [(0, .ref (a 81)), (1, .int p1), (2, .int p2)] := hl
  unfold f_X9_show at hf
  refine lv_aload_n hx hb dX9_show_0 rfl (lv_at hl 0 rfl) ?_
  refine lv_iload_n hx hb dX9_show_1 rfl (lv_at hl 1 rfl) ?_
  obtain ⟨u1, hzu1⟩ : ∃ z, z = f_X9_isShelf p1 := ⟨_, rfl⟩
  have hf := bnd_at u1 hzu1 hf
  refine zz_callVi (rest := []) hx hb hml C hP hS (c_X9_isShelf l hDA p1 hzu1.symm) zw_X9_103 ⟨Nat.le_trans (Nat.le_of_ble_eq_true rfl) hRf, Nat.le_trans (Nat.le_of_ble_eq_true rfl) hRl⟩ (by decide) lay_81 rfl rfl hl.1 (Nat.le_of_ble_eq_true rfl) ⟨Nat.zero_le _, Nat.zero_le _⟩ rfl dX9_show_2 (fun H locs hP hS => ?_)
  refine lv_if_eq (tgt := 21) hx hb dX9_show_5 (by decide) (fun hb1 => ?_) (fun hb1 => ?_)
  · have hf := ifT hb1 hf
    refine lv_aload_n hx hb dX9_show_21 rfl (lv_at hl 0 rfl) ?_
    refine lv_iconst (v := (-1)) hx hb dX9_show_22 (by decide) ?_
    obtain ⟨u3, hzu3, hf⟩ := obd_some hf
    refine zz_callVi (rest := []) hx hb hml C hP hS (c_X9_no l hDA (-1) hzu3) zw_X9_107 ⟨Nat.le_trans (Nat.le_of_ble_eq_true rfl) hRf, Nat.le_trans (Nat.le_of_ble_eq_true rfl) hRl⟩ (by decide) lay_81 rfl rfl hl.1 (Nat.le_of_ble_eq_true rfl) ⟨Nat.zero_le _, Nat.zero_le _⟩ rfl dX9_show_23 (fun H locs hP hS => ?_)
    have hf := Option.some.inj hf
    subst hf
    exact hQ _ _ _ _ dX9_show_26 hP hS
  · have hf := ifF hb1 hf
    refine lv_iload_n hx hb dX9_show_8 rfl (lv_at hl 2 rfl) ?_
    refine lv_iconst (v := (-1)) hx hb dX9_show_9 (by decide) ?_
    have hJ27 : j_X9_show_27 σ p1 p2 = some u → ∀ (H : Heap) (locs : List Loc) (ls : Array Slot), lv_has ls 3 [(0, .ref (a 81)), (1, .int p1), (2, .int p2)] → va_P D vwCl (wl a cA σ d) H → va_S A s.heap H locs → W p l e R s m args below meth c H locs 0 0 Q (F0 m 27 ls []) := by
      intro  hf H locs ls hl hP hS
      unfold j_X9_show_27 at hf
      refine lv_aload_n hx hb dX9_show_27 rfl (lv_at hl 0 rfl) ?_
      refine zg_X9_44 hx hb C hP (by decide) lay_81 rfl dX9_show_28 ?_
      refine lv_iload_n hx hb dX9_show_31 rfl (lv_at hl 1 rfl) ?_
      refine lv_iload_n hx hb dX9_show_32 rfl (lv_at hl 2 rfl) ?_
      refine lv_iconst (v := (-1)) hx hb dX9_show_33 (by decide) ?_
      have hJ42 : ∀ (v4 : Int32), j_X9_show_42 σ p1 p2 v4 = some u → ∀ (H : Heap) (locs : List Loc) (ls : Array Slot), lv_has ls 3 [(0, .ref (a 81)), (1, .int p1), (2, .int p2)] → va_P D vwCl (wl a cA σ d) H → va_S A s.heap H locs → W p l e R s m args below meth c H locs 0 0 Q (F0 m 42 ls [.int v4, .int p1, .ref (a 89)]) := by
        intro v4 hf H locs ls hl hP hS
        unfold j_X9_show_42 at hf
        obtain ⟨hc4, hf⟩ := chk_some hf
        refine zz_iast hx hb C hP hS (by decide) lay_89 (inb_vp hc4) dX9_show_42 (fun σ6 eσ6 H locs hP hS => ?_)
        have hf := bnd_at σ6 eσ6 hf
        refine lv_aload_n hx hb dX9_show_43 rfl (lv_at hl 0 rfl) ?_
        refine zg_X9_53 hx hb C hP (by decide) lay_81 rfl dX9_show_44 ?_
        refine lv_iload_n hx hb dX9_show_47 rfl (lv_at hl 1 rfl) ?_
        refine lv_iload_n hx hb dX9_show_48 rfl (lv_at hl 2 rfl) ?_
        obtain ⟨hc6, hf⟩ := chk_some hf
        refine zz_iast hx hb C hP hS (by decide) lay_92 (inb_vp hc6) dX9_show_49 (fun σ8 eσ8 H locs hP hS => ?_)
        have hf := bnd_at σ8 eσ8 hf
        refine lv_iload_n hx hb dX9_show_50 rfl (lv_at hl 2 rfl) ?_
        refine lv_iconst (v := (-1)) hx hb dX9_show_51 (by decide) ?_
        refine lv_icmp_ne (tgt := 59) hx hb dX9_show_52 (by decide) (fun hb8 => ?_) (fun hb8 => ?_)
        · have hf := ifF hb8 hf
          refine lv_iconst (v := 1) hx hb dX9_show_59 (by decide) ?_
          have hf := Option.some.inj hf
          subst hf
          exact hQ _ _ _ _ dX9_show_60 hP hS
        · have hf := ifT hb8 hf
          refine lv_iconst (v := 0) hx hb dX9_show_55 (by decide) ?_
          refine lv_goto (tgt := 60) hx hb dX9_show_56 (by decide) ?_
          have hf := Option.some.inj hf
          subst hf
          exact hQ _ _ _ _ dX9_show_60 hP hS
      refine lv_icmp_ne (tgt := 41) hx hb dX9_show_34 (by decide) (fun hb9 => ?_) (fun hb9 => ?_)
      · have hf := ifF hb9 hf
        refine lv_iconst (v := 2) hx hb dX9_show_41 (by decide) ?_
        exact hJ42 _ hf _ _ _ (lv_sub hl [0, 1, 2] rfl) hP hS
      · have hf := ifT hb9 hf
        refine lv_iconst (v := 0) hx hb dX9_show_37 (by decide) ?_
        refine lv_goto (tgt := 42) hx hb dX9_show_38 (by decide) ?_
        exact hJ42 _ hf _ _ _ (lv_sub hl [0, 1, 2] rfl) hP hS
    refine lv_icmp_eq (tgt := 27) hx hb dX9_show_10 (by decide) (fun hb10 => ?_) (fun hb10 => ?_)
    · have hf := ifT hb10 hf
      exact hJ27  hf _ _ _ (lv_sub hl [0, 1, 2] rfl) hP hS
    · have hf := ifF hb10 hf
      refine lv_aload_n hx hb dX9_show_13 rfl (lv_at hl 0 rfl) ?_
      refine lv_iload_n hx hb dX9_show_14 rfl (lv_at hl 2 rfl) ?_
      obtain ⟨u12, hzu12⟩ : ∃ z, z = f_X9_isSinger σ p2 := ⟨_, rfl⟩
      have hf := bnd_at u12 hzu12 hf
      refine zz_callVi (rest := []) hx hb hml C hP hS (c_X9_isSinger l hDA p2 hzu12.symm) zw_X9_111 ⟨Nat.le_trans (Nat.le_of_ble_eq_true rfl) hRf, Nat.le_trans (Nat.le_of_ble_eq_true rfl) hRl⟩ (by decide) lay_81 rfl rfl hl.1 (Nat.le_of_ble_eq_true rfl) ⟨Nat.zero_le _, Nat.zero_le _⟩ rfl dX9_show_15 (fun H locs hP hS => ?_)
      refine lv_if_ne (tgt := 27) hx hb dX9_show_18 (by decide) (fun hb12 => ?_) (fun hb12 => ?_)
      · have hf := ifF hb12 hf
        exact hJ27  hf _ _ _ (lv_sub hl [0, 1, 2] rfl) hP hS
      · have hf := ifT hb12 hf
        refine lv_aload_n hx hb dX9_show_21 rfl (lv_at hl 0 rfl) ?_
        refine lv_iconst (v := (-1)) hx hb dX9_show_22 (by decide) ?_
        obtain ⟨u14, hzu14, hf⟩ := obd_some hf
        refine zz_callVi (rest := []) hx hb hml C hP hS (c_X9_no l hDA (-1) hzu14) zw_X9_107 ⟨Nat.le_trans (Nat.le_of_ble_eq_true rfl) hRf, Nat.le_trans (Nat.le_of_ble_eq_true rfl) hRl⟩ (by decide) lay_81 rfl rfl hl.1 (Nat.le_of_ble_eq_true rfl) ⟨Nat.zero_le _, Nat.zero_le _⟩ rfl dX9_show_23 (fun H locs hP hS => ?_)
        have hf := Option.some.inj hf
        subst hf
        exact hQ _ _ _ _ dX9_show_26 hP hS
set_option maxHeartbeats 4000000 in
set_option maxRecDepth 100000 in
theorem c_X9_holds (l : Launch) {D : va_G} {a : Nat → Nat} {cA : Nat → ClassId} {A : Nat → Prop} {sa : Nat → Nat} (hDA : DA a A) {σ : PH} {d : PD} (p1 : Int32) {u : Int32} (hf : f_X9_holds σ p1 = some u) : CTi l yX9_holds cX9_holds 2 (some .int) 1 21 D a cA A sa [.ref (a 81), .int p1] σ d u σ d := by
  refine zz_metI zpl_X9 hDA (Nat.le_of_ble_eq_true rfl) ?_
  intro p e R s m args below meth c Q ls hx hb hml C hRf hRl hQ hP hS hl
  have hl : lv_has ls 2 [(0, .ref (a 81)), (1, .int p1)] := hl
  unfold f_X9_holds at hf
  refine lv_aload_n hx hb dX9_holds_0 rfl (lv_at hl 0 rfl) ?_
  refine lv_iload_n hx hb dX9_holds_1 rfl (lv_at hl 1 rfl) ?_
  obtain ⟨u1, hzu1⟩ : ∃ z, z = f_X9_isShelf p1 := ⟨_, rfl⟩
  have hf := bnd_at u1 hzu1 hf
  refine zz_callVi (rest := []) hx hb hml C hP hS (c_X9_isShelf l hDA p1 hzu1.symm) zw_X9_103 ⟨Nat.le_trans (Nat.le_of_ble_eq_true rfl) hRf, Nat.le_trans (Nat.le_of_ble_eq_true rfl) hRl⟩ (by decide) lay_81 rfl rfl hl.1 (Nat.le_of_ble_eq_true rfl) ⟨Nat.zero_le _, Nat.zero_le _⟩ rfl dX9_holds_2 (fun H locs hP hS => ?_)
  refine lv_if_eq (tgt := 17) hx hb dX9_holds_5 (by decide) (fun hb1 => ?_) (fun hb1 => ?_)
  · have hf := ifT hb1 hf
    refine lv_iconst (v := (-1)) hx hb dX9_holds_17 (by decide) ?_
    have hf := Option.some.inj hf
    subst hf
    exact hQ _ _ _ _ dX9_holds_18 hP hS
  · have hf := ifF hb1 hf
    refine lv_aload_n hx hb dX9_holds_8 rfl (lv_at hl 0 rfl) ?_
    refine zg_X9_44 hx hb C hP (by decide) lay_81 rfl dX9_holds_9 ?_
    refine lv_iload_n hx hb dX9_holds_12 rfl (lv_at hl 1 rfl) ?_
    obtain ⟨hc2, hf⟩ := chk_some hf
    refine zz_iald hx hb C hP (by decide) lay_89 (inb_vp hc2) dX9_holds_13 ?_
    refine lv_if_ne (tgt := 19) hx hb dX9_holds_14 (by decide) (fun hb3 => ?_) (fun hb3 => ?_)
    · have hf := ifF hb3 hf
      refine lv_aload_n hx hb dX9_holds_19 rfl (lv_at hl 0 rfl) ?_
      refine zg_X9_44 hx hb C hP (by decide) lay_81 rfl dX9_holds_20 ?_
      refine lv_iload_n hx hb dX9_holds_23 rfl (lv_at hl 1 rfl) ?_
      obtain ⟨hc4, hf⟩ := chk_some hf
      refine zz_iald hx hb C hP (by decide) lay_89 (inb_vp hc4) dX9_holds_24 ?_
      refine lv_iconst (v := 1) hx hb dX9_holds_25 (by decide) ?_
      refine lv_icmp_ne (tgt := 41) hx hb dX9_holds_26 (by decide) (fun hb5 => ?_) (fun hb5 => ?_)
      · have hf := ifF hb5 hf
        refine lv_aload_n hx hb dX9_holds_41 rfl (lv_at hl 0 rfl) ?_
        refine zg_X9_53 hx hb C hP (by decide) lay_81 rfl dX9_holds_42 ?_
        refine lv_iload_n hx hb dX9_holds_45 rfl (lv_at hl 1 rfl) ?_
        obtain ⟨hc6, hf⟩ := chk_some hf
        refine zz_iald hx hb C hP (by decide) lay_92 (inb_vp hc6) dX9_holds_46 ?_
        have hf := Option.some.inj hf
        subst hf
        exact hQ _ _ _ _ dX9_holds_47 hP hS
      · have hf := ifT hb5 hf
        refine lv_bipush (v := 100) hx hb dX9_holds_29 (by decide) ?_
        refine lv_aload_n hx hb dX9_holds_31 rfl (lv_at hl 0 rfl) ?_
        refine zg_X9_47 hx hb C hP (by decide) lay_81 rfl dX9_holds_32 ?_
        refine lv_iload_n hx hb dX9_holds_35 rfl (lv_at hl 1 rfl) ?_
        obtain ⟨hc7, hf⟩ := chk_some hf
        refine zz_iald hx hb C hP (by decide) lay_90 (inb_vp hc7) dX9_holds_36 ?_
        refine lv_iadd hx hb dX9_holds_37 ?_
        refine lv_goto (tgt := 47) hx hb dX9_holds_38 (by decide) ?_
        have hf := Option.some.inj hf
        subst hf
        exact hQ _ _ _ _ dX9_holds_47 hP hS
    · have hf := ifT hb3 hf
      refine lv_iconst (v := (-1)) hx hb dX9_holds_17 (by decide) ?_
      have hf := Option.some.inj hf
      subst hf
      exact hQ _ _ _ _ dX9_holds_18 hP hS
set_option maxHeartbeats 4000000 in
set_option maxRecDepth 100000 in
theorem c_X9_who (l : Launch) {D : va_G} {a : Nat → Nat} {cA : Nat → ClassId} {A : Nat → Prop} {sa : Nat → Nat} (hDA : DA a A) {σ : PH} {d : PD} (p1 : Int32) {u : Int32} (hf : f_X9_who σ p1 = some u) : CTi l yX9_who cX9_who 3 (some .int) 0 0 D a cA A sa [.ref (a 81), .int p1] σ d u σ d := by
  refine zz_metI zpl_X9 hDA (Nat.le_of_ble_eq_true rfl) ?_
  intro p e R s m args below meth c Q ls hx hb hml C hRf hRl hQ hP hS hl
  have hl : lv_has ls 3 [(0, .ref (a 81)), (1, .int p1)] := hl
  unfold f_X9_who at hf
  refine lv_iconst (v := 0) hx hb dX9_who_0 (by decide) ?_
  refine lv_istore_n (lv' := [(2, .int 0), (0, .ref (a 81)), (1, .int p1)]) hx hb dX9_who_1 rfl hl (by decide) rfl (fun ls hl => ?_)
  refine loopN_ind (P := fun (q1 : Int32) => ∀ (H : Heap) (locs : List Loc) (ls : Array Slot), lv_has ls 3 [(0, .ref (a 81)), (1, .int p1), (2, .int q1)] → va_P D vwCl (wl a cA σ d) H → va_S A s.heap H locs → W p l e R s m args below meth c H locs 0 0 Q (F0 m 2 ls [])) ?_ _ _ hf _ _ _ (lv_sub hl [1, 2, 0] rfl) hP hS
  intro k2 ihk2 q1 hf H locs ls hl hP hS
  unfold b_X9_who_2 at hf
  refine lv_iload_n hx hb dX9_who_2 rfl (lv_at hl 2 rfl) ?_
  refine lv_aload_n hx hb dX9_who_3 rfl (lv_at hl 0 rfl) ?_
  refine zg_X9_96 hx hb C hP (by decide) lay_81 rfl dX9_who_4 ?_
  refine lv_icmp_ge (tgt := 28) hx hb dX9_who_7 (by decide) (fun hb2 => ?_) (fun hb2 => ?_)
  · have hf := ifT hb2 hf
    refine lv_iconst (v := (-1)) hx hb dX9_who_28 (by decide) ?_
    have hf := Option.some.inj hf
    subst hf
    exact hQ _ _ _ _ dX9_who_29 hP hS
  · have hf := ifF hb2 hf
    refine lv_aload_n hx hb dX9_who_10 rfl (lv_at hl 0 rfl) ?_
    refine zg_X9_35 hx hb C hP (by decide) lay_81 rfl dX9_who_11 ?_
    refine lv_iload_n hx hb dX9_who_14 rfl (lv_at hl 2 rfl) ?_
    obtain ⟨hc3, hf⟩ := chk_some hf
    refine zz_iald hx hb C hP (by decide) lay_86 (inb_vp hc3) dX9_who_15 ?_
    refine lv_iload_n hx hb dX9_who_16 rfl (lv_at hl 1 rfl) ?_
    refine lv_icmp_ne (tgt := 22) hx hb dX9_who_17 (by decide) (fun hb4 => ?_) (fun hb4 => ?_)
    · have hf := ifF hb4 hf
      obtain ⟨v6, ev6⟩ : ∃ z : Int32, z = q1 + 1 := ⟨_, rfl⟩
      have hf := bnd_at v6 ev6 hf
      refine lv_iinc (v := v6) (lv' := [(2, .int v6), (0, .ref (a 81)), (1, .int p1)]) hx hb dX9_who_22 hl (k := 2) rfl (by rw [ev6]; rfl) (by decide) rfl (fun ls hl => ?_)
      refine lv_goto (tgt := 2) hx hb dX9_who_25 (by decide) ?_
      exact ihk2 _ hf _ _ _ (lv_sub hl [1, 2, 0] rfl) hP hS
    · have hf := ifT hb4 hf
      refine lv_iload_n hx hb dX9_who_20 rfl (lv_at hl 2 rfl) ?_
      have hf := Option.some.inj hf
      subst hf
      exact hQ _ _ _ _ dX9_who_21 hP hS
set_option maxHeartbeats 4000000 in
set_option maxRecDepth 100000 in
theorem c_X9_says (l : Launch) {D : va_G} {a : Nat → Nat} {cA : Nat → ClassId} {A : Nat → Prop} {sa : Nat → Nat} (hDA : DA a A) {σ : PH} {d : PD} (p1 : Int32) (p2 : Int32) {u : Int32 × PH} (hf : f_X9_says σ p1 p2 = some u) : CTi l yX9_says cX9_says 6 (some .int) 1 22 D a cA A sa [.ref (a 81), .int p1, .int p2] σ d u.1 u.2 d := by
  refine zz_metI zpl_X9 hDA (Nat.le_of_ble_eq_true rfl) ?_
  intro p e R s m args below meth c Q ls hx hb hml C hRf hRl hQ hP hS hl
  have hl : lv_has ls 6 [(0, .ref (a 81)), (1, .int p1), (2, .int p2)] := hl
  unfold f_X9_says at hf
  refine lv_aload_n hx hb dX9_says_0 rfl (lv_at hl 0 rfl) ?_
  refine lv_iload_n hx hb dX9_says_1 rfl (lv_at hl 1 rfl) ?_
  obtain ⟨u1, hzu1⟩ : ∃ z, z = f_X9_isShelf p1 := ⟨_, rfl⟩
  have hf := bnd_at u1 hzu1 hf
  refine zz_callVi (rest := []) hx hb hml C hP hS (c_X9_isShelf l hDA p1 hzu1.symm) zw_X9_103 ⟨Nat.le_trans (Nat.le_of_ble_eq_true rfl) hRf, Nat.le_trans (Nat.le_of_ble_eq_true rfl) hRl⟩ (by decide) lay_81 rfl rfl hl.1 (Nat.le_of_ble_eq_true rfl) ⟨Nat.zero_le _, Nat.zero_le _⟩ rfl dX9_says_2 (fun H locs hP hS => ?_)
  refine lv_if_eq (tgt := 18) hx hb dX9_says_5 (by decide) (fun hb1 => ?_) (fun hb1 => ?_)
  · have hf := ifT hb1 hf
    refine lv_aload_n hx hb dX9_says_18 rfl (lv_at hl 0 rfl) ?_
    refine lv_iconst (v := (-1)) hx hb dX9_says_19 (by decide) ?_
    obtain ⟨u3, hzu3, hf⟩ := obd_some hf
    refine zz_callVi (rest := []) hx hb hml C hP hS (c_X9_no l hDA (-1) hzu3) zw_X9_107 ⟨Nat.le_trans (Nat.le_of_ble_eq_true rfl) hRf, Nat.le_trans (Nat.le_of_ble_eq_true rfl) hRl⟩ (by decide) lay_81 rfl rfl hl.1 (Nat.le_of_ble_eq_true rfl) ⟨Nat.zero_le _, Nat.zero_le _⟩ rfl dX9_says_20 (fun H locs hP hS => ?_)
    have hf := Option.some.inj hf
    subst hf
    exact hQ _ _ _ _ dX9_says_23 hP hS
  · have hf := ifF hb1 hf
    refine lv_iload_n hx hb dX9_says_8 rfl (lv_at hl 2 rfl) ?_
    refine lv_if_lt (tgt := 18) hx hb dX9_says_9 (by decide) (fun hb3 => ?_) (fun hb3 => ?_)
    · have hf := ifT hb3 hf
      refine lv_aload_n hx hb dX9_says_18 rfl (lv_at hl 0 rfl) ?_
      refine lv_iconst (v := (-1)) hx hb dX9_says_19 (by decide) ?_
      obtain ⟨u5, hzu5, hf⟩ := obd_some hf
      refine zz_callVi (rest := []) hx hb hml C hP hS (c_X9_no l hDA (-1) hzu5) zw_X9_107 ⟨Nat.le_trans (Nat.le_of_ble_eq_true rfl) hRf, Nat.le_trans (Nat.le_of_ble_eq_true rfl) hRl⟩ (by decide) lay_81 rfl rfl hl.1 (Nat.le_of_ble_eq_true rfl) ⟨Nat.zero_le _, Nat.zero_le _⟩ rfl dX9_says_20 (fun H locs hP hS => ?_)
      have hf := Option.some.inj hf
      subst hf
      exact hQ _ _ _ _ dX9_says_23 hP hS
    · have hf := ifF hb3 hf
      refine lv_iload_n hx hb dX9_says_12 rfl (lv_at hl 2 rfl) ?_
      refine lv_bipush (v := 6) hx hb dX9_says_13 (by decide) ?_
      refine lv_icmp_le (tgt := 24) hx hb dX9_says_15 (by decide) (fun hb5 => ?_) (fun hb5 => ?_)
      · have hf := ifT hb5 hf
        refine lv_aload_n hx hb dX9_says_24 rfl (lv_at hl 0 rfl) ?_
        refine zg_X9_44 hx hb C hP (by decide) lay_81 rfl dX9_says_25 ?_
        refine lv_iload_n hx hb dX9_says_28 rfl (lv_at hl 1 rfl) ?_
        obtain ⟨hc6, hf⟩ := chk_some hf
        refine zz_iald hx hb C hP (by decide) lay_89 (inb_vp hc6) dX9_says_29 ?_
        refine lv_iconst (v := 1) hx hb dX9_says_30 (by decide) ?_
        refine lv_icmp_ne (tgt := 41) hx hb dX9_says_31 (by decide) (fun hb7 => ?_) (fun hb7 => ?_)
        · have hf := ifF hb7 hf
          refine lv_aload_n hx hb dX9_says_41 rfl (lv_at hl 0 rfl) ?_
          refine zg_X9_44 hx hb C hP (by decide) lay_81 rfl dX9_says_42 ?_
          refine lv_iload_n hx hb dX9_says_45 rfl (lv_at hl 1 rfl) ?_
          obtain ⟨hc8, hf⟩ := chk_some hf
          refine zz_iald hx hb C hP (by decide) lay_89 (inb_vp hc8) dX9_says_46 ?_
          refine lv_if_ne (tgt := 57) hx hb dX9_says_47 (by decide) (fun hb9 => ?_) (fun hb9 => ?_)
          · have hf := ifF hb9 hf
            refine lv_aload_n hx hb dX9_says_57 rfl (lv_at hl 0 rfl) ?_
            refine zg_X9_53 hx hb C hP (by decide) lay_81 rfl dX9_says_58 ?_
            refine lv_iload_n hx hb dX9_says_61 rfl (lv_at hl 1 rfl) ?_
            obtain ⟨hc10, hf⟩ := chk_some hf
            refine zz_iald hx hb C hP (by decide) lay_92 (inb_vp hc10) dX9_says_62 ?_
            refine lv_topi (fun v12 ev12 => ?_)
            have hf := bnd_at v12 ev12 hf
            refine lv_istore_n (lv' := [(3, .int v12), (0, .ref (a 81)), (1, .int p1), (2, .int p2)]) hx hb dX9_says_63 rfl hl (by decide) rfl (fun ls hl => ?_)
            refine lv_aload_n hx hb dX9_says_64 rfl (lv_at hl 1 rfl) ?_
            refine zg_X9_26 hx hb C hP (by decide) lay_81 rfl dX9_says_65 ?_
            refine lv_iload_n hx hb dX9_says_68 rfl (lv_at hl 0 rfl) ?_
            obtain ⟨hc12, hf⟩ := chk_some hf
            refine zz_iald hx hb C hP (by decide) lay_83 (inb_vp hc12) dX9_says_69 ?_
            refine lv_topi (fun v14 ev14 => ?_)
            have hf := bnd_at v14 ev14 hf
            refine lv_istore (lv' := [(4, .int v14), (3, .int v12), (0, .ref (a 81)), (1, .int p1), (2, .int p2)]) hx hb dX9_says_70 hl (by decide) rfl (fun ls hl => ?_)
            refine lv_iload_n hx hb dX9_says_72 rfl (lv_at hl 4 rfl) ?_
            refine lv_iconst (v := 1) hx hb dX9_says_73 (by decide) ?_
            have hJ111 : ∀ (v15 : Int32), j_X9_says_111 σ p2 v12 v14 v15 = some u → ∀ (H : Heap) (locs : List Loc) (ls : Array Slot), lv_has ls 6 [(0, .ref (a 81)), (2, .int p2), (3, .int v12), (4, .int v14)] → va_P D vwCl (wl a cA σ d) H → va_S A s.heap H locs → W p l e R s m args below meth c H locs 0 0 Q (F0 m 111 ls [.int v15]) := by
              intro v15 hf H locs ls hl hP hS
              unfold j_X9_says_111 at hf
              refine lv_istore (lv' := [(5, .int v15), (0, .ref (a 81)), (2, .int p2), (3, .int v12), (4, .int v14)]) hx hb dX9_says_111 hl (by decide) rfl (fun ls hl => ?_)
              refine lv_iload_n hx hb dX9_says_113 rfl (lv_at hl 2 rfl) ?_
              have hJ135 : j_X9_says_135 σ p2 v12 = some u → ∀ (H : Heap) (locs : List Loc) (ls : Array Slot), lv_has ls 6 [(0, .ref (a 81)), (2, .int p2), (3, .int v12)] → va_P D vwCl (wl a cA σ d) H → va_S A s.heap H locs → W p l e R s m args below meth c H locs 0 0 Q (F0 m 135 ls []) := by
                intro  hf H locs ls hl hP hS
                unfold j_X9_says_135 at hf
                refine lv_iload_n hx hb dX9_says_135 rfl (lv_at hl 1 rfl) ?_
                have hJ183 : j_X9_says_183 σ v12 = some u → ∀ (H : Heap) (locs : List Loc) (ls : Array Slot), lv_has ls 6 [(0, .ref (a 81)), (3, .int v12)] → va_P D vwCl (wl a cA σ d) H → va_S A s.heap H locs → W p l e R s m args below meth c H locs 0 0 Q (F0 m 183 ls []) := by
                  intro  hf H locs ls hl hP hS
                  unfold j_X9_says_183 at hf
                  refine lv_aload_n hx hb dX9_says_183 rfl (lv_at hl 0 rfl) ?_
                  refine lv_aload_n hx hb dX9_says_184 rfl (lv_at hl 0 rfl) ?_
                  refine zg_X9_35 hx hb C hP (by decide) lay_81 rfl dX9_says_185 ?_
                  refine lv_iload_n hx hb dX9_says_188 rfl (lv_at hl 1 rfl) ?_
                  obtain ⟨hc15, hf⟩ := chk_some hf
                  refine zz_iald hx hb C hP (by decide) lay_86 (inb_vp hc15) dX9_says_189 ?_
                  refine lv_iconst (v := 1) hx hb dX9_says_190 (by decide) ?_
                  refine lv_isub hx hb dX9_says_191 ?_
                  obtain ⟨u17, hzu17, hf⟩ := obd_some hf
                  refine zz_callVi (rest := []) hx hb hml C hP hS (c_X9_who l hDA ((gI σ 86 v12.toNatClampNeg) - 1) hzu17) zw_X9_114 ⟨Nat.le_trans (Nat.le_of_ble_eq_true rfl) hRf, Nat.le_trans (Nat.le_of_ble_eq_true rfl) hRl⟩ (by decide) lay_81 rfl rfl hl.1 (Nat.le_of_ble_eq_true rfl) ⟨Nat.zero_le _, Nat.zero_le _⟩ rfl dX9_says_192 (fun H locs hP hS => ?_)
                  have hf := Option.some.inj hf
                  subst hf
                  exact hQ _ _ _ _ dX9_says_195 hP hS
                by_cases hb17 : p2 = 0
                · have hf := ifT hb17 hf
                  refine lv_tableIn (tgt := 176) hx hb dX9_says_136 (by rw [hb17]; decide) (by rw [hb17]; decide) (by rw [hb17]; rfl) (by decide) ?_
                  refine lv_aload_n hx hb dX9_says_176 rfl (lv_at hl 0 rfl) ?_
                  refine zg_X9_35 hx hb C hP (by decide) lay_81 rfl dX9_says_177 ?_
                  refine lv_iload_n hx hb dX9_says_180 rfl (lv_at hl 2 rfl) ?_
                  obtain ⟨hc18, hf⟩ := chk_some hf
                  refine zz_iald hx hb C hP (by decide) lay_86 (inb_vp hc18) dX9_says_181 ?_
                  have hf := Option.some.inj hf
                  subst hf
                  exact hQ _ _ _ _ dX9_says_182 hP hS
                have hf := ifF hb17 hf
                by_cases hb19 : p2 = 1
                · have hf := ifT hb19 hf
                  refine lv_tableIn (tgt := 183) hx hb dX9_says_136 (by rw [hb19]; decide) (by rw [hb19]; decide) (by rw [hb19]; rfl) (by decide) ?_
                  exact hJ183  hf _ _ _ (lv_sub hl [0, 2] rfl) hP hS
                have hf := ifF hb19 hf
                by_cases hb20 : p2 = 2
                · have hf := ifT hb20 hf
                  refine lv_tableIn (tgt := 196) hx hb dX9_says_136 (by rw [hb20]; decide) (by rw [hb20]; decide) (by rw [hb20]; rfl) (by decide) ?_
                  refine lv_aload_n hx hb dX9_says_196 rfl (lv_at hl 0 rfl) ?_
                  refine zg_X9_29 hx hb C hP (by decide) lay_81 rfl dX9_says_197 ?_
                  refine lv_iload_n hx hb dX9_says_200 rfl (lv_at hl 2 rfl) ?_
                  obtain ⟨hc21, hf⟩ := chk_some hf
                  refine zz_iald hx hb C hP (by decide) lay_84 (inb_vp hc21) dX9_says_201 ?_
                  refine lv_iconst (v := 2) hx hb dX9_says_202 (by decide) ?_
                  refine lv_iadd hx hb dX9_says_203 ?_
                  have hf := Option.some.inj hf
                  subst hf
                  exact hQ _ _ _ _ dX9_says_204 hP hS
                have hf := ifF hb20 hf
                by_cases hb22 : p2 = 3
                · have hf := ifT hb22 hf
                  refine lv_tableIn (tgt := 183) hx hb dX9_says_136 (by rw [hb22]; decide) (by rw [hb22]; decide) (by rw [hb22]; rfl) (by decide) ?_
                  exact hJ183  hf _ _ _ (lv_sub hl [0, 2] rfl) hP hS
                have hf := ifF hb22 hf
                by_cases hb23 : p2 = 4
                · have hf := ifT hb23 hf
                  refine lv_tableIn (tgt := 205) hx hb dX9_says_136 (by rw [hb23]; decide) (by rw [hb23]; decide) (by rw [hb23]; rfl) (by decide) ?_
                  refine lv_aload_n hx hb dX9_says_205 rfl (lv_at hl 0 rfl) ?_
                  refine zg_X9_29 hx hb C hP (by decide) lay_81 rfl dX9_says_206 ?_
                  refine lv_iload_n hx hb dX9_says_209 rfl (lv_at hl 2 rfl) ?_
                  obtain ⟨hc24, hf⟩ := chk_some hf
                  refine zz_iald hx hb C hP (by decide) lay_84 (inb_vp hc24) dX9_says_210 ?_
                  have hf := Option.some.inj hf
                  subst hf
                  exact hQ _ _ _ _ dX9_says_211 hP hS
                have hf := ifF hb23 hf
                by_cases hb25 : p2 = 5
                · have hf := ifT hb25 hf
                  refine lv_tableIn (tgt := 196) hx hb dX9_says_136 (by rw [hb25]; decide) (by rw [hb25]; decide) (by rw [hb25]; rfl) (by decide) ?_
                  refine lv_aload_n hx hb dX9_says_196 rfl (lv_at hl 0 rfl) ?_
                  refine zg_X9_29 hx hb C hP (by decide) lay_81 rfl dX9_says_197 ?_
                  refine lv_iload_n hx hb dX9_says_200 rfl (lv_at hl 2 rfl) ?_
                  obtain ⟨hc26, hf⟩ := chk_some hf
                  refine zz_iald hx hb C hP (by decide) lay_84 (inb_vp hc26) dX9_says_201 ?_
                  refine lv_iconst (v := 2) hx hb dX9_says_202 (by decide) ?_
                  refine lv_iadd hx hb dX9_says_203 ?_
                  have hf := Option.some.inj hf
                  subst hf
                  exact hQ _ _ _ _ dX9_says_204 hP hS
                have hf := ifF hb25 hf
                refine lv_tableOut (tgt := 205) hx hb dX9_says_136 (sw_0_5 hb17 hb19 hb20 hb22 hb23 hb25) (by decide) ?_
                refine lv_aload_n hx hb dX9_says_205 rfl (lv_at hl 0 rfl) ?_
                refine zg_X9_29 hx hb C hP (by decide) lay_81 rfl dX9_says_206 ?_
                refine lv_iload_n hx hb dX9_says_209 rfl (lv_at hl 2 rfl) ?_
                obtain ⟨hc27, hf⟩ := chk_some hf
                refine zz_iald hx hb C hP (by decide) lay_84 (inb_vp hc27) dX9_says_210 ?_
                have hf := Option.some.inj hf
                subst hf
                exact hQ _ _ _ _ dX9_says_211 hP hS
              refine lv_if_eq (tgt := 135) hx hb dX9_says_114 (by decide) (fun hb28 => ?_) (fun hb28 => ?_)
              · have hf := ifT hb28 hf
                exact hJ135  hf _ _ _ (lv_sub hl [1, 2, 3] rfl) hP hS
              · have hf := ifF hb28 hf
                refine lv_iload_n hx hb dX9_says_117 rfl (lv_at hl 2 rfl) ?_
                refine lv_iload hx hb dX9_says_118 (lv_at hl 4 rfl) ?_
                refine lv_icmp_eq (tgt := 135) hx hb dX9_says_120 (by decide) (fun hb29 => ?_) (fun hb29 => ?_)
                · have hf := ifT hb29 hf
                  exact hJ135  hf _ _ _ (lv_sub hl [1, 2, 3] rfl) hP hS
                · have hf := ifF hb29 hf
                  refine lv_iload hx hb dX9_says_123 (lv_at hl 0 rfl) ?_
                  refine lv_if_ne (tgt := 135) hx hb dX9_says_125 (by decide) (fun hb30 => ?_) (fun hb30 => ?_)
                  · have hf := ifF hb30 hf
                    exact hJ135  hf _ _ _ (lv_sub hl [1, 2, 3] rfl) hP hS
                  · have hf := ifT hb30 hf
                    refine lv_aload_n hx hb dX9_says_128 rfl (lv_at hl 1 rfl) ?_
                    refine lv_bipush (v := (-2)) hx hb dX9_says_129 (by decide) ?_
                    obtain ⟨u32, hzu32, hf⟩ := obd_some hf
                    refine zz_callVi (rest := []) hx hb hml C hP hS (c_X9_no l hDA (-2) hzu32) zw_X9_107 ⟨Nat.le_trans (Nat.le_of_ble_eq_true rfl) hRf, Nat.le_trans (Nat.le_of_ble_eq_true rfl) hRl⟩ (by decide) lay_81 rfl rfl hl.1 (Nat.le_of_ble_eq_true rfl) ⟨Nat.zero_le _, Nat.zero_le _⟩ rfl dX9_says_131 (fun H locs hP hS => ?_)
                    have hf := Option.some.inj hf
                    subst hf
                    exact hQ _ _ _ _ dX9_says_134 hP hS
            have hJ106 : j_X9_says_106 σ p2 v12 v14 = some u → ∀ (H : Heap) (locs : List Loc) (ls : Array Slot), lv_has ls 6 [(0, .ref (a 81)), (2, .int p2), (3, .int v12), (4, .int v14)] → va_P D vwCl (wl a cA σ d) H → va_S A s.heap H locs → W p l e R s m args below meth c H locs 0 0 Q (F0 m 106 ls []) := by
              intro  hf H locs ls hl hP hS
              unfold j_X9_says_106 at hf
              refine lv_iconst (v := 1) hx hb dX9_says_106 (by decide) ?_
              refine lv_goto (tgt := 111) hx hb dX9_says_107 (by decide) ?_
              exact hJ111 _ hf _ _ _ (lv_sub hl [0, 1, 2, 3] rfl) hP hS
            have hJ83 : j_X9_says_83 σ p2 v12 v14 = some u → ∀ (H : Heap) (locs : List Loc) (ls : Array Slot), lv_has ls 6 [(0, .ref (a 81)), (2, .int p2), (3, .int v12), (4, .int v14)] → va_P D vwCl (wl a cA σ d) H → va_S A s.heap H locs → W p l e R s m args below meth c H locs 0 0 Q (F0 m 83 ls []) := by
              intro  hf H locs ls hl hP hS
              unfold j_X9_says_83 at hf
              refine lv_iload_n hx hb dX9_says_83 rfl (lv_at hl 1 rfl) ?_
              refine lv_iconst (v := 2) hx hb dX9_says_84 (by decide) ?_
              have hJ94 : j_X9_says_94 σ p2 v12 v14 = some u → ∀ (H : Heap) (locs : List Loc) (ls : Array Slot), lv_has ls 6 [(0, .ref (a 81)), (2, .int p2), (3, .int v12), (4, .int v14)] → va_P D vwCl (wl a cA σ d) H → va_S A s.heap H locs → W p l e R s m args below meth c H locs 0 0 Q (F0 m 94 ls []) := by
                intro  hf H locs ls hl hP hS
                unfold j_X9_says_94 at hf
                refine lv_iload_n hx hb dX9_says_94 rfl (lv_at hl 1 rfl) ?_
                refine lv_iconst (v := 4) hx hb dX9_says_95 (by decide) ?_
                have hJ110 : j_X9_says_110 σ p2 v12 v14 = some u → ∀ (H : Heap) (locs : List Loc) (ls : Array Slot), lv_has ls 6 [(0, .ref (a 81)), (2, .int p2), (3, .int v12), (4, .int v14)] → va_P D vwCl (wl a cA σ d) H → va_S A s.heap H locs → W p l e R s m args below meth c H locs 0 0 Q (F0 m 110 ls []) := by
                  intro  hf H locs ls hl hP hS
                  unfold j_X9_says_110 at hf
                  refine lv_iconst (v := 0) hx hb dX9_says_110 (by decide) ?_
                  exact hJ111 _ hf _ _ _ (lv_sub hl [0, 1, 2, 3] rfl) hP hS
                refine lv_icmp_ne (tgt := 110) hx hb dX9_says_96 (by decide) (fun hb32 => ?_) (fun hb32 => ?_)
                · have hf := ifF hb32 hf
                  exact hJ110  hf _ _ _ (lv_sub hl [0, 1, 2, 3] rfl) hP hS
                · have hf := ifT hb32 hf
                  refine lv_iload hx hb dX9_says_99 (lv_at hl 3 rfl) ?_
                  refine lv_bipush (v := 6) hx hb dX9_says_101 (by decide) ?_
                  refine lv_icmp_ne (tgt := 110) hx hb dX9_says_103 (by decide) (fun hb33 => ?_) (fun hb33 => ?_)
                  · have hf := ifF hb33 hf
                    exact hJ110  hf _ _ _ (lv_sub hl [0, 1, 2, 3] rfl) hP hS
                  · have hf := ifT hb33 hf
                    exact hJ106  hf _ _ _ (lv_sub hl [0, 1, 2, 3] rfl) hP hS
              refine lv_icmp_ne (tgt := 94) hx hb dX9_says_85 (by decide) (fun hb34 => ?_) (fun hb34 => ?_)
              · have hf := ifF hb34 hf
                exact hJ94  hf _ _ _ (lv_sub hl [0, 1, 2, 3] rfl) hP hS
              · have hf := ifT hb34 hf
                refine lv_iload hx hb dX9_says_88 (lv_at hl 3 rfl) ?_
                refine lv_iconst (v := 5) hx hb dX9_says_90 (by decide) ?_
                refine lv_icmp_eq (tgt := 106) hx hb dX9_says_91 (by decide) (fun hb35 => ?_) (fun hb35 => ?_)
                · have hf := ifT hb35 hf
                  exact hJ106  hf _ _ _ (lv_sub hl [0, 1, 2, 3] rfl) hP hS
                · have hf := ifF hb35 hf
                  exact hJ94  hf _ _ _ (lv_sub hl [0, 1, 2, 3] rfl) hP hS
            refine lv_icmp_ne (tgt := 83) hx hb dX9_says_74 (by decide) (fun hb36 => ?_) (fun hb36 => ?_)
            · have hf := ifF hb36 hf
              exact hJ83  hf _ _ _ (lv_sub hl [2, 4, 1, 0] rfl) hP hS
            · have hf := ifT hb36 hf
              refine lv_iload hx hb dX9_says_77 (lv_at hl 0 rfl) ?_
              refine lv_iconst (v := 3) hx hb dX9_says_79 (by decide) ?_
              refine lv_icmp_eq (tgt := 106) hx hb dX9_says_80 (by decide) (fun hb37 => ?_) (fun hb37 => ?_)
              · have hf := ifT hb37 hf
                exact hJ106  hf _ _ _ (lv_sub hl [2, 4, 1, 0] rfl) hP hS
              · have hf := ifF hb37 hf
                exact hJ83  hf _ _ _ (lv_sub hl [2, 4, 1, 0] rfl) hP hS
          · have hf := ifT hb9 hf
            refine lv_aload_n hx hb dX9_says_50 rfl (lv_at hl 0 rfl) ?_
            refine lv_bipush (v := (-3)) hx hb dX9_says_51 (by decide) ?_
            obtain ⟨u39, hzu39, hf⟩ := obd_some hf
            refine zz_callVi (rest := []) hx hb hml C hP hS (c_X9_no l hDA (-3) hzu39) zw_X9_107 ⟨Nat.le_trans (Nat.le_of_ble_eq_true rfl) hRf, Nat.le_trans (Nat.le_of_ble_eq_true rfl) hRl⟩ (by decide) lay_81 rfl rfl hl.1 (Nat.le_of_ble_eq_true rfl) ⟨Nat.zero_le _, Nat.zero_le _⟩ rfl dX9_says_53 (fun H locs hP hS => ?_)
            have hf := Option.some.inj hf
            subst hf
            exact hQ _ _ _ _ dX9_says_56 hP hS
        · have hf := ifT hb7 hf
          refine lv_aload_n hx hb dX9_says_34 rfl (lv_at hl 0 rfl) ?_
          refine lv_bipush (v := (-2)) hx hb dX9_says_35 (by decide) ?_
          obtain ⟨u40, hzu40, hf⟩ := obd_some hf
          refine zz_callVi (rest := []) hx hb hml C hP hS (c_X9_no l hDA (-2) hzu40) zw_X9_107 ⟨Nat.le_trans (Nat.le_of_ble_eq_true rfl) hRf, Nat.le_trans (Nat.le_of_ble_eq_true rfl) hRl⟩ (by decide) lay_81 rfl rfl hl.1 (Nat.le_of_ble_eq_true rfl) ⟨Nat.zero_le _, Nat.zero_le _⟩ rfl dX9_says_37 (fun H locs hP hS => ?_)
          have hf := Option.some.inj hf
          subst hf
          exact hQ _ _ _ _ dX9_says_40 hP hS
      · have hf := ifF hb5 hf
        refine lv_aload_n hx hb dX9_says_18 rfl (lv_at hl 0 rfl) ?_
        refine lv_iconst (v := (-1)) hx hb dX9_says_19 (by decide) ?_
        obtain ⟨u41, hzu41, hf⟩ := obd_some hf
        refine zz_callVi (rest := []) hx hb hml C hP hS (c_X9_no l hDA (-1) hzu41) zw_X9_107 ⟨Nat.le_trans (Nat.le_of_ble_eq_true rfl) hRf, Nat.le_trans (Nat.le_of_ble_eq_true rfl) hRl⟩ (by decide) lay_81 rfl rfl hl.1 (Nat.le_of_ble_eq_true rfl) ⟨Nat.zero_le _, Nat.zero_le _⟩ rfl dX9_says_20 (fun H locs hP hS => ?_)
        have hf := Option.some.inj hf
        subst hf
        exact hQ _ _ _ _ dX9_says_23 hP hS
set_option maxHeartbeats 4000000 in
set_option maxRecDepth 100000 in
theorem c_X9_wanted (l : Launch) {D : va_G} {a : Nat → Nat} {cA : Nat → ClassId} {A : Nat → Prop} {sa : Nat → Nat} (hDA : DA a A) {σ : PH} {d : PD} (p1 : Int32) {u : Int32} (hf : f_X9_wanted σ p1 = some u) : CTi l yX9_wanted cX9_wanted 2 (some .int) 1 21 D a cA A sa [.ref (a 81), .int p1] σ d u σ d := by
  refine zz_metI zpl_X9 hDA (Nat.le_of_ble_eq_true rfl) ?_
  intro p e R s m args below meth c Q ls hx hb hml C hRf hRl hQ hP hS hl
  have hl : lv_has ls 2 [(0, .ref (a 81)), (1, .int p1)] := hl
  unfold f_X9_wanted at hf
  refine lv_aload_n hx hb dX9_wanted_0 rfl (lv_at hl 0 rfl) ?_
  refine lv_iload_n hx hb dX9_wanted_1 rfl (lv_at hl 1 rfl) ?_
  obtain ⟨u1, hzu1⟩ : ∃ z, z = f_X9_isShelf p1 := ⟨_, rfl⟩
  have hf := bnd_at u1 hzu1 hf
  refine zz_callVi (rest := []) hx hb hml C hP hS (c_X9_isShelf l hDA p1 hzu1.symm) zw_X9_103 ⟨Nat.le_trans (Nat.le_of_ble_eq_true rfl) hRf, Nat.le_trans (Nat.le_of_ble_eq_true rfl) hRl⟩ (by decide) lay_81 rfl rfl hl.1 (Nat.le_of_ble_eq_true rfl) ⟨Nat.zero_le _, Nat.zero_le _⟩ rfl dX9_wanted_2 (fun H locs hP hS => ?_)
  refine lv_if_ne (tgt := 12) hx hb dX9_wanted_5 (by decide) (fun hb1 => ?_) (fun hb1 => ?_)
  · have hf := ifF hb1 hf
    refine lv_aload_n hx hb dX9_wanted_12 rfl (lv_at hl 0 rfl) ?_
    refine zg_X9_44 hx hb C hP (by decide) lay_81 rfl dX9_wanted_13 ?_
    refine lv_iload_n hx hb dX9_wanted_16 rfl (lv_at hl 1 rfl) ?_
    obtain ⟨hc2, hf⟩ := chk_some hf
    refine zz_iald hx hb C hP (by decide) lay_89 (inb_vp hc2) dX9_wanted_17 ?_
    refine lv_iconst (v := 2) hx hb dX9_wanted_18 (by decide) ?_
    refine lv_icmp_ne (tgt := 27) hx hb dX9_wanted_19 (by decide) (fun hb3 => ?_) (fun hb3 => ?_)
    · have hf := ifF hb3 hf
      refine lv_aload_n hx hb dX9_wanted_27 rfl (lv_at hl 0 rfl) ?_
      refine zg_X9_44 hx hb C hP (by decide) lay_81 rfl dX9_wanted_28 ?_
      refine lv_iload_n hx hb dX9_wanted_31 rfl (lv_at hl 1 rfl) ?_
      obtain ⟨hc4, hf⟩ := chk_some hf
      refine zz_iald hx hb C hP (by decide) lay_89 (inb_vp hc4) dX9_wanted_32 ?_
      refine lv_if_ne (tgt := 41) hx hb dX9_wanted_33 (by decide) (fun hb5 => ?_) (fun hb5 => ?_)
      · have hf := ifF hb5 hf
        refine lv_iconst (v := 0) hx hb dX9_wanted_41 (by decide) ?_
        have hf := Option.some.inj hf
        subst hf
        exact hQ _ _ _ _ dX9_wanted_42 hP hS
      · have hf := ifT hb5 hf
        refine lv_bipush (v := (-3)) hx hb dX9_wanted_36 (by decide) ?_
        refine lv_goto (tgt := 42) hx hb dX9_wanted_38 (by decide) ?_
        have hf := Option.some.inj hf
        subst hf
        exact hQ _ _ _ _ dX9_wanted_42 hP hS
    · have hf := ifT hb3 hf
      refine lv_bipush (v := (-2)) hx hb dX9_wanted_22 (by decide) ?_
      refine lv_goto (tgt := 42) hx hb dX9_wanted_24 (by decide) ?_
      have hf := Option.some.inj hf
      subst hf
      exact hQ _ _ _ _ dX9_wanted_42 hP hS
  · have hf := ifT hb1 hf
    refine lv_iconst (v := (-1)) hx hb dX9_wanted_8 (by decide) ?_
    refine lv_goto (tgt := 42) hx hb dX9_wanted_9 (by decide) ?_
    have hf := Option.some.inj hf
    subst hf
    exact hQ _ _ _ _ dX9_wanted_42 hP hS
set_option maxHeartbeats 4000000 in
set_option maxRecDepth 100000 in
theorem c_X9_intAt (l : Launch) {D : va_G} {a : Nat → Nat} {cA : Nat → ClassId} {A : Nat → Prop} {sa : Nat → Nat} (hDA : DA a A) {σ : PH} {d : PD} (p1 : Int32) (p2 : Int32) {u : Int32} (hf : f_X9_intAt σ p1 p2 = some u) : CTi l yX9_intAt cX9_intAt 3 (some .int) 0 0 D a cA A sa [.ref (a 81), .int p1, .int p2] σ d u σ d := by
  refine zz_metI zpl_X9 hDA (Nat.le_of_ble_eq_true rfl) ?_
  intro p e R s m args below meth c Q ls hx hb hml C hRf hRl hQ hP hS hl
  have hl : lv_has ls 3 [(0, .ref (a 81)), (1, .int p1), (2, .int p2)] := hl
  unfold f_X9_intAt at hf
  refine lv_aload_n hx hb dX9_intAt_0 rfl (lv_at hl 0 rfl) ?_
  refine zg_X9_56 hx hb C hP (by decide) lay_81 rfl dX9_intAt_1 ?_
  refine lv_sipush (v := 160) hx hb dX9_intAt_4 (by decide) ?_
  refine lv_iload_n hx hb dX9_intAt_7 rfl (lv_at hl 1 rfl) ?_
  refine lv_imul hx hb dX9_intAt_8 ?_
  refine lv_iload_n hx hb dX9_intAt_9 rfl (lv_at hl 2 rfl) ?_
  refine lv_iadd hx hb dX9_intAt_10 ?_
  obtain ⟨hc0, hf⟩ := chk_some hf
  refine zz_lald hx hb C hP (by decide) lay_93 (inb_vp hc0) dX9_intAt_11 ?_
  refine lv_l2i (v := (gJ σ 93 ((160 * p1) + p2).toNatClampNeg).toInt32) hx hb dX9_intAt_12 rfl ?_
  have hf := Option.some.inj hf
  subst hf
  exact hQ _ _ _ _ dX9_intAt_13 hP hS
set_option maxHeartbeats 4000000 in
set_option maxRecDepth 100000 in
theorem c_X9_bars (l : Launch) {D : va_G} {a : Nat → Nat} {cA : Nat → ClassId} {A : Nat → Prop} {sa : Nat → Nat} (hDA : DA a A) {σ : PH} {d : PD} (p1 : Int32) (p2 : Int32) {u : Int32} (hf : f_X9_bars σ p1 p2 = some u) : CTi l yX9_bars cX9_bars 4 (some .int) 2 42 D a cA A sa [.ref (a 81), .int p1, .int p2] σ d u σ d := by
  refine zz_metI zpl_X9 hDA (Nat.le_of_ble_eq_true rfl) ?_
  intro p e R s m args below meth c Q ls hx hb hml C hRf hRl hQ hP hS hl
  have hl : lv_has ls 4 [(0, .ref (a 81)), (1, .int p1), (2, .int p2)] := hl
  unfold f_X9_bars at hf
  refine lv_aload_n hx hb dX9_bars_0 rfl (lv_at hl 0 rfl) ?_
  refine lv_iload_n hx hb dX9_bars_1 rfl (lv_at hl 1 rfl) ?_
  obtain ⟨u1, hzu1, hf⟩ := obd_some hf
  refine zz_callVi (rest := []) hx hb hml C hP hS (c_X9_wanted l hDA p1 hzu1) zw_X9_117 ⟨Nat.le_trans (Nat.le_of_ble_eq_true rfl) hRf, Nat.le_trans (Nat.le_of_ble_eq_true rfl) hRl⟩ (by decide) lay_81 rfl rfl hl.1 (Nat.le_of_ble_eq_true rfl) ⟨Nat.zero_le _, Nat.zero_le _⟩ rfl dX9_bars_2 (fun H locs hP hS => ?_)
  refine lv_istore_n (lv' := [(3, .int u1), (0, .ref (a 81)), (1, .int p1), (2, .int p2)]) hx hb dX9_bars_5 rfl hl (by decide) rfl (fun ls hl => ?_)
  refine lv_iload_n hx hb dX9_bars_6 rfl (lv_at hl 0 rfl) ?_
  refine lv_if_eq (tgt := 12) hx hb dX9_bars_7 (by decide) (fun hb1 => ?_) (fun hb1 => ?_)
  · have hf := ifT hb1 hf
    refine lv_iload_n hx hb dX9_bars_12 rfl (lv_at hl 3 rfl) ?_
    refine lv_if_ge (tgt := 21) hx hb dX9_bars_13 (by decide) (fun hb2 => ?_) (fun hb2 => ?_)
    · have hf := ifT hb2 hf
      refine lv_iload_n hx hb dX9_bars_21 rfl (lv_at hl 3 rfl) ?_
      refine lv_aload_n hx hb dX9_bars_22 rfl (lv_at hl 1 rfl) ?_
      refine zg_X9_50 hx hb C hP (by decide) lay_81 rfl dX9_bars_23 ?_
      refine lv_iload_n hx hb dX9_bars_26 rfl (lv_at hl 2 rfl) ?_
      obtain ⟨hc3, hf⟩ := chk_some hf
      refine zz_iald hx hb C hP (by decide) lay_91 (inb_vp hc3) dX9_bars_27 ?_
      refine lv_icmp_le (tgt := 36) hx hb dX9_bars_28 (by decide) (fun hb4 => ?_) (fun hb4 => ?_)
      · have hf := ifT hb4 hf
        refine lv_iconst (v := 0) hx hb dX9_bars_36 (by decide) ?_
        have hf := Option.some.inj hf
        subst hf
        exact hQ _ _ _ _ dX9_bars_37 hP hS
      · have hf := ifF hb4 hf
        refine lv_bipush (v := (-5)) hx hb dX9_bars_31 (by decide) ?_
        refine lv_goto (tgt := 37) hx hb dX9_bars_33 (by decide) ?_
        have hf := Option.some.inj hf
        subst hf
        exact hQ _ _ _ _ dX9_bars_37 hP hS
    · have hf := ifF hb2 hf
      refine lv_bipush (v := (-4)) hx hb dX9_bars_16 (by decide) ?_
      refine lv_goto (tgt := 37) hx hb dX9_bars_18 (by decide) ?_
      have hf := Option.some.inj hf
      subst hf
      exact hQ _ _ _ _ dX9_bars_37 hP hS
  · have hf := ifF hb1 hf
    refine lv_iload_n hx hb dX9_bars_10 rfl (lv_at hl 0 rfl) ?_
    have hf := Option.some.inj hf
    subst hf
    exact hQ _ _ _ _ dX9_bars_11 hP hS
set_option maxHeartbeats 4000000 in
set_option maxRecDepth 100000 in
theorem c_X9_anew (l : Launch) {D : va_G} {a : Nat → Nat} {cA : Nat → ClassId} {A : Nat → Prop} {sa : Nat → Nat} (hDA : DA a A) {σ : PH} {d : PD}  {u : PH} (hf : f_X9_anew σ = u) : CTv l yX9_anew cX9_anew 1 none 0 0 D a cA A sa [.ref (a 81)] σ d u d := by
  refine zz_metV zpl_X9 hDA (Nat.le_of_ble_eq_true rfl) ?_
  intro p e R s m args below meth c Q ls hx hb hml C hRf hRl hQ hP hS hl
  have hl : lv_has ls 1 [(0, .ref (a 81))] := hl
  unfold f_X9_anew at hf
  refine lv_aload_n hx hb dX9_anew_0 rfl (lv_at hl 0 rfl) ?_
  refine lv_aload_n hx hb dX9_anew_1 rfl (lv_at hl 0 rfl) ?_
  refine zg_X9_96 hx hb C hP (by decide) lay_81 rfl dX9_anew_2 ?_
  refine lv_if_ne (tgt := 12) hx hb dX9_anew_5 (by decide) (fun hb0 => ?_) (fun hb0 => ?_)
  · have hf := ifF hb0 hf
    refine lv_iconst (v := 1) hx hb dX9_anew_12 (by decide) ?_
    refine zp_X9_120 hx hb C hP hS (by decide) lay_81 rfl dX9_anew_13 (fun σ2 eσ2 H locs hP hS => ?_)
    have hf := bnd_at σ2 eσ2 hf
    refine lv_aload_n hx hb dX9_anew_16 rfl (lv_at hl 0 rfl) ?_
    refine lv_iconst (v := 0) hx hb dX9_anew_17 (by decide) ?_
    refine zp_X9_123 hx hb C hP hS (by decide) lay_81 rfl dX9_anew_18 (fun σ3 eσ3 H locs hP hS => ?_)
    have hf := bnd_at σ3 eσ3 hf
    subst hf
    exact hQ _ _ _ _ dX9_anew_21 hP hS
  · have hf := ifT hb0 hf
    refine lv_iconst (v := 0) hx hb dX9_anew_8 (by decide) ?_
    refine lv_goto (tgt := 13) hx hb dX9_anew_9 (by decide) ?_
    refine zp_X9_120 hx hb C hP hS (by decide) lay_81 rfl dX9_anew_13 (fun σ4 eσ4 H locs hP hS => ?_)
    have hf := bnd_at σ4 eσ4 hf
    refine lv_aload_n hx hb dX9_anew_16 rfl (lv_at hl 0 rfl) ?_
    refine lv_iconst (v := 0) hx hb dX9_anew_17 (by decide) ?_
    refine zp_X9_123 hx hb C hP hS (by decide) lay_81 rfl dX9_anew_18 (fun σ5 eσ5 H locs hP hS => ?_)
    have hf := bnd_at σ5 eσ5 hf
    subst hf
    exact hQ _ _ _ _ dX9_anew_21 hP hS
set_option maxHeartbeats 4000000 in
set_option maxRecDepth 100000 in
theorem c_X9_adds (l : Launch) {D : va_G} {a : Nat → Nat} {cA : Nat → ClassId} {A : Nat → Prop} {sa : Nat → Nat} (hDA : DA a A) {σ : PH} {d : PD} (p1 : Int32) (p2 : Int32) (p3 : Int32) {u : Int32 × PH} (hf : f_X9_adds σ p1 p2 p3 = some u) : CTi l yX9_adds cX9_adds 4 (some .int) 1 20 D a cA A sa [.ref (a 81), .int p1, .int p2, .int p3] σ d u.1 u.2 d := by
  refine zz_metI zpl_X9 hDA (Nat.le_of_ble_eq_true rfl) ?_
  intro p e R s m args below meth c Q ls hx hb hml C hRf hRl hQ hP hS hl
  have hl : lv_has ls 4 [(0, .ref (a 81)), (1, .int p1), (2, .int p2), (3, .int p3)] := hl
  unfold f_X9_adds at hf
  refine lv_aload_n hx hb dX9_adds_0 rfl (lv_at hl 0 rfl) ?_
  refine zg_X9_26 hx hb C hP (by decide) lay_81 rfl dX9_adds_1 ?_
  refine lv_aload_n hx hb dX9_adds_4 rfl (lv_at hl 0 rfl) ?_
  refine zg_X9_96 hx hb C hP (by decide) lay_81 rfl dX9_adds_5 ?_
  refine lv_iload_n hx hb dX9_adds_8 rfl (lv_at hl 1 rfl) ?_
  obtain ⟨hc0, hf⟩ := chk_some hf
  refine zz_iast hx hb C hP hS (by decide) lay_83 (inb_vp hc0) dX9_adds_9 (fun σ2 eσ2 H locs hP hS => ?_)
  have hf := bnd_at σ2 eσ2 hf
  refine lv_aload_n hx hb dX9_adds_10 rfl (lv_at hl 0 rfl) ?_
  refine zg_X9_29 hx hb C hP (by decide) lay_81 rfl dX9_adds_11 ?_
  refine lv_aload_n hx hb dX9_adds_14 rfl (lv_at hl 0 rfl) ?_
  refine zg_X9_96 hx hb C hP (by decide) lay_81 rfl dX9_adds_15 ?_
  refine lv_iload_n hx hb dX9_adds_18 rfl (lv_at hl 2 rfl) ?_
  obtain ⟨hc2, hf⟩ := chk_some hf
  refine zz_iast hx hb C hP hS (by decide) lay_84 (inb_vp hc2) dX9_adds_19 (fun σ4 eσ4 H locs hP hS => ?_)
  have hf := bnd_at σ4 eσ4 hf
  refine lv_aload_n hx hb dX9_adds_20 rfl (lv_at hl 0 rfl) ?_
  refine zg_X9_32 hx hb C hP (by decide) lay_81 rfl dX9_adds_21 ?_
  refine lv_aload_n hx hb dX9_adds_24 rfl (lv_at hl 0 rfl) ?_
  refine zg_X9_96 hx hb C hP (by decide) lay_81 rfl dX9_adds_25 ?_
  refine lv_iload_n hx hb dX9_adds_28 rfl (lv_at hl 3 rfl) ?_
  obtain ⟨hc4, hf⟩ := chk_some hf
  refine zz_iast hx hb C hP hS (by decide) lay_85 (inb_vp hc4) dX9_adds_29 (fun σ6 eσ6 H locs hP hS => ?_)
  have hf := bnd_at σ6 eσ6 hf
  refine lv_aload_n hx hb dX9_adds_30 rfl (lv_at hl 0 rfl) ?_
  refine zg_X9_35 hx hb C hP (by decide) lay_81 rfl dX9_adds_31 ?_
  refine lv_aload_n hx hb dX9_adds_34 rfl (lv_at hl 0 rfl) ?_
  refine zg_X9_96 hx hb C hP (by decide) lay_81 rfl dX9_adds_35 ?_
  refine lv_aload_n hx hb dX9_adds_38 rfl (lv_at hl 0 rfl) ?_
  refine zg_X9_96 hx hb C hP (by decide) lay_81 rfl dX9_adds_39 ?_
  obtain ⟨hc6, hf⟩ := chk_some hf
  refine zz_iast hx hb C hP hS (by decide) lay_86 (inb_vp hc6) dX9_adds_42 (fun σ8 eσ8 H locs hP hS => ?_)
  have hf := bnd_at σ8 eσ8 hf
  refine lv_aload_n hx hb dX9_adds_43 rfl (lv_at hl 0 rfl) ?_
  refine lv_dup hx hb dX9_adds_44 rfl ?_
  refine zg_X9_96 hx hb C hP (by decide) lay_81 rfl dX9_adds_45 ?_
  refine lv_iconst (v := 1) hx hb dX9_adds_48 (by decide) ?_
  refine lv_iadd hx hb dX9_adds_49 ?_
  refine zp_X9_96 hx hb C hP hS (by decide) lay_81 rfl dX9_adds_50 (fun σ9 eσ9 H locs hP hS => ?_)
  have hf := bnd_at σ9 eσ9 hf
  refine lv_aload_n hx hb dX9_adds_53 rfl (lv_at hl 0 rfl) ?_
  obtain ⟨u10, hzu10⟩ : ∃ z, z = f_X9_anew σ9 := ⟨_, rfl⟩
  have hf := bnd_at u10 hzu10 hf
  refine zz_callVv (rest := []) hx hb hml C hP hS (c_X9_anew l hDA  hzu10.symm) zw_X9_126 ⟨Nat.le_trans (Nat.le_of_ble_eq_true rfl) hRf, Nat.le_trans (Nat.le_of_ble_eq_true rfl) hRl⟩ (by decide) lay_81 rfl rfl hl.1 (Nat.le_of_ble_eq_true rfl) ⟨Nat.zero_le _, Nat.zero_le _⟩ rfl dX9_adds_54 (fun H locs hP hS => ?_)
  refine lv_aload_n hx hb dX9_adds_57 rfl (lv_at hl 0 rfl) ?_
  refine zg_X9_96 hx hb C hP (by decide) lay_81 rfl dX9_adds_58 ?_
  refine lv_iconst (v := 1) hx hb dX9_adds_61 (by decide) ?_
  refine lv_isub hx hb dX9_adds_62 ?_
  have hf := Option.some.inj hf
  subst hf
  exact hQ _ _ _ _ dX9_adds_63 hP hS
