set_option maxHeartbeats 4000000 in
set_option maxRecDepth 100000 in
theorem c_X5_sortOut (l : Launch) {D : va_G} {a : Nat → Nat} {cA : Nat → ClassId} {A : Nat → Prop} {sa : Nat → Nat} (hDA : DA a A) {σ : PH} {d : PD} {h : Nat} (hh : isHall h) {sh2 : Nat} (hsh2 : isShelf sh2) (p3 : Int32) {u : PH} (hf : f_X5_sortOut σ h sh2 p3 = some u) : CTv l yX5_sortOut cX5_sortOut 7 none 4 99 D a cA A sa [.ref (a 11), .ref (a h), .ref (a sh2), .int p3] σ d u d := by
  refine zz_metV zpl_X5 hDA (Nat.le_of_ble_eq_true rfl) ?_
  intro p e R s m args below meth c Q ls hx hb hml C hRf hRl hQ hP hS hl
  have hl : lv_has ls 7 [(0, .ref (a 11)), (1, .ref (a h)), (2, .ref (a sh2)), (3, .int p3)] := hl
  unfold f_X5_sortOut at hf
  refine lv_aload_n hx hb dX5_sortOut_0 rfl (lv_at hl 0 rfl) ?_
  refine lv_iconst (v := 0) hx hb dX5_sortOut_1 (by decide) ?_
  refine zp_X5_20 hx hb C hP hS (by decide) lay_11 rfl dX5_sortOut_2 (fun σ1 eσ1 H locs hP hS => ?_)
  have hf := bnd_at σ1 eσ1 hf
  refine lv_aload_n hx hb dX5_sortOut_5 rfl (lv_at hl 0 rfl) ?_
  refine lv_iconst (v := 0) hx hb dX5_sortOut_6 (by decide) ?_
  refine zp_X5_24 hx hb C hP hS (by decide) lay_11 rfl dX5_sortOut_7 (fun σ2 eσ2 H locs hP hS => ?_)
  have hf := bnd_at σ2 eσ2 hf
  refine lv_iconst (v := 0) hx hb dX5_sortOut_10 (by decide) ?_
  refine lv_istore (lv' := [(4, .int 0), (0, .ref (a 11)), (1, .ref (a h)), (2, .ref (a sh2)), (3, .int p3)]) hx hb dX5_sortOut_11 hl (by decide) rfl (fun ls hl => ?_)
  refine loopN_ind (P := fun (q3 : Int32 × PH) => ∀ (H : Heap) (locs : List Loc) (ls : Array Slot), lv_has ls 7 [(0, .ref (a 11)), (1, .ref (a h)), (2, .ref (a sh2)), (3, .int p3), (4, .int q3.1)] → va_P D vwCl (wl a cA q3.2 d) H → va_S A s.heap H locs → W p l e R s m args below meth c H locs 0 0 Q (F0 m 13 ls [])) ?_ _ _ hf _ _ _ (lv_sub hl [1, 2, 3, 4, 0] rfl) hP hS
  intro k4 ihk4 q3 hf H locs ls hl hP hS
  unfold b_X5_sortOut_13 at hf
  refine lv_iload hx hb dX5_sortOut_13 (lv_at hl 4 rfl) ?_
  refine lv_aload_n hx hb dX5_sortOut_15 rfl (lv_at hl 1 rfl) ?_
  refine zg_X5_52 hx hb C hP (lth0 hh) (lay_h0 hh) rfl dX5_sortOut_16 ?_
  refine zg_X5_56 hx hb C hP (lth hh 7 (by decide)) (lay_h7 hh) rfl dX5_sortOut_19 ?_
  refine lv_icmp_ge (tgt := 93) hx hb dX5_sortOut_22 (by decide) (fun hb4 => ?_) (fun hb4 => ?_)
  · have hf := ifT hb4 hf
    have hf := Option.some.inj hf
    subst hf
    exact hQ _ _ _ _ dX5_sortOut_93 hP hS
  · have hf := ifF hb4 hf
    refine lv_iload hx hb dX5_sortOut_25 (lv_at hl 4 rfl) ?_
    refine lv_aload_n hx hb dX5_sortOut_27 rfl (lv_at hl 1 rfl) ?_
    refine zg_X5_59 hx hb C hP (lth0 hh) (lay_h0 hh) rfl dX5_sortOut_28 ?_
    refine lv_aload_n hx hb dX5_sortOut_31 rfl (lv_at hl 1 rfl) ?_
    refine zg_X5_60 hx hb C hP (lth0 hh) (lay_h0 hh) rfl dX5_sortOut_32 ?_
    obtain ⟨u6, hzu6⟩ : ∃ z, z = f_X7_isIn q3.1 (gJ q3.2 h 7) (gJ q3.2 h 8) := ⟨_, rfl⟩
    have hf := bnd_at u6 hzu6 hf
    refine zz_callSi (rest := []) hx hb hml C hP hS (c_X7_isIn l hDA q3.1 (gJ q3.2 h 7) (gJ q3.2 h 8) hzu6.symm) zw_X5_61 ⟨Nat.le_trans (Nat.le_of_ble_eq_true rfl) hRf, Nat.le_trans (Nat.le_of_ble_eq_true rfl) hRl⟩  rfl hl.1 (Nat.le_of_ble_eq_true rfl) ⟨Nat.zero_le _, Nat.zero_le _⟩ rfl dX5_sortOut_35 (fun H locs hP hS => ?_)
    refine lv_if_eq (tgt := 87) hx hb dX5_sortOut_38 (by decide) (fun hb6 => ?_) (fun hb6 => ?_)
    · have hf := ifT hb6 hf
      obtain ⟨v8, ev8⟩ : ∃ z : Int32, z = q3.1 + 1 := ⟨_, rfl⟩
      have hf := bnd_at v8 ev8 hf
      refine lv_iinc (v := v8) (lv' := [(4, .int v8), (0, .ref (a 11)), (1, .ref (a h)), (2, .ref (a sh2)), (3, .int p3)]) hx hb dX5_sortOut_87 hl (k := 4) rfl (by rw [ev8]; rfl) (by decide) rfl (fun ls hl => ?_)
      refine lv_goto (tgt := 13) hx hb dX5_sortOut_90 (by decide) ?_
      exact ihk4 _ hf _ _ _ (lv_sub hl [1, 2, 3, 4, 0] rfl) hP hS
    · have hf := ifF hb6 hf
      refine lv_iconst (v := 0) hx hb dX5_sortOut_41 (by decide) ?_
      refine lv_istore (lv' := [(5, .int 0), (0, .ref (a 11)), (1, .ref (a h)), (2, .ref (a sh2)), (3, .int p3), (4, .int q3.1)]) hx hb dX5_sortOut_42 hl (by decide) rfl (fun ls hl => ?_)
      refine lv_iconst (v := 0) hx hb dX5_sortOut_44 (by decide) ?_
      refine lv_istore (lv' := [(6, .int 0), (5, .int 0), (0, .ref (a 11)), (1, .ref (a h)), (2, .ref (a sh2)), (3, .int p3), (4, .int q3.1)]) hx hb dX5_sortOut_45 hl (by decide) rfl (fun ls hl => ?_)
      have hJ81 : ∀ (v9 : Int32) (σ10 : PH), j_X5_sortOut_81 q3 k4 v9 σ10 = some u → ∀ (H : Heap) (locs : List Loc) (ls : Array Slot), lv_has ls 7 [(0, .ref (a 11)), (1, .ref (a h)), (2, .ref (a sh2)), (3, .int p3), (4, .int q3.1), (5, .int v9)] → va_P D vwCl (wl a cA σ10 d) H → va_S A s.heap H locs → W p l e R s m args below meth c H locs 0 0 Q (F0 m 81 ls []) := by
        intro v9 σ10 hf H locs ls hl hP hS
        unfold j_X5_sortOut_81 at hf
        refine lv_aload_n hx hb dX5_sortOut_81 rfl (lv_at hl 0 rfl) ?_
        refine lv_iload hx hb dX5_sortOut_82 (lv_at hl 5 rfl) ?_
        obtain ⟨u11, hzu11, hf⟩ := obd_some hf
        refine zz_callVv (rest := []) hx hb hml C hP hS (c_X5_sortIn l hDA v9 hzu11) zw_X5_69 ⟨Nat.le_trans (Nat.le_of_ble_eq_true rfl) hRf, Nat.le_trans (Nat.le_of_ble_eq_true rfl) hRl⟩ (by decide) lay_11 rfl rfl hl.1 (Nat.le_of_ble_eq_true rfl) ⟨Nat.zero_le _, Nat.zero_le _⟩ rfl dX5_sortOut_84 (fun H locs hP hS => ?_)
        obtain ⟨v12, ev12⟩ : ∃ z : Int32, z = q3.1 + 1 := ⟨_, rfl⟩
        have hf := bnd_at v12 ev12 hf
        refine lv_iinc (v := v12) (lv' := [(4, .int v12), (0, .ref (a 11)), (1, .ref (a h)), (2, .ref (a sh2)), (3, .int p3), (5, .int v9)]) hx hb dX5_sortOut_87 hl (k := 4) rfl (by rw [ev12]; rfl) (by decide) rfl (fun ls hl => ?_)
        refine lv_goto (tgt := 13) hx hb dX5_sortOut_90 (by decide) ?_
        exact ihk4 _ hf _ _ _ (lv_sub hl [1, 2, 3, 4, 0] rfl) hP hS
      refine loopN_ind (P := fun (q13 : Int32 × Int32 × PH) => ∀ (H : Heap) (locs : List Loc) (ls : Array Slot), lv_has ls 7 [(0, .ref (a 11)), (1, .ref (a h)), (2, .ref (a sh2)), (3, .int p3), (4, .int q3.1), (5, .int q13.1), (6, .int q13.2.1)] → va_P D vwCl (wl a cA q13.2.2 d) H → va_S A s.heap H locs → W p l e R s m args below meth c H locs 0 0 Q (F0 m 47 ls [])) ?_ _ _ hf _ _ _ (lv_sub hl [2, 3, 4, 5, 6, 1, 0] rfl) hP hS
      intro k14 ihk14 q13 hf H locs ls hl hP hS
      unfold b_X5_sortOut_47 at hf
      refine lv_iload hx hb dX5_sortOut_47 (lv_at hl 6 rfl) ?_
      refine lv_iload_n hx hb dX5_sortOut_49 rfl (lv_at hl 3 rfl) ?_
      refine lv_icmp_ge (tgt := 81) hx hb dX5_sortOut_50 (by decide) (fun hb14 => ?_) (fun hb14 => ?_)
      · have hf := ifT hb14 hf
        exact hJ81 _ _ hf _ _ _ (lv_sub hl [0, 1, 2, 3, 4, 5] rfl) hP hS
      · have hf := ifF hb14 hf
        refine lv_iconst (v := 2) hx hb dX5_sortOut_53 (by decide) ?_
        refine lv_iload hx hb dX5_sortOut_54 (lv_at hl 5 rfl) ?_
        refine lv_imul hx hb dX5_sortOut_56 ?_
        refine lv_aload_n hx hb dX5_sortOut_57 rfl (lv_at hl 1 rfl) ?_
        refine zg_X5_52 hx hb C hP (lth0 hh) (lay_h0 hh) rfl dX5_sortOut_58 ?_
        refine lv_aload_n hx hb dX5_sortOut_61 rfl (lv_at hl 2 rfl) ?_
        refine lv_iload hx hb dX5_sortOut_62 (lv_at hl 6 rfl) ?_
        obtain ⟨u16, hzu16, hf⟩ := obd_some hf
        refine zz_callVi (rest := [.ref (a (h + 7)), .int (2 * q13.1)]) hx hb hml C hP hS (c_X4_asInt l hDA (sh0 := sh2) hsh2 q13.2.1 hzu16) zw_X5_40 ⟨Nat.le_trans (Nat.le_of_ble_eq_true rfl) hRf, Nat.le_trans (Nat.le_of_ble_eq_true rfl) hRl⟩ (lts0 hsh2) (lay_s0 hsh2) rfl rfl hl.1 (Nat.le_of_ble_eq_true rfl) ⟨Nat.zero_le _, Nat.zero_le _⟩ rfl dX5_sortOut_64 (fun H locs hP hS => ?_)
        refine lv_iload hx hb dX5_sortOut_67 (lv_at hl 4 rfl) ?_
        obtain ⟨u17, hzu17, hf⟩ := obd_some hf
        refine zz_callVi (rest := [.int (2 * q13.1)]) hx hb hml C hP hS (c_X7_soundOf l hDA (h := h) hh u16 q3.1 hzu17) zw_X5_65 ⟨Nat.le_trans (Nat.le_of_ble_eq_true rfl) hRf, Nat.le_trans (Nat.le_of_ble_eq_true rfl) hRl⟩ (lth hh 7 (by decide)) (lay_h7 hh) rfl rfl hl.1 (Nat.le_of_ble_eq_true rfl) ⟨Nat.zero_le _, Nat.zero_le _⟩ rfl dX5_sortOut_69 (fun H locs hP hS => ?_)
        refine lv_iadd hx hb dX5_sortOut_72 ?_
        refine lv_topi (fun v18 ev18 => ?_)
        have hf := bnd_at v18 ev18 hf
        refine lv_istore (lv' := [(5, .int v18), (0, .ref (a 11)), (1, .ref (a h)), (2, .ref (a sh2)), (3, .int p3), (4, .int q3.1), (6, .int q13.2.1)]) hx hb dX5_sortOut_73 hl (by decide) rfl (fun ls hl => ?_)
        obtain ⟨v19, ev19⟩ : ∃ z : Int32, z = q13.2.1 + 1 := ⟨_, rfl⟩
        have hf := bnd_at v19 ev19 hf
        refine lv_iinc (v := v19) (lv' := [(6, .int v19), (5, .int v18), (0, .ref (a 11)), (1, .ref (a h)), (2, .ref (a sh2)), (3, .int p3), (4, .int q3.1)]) hx hb dX5_sortOut_75 hl (k := 6) rfl (by rw [ev19]; rfl) (by decide) rfl (fun ls hl => ?_)
        refine lv_goto (tgt := 47) hx hb dX5_sortOut_78 (by decide) ?_
        exact ihk14 _ hf _ _ _ (lv_sub hl [2, 3, 4, 5, 6, 1, 0] rfl) hP hS
set_option maxHeartbeats 4000000 in
set_option maxRecDepth 100000 in
theorem c_X5_firstWrong (l : Launch) {D : va_G} {a : Nat → Nat} {cA : Nat → ClassId} {A : Nat → Prop} {sa : Nat → Nat} (hDA : DA a A) {σ : PH} {d : PD} {h : Nat} (hh : isHall h) {sh2 : Nat} (hsh2 : isShelf sh2) (p3 : Int32) {u : Int32 × PH} (hf : f_X5_firstWrong σ h sh2 p3 = some u) : CTi l yX5_firstWrong cX5_firstWrong 7 (some .int) 4 102 D a cA A sa [.ref (a 11), .ref (a h), .ref (a sh2), .int p3] σ d u.1 u.2 d := by
  refine zz_metI zpl_X5 hDA (Nat.le_of_ble_eq_true rfl) ?_
  intro p e R s m args below meth c Q ls hx hb hml C hRf hRl hQ hP hS hl
  have hl : lv_has ls 7 [(0, .ref (a 11)), (1, .ref (a h)), (2, .ref (a sh2)), (3, .int p3)] := hl
  unfold f_X5_firstWrong at hf
  refine lv_aload_n hx hb dX5_firstWrong_0 rfl (lv_at hl 0 rfl) ?_
  refine lv_aload_n hx hb dX5_firstWrong_1 rfl (lv_at hl 1 rfl) ?_
  refine zg_X5_59 hx hb C hP (lth0 hh) (lay_h0 hh) rfl dX5_firstWrong_2 ?_
  refine zp_X5_27 hx hb C hP hS (by decide) lay_11 rfl dX5_firstWrong_5 (fun σ1 eσ1 H locs hP hS => ?_)
  have hf := bnd_at σ1 eσ1 hf
  refine lv_aload_n hx hb dX5_firstWrong_8 rfl (lv_at hl 0 rfl) ?_
  refine lv_aload_n hx hb dX5_firstWrong_9 rfl (lv_at hl 1 rfl) ?_
  refine zg_X5_60 hx hb C hP (lth0 hh) (lay_h0 hh) rfl dX5_firstWrong_10 ?_
  refine zp_X5_31 hx hb C hP hS (by decide) lay_11 rfl dX5_firstWrong_13 (fun σ2 eσ2 H locs hP hS => ?_)
  have hf := bnd_at σ2 eσ2 hf
  refine lv_iconst (v := 0) hx hb dX5_firstWrong_16 (by decide) ?_
  refine lv_istore (lv' := [(4, .int 0), (0, .ref (a 11)), (1, .ref (a h)), (2, .ref (a sh2)), (3, .int p3)]) hx hb dX5_firstWrong_17 hl (by decide) rfl (fun ls hl => ?_)
  refine lv_iconst (v := 0) hx hb dX5_firstWrong_19 (by decide) ?_
  refine lv_istore (lv' := [(5, .int 0), (4, .int 0), (0, .ref (a 11)), (1, .ref (a h)), (2, .ref (a sh2)), (3, .int p3)]) hx hb dX5_firstWrong_20 hl (by decide) rfl (fun ls hl => ?_)
  refine loopN_ind (P := fun (q3 : Int32 × Int32 × PH) => ∀ (H : Heap) (locs : List Loc) (ls : Array Slot), lv_has ls 7 [(0, .ref (a 11)), (1, .ref (a h)), (2, .ref (a sh2)), (3, .int p3), (4, .int q3.1), (5, .int q3.2.1)] → va_P D vwCl (wl a cA q3.2.2 d) H → va_S A s.heap H locs → W p l e R s m args below meth c H locs 0 0 Q (F0 m 22 ls [])) ?_ _ _ hf _ _ _ (lv_sub hl [2, 3, 4, 5, 1, 0] rfl) hP hS
  intro k4 ihk4 q3 hf H locs ls hl hP hS
  unfold b_X5_firstWrong_22 at hf
  refine lv_iload hx hb dX5_firstWrong_22 (lv_at hl 5 rfl) ?_
  refine lv_iload_n hx hb dX5_firstWrong_24 rfl (lv_at hl 3 rfl) ?_
  refine lv_icmp_ge (tgt := 138) hx hb dX5_firstWrong_25 (by decide) (fun hb4 => ?_) (fun hb4 => ?_)
  · have hf := ifT hb4 hf
    refine lv_iconst (v := (-1)) hx hb dX5_firstWrong_138 (by decide) ?_
    have hf := Option.some.inj hf
    subst hf
    exact hQ _ _ _ _ dX5_firstWrong_139 hP hS
  · have hf := ifF hb4 hf
    refine lv_aload_n hx hb dX5_firstWrong_28 rfl (lv_at hl 2 rfl) ?_
    refine lv_iload hx hb dX5_firstWrong_29 (lv_at hl 5 rfl) ?_
    obtain ⟨u6, hzu6, hf⟩ := obd_some hf
    refine zz_callVi (rest := []) hx hb hml C hP hS (c_X4_asInt l hDA (sh0 := sh2) hsh2 q3.2.1 hzu6) zw_X5_40 ⟨Nat.le_trans (Nat.le_of_ble_eq_true rfl) hRf, Nat.le_trans (Nat.le_of_ble_eq_true rfl) hRl⟩ (lts0 hsh2) (lay_s0 hsh2) rfl rfl hl.1 (Nat.le_of_ble_eq_true rfl) ⟨Nat.zero_le _, Nat.zero_le _⟩ rfl dX5_firstWrong_31 (fun H locs hP hS => ?_)
    refine lv_istore (lv' := [(6, .int u6), (0, .ref (a 11)), (1, .ref (a h)), (2, .ref (a sh2)), (3, .int p3), (4, .int q3.1), (5, .int q3.2.1)]) hx hb dX5_firstWrong_34 hl (by decide) rfl (fun ls hl => ?_)
    refine lv_iload hx hb dX5_firstWrong_36 (lv_at hl 6 rfl) ?_
    refine lv_iconst (v := 1) hx hb dX5_firstWrong_38 (by decide) ?_
    refine lv_iand hx hb dX5_firstWrong_39 ?_
    refine lv_if_ne (tgt := 59) hx hb dX5_firstWrong_40 (by decide) (fun hb6 => ?_) (fun hb6 => ?_)
    · have hf := ifF hb6 hf
      refine lv_iload hx hb dX5_firstWrong_59 (lv_at hl 0 rfl) ?_
      refine lv_if_lt (tgt := 70) hx hb dX5_firstWrong_61 (by decide) (fun hb7 => ?_) (fun hb7 => ?_)
      · have hf := ifT hb7 hf
        refine lv_iload hx hb dX5_firstWrong_70 (lv_at hl 6 rfl) ?_
        have hf := Option.some.inj hf
        subst hf
        exact hQ _ _ _ _ dX5_firstWrong_72 hP hS
      · have hf := ifF hb7 hf
        refine lv_iload hx hb dX5_firstWrong_64 (lv_at hl 0 rfl) ?_
        refine lv_iconst (v := 1) hx hb dX5_firstWrong_66 (by decide) ?_
        refine lv_icmp_le (tgt := 73) hx hb dX5_firstWrong_67 (by decide) (fun hb8 => ?_) (fun hb8 => ?_)
        · have hf := ifT hb8 hf
          refine lv_aload_n hx hb dX5_firstWrong_73 rfl (lv_at hl 1 rfl) ?_
          refine lv_aload_n hx hb dX5_firstWrong_74 rfl (lv_at hl 2 rfl) ?_
          refine zg_X5_52 hx hb C hP (lth0 hh) (lay_h0 hh) rfl dX5_firstWrong_75 ?_
          refine lv_iload hx hb dX5_firstWrong_78 (lv_at hl 5 rfl) ?_
          refine lv_iload hx hb dX5_firstWrong_80 (lv_at hl 0 rfl) ?_
          refine lv_aload_n hx hb dX5_firstWrong_82 rfl (lv_at hl 1 rfl) ?_
          refine zg_X5_27 hx hb C hP (by decide) lay_11 rfl dX5_firstWrong_83 ?_
          obtain ⟨u10, hzu10, hf⟩ := obd_some hf
          refine zz_callVl (rest := [.ref (a 11)]) hx hb hml C hP hS (c_X7_lowBy l hDA (h := h) hh q3.1 u6 (gJ q3.2.2 11 4) hzu10) zw_X5_81 ⟨Nat.le_trans (Nat.le_of_ble_eq_true rfl) hRf, Nat.le_trans (Nat.le_of_ble_eq_true rfl) hRl⟩ (lth hh 7 (by decide)) (lay_h7 hh) rfl rfl hl.1 (Nat.le_of_ble_eq_true rfl) ⟨Nat.zero_le _, Nat.zero_le _⟩ rfl dX5_firstWrong_86 (fun H locs hP hS => ?_)
          refine zp_X5_27 hx hb C hP hS (by decide) lay_11 rfl dX5_firstWrong_89 (fun σ11 eσ11 H locs hP hS => ?_)
          have hf := bnd_at σ11 eσ11 hf
          refine lv_aload_n hx hb dX5_firstWrong_92 rfl (lv_at hl 1 rfl) ?_
          refine lv_aload_n hx hb dX5_firstWrong_93 rfl (lv_at hl 2 rfl) ?_
          refine zg_X5_52 hx hb C hP (lth0 hh) (lay_h0 hh) rfl dX5_firstWrong_94 ?_
          refine lv_iload hx hb dX5_firstWrong_97 (lv_at hl 5 rfl) ?_
          refine lv_iload hx hb dX5_firstWrong_99 (lv_at hl 0 rfl) ?_
          refine lv_aload_n hx hb dX5_firstWrong_101 rfl (lv_at hl 1 rfl) ?_
          refine zg_X5_31 hx hb C hP (by decide) lay_11 rfl dX5_firstWrong_102 ?_
          obtain ⟨u12, hzu12, hf⟩ := obd_some hf
          refine zz_callVl (rest := [.ref (a 11)]) hx hb hml C hP hS (c_X7_highBy l hDA (h := h) hh q3.1 u6 (gJ σ11 11 5) hzu12) zw_X5_85 ⟨Nat.le_trans (Nat.le_of_ble_eq_true rfl) hRf, Nat.le_trans (Nat.le_of_ble_eq_true rfl) hRl⟩ (lth hh 7 (by decide)) (lay_h7 hh) rfl rfl hl.1 (Nat.le_of_ble_eq_true rfl) ⟨Nat.zero_le _, Nat.zero_le _⟩ rfl dX5_firstWrong_105 (fun H locs hP hS => ?_)
          refine zp_X5_31 hx hb C hP hS (by decide) lay_11 rfl dX5_firstWrong_108 (fun σ13 eσ13 H locs hP hS => ?_)
          have hf := bnd_at σ13 eσ13 hf
          refine lv_aload_n hx hb dX5_firstWrong_111 rfl (lv_at hl 1 rfl) ?_
          refine zg_X5_27 hx hb C hP (by decide) lay_11 rfl dX5_firstWrong_112 ?_
          refine lv_lconst (v := 0) hx hb dX5_firstWrong_115 (by decide) ?_
          refine W.lcmp hx hb dX5_firstWrong_116 ?_
          refine lv_if_ne (tgt := 132) hx hb dX5_firstWrong_117 (by decide) (fun hb13 => ?_) (fun hb13 => ?_)
          · have hf := ifF hb13 hf
            obtain ⟨v15, ev15⟩ : ∃ z : Int32, z = q3.2.1 + 1 := ⟨_, rfl⟩
            have hf := bnd_at v15 ev15 hf
            refine lv_iinc (v := v15) (lv' := [(5, .int v15), (6, .int u6), (0, .ref (a 11)), (1, .ref (a h)), (2, .ref (a sh2)), (3, .int p3), (4, .int q3.1)]) hx hb dX5_firstWrong_132 hl (k := 6) rfl (by rw [ev15]; rfl) (by decide) rfl (fun ls hl => ?_)
            refine lv_goto (tgt := 22) hx hb dX5_firstWrong_135 (by decide) ?_
            exact ihk4 _ hf _ _ _ (lv_sub hl [2, 3, 4, 5, 6, 0] rfl) hP hS
          · have hf := ifT hb13 hf
            refine lv_aload_n hx hb dX5_firstWrong_120 rfl (lv_at hl 1 rfl) ?_
            refine zg_X5_31 hx hb C hP (by decide) lay_11 rfl dX5_firstWrong_121 ?_
            refine lv_lconst (v := 0) hx hb dX5_firstWrong_124 (by decide) ?_
            refine W.lcmp hx hb dX5_firstWrong_125 ?_
            refine lv_if_ne (tgt := 132) hx hb dX5_firstWrong_126 (by decide) (fun hb15 => ?_) (fun hb15 => ?_)
            · have hf := ifF hb15 hf
              obtain ⟨v17, ev17⟩ : ∃ z : Int32, z = q3.2.1 + 1 := ⟨_, rfl⟩
              have hf := bnd_at v17 ev17 hf
              refine lv_iinc (v := v17) (lv' := [(5, .int v17), (6, .int u6), (0, .ref (a 11)), (1, .ref (a h)), (2, .ref (a sh2)), (3, .int p3), (4, .int q3.1)]) hx hb dX5_firstWrong_132 hl (k := 6) rfl (by rw [ev17]; rfl) (by decide) rfl (fun ls hl => ?_)
              refine lv_goto (tgt := 22) hx hb dX5_firstWrong_135 (by decide) ?_
              exact ihk4 _ hf _ _ _ (lv_sub hl [2, 3, 4, 5, 6, 0] rfl) hP hS
            · have hf := ifT hb15 hf
              refine lv_iload hx hb dX5_firstWrong_129 (lv_at hl 6 rfl) ?_
              have hf := Option.some.inj hf
              subst hf
              exact hQ _ _ _ _ dX5_firstWrong_131 hP hS
        · have hf := ifF hb8 hf
          refine lv_iload hx hb dX5_firstWrong_70 (lv_at hl 6 rfl) ?_
          have hf := Option.some.inj hf
          subst hf
          exact hQ _ _ _ _ dX5_firstWrong_72 hP hS
    · have hf := ifT hb6 hf
      refine lv_iload hx hb dX5_firstWrong_43 (lv_at hl 0 rfl) ?_
      refine lv_istore (lv' := [(4, .int u6), (6, .int u6), (0, .ref (a 11)), (1, .ref (a h)), (2, .ref (a sh2)), (3, .int p3), (5, .int q3.2.1)]) hx hb dX5_firstWrong_45 hl (by decide) rfl (fun ls hl => ?_)
      refine lv_aload_n hx hb dX5_firstWrong_47 rfl (lv_at hl 3 rfl) ?_
      refine lv_iload hx hb dX5_firstWrong_48 (lv_at hl 0 rfl) ?_
      obtain ⟨u18, hzu18, hf⟩ := obd_some hf
      refine zz_callVi (rest := []) hx hb hml C hP hS (c_X2_allows l hDA (h := h) hh u6 hzu18) zw_X5_78 ⟨Nat.le_trans (Nat.le_of_ble_eq_true rfl) hRf, Nat.le_trans (Nat.le_of_ble_eq_true rfl) hRl⟩ (lth0 hh) (lay_h0 hh) rfl rfl hl.1 (Nat.le_of_ble_eq_true rfl) ⟨Nat.zero_le _, Nat.zero_le _⟩ rfl dX5_firstWrong_50 (fun H locs hP hS => ?_)
      refine lv_if_ne (tgt := 132) hx hb dX5_firstWrong_53 (by decide) (fun hb18 => ?_) (fun hb18 => ?_)
      · have hf := ifF hb18 hf
        obtain ⟨v20, ev20⟩ : ∃ z : Int32, z = q3.2.1 + 1 := ⟨_, rfl⟩
        have hf := bnd_at v20 ev20 hf
        refine lv_iinc (v := v20) (lv' := [(5, .int v20), (4, .int u6), (6, .int u6), (0, .ref (a 11)), (1, .ref (a h)), (2, .ref (a sh2)), (3, .int p3)]) hx hb dX5_firstWrong_132 hl (k := 6) rfl (by rw [ev20]; rfl) (by decide) rfl (fun ls hl => ?_)
        refine lv_goto (tgt := 22) hx hb dX5_firstWrong_135 (by decide) ?_
        exact ihk4 _ hf _ _ _ (lv_sub hl [3, 4, 5, 6, 1, 0] rfl) hP hS
      · have hf := ifT hb18 hf
        refine lv_iload hx hb dX5_firstWrong_56 (lv_at hl 6 rfl) ?_
        have hf := Option.some.inj hf
        subst hf
        exact hQ _ _ _ _ dX5_firstWrong_58 hP hS
set_option maxHeartbeats 4000000 in
set_option maxRecDepth 100000 in
theorem c_X5_likeliestByEar (l : Launch) {D : va_G} {a : Nat → Nat} {cA : Nat → ClassId} {A : Nat → Prop} {sa : Nat → Nat} (hDA : DA a A) {σ : PH} {d : PD} {h : Nat} (hh : isHall h) {sh2 : Nat} (hsh2 : isShelf sh2) (p3 : Int32) {u : Int32 × PH} (hf : f_X5_likeliestByEar σ h sh2 p3 = some u) : CTi l yX5_likeliestByEar cX5_likeliestByEar 13 (some .int) 4 99 D a cA A sa [.ref (a 11), .ref (a h), .ref (a sh2), .int p3] σ d u.1 u.2 d := by
  refine zz_metI zpl_X5 hDA (Nat.le_of_ble_eq_true rfl) ?_
  intro p e R s m args below meth c Q ls hx hb hml C hRf hRl hQ hP hS hl
  have hl : lv_has ls 13 [(0, .ref (a 11)), (1, .ref (a h)), (2, .ref (a sh2)), (3, .int p3)] := hl
  unfold f_X5_likeliestByEar at hf
  refine lv_aload_n hx hb dX5_likeliestByEar_0 rfl (lv_at hl 1 rfl) ?_
  refine lv_iconst (v := 3) hx hb dX5_likeliestByEar_1 (by decide) ?_
  obtain ⟨u1, hzu1, hf⟩ := obd_some hf
  refine zz_callVi (rest := []) hx hb hml C hP hS (c_X2_rule l hDA (h := h) hh 3 hzu1) zw_X5_88 ⟨Nat.le_trans (Nat.le_of_ble_eq_true rfl) hRf, Nat.le_trans (Nat.le_of_ble_eq_true rfl) hRl⟩ (lth0 hh) (lay_h0 hh) rfl rfl hl.1 (Nat.le_of_ble_eq_true rfl) ⟨Nat.zero_le _, Nat.zero_le _⟩ rfl dX5_likeliestByEar_2 (fun H locs hP hS => ?_)
  refine lv_istore (lv' := [(4, .int u1), (0, .ref (a 11)), (1, .ref (a h)), (2, .ref (a sh2)), (3, .int p3)]) hx hb dX5_likeliestByEar_5 hl (by decide) rfl (fun ls hl => ?_)
  refine lv_ldc2 (v := (-1)) hx hb C.1 (C.2.1 _ kk_X5_91) dX5_likeliestByEar_7 ?_
  refine lv_lstore (lv' := [(5, .long (-1)), (4, .int u1), (0, .ref (a 11)), (1, .ref (a h)), (2, .ref (a sh2)), (3, .int p3)]) hx hb dX5_likeliestByEar_10 hl (by decide) rfl (fun ls hl => ?_)
  refine lv_iconst (v := (-1)) hx hb dX5_likeliestByEar_12 (by decide) ?_
  refine lv_istore (lv' := [(7, .int (-1)), (5, .long (-1)), (4, .int u1), (0, .ref (a 11)), (1, .ref (a h)), (2, .ref (a sh2)), (3, .int p3)]) hx hb dX5_likeliestByEar_13 hl (by decide) rfl (fun ls hl => ?_)
  refine lv_iconst (v := 0) hx hb dX5_likeliestByEar_15 (by decide) ?_
  refine lv_istore (lv' := [(8, .int 0), (7, .int (-1)), (5, .long (-1)), (4, .int u1), (0, .ref (a 11)), (1, .ref (a h)), (2, .ref (a sh2)), (3, .int p3)]) hx hb dX5_likeliestByEar_16 hl (by decide) rfl (fun ls hl => ?_)
  refine loopN_ind (P := fun (q2 : Int64 × Int32 × Int32 × PH) => ∀ (H : Heap) (locs : List Loc) (ls : Array Slot), lv_has ls 13 [(1, .ref (a h)), (2, .ref (a sh2)), (3, .int p3), (4, .int u1), (5, .long q2.1), (7, .int q2.2.1), (8, .int q2.2.2.1)] → va_P D vwCl (wl a cA q2.2.2.2 d) H → va_S A s.heap H locs → W p l e R s m args below meth c H locs 0 0 Q (F0 m 18 ls [])) ?_ _ _ hf _ _ _ (lv_sub hl [5, 6, 7, 3, 2, 1, 0] rfl) hP hS
  intro k3 ihk3 q2 hf H locs ls hl hP hS
  unfold b_X5_likeliestByEar_18 at hf
  refine lv_iload hx hb dX5_likeliestByEar_18 (lv_at hl 6 rfl) ?_
  refine lv_aload_n hx hb dX5_likeliestByEar_20 rfl (lv_at hl 0 rfl) ?_
  refine zg_X5_52 hx hb C hP (lth0 hh) (lay_h0 hh) rfl dX5_likeliestByEar_21 ?_
  refine zg_X5_56 hx hb C hP (lth hh 7 (by decide)) (lay_h7 hh) rfl dX5_likeliestByEar_24 ?_
  refine lv_icmp_ge (tgt := 152) hx hb dX5_likeliestByEar_27 (by decide) (fun hb3 => ?_) (fun hb3 => ?_)
  · have hf := ifT hb3 hf
    refine lv_iload hx hb dX5_likeliestByEar_152 (lv_at hl 5 rfl) ?_
    have hf := Option.some.inj hf
    subst hf
    exact hQ _ _ _ _ dX5_likeliestByEar_154 hP hS
  · have hf := ifF hb3 hf
    refine lv_ldc2 (v := 10000) hx hb C.1 (C.2.1 _ kk_X5_93) dX5_likeliestByEar_30 ?_
    refine lv_aload_n hx hb dX5_likeliestByEar_33 rfl (lv_at hl 0 rfl) ?_
    refine zg_X5_52 hx hb C hP (lth0 hh) (lay_h0 hh) rfl dX5_likeliestByEar_34 ?_
    refine zg_X5_95 hx hb C hP (lth hh 7 (by decide)) (lay_h7 hh) rfl dX5_likeliestByEar_37 ?_
    refine lv_iload hx hb dX5_likeliestByEar_40 (lv_at hl 6 rfl) ?_
    obtain ⟨hc4, hf⟩ := chk_some hf
    refine zz_iald hx hb C hP (lth hh 9 (by decide)) (lay_h9 hh) (inb_vp hc4) dX5_likeliestByEar_42 ?_
    refine lv_i2l (v := (gI q2.2.2.2 (h + 9) q2.2.2.1.toNatClampNeg).toInt64) hx hb dX5_likeliestByEar_43 rfl ?_
    refine lv_lmul hx hb dX5_likeliestByEar_44 ?_
    refine lv_topl (fun v6 ev6 => ?_)
    have hf := bnd_at v6 ev6 hf
    refine lv_lstore (lv' := [(9, .long v6), (1, .ref (a h)), (2, .ref (a sh2)), (3, .int p3), (4, .int u1), (5, .long q2.1), (7, .int q2.2.1), (8, .int q2.2.2.1)]) hx hb dX5_likeliestByEar_45 hl (by decide) rfl (fun ls hl => ?_)
    refine lv_iconst (v := 0) hx hb dX5_likeliestByEar_47 (by decide) ?_
    refine lv_istore (lv' := [(11, .int 0), (9, .long v6), (1, .ref (a h)), (2, .ref (a sh2)), (3, .int p3), (4, .int u1), (5, .long q2.1), (7, .int q2.2.1), (8, .int q2.2.2.1)]) hx hb dX5_likeliestByEar_48 hl (by decide) rfl (fun ls hl => ?_)
    have hJ122 : ∀ (v7 : Int64) (σ8 : PH), j_X5_likeliestByEar_122 h q2 k3 v7 σ8 = some u → ∀ (H : Heap) (locs : List Loc) (ls : Array Slot), lv_has ls 13 [(1, .ref (a h)), (2, .ref (a sh2)), (3, .int p3), (4, .int u1), (5, .long q2.1), (7, .int q2.2.1), (8, .int q2.2.2.1), (9, .long v7)] → va_P D vwCl (wl a cA σ8 d) H → va_S A s.heap H locs → W p l e R s m args below meth c H locs 0 0 Q (F0 m 122 ls []) := by
      intro v7 σ8 hf H locs ls hl hP hS
      unfold j_X5_likeliestByEar_122 at hf
      refine lv_lload hx hb dX5_likeliestByEar_122 (lv_at hl 7 rfl) ?_
      refine lv_lload hx hb dX5_likeliestByEar_124 (lv_at hl 4 rfl) ?_
      refine W.lcmp hx hb dX5_likeliestByEar_126 ?_
      refine lv_if_le (tgt := 146) hx hb dX5_likeliestByEar_127 (by decide) (fun hb8 => ?_) (fun hb8 => ?_)
      · have hf := ifT hb8 hf
        obtain ⟨v10, ev10⟩ : ∃ z : Int32, z = q2.2.2.1 + 1 := ⟨_, rfl⟩
        have hf := bnd_at v10 ev10 hf
        refine lv_iinc (v := v10) (lv' := [(8, .int v10), (1, .ref (a h)), (2, .ref (a sh2)), (3, .int p3), (4, .int u1), (5, .long q2.1), (7, .int q2.2.1), (9, .long v7)]) hx hb dX5_likeliestByEar_146 hl (k := 6) rfl (by rw [ev10]; rfl) (by decide) rfl (fun ls hl => ?_)
        refine lv_goto (tgt := 18) hx hb dX5_likeliestByEar_149 (by decide) ?_
        exact ihk3 _ hf _ _ _ (lv_sub hl [1, 2, 3, 4, 5, 6, 0] rfl) hP hS
      · have hf := ifF hb8 hf
        refine lv_lload hx hb dX5_likeliestByEar_130 (lv_at hl 7 rfl) ?_
        refine lv_lstore (lv' := [(5, .long v7), (1, .ref (a h)), (2, .ref (a sh2)), (3, .int p3), (4, .int u1), (7, .int q2.2.1), (8, .int q2.2.2.1), (9, .long v7)]) hx hb dX5_likeliestByEar_132 hl (by decide) rfl (fun ls hl => ?_)
        refine lv_aload_n hx hb dX5_likeliestByEar_134 rfl (lv_at hl 1 rfl) ?_
        refine zg_X5_52 hx hb C hP (lth0 hh) (lay_h0 hh) rfl dX5_likeliestByEar_135 ?_
        refine zg_X5_100 hx hb C hP (lth hh 7 (by decide)) (lay_h7 hh) rfl dX5_likeliestByEar_138 ?_
        refine lv_iload hx hb dX5_likeliestByEar_141 (lv_at hl 6 rfl) ?_
        obtain ⟨hc10, hf⟩ := chk_some hf
        refine zz_iald hx hb C hP (lth hh 8 (by decide)) (lay_h8 hh) (inb_vp hc10) dX5_likeliestByEar_143 ?_
        refine lv_topi (fun v12 ev12 => ?_)
        have hf := bnd_at v12 ev12 hf
        refine lv_istore (lv' := [(7, .int v12), (5, .long v7), (1, .ref (a h)), (2, .ref (a sh2)), (3, .int p3), (4, .int u1), (8, .int q2.2.2.1), (9, .long v7)]) hx hb dX5_likeliestByEar_144 hl (by decide) rfl (fun ls hl => ?_)
        obtain ⟨v13, ev13⟩ : ∃ z : Int32, z = q2.2.2.1 + 1 := ⟨_, rfl⟩
        have hf := bnd_at v13 ev13 hf
        refine lv_iinc (v := v13) (lv' := [(8, .int v13), (7, .int v12), (5, .long v7), (1, .ref (a h)), (2, .ref (a sh2)), (3, .int p3), (4, .int u1), (9, .long v7)]) hx hb dX5_likeliestByEar_146 hl (k := 6) rfl (by rw [ev13]; rfl) (by decide) rfl (fun ls hl => ?_)
        refine lv_goto (tgt := 18) hx hb dX5_likeliestByEar_149 (by decide) ?_
        exact ihk3 _ hf _ _ _ (lv_sub hl [3, 4, 5, 6, 2, 1, 0] rfl) hP hS
    refine loopN_ind (P := fun (q14 : Int64 × Int32 × PH) => ∀ (H : Heap) (locs : List Loc) (ls : Array Slot), lv_has ls 13 [(1, .ref (a h)), (2, .ref (a sh2)), (3, .int p3), (4, .int u1), (5, .long q2.1), (7, .int q2.2.1), (8, .int q2.2.2.1), (9, .long q14.1), (11, .int q14.2.1)] → va_P D vwCl (wl a cA q14.2.2 d) H → va_S A s.heap H locs → W p l e R s m args below meth c H locs 0 0 Q (F0 m 50 ls [])) ?_ _ _ hf _ _ _ (lv_sub hl [2, 3, 4, 5, 6, 7, 8, 1, 0] rfl) hP hS
    intro k15 ihk15 q14 hf H locs ls hl hP hS
    unfold b_X5_likeliestByEar_50 at hf
    refine lv_iload hx hb dX5_likeliestByEar_50 (lv_at hl 8 rfl) ?_
    refine lv_iconst (v := 1) hx hb dX5_likeliestByEar_52 (by decide) ?_
    refine lv_iadd hx hb dX5_likeliestByEar_53 ?_
    refine lv_iload_n hx hb dX5_likeliestByEar_54 rfl (lv_at hl 2 rfl) ?_
    refine lv_icmp_ge (tgt := 122) hx hb dX5_likeliestByEar_55 (by decide) (fun hb15 => ?_) (fun hb15 => ?_)
    · have hf := ifT hb15 hf
      exact hJ122 _ _ hf _ _ _ (lv_sub hl [0, 1, 2, 3, 4, 5, 6, 7] rfl) hP hS
    · have hf := ifF hb15 hf
      refine lv_aload_n hx hb dX5_likeliestByEar_58 rfl (lv_at hl 0 rfl) ?_
      refine zg_X5_52 hx hb C hP (lth0 hh) (lay_h0 hh) rfl dX5_likeliestByEar_59 ?_
      refine lv_aload_n hx hb dX5_likeliestByEar_62 rfl (lv_at hl 1 rfl) ?_
      refine lv_iload hx hb dX5_likeliestByEar_63 (lv_at hl 8 rfl) ?_
      obtain ⟨u17, hzu17, hf⟩ := obd_some hf
      refine zz_callVi (rest := [.ref (a (h + 7))]) hx hb hml C hP hS (c_X4_asInt l hDA (sh0 := sh2) hsh2 q14.2.1 hzu17) zw_X5_40 ⟨Nat.le_trans (Nat.le_of_ble_eq_true rfl) hRf, Nat.le_trans (Nat.le_of_ble_eq_true rfl) hRl⟩ (lts0 hsh2) (lay_s0 hsh2) rfl rfl hl.1 (Nat.le_of_ble_eq_true rfl) ⟨Nat.zero_le _, Nat.zero_le _⟩ rfl dX5_likeliestByEar_65 (fun H locs hP hS => ?_)
      refine lv_iload hx hb dX5_likeliestByEar_68 (lv_at hl 6 rfl) ?_
      obtain ⟨u18, hzu18, hf⟩ := obd_some hf
      refine zz_callVi (rest := []) hx hb hml C hP hS (c_X7_soundOf l hDA (h := h) hh u17 q2.2.2.1 hzu18) zw_X5_65 ⟨Nat.le_trans (Nat.le_of_ble_eq_true rfl) hRf, Nat.le_trans (Nat.le_of_ble_eq_true rfl) hRl⟩ (lth hh 7 (by decide)) (lay_h7 hh) rfl rfl hl.1 (Nat.le_of_ble_eq_true rfl) ⟨Nat.zero_le _, Nat.zero_le _⟩ rfl dX5_likeliestByEar_70 (fun H locs hP hS => ?_)
      refine lv_aload_n hx hb dX5_likeliestByEar_73 rfl (lv_at hl 1 rfl) ?_
      refine lv_iload hx hb dX5_likeliestByEar_74 (lv_at hl 8 rfl) ?_
      refine lv_iconst (v := 1) hx hb dX5_likeliestByEar_76 (by decide) ?_
      refine lv_iadd hx hb dX5_likeliestByEar_77 ?_
      obtain ⟨u19, hzu19, hf⟩ := obd_some hf
      refine zz_callVi (rest := [.int u18.1]) hx hb hml C hP hS (c_X4_asInt l hDA (sh0 := sh2) hsh2 (q14.2.1 + 1) hzu19) zw_X5_40 ⟨Nat.le_trans (Nat.le_of_ble_eq_true rfl) hRf, Nat.le_trans (Nat.le_of_ble_eq_true rfl) hRl⟩ (lts0 hsh2) (lay_s0 hsh2) rfl rfl hl.1 (Nat.le_of_ble_eq_true rfl) ⟨Nat.zero_le _, Nat.zero_le _⟩ rfl dX5_likeliestByEar_78 (fun H locs hP hS => ?_)
      have hJ89 : ∀ (v20 : Int32), j_X5_likeliestByEar_89 u1 q14 k15 u18 v20 = some u → ∀ (H : Heap) (locs : List Loc) (ls : Array Slot), lv_has ls 13 [(1, .ref (a h)), (2, .ref (a sh2)), (3, .int p3), (4, .int u1), (5, .long q2.1), (7, .int q2.2.1), (8, .int q2.2.2.1), (9, .long q14.1), (11, .int q14.2.1)] → va_P D vwCl (wl a cA u18.2 d) H → va_S A s.heap H locs → W p l e R s m args below meth c H locs 0 0 Q (F0 m 89 ls [.int v20]) := by
        intro v20 hf H locs ls hl hP hS
        unfold j_X5_likeliestByEar_89 at hf
        refine lv_istore (lv' := [(12, .int v20), (1, .ref (a h)), (2, .ref (a sh2)), (3, .int p3), (4, .int u1), (5, .long q2.1), (7, .int q2.2.1), (8, .int q2.2.2.1), (9, .long q14.1), (11, .int q14.2.1)]) hx hb dX5_likeliestByEar_89 hl (by decide) rfl (fun ls hl => ?_)
        refine lv_lload hx hb dX5_likeliestByEar_91 (lv_at hl 8 rfl) ?_
        refine lv_iload hx hb dX5_likeliestByEar_93 (lv_at hl 0 rfl) ?_
        refine lv_if_eq (tgt := 106) hx hb dX5_likeliestByEar_95 (by decide) (fun hb20 => ?_) (fun hb20 => ?_)
        · have hf := ifT hb20 hf
          refine lv_iload hx hb dX5_likeliestByEar_106 (lv_at hl 4 rfl) ?_
          refine lv_i2l (v := u1.toInt64) hx hb dX5_likeliestByEar_108 rfl ?_
          refine lv_lmul hx hb dX5_likeliestByEar_109 ?_
          refine lv_ldc2 (v := 100) hx hb C.1 (C.2.1 _ kk_X5_98) dX5_likeliestByEar_110 ?_
          refine lv_ldiv hx hb dX5_likeliestByEar_113 (by decide) ?_
          refine lv_topl (fun v22 ev22 => ?_)
          have hf := bnd_at v22 ev22 hf
          refine lv_lstore (lv' := [(9, .long v22), (12, .int v20), (1, .ref (a h)), (2, .ref (a sh2)), (3, .int p3), (4, .int u1), (5, .long q2.1), (7, .int q2.2.1), (8, .int q2.2.2.1), (11, .int q14.2.1)]) hx hb dX5_likeliestByEar_114 hl (by decide) rfl (fun ls hl => ?_)
          obtain ⟨v23, ev23⟩ : ∃ z : Int32, z = q14.2.1 + 2 := ⟨_, rfl⟩
          have hf := bnd_at v23 ev23 hf
          refine lv_iinc (v := v23) (lv' := [(11, .int v23), (9, .long v22), (12, .int v20), (1, .ref (a h)), (2, .ref (a sh2)), (3, .int p3), (4, .int u1), (5, .long q2.1), (7, .int q2.2.1), (8, .int q2.2.2.1)]) hx hb dX5_likeliestByEar_116 hl (k := 9) rfl (by rw [ev23]; rfl) (by decide) rfl (fun ls hl => ?_)
          refine lv_goto (tgt := 50) hx hb dX5_likeliestByEar_119 (by decide) ?_
          exact ihk15 _ hf _ _ _ (lv_sub hl [3, 4, 5, 6, 7, 8, 9, 1, 0] rfl) hP hS
        · have hf := ifF hb20 hf
          refine lv_bipush (v := 100) hx hb dX5_likeliestByEar_98 (by decide) ?_
          refine lv_iload hx hb dX5_likeliestByEar_100 (lv_at hl 4 rfl) ?_
          refine lv_isub hx hb dX5_likeliestByEar_102 ?_
          refine lv_goto (tgt := 108) hx hb dX5_likeliestByEar_103 (by decide) ?_
          refine lv_i2l (v := (100 - u1).toInt64) hx hb dX5_likeliestByEar_108 rfl ?_
          refine lv_lmul hx hb dX5_likeliestByEar_109 ?_
          refine lv_ldc2 (v := 100) hx hb C.1 (C.2.1 _ kk_X5_98) dX5_likeliestByEar_110 ?_
          refine lv_ldiv hx hb dX5_likeliestByEar_113 (by decide) ?_
          refine lv_topl (fun v24 ev24 => ?_)
          have hf := bnd_at v24 ev24 hf
          refine lv_lstore (lv' := [(9, .long v24), (12, .int v20), (1, .ref (a h)), (2, .ref (a sh2)), (3, .int p3), (4, .int u1), (5, .long q2.1), (7, .int q2.2.1), (8, .int q2.2.2.1), (11, .int q14.2.1)]) hx hb dX5_likeliestByEar_114 hl (by decide) rfl (fun ls hl => ?_)
          obtain ⟨v25, ev25⟩ : ∃ z : Int32, z = q14.2.1 + 2 := ⟨_, rfl⟩
          have hf := bnd_at v25 ev25 hf
          refine lv_iinc (v := v25) (lv' := [(11, .int v25), (9, .long v24), (12, .int v20), (1, .ref (a h)), (2, .ref (a sh2)), (3, .int p3), (4, .int u1), (5, .long q2.1), (7, .int q2.2.1), (8, .int q2.2.2.1)]) hx hb dX5_likeliestByEar_116 hl (k := 9) rfl (by rw [ev25]; rfl) (by decide) rfl (fun ls hl => ?_)
          refine lv_goto (tgt := 50) hx hb dX5_likeliestByEar_119 (by decide) ?_
          exact ihk15 _ hf _ _ _ (lv_sub hl [3, 4, 5, 6, 7, 8, 9, 1, 0] rfl) hP hS
      refine lv_icmp_ne (tgt := 88) hx hb dX5_likeliestByEar_81 (by decide) (fun hb25 => ?_) (fun hb25 => ?_)
      · have hf := ifF hb25 hf
        refine lv_iconst (v := 0) hx hb dX5_likeliestByEar_88 (by decide) ?_
        exact hJ89 _ hf _ _ _ (lv_sub hl [0, 1, 2, 3, 4, 5, 6, 7, 8] rfl) hP hS
      · have hf := ifT hb25 hf
        refine lv_iconst (v := 1) hx hb dX5_likeliestByEar_84 (by decide) ?_
        refine lv_goto (tgt := 89) hx hb dX5_likeliestByEar_85 (by decide) ?_
        exact hJ89 _ hf _ _ _ (lv_sub hl [0, 1, 2, 3, 4, 5, 6, 7, 8] rfl) hP hS
set_option maxHeartbeats 4000000 in
set_option maxRecDepth 100000 in
theorem c_X6_silence (l : Launch) {D : va_G} {a : Nat → Nat} {cA : Nat → ClassId} {A : Nat → Prop} {sa : Nat → Nat} (hDA : DA a A) {σ : PH} {d : PD}  {u : PH} (hf : f_X6_silence σ = u) : CTv l yX6_silence cX6_silence 1 none 0 0 D a cA A sa [.ref (a 3)] σ d u d := by
  refine zz_metV zpl_X6 hDA (Nat.le_of_ble_eq_true rfl) ?_
  intro p e R s m args below meth c Q ls hx hb hml C hRf hRl hQ hP hS hl
  have hl : lv_has ls 1 [(0, .ref (a 3))] := hl
  unfold f_X6_silence at hf
  refine lv_aload_n hx hb dX6_silence_0 rfl (lv_at hl 0 rfl) ?_
  refine lv_iconst (v := 0) hx hb dX6_silence_1 (by decide) ?_
  refine zp_X6_15 hx hb C hP hS (by decide) lay_3 rfl dX6_silence_2 (fun σ1 eσ1 H locs hP hS => ?_)
  have hf := bnd_at σ1 eσ1 hf
  subst hf
  exact hQ _ _ _ _ dX6_silence_5 hP hS
set_option maxHeartbeats 4000000 in
set_option maxRecDepth 100000 in
theorem c_X6_traced (l : Launch) {D : va_G} {a : Nat → Nat} {cA : Nat → ClassId} {A : Nat → Prop} {sa : Nat → Nat} (hDA : DA a A) {σ : PH} {d : PD} (p1 : Int32) {u : Int32} (hf : f_X6_traced σ p1 = some u) : CTi l yX6_traced cX6_traced 2 (some .int) 0 0 D a cA A sa [.ref (a 3), .int p1] σ d u σ d := by
  refine zz_metI zpl_X6 hDA (Nat.le_of_ble_eq_true rfl) ?_
  intro p e R s m args below meth c Q ls hx hb hml C hRf hRl hQ hP hS hl
  have hl : lv_has ls 2 [(0, .ref (a 3)), (1, .int p1)] := hl
  unfold f_X6_traced at hf
  refine lv_iload_n hx hb dX6_traced_0 rfl (lv_at hl 1 rfl) ?_
  refine lv_if_lt (tgt := 27) hx hb dX6_traced_1 (by decide) (fun hb0 => ?_) (fun hb0 => ?_)
  · have hf := ifT hb0 hf
    refine lv_iconst (v := (-1)) hx hb dX6_traced_27 (by decide) ?_
    have hf := Option.some.inj hf
    subst hf
    exact hQ _ _ _ _ dX6_traced_28 hP hS
  · have hf := ifF hb0 hf
    refine lv_iload_n hx hb dX6_traced_4 rfl (lv_at hl 1 rfl) ?_
    refine lv_bipush (v := 20) hx hb dX6_traced_5 (by decide) ?_
    refine lv_icmp_ge (tgt := 27) hx hb dX6_traced_7 (by decide) (fun hb1 => ?_) (fun hb1 => ?_)
    · have hf := ifT hb1 hf
      refine lv_iconst (v := (-1)) hx hb dX6_traced_27 (by decide) ?_
      have hf := Option.some.inj hf
      subst hf
      exact hQ _ _ _ _ dX6_traced_28 hP hS
    · have hf := ifF hb1 hf
      refine lv_iload_n hx hb dX6_traced_10 rfl (lv_at hl 1 rfl) ?_
      refine lv_aload_n hx hb dX6_traced_11 rfl (lv_at hl 0 rfl) ?_
      refine zg_X6_15 hx hb C hP (by decide) lay_3 rfl dX6_traced_12 ?_
      refine lv_icmp_ge (tgt := 27) hx hb dX6_traced_15 (by decide) (fun hb2 => ?_) (fun hb2 => ?_)
      · have hf := ifT hb2 hf
        refine lv_iconst (v := (-1)) hx hb dX6_traced_27 (by decide) ?_
        have hf := Option.some.inj hf
        subst hf
        exact hQ _ _ _ _ dX6_traced_28 hP hS
      · have hf := ifF hb2 hf
        refine lv_aload_n hx hb dX6_traced_18 rfl (lv_at hl 0 rfl) ?_
        refine zg_X6_11 hx hb C hP (by decide) lay_3 rfl dX6_traced_19 ?_
        refine lv_iload_n hx hb dX6_traced_22 rfl (lv_at hl 1 rfl) ?_
        obtain ⟨hc3, hf⟩ := chk_some hf
        refine zz_iald hx hb C hP (by decide) lay_4 (inb_vp hc3) dX6_traced_23 ?_
        refine lv_goto (tgt := 28) hx hb dX6_traced_24 (by decide) ?_
        have hf := Option.some.inj hf
        subst hf
        exact hQ _ _ _ _ dX6_traced_28 hP hS
set_option maxHeartbeats 4000000 in
set_option maxRecDepth 100000 in
theorem c_X6_owner (l : Launch) {D : va_G} {a : Nat → Nat} {cA : Nat → ClassId} {A : Nat → Prop} {sa : Nat → Nat} (hDA : DA a A) {σ : PH} {d : PD} (p1 : Int32) (p2 : Int32) {u : Int32} (hf : f_X6_owner p1 p2 = some u) : CTi l yX6_owner cX6_owner 4 (some .int) 1 20 D a cA A sa [.int p1, .int p2] σ d u σ d := by
  refine zz_metI zpl_X6 hDA (Nat.le_of_ble_eq_true rfl) ?_
  intro p e R s m args below meth c Q ls hx hb hml C hRf hRl hQ hP hS hl
  have hl : lv_has ls 4 [(0, .int p1), (1, .int p2)] := hl
  unfold f_X6_owner at hf
  refine lv_iload_n hx hb dX6_owner_0 rfl (lv_at hl 0 rfl) ?_
  refine lv_istore_n (lv' := [(2, .int p1), (0, .int p1), (1, .int p2)]) hx hb dX6_owner_1 rfl hl (by decide) rfl (fun ls hl => ?_)
  refine lv_iconst (v := 0) hx hb dX6_owner_2 (by decide) ?_
  refine lv_istore_n (lv' := [(3, .int 0), (2, .int p1), (0, .int p1), (1, .int p2)]) hx hb dX6_owner_3 rfl hl (by decide) rfl (fun ls hl => ?_)
  refine loopN_ind (P := fun (q1 : Int32 × Int32) => ∀ (H : Heap) (locs : List Loc) (ls : Array Slot), lv_has ls 4 [(1, .int p2), (2, .int q1.1), (3, .int q1.2)] → va_P D vwCl (wl a cA σ d) H → va_S A s.heap H locs → W p l e R s m args below meth c H locs 0 0 Q (F0 m 4 ls [])) ?_ _ _ hf _ _ _ (lv_sub hl [3, 1, 0] rfl) hP hS
  intro k2 ihk2 q1 hf H locs ls hl hP hS
  unfold b_X6_owner_4 at hf
  refine lv_iload_n hx hb dX6_owner_4 rfl (lv_at hl 2 rfl) ?_
  refine zz_sget hx hb C hS C.2.2.2.1.1 kf_X6_44 dX6_owner_5 ?_
  refine zz_slen (v := 7) hx hb hS C.2.2.2.1.1 (by decide) dX6_owner_8 ?_
  refine lv_icmp_ge (tgt := 45) hx hb dX6_owner_9 (by decide) (fun hb2 => ?_) (fun hb2 => ?_)
  · have hf := ifT hb2 hf
    refine lv_iconst (v := (-1)) hx hb dX6_owner_45 (by decide) ?_
    have hf := Option.some.inj hf
    subst hf
    exact hQ _ _ _ _ dX6_owner_46 hP hS
  · have hf := ifF hb2 hf
    refine lv_iload_n hx hb dX6_owner_12 rfl (lv_at hl 1 rfl) ?_
    obtain ⟨u4, hzu4⟩ : ∃ z, z = f_X0_isKind q1.1 := ⟨_, rfl⟩
    have hf := bnd_at u4 hzu4 hf
    refine zz_callSi (rest := []) hx hb hml C hP hS (c_X0_isKind l hDA q1.1 hzu4.symm) zw_X6_47 ⟨Nat.le_trans (Nat.le_of_ble_eq_true rfl) hRf, Nat.le_trans (Nat.le_of_ble_eq_true rfl) hRl⟩  rfl hl.1 (Nat.le_of_ble_eq_true rfl) ⟨Nat.zero_le _, Nat.zero_le _⟩ rfl dX6_owner_13 (fun H locs hP hS => ?_)
    refine lv_if_eq (tgt := 45) hx hb dX6_owner_16 (by decide) (fun hb4 => ?_) (fun hb4 => ?_)
    · have hf := ifT hb4 hf
      refine lv_iconst (v := (-1)) hx hb dX6_owner_45 (by decide) ?_
      have hf := Option.some.inj hf
      subst hf
      exact hQ _ _ _ _ dX6_owner_46 hP hS
    · have hf := ifF hb4 hf
      refine zz_sget hx hb C hS C.2.2.2.1.2.2.2.2.1 kf_X6_50 dX6_owner_19 ?_
      refine lv_iconst (v := 3) hx hb dX6_owner_22 (by decide) ?_
      refine lv_iload_n hx hb dX6_owner_23 rfl (lv_at hl 1 rfl) ?_
      refine lv_imul hx hb dX6_owner_24 ?_
      refine lv_iload_n hx hb dX6_owner_25 rfl (lv_at hl 0 rfl) ?_
      refine lv_iadd hx hb dX6_owner_26 ?_
      obtain ⟨hc5, hf⟩ := chk_some hf
      refine zz_sald hx hb hS C.2.2.2.1.2.2.2.2.1 (inb_vp hc5) dX6_owner_27 ?_
      refine lv_if_eq (tgt := 33) hx hb dX6_owner_28 (by decide) (fun hb6 => ?_) (fun hb6 => ?_)
      · have hf := ifT hb6 hf
        refine zz_sget hx hb C hS C.2.2.2.1.1 kf_X6_44 dX6_owner_33 ?_
        refine lv_iload_n hx hb dX6_owner_36 rfl (lv_at hl 1 rfl) ?_
        obtain ⟨hc7, hf⟩ := chk_some hf
        refine zz_sald hx hb hS C.2.2.2.1.1 (inb_vp hc7) dX6_owner_37 ?_
        refine lv_topi (fun v9 ev9 => ?_)
        have hf := bnd_at v9 ev9 hf
        refine lv_istore_n (lv' := [(2, .int v9), (1, .int p2), (3, .int q1.2)]) hx hb dX6_owner_38 rfl hl (by decide) rfl (fun ls hl => ?_)
        obtain ⟨v10, ev10⟩ : ∃ z : Int32, z = q1.2 + 1 := ⟨_, rfl⟩
        have hf := bnd_at v10 ev10 hf
        refine lv_iinc (v := v10) (lv' := [(3, .int v10), (2, .int v9), (1, .int p2)]) hx hb dX6_owner_39 hl (k := 2) rfl (by rw [ev10]; rfl) (by decide) rfl (fun ls hl => ?_)
        refine lv_goto (tgt := 4) hx hb dX6_owner_42 (by decide) ?_
        exact ihk2 _ hf _ _ _ (lv_sub hl [2, 1, 0] rfl) hP hS
      · have hf := ifF hb6 hf
        refine lv_iload_n hx hb dX6_owner_31 rfl (lv_at hl 1 rfl) ?_
        have hf := Option.some.inj hf
        subst hf
        exact hQ _ _ _ _ dX6_owner_32 hP hS
set_option maxHeartbeats 4000000 in
set_option maxRecDepth 100000 in
theorem c_X6_note (l : Launch) {D : va_G} {a : Nat → Nat} {cA : Nat → ClassId} {A : Nat → Prop} {sa : Nat → Nat} (hDA : DA a A) {σ : PH} {d : PD} (p1 : Int32) {u : PH} (hf : f_X6_note σ p1 = some u) : CTv l yX6_note cX6_note 2 none 0 0 D a cA A sa [.ref (a 3), .int p1] σ d u d := by
  refine zz_metV zpl_X6 hDA (Nat.le_of_ble_eq_true rfl) ?_
  intro p e R s m args below meth c Q ls hx hb hml C hRf hRl hQ hP hS hl
  have hl : lv_has ls 2 [(0, .ref (a 3)), (1, .int p1)] := hl
  unfold f_X6_note at hf
  refine lv_aload_n hx hb dX6_note_0 rfl (lv_at hl 0 rfl) ?_
  refine zg_X6_15 hx hb C hP (by decide) lay_3 rfl dX6_note_1 ?_
  refine lv_bipush (v := 20) hx hb dX6_note_4 (by decide) ?_
  refine lv_icmp_ge (tgt := 19) hx hb dX6_note_6 (by decide) (fun hb0 => ?_) (fun hb0 => ?_)
  · have hf := ifT hb0 hf
    refine lv_aload_n hx hb dX6_note_19 rfl (lv_at hl 0 rfl) ?_
    refine lv_dup hx hb dX6_note_20 rfl ?_
    refine zg_X6_15 hx hb C hP (by decide) lay_3 rfl dX6_note_21 ?_
    refine lv_iconst (v := 1) hx hb dX6_note_24 (by decide) ?_
    refine lv_iadd hx hb dX6_note_25 ?_
    refine zp_X6_15 hx hb C hP hS (by decide) lay_3 rfl dX6_note_26 (fun σ2 eσ2 H locs hP hS => ?_)
    have hf := bnd_at σ2 eσ2 hf
    have hf := Option.some.inj hf
    subst hf
    exact hQ _ _ _ _ dX6_note_29 hP hS
  · have hf := ifF hb0 hf
    refine lv_aload_n hx hb dX6_note_9 rfl (lv_at hl 0 rfl) ?_
    refine zg_X6_11 hx hb C hP (by decide) lay_3 rfl dX6_note_10 ?_
    refine lv_aload_n hx hb dX6_note_13 rfl (lv_at hl 0 rfl) ?_
    refine zg_X6_15 hx hb C hP (by decide) lay_3 rfl dX6_note_14 ?_
    refine lv_iload_n hx hb dX6_note_17 rfl (lv_at hl 1 rfl) ?_
    obtain ⟨hc2, hf⟩ := chk_some hf
    refine zz_iast hx hb C hP hS (by decide) lay_4 (inb_vp hc2) dX6_note_18 (fun σ4 eσ4 H locs hP hS => ?_)
    have hf := bnd_at σ4 eσ4 hf
    refine lv_aload_n hx hb dX6_note_19 rfl (lv_at hl 0 rfl) ?_
    refine lv_dup hx hb dX6_note_20 rfl ?_
    refine zg_X6_15 hx hb C hP (by decide) lay_3 rfl dX6_note_21 ?_
    refine lv_iconst (v := 1) hx hb dX6_note_24 (by decide) ?_
    refine lv_iadd hx hb dX6_note_25 ?_
    refine zp_X6_15 hx hb C hP hS (by decide) lay_3 rfl dX6_note_26 (fun σ5 eσ5 H locs hP hS => ?_)
    have hf := bnd_at σ5 eσ5 hf
    have hf := Option.some.inj hf
    subst hf
    exact hQ _ _ _ _ dX6_note_29 hP hS
set_option maxHeartbeats 4000000 in
set_option maxRecDepth 100000 in
theorem c_X6_run (l : Launch) {D : va_G} {a : Nat → Nat} {cA : Nat → ClassId} {A : Nat → Prop} {sa : Nat → Nat} (hDA : DA a A) : ∀ (n : Nat) {σ : PH} {d : PD} (p2 : Int32) (p3 : Int32) (p4 : Int32) (p5 : Int32) {u : Int32 × PH}, f_X6_run n σ p2 p3 p4 p5 = some u → CTi l yX6_run cX6_run 9 (some .int) (2 + n) (43 + n * 28) D a cA A sa [.ref (a 3), .int p2, .int p3, .int p4, .int p5] σ d u.1 u.2 d := by
  intro n
  induction n with
  | zero => intro σ d p2 p3 p4 p5 u hf; cases hf
  | succ n ih =>
    intro σ d p2 p3 p4 p5 u hf
    have hf : g_X6_run (f_X6_run n) σ p2 p3 p4 p5 = some u := hf
    have ih : ∀ {σ : PH} {d : PD} (p2 : Int32) (p3 : Int32) (p4 : Int32) (p5 : Int32) {u : Int32 × PH}, f_X6_run n σ p2 p3 p4 p5 = some u → CTi l yX6_run cX6_run 9 (some .int) (2 + n) (43 + n * 28) D a cA A sa [.ref (a 3), .int p2, .int p3, .int p4, .int p5] σ d u.1 u.2 d := ih
    generalize f_X6_run n = rc at hf ih
    refine zz_metI zpl_X6 hDA (Nat.le_of_ble_eq_true rfl) ?_
    intro p e R s m args below meth c Q ls hx hb hml C hRf hRl hQ hP hS hl
    have hl : lv_has ls 9 [(0, .ref (a 3)), (1, .int p2), (2, .int p3), (3, .int p4), (4, .int p5)] := hl
    unfold g_X6_run at hf
    refine lv_iload_n hx hb dX6_run_0 rfl (lv_at hl 1 rfl) ?_
    refine lv_iload_n hx hb dX6_run_1 rfl (lv_at hl 2 rfl) ?_
    obtain ⟨u1, hzu1, hf⟩ := obd_some hf
    refine zz_callSi (rest := []) hx hb hml C hP hS (c_X6_owner l hDA p2 p3 hzu1) zw_X6_53 ⟨Nat.le_trans (Nat.le_of_ble_eq_true rfl) (Nat.le_trans (Nat.le_add_right _ _) hRf), Nat.le_trans (Nat.le_of_ble_eq_true rfl) (Nat.le_trans (Nat.le_add_right _ _) hRl)⟩  rfl hl.1 (Nat.le_of_ble_eq_true rfl) ⟨Nat.zero_le _, Nat.zero_le _⟩ rfl dX6_run_2 (fun H locs hP hS => ?_)
    refine lv_istore (lv' := [(5, .int u1), (0, .ref (a 3)), (1, .int p2), (2, .int p3), (3, .int p4), (4, .int p5)]) hx hb dX6_run_5 hl (by decide) rfl (fun ls hl => ?_)
    refine lv_iload hx hb dX6_run_7 (lv_at hl 0 rfl) ?_
    refine lv_iconst (v := (-1)) hx hb dX6_run_9 (by decide) ?_
    refine lv_icmp_eq (tgt := 20) hx hb dX6_run_10 (by decide) (fun hb1 => ?_) (fun hb1 => ?_)
    · have hf := ifT hb1 hf
      refine lv_iconst (v := 0) hx hb dX6_run_20 (by decide) ?_
      have hf := Option.some.inj hf
      subst hf
      exact hQ _ _ _ _ dX6_run_21 hP hS
    · have hf := ifF hb1 hf
      refine lv_iload hx hb dX6_run_13 (lv_at hl 5 rfl) ?_
      refine lv_bipush (v := 20) hx hb dX6_run_15 (by decide) ?_
      refine lv_icmp_lt (tgt := 22) hx hb dX6_run_17 (by decide) (fun hb2 => ?_) (fun hb2 => ?_)
      · have hf := ifT hb2 hf
        refine zz_sget hx hb C hS C.2.2.2.1.2.2.2.2.1 kf_X6_50 dX6_run_22 ?_
        refine lv_iconst (v := 3) hx hb dX6_run_25 (by decide) ?_
        refine lv_iload hx hb dX6_run_26 (lv_at hl 0 rfl) ?_
        refine lv_imul hx hb dX6_run_28 ?_
        refine lv_iload_n hx hb dX6_run_29 rfl (lv_at hl 3 rfl) ?_
        refine lv_iadd hx hb dX6_run_30 ?_
        obtain ⟨hc3, hf⟩ := chk_some hf
        refine zz_sald hx hb hS C.2.2.2.1.2.2.2.2.1 (inb_vp hc3) dX6_run_31 ?_
        refine lv_topi (fun v5 ev5 => ?_)
        have hf := bnd_at v5 ev5 hf
        refine lv_istore (lv' := [(6, .int v5), (5, .int u1), (0, .ref (a 3)), (1, .int p2), (2, .int p3), (3, .int p4), (4, .int p5)]) hx hb dX6_run_32 hl (by decide) rfl (fun ls hl => ?_)
        refine zz_sget hx hb C hS C.2.2.2.1.1 kf_X6_44 dX6_run_34 ?_
        refine lv_iload hx hb dX6_run_37 (lv_at hl 1 rfl) ?_
        obtain ⟨hc5, hf⟩ := chk_some hf
        refine zz_sald hx hb hS C.2.2.2.1.1 (inb_vp hc5) dX6_run_39 ?_
        refine lv_topi (fun v7 ev7 => ?_)
        have hf := bnd_at v7 ev7 hf
        refine lv_istore (lv' := [(7, .int v7), (6, .int v5), (5, .int u1), (0, .ref (a 3)), (1, .int p2), (2, .int p3), (3, .int p4), (4, .int p5)]) hx hb dX6_run_40 hl (by decide) rfl (fun ls hl => ?_)
        refine lv_iload hx hb dX6_run_42 (lv_at hl 7 rfl) ?_
        refine lv_iconst (v := 1) hx hb dX6_run_44 (by decide) ?_
        refine lv_iadd hx hb dX6_run_45 ?_
        refine lv_topi (fun v8 ev8 => ?_)
        have hf := bnd_at v8 ev8 hf
        refine lv_istore (lv' := [(8, .int v8), (7, .int v7), (6, .int v5), (5, .int u1), (0, .ref (a 3)), (1, .int p2), (2, .int p3), (3, .int p4), (4, .int p5)]) hx hb dX6_run_46 hl (by decide) rfl (fun ls hl => ?_)
        refine lv_aload_n hx hb dX6_run_48 rfl (lv_at hl 4 rfl) ?_
        refine lv_iload hx hb dX6_run_49 (lv_at hl 2 rfl) ?_
        obtain ⟨u9, hzu9, hf⟩ := obd_some hf
        refine zz_callVv (rest := []) hx hb hml C hP hS (c_X6_note l hDA v5 hzu9) zw_X6_57 ⟨Nat.le_trans (Nat.le_of_ble_eq_true rfl) (Nat.le_trans (Nat.le_add_right _ _) hRf), Nat.le_trans (Nat.le_of_ble_eq_true rfl) (Nat.le_trans (Nat.le_add_right _ _) hRl)⟩ (by decide) lay_3 rfl rfl hl.1 (Nat.le_of_ble_eq_true rfl) ⟨Nat.zero_le _, Nat.zero_le _⟩ rfl dX6_run_51 (fun H locs hP hS => ?_)
        refine lv_iload hx hb dX6_run_54 (lv_at hl 2 rfl) ?_
        by_cases hb9 : v5 = 10
        · have hf := ifT hb9 hf
          refine lv_lookup (off := 92) (tgt := 148) hx hb dX6_run_56 (by decide) (by rw [hb9]; decide) (by decide) ?_
          refine lv_iload_n hx hb dX6_run_148 rfl (lv_at hl 7 rfl) ?_
          refine lv_aload_n hx hb dX6_run_149 rfl (lv_at hl 4 rfl) ?_
          refine zg_X6_22 hx hb C hP (by decide) lay_3 rfl dX6_run_150 ?_
          refine lv_iadd hx hb dX6_run_153 ?_
          have hf := Option.some.inj hf
          subst hf
          exact hQ _ _ _ _ dX6_run_154 hP hS
        have hf := ifF hb9 hf
        by_cases hb10 : v5 = 11
        · have hf := ifT hb10 hf
          refine lv_lookup (off := 99) (tgt := 155) hx hb dX6_run_56 (by decide) (by rw [hb10]; decide) (by decide) ?_
          refine lv_aload_n hx hb dX6_run_155 rfl (lv_at hl 4 rfl) ?_
          refine lv_aload_n hx hb dX6_run_156 rfl (lv_at hl 4 rfl) ?_
          refine zg_X6_19 hx hb C hP (by decide) lay_3 rfl dX6_run_157 ?_
          refine lv_iconst (v := 0) hx hb dX6_run_160 (by decide) ?_
          refine lv_iload_n hx hb dX6_run_161 rfl (lv_at hl 7 rfl) ?_
          refine lv_iload hx hb dX6_run_162 (lv_at hl 0 rfl) ?_
          obtain ⟨u12, hzu12, hf⟩ := obd_some hf
          refine zz_callSi (rest := []) hx hb hml C hP hS (ih (gI u9 3 2) 0 p4 v8 hzu12) zw_X6_40 ⟨Nat.le_trans (by omega) hRf, Nat.le_trans (by omega) hRl⟩  rfl hl.1 (Nat.le_of_ble_eq_true rfl) ⟨Nat.zero_le _, Nat.zero_le _⟩ rfl dX6_run_164 (fun H locs hP hS => ?_)
          refine lv_iconst (v := 2) hx hb dX6_run_167 (by decide) ?_
          refine lv_imul hx hb dX6_run_168 ?_
          have hf := Option.some.inj hf
          subst hf
          exact hQ _ _ _ _ dX6_run_169 hP hS
        have hf := ifF hb10 hf
        by_cases hb12 : v5 = 12
        · have hf := ifT hb12 hf
          refine lv_lookup (off := 114) (tgt := 170) hx hb dX6_run_56 (by decide) (by rw [hb12]; decide) (by decide) ?_
          refine lv_aload_n hx hb dX6_run_170 rfl (lv_at hl 4 rfl) ?_
          refine lv_aload_n hx hb dX6_run_171 rfl (lv_at hl 4 rfl) ?_
          refine zg_X6_19 hx hb C hP (by decide) lay_3 rfl dX6_run_172 ?_
          refine lv_iconst (v := 1) hx hb dX6_run_175 (by decide) ?_
          refine lv_iload_n hx hb dX6_run_176 rfl (lv_at hl 7 rfl) ?_
          refine lv_iload hx hb dX6_run_177 (lv_at hl 0 rfl) ?_
          obtain ⟨u14, hzu14, hf⟩ := obd_some hf
          refine zz_callSi (rest := []) hx hb hml C hP hS (ih (gI u9 3 2) 1 p4 v8 hzu14) zw_X6_40 ⟨Nat.le_trans (by omega) hRf, Nat.le_trans (by omega) hRl⟩  rfl hl.1 (Nat.le_of_ble_eq_true rfl) ⟨Nat.zero_le _, Nat.zero_le _⟩ rfl dX6_run_179 (fun H locs hP hS => ?_)
          refine lv_aload_n hx hb dX6_run_182 rfl (lv_at hl 4 rfl) ?_
          refine lv_aload_n hx hb dX6_run_183 rfl (lv_at hl 4 rfl) ?_
          refine zg_X6_19 hx hb C hP (by decide) lay_3 rfl dX6_run_184 ?_
          refine lv_iconst (v := 0) hx hb dX6_run_187 (by decide) ?_
          refine lv_iload_n hx hb dX6_run_188 rfl (lv_at hl 7 rfl) ?_
          refine lv_aload_n hx hb dX6_run_189 rfl (lv_at hl 4 rfl) ?_
          refine zg_X6_25 hx hb C hP (by decide) lay_3 rfl dX6_run_190 ?_
          refine lv_isub hx hb dX6_run_193 ?_
          refine lv_iload hx hb dX6_run_194 (lv_at hl 0 rfl) ?_
          obtain ⟨u15, hzu15, hf⟩ := obd_some hf
          refine zz_callSi (rest := [.int u14.1]) hx hb hml C hP hS (ih (gI u14.2 3 2) 0 (p4 - (gI u14.2 3 4)) v8 hzu15) zw_X6_40 ⟨Nat.le_trans (by omega) hRf, Nat.le_trans (by omega) hRl⟩  rfl hl.1 (Nat.le_of_ble_eq_true rfl) ⟨Nat.zero_le _, Nat.zero_le _⟩ rfl dX6_run_196 (fun H locs hP hS => ?_)
          refine lv_ixor hx hb dX6_run_199 ?_
          have hf := Option.some.inj hf
          subst hf
          exact hQ _ _ _ _ dX6_run_200 hP hS
        have hf := ifF hb12 hf
        by_cases hb15 : v5 = 20
        · have hf := ifT hb15 hf
          refine lv_lookup (off := 145) (tgt := 201) hx hb dX6_run_56 (by decide) (by rw [hb15]; decide) (by decide) ?_
          refine lv_aload_n hx hb dX6_run_201 rfl (lv_at hl 4 rfl) ?_
          refine lv_iload hx hb dX6_run_202 (lv_at hl 1 rfl) ?_
          refine lv_iconst (v := 0) hx hb dX6_run_204 (by decide) ?_
          refine lv_iload_n hx hb dX6_run_205 rfl (lv_at hl 7 rfl) ?_
          refine lv_iload hx hb dX6_run_206 (lv_at hl 0 rfl) ?_
          obtain ⟨u17, hzu17, hf⟩ := obd_some hf
          refine zz_callSi (rest := []) hx hb hml C hP hS (ih v7 0 p4 v8 hzu17) zw_X6_40 ⟨Nat.le_trans (by omega) hRf, Nat.le_trans (by omega) hRl⟩  rfl hl.1 (Nat.le_of_ble_eq_true rfl) ⟨Nat.zero_le _, Nat.zero_le _⟩ rfl dX6_run_208 (fun H locs hP hS => ?_)
          refine lv_aload_n hx hb dX6_run_211 rfl (lv_at hl 4 rfl) ?_
          refine zg_X6_25 hx hb C hP (by decide) lay_3 rfl dX6_run_212 ?_
          refine lv_iadd hx hb dX6_run_215 ?_
          have hf := Option.some.inj hf
          subst hf
          exact hQ _ _ _ _ dX6_run_216 hP hS
        have hf := ifF hb15 hf
        by_cases hb17 : v5 = 30
        · have hf := ifT hb17 hf
          refine lv_lookup (off := 161) (tgt := 217) hx hb dX6_run_56 (by decide) (by rw [hb17]; decide) (by decide) ?_
          refine lv_aload_n hx hb dX6_run_217 rfl (lv_at hl 4 rfl) ?_
          refine lv_iload hx hb dX6_run_218 (lv_at hl 1 rfl) ?_
          refine lv_iconst (v := 1) hx hb dX6_run_220 (by decide) ?_
          refine lv_iload_n hx hb dX6_run_221 rfl (lv_at hl 7 rfl) ?_
          refine lv_iload hx hb dX6_run_222 (lv_at hl 0 rfl) ?_
          obtain ⟨u19, hzu19, hf⟩ := obd_some hf
          refine zz_callSi (rest := []) hx hb hml C hP hS (ih v7 1 p4 v8 hzu19) zw_X6_40 ⟨Nat.le_trans (by omega) hRf, Nat.le_trans (by omega) hRl⟩  rfl hl.1 (Nat.le_of_ble_eq_true rfl) ⟨Nat.zero_le _, Nat.zero_le _⟩ rfl dX6_run_224 (fun H locs hP hS => ?_)
          refine lv_iconst (v := 3) hx hb dX6_run_227 (by decide) ?_
          refine lv_imul hx hb dX6_run_228 ?_
          have hf := Option.some.inj hf
          subst hf
          exact hQ _ _ _ _ dX6_run_229 hP hS
        have hf := ifF hb17 hf
        by_cases hb19 : v5 = 40
        · have hf := ifT hb19 hf
          refine lv_lookup (off := 174) (tgt := 230) hx hb dX6_run_56 (by decide) (by rw [hb19]; decide) (by decide) ?_
          refine lv_aload_n hx hb dX6_run_230 rfl (lv_at hl 4 rfl) ?_
          refine lv_iload hx hb dX6_run_231 (lv_at hl 1 rfl) ?_
          refine lv_iconst (v := 1) hx hb dX6_run_233 (by decide) ?_
          refine lv_iload_n hx hb dX6_run_234 rfl (lv_at hl 7 rfl) ?_
          refine lv_iconst (v := 1) hx hb dX6_run_235 (by decide) ?_
          refine lv_iadd hx hb dX6_run_236 ?_
          refine lv_iload hx hb dX6_run_237 (lv_at hl 0 rfl) ?_
          obtain ⟨u21, hzu21, hf⟩ := obd_some hf
          refine zz_callSi (rest := []) hx hb hml C hP hS (ih v7 1 (p4 + 1) v8 hzu21) zw_X6_40 ⟨Nat.le_trans (by omega) hRf, Nat.le_trans (by omega) hRl⟩  rfl hl.1 (Nat.le_of_ble_eq_true rfl) ⟨Nat.zero_le _, Nat.zero_le _⟩ rfl dX6_run_239 (fun H locs hP hS => ?_)
          have hf := Option.some.inj hf
          subst hf
          exact hQ _ _ _ _ dX6_run_242 hP hS
        have hf := ifF hb19 hf
        by_cases hb21 : v5 = 50
        · have hf := ifT hb21 hf
          refine lv_lookup (off := 187) (tgt := 243) hx hb dX6_run_56 (by decide) (by rw [hb21]; decide) (by decide) ?_
          refine lv_aload_n hx hb dX6_run_243 rfl (lv_at hl 4 rfl) ?_
          refine lv_iload hx hb dX6_run_244 (lv_at hl 1 rfl) ?_
          refine lv_iconst (v := 2) hx hb dX6_run_246 (by decide) ?_
          refine lv_iload_n hx hb dX6_run_247 rfl (lv_at hl 7 rfl) ?_
          refine lv_iload hx hb dX6_run_248 (lv_at hl 0 rfl) ?_
          obtain ⟨u23, hzu23, hf⟩ := obd_some hf
          refine zz_callSi (rest := []) hx hb hml C hP hS (ih v7 2 p4 v8 hzu23) zw_X6_40 ⟨Nat.le_trans (by omega) hRf, Nat.le_trans (by omega) hRl⟩  rfl hl.1 (Nat.le_of_ble_eq_true rfl) ⟨Nat.zero_le _, Nat.zero_le _⟩ rfl dX6_run_250 (fun H locs hP hS => ?_)
          refine lv_ineg hx hb dX6_run_253 ?_
          have hf := Option.some.inj hf
          subst hf
          exact hQ _ _ _ _ dX6_run_254 hP hS
        have hf := ifF hb21 hf
        by_cases hb23 : v5 = 51
        · have hf := ifT hb23 hf
          refine lv_lookup (off := 199) (tgt := 255) hx hb dX6_run_56 (by decide) (by rw [hb23]; decide) (by decide) ?_
          refine lv_aload_n hx hb dX6_run_255 rfl (lv_at hl 4 rfl) ?_
          refine lv_iload hx hb dX6_run_256 (lv_at hl 1 rfl) ?_
          refine lv_iconst (v := 0) hx hb dX6_run_258 (by decide) ?_
          refine lv_iload_n hx hb dX6_run_259 rfl (lv_at hl 7 rfl) ?_
          refine lv_iload hx hb dX6_run_260 (lv_at hl 0 rfl) ?_
          obtain ⟨u25, hzu25, hf⟩ := obd_some hf
          refine zz_callSi (rest := []) hx hb hml C hP hS (ih v7 0 p4 v8 hzu25) zw_X6_40 ⟨Nat.le_trans (by omega) hRf, Nat.le_trans (by omega) hRl⟩  rfl hl.1 (Nat.le_of_ble_eq_true rfl) ⟨Nat.zero_le _, Nat.zero_le _⟩ rfl dX6_run_262 (fun H locs hP hS => ?_)
          refine lv_aload_n hx hb dX6_run_265 rfl (lv_at hl 4 rfl) ?_
          refine zg_X6_22 hx hb C hP (by decide) lay_3 rfl dX6_run_266 ?_
          refine lv_isub hx hb dX6_run_269 ?_
          have hf := Option.some.inj hf
          subst hf
          exact hQ _ _ _ _ dX6_run_270 hP hS
        have hf := ifF hb23 hf
        by_cases hb25 : v5 = 60
        · have hf := ifT hb25 hf
          refine lv_lookup (off := 215) (tgt := 271) hx hb dX6_run_56 (by decide) (by rw [hb25]; decide) (by decide) ?_
          refine lv_aload_n hx hb dX6_run_271 rfl (lv_at hl 4 rfl) ?_
          refine lv_iload hx hb dX6_run_272 (lv_at hl 1 rfl) ?_
          refine lv_iconst (v := 2) hx hb dX6_run_274 (by decide) ?_
          refine lv_iload_n hx hb dX6_run_275 rfl (lv_at hl 7 rfl) ?_
          refine lv_iload hx hb dX6_run_276 (lv_at hl 0 rfl) ?_
          obtain ⟨u27, hzu27, hf⟩ := obd_some hf
          refine zz_callSi (rest := []) hx hb hml C hP hS (ih v7 2 p4 v8 hzu27) zw_X6_40 ⟨Nat.le_trans (by omega) hRf, Nat.le_trans (by omega) hRl⟩  rfl hl.1 (Nat.le_of_ble_eq_true rfl) ⟨Nat.zero_le _, Nat.zero_le _⟩ rfl dX6_run_278 (fun H locs hP hS => ?_)
          refine lv_iconst (v := 5) hx hb dX6_run_281 (by decide) ?_
          refine lv_ixor hx hb dX6_run_282 ?_
          have hf := Option.some.inj hf
          subst hf
          exact hQ _ _ _ _ dX6_run_283 hP hS
        have hf := ifF hb25 hf
        by_cases hb27 : v5 = 70
        · have hf := ifT hb27 hf
          refine lv_lookup (off := 228) (tgt := 284) hx hb dX6_run_56 (by decide) (by rw [hb27]; decide) (by decide) ?_
          refine lv_aload_n hx hb dX6_run_284 rfl (lv_at hl 4 rfl) ?_
          refine lv_iload hx hb dX6_run_285 (lv_at hl 1 rfl) ?_
          refine lv_iconst (v := 0) hx hb dX6_run_287 (by decide) ?_
          refine lv_iload_n hx hb dX6_run_288 rfl (lv_at hl 7 rfl) ?_
          refine lv_iload hx hb dX6_run_289 (lv_at hl 0 rfl) ?_
          obtain ⟨u29, hzu29, hf⟩ := obd_some hf
          refine zz_callSi (rest := []) hx hb hml C hP hS (ih v7 0 p4 v8 hzu29) zw_X6_40 ⟨Nat.le_trans (by omega) hRf, Nat.le_trans (by omega) hRl⟩  rfl hl.1 (Nat.le_of_ble_eq_true rfl) ⟨Nat.zero_le _, Nat.zero_le _⟩ rfl dX6_run_291 (fun H locs hP hS => ?_)
          refine lv_iconst (v := 2) hx hb dX6_run_294 (by decide) ?_
          refine lv_imul hx hb dX6_run_295 ?_
          have hf := Option.some.inj hf
          subst hf
          exact hQ _ _ _ _ dX6_run_296 hP hS
        have hf := ifF hb27 hf
        refine lv_lookup (off := 241) (tgt := 297) hx hb dX6_run_56 (by decide) (lks_10_11_12_20_30_40_50_51_60_70 hb9 hb10 hb12 hb15 hb17 hb19 hb21 hb23 hb25 hb27) (by decide) ?_
        refine lv_aload_n hx hb dX6_run_297 rfl (lv_at hl 4 rfl) ?_
        refine lv_iload hx hb dX6_run_298 (lv_at hl 1 rfl) ?_
        refine lv_iconst (v := 1) hx hb dX6_run_300 (by decide) ?_
        refine lv_iload_n hx hb dX6_run_301 rfl (lv_at hl 7 rfl) ?_
        refine lv_aload_n hx hb dX6_run_302 rfl (lv_at hl 4 rfl) ?_
        refine zg_X6_25 hx hb C hP (by decide) lay_3 rfl dX6_run_303 ?_
        refine lv_isub hx hb dX6_run_306 ?_
        refine lv_iload hx hb dX6_run_307 (lv_at hl 0 rfl) ?_
        obtain ⟨u30, hzu30, hf⟩ := obd_some hf
        refine zz_callSi (rest := []) hx hb hml C hP hS (ih v7 1 (p4 - (gI u9 3 4)) v8 hzu30) zw_X6_40 ⟨Nat.le_trans (by omega) hRf, Nat.le_trans (by omega) hRl⟩  rfl hl.1 (Nat.le_of_ble_eq_true rfl) ⟨Nat.zero_le _, Nat.zero_le _⟩ rfl dX6_run_309 (fun H locs hP hS => ?_)
        have hf := Option.some.inj hf
        subst hf
        exact hQ _ _ _ _ dX6_run_312 hP hS
      · have hf := ifF hb2 hf
        refine lv_iconst (v := 0) hx hb dX6_run_20 (by decide) ?_
        have hf := Option.some.inj hf
        subst hf
        exact hQ _ _ _ _ dX6_run_21 hP hS
set_option maxHeartbeats 4000000 in
set_option maxRecDepth 100000 in
theorem c_X6_perform (l : Launch) {D : va_G} {a : Nat → Nat} {cA : Nat → ClassId} {A : Nat → Prop} {sa : Nat → Nat} (hDA : DA a A) {σ : PH} {d : PD} {h : Nat} (hh : isHall h) (p2 : Int32) (p3 : Int32) (p4 : Int32) {u : Int32 × PH} (hf : f_X6_perform σ h p2 p3 p4 = some u) : CTi l yX6_perform cX6_perform 5 (some .int) 25 687 D a cA A sa [.ref (a 3), .ref (a (h + 1)), .int p2, .int p3, .int p4] σ d u.1 u.2 d := by
  refine zz_metI zpl_X6 hDA (Nat.le_of_ble_eq_true rfl) ?_
  intro p e R s m args below meth c Q ls hx hb hml C hRf hRl hQ hP hS hl
  have hl : lv_has ls 5 [(0, .ref (a 3)), (1, .ref (a (h + 1))), (2, .int p2), (3, .int p3), (4, .int p4)] := hl
  unfold f_X6_perform at hf
  refine lv_aload_n hx hb dX6_perform_0 rfl (lv_at hl 1 rfl) ?_
  refine lv_iload_n hx hb dX6_perform_1 rfl (lv_at hl 2 rfl) ?_
  obtain ⟨u1, hzu1⟩ : ∃ z, z = f_X0_has σ h p2 := ⟨_, rfl⟩
  have hf := bnd_at u1 hzu1 hf
  refine zz_callVi (rest := []) hx hb hml C hP hS (c_X0_has l hDA (h := h) hh p2 hzu1.symm) zw_X6_28 ⟨Nat.le_trans (Nat.le_of_ble_eq_true rfl) hRf, Nat.le_trans (Nat.le_of_ble_eq_true rfl) hRl⟩ (lth hh 1 (by decide)) (lay_h1 hh) rfl rfl hl.1 (Nat.le_of_ble_eq_true rfl) ⟨Nat.zero_le _, Nat.zero_le _⟩ rfl dX6_perform_2 (fun H locs hP hS => ?_)
  refine lv_if_ne (tgt := 10) hx hb dX6_perform_5 (by decide) (fun hb1 => ?_) (fun hb1 => ?_)
  · have hf := ifF hb1 hf
    refine lv_aload_n hx hb dX6_perform_10 rfl (lv_at hl 0 rfl) ?_
    refine lv_aload_n hx hb dX6_perform_11 rfl (lv_at hl 1 rfl) ?_
    refine zg_X6_34 hx hb C hP (lth hh 1 (by decide)) (lay_h1 hh) rfl dX6_perform_12 ?_
    refine lv_iload_n hx hb dX6_perform_15 rfl (lv_at hl 2 rfl) ?_
    obtain ⟨hc2, hf⟩ := chk_some hf
    refine zz_iald hx hb C hP (lth hh 2 (by decide)) (lay_h2 hh) (inb_vp hc2) dX6_perform_16 ?_
    refine zp_X6_19 hx hb C hP hS (by decide) lay_3 rfl dX6_perform_17 (fun σ4 eσ4 H locs hP hS => ?_)
    have hf := bnd_at σ4 eσ4 hf
    refine lv_aload_n hx hb dX6_perform_20 rfl (lv_at hl 0 rfl) ?_
    refine lv_iload_n hx hb dX6_perform_21 rfl (lv_at hl 2 rfl) ?_
    refine zp_X6_22 hx hb C hP hS (by decide) lay_3 rfl dX6_perform_22 (fun σ5 eσ5 H locs hP hS => ?_)
    have hf := bnd_at σ5 eσ5 hf
    refine lv_aload_n hx hb dX6_perform_25 rfl (lv_at hl 0 rfl) ?_
    refine lv_aload_n hx hb dX6_perform_26 rfl (lv_at hl 1 rfl) ?_
    refine zg_X6_37 hx hb C hP (lth hh 1 (by decide)) (lay_h1 hh) rfl dX6_perform_27 ?_
    refine lv_iload_n hx hb dX6_perform_30 rfl (lv_at hl 2 rfl) ?_
    obtain ⟨hc5, hf⟩ := chk_some hf
    refine zz_iald hx hb C hP (lth hh 3 (by decide)) (lay_h3 hh) (inb_vp hc5) dX6_perform_31 ?_
    refine zp_X6_25 hx hb C hP hS (by decide) lay_3 rfl dX6_perform_32 (fun σ7 eσ7 H locs hP hS => ?_)
    have hf := bnd_at σ7 eσ7 hf
    refine lv_aload_n hx hb dX6_perform_35 rfl (lv_at hl 0 rfl) ?_
    refine lv_aload_n hx hb dX6_perform_36 rfl (lv_at hl 0 rfl) ?_
    refine zg_X6_19 hx hb C hP (by decide) lay_3 rfl dX6_perform_37 ?_
    refine lv_iload_n hx hb dX6_perform_40 rfl (lv_at hl 3 rfl) ?_
    refine lv_iload hx hb dX6_perform_41 (lv_at hl 4 rfl) ?_
    refine lv_iconst (v := 0) hx hb dX6_perform_43 (by decide) ?_
    obtain ⟨u8, hzu8, hf⟩ := obd_some hf
    refine zz_callSi (rest := []) hx hb hml C hP hS (c_X6_run l hDA 22 (gI σ7 3 2) p3 p4 0 hzu8) zw_X6_40 ⟨Nat.le_trans (Nat.le_of_ble_eq_true rfl) hRf, Nat.le_trans (Nat.le_of_ble_eq_true rfl) hRl⟩  rfl hl.1 (Nat.le_of_ble_eq_true rfl) ⟨Nat.zero_le _, Nat.zero_le _⟩ rfl dX6_perform_44 (fun H locs hP hS => ?_)
    have hf := Option.some.inj hf
    subst hf
    exact hQ _ _ _ _ dX6_perform_47 hP hS
  · have hf := ifT hb1 hf
    refine lv_iconst (v := 0) hx hb dX6_perform_8 (by decide) ?_
    have hf := Option.some.inj hf
    subst hf
    exact hQ _ _ _ _ dX6_perform_9 hP hS
set_option maxHeartbeats 4000000 in
set_option maxRecDepth 100000 in
theorem c_X7_indexOf (l : Launch) {D : va_G} {a : Nat → Nat} {cA : Nat → ClassId} {A : Nat → Prop} {sa : Nat → Nat} (hDA : DA a A) {σ : PH} {d : PD} {h : Nat} (hh : isHall h) (p1 : Int32) {u : Int32} (hf : f_X7_indexOf σ h p1 = some u) : CTi l yX7_indexOf cX7_indexOf 3 (some .int) 0 0 D a cA A sa [.ref (a (h + 7)), .int p1] σ d u σ d := by
  refine zz_metI zpl_X7 hDA (Nat.le_of_ble_eq_true rfl) ?_
  intro p e R s m args below meth c Q ls hx hb hml C hRf hRl hQ hP hS hl
  have hl : lv_has ls 3 [(0, .ref (a (h + 7))), (1, .int p1)] := hl
  unfold f_X7_indexOf at hf
  refine lv_iconst (v := 0) hx hb dX7_indexOf_0 (by decide) ?_
  refine lv_istore_n (lv' := [(2, .int 0), (0, .ref (a (h + 7))), (1, .int p1)]) hx hb dX7_indexOf_1 rfl hl (by decide) rfl (fun ls hl => ?_)
  refine loopN_ind (P := fun (q1 : Int32) => ∀ (H : Heap) (locs : List Loc) (ls : Array Slot), lv_has ls 3 [(0, .ref (a (h + 7))), (1, .int p1), (2, .int q1)] → va_P D vwCl (wl a cA σ d) H → va_S A s.heap H locs → W p l e R s m args below meth c H locs 0 0 Q (F0 m 2 ls [])) ?_ _ _ hf _ _ _ (lv_sub hl [1, 2, 0] rfl) hP hS
  intro k2 ihk2 q1 hf H locs ls hl hP hS
  unfold b_X7_indexOf_2 at hf
  refine lv_iload_n hx hb dX7_indexOf_2 rfl (lv_at hl 2 rfl) ?_
  refine lv_aload_n hx hb dX7_indexOf_3 rfl (lv_at hl 0 rfl) ?_
  refine zg_X7_20 hx hb C hP (lth hh 7 (by decide)) (lay_h7 hh) rfl dX7_indexOf_4 ?_
  refine lv_icmp_ge (tgt := 28) hx hb dX7_indexOf_7 (by decide) (fun hb2 => ?_) (fun hb2 => ?_)
  · have hf := ifT hb2 hf
    refine lv_iconst (v := (-1)) hx hb dX7_indexOf_28 (by decide) ?_
    have hf := Option.some.inj hf
    subst hf
    exact hQ _ _ _ _ dX7_indexOf_29 hP hS
  · have hf := ifF hb2 hf
    refine lv_aload_n hx hb dX7_indexOf_10 rfl (lv_at hl 0 rfl) ?_
    refine zg_X7_13 hx hb C hP (lth hh 7 (by decide)) (lay_h7 hh) rfl dX7_indexOf_11 ?_
    refine lv_iload_n hx hb dX7_indexOf_14 rfl (lv_at hl 2 rfl) ?_
    obtain ⟨hc3, hf⟩ := chk_some hf
    refine zz_iald hx hb C hP (lth hh 8 (by decide)) (lay_h8 hh) (inb_vp hc3) dX7_indexOf_15 ?_
    refine lv_iload_n hx hb dX7_indexOf_16 rfl (lv_at hl 1 rfl) ?_
    refine lv_icmp_ne (tgt := 22) hx hb dX7_indexOf_17 (by decide) (fun hb4 => ?_) (fun hb4 => ?_)
    · have hf := ifF hb4 hf
      obtain ⟨v6, ev6⟩ : ∃ z : Int32, z = q1 + 1 := ⟨_, rfl⟩
      have hf := bnd_at v6 ev6 hf
      refine lv_iinc (v := v6) (lv' := [(2, .int v6), (0, .ref (a (h + 7))), (1, .int p1)]) hx hb dX7_indexOf_22 hl (k := 2) rfl (by rw [ev6]; rfl) (by decide) rfl (fun ls hl => ?_)
      refine lv_goto (tgt := 2) hx hb dX7_indexOf_25 (by decide) ?_
      exact ihk2 _ hf _ _ _ (lv_sub hl [1, 2, 0] rfl) hP hS
    · have hf := ifT hb4 hf
      refine lv_iload_n hx hb dX7_indexOf_20 rfl (lv_at hl 2 rfl) ?_
      have hf := Option.some.inj hf
      subst hf
      exact hQ _ _ _ _ dX7_indexOf_21 hP hS
set_option maxHeartbeats 4000000 in
set_option maxRecDepth 100000 in
theorem c_X8_isShelf (l : Launch) {D : va_G} {a : Nat → Nat} {cA : Nat → ClassId} {A : Nat → Prop} {sa : Nat → Nat} (hDA : DA a A) {σ : PH} {d : PD} (p1 : Int32) {u : Int32} (hf : f_X8_isShelf p1 = u) : CTi l yX8_isShelf cX8_isShelf 1 (some .boolean) 0 0 D a cA A sa [.int p1] σ d u σ d := by
  refine zz_metZ zpl_X8 hDA (Nat.le_of_ble_eq_true rfl) ?_
  intro p e R s m args below meth c Q ls hx hb hml C hRf hRl hQ hP hS hl
  have hl : lv_has ls 1 [(0, .int p1)] := hl
  unfold f_X8_isShelf at hf
  refine lv_iload_n hx hb dX8_isShelf_0 rfl (lv_at hl 0 rfl) ?_
  refine lv_if_lt (tgt := 14) hx hb dX8_isShelf_1 (by decide) (fun hb0 => ?_) (fun hb0 => ?_)
  · have hf := ifT hb0 hf
    refine lv_iconst (v := 0) hx hb dX8_isShelf_14 (by decide) ?_
    subst hf
    exact hQ _ _ _ _ dX8_isShelf_15 (show narrow .boolean (.int 0) = .int 0 from rfl) hP hS
  · have hf := ifF hb0 hf
    refine lv_iload_n hx hb dX8_isShelf_4 rfl (lv_at hl 0 rfl) ?_
    refine lv_bipush (v := 8) hx hb dX8_isShelf_5 (by decide) ?_
    refine lv_icmp_ge (tgt := 14) hx hb dX8_isShelf_7 (by decide) (fun hb1 => ?_) (fun hb1 => ?_)
    · have hf := ifT hb1 hf
      refine lv_iconst (v := 0) hx hb dX8_isShelf_14 (by decide) ?_
      subst hf
      exact hQ _ _ _ _ dX8_isShelf_15 (show narrow .boolean (.int 0) = .int 0 from rfl) hP hS
    · have hf := ifF hb1 hf
      refine lv_iconst (v := 1) hx hb dX8_isShelf_10 (by decide) ?_
      refine lv_goto (tgt := 15) hx hb dX8_isShelf_11 (by decide) ?_
      subst hf
      exact hQ _ _ _ _ dX8_isShelf_15 (show narrow .boolean (.int 1) = .int 1 from rfl) hP hS
set_option maxHeartbeats 4000000 in
set_option maxRecDepth 100000 in
theorem c_X8_refuse (l : Launch) {D : va_G} {a : Nat → Nat} {cA : Nat → ClassId} {A : Nat → Prop} {sa : Nat → Nat} (hDA : DA a A) {σ : PH} {d : PD} (p1 : Int32) {u : Int32 × PH} (hf : f_X8_refuse σ p1 = some u) : CTi l yX8_refuse cX8_refuse 2 (some .int) 0 0 D a cA A sa [.ref (a 0), .int p1] σ d u.1 u.2 d := by
  refine zz_metI zpl_X8 hDA (Nat.le_of_ble_eq_true rfl) ?_
  intro p e R s m args below meth c Q ls hx hb hml C hRf hRl hQ hP hS hl
  have hl : lv_has ls 2 [(0, .ref (a 0)), (1, .int p1)] := hl
  unfold f_X8_refuse at hf
  refine lv_iload_n hx hb dX8_refuse_0 rfl (lv_at hl 1 rfl) ?_
  refine lv_iconst (v := (-1)) hx hb dX8_refuse_1 (by decide) ?_
  refine lv_icmp_gt (tgt := 22) hx hb dX8_refuse_2 (by decide) (fun hb0 => ?_) (fun hb0 => ?_)
  · have hf := ifT hb0 hf
    refine lv_iload_n hx hb dX8_refuse_22 rfl (lv_at hl 1 rfl) ?_
    have hf := Option.some.inj hf
    subst hf
    exact hQ _ _ _ _ dX8_refuse_23 hP hS
  · have hf := ifF hb0 hf
    refine lv_iload_n hx hb dX8_refuse_5 rfl (lv_at hl 1 rfl) ?_
    refine lv_bipush (v := (-7)) hx hb dX8_refuse_6 (by decide) ?_
    refine lv_icmp_lt (tgt := 22) hx hb dX8_refuse_8 (by decide) (fun hb1 => ?_) (fun hb1 => ?_)
    · have hf := ifT hb1 hf
      refine lv_iload_n hx hb dX8_refuse_22 rfl (lv_at hl 1 rfl) ?_
      have hf := Option.some.inj hf
      subst hf
      exact hQ _ _ _ _ dX8_refuse_23 hP hS
    · have hf := ifF hb1 hf
      refine lv_aload_n hx hb dX8_refuse_11 rfl (lv_at hl 0 rfl) ?_
      refine zg_X8_15 hx hb C hP (by decide) lay_0 rfl dX8_refuse_12 ?_
      refine lv_iload_n hx hb dX8_refuse_15 rfl (lv_at hl 1 rfl) ?_
      refine lv_ineg hx hb dX8_refuse_16 ?_
      refine lv_dup2_11 hx hb dX8_refuse_17 rfl rfl ?_
      obtain ⟨hc2, hf⟩ := chk_some hf
      refine zz_iald hx hb C hP (by decide) lay_2 (inb_vp hc2) dX8_refuse_18 ?_
      refine lv_iconst (v := 1) hx hb dX8_refuse_19 (by decide) ?_
      refine lv_iadd hx hb dX8_refuse_20 ?_
      obtain ⟨hc3, hf⟩ := chk_some hf
      refine zz_iast hx hb C hP hS (by decide) lay_2 (inb_vp hc3) dX8_refuse_21 (fun σ5 eσ5 H locs hP hS => ?_)
      have hf := bnd_at σ5 eσ5 hf
      refine lv_iload_n hx hb dX8_refuse_22 rfl (lv_at hl 1 rfl) ?_
      have hf := Option.some.inj hf
      subst hf
      exact hQ _ _ _ _ dX8_refuse_23 hP hS
set_option maxHeartbeats 4000000 in
set_option maxRecDepth 100000 in
theorem c_X8_row (l : Launch) {D : va_G} {a : Nat → Nat} {cA : Nat → ClassId} {A : Nat → Prop} {sa : Nat → Nat} (hDA : DA a A) {σ : PH} {d : PD} (p1 : Int32) (p2 : Int32) (p3 : Int32) {u : Int32 × PH} (hf : f_X8_row σ p1 p2 p3 = some u) : CTi l yX8_row cX8_row 4 (some .int) 2 44 D a cA A sa [.ref (a 0), .int p1, .int p2, .int p3] σ d u.1 u.2 d := by
  refine zz_metI zpl_X8 hDA (Nat.le_of_ble_eq_true rfl) ?_
  intro p e R s m args below meth c Q ls hx hb hml C hRf hRl hQ hP hS hl
  have hl : lv_has ls 4 [(0, .ref (a 0)), (1, .int p1), (2, .int p2), (3, .int p3)] := hl
  unfold f_X8_row at hf
  refine lv_iload_n hx hb dX8_row_0 rfl (lv_at hl 1 rfl) ?_
  obtain ⟨u1, hzu1⟩ : ∃ z, z = f_X8_isShelf p1 := ⟨_, rfl⟩
  have hf := bnd_at u1 hzu1 hf
  refine zz_callSi (rest := []) hx hb hml C hP hS (c_X8_isShelf l hDA p1 hzu1.symm) zw_X8_69 ⟨Nat.le_trans (Nat.le_of_ble_eq_true rfl) hRf, Nat.le_trans (Nat.le_of_ble_eq_true rfl) hRl⟩  rfl hl.1 (Nat.le_of_ble_eq_true rfl) ⟨Nat.zero_le _, Nat.zero_le _⟩ rfl dX8_row_1 (fun H locs hP hS => ?_)
  refine lv_if_ne (tgt := 13) hx hb dX8_row_4 (by decide) (fun hb1 => ?_) (fun hb1 => ?_)
  · have hf := ifF hb1 hf
    refine lv_iload_n hx hb dX8_row_13 rfl (lv_at hl 3 rfl) ?_
    refine lv_if_ge (tgt := 24) hx hb dX8_row_14 (by decide) (fun hb2 => ?_) (fun hb2 => ?_)
    · have hf := ifT hb2 hf
      refine lv_iload_n hx hb dX8_row_24 rfl (lv_at hl 2 rfl) ?_
      refine lv_if_lt (tgt := 33) hx hb dX8_row_25 (by decide) (fun hb3 => ?_) (fun hb3 => ?_)
      · have hf := ifT hb3 hf
        refine lv_aload_n hx hb dX8_row_33 rfl (lv_at hl 0 rfl) ?_
        refine lv_bipush (v := (-6)) hx hb dX8_row_34 (by decide) ?_
        obtain ⟨u5, hzu5, hf⟩ := obd_some hf
        refine zz_callVi (rest := []) hx hb hml C hP hS (c_X8_refuse l hDA (-6) hzu5) zw_X8_73 ⟨Nat.le_trans (Nat.le_of_ble_eq_true rfl) hRf, Nat.le_trans (Nat.le_of_ble_eq_true rfl) hRl⟩ (by decide) lay_0 rfl rfl hl.1 (Nat.le_of_ble_eq_true rfl) ⟨Nat.zero_le _, Nat.zero_le _⟩ rfl dX8_row_36 (fun H locs hP hS => ?_)
        have hf := Option.some.inj hf
        subst hf
        exact hQ _ _ _ _ dX8_row_39 hP hS
      · have hf := ifF hb3 hf
        refine lv_iload_n hx hb dX8_row_28 rfl (lv_at hl 2 rfl) ?_
        refine lv_iconst (v := 4) hx hb dX8_row_29 (by decide) ?_
        refine lv_icmp_lt (tgt := 40) hx hb dX8_row_30 (by decide) (fun hb5 => ?_) (fun hb5 => ?_)
        · have hf := ifT hb5 hf
          refine lv_iload_n hx hb dX8_row_40 rfl (lv_at hl 3 rfl) ?_
          refine lv_sipush (v := 160) hx hb dX8_row_41 (by decide) ?_
          refine lv_icmp_le (tgt := 54) hx hb dX8_row_44 (by decide) (fun hb6 => ?_) (fun hb6 => ?_)
          · have hf := ifT hb6 hf
            refine lv_aload_n hx hb dX8_row_54 rfl (lv_at hl 0 rfl) ?_
            refine zg_X8_11 hx hb C hP (by decide) lay_0 rfl dX8_row_55 ?_
            refine lv_iload_n hx hb dX8_row_58 rfl (lv_at hl 1 rfl) ?_
            obtain ⟨hc7, hf⟩ := chk_some hf
            refine zz_shelf hx hb C hP (inb_vp hc7) dX8_row_59 (fun r9 er9 hr9 => ?_)
            have hf := bnd_at r9 er9 hf
            refine lv_iload_n hx hb dX8_row_60 rfl (lv_at hl 2 rfl) ?_
            refine lv_iload_n hx hb dX8_row_61 rfl (lv_at hl 3 rfl) ?_
            obtain ⟨u10, hzu10, hf⟩ := obd_some hf
            refine zz_callVv (rest := []) hx hb hml C hP hS (c_X4_begin l hDA (sh0 := r9) hr9 p2 p3 hzu10) zw_X8_77 ⟨Nat.le_trans (Nat.le_of_ble_eq_true rfl) hRf, Nat.le_trans (Nat.le_of_ble_eq_true rfl) hRl⟩ (lts0 hr9) (lay_s0 hr9) rfl rfl hl.1 (Nat.le_of_ble_eq_true rfl) ⟨Nat.zero_le _, Nat.zero_le _⟩ rfl dX8_row_62 (fun H locs hP hS => ?_)
            refine lv_iconst (v := 1) hx hb dX8_row_65 (by decide) ?_
            have hf := Option.some.inj hf
            subst hf
            exact hQ _ _ _ _ dX8_row_66 hP hS
          · have hf := ifF hb6 hf
            refine lv_aload_n hx hb dX8_row_47 rfl (lv_at hl 0 rfl) ?_
            refine lv_bipush (v := (-7)) hx hb dX8_row_48 (by decide) ?_
            obtain ⟨u11, hzu11, hf⟩ := obd_some hf
            refine zz_callVi (rest := []) hx hb hml C hP hS (c_X8_refuse l hDA (-7) hzu11) zw_X8_73 ⟨Nat.le_trans (Nat.le_of_ble_eq_true rfl) hRf, Nat.le_trans (Nat.le_of_ble_eq_true rfl) hRl⟩ (by decide) lay_0 rfl rfl hl.1 (Nat.le_of_ble_eq_true rfl) ⟨Nat.zero_le _, Nat.zero_le _⟩ rfl dX8_row_50 (fun H locs hP hS => ?_)
            have hf := Option.some.inj hf
            subst hf
            exact hQ _ _ _ _ dX8_row_53 hP hS
        · have hf := ifF hb5 hf
          refine lv_aload_n hx hb dX8_row_33 rfl (lv_at hl 0 rfl) ?_
          refine lv_bipush (v := (-6)) hx hb dX8_row_34 (by decide) ?_
          obtain ⟨u12, hzu12, hf⟩ := obd_some hf
          refine zz_callVi (rest := []) hx hb hml C hP hS (c_X8_refuse l hDA (-6) hzu12) zw_X8_73 ⟨Nat.le_trans (Nat.le_of_ble_eq_true rfl) hRf, Nat.le_trans (Nat.le_of_ble_eq_true rfl) hRl⟩ (by decide) lay_0 rfl rfl hl.1 (Nat.le_of_ble_eq_true rfl) ⟨Nat.zero_le _, Nat.zero_le _⟩ rfl dX8_row_36 (fun H locs hP hS => ?_)
          have hf := Option.some.inj hf
          subst hf
          exact hQ _ _ _ _ dX8_row_39 hP hS
    · have hf := ifF hb2 hf
      refine lv_aload_n hx hb dX8_row_17 rfl (lv_at hl 0 rfl) ?_
      refine lv_bipush (v := (-4)) hx hb dX8_row_18 (by decide) ?_
      obtain ⟨u13, hzu13, hf⟩ := obd_some hf
      refine zz_callVi (rest := []) hx hb hml C hP hS (c_X8_refuse l hDA (-4) hzu13) zw_X8_73 ⟨Nat.le_trans (Nat.le_of_ble_eq_true rfl) hRf, Nat.le_trans (Nat.le_of_ble_eq_true rfl) hRl⟩ (by decide) lay_0 rfl rfl hl.1 (Nat.le_of_ble_eq_true rfl) ⟨Nat.zero_le _, Nat.zero_le _⟩ rfl dX8_row_20 (fun H locs hP hS => ?_)
      have hf := Option.some.inj hf
      subst hf
      exact hQ _ _ _ _ dX8_row_23 hP hS
  · have hf := ifT hb1 hf
    refine lv_aload_n hx hb dX8_row_7 rfl (lv_at hl 0 rfl) ?_
    refine lv_iconst (v := (-1)) hx hb dX8_row_8 (by decide) ?_
    obtain ⟨u14, hzu14, hf⟩ := obd_some hf
    refine zz_callVi (rest := []) hx hb hml C hP hS (c_X8_refuse l hDA (-1) hzu14) zw_X8_73 ⟨Nat.le_trans (Nat.le_of_ble_eq_true rfl) hRf, Nat.le_trans (Nat.le_of_ble_eq_true rfl) hRl⟩ (by decide) lay_0 rfl rfl hl.1 (Nat.le_of_ble_eq_true rfl) ⟨Nat.zero_le _, Nat.zero_le _⟩ rfl dX8_row_9 (fun H locs hP hS => ?_)
    have hf := Option.some.inj hf
    subst hf
    exact hQ _ _ _ _ dX8_row_12 hP hS
set_option maxHeartbeats 4000000 in
set_option maxRecDepth 100000 in
theorem c_X8_lackOfRow (l : Launch) {D : va_G} {a : Nat → Nat} {cA : Nat → ClassId} {A : Nat → Prop} {sa : Nat → Nat} (hDA : DA a A) {σ : PH} {d : PD} (p1 : Int32) {u : Int32} (hf : f_X8_lackOfRow σ p1 = some u) : CTi l yX8_lackOfRow cX8_lackOfRow 2 (some .int) 1 20 D a cA A sa [.ref (a 0), .int p1] σ d u σ d := by
  refine zz_metI zpl_X8 hDA (Nat.le_of_ble_eq_true rfl) ?_
  intro p e R s m args below meth c Q ls hx hb hml C hRf hRl hQ hP hS hl
  have hl : lv_has ls 2 [(0, .ref (a 0)), (1, .int p1)] := hl
  unfold f_X8_lackOfRow at hf
  refine lv_iload_n hx hb dX8_lackOfRow_0 rfl (lv_at hl 1 rfl) ?_
  obtain ⟨u1, hzu1⟩ : ∃ z, z = f_X8_isShelf p1 := ⟨_, rfl⟩
  have hf := bnd_at u1 hzu1 hf
  refine zz_callSi (rest := []) hx hb hml C hP hS (c_X8_isShelf l hDA p1 hzu1.symm) zw_X8_69 ⟨Nat.le_trans (Nat.le_of_ble_eq_true rfl) hRf, Nat.le_trans (Nat.le_of_ble_eq_true rfl) hRl⟩  rfl hl.1 (Nat.le_of_ble_eq_true rfl) ⟨Nat.zero_le _, Nat.zero_le _⟩ rfl dX8_lackOfRow_1 (fun H locs hP hS => ?_)
  refine lv_if_ne (tgt := 9) hx hb dX8_lackOfRow_4 (by decide) (fun hb1 => ?_) (fun hb1 => ?_)
  · have hf := ifF hb1 hf
    refine lv_aload_n hx hb dX8_lackOfRow_9 rfl (lv_at hl 0 rfl) ?_
    refine zg_X8_11 hx hb C hP (by decide) lay_0 rfl dX8_lackOfRow_10 ?_
    refine lv_iload_n hx hb dX8_lackOfRow_13 rfl (lv_at hl 1 rfl) ?_
    obtain ⟨hc2, hf⟩ := chk_some hf
    refine zz_shelf hx hb C hP (inb_vp hc2) dX8_lackOfRow_14 (fun r4 er4 hr4 => ?_)
    have hf := bnd_at r4 er4 hf
    obtain ⟨u5, hzu5⟩ : ∃ z, z = f_X4_holdsRow σ r4 := ⟨_, rfl⟩
    have hf := bnd_at u5 hzu5 hf
    refine zz_callVi (rest := []) hx hb hml C hP hS (c_X4_holdsRow l hDA (sh0 := r4) hr4 hzu5.symm) zw_X8_124 ⟨Nat.le_trans (Nat.le_of_ble_eq_true rfl) hRf, Nat.le_trans (Nat.le_of_ble_eq_true rfl) hRl⟩ (lts0 hr4) (lay_s0 hr4) rfl rfl hl.1 (Nat.le_of_ble_eq_true rfl) ⟨Nat.zero_le _, Nat.zero_le _⟩ rfl dX8_lackOfRow_15 (fun H locs hP hS => ?_)
    refine lv_if_eq (tgt := 23) hx hb dX8_lackOfRow_18 (by decide) (fun hb5 => ?_) (fun hb5 => ?_)
    · have hf := ifT hb5 hf
      refine lv_aload_n hx hb dX8_lackOfRow_23 rfl (lv_at hl 0 rfl) ?_
      refine zg_X8_11 hx hb C hP (by decide) lay_0 rfl dX8_lackOfRow_24 ?_
      refine lv_iload_n hx hb dX8_lackOfRow_27 rfl (lv_at hl 1 rfl) ?_
      obtain ⟨hc6, hf⟩ := chk_some hf
      refine zz_shelf hx hb C hP (inb_vp hc6) dX8_lackOfRow_28 (fun r8 er8 hr8 => ?_)
      have hf := bnd_at r8 er8 hf
      refine zg_X8_118 hx hb C hP (lts0 hr8) (lay_s0 hr8) rfl dX8_lackOfRow_29 ?_
      refine lv_iconst (v := (-1)) hx hb dX8_lackOfRow_32 (by decide) ?_
      refine lv_icmp_ne (tgt := 41) hx hb dX8_lackOfRow_33 (by decide) (fun hb8 => ?_) (fun hb8 => ?_)
      · have hf := ifF hb8 hf
        refine lv_bipush (v := (-2)) hx hb dX8_lackOfRow_41 (by decide) ?_
        have hf := Option.some.inj hf
        subst hf
        exact hQ _ _ _ _ dX8_lackOfRow_43 hP hS
      · have hf := ifT hb8 hf
        refine lv_bipush (v := (-3)) hx hb dX8_lackOfRow_36 (by decide) ?_
        refine lv_goto (tgt := 43) hx hb dX8_lackOfRow_38 (by decide) ?_
        have hf := Option.some.inj hf
        subst hf
        exact hQ _ _ _ _ dX8_lackOfRow_43 hP hS
    · have hf := ifF hb5 hf
      refine lv_iconst (v := 0) hx hb dX8_lackOfRow_21 (by decide) ?_
      have hf := Option.some.inj hf
      subst hf
      exact hQ _ _ _ _ dX8_lackOfRow_22 hP hS
  · have hf := ifT hb1 hf
    refine lv_iconst (v := (-1)) hx hb dX8_lackOfRow_7 (by decide) ?_
    have hf := Option.some.inj hf
    subst hf
    exact hQ _ _ _ _ dX8_lackOfRow_8 hP hS
set_option maxHeartbeats 4000000 in
set_option maxRecDepth 100000 in
theorem c_X8_set (l : Launch) {D : va_G} {a : Nat → Nat} {cA : Nat → ClassId} {A : Nat → Prop} {sa : Nat → Nat} (hDA : DA a A) {σ : PH} {d : PD} (p1 : Int32) (p2 : Int32) (p3 : Int64) {u : Int32 × PH} (hf : f_X8_set σ p1 p2 p3 = some u) : CTi l yX8_set cX8_set 6 (some .int) 2 44 D a cA A sa [.ref (a 0), .int p1, .int p2, .long p3] σ d u.1 u.2 d := by
  refine zz_metI zpl_X8 hDA (Nat.le_of_ble_eq_true rfl) ?_
  intro p e R s m args below meth c Q ls hx hb hml C hRf hRl hQ hP hS hl
  have hl : lv_has ls 6 [(0, .ref (a 0)), (1, .int p1), (2, .int p2), (3, .long p3)] := hl
  unfold f_X8_set at hf
  refine lv_aload_n hx hb dX8_set_0 rfl (lv_at hl 0 rfl) ?_
  refine lv_iload_n hx hb dX8_set_1 rfl (lv_at hl 1 rfl) ?_
  obtain ⟨u1, hzu1, hf⟩ := obd_some hf
  refine zz_callVi (rest := []) hx hb hml C hP hS (c_X8_lackOfRow l hDA p1 hzu1) zw_X8_81 ⟨Nat.le_trans (Nat.le_of_ble_eq_true rfl) hRf, Nat.le_trans (Nat.le_of_ble_eq_true rfl) hRl⟩ (by decide) lay_0 rfl rfl hl.1 (Nat.le_of_ble_eq_true rfl) ⟨Nat.zero_le _, Nat.zero_le _⟩ rfl dX8_set_2 (fun H locs hP hS => ?_)
  refine lv_istore (lv' := [(5, .int u1), (0, .ref (a 0)), (1, .int p1), (2, .int p2), (3, .long p3)]) hx hb dX8_set_5 hl (by decide) rfl (fun ls hl => ?_)
  refine lv_iload hx hb dX8_set_7 (lv_at hl 0 rfl) ?_
  refine lv_if_eq (tgt := 19) hx hb dX8_set_9 (by decide) (fun hb1 => ?_) (fun hb1 => ?_)
  · have hf := ifT hb1 hf
    refine lv_aload_n hx hb dX8_set_19 rfl (lv_at hl 1 rfl) ?_
    refine zg_X8_11 hx hb C hP (by decide) lay_0 rfl dX8_set_20 ?_
    refine lv_iload_n hx hb dX8_set_23 rfl (lv_at hl 2 rfl) ?_
    obtain ⟨hc2, hf⟩ := chk_some hf
    refine zz_shelf hx hb C hP (inb_vp hc2) dX8_set_24 (fun r4 er4 hr4 => ?_)
    have hf := bnd_at r4 er4 hf
    refine lv_iload_n hx hb dX8_set_25 rfl (lv_at hl 3 rfl) ?_
    obtain ⟨u5, hzu5⟩ : ∃ z, z = f_X4_hasElement σ r4 p2 := ⟨_, rfl⟩
    have hf := bnd_at u5 hzu5 hf
    refine zz_callVi (rest := []) hx hb hml C hP hS (c_X4_hasElement l hDA (sh0 := r4) hr4 p2 hzu5.symm) zw_X8_84 ⟨Nat.le_trans (Nat.le_of_ble_eq_true rfl) hRf, Nat.le_trans (Nat.le_of_ble_eq_true rfl) hRl⟩ (lts0 hr4) (lay_s0 hr4) rfl rfl hl.1 (Nat.le_of_ble_eq_true rfl) ⟨Nat.zero_le _, Nat.zero_le _⟩ rfl dX8_set_26 (fun H locs hP hS => ?_)
    refine lv_if_ne (tgt := 39) hx hb dX8_set_29 (by decide) (fun hb5 => ?_) (fun hb5 => ?_)
    · have hf := ifF hb5 hf
      refine lv_aload_n hx hb dX8_set_39 rfl (lv_at hl 1 rfl) ?_
      refine zg_X8_11 hx hb C hP (by decide) lay_0 rfl dX8_set_40 ?_
      refine lv_iload_n hx hb dX8_set_43 rfl (lv_at hl 2 rfl) ?_
      obtain ⟨hc6, hf⟩ := chk_some hf
      refine zz_shelf hx hb C hP (inb_vp hc6) dX8_set_44 (fun r8 er8 hr8 => ?_)
      have hf := bnd_at r8 er8 hf
      refine lv_iload_n hx hb dX8_set_45 rfl (lv_at hl 3 rfl) ?_
      refine lv_lload_n hx hb dX8_set_46 rfl (lv_at hl 4 rfl) ?_
      obtain ⟨u9, hzu9, hf⟩ := obd_some hf
      refine zz_callVv (rest := []) hx hb hml C hP hS (c_X4_put l hDA (sh0 := r8) hr8 p2 p3 hzu9) zw_X8_87 ⟨Nat.le_trans (Nat.le_of_ble_eq_true rfl) hRf, Nat.le_trans (Nat.le_of_ble_eq_true rfl) hRl⟩ (lts0 hr8) (lay_s0 hr8) rfl rfl hl.1 (Nat.le_of_ble_eq_true rfl) ⟨Nat.zero_le _, Nat.zero_le _⟩ rfl dX8_set_47 (fun H locs hP hS => ?_)
      refine lv_iconst (v := 1) hx hb dX8_set_50 (by decide) ?_
      have hf := Option.some.inj hf
      subst hf
      exact hQ _ _ _ _ dX8_set_51 hP hS
    · have hf := ifT hb5 hf
      refine lv_aload_n hx hb dX8_set_32 rfl (lv_at hl 1 rfl) ?_
      refine lv_bipush (v := (-5)) hx hb dX8_set_33 (by decide) ?_
      obtain ⟨u10, hzu10, hf⟩ := obd_some hf
      refine zz_callVi (rest := []) hx hb hml C hP hS (c_X8_refuse l hDA (-5) hzu10) zw_X8_73 ⟨Nat.le_trans (Nat.le_of_ble_eq_true rfl) hRf, Nat.le_trans (Nat.le_of_ble_eq_true rfl) hRl⟩ (by decide) lay_0 rfl rfl hl.1 (Nat.le_of_ble_eq_true rfl) ⟨Nat.zero_le _, Nat.zero_le _⟩ rfl dX8_set_35 (fun H locs hP hS => ?_)
      have hf := Option.some.inj hf
      subst hf
      exact hQ _ _ _ _ dX8_set_38 hP hS
  · have hf := ifF hb1 hf
    refine lv_aload_n hx hb dX8_set_12 rfl (lv_at hl 1 rfl) ?_
    refine lv_iload hx hb dX8_set_13 (lv_at hl 0 rfl) ?_
    obtain ⟨u11, hzu11, hf⟩ := obd_some hf
    refine zz_callVi (rest := []) hx hb hml C hP hS (c_X8_refuse l hDA u1 hzu11) zw_X8_73 ⟨Nat.le_trans (Nat.le_of_ble_eq_true rfl) hRf, Nat.le_trans (Nat.le_of_ble_eq_true rfl) hRl⟩ (by decide) lay_0 rfl rfl hl.1 (Nat.le_of_ble_eq_true rfl) ⟨Nat.zero_le _, Nat.zero_le _⟩ rfl dX8_set_15 (fun H locs hP hS => ?_)
    have hf := Option.some.inj hf
    subst hf
    exact hQ _ _ _ _ dX8_set_18 hP hS
set_option maxHeartbeats 4000000 in
set_option maxRecDepth 100000 in
theorem c_X8_lackForCopy (l : Launch) {D : va_G} {a : Nat → Nat} {cA : Nat → ClassId} {A : Nat → Prop} {sa : Nat → Nat} (hDA : DA a A) {σ : PH} {d : PD} (p1 : Int32) (p2 : Int32) {u : Int32} (hf : f_X8_lackForCopy σ p1 p2 = some u) : CTi l yX8_lackForCopy cX8_lackForCopy 5 (some .int) 2 41 D a cA A sa [.ref (a 0), .int p1, .int p2] σ d u σ d := by
  refine zz_metI zpl_X8 hDA (Nat.le_of_ble_eq_true rfl) ?_
  intro p e R s m args below meth c Q ls hx hb hml C hRf hRl hQ hP hS hl
  have hl : lv_has ls 5 [(0, .ref (a 0)), (1, .int p1), (2, .int p2)] := hl
  unfold f_X8_lackForCopy at hf
  refine lv_aload_n hx hb dX8_lackForCopy_0 rfl (lv_at hl 0 rfl) ?_
  refine lv_iload_n hx hb dX8_lackForCopy_1 rfl (lv_at hl 1 rfl) ?_
  obtain ⟨u1, hzu1, hf⟩ := obd_some hf
  refine zz_callVi (rest := []) hx hb hml C hP hS (c_X8_lackOfRow l hDA p1 hzu1) zw_X8_81 ⟨Nat.le_trans (Nat.le_of_ble_eq_true rfl) hRf, Nat.le_trans (Nat.le_of_ble_eq_true rfl) hRl⟩ (by decide) lay_0 rfl rfl hl.1 (Nat.le_of_ble_eq_true rfl) ⟨Nat.zero_le _, Nat.zero_le _⟩ rfl dX8_lackForCopy_2 (fun H locs hP hS => ?_)
  refine lv_istore_n (lv' := [(3, .int u1), (0, .ref (a 0)), (1, .int p1), (2, .int p2)]) hx hb dX8_lackForCopy_5 rfl hl (by decide) rfl (fun ls hl => ?_)
  refine lv_aload_n hx hb dX8_lackForCopy_6 rfl (lv_at hl 1 rfl) ?_
  refine lv_iload_n hx hb dX8_lackForCopy_7 rfl (lv_at hl 3 rfl) ?_
  obtain ⟨u2, hzu2, hf⟩ := obd_some hf
  refine zz_callVi (rest := []) hx hb hml C hP hS (c_X8_lackOfRow l hDA p2 hzu2) zw_X8_81 ⟨Nat.le_trans (Nat.le_of_ble_eq_true rfl) hRf, Nat.le_trans (Nat.le_of_ble_eq_true rfl) hRl⟩ (by decide) lay_0 rfl rfl hl.1 (Nat.le_of_ble_eq_true rfl) ⟨Nat.zero_le _, Nat.zero_le _⟩ rfl dX8_lackForCopy_8 (fun H locs hP hS => ?_)
  refine lv_istore (lv' := [(4, .int u2), (3, .int u1), (0, .ref (a 0)), (1, .int p1), (2, .int p2)]) hx hb dX8_lackForCopy_11 hl (by decide) rfl (fun ls hl => ?_)
  refine lv_iload_n hx hb dX8_lackForCopy_13 rfl (lv_at hl 1 rfl) ?_
  refine lv_iconst (v := (-1)) hx hb dX8_lackForCopy_14 (by decide) ?_
  refine lv_icmp_eq (tgt := 24) hx hb dX8_lackForCopy_15 (by decide) (fun hb2 => ?_) (fun hb2 => ?_)
  · have hf := ifT hb2 hf
    refine lv_iconst (v := (-1)) hx hb dX8_lackForCopy_24 (by decide) ?_
    have hf := Option.some.inj hf
    subst hf
    exact hQ _ _ _ _ dX8_lackForCopy_25 hP hS
  · have hf := ifF hb2 hf
    refine lv_iload hx hb dX8_lackForCopy_18 (lv_at hl 0 rfl) ?_
    refine lv_iconst (v := (-1)) hx hb dX8_lackForCopy_20 (by decide) ?_
    refine lv_icmp_ne (tgt := 26) hx hb dX8_lackForCopy_21 (by decide) (fun hb3 => ?_) (fun hb3 => ?_)
    · have hf := ifF hb3 hf
      refine lv_iload_n hx hb dX8_lackForCopy_26 rfl (lv_at hl 1 rfl) ?_
      refine lv_bipush (v := (-2)) hx hb dX8_lackForCopy_27 (by decide) ?_
      refine lv_icmp_eq (tgt := 39) hx hb dX8_lackForCopy_29 (by decide) (fun hb4 => ?_) (fun hb4 => ?_)
      · have hf := ifT hb4 hf
        refine lv_bipush (v := (-2)) hx hb dX8_lackForCopy_39 (by decide) ?_
        have hf := Option.some.inj hf
        subst hf
        exact hQ _ _ _ _ dX8_lackForCopy_41 hP hS
      · have hf := ifF hb4 hf
        refine lv_iload hx hb dX8_lackForCopy_32 (lv_at hl 0 rfl) ?_
        refine lv_bipush (v := (-2)) hx hb dX8_lackForCopy_34 (by decide) ?_
        refine lv_icmp_ne (tgt := 42) hx hb dX8_lackForCopy_36 (by decide) (fun hb5 => ?_) (fun hb5 => ?_)
        · have hf := ifF hb5 hf
          refine lv_iload_n hx hb dX8_lackForCopy_42 rfl (lv_at hl 1 rfl) ?_
          refine lv_bipush (v := (-3)) hx hb dX8_lackForCopy_43 (by decide) ?_
          refine lv_icmp_eq (tgt := 55) hx hb dX8_lackForCopy_45 (by decide) (fun hb6 => ?_) (fun hb6 => ?_)
          · have hf := ifT hb6 hf
            refine lv_bipush (v := (-3)) hx hb dX8_lackForCopy_55 (by decide) ?_
            have hf := Option.some.inj hf
            subst hf
            exact hQ _ _ _ _ dX8_lackForCopy_57 hP hS
          · have hf := ifF hb6 hf
            refine lv_iload hx hb dX8_lackForCopy_48 (lv_at hl 0 rfl) ?_
            refine lv_bipush (v := (-3)) hx hb dX8_lackForCopy_50 (by decide) ?_
            refine lv_icmp_ne (tgt := 58) hx hb dX8_lackForCopy_52 (by decide) (fun hb7 => ?_) (fun hb7 => ?_)
            · have hf := ifF hb7 hf
              refine lv_aload_n hx hb dX8_lackForCopy_58 rfl (lv_at hl 2 rfl) ?_
              refine zg_X8_11 hx hb C hP (by decide) lay_0 rfl dX8_lackForCopy_59 ?_
              refine lv_iload_n hx hb dX8_lackForCopy_62 rfl (lv_at hl 3 rfl) ?_
              obtain ⟨hc8, hf⟩ := chk_some hf
              refine zz_shelf hx hb C hP (inb_vp hc8) dX8_lackForCopy_63 (fun r10 er10 hr10 => ?_)
              have hf := bnd_at r10 er10 hf
              refine zg_X8_118 hx hb C hP (lts0 hr10) (lay_s0 hr10) rfl dX8_lackForCopy_64 ?_
              refine lv_aload_n hx hb dX8_lackForCopy_67 rfl (lv_at hl 2 rfl) ?_
              refine zg_X8_11 hx hb C hP (by decide) lay_0 rfl dX8_lackForCopy_68 ?_
              refine lv_iload_n hx hb dX8_lackForCopy_71 rfl (lv_at hl 4 rfl) ?_
              obtain ⟨hc10, hf⟩ := chk_some hf
              refine zz_shelf hx hb C hP (inb_vp hc10) dX8_lackForCopy_72 (fun r12 er12 hr12 => ?_)
              have hf := bnd_at r12 er12 hf
              refine zg_X8_118 hx hb C hP (lts0 hr12) (lay_s0 hr12) rfl dX8_lackForCopy_73 ?_
              refine lv_icmp_ne (tgt := 83) hx hb dX8_lackForCopy_76 (by decide) (fun hb12 => ?_) (fun hb12 => ?_)
              · have hf := ifF hb12 hf
                refine lv_bipush (v := (-2)) hx hb dX8_lackForCopy_83 (by decide) ?_
                have hf := Option.some.inj hf
                subst hf
                exact hQ _ _ _ _ dX8_lackForCopy_85 hP hS
              · have hf := ifT hb12 hf
                refine lv_iconst (v := 0) hx hb dX8_lackForCopy_79 (by decide) ?_
                refine lv_goto (tgt := 85) hx hb dX8_lackForCopy_80 (by decide) ?_
                have hf := Option.some.inj hf
                subst hf
                exact hQ _ _ _ _ dX8_lackForCopy_85 hP hS
            · have hf := ifT hb7 hf
              refine lv_bipush (v := (-3)) hx hb dX8_lackForCopy_55 (by decide) ?_
              have hf := Option.some.inj hf
              subst hf
              exact hQ _ _ _ _ dX8_lackForCopy_57 hP hS
        · have hf := ifT hb5 hf
          refine lv_bipush (v := (-2)) hx hb dX8_lackForCopy_39 (by decide) ?_
          have hf := Option.some.inj hf
          subst hf
          exact hQ _ _ _ _ dX8_lackForCopy_41 hP hS
    · have hf := ifT hb3 hf
      refine lv_iconst (v := (-1)) hx hb dX8_lackForCopy_24 (by decide) ?_
      have hf := Option.some.inj hf
      subst hf
      exact hQ _ _ _ _ dX8_lackForCopy_25 hP hS
set_option maxHeartbeats 4000000 in
set_option maxRecDepth 100000 in
theorem c_X8_copy (l : Launch) {D : va_G} {a : Nat → Nat} {cA : Nat → ClassId} {A : Nat → Prop} {sa : Nat → Nat} (hDA : DA a A) {σ : PH} {d : PD} (p1 : Int32) (p2 : Int32) (p3 : Int32) (p4 : Int32) (p5 : Int32) {u : Int32 × PH} (hf : f_X8_copy σ p1 p2 p3 p4 p5 = some u) : CTi l yX8_copy cX8_copy 7 (some .int) 3 65 D a cA A sa [.ref (a 0), .int p1, .int p2, .int p3, .int p4, .int p5] σ d u.1 u.2 d := by
  refine zz_metI zpl_X8 hDA (Nat.le_of_ble_eq_true rfl) ?_
  intro p e R s m args below meth c Q ls hx hb hml C hRf hRl hQ hP hS hl
  have hl : lv_has ls 7 [(0, .ref (a 0)), (1, .int p1), (2, .int p2), (3, .int p3), (4, .int p4), (5, .int p5)] := hl
  unfold f_X8_copy at hf
  refine lv_aload_n hx hb dX8_copy_0 rfl (lv_at hl 0 rfl) ?_
  refine lv_iload_n hx hb dX8_copy_1 rfl (lv_at hl 1 rfl) ?_
  refine lv_iload_n hx hb dX8_copy_2 rfl (lv_at hl 2 rfl) ?_
  obtain ⟨u1, hzu1, hf⟩ := obd_some hf
  refine zz_callVi (rest := []) hx hb hml C hP hS (c_X8_lackForCopy l hDA p1 p2 hzu1) zw_X8_91 ⟨Nat.le_trans (Nat.le_of_ble_eq_true rfl) hRf, Nat.le_trans (Nat.le_of_ble_eq_true rfl) hRl⟩ (by decide) lay_0 rfl rfl hl.1 (Nat.le_of_ble_eq_true rfl) ⟨Nat.zero_le _, Nat.zero_le _⟩ rfl dX8_copy_3 (fun H locs hP hS => ?_)
  refine lv_istore (lv' := [(6, .int u1), (0, .ref (a 0)), (1, .int p1), (2, .int p2), (3, .int p3), (4, .int p4), (5, .int p5)]) hx hb dX8_copy_6 hl (by decide) rfl (fun ls hl => ?_)
  refine lv_iload hx hb dX8_copy_8 (lv_at hl 0 rfl) ?_
  refine lv_if_eq (tgt := 20) hx hb dX8_copy_10 (by decide) (fun hb1 => ?_) (fun hb1 => ?_)
  · have hf := ifT hb1 hf
    refine lv_iload hx hb dX8_copy_20 (lv_at hl 6 rfl) ?_
    refine lv_if_ge (tgt := 32) hx hb dX8_copy_22 (by decide) (fun hb2 => ?_) (fun hb2 => ?_)
    · have hf := ifT hb2 hf
      refine lv_aload_n hx hb dX8_copy_32 rfl (lv_at hl 1 rfl) ?_
      refine zg_X8_11 hx hb C hP (by decide) lay_0 rfl dX8_copy_33 ?_
      refine lv_iload_n hx hb dX8_copy_36 rfl (lv_at hl 2 rfl) ?_
      obtain ⟨hc3, hf⟩ := chk_some hf
      refine zz_shelf hx hb C hP (inb_vp hc3) dX8_copy_37 (fun r5 er5 hr5 => ?_)
      have hf := bnd_at r5 er5 hf
      refine lv_iload_n hx hb dX8_copy_38 rfl (lv_at hl 4 rfl) ?_
      refine lv_iload hx hb dX8_copy_39 (lv_at hl 6 rfl) ?_
      obtain ⟨u6, hzu6⟩ : ∃ z, z = f_X4_hasElements σ r5 p3 p5 := ⟨_, rfl⟩
      have hf := bnd_at u6 hzu6 hf
      refine zz_callVi (rest := []) hx hb hml C hP hS (c_X4_hasElements l hDA (sh0 := r5) hr5 p3 p5 hzu6.symm) zw_X8_95 ⟨Nat.le_trans (Nat.le_of_ble_eq_true rfl) hRf, Nat.le_trans (Nat.le_of_ble_eq_true rfl) hRl⟩ (lts0 hr5) (lay_s0 hr5) rfl rfl hl.1 (Nat.le_of_ble_eq_true rfl) ⟨Nat.zero_le _, Nat.zero_le _⟩ rfl dX8_copy_41 (fun H locs hP hS => ?_)
      refine lv_if_eq (tgt := 63) hx hb dX8_copy_44 (by decide) (fun hb6 => ?_) (fun hb6 => ?_)
      · have hf := ifT hb6 hf
        refine lv_aload_n hx hb dX8_copy_63 rfl (lv_at hl 1 rfl) ?_
        refine lv_bipush (v := (-5)) hx hb dX8_copy_64 (by decide) ?_
        obtain ⟨u8, hzu8, hf⟩ := obd_some hf
        refine zz_callVi (rest := []) hx hb hml C hP hS (c_X8_refuse l hDA (-5) hzu8) zw_X8_73 ⟨Nat.le_trans (Nat.le_of_ble_eq_true rfl) hRf, Nat.le_trans (Nat.le_of_ble_eq_true rfl) hRl⟩ (by decide) lay_0 rfl rfl hl.1 (Nat.le_of_ble_eq_true rfl) ⟨Nat.zero_le _, Nat.zero_le _⟩ rfl dX8_copy_66 (fun H locs hP hS => ?_)
        have hf := Option.some.inj hf
        subst hf
        exact hQ _ _ _ _ dX8_copy_69 hP hS
      · have hf := ifF hb6 hf
        refine lv_aload_n hx hb dX8_copy_47 rfl (lv_at hl 1 rfl) ?_
        refine zg_X8_11 hx hb C hP (by decide) lay_0 rfl dX8_copy_48 ?_
        refine lv_iload_n hx hb dX8_copy_51 rfl (lv_at hl 3 rfl) ?_
        obtain ⟨hc8, hf⟩ := chk_some hf
        refine zz_shelf hx hb C hP (inb_vp hc8) dX8_copy_52 (fun r10 er10 hr10 => ?_)
        have hf := bnd_at r10 er10 hf
        refine lv_iload hx hb dX8_copy_53 (lv_at hl 5 rfl) ?_
        refine lv_iload hx hb dX8_copy_55 (lv_at hl 6 rfl) ?_
        obtain ⟨u11, hzu11⟩ : ∃ z, z = f_X4_hasElements σ r10 p4 p5 := ⟨_, rfl⟩
        have hf := bnd_at u11 hzu11 hf
        refine zz_callVi (rest := []) hx hb hml C hP hS (c_X4_hasElements l hDA (sh0 := r10) hr10 p4 p5 hzu11.symm) zw_X8_95 ⟨Nat.le_trans (Nat.le_of_ble_eq_true rfl) hRf, Nat.le_trans (Nat.le_of_ble_eq_true rfl) hRl⟩ (lts0 hr10) (lay_s0 hr10) rfl rfl hl.1 (Nat.le_of_ble_eq_true rfl) ⟨Nat.zero_le _, Nat.zero_le _⟩ rfl dX8_copy_57 (fun H locs hP hS => ?_)
        refine lv_if_ne (tgt := 70) hx hb dX8_copy_60 (by decide) (fun hb11 => ?_) (fun hb11 => ?_)
        · have hf := ifF hb11 hf
          refine lv_aload_n hx hb dX8_copy_70 rfl (lv_at hl 1 rfl) ?_
          refine zg_X8_11 hx hb C hP (by decide) lay_0 rfl dX8_copy_71 ?_
          refine lv_iload_n hx hb dX8_copy_74 rfl (lv_at hl 2 rfl) ?_
          obtain ⟨hc12, hf⟩ := chk_some hf
          refine zz_shelf hx hb C hP (inb_vp hc12) dX8_copy_75 (fun r14 er14 hr14 => ?_)
          have hf := bnd_at r14 er14 hf
          refine zg_X8_99 hx hb C hP (lts0 hr14) (lay_s0 hr14) rfl dX8_copy_76 ?_
          refine lv_iload_n hx hb dX8_copy_79 rfl (lv_at hl 4 rfl) ?_
          refine lv_aload_n hx hb dX8_copy_80 rfl (lv_at hl 1 rfl) ?_
          refine zg_X8_11 hx hb C hP (by decide) lay_0 rfl dX8_copy_81 ?_
          refine lv_iload_n hx hb dX8_copy_84 rfl (lv_at hl 3 rfl) ?_
          obtain ⟨hc14, hf⟩ := chk_some hf
          refine zz_shelf hx hb C hP (inb_vp hc14) dX8_copy_85 (fun r16 er16 hr16 => ?_)
          have hf := bnd_at r16 er16 hf
          refine zg_X8_99 hx hb C hP (lts0 hr16) (lay_s0 hr16) rfl dX8_copy_86 ?_
          refine lv_iload hx hb dX8_copy_89 (lv_at hl 5 rfl) ?_
          refine lv_iload hx hb dX8_copy_91 (lv_at hl 6 rfl) ?_
          obtain ⟨hc16, hf⟩ := chk_some hf
          refine zz_cpyJ hx hb (hml.trans hl.1.symm) C hP hS (lts1 hr14) (lay_s1 hr14) (lts1 hr16) (lay_s1 hr16) hc16.1 hc16.2.1 hc16.2.2.1 hc16.2.2.2.1 hc16.2.2.2.2 km_X8_103 kv_arraycopyName kt_arraycopyName kn_J10 (Nat.le_trans (by decide) hRf) (Nat.le_trans (by decide +kernel) hRl) dX8_copy_93 (fun σ18 eσ18 H locs hP hS => ?_)
          have hf := bnd_at σ18 eσ18 hf
          refine lv_iconst (v := 1) hx hb dX8_copy_96 (by decide) ?_
          have hf := Option.some.inj hf
          subst hf
          exact hQ _ _ _ _ dX8_copy_97 hP hS
        · have hf := ifT hb11 hf
          refine lv_aload_n hx hb dX8_copy_63 rfl (lv_at hl 1 rfl) ?_
          refine lv_bipush (v := (-5)) hx hb dX8_copy_64 (by decide) ?_
          obtain ⟨u19, hzu19, hf⟩ := obd_some hf
          refine zz_callVi (rest := []) hx hb hml C hP hS (c_X8_refuse l hDA (-5) hzu19) zw_X8_73 ⟨Nat.le_trans (Nat.le_of_ble_eq_true rfl) hRf, Nat.le_trans (Nat.le_of_ble_eq_true rfl) hRl⟩ (by decide) lay_0 rfl rfl hl.1 (Nat.le_of_ble_eq_true rfl) ⟨Nat.zero_le _, Nat.zero_le _⟩ rfl dX8_copy_66 (fun H locs hP hS => ?_)
          have hf := Option.some.inj hf
          subst hf
          exact hQ _ _ _ _ dX8_copy_69 hP hS
    · have hf := ifF hb2 hf
      refine lv_aload_n hx hb dX8_copy_25 rfl (lv_at hl 1 rfl) ?_
      refine lv_bipush (v := (-4)) hx hb dX8_copy_26 (by decide) ?_
      obtain ⟨u20, hzu20, hf⟩ := obd_some hf
      refine zz_callVi (rest := []) hx hb hml C hP hS (c_X8_refuse l hDA (-4) hzu20) zw_X8_73 ⟨Nat.le_trans (Nat.le_of_ble_eq_true rfl) hRf, Nat.le_trans (Nat.le_of_ble_eq_true rfl) hRl⟩ (by decide) lay_0 rfl rfl hl.1 (Nat.le_of_ble_eq_true rfl) ⟨Nat.zero_le _, Nat.zero_le _⟩ rfl dX8_copy_28 (fun H locs hP hS => ?_)
      have hf := Option.some.inj hf
      subst hf
      exact hQ _ _ _ _ dX8_copy_31 hP hS
  · have hf := ifF hb1 hf
    refine lv_aload_n hx hb dX8_copy_13 rfl (lv_at hl 1 rfl) ?_
    refine lv_iload hx hb dX8_copy_14 (lv_at hl 0 rfl) ?_
    obtain ⟨u21, hzu21, hf⟩ := obd_some hf
    refine zz_callVi (rest := []) hx hb hml C hP hS (c_X8_refuse l hDA u1 hzu21) zw_X8_73 ⟨Nat.le_trans (Nat.le_of_ble_eq_true rfl) hRf, Nat.le_trans (Nat.le_of_ble_eq_true rfl) hRl⟩ (by decide) lay_0 rfl rfl hl.1 (Nat.le_of_ble_eq_true rfl) ⟨Nat.zero_le _, Nat.zero_le _⟩ rfl dX8_copy_16 (fun H locs hP hS => ?_)
    have hf := Option.some.inj hf
    subst hf
    exact hQ _ _ _ _ dX8_copy_19 hP hS
set_option maxHeartbeats 4000000 in
set_option maxRecDepth 100000 in
theorem c_X8_element (l : Launch) {D : va_G} {a : Nat → Nat} {cA : Nat → ClassId} {A : Nat → Prop} {sa : Nat → Nat} (hDA : DA a A) {σ : PH} {d : PD} (p1 : Int32) (p2 : Int32) {u : Int64} (hf : f_X8_element σ p1 p2 = some u) : CTl l yX8_element cX8_element 3 (some .long) 2 41 D a cA A sa [.ref (a 0), .int p1, .int p2] σ d u σ d := by
  refine zz_metL zpl_X8 hDA (Nat.le_of_ble_eq_true rfl) ?_
  intro p e R s m args below meth c Q ls hx hb hml C hRf hRl hQ hP hS hl
  have hl : lv_has ls 3 [(0, .ref (a 0)), (1, .int p1), (2, .int p2)] := hl
  unfold f_X8_element at hf
  refine lv_aload_n hx hb dX8_element_0 rfl (lv_at hl 0 rfl) ?_
  refine lv_iload_n hx hb dX8_element_1 rfl (lv_at hl 1 rfl) ?_
  obtain ⟨u1, hzu1, hf⟩ := obd_some hf
  refine zz_callVi (rest := []) hx hb hml C hP hS (c_X8_lackOfRow l hDA p1 hzu1) zw_X8_81 ⟨Nat.le_trans (Nat.le_of_ble_eq_true rfl) hRf, Nat.le_trans (Nat.le_of_ble_eq_true rfl) hRl⟩ (by decide) lay_0 rfl rfl hl.1 (Nat.le_of_ble_eq_true rfl) ⟨Nat.zero_le _, Nat.zero_le _⟩ rfl dX8_element_2 (fun H locs hP hS => ?_)
  refine lv_if_ne (tgt := 21) hx hb dX8_element_5 (by decide) (fun hb1 => ?_) (fun hb1 => ?_)
  · have hf := ifF hb1 hf
    refine lv_lconst (v := 0) hx hb dX8_element_21 (by decide) ?_
    have hf := Option.some.inj hf
    subst hf
    exact hQ _ _ _ _ dX8_element_22 hP hS
  · have hf := ifT hb1 hf
    refine lv_aload_n hx hb dX8_element_8 rfl (lv_at hl 0 rfl) ?_
    refine zg_X8_11 hx hb C hP (by decide) lay_0 rfl dX8_element_9 ?_
    refine lv_iload_n hx hb dX8_element_12 rfl (lv_at hl 1 rfl) ?_
    obtain ⟨hc2, hf⟩ := chk_some hf
    refine zz_shelf hx hb C hP (inb_vp hc2) dX8_element_13 (fun r4 er4 hr4 => ?_)
    have hf := bnd_at r4 er4 hf
    refine lv_iload_n hx hb dX8_element_14 rfl (lv_at hl 2 rfl) ?_
    obtain ⟨u5, hzu5⟩ : ∃ z, z = f_X4_hasElement σ r4 p2 := ⟨_, rfl⟩
    have hf := bnd_at u5 hzu5 hf
    refine zz_callVi (rest := []) hx hb hml C hP hS (c_X4_hasElement l hDA (sh0 := r4) hr4 p2 hzu5.symm) zw_X8_84 ⟨Nat.le_trans (Nat.le_of_ble_eq_true rfl) hRf, Nat.le_trans (Nat.le_of_ble_eq_true rfl) hRl⟩ (lts0 hr4) (lay_s0 hr4) rfl rfl hl.1 (Nat.le_of_ble_eq_true rfl) ⟨Nat.zero_le _, Nat.zero_le _⟩ rfl dX8_element_15 (fun H locs hP hS => ?_)
    refine lv_if_ne (tgt := 23) hx hb dX8_element_18 (by decide) (fun hb5 => ?_) (fun hb5 => ?_)
    · have hf := ifF hb5 hf
      refine lv_aload_n hx hb dX8_element_23 rfl (lv_at hl 0 rfl) ?_
      refine zg_X8_11 hx hb C hP (by decide) lay_0 rfl dX8_element_24 ?_
      refine lv_iload_n hx hb dX8_element_27 rfl (lv_at hl 1 rfl) ?_
      obtain ⟨hc6, hf⟩ := chk_some hf
      refine zz_shelf hx hb C hP (inb_vp hc6) dX8_element_28 (fun r8 er8 hr8 => ?_)
      have hf := bnd_at r8 er8 hf
      refine zg_X8_99 hx hb C hP (lts0 hr8) (lay_s0 hr8) rfl dX8_element_29 ?_
      refine lv_iload_n hx hb dX8_element_32 rfl (lv_at hl 2 rfl) ?_
      obtain ⟨hc8, hf⟩ := chk_some hf
      refine zz_lald hx hb C hP (lts1 hr8) (lay_s1 hr8) (inb_vp hc8) dX8_element_33 ?_
      have hf := Option.some.inj hf
      subst hf
      exact hQ _ _ _ _ dX8_element_34 hP hS
    · have hf := ifT hb5 hf
      refine lv_lconst (v := 0) hx hb dX8_element_21 (by decide) ?_
      have hf := Option.some.inj hf
      subst hf
      exact hQ _ _ _ _ dX8_element_22 hP hS
set_option maxHeartbeats 4000000 in
set_option maxRecDepth 100000 in
theorem c_X8_show (l : Launch) {D : va_G} {a : Nat → Nat} {cA : Nat → ClassId} {A : Nat → Prop} {sa : Nat → Nat} (hDA : DA a A) {σ : PH} {d : PD} (hd1 : isHall d.1) (p1 : Int32) (p2 : Int32) {u : Int32 × PH} (hf : f_X8_show σ d p1 p2 = some u) : CTi l yX8_show cX8_show 3 (some .int) 1 21 D a cA A sa [.ref (a 0), .int p1, .int p2] σ d u.1 u.2 d := by
  refine zz_metI zpl_X8 hDA (Nat.le_of_ble_eq_true rfl) ?_
  intro p e R s m args below meth c Q ls hx hb hml C hRf hRl hQ hP hS hl
  have hl : lv_has ls 3 [(0, .ref (a 0)), (1, .int p1), (2, .int p2)] := hl
  unfold f_X8_show at hf
  refine lv_iload_n hx hb dX8_show_0 rfl (lv_at hl 1 rfl) ?_
  obtain ⟨u1, hzu1⟩ : ∃ z, z = f_X8_isShelf p1 := ⟨_, rfl⟩
  have hf := bnd_at u1 hzu1 hf
  refine zz_callSi (rest := []) hx hb hml C hP hS (c_X8_isShelf l hDA p1 hzu1.symm) zw_X8_69 ⟨Nat.le_trans (Nat.le_of_ble_eq_true rfl) hRf, Nat.le_trans (Nat.le_of_ble_eq_true rfl) hRl⟩  rfl hl.1 (Nat.le_of_ble_eq_true rfl) ⟨Nat.zero_le _, Nat.zero_le _⟩ rfl dX8_show_1 (fun H locs hP hS => ?_)
  refine lv_if_eq (tgt := 26) hx hb dX8_show_4 (by decide) (fun hb1 => ?_) (fun hb1 => ?_)
  · have hf := ifT hb1 hf
    refine lv_aload_n hx hb dX8_show_26 rfl (lv_at hl 0 rfl) ?_
    refine lv_iconst (v := (-1)) hx hb dX8_show_27 (by decide) ?_
    obtain ⟨u3, hzu3, hf⟩ := obd_some hf
    refine zz_callVi (rest := []) hx hb hml C hP hS (c_X8_refuse l hDA (-1) hzu3) zw_X8_73 ⟨Nat.le_trans (Nat.le_of_ble_eq_true rfl) hRf, Nat.le_trans (Nat.le_of_ble_eq_true rfl) hRl⟩ (by decide) lay_0 rfl rfl hl.1 (Nat.le_of_ble_eq_true rfl) ⟨Nat.zero_le _, Nat.zero_le _⟩ rfl dX8_show_28 (fun H locs hP hS => ?_)
    have hf := Option.some.inj hf
    subst hf
    exact hQ _ _ _ _ dX8_show_31 hP hS
  · have hf := ifF hb1 hf
    refine lv_iload_n hx hb dX8_show_7 rfl (lv_at hl 2 rfl) ?_
    refine lv_iconst (v := (-1)) hx hb dX8_show_8 (by decide) ?_
    have hJ32 : j_X8_show_32 σ p1 p2 = some u → ∀ (H : Heap) (locs : List Loc) (ls : Array Slot), lv_has ls 3 [(0, .ref (a 0)), (1, .int p1), (2, .int p2)] → va_P D vwCl (wl a cA σ d) H → va_S A s.heap H locs → W p l e R s m args below meth c H locs 0 0 Q (F0 m 32 ls []) := by
      intro  hf H locs ls hl hP hS
      unfold j_X8_show_32 at hf
      refine lv_aload_n hx hb dX8_show_32 rfl (lv_at hl 0 rfl) ?_
      refine zg_X8_11 hx hb C hP (by decide) lay_0 rfl dX8_show_33 ?_
      refine lv_iload_n hx hb dX8_show_36 rfl (lv_at hl 1 rfl) ?_
      obtain ⟨hc3, hf⟩ := chk_some hf
      refine zz_shelf hx hb C hP (inb_vp hc3) dX8_show_37 (fun r5 er5 hr5 => ?_)
      have hf := bnd_at r5 er5 hf
      refine lv_iload_n hx hb dX8_show_38 rfl (lv_at hl 2 rfl) ?_
      refine zp_X8_118 hx hb C hP hS (lts0 hr5) (lay_s0 hr5) rfl dX8_show_39 (fun σ6 eσ6 H locs hP hS => ?_)
      have hf := bnd_at σ6 eσ6 hf
      refine lv_iload_n hx hb dX8_show_42 rfl (lv_at hl 2 rfl) ?_
      refine lv_iconst (v := (-1)) hx hb dX8_show_43 (by decide) ?_
      refine lv_icmp_ne (tgt := 51) hx hb dX8_show_44 (by decide) (fun hb6 => ?_) (fun hb6 => ?_)
      · have hf := ifF hb6 hf
        refine lv_iconst (v := 1) hx hb dX8_show_51 (by decide) ?_
        have hf := Option.some.inj hf
        subst hf
        exact hQ _ _ _ _ dX8_show_52 hP hS
      · have hf := ifT hb6 hf
        refine lv_iconst (v := 0) hx hb dX8_show_47 (by decide) ?_
        refine lv_goto (tgt := 52) hx hb dX8_show_48 (by decide) ?_
        have hf := Option.some.inj hf
        subst hf
        exact hQ _ _ _ _ dX8_show_52 hP hS
    refine lv_icmp_eq (tgt := 32) hx hb dX8_show_9 (by decide) (fun hb7 => ?_) (fun hb7 => ?_)
    · have hf := ifT hb7 hf
      exact hJ32  hf _ _ _ (lv_sub hl [0, 1, 2] rfl) hP hS
    · have hf := ifF hb7 hf
      refine lv_aload_n hx hb dX8_show_12 rfl (lv_at hl 0 rfl) ?_
      refine zg_X8_50 hx hb C hP (by decide) lay_0 rfl dX8_show_13 ?_
      refine zg_X8_109 hx hb C hP (lth0 hd1) (lay_h0 hd1) rfl dX8_show_16 ?_
      refine lv_iload_n hx hb dX8_show_19 rfl (lv_at hl 2 rfl) ?_
      obtain ⟨u9, hzu9⟩ : ∃ z, z = f_X0_has σ d.1 p2 := ⟨_, rfl⟩
      have hf := bnd_at u9 hzu9 hf
      refine zz_callVi (rest := []) hx hb hml C hP hS (c_X0_has l hDA (h := d.1) hd1 p2 hzu9.symm) zw_X8_113 ⟨Nat.le_trans (Nat.le_of_ble_eq_true rfl) hRf, Nat.le_trans (Nat.le_of_ble_eq_true rfl) hRl⟩ (lth hd1 1 (by decide)) (lay_h1 hd1) rfl rfl hl.1 (Nat.le_of_ble_eq_true rfl) ⟨Nat.zero_le _, Nat.zero_le _⟩ rfl dX8_show_20 (fun H locs hP hS => ?_)
      refine lv_if_ne (tgt := 32) hx hb dX8_show_23 (by decide) (fun hb9 => ?_) (fun hb9 => ?_)
      · have hf := ifF hb9 hf
        exact hJ32  hf _ _ _ (lv_sub hl [0, 1, 2] rfl) hP hS
      · have hf := ifT hb9 hf
        refine lv_aload_n hx hb dX8_show_26 rfl (lv_at hl 0 rfl) ?_
        refine lv_iconst (v := (-1)) hx hb dX8_show_27 (by decide) ?_
        obtain ⟨u11, hzu11, hf⟩ := obd_some hf
        refine zz_callVi (rest := []) hx hb hml C hP hS (c_X8_refuse l hDA (-1) hzu11) zw_X8_73 ⟨Nat.le_trans (Nat.le_of_ble_eq_true rfl) hRf, Nat.le_trans (Nat.le_of_ble_eq_true rfl) hRl⟩ (by decide) lay_0 rfl rfl hl.1 (Nat.le_of_ble_eq_true rfl) ⟨Nat.zero_le _, Nat.zero_le _⟩ rfl dX8_show_28 (fun H locs hP hS => ?_)
        have hf := Option.some.inj hf
        subst hf
        exact hQ _ _ _ _ dX8_show_31 hP hS
set_option maxHeartbeats 4000000 in
set_option maxRecDepth 100000 in
theorem c_X8_holds (l : Launch) {D : va_G} {a : Nat → Nat} {cA : Nat → ClassId} {A : Nat → Prop} {sa : Nat → Nat} (hDA : DA a A) {σ : PH} {d : PD} (p1 : Int32) {u : Int32} (hf : f_X8_holds σ p1 = some u) : CTi l yX8_holds cX8_holds 2 (some .int) 1 20 D a cA A sa [.ref (a 0), .int p1] σ d u σ d := by
  refine zz_metI zpl_X8 hDA (Nat.le_of_ble_eq_true rfl) ?_
  intro p e R s m args below meth c Q ls hx hb hml C hRf hRl hQ hP hS hl
  have hl : lv_has ls 2 [(0, .ref (a 0)), (1, .int p1)] := hl
  unfold f_X8_holds at hf
  refine lv_iload_n hx hb dX8_holds_0 rfl (lv_at hl 1 rfl) ?_
  obtain ⟨u1, hzu1⟩ : ∃ z, z = f_X8_isShelf p1 := ⟨_, rfl⟩
  have hf := bnd_at u1 hzu1 hf
  refine zz_callSi (rest := []) hx hb hml C hP hS (c_X8_isShelf l hDA p1 hzu1.symm) zw_X8_69 ⟨Nat.le_trans (Nat.le_of_ble_eq_true rfl) hRf, Nat.le_trans (Nat.le_of_ble_eq_true rfl) hRl⟩  rfl hl.1 (Nat.le_of_ble_eq_true rfl) ⟨Nat.zero_le _, Nat.zero_le _⟩ rfl dX8_holds_1 (fun H locs hP hS => ?_)
  refine lv_if_eq (tgt := 19) hx hb dX8_holds_4 (by decide) (fun hb1 => ?_) (fun hb1 => ?_)
  · have hf := ifT hb1 hf
    refine lv_iconst (v := (-1)) hx hb dX8_holds_19 (by decide) ?_
    have hf := Option.some.inj hf
    subst hf
    exact hQ _ _ _ _ dX8_holds_20 hP hS
  · have hf := ifF hb1 hf
    refine lv_aload_n hx hb dX8_holds_7 rfl (lv_at hl 0 rfl) ?_
    refine zg_X8_11 hx hb C hP (by decide) lay_0 rfl dX8_holds_8 ?_
    refine lv_iload_n hx hb dX8_holds_11 rfl (lv_at hl 1 rfl) ?_
    obtain ⟨hc2, hf⟩ := chk_some hf
    refine zz_shelf hx hb C hP (inb_vp hc2) dX8_holds_12 (fun r4 er4 hr4 => ?_)
    have hf := bnd_at r4 er4 hf
    refine zg_X8_118 hx hb C hP (lts0 hr4) (lay_s0 hr4) rfl dX8_holds_13 ?_
    refine lv_goto (tgt := 20) hx hb dX8_holds_16 (by decide) ?_
    have hf := Option.some.inj hf
    subst hf
    exact hQ _ _ _ _ dX8_holds_20 hP hS
set_option maxHeartbeats 4000000 in
set_option maxRecDepth 100000 in
theorem c_X8_says (l : Launch) {D : va_G} {a : Nat → Nat} {cA : Nat → ClassId} {A : Nat → Prop} {sa : Nat → Nat} (hDA : DA a A) {σ : PH} {d : PD} (hd1 : isHall d.1) (p1 : Int32) (p2 : Int32) {u : Int32 × PH} (hf : f_X8_says σ d p1 p2 = some u) : CTi l yX8_says cX8_says 4 (some .int) 2 44 D a cA A sa [.ref (a 0), .int p1, .int p2] σ d u.1 u.2 d := by
  refine zz_metI zpl_X8 hDA (Nat.le_of_ble_eq_true rfl) ?_
  intro p e R s m args below meth c Q ls hx hb hml C hRf hRl hQ hP hS hl
  have hl : lv_has ls 4 [(0, .ref (a 0)), (1, .int p1), (2, .int p2)] := hl
  unfold f_X8_says at hf
  refine lv_iload_n hx hb dX8_says_0 rfl (lv_at hl 1 rfl) ?_
  obtain ⟨u1, hzu1⟩ : ∃ z, z = f_X8_isShelf p1 := ⟨_, rfl⟩
  have hf := bnd_at u1 hzu1 hf
  refine zz_callSi (rest := []) hx hb hml C hP hS (c_X8_isShelf l hDA p1 hzu1.symm) zw_X8_69 ⟨Nat.le_trans (Nat.le_of_ble_eq_true rfl) hRf, Nat.le_trans (Nat.le_of_ble_eq_true rfl) hRl⟩  rfl hl.1 (Nat.le_of_ble_eq_true rfl) ⟨Nat.zero_le _, Nat.zero_le _⟩ rfl dX8_says_1 (fun H locs hP hS => ?_)
  refine lv_if_eq (tgt := 14) hx hb dX8_says_4 (by decide) (fun hb1 => ?_) (fun hb1 => ?_)
  · have hf := ifT hb1 hf
    refine lv_aload_n hx hb dX8_says_14 rfl (lv_at hl 0 rfl) ?_
    refine lv_iconst (v := (-1)) hx hb dX8_says_15 (by decide) ?_
    obtain ⟨u3, hzu3, hf⟩ := obd_some hf
    refine zz_callVi (rest := []) hx hb hml C hP hS (c_X8_refuse l hDA (-1) hzu3) zw_X8_73 ⟨Nat.le_trans (Nat.le_of_ble_eq_true rfl) hRf, Nat.le_trans (Nat.le_of_ble_eq_true rfl) hRl⟩ (by decide) lay_0 rfl rfl hl.1 (Nat.le_of_ble_eq_true rfl) ⟨Nat.zero_le _, Nat.zero_le _⟩ rfl dX8_says_16 (fun H locs hP hS => ?_)
    have hf := Option.some.inj hf
    subst hf
    exact hQ _ _ _ _ dX8_says_19 hP hS
  · have hf := ifF hb1 hf
    refine lv_iload_n hx hb dX8_says_7 rfl (lv_at hl 2 rfl) ?_
    obtain ⟨u4, hzu4⟩ : ∃ z, z = f_X0_isKind p2 := ⟨_, rfl⟩
    have hf := bnd_at u4 hzu4 hf
    refine zz_callSi (rest := []) hx hb hml C hP hS (c_X0_isKind l hDA p2 hzu4.symm) zw_X8_121 ⟨Nat.le_trans (Nat.le_of_ble_eq_true rfl) hRf, Nat.le_trans (Nat.le_of_ble_eq_true rfl) hRl⟩  rfl hl.1 (Nat.le_of_ble_eq_true rfl) ⟨Nat.zero_le _, Nat.zero_le _⟩ rfl dX8_says_8 (fun H locs hP hS => ?_)
    refine lv_if_ne (tgt := 20) hx hb dX8_says_11 (by decide) (fun hb4 => ?_) (fun hb4 => ?_)
    · have hf := ifF hb4 hf
      refine lv_aload_n hx hb dX8_says_20 rfl (lv_at hl 0 rfl) ?_
      refine zg_X8_11 hx hb C hP (by decide) lay_0 rfl dX8_says_21 ?_
      refine lv_iload_n hx hb dX8_says_24 rfl (lv_at hl 1 rfl) ?_
      obtain ⟨hc5, hf⟩ := chk_some hf
      refine zz_shelf hx hb C hP (inb_vp hc5) dX8_says_25 (fun r7 er7 hr7 => ?_)
      have hf := bnd_at r7 er7 hf
      refine lv_astore_n (lv' := [(3, .ref (a r7)), (0, .ref (a 0)), (1, .int p1), (2, .int p2)]) hx hb dX8_says_26 rfl hl (by decide) rfl (fun ls hl => ?_)
      refine lv_aload_n hx hb dX8_says_27 rfl (lv_at hl 0 rfl) ?_
      obtain ⟨u8, hzu8⟩ : ∃ z, z = f_X4_holdsRow σ r7 := ⟨_, rfl⟩
      have hf := bnd_at u8 hzu8 hf
      refine zz_callVi (rest := []) hx hb hml C hP hS (c_X4_holdsRow l hDA (sh0 := r7) hr7 hzu8.symm) zw_X8_124 ⟨Nat.le_trans (Nat.le_of_ble_eq_true rfl) hRf, Nat.le_trans (Nat.le_of_ble_eq_true rfl) hRl⟩ (lts0 hr7) (lay_s0 hr7) rfl rfl hl.1 (Nat.le_of_ble_eq_true rfl) ⟨Nat.zero_le _, Nat.zero_le _⟩ rfl dX8_says_28 (fun H locs hP hS => ?_)
      refine lv_if_eq (tgt := 41) hx hb dX8_says_31 (by decide) (fun hb8 => ?_) (fun hb8 => ?_)
      · have hf := ifT hb8 hf
        refine lv_aload_n hx hb dX8_says_41 rfl (lv_at hl 1 rfl) ?_
        refine zg_X8_50 hx hb C hP (by decide) lay_0 rfl dX8_says_42 ?_
        refine zg_X8_109 hx hb C hP (lth0 hd1) (lay_h0 hd1) rfl dX8_says_45 ?_
        refine lv_aload_n hx hb dX8_says_48 rfl (lv_at hl 0 rfl) ?_
        refine zg_X8_118 hx hb C hP (lts0 hr7) (lay_s0 hr7) rfl dX8_says_49 ?_
        obtain ⟨u10, hzu10⟩ : ∃ z, z = f_X0_has σ d.1 (gI σ r7 0) := ⟨_, rfl⟩
        have hf := bnd_at u10 hzu10 hf
        refine zz_callVi (rest := []) hx hb hml C hP hS (c_X0_has l hDA (h := d.1) hd1 (gI σ r7 0) hzu10.symm) zw_X8_113 ⟨Nat.le_trans (Nat.le_of_ble_eq_true rfl) hRf, Nat.le_trans (Nat.le_of_ble_eq_true rfl) hRl⟩ (lth hd1 1 (by decide)) (lay_h1 hd1) rfl rfl hl.1 (Nat.le_of_ble_eq_true rfl) ⟨Nat.zero_le _, Nat.zero_le _⟩ rfl dX8_says_52 (fun H locs hP hS => ?_)
        refine lv_if_ne (tgt := 65) hx hb dX8_says_55 (by decide) (fun hb10 => ?_) (fun hb10 => ?_)
        · have hf := ifF hb10 hf
          refine lv_aload_n hx hb dX8_says_65 rfl (lv_at hl 1 rfl) ?_
          refine zg_X8_50 hx hb C hP (by decide) lay_0 rfl dX8_says_66 ?_
          refine zg_X8_109 hx hb C hP (lth0 hd1) (lay_h0 hd1) rfl dX8_says_69 ?_
          refine zg_X8_128 hx hb C hP (lth hd1 1 (by decide)) (lay_h1 hd1) rfl dX8_says_72 ?_
          refine lv_aload_n hx hb dX8_says_75 rfl (lv_at hl 0 rfl) ?_
          refine zg_X8_118 hx hb C hP (lts0 hr7) (lay_s0 hr7) rfl dX8_says_76 ?_
          obtain ⟨hc11, hf⟩ := chk_some hf
          refine zz_iald hx hb C hP (lth hd1 2 (by decide)) (lay_h2 hd1) (inb_vp hc11) dX8_says_79 ?_
          refine lv_iload_n hx hb dX8_says_80 rfl (lv_at hl 3 rfl) ?_
          obtain ⟨u13, hzu13, hf⟩ := obd_some hf
          refine zz_callSi (rest := []) hx hb hml C hP hS (c_X0_isUnder l hDA (gI σ (d.1 + 2) (gI σ r7 0).toNatClampNeg) p2 hzu13) zw_X8_131 ⟨Nat.le_trans (Nat.le_of_ble_eq_true rfl) hRf, Nat.le_trans (Nat.le_of_ble_eq_true rfl) hRl⟩  rfl hl.1 (Nat.le_of_ble_eq_true rfl) ⟨Nat.zero_le _, Nat.zero_le _⟩ rfl dX8_says_81 (fun H locs hP hS => ?_)
          refine lv_if_ne (tgt := 94) hx hb dX8_says_84 (by decide) (fun hb13 => ?_) (fun hb13 => ?_)
          · have hf := ifF hb13 hf
            refine lv_aload_n hx hb dX8_says_94 rfl (lv_at hl 1 rfl) ?_
            refine zg_X8_50 hx hb C hP (by decide) lay_0 rfl dX8_says_95 ?_
            refine zg_X8_109 hx hb C hP (lth0 hd1) (lay_h0 hd1) rfl dX8_says_98 ?_
            refine lv_aload_n hx hb dX8_says_101 rfl (lv_at hl 0 rfl) ?_
            refine zg_X8_118 hx hb C hP (lts0 hr7) (lay_s0 hr7) rfl dX8_says_102 ?_
            refine lv_iload_n hx hb dX8_says_105 rfl (lv_at hl 3 rfl) ?_
            obtain ⟨u15, hzu15, hf⟩ := obd_some hf
            refine zz_callVi (rest := []) hx hb hml C hP hS (c_X0_tellsOf l hDA (h := d.1) hd1 (gI σ r7 0) p2 hzu15) zw_X8_134 ⟨Nat.le_trans (Nat.le_of_ble_eq_true rfl) hRf, Nat.le_trans (Nat.le_of_ble_eq_true rfl) hRl⟩ (lth hd1 1 (by decide)) (lay_h1 hd1) rfl rfl hl.1 (Nat.le_of_ble_eq_true rfl) ⟨Nat.zero_le _, Nat.zero_le _⟩ rfl dX8_says_106 (fun H locs hP hS => ?_)
            have hf := Option.some.inj hf
            subst hf
            exact hQ _ _ _ _ dX8_says_109 hP hS
          · have hf := ifT hb13 hf
            refine lv_aload_n hx hb dX8_says_87 rfl (lv_at hl 1 rfl) ?_
            refine lv_bipush (v := (-2)) hx hb dX8_says_88 (by decide) ?_
            obtain ⟨u16, hzu16, hf⟩ := obd_some hf
            refine zz_callVi (rest := []) hx hb hml C hP hS (c_X8_refuse l hDA (-2) hzu16) zw_X8_73 ⟨Nat.le_trans (Nat.le_of_ble_eq_true rfl) hRf, Nat.le_trans (Nat.le_of_ble_eq_true rfl) hRl⟩ (by decide) lay_0 rfl rfl hl.1 (Nat.le_of_ble_eq_true rfl) ⟨Nat.zero_le _, Nat.zero_le _⟩ rfl dX8_says_90 (fun H locs hP hS => ?_)
            have hf := Option.some.inj hf
            subst hf
            exact hQ _ _ _ _ dX8_says_93 hP hS
        · have hf := ifT hb10 hf
          refine lv_aload_n hx hb dX8_says_58 rfl (lv_at hl 1 rfl) ?_
          refine lv_bipush (v := (-3)) hx hb dX8_says_59 (by decide) ?_
          obtain ⟨u17, hzu17, hf⟩ := obd_some hf
          refine zz_callVi (rest := []) hx hb hml C hP hS (c_X8_refuse l hDA (-3) hzu17) zw_X8_73 ⟨Nat.le_trans (Nat.le_of_ble_eq_true rfl) hRf, Nat.le_trans (Nat.le_of_ble_eq_true rfl) hRl⟩ (by decide) lay_0 rfl rfl hl.1 (Nat.le_of_ble_eq_true rfl) ⟨Nat.zero_le _, Nat.zero_le _⟩ rfl dX8_says_61 (fun H locs hP hS => ?_)
          have hf := Option.some.inj hf
          subst hf
          exact hQ _ _ _ _ dX8_says_64 hP hS
      · have hf := ifF hb8 hf
        refine lv_aload_n hx hb dX8_says_34 rfl (lv_at hl 1 rfl) ?_
        refine lv_bipush (v := (-2)) hx hb dX8_says_35 (by decide) ?_
        obtain ⟨u18, hzu18, hf⟩ := obd_some hf
        refine zz_callVi (rest := []) hx hb hml C hP hS (c_X8_refuse l hDA (-2) hzu18) zw_X8_73 ⟨Nat.le_trans (Nat.le_of_ble_eq_true rfl) hRf, Nat.le_trans (Nat.le_of_ble_eq_true rfl) hRl⟩ (by decide) lay_0 rfl rfl hl.1 (Nat.le_of_ble_eq_true rfl) ⟨Nat.zero_le _, Nat.zero_le _⟩ rfl dX8_says_37 (fun H locs hP hS => ?_)
        have hf := Option.some.inj hf
        subst hf
        exact hQ _ _ _ _ dX8_says_40 hP hS
    · have hf := ifT hb4 hf
      refine lv_aload_n hx hb dX8_says_14 rfl (lv_at hl 0 rfl) ?_
      refine lv_iconst (v := (-1)) hx hb dX8_says_15 (by decide) ?_
      obtain ⟨u19, hzu19, hf⟩ := obd_some hf
      refine zz_callVi (rest := []) hx hb hml C hP hS (c_X8_refuse l hDA (-1) hzu19) zw_X8_73 ⟨Nat.le_trans (Nat.le_of_ble_eq_true rfl) hRf, Nat.le_trans (Nat.le_of_ble_eq_true rfl) hRl⟩ (by decide) lay_0 rfl rfl hl.1 (Nat.le_of_ble_eq_true rfl) ⟨Nat.zero_le _, Nat.zero_le _⟩ rfl dX8_says_16 (fun H locs hP hS => ?_)
      have hf := Option.some.inj hf
      subst hf
      exact hQ _ _ _ _ dX8_says_19 hP hS
set_option maxHeartbeats 4000000 in
set_option maxRecDepth 100000 in
theorem c_X8_singer (l : Launch) {D : va_G} {a : Nat → Nat} {cA : Nat → ClassId} {A : Nat → Prop} {sa : Nat → Nat} (hDA : DA a A) {σ : PH} {d : PD} (hd1 : isHall d.1) (p1 : Int32) (p2 : Int32) (p3 : Int32) {u : Int32 × PH} (hf : f_X8_singer σ d p1 p2 p3 = some u) : CTi l yX8_singer cX8_singer 4 (some .int) 5 114 D a cA A sa [.ref (a 0), .int p1, .int p2, .int p3] σ d u.1 u.2 d := by
  refine zz_metI zpl_X8 hDA (Nat.le_of_ble_eq_true rfl) ?_
  intro p e R s m args below meth c Q ls hx hb hml C hRf hRl hQ hP hS hl
  have hl : lv_has ls 4 [(0, .ref (a 0)), (1, .int p1), (2, .int p2), (3, .int p3)] := hl
  unfold f_X8_singer at hf
  refine lv_iload_n hx hb dX8_singer_0 rfl (lv_at hl 1 rfl) ?_
  obtain ⟨u1, hzu1⟩ : ∃ z, z = f_X0_isKind p1 := ⟨_, rfl⟩
  have hf := bnd_at u1 hzu1 hf
  refine zz_callSi (rest := []) hx hb hml C hP hS (c_X0_isKind l hDA p1 hzu1.symm) zw_X8_121 ⟨Nat.le_trans (Nat.le_of_ble_eq_true rfl) hRf, Nat.le_trans (Nat.le_of_ble_eq_true rfl) hRl⟩  rfl hl.1 (Nat.le_of_ble_eq_true rfl) ⟨Nat.zero_le _, Nat.zero_le _⟩ rfl dX8_singer_1 (fun H locs hP hS => ?_)
  refine lv_if_ne (tgt := 13) hx hb dX8_singer_4 (by decide) (fun hb1 => ?_) (fun hb1 => ?_)
  · have hf := ifF hb1 hf
    refine lv_iload_n hx hb dX8_singer_13 rfl (lv_at hl 2 rfl) ?_
    obtain ⟨u3, hzu3⟩ : ∃ z, z = f_X0_isA p2 := ⟨_, rfl⟩
    have hf := bnd_at u3 hzu3 hf
    refine zz_callSi (rest := []) hx hb hml C hP hS (c_X0_isA l hDA p2 hzu3.symm) zw_X8_137 ⟨Nat.le_trans (Nat.le_of_ble_eq_true rfl) hRf, Nat.le_trans (Nat.le_of_ble_eq_true rfl) hRl⟩  rfl hl.1 (Nat.le_of_ble_eq_true rfl) ⟨Nat.zero_le _, Nat.zero_le _⟩ rfl dX8_singer_14 (fun H locs hP hS => ?_)
    refine lv_if_eq (tgt := 27) hx hb dX8_singer_17 (by decide) (fun hb3 => ?_) (fun hb3 => ?_)
    · have hf := ifT hb3 hf
      refine lv_aload_n hx hb dX8_singer_27 rfl (lv_at hl 0 rfl) ?_
      refine lv_bipush (v := (-6)) hx hb dX8_singer_28 (by decide) ?_
      obtain ⟨u5, hzu5, hf⟩ := obd_some hf
      refine zz_callVi (rest := []) hx hb hml C hP hS (c_X8_refuse l hDA (-6) hzu5) zw_X8_73 ⟨Nat.le_trans (Nat.le_of_ble_eq_true rfl) hRf, Nat.le_trans (Nat.le_of_ble_eq_true rfl) hRl⟩ (by decide) lay_0 rfl rfl hl.1 (Nat.le_of_ble_eq_true rfl) ⟨Nat.zero_le _, Nat.zero_le _⟩ rfl dX8_singer_30 (fun H locs hP hS => ?_)
      have hf := Option.some.inj hf
      subst hf
      exact hQ _ _ _ _ dX8_singer_33 hP hS
    · have hf := ifF hb3 hf
      refine lv_iload_n hx hb dX8_singer_20 rfl (lv_at hl 3 rfl) ?_
      obtain ⟨u6, hzu6⟩ : ∃ z, z = f_X0_isOdds p3 := ⟨_, rfl⟩
      have hf := bnd_at u6 hzu6 hf
      refine zz_callSi (rest := []) hx hb hml C hP hS (c_X0_isOdds l hDA p3 hzu6.symm) zw_X8_140 ⟨Nat.le_trans (Nat.le_of_ble_eq_true rfl) hRf, Nat.le_trans (Nat.le_of_ble_eq_true rfl) hRl⟩  rfl hl.1 (Nat.le_of_ble_eq_true rfl) ⟨Nat.zero_le _, Nat.zero_le _⟩ rfl dX8_singer_21 (fun H locs hP hS => ?_)
      refine lv_if_ne (tgt := 34) hx hb dX8_singer_24 (by decide) (fun hb6 => ?_) (fun hb6 => ?_)
      · have hf := ifF hb6 hf
        refine lv_aload_n hx hb dX8_singer_34 rfl (lv_at hl 0 rfl) ?_
        refine zg_X8_50 hx hb C hP (by decide) lay_0 rfl dX8_singer_35 ?_
        refine zg_X8_109 hx hb C hP (lth0 hd1) (lay_h0 hd1) rfl dX8_singer_38 ?_
        obtain ⟨u8, hzu8⟩ : ∃ z, z = f_X0_hasRoom σ d.1 := ⟨_, rfl⟩
        have hf := bnd_at u8 hzu8 hf
        refine zz_callVi (rest := []) hx hb hml C hP hS (c_X0_hasRoom l hDA (h := d.1) hd1 hzu8.symm) zw_X8_143 ⟨Nat.le_trans (Nat.le_of_ble_eq_true rfl) hRf, Nat.le_trans (Nat.le_of_ble_eq_true rfl) hRl⟩ (lth hd1 1 (by decide)) (lay_h1 hd1) rfl rfl hl.1 (Nat.le_of_ble_eq_true rfl) ⟨Nat.zero_le _, Nat.zero_le _⟩ rfl dX8_singer_41 (fun H locs hP hS => ?_)
        refine lv_if_ne (tgt := 54) hx hb dX8_singer_44 (by decide) (fun hb8 => ?_) (fun hb8 => ?_)
        · have hf := ifF hb8 hf
          refine lv_aload_n hx hb dX8_singer_54 rfl (lv_at hl 0 rfl) ?_
          refine zg_X8_50 hx hb C hP (by decide) lay_0 rfl dX8_singer_55 ?_
          refine lv_iload_n hx hb dX8_singer_58 rfl (lv_at hl 1 rfl) ?_
          refine lv_iload_n hx hb dX8_singer_59 rfl (lv_at hl 2 rfl) ?_
          refine lv_iload_n hx hb dX8_singer_60 rfl (lv_at hl 3 rfl) ?_
          obtain ⟨u10, hzu10, hf⟩ := obd_some hf
          refine zz_callVv (rest := []) hx hb hml C hP hS (c_X2_join l hDA (h := d.1) hd1 p1 p2 p3 hzu10) zw_X8_146 ⟨Nat.le_trans (Nat.le_of_ble_eq_true rfl) hRf, Nat.le_trans (Nat.le_of_ble_eq_true rfl) hRl⟩ (lth0 hd1) (lay_h0 hd1) rfl rfl hl.1 (Nat.le_of_ble_eq_true rfl) ⟨Nat.zero_le _, Nat.zero_le _⟩ rfl dX8_singer_61 (fun H locs hP hS => ?_)
          refine lv_aload_n hx hb dX8_singer_64 rfl (lv_at hl 0 rfl) ?_
          refine zg_X8_50 hx hb C hP (by decide) lay_0 rfl dX8_singer_65 ?_
          refine zg_X8_109 hx hb C hP (lth0 hd1) (lay_h0 hd1) rfl dX8_singer_68 ?_
          refine zg_X8_150 hx hb C hP (lth hd1 1 (by decide)) (lay_h1 hd1) rfl dX8_singer_71 ?_
          refine lv_iconst (v := 1) hx hb dX8_singer_74 (by decide) ?_
          refine lv_isub hx hb dX8_singer_75 ?_
          have hf := Option.some.inj hf
          subst hf
          exact hQ _ _ _ _ dX8_singer_76 hP hS
        · have hf := ifT hb8 hf
          refine lv_aload_n hx hb dX8_singer_47 rfl (lv_at hl 0 rfl) ?_
          refine lv_bipush (v := (-7)) hx hb dX8_singer_48 (by decide) ?_
          obtain ⟨u11, hzu11, hf⟩ := obd_some hf
          refine zz_callVi (rest := []) hx hb hml C hP hS (c_X8_refuse l hDA (-7) hzu11) zw_X8_73 ⟨Nat.le_trans (Nat.le_of_ble_eq_true rfl) hRf, Nat.le_trans (Nat.le_of_ble_eq_true rfl) hRl⟩ (by decide) lay_0 rfl rfl hl.1 (Nat.le_of_ble_eq_true rfl) ⟨Nat.zero_le _, Nat.zero_le _⟩ rfl dX8_singer_50 (fun H locs hP hS => ?_)
          have hf := Option.some.inj hf
          subst hf
          exact hQ _ _ _ _ dX8_singer_53 hP hS
      · have hf := ifT hb6 hf
        refine lv_aload_n hx hb dX8_singer_27 rfl (lv_at hl 0 rfl) ?_
        refine lv_bipush (v := (-6)) hx hb dX8_singer_28 (by decide) ?_
        obtain ⟨u12, hzu12, hf⟩ := obd_some hf
        refine zz_callVi (rest := []) hx hb hml C hP hS (c_X8_refuse l hDA (-6) hzu12) zw_X8_73 ⟨Nat.le_trans (Nat.le_of_ble_eq_true rfl) hRf, Nat.le_trans (Nat.le_of_ble_eq_true rfl) hRl⟩ (by decide) lay_0 rfl rfl hl.1 (Nat.le_of_ble_eq_true rfl) ⟨Nat.zero_le _, Nat.zero_le _⟩ rfl dX8_singer_30 (fun H locs hP hS => ?_)
        have hf := Option.some.inj hf
        subst hf
        exact hQ _ _ _ _ dX8_singer_33 hP hS
  · have hf := ifT hb1 hf
    refine lv_aload_n hx hb dX8_singer_7 rfl (lv_at hl 0 rfl) ?_
    refine lv_iconst (v := (-1)) hx hb dX8_singer_8 (by decide) ?_
    obtain ⟨u13, hzu13, hf⟩ := obd_some hf
    refine zz_callVi (rest := []) hx hb hml C hP hS (c_X8_refuse l hDA (-1) hzu13) zw_X8_73 ⟨Nat.le_trans (Nat.le_of_ble_eq_true rfl) hRf, Nat.le_trans (Nat.le_of_ble_eq_true rfl) hRl⟩ (by decide) lay_0 rfl rfl hl.1 (Nat.le_of_ble_eq_true rfl) ⟨Nat.zero_le _, Nat.zero_le _⟩ rfl dX8_singer_9 (fun H locs hP hS => ?_)
    have hf := Option.some.inj hf
    subst hf
    exact hQ _ _ _ _ dX8_singer_12 hP hS
set_option maxHeartbeats 4000000 in
set_option maxRecDepth 100000 in
theorem c_X8_singerOf (l : Launch) {D : va_G} {a : Nat → Nat} {cA : Nat → ClassId} {A : Nat → Prop} {sa : Nat → Nat} (hDA : DA a A) {σ : PH} {d : PD} (hd1 : isHall d.1) (p1 : Int32) (p2 : Int32) {u : Int32 × PH} (hf : f_X8_singerOf σ d p1 p2 = some u) : CTi l yX8_singerOf cX8_singerOf 4 (some .int) 3 70 D a cA A sa [.ref (a 0), .int p1, .int p2] σ d u.1 u.2 d := by
  refine zz_metI zpl_X8 hDA (Nat.le_of_ble_eq_true rfl) ?_
  intro p e R s m args below meth c Q ls hx hb hml C hRf hRl hQ hP hS hl
  have hl : lv_has ls 4 [(0, .ref (a 0)), (1, .int p1), (2, .int p2)] := hl
  unfold f_X8_singerOf at hf
  refine lv_aload_n hx hb dX8_singerOf_0 rfl (lv_at hl 0 rfl) ?_
  refine zg_X8_50 hx hb C hP (by decide) lay_0 rfl dX8_singerOf_1 ?_
  refine zg_X8_109 hx hb C hP (lth0 hd1) (lay_h0 hd1) rfl dX8_singerOf_4 ?_
  refine lv_astore_n (lv' := [(3, .ref (a (d.1 + 1))), (0, .ref (a 0)), (1, .int p1), (2, .int p2)]) hx hb dX8_singerOf_7 rfl hl (by decide) rfl (fun ls hl => ?_)
  refine lv_aload_n hx hb dX8_singerOf_8 rfl (lv_at hl 0 rfl) ?_
  refine lv_iload_n hx hb dX8_singerOf_9 rfl (lv_at hl 2 rfl) ?_
  obtain ⟨u1, hzu1⟩ : ∃ z, z = f_X0_has σ d.1 p1 := ⟨_, rfl⟩
  have hf := bnd_at u1 hzu1 hf
  refine zz_callVi (rest := []) hx hb hml C hP hS (c_X0_has l hDA (h := d.1) hd1 p1 hzu1.symm) zw_X8_113 ⟨Nat.le_trans (Nat.le_of_ble_eq_true rfl) hRf, Nat.le_trans (Nat.le_of_ble_eq_true rfl) hRl⟩ (lth hd1 1 (by decide)) (lay_h1 hd1) rfl rfl hl.1 (Nat.le_of_ble_eq_true rfl) ⟨Nat.zero_le _, Nat.zero_le _⟩ rfl dX8_singerOf_10 (fun H locs hP hS => ?_)
  refine lv_if_ne (tgt := 23) hx hb dX8_singerOf_13 (by decide) (fun hb1 => ?_) (fun hb1 => ?_)
  · have hf := ifF hb1 hf
    refine lv_iload_n hx hb dX8_singerOf_23 rfl (lv_at hl 3 rfl) ?_
    by_cases hb2 : p2 = 0
    · have hf := ifT hb2 hf
      refine lv_tableIn (tgt := 60) hx hb dX8_singerOf_24 (by rw [hb2]; decide) (by rw [hb2]; decide) (by rw [hb2]; rfl) (by decide) ?_
      refine lv_aload_n hx hb dX8_singerOf_60 rfl (lv_at hl 0 rfl) ?_
      refine zg_X8_128 hx hb C hP (lth hd1 1 (by decide)) (lay_h1 hd1) rfl dX8_singerOf_61 ?_
      refine lv_iload_n hx hb dX8_singerOf_64 rfl (lv_at hl 2 rfl) ?_
      obtain ⟨hc3, hf⟩ := chk_some hf
      refine zz_iald hx hb C hP (lth hd1 2 (by decide)) (lay_h2 hd1) (inb_vp hc3) dX8_singerOf_65 ?_
      have hf := Option.some.inj hf
      subst hf
      exact hQ _ _ _ _ dX8_singerOf_66 hP hS
    have hf := ifF hb2 hf
    by_cases hb4 : p2 = 1
    · have hf := ifT hb4 hf
      refine lv_tableIn (tgt := 67) hx hb dX8_singerOf_24 (by rw [hb4]; decide) (by rw [hb4]; decide) (by rw [hb4]; rfl) (by decide) ?_
      refine lv_aload_n hx hb dX8_singerOf_67 rfl (lv_at hl 0 rfl) ?_
      refine zg_X8_153 hx hb C hP (lth hd1 1 (by decide)) (lay_h1 hd1) rfl dX8_singerOf_68 ?_
      refine lv_iload_n hx hb dX8_singerOf_71 rfl (lv_at hl 2 rfl) ?_
      obtain ⟨hc5, hf⟩ := chk_some hf
      refine zz_iald hx hb C hP (lth hd1 3 (by decide)) (lay_h3 hd1) (inb_vp hc5) dX8_singerOf_72 ?_
      have hf := Option.some.inj hf
      subst hf
      exact hQ _ _ _ _ dX8_singerOf_73 hP hS
    have hf := ifF hb4 hf
    by_cases hb6 : p2 = 2
    · have hf := ifT hb6 hf
      refine lv_tableIn (tgt := 74) hx hb dX8_singerOf_24 (by rw [hb6]; decide) (by rw [hb6]; decide) (by rw [hb6]; rfl) (by decide) ?_
      refine lv_aload_n hx hb dX8_singerOf_74 rfl (lv_at hl 0 rfl) ?_
      refine zg_X8_156 hx hb C hP (lth hd1 1 (by decide)) (lay_h1 hd1) rfl dX8_singerOf_75 ?_
      refine lv_iload_n hx hb dX8_singerOf_78 rfl (lv_at hl 2 rfl) ?_
      obtain ⟨hc7, hf⟩ := chk_some hf
      refine zz_iald hx hb C hP (lth hd1 4 (by decide)) (lay_h4 hd1) (inb_vp hc7) dX8_singerOf_79 ?_
      have hf := Option.some.inj hf
      subst hf
      exact hQ _ _ _ _ dX8_singerOf_80 hP hS
    have hf := ifF hb6 hf
    by_cases hb8 : p2 = 3
    · have hf := ifT hb8 hf
      refine lv_tableIn (tgt := 81) hx hb dX8_singerOf_24 (by rw [hb8]; decide) (by rw [hb8]; decide) (by rw [hb8]; rfl) (by decide) ?_
      refine lv_aload_n hx hb dX8_singerOf_81 rfl (lv_at hl 0 rfl) ?_
      refine zg_X8_159 hx hb C hP (lth hd1 1 (by decide)) (lay_h1 hd1) rfl dX8_singerOf_82 ?_
      refine lv_iload_n hx hb dX8_singerOf_85 rfl (lv_at hl 2 rfl) ?_
      obtain ⟨hc9, hf⟩ := chk_some hf
      refine zz_iald hx hb C hP (lth hd1 5 (by decide)) (lay_h5 hd1) (inb_vp hc9) dX8_singerOf_86 ?_
      have hf := Option.some.inj hf
      subst hf
      exact hQ _ _ _ _ dX8_singerOf_87 hP hS
    have hf := ifF hb8 hf
    by_cases hb10 : p2 = 4
    · have hf := ifT hb10 hf
      refine lv_tableIn (tgt := 88) hx hb dX8_singerOf_24 (by rw [hb10]; decide) (by rw [hb10]; decide) (by rw [hb10]; rfl) (by decide) ?_
      refine lv_aload_n hx hb dX8_singerOf_88 rfl (lv_at hl 1 rfl) ?_
      refine zg_X8_50 hx hb C hP (by decide) lay_0 rfl dX8_singerOf_89 ?_
      refine lv_iload_n hx hb dX8_singerOf_92 rfl (lv_at hl 2 rfl) ?_
      obtain ⟨u12, hzu12, hf⟩ := obd_some hf
      refine zz_callVi (rest := []) hx hb hml C hP hS (c_X2_likely l hDA (h := d.1) hd1 p1 hzu12) zw_X8_162 ⟨Nat.le_trans (Nat.le_of_ble_eq_true rfl) hRf, Nat.le_trans (Nat.le_of_ble_eq_true rfl) hRl⟩ (lth0 hd1) (lay_h0 hd1) rfl rfl hl.1 (Nat.le_of_ble_eq_true rfl) ⟨Nat.zero_le _, Nat.zero_le _⟩ rfl dX8_singerOf_93 (fun H locs hP hS => ?_)
      have hf := Option.some.inj hf
      subst hf
      exact hQ _ _ _ _ dX8_singerOf_96 hP hS
    have hf := ifF hb10 hf
    refine lv_tableOut (tgt := 97) hx hb dX8_singerOf_24 (sw_0_4 hb2 hb4 hb6 hb8 hb10) (by decide) ?_
    refine lv_aload_n hx hb dX8_singerOf_97 rfl (lv_at hl 1 rfl) ?_
    refine lv_bipush (v := (-5)) hx hb dX8_singerOf_98 (by decide) ?_
    obtain ⟨u13, hzu13, hf⟩ := obd_some hf
    refine zz_callVi (rest := []) hx hb hml C hP hS (c_X8_refuse l hDA (-5) hzu13) zw_X8_73 ⟨Nat.le_trans (Nat.le_of_ble_eq_true rfl) hRf, Nat.le_trans (Nat.le_of_ble_eq_true rfl) hRl⟩ (by decide) lay_0 rfl rfl hl.1 (Nat.le_of_ble_eq_true rfl) ⟨Nat.zero_le _, Nat.zero_le _⟩ rfl dX8_singerOf_100 (fun H locs hP hS => ?_)
    have hf := Option.some.inj hf
    subst hf
    exact hQ _ _ _ _ dX8_singerOf_103 hP hS
  · have hf := ifT hb1 hf
    refine lv_aload_n hx hb dX8_singerOf_16 rfl (lv_at hl 1 rfl) ?_
    refine lv_bipush (v := (-5)) hx hb dX8_singerOf_17 (by decide) ?_
    obtain ⟨u14, hzu14, hf⟩ := obd_some hf
    refine zz_callVi (rest := []) hx hb hml C hP hS (c_X8_refuse l hDA (-5) hzu14) zw_X8_73 ⟨Nat.le_trans (Nat.le_of_ble_eq_true rfl) hRf, Nat.le_trans (Nat.le_of_ble_eq_true rfl) hRl⟩ (by decide) lay_0 rfl rfl hl.1 (Nat.le_of_ble_eq_true rfl) ⟨Nat.zero_le _, Nat.zero_le _⟩ rfl dX8_singerOf_19 (fun H locs hP hS => ?_)
    have hf := Option.some.inj hf
    subst hf
    exact hQ _ _ _ _ dX8_singerOf_22 hP hS
set_option maxHeartbeats 4000000 in
set_option maxRecDepth 100000 in
theorem c_X8_ask (l : Launch) {D : va_G} {a : Nat → Nat} {cA : Nat → ClassId} {A : Nat → Prop} {sa : Nat → Nat} (hDA : DA a A) {σ : PH} {d : PD} (hd1 : isHall d.1) (p1 : Int32) (p2 : Int32) {u : Int32 × PH} (hf : f_X8_ask σ d p1 p2 = some u) : CTi l yX8_ask cX8_ask 4 (some .int) 5 113 D a cA A sa [.ref (a 0), .int p1, .int p2] σ d u.1 u.2 d := by
  refine zz_metI zpl_X8 hDA (Nat.le_of_ble_eq_true rfl) ?_
  intro p e R s m args below meth c Q ls hx hb hml C hRf hRl hQ hP hS hl
  have hl : lv_has ls 4 [(0, .ref (a 0)), (1, .int p1), (2, .int p2)] := hl
  unfold f_X8_ask at hf
  refine lv_iload_n hx hb dX8_ask_0 rfl (lv_at hl 1 rfl) ?_
  refine lv_iload_n hx hb dX8_ask_1 rfl (lv_at hl 2 rfl) ?_
  obtain ⟨u1, hzu1, hf⟩ := obd_some hf
  refine zz_callSi (rest := []) hx hb hml C hP hS (c_X2_suits l hDA p1 p2 hzu1) zw_X8_165 ⟨Nat.le_trans (Nat.le_of_ble_eq_true rfl) hRf, Nat.le_trans (Nat.le_of_ble_eq_true rfl) hRl⟩  rfl hl.1 (Nat.le_of_ble_eq_true rfl) ⟨Nat.zero_le _, Nat.zero_le _⟩ rfl dX8_ask_2 (fun H locs hP hS => ?_)
  refine lv_if_ne (tgt := 15) hx hb dX8_ask_5 (by decide) (fun hb1 => ?_) (fun hb1 => ?_)
  · have hf := ifF hb1 hf
    refine lv_aload_n hx hb dX8_ask_15 rfl (lv_at hl 0 rfl) ?_
    refine zg_X8_50 hx hb C hP (by decide) lay_0 rfl dX8_ask_16 ?_
    refine lv_iload_n hx hb dX8_ask_19 rfl (lv_at hl 1 rfl) ?_
    obtain ⟨u3, hzu3, hf⟩ := obd_some hf
    refine zz_callVi (rest := []) hx hb hml C hP hS (c_X2_rule l hDA (h := d.1) hd1 p1 hzu3) zw_X8_168 ⟨Nat.le_trans (Nat.le_of_ble_eq_true rfl) hRf, Nat.le_trans (Nat.le_of_ble_eq_true rfl) hRl⟩ (lth0 hd1) (lay_h0 hd1) rfl rfl hl.1 (Nat.le_of_ble_eq_true rfl) ⟨Nat.zero_le _, Nat.zero_le _⟩ rfl dX8_ask_20 (fun H locs hP hS => ?_)
    refine lv_istore_n (lv' := [(3, .int u3), (0, .ref (a 0)), (1, .int p1), (2, .int p2)]) hx hb dX8_ask_23 rfl hl (by decide) rfl (fun ls hl => ?_)
    refine lv_aload_n hx hb dX8_ask_24 rfl (lv_at hl 1 rfl) ?_
    refine zg_X8_50 hx hb C hP (by decide) lay_0 rfl dX8_ask_25 ?_
    refine lv_iload_n hx hb dX8_ask_28 rfl (lv_at hl 2 rfl) ?_
    refine lv_iload_n hx hb dX8_ask_29 rfl (lv_at hl 3 rfl) ?_
    obtain ⟨u4, hzu4, hf⟩ := obd_some hf
    refine zz_callVv (rest := []) hx hb hml C hP hS (c_X2_put l hDA (h := d.1) hd1 p1 p2 hzu4) zw_X8_171 ⟨Nat.le_trans (Nat.le_of_ble_eq_true rfl) hRf, Nat.le_trans (Nat.le_of_ble_eq_true rfl) hRl⟩ (lth0 hd1) (lay_h0 hd1) rfl rfl hl.1 (Nat.le_of_ble_eq_true rfl) ⟨Nat.zero_le _, Nat.zero_le _⟩ rfl dX8_ask_30 (fun H locs hP hS => ?_)
    refine lv_iload_n hx hb dX8_ask_33 rfl (lv_at hl 0 rfl) ?_
    have hf := Option.some.inj hf
    subst hf
    exact hQ _ _ _ _ dX8_ask_34 hP hS
  · have hf := ifT hb1 hf
    refine lv_aload_n hx hb dX8_ask_8 rfl (lv_at hl 0 rfl) ?_
    refine lv_bipush (v := (-6)) hx hb dX8_ask_9 (by decide) ?_
    obtain ⟨u5, hzu5, hf⟩ := obd_some hf
    refine zz_callVi (rest := []) hx hb hml C hP hS (c_X8_refuse l hDA (-6) hzu5) zw_X8_73 ⟨Nat.le_trans (Nat.le_of_ble_eq_true rfl) hRf, Nat.le_trans (Nat.le_of_ble_eq_true rfl) hRl⟩ (by decide) lay_0 rfl rfl hl.1 (Nat.le_of_ble_eq_true rfl) ⟨Nat.zero_le _, Nat.zero_le _⟩ rfl dX8_ask_11 (fun H locs hP hS => ?_)
    have hf := Option.some.inj hf
    subst hf
    exact hQ _ _ _ _ dX8_ask_14 hP hS
set_option maxHeartbeats 4000000 in
set_option maxRecDepth 100000 in
theorem c_X8_loft (l : Launch) {D : va_G} {a : Nat → Nat} {cA : Nat → ClassId} {A : Nat → Prop} {sa : Nat → Nat} (hDA : DA a A) {σ : PH} {d : PD} (hd1 : isHall d.1) (hd2 : isHall d.2.1) (p1 : Int32) {u : Int32 × PH × PD} (hf : f_X8_loft σ d p1 = some u) : CTi l yX8_loft cX8_loft 6 (some .int) 7 173 D a cA A sa [.ref (a 0), .int p1] σ d u.1 u.2.1 u.2.2 := by
  refine zz_metI zpl_X8 hDA (Nat.le_of_ble_eq_true rfl) ?_
  intro p e R s m args below meth c Q ls hx hb hml C hRf hRl hQ hP hS hl
  have hl : lv_has ls 6 [(0, .ref (a 0)), (1, .int p1)] := hl
  unfold f_X8_loft at hf
  refine lv_aload_n hx hb dX8_loft_0 rfl (lv_at hl 0 rfl) ?_
  refine lv_iload_n hx hb dX8_loft_1 rfl (lv_at hl 1 rfl) ?_
  obtain ⟨u1, hzu1, hf⟩ := obd_some hf
  refine zz_callVi (rest := []) hx hb hml C hP hS (c_X8_lackOfRow l hDA p1 hzu1) zw_X8_81 ⟨Nat.le_trans (Nat.le_of_ble_eq_true rfl) hRf, Nat.le_trans (Nat.le_of_ble_eq_true rfl) hRl⟩ (by decide) lay_0 rfl rfl hl.1 (Nat.le_of_ble_eq_true rfl) ⟨Nat.zero_le _, Nat.zero_le _⟩ rfl dX8_loft_2 (fun H locs hP hS => ?_)
  refine lv_istore_n (lv' := [(2, .int u1), (0, .ref (a 0)), (1, .int p1)]) hx hb dX8_loft_5 rfl hl (by decide) rfl (fun ls hl => ?_)
  refine lv_iload_n hx hb dX8_loft_6 rfl (lv_at hl 0 rfl) ?_
  refine lv_if_eq (tgt := 16) hx hb dX8_loft_7 (by decide) (fun hb1 => ?_) (fun hb1 => ?_)
  · have hf := ifT hb1 hf
    refine lv_aload_n hx hb dX8_loft_16 rfl (lv_at hl 1 rfl) ?_
    refine zg_X8_54 hx hb C hP (by decide) lay_0 rfl dX8_loft_17 ?_
    refine lv_aload_n hx hb dX8_loft_20 rfl (lv_at hl 1 rfl) ?_
    refine zg_X8_50 hx hb C hP (by decide) lay_0 rfl dX8_loft_21 ?_
    obtain ⟨u3, hzu3⟩ : ∃ z, z = f_X2_copyOf σ d.2.1 d.1 := ⟨_, rfl⟩
    have hf := bnd_at u3 hzu3 hf
    refine zz_callVv (rest := []) hx hb hml C hP hS (c_X2_copyOf l hDA (h := d.2.1) hd2 (h2 := d.1) hd1 hzu3.symm) zw_X8_173 ⟨Nat.le_trans (Nat.le_of_ble_eq_true rfl) hRf, Nat.le_trans (Nat.le_of_ble_eq_true rfl) hRl⟩ (lth0 hd2) (lay_h0 hd2) rfl rfl hl.1 (Nat.le_of_ble_eq_true rfl) ⟨Nat.zero_le _, Nat.zero_le _⟩ rfl dX8_loft_24 (fun H locs hP hS => ?_)
    refine lv_aload_n hx hb dX8_loft_27 rfl (lv_at hl 1 rfl) ?_
    refine zg_X8_29 hx hb C hP (by decide) lay_0 rfl dX8_loft_28 ?_
    refine lv_aload_n hx hb dX8_loft_31 rfl (lv_at hl 1 rfl) ?_
    refine zg_X8_11 hx hb C hP (by decide) lay_0 rfl dX8_loft_32 ?_
    refine lv_iload_n hx hb dX8_loft_35 rfl (lv_at hl 2 rfl) ?_
    obtain ⟨hc3, hf⟩ := chk_some hf
    refine zz_shelf hx hb C hP (inb_vp hc3) dX8_loft_36 (fun r5 er5 hr5 => ?_)
    have hf := bnd_at r5 er5 hf
    obtain ⟨u6, hzu6⟩ : ∃ z, z = f_X3_begin u3 := ⟨_, rfl⟩
    have hf := bnd_at u6 hzu6 hf
    refine zz_callVv (rest := []) hx hb hml C hP hS (c_X3_begin l hDA (sh1 := r5) hr5 hzu6.symm) zw_X8_177 ⟨Nat.le_trans (Nat.le_of_ble_eq_true rfl) hRf, Nat.le_trans (Nat.le_of_ble_eq_true rfl) hRl⟩ (by decide) lay_5 rfl rfl hl.1 (Nat.le_of_ble_eq_true rfl) ⟨Nat.zero_le _, Nat.zero_le _⟩ rfl dX8_loft_37 (fun H locs hP hS => ?_)
    refine lv_iconst (v := 0) hx hb dX8_loft_40 (by decide) ?_
    refine lv_istore_n (lv' := [(3, .int 0), (2, .int u1), (0, .ref (a 0)), (1, .int p1)]) hx hb dX8_loft_41 rfl hl (by decide) rfl (fun ls hl => ?_)
    refine lv_iconst (v := 1) hx hb dX8_loft_42 (by decide) ?_
    refine lv_istore (lv' := [(4, .int 1), (3, .int 0), (2, .int u1), (0, .ref (a 0)), (1, .int p1)]) hx hb dX8_loft_43 hl (by decide) rfl (fun ls hl => ?_)
    have hJ94 : ∀ (v7 : Int32) (σ8 : PH), j_X8_loft_94 d r5 v7 σ8 = some u → ∀ (H : Heap) (locs : List Loc) (ls : Array Slot), lv_has ls 6 [(0, .ref (a 0)), (3, .int v7)] → va_P D vwCl (wl a cA σ8 (d.1, d.2.1, some r5)) H → va_S A s.heap H locs → W p l e R s m args below meth c H locs 0 0 Q (F0 m 94 ls []) := by
      intro v7 σ8 hf H locs ls hl hP hS
      unfold j_X8_loft_94 at hf
      refine lv_aload_n hx hb dX8_loft_94 rfl (lv_at hl 0 rfl) ?_
      refine lv_aload_n hx hb dX8_loft_95 rfl (lv_at hl 0 rfl) ?_
      refine zg_X8_29 hx hb C hP (by decide) lay_0 rfl dX8_loft_96 ?_
      refine zg_X8_187 hx hb C hP (by decide) lay_5 rfl dX8_loft_99 ?_
      refine zp_X8_64 hx hb C hP hS (by decide) lay_0 rfl dX8_loft_102 (fun σ9 eσ9 H locs hP hS => ?_)
      have hf := bnd_at σ9 eσ9 hf
      refine lv_aload_n hx hb dX8_loft_105 rfl (lv_at hl 0 rfl) ?_
      refine zg_X8_64 hx hb C hP (by decide) lay_0 rfl dX8_loft_106 ?_
      refine lv_iconst (v := (-1)) hx hb dX8_loft_109 (by decide) ?_
      refine lv_icmp_eq (tgt := 120) hx hb dX8_loft_110 (by decide) (fun hb9 => ?_) (fun hb9 => ?_)
      · have hf := ifT hb9 hf
        refine lv_aload_n hx hb dX8_loft_120 rfl (lv_at hl 0 rfl) ?_
        refine zg_X8_50 hx hb C hP (by decide) lay_0 rfl dX8_loft_121 ?_
        refine lv_astore (lv' := [(5, .ref (a d.1)), (0, .ref (a 0)), (3, .int v7)]) hx hb dX8_loft_124 hl (by decide) rfl (fun ls hl => ?_)
        refine lv_aload_n hx hb dX8_loft_126 rfl (lv_at hl 1 rfl) ?_
        refine lv_aload_n hx hb dX8_loft_127 rfl (lv_at hl 1 rfl) ?_
        refine zg_X8_54 hx hb C hP (by decide) lay_0 rfl dX8_loft_128 ?_
        refine zp_hall hx hb C hP hS (lth0 hd2) dX8_loft_131 (fun H locs hP hS => ?_)
        refine lv_aload_n hx hb dX8_loft_134 rfl (lv_at hl 1 rfl) ?_
        refine lv_aload hx hb dX8_loft_135 (lv_at hl 0 rfl) ?_
        refine zp_spare hx hb C hP hS (lth0 hd1) dX8_loft_137 (fun H locs hP hS => ?_)
        refine lv_iload_n hx hb dX8_loft_140 rfl (lv_at hl 2 rfl) ?_
        have hf := Option.some.inj hf
        subst hf
        exact hQ _ _ _ _ dX8_loft_141 hP hS
      · have hf := ifF hb9 hf
        refine lv_aload_n hx hb dX8_loft_113 rfl (lv_at hl 0 rfl) ?_
        refine lv_bipush (v := (-6)) hx hb dX8_loft_114 (by decide) ?_
        obtain ⟨u11, hzu11, hf⟩ := obd_some hf
        refine zz_callVi (rest := []) hx hb hml C hP hS (c_X8_refuse l hDA (-6) hzu11) zw_X8_73 ⟨Nat.le_trans (Nat.le_of_ble_eq_true rfl) hRf, Nat.le_trans (Nat.le_of_ble_eq_true rfl) hRl⟩ (by decide) lay_0 rfl rfl hl.1 (Nat.le_of_ble_eq_true rfl) ⟨Nat.zero_le _, Nat.zero_le _⟩ rfl dX8_loft_116 (fun H locs hP hS => ?_)
        have hf := Option.some.inj hf
        subst hf
        exact hQ _ _ _ _ dX8_loft_119 hP hS
    refine loopN_ind (P := fun (q12 : Int32 × Int32 × PH) => ∀ (H : Heap) (locs : List Loc) (ls : Array Slot), lv_has ls 6 [(0, .ref (a 0)), (3, .int q12.1), (4, .int q12.2.1)] → va_P D vwCl (wl a cA q12.2.2 (d.1, d.2.1, some r5)) H → va_S A s.heap H locs → W p l e R s m args below meth c H locs 0 0 Q (F0 m 45 ls [])) ?_ _ _ hf _ _ _ (lv_sub hl [3, 1, 0] rfl) hP hS
    intro k13 ihk13 q12 hf H locs ls hl hP hS
    unfold b_X8_loft_45 at hf
    refine lv_iload hx hb dX8_loft_45 (lv_at hl 2 rfl) ?_
    refine lv_if_eq (tgt := 94) hx hb dX8_loft_47 (by decide) (fun hb13 => ?_) (fun hb13 => ?_)
    · have hf := ifT hb13 hf
      exact hJ94 _ _ hf _ _ _ (lv_sub hl [0, 1] rfl) hP hS
    · have hf := ifF hb13 hf
      refine lv_iload_n hx hb dX8_loft_50 rfl (lv_at hl 1 rfl) ?_
      refine lv_sipush (v := 160) hx hb dX8_loft_51 (by decide) ?_
      refine lv_icmp_gt (tgt := 94) hx hb dX8_loft_54 (by decide) (fun hb14 => ?_) (fun hb14 => ?_)
      · have hf := ifT hb14 hf
        exact hJ94 _ _ hf _ _ _ (lv_sub hl [0, 1] rfl) hP hS
      · have hf := ifF hb14 hf
        refine lv_aload_n hx hb dX8_loft_57 rfl (lv_at hl 0 rfl) ?_
        refine zg_X8_29 hx hb C hP (by decide) lay_0 rfl dX8_loft_58 ?_
        refine lv_aload_n hx hb dX8_loft_61 rfl (lv_at hl 0 rfl) ?_
        refine zg_X8_54 hx hb C hP (by decide) lay_0 rfl dX8_loft_62 ?_
        obtain ⟨u16, hzu16, hf⟩ := obd_some hf
        refine zz_callVi (rest := []) hx hb hml C hP hS (c_X3_readItem l hDA rfl hr5 (h := d.2.1) hd2 hzu16) zw_X8_180 ⟨Nat.le_trans (Nat.le_of_ble_eq_true rfl) hRf, Nat.le_trans (Nat.le_of_ble_eq_true rfl) hRl⟩ (by decide) lay_5 rfl rfl hl.1 (Nat.le_of_ble_eq_true rfl) ⟨Nat.zero_le _, Nat.zero_le _⟩ rfl dX8_loft_65 (fun H locs hP hS => ?_)
        refine lv_if_eq (tgt := 85) hx hb dX8_loft_68 (by decide) (fun hb16 => ?_) (fun hb16 => ?_)
        · have hf := ifT hb16 hf
          refine lv_iconst (v := 0) hx hb dX8_loft_85 (by decide) ?_
          refine lv_istore (lv' := [(4, .int 0), (0, .ref (a 0)), (3, .int q12.1)]) hx hb dX8_loft_86 hl (by decide) rfl (fun ls hl => ?_)
          obtain ⟨v18, ev18⟩ : ∃ z : Int32, z = q12.1 + 1 := ⟨_, rfl⟩
          have hf := bnd_at v18 ev18 hf
          refine lv_iinc (v := v18) (lv' := [(3, .int v18), (4, .int 0), (0, .ref (a 0))]) hx hb dX8_loft_88 hl (k := 2) rfl (by rw [ev18]; rfl) (by decide) rfl (fun ls hl => ?_)
          refine lv_goto (tgt := 45) hx hb dX8_loft_91 (by decide) ?_
          exact ihk13 _ hf _ _ _ (lv_sub hl [2, 0, 1] rfl) hP hS
        · have hf := ifF hb16 hf
          refine lv_aload_n hx hb dX8_loft_71 rfl (lv_at hl 0 rfl) ?_
          refine zg_X8_29 hx hb C hP (by decide) lay_0 rfl dX8_loft_72 ?_
          obtain ⟨u19, hzu19, hf⟩ := obd_some hf
          refine zz_callVi (rest := []) hx hb hml C hP hS (c_X3_goesOn l hDA rfl hr5 hzu19) zw_X8_184 ⟨Nat.le_trans (Nat.le_of_ble_eq_true rfl) hRf, Nat.le_trans (Nat.le_of_ble_eq_true rfl) hRl⟩ (by decide) lay_5 rfl rfl hl.1 (Nat.le_of_ble_eq_true rfl) ⟨Nat.zero_le _, Nat.zero_le _⟩ rfl dX8_loft_75 (fun H locs hP hS => ?_)
          refine lv_if_eq (tgt := 85) hx hb dX8_loft_78 (by decide) (fun hb19 => ?_) (fun hb19 => ?_)
          · have hf := ifT hb19 hf
            refine lv_iconst (v := 0) hx hb dX8_loft_85 (by decide) ?_
            refine lv_istore (lv' := [(4, .int 0), (0, .ref (a 0)), (3, .int q12.1)]) hx hb dX8_loft_86 hl (by decide) rfl (fun ls hl => ?_)
            obtain ⟨v21, ev21⟩ : ∃ z : Int32, z = q12.1 + 1 := ⟨_, rfl⟩
            have hf := bnd_at v21 ev21 hf
            refine lv_iinc (v := v21) (lv' := [(3, .int v21), (4, .int 0), (0, .ref (a 0))]) hx hb dX8_loft_88 hl (k := 2) rfl (by rw [ev21]; rfl) (by decide) rfl (fun ls hl => ?_)
            refine lv_goto (tgt := 45) hx hb dX8_loft_91 (by decide) ?_
            exact ihk13 _ hf _ _ _ (lv_sub hl [2, 0, 1] rfl) hP hS
          · have hf := ifF hb19 hf
            refine lv_iconst (v := 1) hx hb dX8_loft_81 (by decide) ?_
            refine lv_goto (tgt := 86) hx hb dX8_loft_82 (by decide) ?_
            refine lv_istore (lv' := [(4, .int 1), (0, .ref (a 0)), (3, .int q12.1)]) hx hb dX8_loft_86 hl (by decide) rfl (fun ls hl => ?_)
            obtain ⟨v22, ev22⟩ : ∃ z : Int32, z = q12.1 + 1 := ⟨_, rfl⟩
            have hf := bnd_at v22 ev22 hf
            refine lv_iinc (v := v22) (lv' := [(3, .int v22), (4, .int 1), (0, .ref (a 0))]) hx hb dX8_loft_88 hl (k := 2) rfl (by rw [ev22]; rfl) (by decide) rfl (fun ls hl => ?_)
            refine lv_goto (tgt := 45) hx hb dX8_loft_91 (by decide) ?_
            exact ihk13 _ hf _ _ _ (lv_sub hl [2, 0, 1] rfl) hP hS
  · have hf := ifF hb1 hf
    refine lv_aload_n hx hb dX8_loft_10 rfl (lv_at hl 1 rfl) ?_
    refine lv_iload_n hx hb dX8_loft_11 rfl (lv_at hl 0 rfl) ?_
    obtain ⟨u23, hzu23, hf⟩ := obd_some hf
    refine zz_callVi (rest := []) hx hb hml C hP hS (c_X8_refuse l hDA u1 hzu23) zw_X8_73 ⟨Nat.le_trans (Nat.le_of_ble_eq_true rfl) hRf, Nat.le_trans (Nat.le_of_ble_eq_true rfl) hRl⟩ (by decide) lay_0 rfl rfl hl.1 (Nat.le_of_ble_eq_true rfl) ⟨Nat.zero_le _, Nat.zero_le _⟩ rfl dX8_loft_12 (fun H locs hP hS => ?_)
    have hf := Option.some.inj hf
    subst hf
    exact hQ _ _ _ _ dX8_loft_15 hP hS
set_option maxHeartbeats 4000000 in
set_option maxRecDepth 100000 in
theorem c_X8_fault (l : Launch) {D : va_G} {a : Nat → Nat} {cA : Nat → ClassId} {A : Nat → Prop} {sa : Nat → Nat} (hDA : DA a A) {σ : PH} {d : PD}  {u : Int32} (hf : f_X8_fault σ = u) : CTi l yX8_fault cX8_fault 1 (some .int) 0 0 D a cA A sa [.ref (a 0)] σ d u σ d := by
  refine zz_metI zpl_X8 hDA (Nat.le_of_ble_eq_true rfl) ?_
  intro p e R s m args below meth c Q ls hx hb hml C hRf hRl hQ hP hS hl
  have hl : lv_has ls 1 [(0, .ref (a 0))] := hl
  unfold f_X8_fault at hf
  refine lv_aload_n hx hb dX8_fault_0 rfl (lv_at hl 0 rfl) ?_
  refine zg_X8_64 hx hb C hP (by decide) lay_0 rfl dX8_fault_1 ?_
  subst hf
  exact hQ _ _ _ _ dX8_fault_4 hP hS
set_option maxHeartbeats 4000000 in
set_option maxRecDepth 100000 in
theorem c_X8_worlds (l : Launch) {D : va_G} {a : Nat → Nat} {cA : Nat → ClassId} {A : Nat → Prop} {sa : Nat → Nat} (hDA : DA a A) {σ : PH} {d : PD} (hd1 : isHall d.1) (p1 : Int32) {u : Int32 × PH} (hf : f_X8_worlds σ d p1 = some u) : CTi l yX8_worlds cX8_worlds 2 (some .int) 3 64 D a cA A sa [.ref (a 0), .int p1] σ d u.1 u.2 d := by
  refine zz_metI zpl_X8 hDA (Nat.le_of_ble_eq_true rfl) ?_
  intro p e R s m args below meth c Q ls hx hb hml C hRf hRl hQ hP hS hl
  have hl : lv_has ls 2 [(0, .ref (a 0)), (1, .int p1)] := hl
  unfold f_X8_worlds at hf
  refine lv_iload_n hx hb dX8_worlds_0 rfl (lv_at hl 1 rfl) ?_
  by_cases hb0 : p1 = 0
  · have hf := ifT hb0 hf
    refine lv_lookup (off := 27) (tgt := 28) hx hb dX8_worlds_1 (by decide) (by rw [hb0]; decide) (by decide) ?_
    refine lv_aload_n hx hb dX8_worlds_28 rfl (lv_at hl 0 rfl) ?_
    refine zg_X8_50 hx hb C hP (by decide) lay_0 rfl dX8_worlds_29 ?_
    refine zg_X8_190 hx hb C hP (lth0 hd1) (lay_h0 hd1) rfl dX8_worlds_32 ?_
    refine zg_X8_194 hx hb C hP (lth hd1 7 (by decide)) (lay_h7 hd1) rfl dX8_worlds_35 ?_
    have hf := Option.some.inj hf
    subst hf
    exact hQ _ _ _ _ dX8_worlds_38 hP hS
  have hf := ifF hb0 hf
  by_cases hb1 : p1 = 1
  · have hf := ifT hb1 hf
    refine lv_lookup (off := 38) (tgt := 39) hx hb dX8_worlds_1 (by decide) (by rw [hb1]; decide) (by decide) ?_
    refine lv_aload_n hx hb dX8_worlds_39 rfl (lv_at hl 0 rfl) ?_
    refine zg_X8_50 hx hb C hP (by decide) lay_0 rfl dX8_worlds_40 ?_
    obtain ⟨u3, hzu3⟩ : ∃ z, z = f_X2_possible σ d.1 := ⟨_, rfl⟩
    have hf := bnd_at u3 hzu3 hf
    refine zz_callVi (rest := []) hx hb hml C hP hS (c_X2_possible l hDA (h := d.1) hd1 hzu3.symm) zw_X8_197 ⟨Nat.le_trans (Nat.le_of_ble_eq_true rfl) hRf, Nat.le_trans (Nat.le_of_ble_eq_true rfl) hRl⟩ (lth0 hd1) (lay_h0 hd1) rfl rfl hl.1 (Nat.le_of_ble_eq_true rfl) ⟨Nat.zero_le _, Nat.zero_le _⟩ rfl dX8_worlds_43 (fun H locs hP hS => ?_)
    have hf := Option.some.inj hf
    subst hf
    exact hQ _ _ _ _ dX8_worlds_46 hP hS
  have hf := ifF hb1 hf
  refine lv_lookup (off := 46) (tgt := 47) hx hb dX8_worlds_1 (by decide) (lks_0_1 hb0 hb1) (by decide) ?_
  refine lv_aload_n hx hb dX8_worlds_47 rfl (lv_at hl 0 rfl) ?_
  refine lv_bipush (v := (-5)) hx hb dX8_worlds_48 (by decide) ?_
  obtain ⟨u4, hzu4, hf⟩ := obd_some hf
  refine zz_callVi (rest := []) hx hb hml C hP hS (c_X8_refuse l hDA (-5) hzu4) zw_X8_73 ⟨Nat.le_trans (Nat.le_of_ble_eq_true rfl) hRf, Nat.le_trans (Nat.le_of_ble_eq_true rfl) hRl⟩ (by decide) lay_0 rfl rfl hl.1 (Nat.le_of_ble_eq_true rfl) ⟨Nat.zero_le _, Nat.zero_le _⟩ rfl dX8_worlds_50 (fun H locs hP hS => ?_)
  have hf := Option.some.inj hf
  subst hf
  exact hQ _ _ _ _ dX8_worlds_53 hP hS
set_option maxHeartbeats 4000000 in
set_option maxRecDepth 100000 in
theorem c_X8_world (l : Launch) {D : va_G} {a : Nat → Nat} {cA : Nat → ClassId} {A : Nat → Prop} {sa : Nat → Nat} (hDA : DA a A) {σ : PH} {d : PD} (hd1 : isHall d.1) (p1 : Int32) {u : Int32 × PH} (hf : f_X8_world σ d p1 = some u) : CTi l yX8_world cX8_world 2 (some .int) 3 67 D a cA A sa [.ref (a 0), .int p1] σ d u.1 u.2 d := by
  refine zz_metI zpl_X8 hDA (Nat.le_of_ble_eq_true rfl) ?_
  intro p e R s m args below meth c Q ls hx hb hml C hRf hRl hQ hP hS hl
  have hl : lv_has ls 2 [(0, .ref (a 0)), (1, .int p1)] := hl
  unfold f_X8_world at hf
  refine lv_iload_n hx hb dX8_world_0 rfl (lv_at hl 1 rfl) ?_
  refine lv_if_lt (tgt := 15) hx hb dX8_world_1 (by decide) (fun hb0 => ?_) (fun hb0 => ?_)
  · have hf := ifT hb0 hf
    refine lv_aload_n hx hb dX8_world_15 rfl (lv_at hl 0 rfl) ?_
    refine lv_bipush (v := (-5)) hx hb dX8_world_16 (by decide) ?_
    obtain ⟨u2, hzu2, hf⟩ := obd_some hf
    refine zz_callVi (rest := []) hx hb hml C hP hS (c_X8_refuse l hDA (-5) hzu2) zw_X8_73 ⟨Nat.le_trans (Nat.le_of_ble_eq_true rfl) hRf, Nat.le_trans (Nat.le_of_ble_eq_true rfl) hRl⟩ (by decide) lay_0 rfl rfl hl.1 (Nat.le_of_ble_eq_true rfl) ⟨Nat.zero_le _, Nat.zero_le _⟩ rfl dX8_world_18 (fun H locs hP hS => ?_)
    have hf := Option.some.inj hf
    subst hf
    exact hQ _ _ _ _ dX8_world_21 hP hS
  · have hf := ifF hb0 hf
    refine lv_iload_n hx hb dX8_world_4 rfl (lv_at hl 1 rfl) ?_
    refine lv_aload_n hx hb dX8_world_5 rfl (lv_at hl 0 rfl) ?_
    refine zg_X8_50 hx hb C hP (by decide) lay_0 rfl dX8_world_6 ?_
    obtain ⟨u3, hzu3⟩ : ∃ z, z = f_X2_possible σ d.1 := ⟨_, rfl⟩
    have hf := bnd_at u3 hzu3 hf
    refine zz_callVi (rest := [.int p1]) hx hb hml C hP hS (c_X2_possible l hDA (h := d.1) hd1 hzu3.symm) zw_X8_197 ⟨Nat.le_trans (Nat.le_of_ble_eq_true rfl) hRf, Nat.le_trans (Nat.le_of_ble_eq_true rfl) hRl⟩ (lth0 hd1) (lay_h0 hd1) rfl rfl hl.1 (Nat.le_of_ble_eq_true rfl) ⟨Nat.zero_le _, Nat.zero_le _⟩ rfl dX8_world_9 (fun H locs hP hS => ?_)
    refine lv_icmp_lt (tgt := 22) hx hb dX8_world_12 (by decide) (fun hb3 => ?_) (fun hb3 => ?_)
    · have hf := ifT hb3 hf
      refine lv_aload_n hx hb dX8_world_22 rfl (lv_at hl 0 rfl) ?_
      refine zg_X8_50 hx hb C hP (by decide) lay_0 rfl dX8_world_23 ?_
      refine lv_iload_n hx hb dX8_world_26 rfl (lv_at hl 1 rfl) ?_
      obtain ⟨u5, hzu5, hf⟩ := obd_some hf
      refine zz_callVi (rest := []) hx hb hml C hP hS (c_X2_possibleWorld l hDA (h := d.1) hd1 p1 hzu5) zw_X8_201 ⟨Nat.le_trans (Nat.le_of_ble_eq_true rfl) hRf, Nat.le_trans (Nat.le_of_ble_eq_true rfl) hRl⟩ (lth0 hd1) (lay_h0 hd1) rfl rfl hl.1 (Nat.le_of_ble_eq_true rfl) ⟨Nat.zero_le _, Nat.zero_le _⟩ rfl dX8_world_27 (fun H locs hP hS => ?_)
      have hf := Option.some.inj hf
      subst hf
      exact hQ _ _ _ _ dX8_world_30 hP hS
    · have hf := ifF hb3 hf
      refine lv_aload_n hx hb dX8_world_15 rfl (lv_at hl 0 rfl) ?_
      refine lv_bipush (v := (-5)) hx hb dX8_world_16 (by decide) ?_
      obtain ⟨u6, hzu6, hf⟩ := obd_some hf
      refine zz_callVi (rest := []) hx hb hml C hP hS (c_X8_refuse l hDA (-5) hzu6) zw_X8_73 ⟨Nat.le_trans (Nat.le_of_ble_eq_true rfl) hRf, Nat.le_trans (Nat.le_of_ble_eq_true rfl) hRl⟩ (by decide) lay_0 rfl rfl hl.1 (Nat.le_of_ble_eq_true rfl) ⟨Nat.zero_le _, Nat.zero_le _⟩ rfl dX8_world_18 (fun H locs hP hS => ?_)
      have hf := Option.some.inj hf
      subst hf
      exact hQ _ _ _ _ dX8_world_21 hP hS
set_option maxHeartbeats 4000000 in
set_option maxRecDepth 100000 in
theorem c_X8_sounds (l : Launch) {D : va_G} {a : Nat → Nat} {cA : Nat → ClassId} {A : Nat → Prop} {sa : Nat → Nat} (hDA : DA a A) {σ : PH} {d : PD} (hd1 : isHall d.1) (p1 : Int32) (p2 : Int32) {u : Int32 × PH} (hf : f_X8_sounds σ d p1 p2 = some u) : CTi l yX8_sounds cX8_sounds 4 (some .int) 4 99 D a cA A sa [.ref (a 0), .int p1, .int p2] σ d u.1 u.2 d := by
  refine zz_metI zpl_X8 hDA (Nat.le_of_ble_eq_true rfl) ?_
  intro p e R s m args below meth c Q ls hx hb hml C hRf hRl hQ hP hS hl
  have hl : lv_has ls 4 [(0, .ref (a 0)), (1, .int p1), (2, .int p2)] := hl
  unfold f_X8_sounds at hf
  refine lv_aload_n hx hb dX8_sounds_0 rfl (lv_at hl 0 rfl) ?_
  refine zg_X8_50 hx hb C hP (by decide) lay_0 rfl dX8_sounds_1 ?_
  refine zg_X8_190 hx hb C hP (lth0 hd1) (lay_h0 hd1) rfl dX8_sounds_4 ?_
  refine lv_iload_n hx hb dX8_sounds_7 rfl (lv_at hl 2 rfl) ?_
  obtain ⟨u1, hzu1, hf⟩ := obd_some hf
  refine zz_callVi (rest := []) hx hb hml C hP hS (c_X7_indexOf l hDA (h := d.1) hd1 p2 hzu1) zw_X8_204 ⟨Nat.le_trans (Nat.le_of_ble_eq_true rfl) hRf, Nat.le_trans (Nat.le_of_ble_eq_true rfl) hRl⟩ (lth hd1 7 (by decide)) (lay_h7 hd1) rfl rfl hl.1 (Nat.le_of_ble_eq_true rfl) ⟨Nat.zero_le _, Nat.zero_le _⟩ rfl dX8_sounds_8 (fun H locs hP hS => ?_)
  refine lv_istore_n (lv' := [(3, .int u1), (0, .ref (a 0)), (1, .int p1), (2, .int p2)]) hx hb dX8_sounds_11 rfl hl (by decide) rfl (fun ls hl => ?_)
  refine lv_aload_n hx hb dX8_sounds_12 rfl (lv_at hl 1 rfl) ?_
  refine zg_X8_50 hx hb C hP (by decide) lay_0 rfl dX8_sounds_13 ?_
  refine zg_X8_109 hx hb C hP (lth0 hd1) (lay_h0 hd1) rfl dX8_sounds_16 ?_
  refine lv_iload_n hx hb dX8_sounds_19 rfl (lv_at hl 2 rfl) ?_
  obtain ⟨u2, hzu2⟩ : ∃ z, z = f_X0_isSet σ d.1 p1 := ⟨_, rfl⟩
  have hf := bnd_at u2 hzu2 hf
  refine zz_callVi (rest := []) hx hb hml C hP hS (c_X0_isSet l hDA (h := d.1) hd1 p1 hzu2.symm) zw_X8_207 ⟨Nat.le_trans (Nat.le_of_ble_eq_true rfl) hRf, Nat.le_trans (Nat.le_of_ble_eq_true rfl) hRl⟩ (lth hd1 1 (by decide)) (lay_h1 hd1) rfl rfl hl.1 (Nat.le_of_ble_eq_true rfl) ⟨Nat.zero_le _, Nat.zero_le _⟩ rfl dX8_sounds_20 (fun H locs hP hS => ?_)
  refine lv_if_eq (tgt := 31) hx hb dX8_sounds_23 (by decide) (fun hb2 => ?_) (fun hb2 => ?_)
  · have hf := ifT hb2 hf
    refine lv_aload_n hx hb dX8_sounds_31 rfl (lv_at hl 1 rfl) ?_
    refine lv_bipush (v := (-6)) hx hb dX8_sounds_32 (by decide) ?_
    obtain ⟨u4, hzu4, hf⟩ := obd_some hf
    refine zz_callVi (rest := []) hx hb hml C hP hS (c_X8_refuse l hDA (-6) hzu4) zw_X8_73 ⟨Nat.le_trans (Nat.le_of_ble_eq_true rfl) hRf, Nat.le_trans (Nat.le_of_ble_eq_true rfl) hRl⟩ (by decide) lay_0 rfl rfl hl.1 (Nat.le_of_ble_eq_true rfl) ⟨Nat.zero_le _, Nat.zero_le _⟩ rfl dX8_sounds_34 (fun H locs hP hS => ?_)
    have hf := Option.some.inj hf
    subst hf
    exact hQ _ _ _ _ dX8_sounds_37 hP hS
  · have hf := ifF hb2 hf
    refine lv_iload_n hx hb dX8_sounds_26 rfl (lv_at hl 0 rfl) ?_
    refine lv_iconst (v := (-1)) hx hb dX8_sounds_27 (by decide) ?_
    refine lv_icmp_ne (tgt := 38) hx hb dX8_sounds_28 (by decide) (fun hb4 => ?_) (fun hb4 => ?_)
    · have hf := ifF hb4 hf
      refine lv_aload_n hx hb dX8_sounds_38 rfl (lv_at hl 1 rfl) ?_
      refine zg_X8_50 hx hb C hP (by decide) lay_0 rfl dX8_sounds_39 ?_
      refine zg_X8_190 hx hb C hP (lth0 hd1) (lay_h0 hd1) rfl dX8_sounds_42 ?_
      refine lv_iload_n hx hb dX8_sounds_45 rfl (lv_at hl 2 rfl) ?_
      refine lv_iload_n hx hb dX8_sounds_46 rfl (lv_at hl 0 rfl) ?_
      obtain ⟨u6, hzu6, hf⟩ := obd_some hf
      refine zz_callVi (rest := []) hx hb hml C hP hS (c_X7_soundOf l hDA (h := d.1) hd1 p1 u1 hzu6) zw_X8_210 ⟨Nat.le_trans (Nat.le_of_ble_eq_true rfl) hRf, Nat.le_trans (Nat.le_of_ble_eq_true rfl) hRl⟩ (lth hd1 7 (by decide)) (lay_h7 hd1) rfl rfl hl.1 (Nat.le_of_ble_eq_true rfl) ⟨Nat.zero_le _, Nat.zero_le _⟩ rfl dX8_sounds_47 (fun H locs hP hS => ?_)
      have hf := Option.some.inj hf
      subst hf
      exact hQ _ _ _ _ dX8_sounds_50 hP hS
    · have hf := ifT hb4 hf
      refine lv_aload_n hx hb dX8_sounds_31 rfl (lv_at hl 1 rfl) ?_
      refine lv_bipush (v := (-6)) hx hb dX8_sounds_32 (by decide) ?_
      obtain ⟨u7, hzu7, hf⟩ := obd_some hf
      refine zz_callVi (rest := []) hx hb hml C hP hS (c_X8_refuse l hDA (-6) hzu7) zw_X8_73 ⟨Nat.le_trans (Nat.le_of_ble_eq_true rfl) hRf, Nat.le_trans (Nat.le_of_ble_eq_true rfl) hRl⟩ (by decide) lay_0 rfl rfl hl.1 (Nat.le_of_ble_eq_true rfl) ⟨Nat.zero_le _, Nat.zero_le _⟩ rfl dX8_sounds_34 (fun H locs hP hS => ?_)
      have hf := Option.some.inj hf
      subst hf
      exact hQ _ _ _ _ dX8_sounds_37 hP hS
set_option maxHeartbeats 4000000 in
set_option maxRecDepth 100000 in
theorem c_X8_heard (l : Launch) {D : va_G} {a : Nat → Nat} {cA : Nat → ClassId} {A : Nat → Prop} {sa : Nat → Nat} (hDA : DA a A) {σ : PH} {d : PD} (hd1 : isHall d.1) (p1 : Int32) (p2 : Int32) {u : Int32 × PH} (hf : f_X8_heard σ d p1 p2 = some u) : CTi l yX8_heard cX8_heard 3 (some .int) 5 124 D a cA A sa [.ref (a 0), .int p1, .int p2] σ d u.1 u.2 d := by
  refine zz_metI zpl_X8 hDA (Nat.le_of_ble_eq_true rfl) ?_
  intro p e R s m args below meth c Q ls hx hb hml C hRf hRl hQ hP hS hl
  have hl : lv_has ls 3 [(0, .ref (a 0)), (1, .int p1), (2, .int p2)] := hl
  unfold f_X8_heard at hf
  refine lv_aload_n hx hb dX8_heard_0 rfl (lv_at hl 0 rfl) ?_
  refine zg_X8_50 hx hb C hP (by decide) lay_0 rfl dX8_heard_1 ?_
  refine zg_X8_109 hx hb C hP (lth0 hd1) (lay_h0 hd1) rfl dX8_heard_4 ?_
  refine lv_iload_n hx hb dX8_heard_7 rfl (lv_at hl 1 rfl) ?_
  obtain ⟨u1, hzu1⟩ : ∃ z, z = f_X0_isSet σ d.1 p1 := ⟨_, rfl⟩
  have hf := bnd_at u1 hzu1 hf
  refine zz_callVi (rest := []) hx hb hml C hP hS (c_X0_isSet l hDA (h := d.1) hd1 p1 hzu1.symm) zw_X8_207 ⟨Nat.le_trans (Nat.le_of_ble_eq_true rfl) hRf, Nat.le_trans (Nat.le_of_ble_eq_true rfl) hRl⟩ (lth hd1 1 (by decide)) (lay_h1 hd1) rfl rfl hl.1 (Nat.le_of_ble_eq_true rfl) ⟨Nat.zero_le _, Nat.zero_le _⟩ rfl dX8_heard_8 (fun H locs hP hS => ?_)
  refine lv_if_eq (tgt := 26) hx hb dX8_heard_11 (by decide) (fun hb1 => ?_) (fun hb1 => ?_)
  · have hf := ifT hb1 hf
    refine lv_aload_n hx hb dX8_heard_26 rfl (lv_at hl 0 rfl) ?_
    refine lv_bipush (v := (-6)) hx hb dX8_heard_27 (by decide) ?_
    obtain ⟨u3, hzu3, hf⟩ := obd_some hf
    refine zz_callVi (rest := []) hx hb hml C hP hS (c_X8_refuse l hDA (-6) hzu3) zw_X8_73 ⟨Nat.le_trans (Nat.le_of_ble_eq_true rfl) hRf, Nat.le_trans (Nat.le_of_ble_eq_true rfl) hRl⟩ (by decide) lay_0 rfl rfl hl.1 (Nat.le_of_ble_eq_true rfl) ⟨Nat.zero_le _, Nat.zero_le _⟩ rfl dX8_heard_29 (fun H locs hP hS => ?_)
    have hf := Option.some.inj hf
    subst hf
    exact hQ _ _ _ _ dX8_heard_32 hP hS
  · have hf := ifF hb1 hf
    refine lv_aload_n hx hb dX8_heard_14 rfl (lv_at hl 0 rfl) ?_
    refine zg_X8_50 hx hb C hP (by decide) lay_0 rfl dX8_heard_15 ?_
    refine lv_iload_n hx hb dX8_heard_18 rfl (lv_at hl 1 rfl) ?_
    refine lv_iload_n hx hb dX8_heard_19 rfl (lv_at hl 2 rfl) ?_
    obtain ⟨u4, hzu4, hf⟩ := obd_some hf
    refine zz_callVi (rest := []) hx hb hml C hP hS (c_X2_canSound l hDA (h := d.1) hd1 p1 p2 hzu4) zw_X8_213 ⟨Nat.le_trans (Nat.le_of_ble_eq_true rfl) hRf, Nat.le_trans (Nat.le_of_ble_eq_true rfl) hRl⟩ (lth0 hd1) (lay_h0 hd1) rfl rfl hl.1 (Nat.le_of_ble_eq_true rfl) ⟨Nat.zero_le _, Nat.zero_le _⟩ rfl dX8_heard_20 (fun H locs hP hS => ?_)
    refine lv_if_ne (tgt := 33) hx hb dX8_heard_23 (by decide) (fun hb4 => ?_) (fun hb4 => ?_)
    · have hf := ifF hb4 hf
      refine lv_aload_n hx hb dX8_heard_33 rfl (lv_at hl 0 rfl) ?_
      refine zg_X8_50 hx hb C hP (by decide) lay_0 rfl dX8_heard_34 ?_
      refine lv_iload_n hx hb dX8_heard_37 rfl (lv_at hl 1 rfl) ?_
      refine lv_iload_n hx hb dX8_heard_38 rfl (lv_at hl 2 rfl) ?_
      obtain ⟨u6, hzu6, hf⟩ := obd_some hf
      refine zz_callVi (rest := []) hx hb hml C hP hS (c_X2_isKnown l hDA (h := d.1) hd1 p1 p2 hzu6) zw_X8_216 ⟨Nat.le_trans (Nat.le_of_ble_eq_true rfl) hRf, Nat.le_trans (Nat.le_of_ble_eq_true rfl) hRl⟩ (lth0 hd1) (lay_h0 hd1) rfl rfl hl.1 (Nat.le_of_ble_eq_true rfl) ⟨Nat.zero_le _, Nat.zero_le _⟩ rfl dX8_heard_39 (fun H locs hP hS => ?_)
      have hJ62 : j_X8_heard_62 d p1 p2 u4 = some u → ∀ (H : Heap) (locs : List Loc) (ls : Array Slot), lv_has ls 3 [(0, .ref (a 0)), (1, .int p1), (2, .int p2)] → va_P D vwCl (wl a cA u4.2 d) H → va_S A s.heap H locs → W p l e R s m args below meth c H locs 0 0 Q (F0 m 62 ls []) := by
        intro  hf H locs ls hl hP hS
        unfold j_X8_heard_62 at hf
        refine lv_aload_n hx hb dX8_heard_62 rfl (lv_at hl 0 rfl) ?_
        refine zg_X8_50 hx hb C hP (by decide) lay_0 rfl dX8_heard_63 ?_
        refine lv_iload_n hx hb dX8_heard_66 rfl (lv_at hl 1 rfl) ?_
        refine lv_iload_n hx hb dX8_heard_67 rfl (lv_at hl 2 rfl) ?_
        obtain ⟨u7, hzu7, hf⟩ := obd_some hf
        refine zz_callVv (rest := []) hx hb hml C hP hS (c_X2_learn l hDA (h := d.1) hd1 p1 p2 hzu7) zw_X8_220 ⟨Nat.le_trans (Nat.le_of_ble_eq_true rfl) hRf, Nat.le_trans (Nat.le_of_ble_eq_true rfl) hRl⟩ (lth0 hd1) (lay_h0 hd1) rfl rfl hl.1 (Nat.le_of_ble_eq_true rfl) ⟨Nat.zero_le _, Nat.zero_le _⟩ rfl dX8_heard_68 (fun H locs hP hS => ?_)
        refine lv_aload_n hx hb dX8_heard_71 rfl (lv_at hl 0 rfl) ?_
        refine zg_X8_50 hx hb C hP (by decide) lay_0 rfl dX8_heard_72 ?_
        obtain ⟨u8, hzu8⟩ : ∃ z, z = f_X2_possible u7 d.1 := ⟨_, rfl⟩
        have hf := bnd_at u8 hzu8 hf
        refine zz_callVi (rest := []) hx hb hml C hP hS (c_X2_possible l hDA (h := d.1) hd1 hzu8.symm) zw_X8_197 ⟨Nat.le_trans (Nat.le_of_ble_eq_true rfl) hRf, Nat.le_trans (Nat.le_of_ble_eq_true rfl) hRl⟩ (lth0 hd1) (lay_h0 hd1) rfl rfl hl.1 (Nat.le_of_ble_eq_true rfl) ⟨Nat.zero_le _, Nat.zero_le _⟩ rfl dX8_heard_75 (fun H locs hP hS => ?_)
        have hf := Option.some.inj hf
        subst hf
        exact hQ _ _ _ _ dX8_heard_78 hP hS
      refine lv_if_ne (tgt := 62) hx hb dX8_heard_42 (by decide) (fun hb8 => ?_) (fun hb8 => ?_)
      · have hf := ifF hb8 hf
        exact hJ62  hf _ _ _ (lv_sub hl [0, 1, 2] rfl) hP hS
      · have hf := ifT hb8 hf
        refine lv_aload_n hx hb dX8_heard_45 rfl (lv_at hl 0 rfl) ?_
        refine zg_X8_50 hx hb C hP (by decide) lay_0 rfl dX8_heard_46 ?_
        obtain ⟨u10, hzu10⟩ : ∃ z, z = f_X2_hasRoom u4.2 d.1 := ⟨_, rfl⟩
        have hf := bnd_at u10 hzu10 hf
        refine zz_callVi (rest := []) hx hb hml C hP hS (c_X2_hasRoom l hDA (h := d.1) hd1 hzu10.symm) zw_X8_219 ⟨Nat.le_trans (Nat.le_of_ble_eq_true rfl) hRf, Nat.le_trans (Nat.le_of_ble_eq_true rfl) hRl⟩ (lth0 hd1) (lay_h0 hd1) rfl rfl hl.1 (Nat.le_of_ble_eq_true rfl) ⟨Nat.zero_le _, Nat.zero_le _⟩ rfl dX8_heard_49 (fun H locs hP hS => ?_)
        refine lv_if_ne (tgt := 62) hx hb dX8_heard_52 (by decide) (fun hb10 => ?_) (fun hb10 => ?_)
        · have hf := ifF hb10 hf
          exact hJ62  hf _ _ _ (lv_sub hl [0, 1, 2] rfl) hP hS
        · have hf := ifT hb10 hf
          refine lv_aload_n hx hb dX8_heard_55 rfl (lv_at hl 0 rfl) ?_
          refine lv_bipush (v := (-7)) hx hb dX8_heard_56 (by decide) ?_
          obtain ⟨u12, hzu12, hf⟩ := obd_some hf
          refine zz_callVi (rest := []) hx hb hml C hP hS (c_X8_refuse l hDA (-7) hzu12) zw_X8_73 ⟨Nat.le_trans (Nat.le_of_ble_eq_true rfl) hRf, Nat.le_trans (Nat.le_of_ble_eq_true rfl) hRl⟩ (by decide) lay_0 rfl rfl hl.1 (Nat.le_of_ble_eq_true rfl) ⟨Nat.zero_le _, Nat.zero_le _⟩ rfl dX8_heard_58 (fun H locs hP hS => ?_)
          have hf := Option.some.inj hf
          subst hf
          exact hQ _ _ _ _ dX8_heard_61 hP hS
    · have hf := ifT hb4 hf
      refine lv_aload_n hx hb dX8_heard_26 rfl (lv_at hl 0 rfl) ?_
      refine lv_bipush (v := (-6)) hx hb dX8_heard_27 (by decide) ?_
      obtain ⟨u13, hzu13, hf⟩ := obd_some hf
      refine zz_callVi (rest := []) hx hb hml C hP hS (c_X8_refuse l hDA (-6) hzu13) zw_X8_73 ⟨Nat.le_trans (Nat.le_of_ble_eq_true rfl) hRf, Nat.le_trans (Nat.le_of_ble_eq_true rfl) hRl⟩ (by decide) lay_0 rfl rfl hl.1 (Nat.le_of_ble_eq_true rfl) ⟨Nat.zero_le _, Nat.zero_le _⟩ rfl dX8_heard_29 (fun H locs hP hS => ?_)
      have hf := Option.some.inj hf
      subst hf
      exact hQ _ _ _ _ dX8_heard_32 hP hS
set_option maxHeartbeats 4000000 in
set_option maxRecDepth 100000 in
theorem c_X8_known (l : Launch) {D : va_G} {a : Nat → Nat} {cA : Nat → ClassId} {A : Nat → Prop} {sa : Nat → Nat} (hDA : DA a A) {σ : PH} {d : PD} (hd1 : isHall d.1) (p1 : Int32) {u : Int32 × PH} (hf : f_X8_known σ d p1 = some u) : CTi l yX8_known cX8_known 2 (some .int) 1 21 D a cA A sa [.ref (a 0), .int p1] σ d u.1 u.2 d := by
  refine zz_metI zpl_X8 hDA (Nat.le_of_ble_eq_true rfl) ?_
  intro p e R s m args below meth c Q ls hx hb hml C hRf hRl hQ hP hS hl
  have hl : lv_has ls 2 [(0, .ref (a 0)), (1, .int p1)] := hl
  unfold f_X8_known at hf
  refine lv_iload_n hx hb dX8_known_0 rfl (lv_at hl 1 rfl) ?_
  refine lv_iconst (v := (-1)) hx hb dX8_known_1 (by decide) ?_
  refine lv_icmp_ne (tgt := 13) hx hb dX8_known_2 (by decide) (fun hb0 => ?_) (fun hb0 => ?_)
  · have hf := ifF hb0 hf
    refine lv_iload_n hx hb dX8_known_13 rfl (lv_at hl 1 rfl) ?_
    refine lv_if_lt (tgt := 28) hx hb dX8_known_14 (by decide) (fun hb1 => ?_) (fun hb1 => ?_)
    · have hf := ifT hb1 hf
      refine lv_aload_n hx hb dX8_known_28 rfl (lv_at hl 0 rfl) ?_
      refine lv_bipush (v := (-5)) hx hb dX8_known_29 (by decide) ?_
      obtain ⟨u3, hzu3, hf⟩ := obd_some hf
      refine zz_callVi (rest := []) hx hb hml C hP hS (c_X8_refuse l hDA (-5) hzu3) zw_X8_73 ⟨Nat.le_trans (Nat.le_of_ble_eq_true rfl) hRf, Nat.le_trans (Nat.le_of_ble_eq_true rfl) hRl⟩ (by decide) lay_0 rfl rfl hl.1 (Nat.le_of_ble_eq_true rfl) ⟨Nat.zero_le _, Nat.zero_le _⟩ rfl dX8_known_31 (fun H locs hP hS => ?_)
      have hf := Option.some.inj hf
      subst hf
      exact hQ _ _ _ _ dX8_known_34 hP hS
    · have hf := ifF hb1 hf
      refine lv_iload_n hx hb dX8_known_17 rfl (lv_at hl 1 rfl) ?_
      refine lv_aload_n hx hb dX8_known_18 rfl (lv_at hl 0 rfl) ?_
      refine zg_X8_50 hx hb C hP (by decide) lay_0 rfl dX8_known_19 ?_
      refine zg_X8_223 hx hb C hP (lth0 hd1) (lay_h0 hd1) rfl dX8_known_22 ?_
      refine lv_icmp_lt (tgt := 35) hx hb dX8_known_25 (by decide) (fun hb3 => ?_) (fun hb3 => ?_)
      · have hf := ifT hb3 hf
        refine lv_aload_n hx hb dX8_known_35 rfl (lv_at hl 0 rfl) ?_
        refine zg_X8_50 hx hb C hP (by decide) lay_0 rfl dX8_known_36 ?_
        refine zg_X8_226 hx hb C hP (lth0 hd1) (lay_h0 hd1) rfl dX8_known_39 ?_
        refine lv_iload_n hx hb dX8_known_42 rfl (lv_at hl 1 rfl) ?_
        obtain ⟨hc4, hf⟩ := chk_some hf
        refine zz_iald hx hb C hP (lth hd1 16 (by decide)) (lay_h16 hd1) (inb_vp hc4) dX8_known_43 ?_
        have hf := Option.some.inj hf
        subst hf
        exact hQ _ _ _ _ dX8_known_44 hP hS
      · have hf := ifF hb3 hf
        refine lv_aload_n hx hb dX8_known_28 rfl (lv_at hl 0 rfl) ?_
        refine lv_bipush (v := (-5)) hx hb dX8_known_29 (by decide) ?_
        obtain ⟨u6, hzu6, hf⟩ := obd_some hf
        refine zz_callVi (rest := []) hx hb hml C hP hS (c_X8_refuse l hDA (-5) hzu6) zw_X8_73 ⟨Nat.le_trans (Nat.le_of_ble_eq_true rfl) hRf, Nat.le_trans (Nat.le_of_ble_eq_true rfl) hRl⟩ (by decide) lay_0 rfl rfl hl.1 (Nat.le_of_ble_eq_true rfl) ⟨Nat.zero_le _, Nat.zero_le _⟩ rfl dX8_known_31 (fun H locs hP hS => ?_)
        have hf := Option.some.inj hf
        subst hf
        exact hQ _ _ _ _ dX8_known_34 hP hS
  · have hf := ifT hb0 hf
    refine lv_aload_n hx hb dX8_known_5 rfl (lv_at hl 0 rfl) ?_
    refine zg_X8_50 hx hb C hP (by decide) lay_0 rfl dX8_known_6 ?_
    refine zg_X8_223 hx hb C hP (lth0 hd1) (lay_h0 hd1) rfl dX8_known_9 ?_
    have hf := Option.some.inj hf
    subst hf
    exact hQ _ _ _ _ dX8_known_12 hP hS
set_option maxHeartbeats 4000000 in
set_option maxRecDepth 100000 in
theorem c_X8_forget (l : Launch) {D : va_G} {a : Nat → Nat} {cA : Nat → ClassId} {A : Nat → Prop} {sa : Nat → Nat} (hDA : DA a A) {σ : PH} {d : PD} (hd1 : isHall d.1)  {u : Int32 × PH} (hf : f_X8_forget σ d = u) : CTi l yX8_forget cX8_forget 2 (some .int) 2 40 D a cA A sa [.ref (a 0)] σ d u.1 u.2 d := by
  refine zz_metI zpl_X8 hDA (Nat.le_of_ble_eq_true rfl) ?_
  intro p e R s m args below meth c Q ls hx hb hml C hRf hRl hQ hP hS hl
  have hl : lv_has ls 2 [(0, .ref (a 0))] := hl
  unfold f_X8_forget at hf
  refine lv_aload_n hx hb dX8_forget_0 rfl (lv_at hl 0 rfl) ?_
  refine zg_X8_50 hx hb C hP (by decide) lay_0 rfl dX8_forget_1 ?_
  refine zg_X8_223 hx hb C hP (lth0 hd1) (lay_h0 hd1) rfl dX8_forget_4 ?_
  refine lv_topi (fun v1 ev1 => ?_)
  have hf := bnd_at v1 ev1 hf
  refine lv_istore_n (lv' := [(1, .int v1), (0, .ref (a 0))]) hx hb dX8_forget_7 rfl hl (by decide) rfl (fun ls hl => ?_)
  refine lv_aload_n hx hb dX8_forget_8 rfl (lv_at hl 1 rfl) ?_
  refine zg_X8_50 hx hb C hP (by decide) lay_0 rfl dX8_forget_9 ?_
  obtain ⟨u2, hzu2⟩ : ∃ z, z = f_X2_forgetAll σ d.1 := ⟨_, rfl⟩
  have hf := bnd_at u2 hzu2 hf
  refine zz_callVv (rest := []) hx hb hml C hP hS (c_X2_forgetAll l hDA (h := d.1) hd1 hzu2.symm) zw_X8_229 ⟨Nat.le_trans (Nat.le_of_ble_eq_true rfl) hRf, Nat.le_trans (Nat.le_of_ble_eq_true rfl) hRl⟩ (lth0 hd1) (lay_h0 hd1) rfl rfl hl.1 (Nat.le_of_ble_eq_true rfl) ⟨Nat.zero_le _, Nat.zero_le _⟩ rfl dX8_forget_12 (fun H locs hP hS => ?_)
  refine lv_iload_n hx hb dX8_forget_15 rfl (lv_at hl 0 rfl) ?_
  subst hf
  exact hQ _ _ _ _ dX8_forget_16 hP hS
set_option maxHeartbeats 4000000 in
set_option maxRecDepth 100000 in
theorem c_X8_may (l : Launch) {D : va_G} {a : Nat → Nat} {cA : Nat → ClassId} {A : Nat → Prop} {sa : Nat → Nat} (hDA : DA a A) {σ : PH} {d : PD} (hd1 : isHall d.1) (p1 : Int32) {u : Int32 × PH} (hf : f_X8_may σ d p1 = some u) : CTi l yX8_may cX8_may 2 (some .int) 4 86 D a cA A sa [.ref (a 0), .int p1] σ d u.1 u.2 d := by
  refine zz_metI zpl_X8 hDA (Nat.le_of_ble_eq_true rfl) ?_
  intro p e R s m args below meth c Q ls hx hb hml C hRf hRl hQ hP hS hl
  have hl : lv_has ls 2 [(0, .ref (a 0)), (1, .int p1)] := hl
  unfold f_X8_may at hf
  refine lv_iload_n hx hb dX8_may_0 rfl (lv_at hl 1 rfl) ?_
  by_cases hb0 : p1 = 0
  · have hf := ifT hb0 hf
    refine lv_lookup (off := 27) (tgt := 28) hx hb dX8_may_1 (by decide) (by rw [hb0]; decide) (by decide) ?_
    refine lv_aload_n hx hb dX8_may_28 rfl (lv_at hl 0 rfl) ?_
    refine zg_X8_50 hx hb C hP (by decide) lay_0 rfl dX8_may_29 ?_
    obtain ⟨u2, hzu2, hf⟩ := obd_some hf
    refine zz_callVi (rest := []) hx hb hml C hP hS (c_X2_wrongInSome l hDA (h := d.1) hd1 hzu2) zw_X8_232 ⟨Nat.le_trans (Nat.le_of_ble_eq_true rfl) hRf, Nat.le_trans (Nat.le_of_ble_eq_true rfl) hRl⟩ (lth0 hd1) (lay_h0 hd1) rfl rfl hl.1 (Nat.le_of_ble_eq_true rfl) ⟨Nat.zero_le _, Nat.zero_le _⟩ rfl dX8_may_32 (fun H locs hP hS => ?_)
    have hf := Option.some.inj hf
    subst hf
    exact hQ _ _ _ _ dX8_may_35 hP hS
  have hf := ifF hb0 hf
  by_cases hb2 : p1 = 1
  · have hf := ifT hb2 hf
    refine lv_lookup (off := 35) (tgt := 36) hx hb dX8_may_1 (by decide) (by rw [hb2]; decide) (by decide) ?_
    refine lv_aload_n hx hb dX8_may_36 rfl (lv_at hl 0 rfl) ?_
    refine zg_X8_50 hx hb C hP (by decide) lay_0 rfl dX8_may_37 ?_
    obtain ⟨u4, hzu4, hf⟩ := obd_some hf
    refine zz_callVi (rest := []) hx hb hml C hP hS (c_X2_wrongInAll l hDA (h := d.1) hd1 hzu4) zw_X8_235 ⟨Nat.le_trans (Nat.le_of_ble_eq_true rfl) hRf, Nat.le_trans (Nat.le_of_ble_eq_true rfl) hRl⟩ (lth0 hd1) (lay_h0 hd1) rfl rfl hl.1 (Nat.le_of_ble_eq_true rfl) ⟨Nat.zero_le _, Nat.zero_le _⟩ rfl dX8_may_40 (fun H locs hP hS => ?_)
    have hf := Option.some.inj hf
    subst hf
    exact hQ _ _ _ _ dX8_may_43 hP hS
  have hf := ifF hb2 hf
  refine lv_lookup (off := 43) (tgt := 44) hx hb dX8_may_1 (by decide) (lks_0_1 hb0 hb2) (by decide) ?_
  refine lv_aload_n hx hb dX8_may_44 rfl (lv_at hl 0 rfl) ?_
  refine lv_bipush (v := (-5)) hx hb dX8_may_45 (by decide) ?_
  obtain ⟨u5, hzu5, hf⟩ := obd_some hf
  refine zz_callVi (rest := []) hx hb hml C hP hS (c_X8_refuse l hDA (-5) hzu5) zw_X8_73 ⟨Nat.le_trans (Nat.le_of_ble_eq_true rfl) hRf, Nat.le_trans (Nat.le_of_ble_eq_true rfl) hRl⟩ (by decide) lay_0 rfl rfl hl.1 (Nat.le_of_ble_eq_true rfl) ⟨Nat.zero_le _, Nat.zero_le _⟩ rfl dX8_may_47 (fun H locs hP hS => ?_)
  have hf := Option.some.inj hf
  subst hf
  exact hQ _ _ _ _ dX8_may_50 hP hS
set_option maxHeartbeats 4000000 in
set_option maxRecDepth 100000 in
theorem c_X8_likeliest (l : Launch) {D : va_G} {a : Nat → Nat} {cA : Nat → ClassId} {A : Nat → Prop} {sa : Nat → Nat} (hDA : DA a A) {σ : PH} {d : PD} (hd1 : isHall d.1)  {u : Int32 × PH} (hf : f_X8_likeliest σ d = some u) : CTi l yX8_likeliest cX8_likeliest 1 (some .int) 3 67 D a cA A sa [.ref (a 0)] σ d u.1 u.2 d := by
  refine zz_metI zpl_X8 hDA (Nat.le_of_ble_eq_true rfl) ?_
  intro p e R s m args below meth c Q ls hx hb hml C hRf hRl hQ hP hS hl
  have hl : lv_has ls 1 [(0, .ref (a 0))] := hl
  unfold f_X8_likeliest at hf
  refine lv_aload_n hx hb dX8_likeliest_0 rfl (lv_at hl 0 rfl) ?_
  refine zg_X8_50 hx hb C hP (by decide) lay_0 rfl dX8_likeliest_1 ?_
  obtain ⟨u1, hzu1⟩ : ∃ z, z = f_X2_possible σ d.1 := ⟨_, rfl⟩
  have hf := bnd_at u1 hzu1 hf
  refine zz_callVi (rest := []) hx hb hml C hP hS (c_X2_possible l hDA (h := d.1) hd1 hzu1.symm) zw_X8_197 ⟨Nat.le_trans (Nat.le_of_ble_eq_true rfl) hRf, Nat.le_trans (Nat.le_of_ble_eq_true rfl) hRl⟩ (lth0 hd1) (lay_h0 hd1) rfl rfl hl.1 (Nat.le_of_ble_eq_true rfl) ⟨Nat.zero_le _, Nat.zero_le _⟩ rfl dX8_likeliest_4 (fun H locs hP hS => ?_)
  refine lv_if_ne (tgt := 17) hx hb dX8_likeliest_7 (by decide) (fun hb1 => ?_) (fun hb1 => ?_)
  · have hf := ifF hb1 hf
    refine lv_aload_n hx hb dX8_likeliest_17 rfl (lv_at hl 0 rfl) ?_
    refine zg_X8_50 hx hb C hP (by decide) lay_0 rfl dX8_likeliest_18 ?_
    obtain ⟨u3, hzu3, hf⟩ := obd_some hf
    refine zz_callVi (rest := []) hx hb hml C hP hS (c_X2_likeliestWorld l hDA (h := d.1) hd1 hzu3) zw_X8_238 ⟨Nat.le_trans (Nat.le_of_ble_eq_true rfl) hRf, Nat.le_trans (Nat.le_of_ble_eq_true rfl) hRl⟩ (lth0 hd1) (lay_h0 hd1) rfl rfl hl.1 (Nat.le_of_ble_eq_true rfl) ⟨Nat.zero_le _, Nat.zero_le _⟩ rfl dX8_likeliest_21 (fun H locs hP hS => ?_)
    have hf := Option.some.inj hf
    subst hf
    exact hQ _ _ _ _ dX8_likeliest_24 hP hS
  · have hf := ifT hb1 hf
    refine lv_aload_n hx hb dX8_likeliest_10 rfl (lv_at hl 0 rfl) ?_
    refine lv_bipush (v := (-5)) hx hb dX8_likeliest_11 (by decide) ?_
    obtain ⟨u4, hzu4, hf⟩ := obd_some hf
    refine zz_callVi (rest := []) hx hb hml C hP hS (c_X8_refuse l hDA (-5) hzu4) zw_X8_73 ⟨Nat.le_trans (Nat.le_of_ble_eq_true rfl) hRf, Nat.le_trans (Nat.le_of_ble_eq_true rfl) hRl⟩ (by decide) lay_0 rfl rfl hl.1 (Nat.le_of_ble_eq_true rfl) ⟨Nat.zero_le _, Nat.zero_le _⟩ rfl dX8_likeliest_13 (fun H locs hP hS => ?_)
    have hf := Option.some.inj hf
    subst hf
    exact hQ _ _ _ _ dX8_likeliest_16 hP hS
set_option maxHeartbeats 4000000 in
set_option maxRecDepth 100000 in
theorem c_X8_lawful (l : Launch) {D : va_G} {a : Nat → Nat} {cA : Nat → ClassId} {A : Nat → Prop} {sa : Nat → Nat} (hDA : DA a A) {σ : PH} {d : PD} (hd1 : isHall d.1) (p1 : Int32) {u : Int32} (hf : f_X8_lawful σ d p1 = some u) : CTi l yX8_lawful cX8_lawful 2 (some .int) 3 62 D a cA A sa [.ref (a 0), .int p1] σ d u σ d := by
  refine zz_metI zpl_X8 hDA (Nat.le_of_ble_eq_true rfl) ?_
  intro p e R s m args below meth c Q ls hx hb hml C hRf hRl hQ hP hS hl
  have hl : lv_has ls 2 [(0, .ref (a 0)), (1, .int p1)] := hl
  unfold f_X8_lawful at hf
  refine lv_aload_n hx hb dX8_lawful_0 rfl (lv_at hl 0 rfl) ?_
  refine zg_X8_50 hx hb C hP (by decide) lay_0 rfl dX8_lawful_1 ?_
  refine lv_iload_n hx hb dX8_lawful_4 rfl (lv_at hl 1 rfl) ?_
  obtain ⟨u1, hzu1, hf⟩ := obd_some hf
  refine zz_callVi (rest := []) hx hb hml C hP hS (c_X2_allows l hDA (h := d.1) hd1 p1 hzu1) zw_X8_241 ⟨Nat.le_trans (Nat.le_of_ble_eq_true rfl) hRf, Nat.le_trans (Nat.le_of_ble_eq_true rfl) hRl⟩ (lth0 hd1) (lay_h0 hd1) rfl rfl hl.1 (Nat.le_of_ble_eq_true rfl) ⟨Nat.zero_le _, Nat.zero_le _⟩ rfl dX8_lawful_5 (fun H locs hP hS => ?_)
  refine lv_if_eq (tgt := 15) hx hb dX8_lawful_8 (by decide) (fun hb1 => ?_) (fun hb1 => ?_)
  · have hf := ifT hb1 hf
    refine lv_iconst (v := 0) hx hb dX8_lawful_15 (by decide) ?_
    have hf := Option.some.inj hf
    subst hf
    exact hQ _ _ _ _ dX8_lawful_16 hP hS
  · have hf := ifF hb1 hf
    refine lv_iconst (v := 1) hx hb dX8_lawful_11 (by decide) ?_
    refine lv_goto (tgt := 16) hx hb dX8_lawful_12 (by decide) ?_
    have hf := Option.some.inj hf
    subst hf
    exact hQ _ _ _ _ dX8_lawful_16 hP hS
set_option maxHeartbeats 4000000 in
set_option maxRecDepth 100000 in
theorem c_X8_parts (l : Launch) {D : va_G} {a : Nat → Nat} {cA : Nat → ClassId} {A : Nat → Prop} {sa : Nat → Nat} (hDA : DA a A) {σ : PH} {d : PD} (hd1 : isHall d.1) (p1 : Int32) (p2 : Int32) {u : Int32 × PH} (hf : f_X8_parts σ d p1 p2 = some u) : CTi l yX8_parts cX8_parts 4 (some .int) 4 102 D a cA A sa [.ref (a 0), .int p1, .int p2] σ d u.1 u.2 d := by
  refine zz_metI zpl_X8 hDA (Nat.le_of_ble_eq_true rfl) ?_
  intro p e R s m args below meth c Q ls hx hb hml C hRf hRl hQ hP hS hl
  have hl : lv_has ls 4 [(0, .ref (a 0)), (1, .int p1), (2, .int p2)] := hl
  unfold f_X8_parts at hf
  refine lv_iload_n hx hb dX8_parts_0 rfl (lv_at hl 2 rfl) ?_
  refine lv_if_lt (tgt := 9) hx hb dX8_parts_1 (by decide) (fun hb0 => ?_) (fun hb0 => ?_)
  · have hf := ifT hb0 hf
    refine lv_aload_n hx hb dX8_parts_9 rfl (lv_at hl 0 rfl) ?_
    refine lv_bipush (v := (-5)) hx hb dX8_parts_10 (by decide) ?_
    obtain ⟨u2, hzu2, hf⟩ := obd_some hf
    refine zz_callVi (rest := []) hx hb hml C hP hS (c_X8_refuse l hDA (-5) hzu2) zw_X8_73 ⟨Nat.le_trans (Nat.le_of_ble_eq_true rfl) hRf, Nat.le_trans (Nat.le_of_ble_eq_true rfl) hRl⟩ (by decide) lay_0 rfl rfl hl.1 (Nat.le_of_ble_eq_true rfl) ⟨Nat.zero_le _, Nat.zero_le _⟩ rfl dX8_parts_12 (fun H locs hP hS => ?_)
    have hf := Option.some.inj hf
    subst hf
    exact hQ _ _ _ _ dX8_parts_15 hP hS
  · have hf := ifF hb0 hf
    refine lv_iload_n hx hb dX8_parts_4 rfl (lv_at hl 2 rfl) ?_
    refine lv_iconst (v := 1) hx hb dX8_parts_5 (by decide) ?_
    refine lv_icmp_le (tgt := 16) hx hb dX8_parts_6 (by decide) (fun hb2 => ?_) (fun hb2 => ?_)
    · have hf := ifT hb2 hf
      refine lv_aload_n hx hb dX8_parts_16 rfl (lv_at hl 0 rfl) ?_
      refine zg_X8_50 hx hb C hP (by decide) lay_0 rfl dX8_parts_17 ?_
      refine zg_X8_109 hx hb C hP (lth0 hd1) (lay_h0 hd1) rfl dX8_parts_20 ?_
      refine lv_iload_n hx hb dX8_parts_23 rfl (lv_at hl 1 rfl) ?_
      obtain ⟨u4, hzu4⟩ : ∃ z, z = f_X0_isSet σ d.1 p1 := ⟨_, rfl⟩
      have hf := bnd_at u4 hzu4 hf
      refine zz_callVi (rest := []) hx hb hml C hP hS (c_X0_isSet l hDA (h := d.1) hd1 p1 hzu4.symm) zw_X8_207 ⟨Nat.le_trans (Nat.le_of_ble_eq_true rfl) hRf, Nat.le_trans (Nat.le_of_ble_eq_true rfl) hRl⟩ (lth hd1 1 (by decide)) (lay_h1 hd1) rfl rfl hl.1 (Nat.le_of_ble_eq_true rfl) ⟨Nat.zero_le _, Nat.zero_le _⟩ rfl dX8_parts_24 (fun H locs hP hS => ?_)
      refine lv_if_ne (tgt := 37) hx hb dX8_parts_27 (by decide) (fun hb4 => ?_) (fun hb4 => ?_)
      · have hf := ifF hb4 hf
        refine lv_aload_n hx hb dX8_parts_37 rfl (lv_at hl 0 rfl) ?_
        refine zg_X8_50 hx hb C hP (by decide) lay_0 rfl dX8_parts_38 ?_
        refine zg_X8_190 hx hb C hP (lth0 hd1) (lay_h0 hd1) rfl dX8_parts_41 ?_
        refine lv_iload_n hx hb dX8_parts_44 rfl (lv_at hl 1 rfl) ?_
        refine lv_aload_n hx hb dX8_parts_45 rfl (lv_at hl 0 rfl) ?_
        refine zg_X8_50 hx hb C hP (by decide) lay_0 rfl dX8_parts_46 ?_
        refine zg_X8_244 hx hb C hP (lth0 hd1) (lay_h0 hd1) rfl dX8_parts_49 ?_
        refine lv_aload_n hx hb dX8_parts_52 rfl (lv_at hl 0 rfl) ?_
        refine zg_X8_50 hx hb C hP (by decide) lay_0 rfl dX8_parts_53 ?_
        refine zg_X8_248 hx hb C hP (lth0 hd1) (lay_h0 hd1) rfl dX8_parts_56 ?_
        obtain ⟨u6, hzu6, hf⟩ := obd_some hf
        refine zz_callVi (rest := []) hx hb hml C hP hS (c_X7_wrongAmong l hDA (h := d.1) hd1 p1 (gJ σ d.1 7) (gJ σ d.1 8) hzu6) zw_X8_251 ⟨Nat.le_trans (Nat.le_of_ble_eq_true rfl) hRf, Nat.le_trans (Nat.le_of_ble_eq_true rfl) hRl⟩ (lth hd1 7 (by decide)) (lay_h7 hd1) rfl rfl hl.1 (Nat.le_of_ble_eq_true rfl) ⟨Nat.zero_le _, Nat.zero_le _⟩ rfl dX8_parts_59 (fun H locs hP hS => ?_)
        refine lv_istore_n (lv' := [(3, .int u6.1), (0, .ref (a 0)), (1, .int p1), (2, .int p2)]) hx hb dX8_parts_62 rfl hl (by decide) rfl (fun ls hl => ?_)
        refine lv_iload_n hx hb dX8_parts_63 rfl (lv_at hl 3 rfl) ?_
        refine lv_if_ne (tgt := 71) hx hb dX8_parts_64 (by decide) (fun hb6 => ?_) (fun hb6 => ?_)
        · have hf := ifF hb6 hf
          refine lv_iload_n hx hb dX8_parts_71 rfl (lv_at hl 0 rfl) ?_
          refine lv_aload_n hx hb dX8_parts_72 rfl (lv_at hl 1 rfl) ?_
          refine zg_X8_50 hx hb C hP (by decide) lay_0 rfl dX8_parts_73 ?_
          obtain ⟨u8, hzu8⟩ : ∃ z, z = f_X2_possible u6.2 d.1 := ⟨_, rfl⟩
          have hf := bnd_at u8 hzu8 hf
          refine zz_callVi (rest := [.int u6.1]) hx hb hml C hP hS (c_X2_possible l hDA (h := d.1) hd1 hzu8.symm) zw_X8_197 ⟨Nat.le_trans (Nat.le_of_ble_eq_true rfl) hRf, Nat.le_trans (Nat.le_of_ble_eq_true rfl) hRl⟩ (lth0 hd1) (lay_h0 hd1) rfl rfl hl.1 (Nat.le_of_ble_eq_true rfl) ⟨Nat.zero_le _, Nat.zero_le _⟩ rfl dX8_parts_76 (fun H locs hP hS => ?_)
          refine lv_iload_n hx hb dX8_parts_79 rfl (lv_at hl 0 rfl) ?_
          refine lv_isub hx hb dX8_parts_80 ?_
          refine zz_max hx hb (hml.trans hl.1.symm) C km_X8_255 kt_Lib_Math_max_name kn_J9 kc_Lib_Math_max_name (Nat.le_trans (by decide) hRf) (Nat.le_trans (Nat.le_of_ble_eq_true rfl) hRl) ⟨Nat.zero_le _, Nat.zero_le _⟩ dX8_parts_81 ?_
          have hf := Option.some.inj hf
          subst hf
          exact hQ _ _ _ _ dX8_parts_84 hP hS
        · have hf := ifT hb6 hf
          refine lv_iload_n hx hb dX8_parts_67 rfl (lv_at hl 0 rfl) ?_
          refine lv_goto (tgt := 84) hx hb dX8_parts_68 (by decide) ?_
          have hf := Option.some.inj hf
          subst hf
          exact hQ _ _ _ _ dX8_parts_84 hP hS
      · have hf := ifT hb4 hf
        refine lv_aload_n hx hb dX8_parts_30 rfl (lv_at hl 0 rfl) ?_
        refine lv_bipush (v := (-6)) hx hb dX8_parts_31 (by decide) ?_
        obtain ⟨u9, hzu9, hf⟩ := obd_some hf
        refine zz_callVi (rest := []) hx hb hml C hP hS (c_X8_refuse l hDA (-6) hzu9) zw_X8_73 ⟨Nat.le_trans (Nat.le_of_ble_eq_true rfl) hRf, Nat.le_trans (Nat.le_of_ble_eq_true rfl) hRl⟩ (by decide) lay_0 rfl rfl hl.1 (Nat.le_of_ble_eq_true rfl) ⟨Nat.zero_le _, Nat.zero_le _⟩ rfl dX8_parts_33 (fun H locs hP hS => ?_)
        have hf := Option.some.inj hf
        subst hf
        exact hQ _ _ _ _ dX8_parts_36 hP hS
    · have hf := ifF hb2 hf
      refine lv_aload_n hx hb dX8_parts_9 rfl (lv_at hl 0 rfl) ?_
      refine lv_bipush (v := (-5)) hx hb dX8_parts_10 (by decide) ?_
      obtain ⟨u10, hzu10, hf⟩ := obd_some hf
      refine zz_callVi (rest := []) hx hb hml C hP hS (c_X8_refuse l hDA (-5) hzu10) zw_X8_73 ⟨Nat.le_trans (Nat.le_of_ble_eq_true rfl) hRf, Nat.le_trans (Nat.le_of_ble_eq_true rfl) hRl⟩ (by decide) lay_0 rfl rfl hl.1 (Nat.le_of_ble_eq_true rfl) ⟨Nat.zero_le _, Nat.zero_le _⟩ rfl dX8_parts_12 (fun H locs hP hS => ?_)
      have hf := Option.some.inj hf
      subst hf
      exact hQ _ _ _ _ dX8_parts_15 hP hS
set_option maxHeartbeats 4000000 in
set_option maxRecDepth 100000 in
theorem c_X8_next (l : Launch) {D : va_G} {a : Nat → Nat} {cA : Nat → ClassId} {A : Nat → Prop} {sa : Nat → Nat} (hDA : DA a A) {σ : PH} {d : PD} (hd1 : isHall d.1)  {u : Int32 × PH} (hf : f_X8_next σ d = some u) : CTi l yX8_next cX8_next 1 (some .int) 5 133 D a cA A sa [.ref (a 0)] σ d u.1 u.2 d := by
  refine zz_metI zpl_X8 hDA (Nat.le_of_ble_eq_true rfl) ?_
  intro p e R s m args below meth c Q ls hx hb hml C hRf hRl hQ hP hS hl
  have hl : lv_has ls 1 [(0, .ref (a 0))] := hl
  unfold f_X8_next at hf
  refine lv_aload_n hx hb dX8_next_0 rfl (lv_at hl 0 rfl) ?_
  refine zg_X8_50 hx hb C hP (by decide) lay_0 rfl dX8_next_1 ?_
  refine lv_aload_n hx hb dX8_next_4 rfl (lv_at hl 0 rfl) ?_
  refine zg_X8_50 hx hb C hP (by decide) lay_0 rfl dX8_next_5 ?_
  refine zg_X8_244 hx hb C hP (lth0 hd1) (lay_h0 hd1) rfl dX8_next_8 ?_
  refine lv_aload_n hx hb dX8_next_11 rfl (lv_at hl 0 rfl) ?_
  refine zg_X8_50 hx hb C hP (by decide) lay_0 rfl dX8_next_12 ?_
  refine zg_X8_248 hx hb C hP (lth0 hd1) (lay_h0 hd1) rfl dX8_next_15 ?_
  obtain ⟨u1, hzu1, hf⟩ := obd_some hf
  refine zz_callVi (rest := []) hx hb hml C hP hS (c_X2_best l hDA (h := d.1) hd1 (gJ σ d.1 7) (gJ σ d.1 8) hzu1) zw_X8_260 ⟨Nat.le_trans (Nat.le_of_ble_eq_true rfl) hRf, Nat.le_trans (Nat.le_of_ble_eq_true rfl) hRl⟩ (lth0 hd1) (lay_h0 hd1) rfl rfl hl.1 (Nat.le_of_ble_eq_true rfl) ⟨Nat.zero_le _, Nat.zero_le _⟩ rfl dX8_next_18 (fun H locs hP hS => ?_)
  have hf := Option.some.inj hf
  subst hf
  exact hQ _ _ _ _ dX8_next_21 hP hS
set_option maxHeartbeats 4000000 in
set_option maxRecDepth 100000 in
theorem c_X8_by (l : Launch) {D : va_G} {a : Nat → Nat} {cA : Nat → ClassId} {A : Nat → Prop} {sa : Nat → Nat} (hDA : DA a A) {σ : PH} {d : PD} (hd1 : isHall d.1) (p1 : Int32) {u : Int32 × PH} (hf : f_X8_by σ d p1 = some u) : CTi l yX8_by cX8_by 2 (some .int) 6 161 D a cA A sa [.ref (a 0), .int p1] σ d u.1 u.2 d := by
  refine zz_metI zpl_X8 hDA (Nat.le_of_ble_eq_true rfl) ?_
  intro p e R s m args below meth c Q ls hx hb hml C hRf hRl hQ hP hS hl
  have hl : lv_has ls 2 [(0, .ref (a 0)), (1, .int p1)] := hl
  unfold f_X8_by at hf
  refine lv_iload_n hx hb dX8_by_0 rfl (lv_at hl 1 rfl) ?_
  refine lv_if_lt (tgt := 19) hx hb dX8_by_1 (by decide) (fun hb0 => ?_) (fun hb0 => ?_)
  · have hf := ifT hb0 hf
    refine lv_aload_n hx hb dX8_by_19 rfl (lv_at hl 0 rfl) ?_
    refine lv_bipush (v := (-5)) hx hb dX8_by_20 (by decide) ?_
    obtain ⟨u2, hzu2, hf⟩ := obd_some hf
    refine zz_callVi (rest := []) hx hb hml C hP hS (c_X8_refuse l hDA (-5) hzu2) zw_X8_73 ⟨Nat.le_trans (Nat.le_of_ble_eq_true rfl) hRf, Nat.le_trans (Nat.le_of_ble_eq_true rfl) hRl⟩ (by decide) lay_0 rfl rfl hl.1 (Nat.le_of_ble_eq_true rfl) ⟨Nat.zero_le _, Nat.zero_le _⟩ rfl dX8_by_22 (fun H locs hP hS => ?_)
    have hf := Option.some.inj hf
    subst hf
    exact hQ _ _ _ _ dX8_by_25 hP hS
  · have hf := ifF hb0 hf
    refine lv_iload_n hx hb dX8_by_4 rfl (lv_at hl 1 rfl) ?_
    refine lv_iconst (v := 2) hx hb dX8_by_5 (by decide) ?_
    refine lv_icmp_gt (tgt := 19) hx hb dX8_by_6 (by decide) (fun hb2 => ?_) (fun hb2 => ?_)
    · have hf := ifT hb2 hf
      refine lv_aload_n hx hb dX8_by_19 rfl (lv_at hl 0 rfl) ?_
      refine lv_bipush (v := (-5)) hx hb dX8_by_20 (by decide) ?_
      obtain ⟨u4, hzu4, hf⟩ := obd_some hf
      refine zz_callVi (rest := []) hx hb hml C hP hS (c_X8_refuse l hDA (-5) hzu4) zw_X8_73 ⟨Nat.le_trans (Nat.le_of_ble_eq_true rfl) hRf, Nat.le_trans (Nat.le_of_ble_eq_true rfl) hRl⟩ (by decide) lay_0 rfl rfl hl.1 (Nat.le_of_ble_eq_true rfl) ⟨Nat.zero_le _, Nat.zero_le _⟩ rfl dX8_by_22 (fun H locs hP hS => ?_)
      have hf := Option.some.inj hf
      subst hf
      exact hQ _ _ _ _ dX8_by_25 hP hS
    · have hf := ifF hb2 hf
      refine lv_aload_n hx hb dX8_by_9 rfl (lv_at hl 0 rfl) ?_
      refine zg_X8_50 hx hb C hP (by decide) lay_0 rfl dX8_by_10 ?_
      obtain ⟨u5, hzu5⟩ : ∃ z, z = f_X2_possible σ d.1 := ⟨_, rfl⟩
      have hf := bnd_at u5 hzu5 hf
      refine zz_callVi (rest := []) hx hb hml C hP hS (c_X2_possible l hDA (h := d.1) hd1 hzu5.symm) zw_X8_197 ⟨Nat.le_trans (Nat.le_of_ble_eq_true rfl) hRf, Nat.le_trans (Nat.le_of_ble_eq_true rfl) hRl⟩ (lth0 hd1) (lay_h0 hd1) rfl rfl hl.1 (Nat.le_of_ble_eq_true rfl) ⟨Nat.zero_le _, Nat.zero_le _⟩ rfl dX8_by_13 (fun H locs hP hS => ?_)
      refine lv_if_ne (tgt := 26) hx hb dX8_by_16 (by decide) (fun hb5 => ?_) (fun hb5 => ?_)
      · have hf := ifF hb5 hf
        refine lv_aload_n hx hb dX8_by_26 rfl (lv_at hl 0 rfl) ?_
        refine zg_X8_36 hx hb C hP (by decide) lay_0 rfl dX8_by_27 ?_
        refine lv_aload_n hx hb dX8_by_30 rfl (lv_at hl 0 rfl) ?_
        refine zg_X8_50 hx hb C hP (by decide) lay_0 rfl dX8_by_31 ?_
        obtain ⟨u7, hzu7, hf⟩ := obd_some hf
        refine zz_callVv (rest := []) hx hb hml C hP hS (c_X1_follow l hDA (h := d.1) hd1 hzu7) zw_X8_264 ⟨Nat.le_trans (Nat.le_of_ble_eq_true rfl) hRf, Nat.le_trans (Nat.le_of_ble_eq_true rfl) hRl⟩ (by decide) lay_7 rfl rfl hl.1 (Nat.le_of_ble_eq_true rfl) ⟨Nat.zero_le _, Nat.zero_le _⟩ rfl dX8_by_34 (fun H locs hP hS => ?_)
        refine lv_iload_n hx hb dX8_by_37 rfl (lv_at hl 1 rfl) ?_
        by_cases hb7 : p1 = 0
        · have hf := ifT hb7 hf
          refine lv_lookup (off := 26) (tgt := 64) hx hb dX8_by_38 (by decide) (by rw [hb7]; decide) (by decide) ?_
          refine lv_aload_n hx hb dX8_by_64 rfl (lv_at hl 0 rfl) ?_
          refine zg_X8_36 hx hb C hP (by decide) lay_0 rfl dX8_by_65 ?_
          refine zg_X8_267 hx hb C hP (by decide) lay_7 rfl dX8_by_68 ?_
          have hf := Option.some.inj hf
          subst hf
          exact hQ _ _ _ _ dX8_by_71 hP hS
        have hf := ifF hb7 hf
        by_cases hb8 : p1 = 1
        · have hf := ifT hb8 hf
          refine lv_lookup (off := 34) (tgt := 72) hx hb dX8_by_38 (by decide) (by rw [hb8]; decide) (by decide) ?_
          refine lv_aload_n hx hb dX8_by_72 rfl (lv_at hl 0 rfl) ?_
          refine zg_X8_36 hx hb C hP (by decide) lay_0 rfl dX8_by_73 ?_
          obtain ⟨u10, hzu10, hf⟩ := obd_some hf
          refine zz_callVi (rest := []) hx hb hml C hP hS (c_X1_mean l hDA  hzu10) zw_X8_270 ⟨Nat.le_trans (Nat.le_of_ble_eq_true rfl) hRf, Nat.le_trans (Nat.le_of_ble_eq_true rfl) hRl⟩ (by decide) lay_7 rfl rfl hl.1 (Nat.le_of_ble_eq_true rfl) ⟨Nat.zero_le _, Nat.zero_le _⟩ rfl dX8_by_76 (fun H locs hP hS => ?_)
          have hf := Option.some.inj hf
          subst hf
          exact hQ _ _ _ _ dX8_by_79 hP hS
        have hf := ifF hb8 hf
        refine lv_lookup (off := 42) (tgt := 80) hx hb dX8_by_38 (by decide) (lks_0_1 hb7 hb8) (by decide) ?_
        refine lv_aload_n hx hb dX8_by_80 rfl (lv_at hl 0 rfl) ?_
        refine zg_X8_36 hx hb C hP (by decide) lay_0 rfl dX8_by_81 ?_
        refine zg_X8_273 hx hb C hP (by decide) lay_7 rfl dX8_by_84 ?_
        have hf := Option.some.inj hf
        subst hf
        exact hQ _ _ _ _ dX8_by_87 hP hS
      · have hf := ifT hb5 hf
        refine lv_aload_n hx hb dX8_by_19 rfl (lv_at hl 0 rfl) ?_
        refine lv_bipush (v := (-5)) hx hb dX8_by_20 (by decide) ?_
        obtain ⟨u11, hzu11, hf⟩ := obd_some hf
        refine zz_callVi (rest := []) hx hb hml C hP hS (c_X8_refuse l hDA (-5) hzu11) zw_X8_73 ⟨Nat.le_trans (Nat.le_of_ble_eq_true rfl) hRf, Nat.le_trans (Nat.le_of_ble_eq_true rfl) hRl⟩ (by decide) lay_0 rfl rfl hl.1 (Nat.le_of_ble_eq_true rfl) ⟨Nat.zero_le _, Nat.zero_le _⟩ rfl dX8_by_22 (fun H locs hP hS => ?_)
        have hf := Option.some.inj hf
        subst hf
        exact hQ _ _ _ _ dX8_by_25 hP hS
set_option maxHeartbeats 4000000 in
set_option maxRecDepth 100000 in
theorem c_X8_lackOfTold (l : Launch) {D : va_G} {a : Nat → Nat} {cA : Nat → ClassId} {A : Nat → Prop} {sa : Nat → Nat} (hDA : DA a A) {σ : PH} {d : PD} (p1 : Int32) (p2 : Int32) {u : Int32} (hf : f_X8_lackOfTold σ p1 p2 = some u) : CTi l yX8_lackOfTold cX8_lackOfTold 4 (some .int) 2 41 D a cA A sa [.ref (a 0), .int p1, .int p2] σ d u σ d := by
  refine zz_metI zpl_X8 hDA (Nat.le_of_ble_eq_true rfl) ?_
  intro p e R s m args below meth c Q ls hx hb hml C hRf hRl hQ hP hS hl
  have hl : lv_has ls 4 [(0, .ref (a 0)), (1, .int p1), (2, .int p2)] := hl
  unfold f_X8_lackOfTold at hf
  refine lv_aload_n hx hb dX8_lackOfTold_0 rfl (lv_at hl 0 rfl) ?_
  refine lv_iload_n hx hb dX8_lackOfTold_1 rfl (lv_at hl 1 rfl) ?_
  obtain ⟨u1, hzu1, hf⟩ := obd_some hf
  refine zz_callVi (rest := []) hx hb hml C hP hS (c_X8_lackOfRow l hDA p1 hzu1) zw_X8_81 ⟨Nat.le_trans (Nat.le_of_ble_eq_true rfl) hRf, Nat.le_trans (Nat.le_of_ble_eq_true rfl) hRl⟩ (by decide) lay_0 rfl rfl hl.1 (Nat.le_of_ble_eq_true rfl) ⟨Nat.zero_le _, Nat.zero_le _⟩ rfl dX8_lackOfTold_2 (fun H locs hP hS => ?_)
  refine lv_istore_n (lv' := [(3, .int u1), (0, .ref (a 0)), (1, .int p1), (2, .int p2)]) hx hb dX8_lackOfTold_5 rfl hl (by decide) rfl (fun ls hl => ?_)
  refine lv_iload_n hx hb dX8_lackOfTold_6 rfl (lv_at hl 0 rfl) ?_
  refine lv_if_eq (tgt := 12) hx hb dX8_lackOfTold_7 (by decide) (fun hb1 => ?_) (fun hb1 => ?_)
  · have hf := ifT hb1 hf
    refine lv_iload_n hx hb dX8_lackOfTold_12 rfl (lv_at hl 3 rfl) ?_
    refine lv_if_ge (tgt := 19) hx hb dX8_lackOfTold_13 (by decide) (fun hb2 => ?_) (fun hb2 => ?_)
    · have hf := ifT hb2 hf
      refine lv_iload_n hx hb dX8_lackOfTold_19 rfl (lv_at hl 3 rfl) ?_
      refine lv_aload_n hx hb dX8_lackOfTold_20 rfl (lv_at hl 1 rfl) ?_
      refine zg_X8_11 hx hb C hP (by decide) lay_0 rfl dX8_lackOfTold_21 ?_
      refine lv_iload_n hx hb dX8_lackOfTold_24 rfl (lv_at hl 2 rfl) ?_
      obtain ⟨hc3, hf⟩ := chk_some hf
      refine zz_shelf hx hb C hP (inb_vp hc3) dX8_lackOfTold_25 (fun r5 er5 hr5 => ?_)
      have hf := bnd_at r5 er5 hf
      refine zg_X8_352 hx hb C hP (lts0 hr5) (lay_s0 hr5) rfl dX8_lackOfTold_26 ?_
      refine lv_icmp_le (tgt := 37) hx hb dX8_lackOfTold_29 (by decide) (fun hb5 => ?_) (fun hb5 => ?_)
      · have hf := ifT hb5 hf
        refine lv_iconst (v := 0) hx hb dX8_lackOfTold_37 (by decide) ?_
        have hf := Option.some.inj hf
        subst hf
        exact hQ _ _ _ _ dX8_lackOfTold_38 hP hS
      · have hf := ifF hb5 hf
        refine lv_bipush (v := (-5)) hx hb dX8_lackOfTold_32 (by decide) ?_
        refine lv_goto (tgt := 38) hx hb dX8_lackOfTold_34 (by decide) ?_
        have hf := Option.some.inj hf
        subst hf
        exact hQ _ _ _ _ dX8_lackOfTold_38 hP hS
    · have hf := ifF hb2 hf
      refine lv_bipush (v := (-4)) hx hb dX8_lackOfTold_16 (by decide) ?_
      have hf := Option.some.inj hf
      subst hf
      exact hQ _ _ _ _ dX8_lackOfTold_18 hP hS
  · have hf := ifF hb1 hf
    refine lv_iload_n hx hb dX8_lackOfTold_10 rfl (lv_at hl 0 rfl) ?_
    have hf := Option.some.inj hf
    subst hf
    exact hQ _ _ _ _ dX8_lackOfTold_11 hP hS
