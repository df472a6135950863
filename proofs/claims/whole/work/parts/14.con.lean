set_option maxHeartbeats 4000000 in
set_option maxRecDepth 100000 in
theorem c_X8_refusalsOf (l : Launch) {D : va_G} {a : Nat → Nat} {cA : Nat → ClassId} {A : Nat → Prop} {sa : Nat → Nat} (hDA : DA a A) {σ : PH} {d : PD} (p1 : Int32) {u : Int32} (hf : f_X8_refusalsOf σ p1 = some u) : CTi l yX8_refusalsOf cX8_refusalsOf 3 (some .int) 0 0 D a cA A sa [.ref (a 0), .int p1] σ d u σ d := by
  refine zz_metI zpl_X8 hDA (Nat.le_of_ble_eq_true rfl) ?_
  intro p e R s m args below meth c Q ls hx hb hml C hRf hRl hQ hP hS hl
  have hl : lv_has ls 3 [(0, .ref (a 0)), (1, .int p1)] := hl
  unfold f_X8_refusalsOf at hf
  refine lv_iload_n hx hb dX8_refusalsOf_0 rfl (lv_at hl 1 rfl) ?_
  refine lv_bipush (v := 11) hx hb dX8_refusalsOf_1 (by decide) ?_
  have hJ16 : ∀ (v1 : Int32), j_X8_refusalsOf_16 σ v1 = some u → ∀ (H : Heap) (locs : List Loc) (ls : Array Slot), lv_has ls 3 [(0, .ref (a 0))] → va_P D vwCl (wl a cA σ d) H → va_S A s.heap H locs → W p l e R s m args below meth c H locs 0 0 Q (F0 m 16 ls [.int v1]) := by
    intro v1 hf H locs ls hl hP hS
    unfold j_X8_refusalsOf_16 at hf
    refine lv_istore_n (lv' := [(2, .int v1), (0, .ref (a 0))]) hx hb dX8_refusalsOf_16 rfl hl (by decide) rfl (fun ls hl => ?_)
    refine lv_iload_n hx hb dX8_refusalsOf_17 rfl (lv_at hl 0 rfl) ?_
    refine lv_iconst (v := 1) hx hb dX8_refusalsOf_18 (by decide) ?_
    refine lv_icmp_lt (tgt := 37) hx hb dX8_refusalsOf_19 (by decide) (fun hb1 => ?_) (fun hb1 => ?_)
    · have hf := ifT hb1 hf
      refine lv_iconst (v := (-1)) hx hb dX8_refusalsOf_37 (by decide) ?_
      have hf := Option.some.inj hf
      subst hf
      exact hQ _ _ _ _ dX8_refusalsOf_38 hP hS
    · have hf := ifF hb1 hf
      refine lv_iload_n hx hb dX8_refusalsOf_22 rfl (lv_at hl 0 rfl) ?_
      refine lv_bipush (v := 7) hx hb dX8_refusalsOf_23 (by decide) ?_
      refine lv_icmp_gt (tgt := 37) hx hb dX8_refusalsOf_25 (by decide) (fun hb2 => ?_) (fun hb2 => ?_)
      · have hf := ifT hb2 hf
        refine lv_iconst (v := (-1)) hx hb dX8_refusalsOf_37 (by decide) ?_
        have hf := Option.some.inj hf
        subst hf
        exact hQ _ _ _ _ dX8_refusalsOf_38 hP hS
      · have hf := ifF hb2 hf
        refine lv_aload_n hx hb dX8_refusalsOf_28 rfl (lv_at hl 1 rfl) ?_
        refine zg_X8_15 hx hb C hP (by decide) lay_0 rfl dX8_refusalsOf_29 ?_
        refine lv_iload_n hx hb dX8_refusalsOf_32 rfl (lv_at hl 0 rfl) ?_
        obtain ⟨hc3, hf⟩ := chk_some hf
        refine zz_iald hx hb C hP (by decide) lay_2 (inb_vp hc3) dX8_refusalsOf_33 ?_
        refine lv_goto (tgt := 38) hx hb dX8_refusalsOf_34 (by decide) ?_
        have hf := Option.some.inj hf
        subst hf
        exact hQ _ _ _ _ dX8_refusalsOf_38 hP hS
  refine lv_icmp_ge (tgt := 10) hx hb dX8_refusalsOf_3 (by decide) (fun hb4 => ?_) (fun hb4 => ?_)
  · have hf := ifT hb4 hf
    refine lv_iload_n hx hb dX8_refusalsOf_10 rfl (lv_at hl 1 rfl) ?_
    refine lv_bipush (v := 11) hx hb dX8_refusalsOf_11 (by decide) ?_
    refine lv_isub hx hb dX8_refusalsOf_13 ?_
    refine lv_iconst (v := 1) hx hb dX8_refusalsOf_14 (by decide) ?_
    refine lv_iadd hx hb dX8_refusalsOf_15 ?_
    exact hJ16 _ hf _ _ _ (lv_sub hl [0] rfl) hP hS
  · have hf := ifF hb4 hf
    refine lv_iconst (v := 0) hx hb dX8_refusalsOf_6 (by decide) ?_
    refine lv_goto (tgt := 16) hx hb dX8_refusalsOf_7 (by decide) ?_
    exact hJ16 _ hf _ _ _ (lv_sub hl [0] rfl) hP hS
set_option maxHeartbeats 4000000 in
set_option maxRecDepth 100000 in
theorem c_X8_status (l : Launch) {D : va_G} {a : Nat → Nat} {cA : Nat → ClassId} {A : Nat → Prop} {sa : Nat → Nat} (hDA : DA a A) {σ : PH} {d : PD} (hd1 : isHall d.1) (p1 : Int32) {u : Int32} (hf : f_X8_status σ d p1 = some u) : CTi l yX8_status cX8_status 2 (some .int) 1 22 D a cA A sa [.ref (a 0), .int p1] σ d u σ d := by
  refine zz_metI zpl_X8 hDA (Nat.le_of_ble_eq_true rfl) ?_
  intro p e R s m args below meth c Q ls hx hb hml C hRf hRl hQ hP hS hl
  have hl : lv_has ls 2 [(0, .ref (a 0)), (1, .int p1)] := hl
  unfold f_X8_status at hf
  refine lv_iload_n hx hb dX8_status_0 rfl (lv_at hl 1 rfl) ?_
  have hJ63 : j_X8_status_63 σ d p1 = some u → ∀ (H : Heap) (locs : List Loc) (ls : Array Slot), lv_has ls 2 [(0, .ref (a 0)), (1, .int p1)] → va_P D vwCl (wl a cA σ d) H → va_S A s.heap H locs → W p l e R s m args below meth c H locs 0 0 Q (F0 m 63 ls []) := by
    intro  hf H locs ls hl hP hS
    unfold j_X8_status_63 at hf
    refine lv_aload_n hx hb dX8_status_63 rfl (lv_at hl 0 rfl) ?_
    refine zg_X8_50 hx hb C hP (by decide) lay_0 rfl dX8_status_64 ?_
    refine lv_iload_n hx hb dX8_status_67 rfl (lv_at hl 1 rfl) ?_
    refine lv_iconst (v := 1) hx hb dX8_status_68 (by decide) ?_
    refine lv_isub hx hb dX8_status_69 ?_
    obtain ⟨u1, hzu1, hf⟩ := obd_some hf
    refine zz_callVi (rest := []) hx hb hml C hP hS (c_X2_rule l hDA (h := d.1) hd1 (p1 - 1) hzu1) zw_X8_168 ⟨Nat.le_trans (Nat.le_of_ble_eq_true rfl) hRf, Nat.le_trans (Nat.le_of_ble_eq_true rfl) hRl⟩ (lth0 hd1) (lay_h0 hd1) rfl rfl hl.1 (Nat.le_of_ble_eq_true rfl) ⟨Nat.zero_le _, Nat.zero_le _⟩ rfl dX8_status_70 (fun H locs hP hS => ?_)
    have hf := Option.some.inj hf
    subst hf
    exact hQ _ _ _ _ dX8_status_73 hP hS
  by_cases hb1 : p1 = 0
  · have hf := ifT hb1 hf
    refine lv_tableIn (tgt := 52) hx hb dX8_status_1 (by rw [hb1]; decide) (by rw [hb1]; decide) (by rw [hb1]; rfl) (by decide) ?_
    refine lv_aload_n hx hb dX8_status_52 rfl (lv_at hl 0 rfl) ?_
    refine zg_X8_50 hx hb C hP (by decide) lay_0 rfl dX8_status_53 ?_
    refine zg_X8_109 hx hb C hP (lth0 hd1) (lay_h0 hd1) rfl dX8_status_56 ?_
    refine zg_X8_150 hx hb C hP (lth hd1 1 (by decide)) (lay_h1 hd1) rfl dX8_status_59 ?_
    have hf := Option.some.inj hf
    subst hf
    exact hQ _ _ _ _ dX8_status_62 hP hS
  have hf := ifF hb1 hf
  by_cases hb2 : p1 = 1
  · have hf := ifT hb2 hf
    refine lv_tableIn (tgt := 63) hx hb dX8_status_1 (by rw [hb2]; decide) (by rw [hb2]; decide) (by rw [hb2]; rfl) (by decide) ?_
    exact hJ63  hf _ _ _ (lv_sub hl [0, 1] rfl) hP hS
  have hf := ifF hb2 hf
  by_cases hb3 : p1 = 2
  · have hf := ifT hb3 hf
    refine lv_tableIn (tgt := 63) hx hb dX8_status_1 (by rw [hb3]; decide) (by rw [hb3]; decide) (by rw [hb3]; rfl) (by decide) ?_
    exact hJ63  hf _ _ _ (lv_sub hl [0, 1] rfl) hP hS
  have hf := ifF hb3 hf
  by_cases hb4 : p1 = 3
  · have hf := ifT hb4 hf
    refine lv_tableIn (tgt := 63) hx hb dX8_status_1 (by rw [hb4]; decide) (by rw [hb4]; decide) (by rw [hb4]; rfl) (by decide) ?_
    exact hJ63  hf _ _ _ (lv_sub hl [0, 1] rfl) hP hS
  have hf := ifF hb4 hf
  by_cases hb5 : p1 = 4
  · have hf := ifT hb5 hf
    refine lv_tableIn (tgt := 63) hx hb dX8_status_1 (by rw [hb5]; decide) (by rw [hb5]; decide) (by rw [hb5]; rfl) (by decide) ?_
    exact hJ63  hf _ _ _ (lv_sub hl [0, 1] rfl) hP hS
  have hf := ifF hb5 hf
  by_cases hb6 : p1 = 5
  · have hf := ifT hb6 hf
    refine lv_tableIn (tgt := 74) hx hb dX8_status_1 (by rw [hb6]; decide) (by rw [hb6]; decide) (by rw [hb6]; rfl) (by decide) ?_
    refine lv_aload_n hx hb dX8_status_74 rfl (lv_at hl 0 rfl) ?_
    refine zg_X8_50 hx hb C hP (by decide) lay_0 rfl dX8_status_75 ?_
    refine zg_X8_223 hx hb C hP (lth0 hd1) (lay_h0 hd1) rfl dX8_status_78 ?_
    have hf := Option.some.inj hf
    subst hf
    exact hQ _ _ _ _ dX8_status_81 hP hS
  have hf := ifF hb6 hf
  by_cases hb7 : p1 = 6
  · have hf := ifT hb7 hf
    refine lv_tableIn (tgt := 82) hx hb dX8_status_1 (by rw [hb7]; decide) (by rw [hb7]; decide) (by rw [hb7]; rfl) (by decide) ?_
    refine lv_aload_n hx hb dX8_status_82 rfl (lv_at hl 0 rfl) ?_
    refine zg_X8_50 hx hb C hP (by decide) lay_0 rfl dX8_status_83 ?_
    obtain ⟨u9, hzu9, hf⟩ := obd_some hf
    refine zz_callVi (rest := []) hx hb hml C hP hS (c_X2_trueWorld l hDA (h := d.1) hd1 hzu9) zw_X8_320 ⟨Nat.le_trans (Nat.le_of_ble_eq_true rfl) hRf, Nat.le_trans (Nat.le_of_ble_eq_true rfl) hRl⟩ (lth0 hd1) (lay_h0 hd1) rfl rfl hl.1 (Nat.le_of_ble_eq_true rfl) ⟨Nat.zero_le _, Nat.zero_le _⟩ rfl dX8_status_86 (fun H locs hP hS => ?_)
    have hf := Option.some.inj hf
    subst hf
    exact hQ _ _ _ _ dX8_status_89 hP hS
  have hf := ifF hb7 hf
  by_cases hb9 : p1 = 7
  · have hf := ifT hb9 hf
    refine lv_tableIn (tgt := 90) hx hb dX8_status_1 (by rw [hb9]; decide) (by rw [hb9]; decide) (by rw [hb9]; rfl) (by decide) ?_
    refine lv_aload_n hx hb dX8_status_90 rfl (lv_at hl 0 rfl) ?_
    refine zg_X8_50 hx hb C hP (by decide) lay_0 rfl dX8_status_91 ?_
    refine zg_X8_333 hx hb C hP (lth0 hd1) (lay_h0 hd1) rfl dX8_status_94 ?_
    have hf := Option.some.inj hf
    subst hf
    exact hQ _ _ _ _ dX8_status_97 hP hS
  have hf := ifF hb9 hf
  by_cases hb10 : p1 = 8
  · have hf := ifT hb10 hf
    refine lv_tableIn (tgt := 98) hx hb dX8_status_1 (by rw [hb10]; decide) (by rw [hb10]; decide) (by rw [hb10]; rfl) (by decide) ?_
    refine lv_aload_n hx hb dX8_status_98 rfl (lv_at hl 0 rfl) ?_
    refine zg_X8_22 hx hb C hP (by decide) lay_0 rfl dX8_status_99 ?_
    refine zg_X8_346 hx hb C hP (by decide) lay_3 rfl dX8_status_102 ?_
    have hf := Option.some.inj hf
    subst hf
    exact hQ _ _ _ _ dX8_status_105 hP hS
  have hf := ifF hb10 hf
  refine lv_tableOut (tgt := 106) hx hb dX8_status_1 (sw_0_8 hb1 hb2 hb3 hb4 hb5 hb6 hb7 hb9 hb10) (by decide) ?_
  refine lv_aload_n hx hb dX8_status_106 rfl (lv_at hl 0 rfl) ?_
  refine lv_iload_n hx hb dX8_status_107 rfl (lv_at hl 1 rfl) ?_
  obtain ⟨u12, hzu12, hf⟩ := obd_some hf
  refine zz_callVi (rest := []) hx hb hml C hP hS (c_X8_refusalsOf l hDA p1 hzu12) zw_X8_349 ⟨Nat.le_trans (Nat.le_of_ble_eq_true rfl) hRf, Nat.le_trans (Nat.le_of_ble_eq_true rfl) hRl⟩ (by decide) lay_0 rfl rfl hl.1 (Nat.le_of_ble_eq_true rfl) ⟨Nat.zero_le _, Nat.zero_le _⟩ rfl dX8_status_108 (fun H locs hP hS => ?_)
  have hf := Option.some.inj hf
  subst hf
  exact hQ _ _ _ _ dX8_status_111 hP hS
set_option maxHeartbeats 4000000 in
set_option maxRecDepth 100000 in
theorem c_X9_no (l : Launch) {D : va_G} {a : Nat → Nat} {cA : Nat → ClassId} {A : Nat → Prop} {sa : Nat → Nat} (hDA : DA a A) {σ : PH} {d : PD} (p1 : Int32) {u : Int32 × PH} (hf : f_X9_no σ p1 = some u) : CTi l yX9_no cX9_no 2 (some .int) 0 0 D a cA A sa [.ref (a 81), .int p1] σ d u.1 u.2 d := by
  refine zz_metI zpl_X9 hDA (Nat.le_of_ble_eq_true rfl) ?_
  intro p e R s m args below meth c Q ls hx hb hml C hRf hRl hQ hP hS hl
  have hl : lv_has ls 2 [(0, .ref (a 81)), (1, .int p1)] := hl
  unfold f_X9_no at hf
  refine lv_aload_n hx hb dX9_no_0 rfl (lv_at hl 0 rfl) ?_
  refine zg_X9_22 hx hb C hP (by decide) lay_81 rfl dX9_no_1 ?_
  refine lv_iload_n hx hb dX9_no_4 rfl (lv_at hl 1 rfl) ?_
  refine lv_ineg hx hb dX9_no_5 ?_
  refine lv_dup2_11 hx hb dX9_no_6 rfl rfl ?_
  obtain ⟨hc0, hf⟩ := chk_some hf
  refine zz_iald hx hb C hP (by decide) lay_82 (inb_vp hc0) dX9_no_7 ?_
  refine lv_iconst (v := 1) hx hb dX9_no_8 (by decide) ?_
  refine lv_iadd hx hb dX9_no_9 ?_
  obtain ⟨hc1, hf⟩ := chk_some hf
  refine zz_iast hx hb C hP hS (by decide) lay_82 (inb_vp hc1) dX9_no_10 (fun σ3 eσ3 H locs hP hS => ?_)
  have hf := bnd_at σ3 eσ3 hf
  refine lv_iload_n hx hb dX9_no_11 rfl (lv_at hl 1 rfl) ?_
  have hf := Option.some.inj hf
  subst hf
  exact hQ _ _ _ _ dX9_no_12 hP hS
set_option maxHeartbeats 4000000 in
set_option maxRecDepth 100000 in
theorem c_X9_noTen (l : Launch) {D : va_G} {a : Nat → Nat} {cA : Nat → ClassId} {A : Nat → Prop} {sa : Nat → Nat} (hDA : DA a A) {σ : PH} {d : PD} (p1 : Int32) {u : Int32 × PH} (hf : f_X9_noTen σ p1 = some u) : CTi l yX9_noTen cX9_noTen 2 (some .int) 0 0 D a cA A sa [.ref (a 81), .int p1] σ d u.1 u.2 d := by
  refine zz_metI zpl_X9 hDA (Nat.le_of_ble_eq_true rfl) ?_
  intro p e R s m args below meth c Q ls hx hb hml C hRf hRl hQ hP hS hl
  have hl : lv_has ls 2 [(0, .ref (a 81)), (1, .int p1)] := hl
  unfold f_X9_noTen at hf
  refine lv_aload_n hx hb dX9_noTen_0 rfl (lv_at hl 0 rfl) ?_
  refine zg_X9_22 hx hb C hP (by decide) lay_81 rfl dX9_noTen_1 ?_
  refine lv_iload_n hx hb dX9_noTen_4 rfl (lv_at hl 1 rfl) ?_
  refine lv_ineg hx hb dX9_noTen_5 ?_
  refine lv_dup2_11 hx hb dX9_noTen_6 rfl rfl ?_
  obtain ⟨hc0, hf⟩ := chk_some hf
  refine zz_iald hx hb C hP (by decide) lay_82 (inb_vp hc0) dX9_noTen_7 ?_
  refine lv_iconst (v := 1) hx hb dX9_noTen_8 (by decide) ?_
  refine lv_iadd hx hb dX9_noTen_9 ?_
  obtain ⟨hc1, hf⟩ := chk_some hf
  refine zz_iast hx hb C hP hS (by decide) lay_82 (inb_vp hc1) dX9_noTen_10 (fun σ3 eσ3 H locs hP hS => ?_)
  have hf := bnd_at σ3 eσ3 hf
  refine lv_iload_n hx hb dX9_noTen_11 rfl (lv_at hl 1 rfl) ?_
  refine lv_bipush (v := 10) hx hb dX9_noTen_12 (by decide) ?_
  refine lv_isub hx hb dX9_noTen_14 ?_
  have hf := Option.some.inj hf
  subst hf
  exact hQ _ _ _ _ dX9_noTen_15 hP hS
set_option maxHeartbeats 4000000 in
set_option maxRecDepth 100000 in
theorem c_X9_isShelf (l : Launch) {D : va_G} {a : Nat → Nat} {cA : Nat → ClassId} {A : Nat → Prop} {sa : Nat → Nat} (hDA : DA a A) {σ : PH} {d : PD} (p1 : Int32) {u : Int32} (hf : f_X9_isShelf p1 = u) : CTi l yX9_isShelf cX9_isShelf 2 (some .boolean) 0 0 D a cA A sa [.ref (a 81), .int p1] σ d u σ d := by
  refine zz_metZ zpl_X9 hDA (Nat.le_of_ble_eq_true rfl) ?_
  intro p e R s m args below meth c Q ls hx hb hml C hRf hRl hQ hP hS hl
  have hl : lv_has ls 2 [(0, .ref (a 81)), (1, .int p1)] := hl
  unfold f_X9_isShelf at hf
  refine lv_iload_n hx hb dX9_isShelf_0 rfl (lv_at hl 1 rfl) ?_
  refine lv_if_lt (tgt := 14) hx hb dX9_isShelf_1 (by decide) (fun hb0 => ?_) (fun hb0 => ?_)
  · have hf := ifT hb0 hf
    refine lv_iconst (v := 0) hx hb dX9_isShelf_14 (by decide) ?_
    subst hf
    exact hQ _ _ _ _ dX9_isShelf_15 (show narrow .boolean (.int 0) = .int 0 from rfl) hP hS
  · have hf := ifF hb0 hf
    refine lv_iload_n hx hb dX9_isShelf_4 rfl (lv_at hl 1 rfl) ?_
    refine lv_bipush (v := 8) hx hb dX9_isShelf_5 (by decide) ?_
    refine lv_icmp_ge (tgt := 14) hx hb dX9_isShelf_7 (by decide) (fun hb1 => ?_) (fun hb1 => ?_)
    · have hf := ifT hb1 hf
      refine lv_iconst (v := 0) hx hb dX9_isShelf_14 (by decide) ?_
      subst hf
      exact hQ _ _ _ _ dX9_isShelf_15 (show narrow .boolean (.int 0) = .int 0 from rfl) hP hS
    · have hf := ifF hb1 hf
      refine lv_iconst (v := 1) hx hb dX9_isShelf_10 (by decide) ?_
      refine lv_goto (tgt := 15) hx hb dX9_isShelf_11 (by decide) ?_
      subst hf
      exact hQ _ _ _ _ dX9_isShelf_15 (show narrow .boolean (.int 1) = .int 1 from rfl) hP hS
set_option maxHeartbeats 4000000 in
set_option maxRecDepth 100000 in
theorem c_X9_isSinger (l : Launch) {D : va_G} {a : Nat → Nat} {cA : Nat → ClassId} {A : Nat → Prop} {sa : Nat → Nat} (hDA : DA a A) {σ : PH} {d : PD} (p1 : Int32) {u : Int32} (hf : f_X9_isSinger σ p1 = u) : CTi l yX9_isSinger cX9_isSinger 2 (some .boolean) 0 0 D a cA A sa [.ref (a 81), .int p1] σ d u σ d := by
  refine zz_metZ zpl_X9 hDA (Nat.le_of_ble_eq_true rfl) ?_
  intro p e R s m args below meth c Q ls hx hb hml C hRf hRl hQ hP hS hl
  have hl : lv_has ls 2 [(0, .ref (a 81)), (1, .int p1)] := hl
  unfold f_X9_isSinger at hf
  refine lv_iload_n hx hb dX9_isSinger_0 rfl (lv_at hl 1 rfl) ?_
  refine lv_if_lt (tgt := 16) hx hb dX9_isSinger_1 (by decide) (fun hb0 => ?_) (fun hb0 => ?_)
  · have hf := ifT hb0 hf
    refine lv_iconst (v := 0) hx hb dX9_isSinger_16 (by decide) ?_
    subst hf
    exact hQ _ _ _ _ dX9_isSinger_17 (show narrow .boolean (.int 0) = .int 0 from rfl) hP hS
  · have hf := ifF hb0 hf
    refine lv_iload_n hx hb dX9_isSinger_4 rfl (lv_at hl 1 rfl) ?_
    refine lv_aload_n hx hb dX9_isSinger_5 rfl (lv_at hl 0 rfl) ?_
    refine zg_X9_96 hx hb C hP (by decide) lay_81 rfl dX9_isSinger_6 ?_
    refine lv_icmp_ge (tgt := 16) hx hb dX9_isSinger_9 (by decide) (fun hb1 => ?_) (fun hb1 => ?_)
    · have hf := ifT hb1 hf
      refine lv_iconst (v := 0) hx hb dX9_isSinger_16 (by decide) ?_
      subst hf
      exact hQ _ _ _ _ dX9_isSinger_17 (show narrow .boolean (.int 0) = .int 0 from rfl) hP hS
    · have hf := ifF hb1 hf
      refine lv_iconst (v := 1) hx hb dX9_isSinger_12 (by decide) ?_
      refine lv_goto (tgt := 17) hx hb dX9_isSinger_13 (by decide) ?_
      subst hf
      exact hQ _ _ _ _ dX9_isSinger_17 (show narrow .boolean (.int 1) = .int 1 from rfl) hP hS
set_option maxHeartbeats 4000000 in
set_option maxRecDepth 100000 in
theorem c_X9_isIn (l : Launch) {D : va_G} {a : Nat → Nat} {cA : Nat → ClassId} {A : Nat → Prop} {sa : Nat → Nat} (hDA : DA a A) {σ : PH} {d : PD} (p1 : Int32) (p2 : Int32) {u : Int32} (hf : f_X9_isIn p1 p2 = u) : CTi l yX9_isIn cX9_isIn 3 (some .boolean) 0 0 D a cA A sa [.ref (a 81), .int p1, .int p2] σ d u σ d := by
  refine zz_metZ zpl_X9 hDA (Nat.le_of_ble_eq_true rfl) ?_
  intro p e R s m args below meth c Q ls hx hb hml C hRf hRl hQ hP hS hl
  have hl : lv_has ls 3 [(0, .ref (a 81)), (1, .int p1), (2, .int p2)] := hl
  unfold f_X9_isIn at hf
  refine lv_iload_n hx hb dX9_isIn_0 rfl (lv_at hl 1 rfl) ?_
  refine lv_iload_n hx hb dX9_isIn_1 rfl (lv_at hl 2 rfl) ?_
  refine lv_ishr hx hb dX9_isIn_2 ?_
  refine lv_iconst (v := 1) hx hb dX9_isIn_3 (by decide) ?_
  refine lv_iand hx hb dX9_isIn_4 ?_
  refine lv_iconst (v := 1) hx hb dX9_isIn_5 (by decide) ?_
  refine lv_icmp_ne (tgt := 13) hx hb dX9_isIn_6 (by decide) (fun hb0 => ?_) (fun hb0 => ?_)
  · have hf := ifF hb0 hf
    refine lv_iconst (v := 0) hx hb dX9_isIn_13 (by decide) ?_
    subst hf
    exact hQ _ _ _ _ dX9_isIn_14 (show narrow .boolean (.int 0) = .int 0 from rfl) hP hS
  · have hf := ifT hb0 hf
    refine lv_iconst (v := 1) hx hb dX9_isIn_9 (by decide) ?_
    refine lv_goto (tgt := 14) hx hb dX9_isIn_10 (by decide) ?_
    subst hf
    exact hQ _ _ _ _ dX9_isIn_14 (show narrow .boolean (.int 1) = .int 1 from rfl) hP hS
set_option maxHeartbeats 4000000 in
set_option maxRecDepth 100000 in
theorem c_X9_everybody (l : Launch) {D : va_G} {a : Nat → Nat} {cA : Nat → ClassId} {A : Nat → Prop} {sa : Nat → Nat} (hDA : DA a A) {σ : PH} {d : PD}  {u : Int32} (hf : f_X9_everybody σ = u) : CTi l yX9_everybody cX9_everybody 1 (some .int) 0 0 D a cA A sa [.ref (a 81)] σ d u σ d := by
  refine zz_metI zpl_X9 hDA (Nat.le_of_ble_eq_true rfl) ?_
  intro p e R s m args below meth c Q ls hx hb hml C hRf hRl hQ hP hS hl
  have hl : lv_has ls 1 [(0, .ref (a 81))] := hl
  unfold f_X9_everybody at hf
  refine lv_iconst (v := 1) hx hb dX9_everybody_0 (by decide) ?_
  refine lv_aload_n hx hb dX9_everybody_1 rfl (lv_at hl 0 rfl) ?_
  refine zg_X9_96 hx hb C hP (by decide) lay_81 rfl dX9_everybody_2 ?_
  refine lv_ishl hx hb dX9_everybody_5 ?_
  refine lv_iconst (v := 1) hx hb dX9_everybody_6 (by decide) ?_
  refine lv_isub hx hb dX9_everybody_7 ?_
  subst hf
  exact hQ _ _ _ _ dX9_everybody_8 hP hS
set_option maxHeartbeats 4000000 in
set_option maxRecDepth 100000 in
theorem c_X9_isSet (l : Launch) {D : va_G} {a : Nat → Nat} {cA : Nat → ClassId} {A : Nat → Prop} {sa : Nat → Nat} (hDA : DA a A) {σ : PH} {d : PD} (p1 : Int32) {u : Int32} (hf : f_X9_isSet σ p1 = u) : CTi l yX9_isSet cX9_isSet 2 (some .boolean) 1 20 D a cA A sa [.ref (a 81), .int p1] σ d u σ d := by
  refine zz_metZ zpl_X9 hDA (Nat.le_of_ble_eq_true rfl) ?_
  intro p e R s m args below meth c Q ls hx hb hml C hRf hRl hQ hP hS hl
  have hl : lv_has ls 2 [(0, .ref (a 81)), (1, .int p1)] := hl
  unfold f_X9_isSet at hf
  refine lv_iload_n hx hb dX9_isSet_0 rfl (lv_at hl 1 rfl) ?_
  refine lv_if_le (tgt := 16) hx hb dX9_isSet_1 (by decide) (fun hb0 => ?_) (fun hb0 => ?_)
  · have hf := ifT hb0 hf
    refine lv_iconst (v := 0) hx hb dX9_isSet_16 (by decide) ?_
    subst hf
    exact hQ _ _ _ _ dX9_isSet_17 (show narrow .boolean (.int 0) = .int 0 from rfl) hP hS
  · have hf := ifF hb0 hf
    refine lv_iload_n hx hb dX9_isSet_4 rfl (lv_at hl 1 rfl) ?_
    refine lv_aload_n hx hb dX9_isSet_5 rfl (lv_at hl 0 rfl) ?_
    obtain ⟨u2, hzu2⟩ : ∃ z, z = f_X9_everybody σ := ⟨_, rfl⟩
    have hf := bnd_at u2 hzu2 hf
    refine zz_callVi (rest := [.int p1]) hx hb hml C hP hS (c_X9_everybody l hDA  hzu2.symm) zw_X9_99 ⟨Nat.le_trans (Nat.le_of_ble_eq_true rfl) hRf, Nat.le_trans (Nat.le_of_ble_eq_true rfl) hRl⟩ (by decide) lay_81 rfl rfl hl.1 (Nat.le_of_ble_eq_true rfl) ⟨Nat.zero_le _, Nat.zero_le _⟩ rfl dX9_isSet_6 (fun H locs hP hS => ?_)
    refine lv_icmp_gt (tgt := 16) hx hb dX9_isSet_9 (by decide) (fun hb2 => ?_) (fun hb2 => ?_)
    · have hf := ifT hb2 hf
      refine lv_iconst (v := 0) hx hb dX9_isSet_16 (by decide) ?_
      subst hf
      exact hQ _ _ _ _ dX9_isSet_17 (show narrow .boolean (.int 0) = .int 0 from rfl) hP hS
    · have hf := ifF hb2 hf
      refine lv_iconst (v := 1) hx hb dX9_isSet_12 (by decide) ?_
      refine lv_goto (tgt := 17) hx hb dX9_isSet_13 (by decide) ?_
      subst hf
      exact hQ _ _ _ _ dX9_isSet_17 (show narrow .boolean (.int 1) = .int 1 from rfl) hP hS
set_option maxHeartbeats 4000000 in
set_option maxRecDepth 100000 in
theorem c_X9_count (l : Launch) {D : va_G} {a : Nat → Nat} {cA : Nat → ClassId} {A : Nat → Prop} {sa : Nat → Nat} (hDA : DA a A) {σ : PH} {d : PD} (p1 : Int32) {u : Int32} (hf : f_X9_count p1 = some u) : CTi l yX9_count cX9_count 4 (some .int) 0 0 D a cA A sa [.ref (a 81), .int p1] σ d u σ d := by
  refine zz_metI zpl_X9 hDA (Nat.le_of_ble_eq_true rfl) ?_
  intro p e R s m args below meth c Q ls hx hb hml C hRf hRl hQ hP hS hl
  have hl : lv_has ls 4 [(0, .ref (a 81)), (1, .int p1)] := hl
  unfold f_X9_count at hf
  refine lv_iconst (v := 0) hx hb dX9_count_0 (by decide) ?_
  refine lv_istore_n (lv' := [(2, .int 0), (0, .ref (a 81)), (1, .int p1)]) hx hb dX9_count_1 rfl hl (by decide) rfl (fun ls hl => ?_)
  refine lv_iconst (v := 0) hx hb dX9_count_2 (by decide) ?_
  refine lv_istore_n (lv' := [(3, .int 0), (2, .int 0), (0, .ref (a 81)), (1, .int p1)]) hx hb dX9_count_3 rfl hl (by decide) rfl (fun ls hl => ?_)
  refine loopN_ind (P := fun (q1 : Int32 × Int32) => ∀ (H : Heap) (locs : List Loc) (ls : Array Slot), lv_has ls 4 [(1, .int p1), (2, .int q1.1), (3, .int q1.2)] → va_P D vwCl (wl a cA σ d) H → va_S A s.heap H locs → W p l e R s m args below meth c H locs 0 0 Q (F0 m 4 ls [])) ?_ _ _ hf _ _ _ (lv_sub hl [3, 1, 0] rfl) hP hS
  intro k2 ihk2 q1 hf H locs ls hl hP hS
  unfold b_X9_count_4 at hf
  refine lv_iload_n hx hb dX9_count_4 rfl (lv_at hl 2 rfl) ?_
  refine lv_bipush (v := 8) hx hb dX9_count_5 (by decide) ?_
  refine lv_icmp_ge (tgt := 24) hx hb dX9_count_7 (by decide) (fun hb2 => ?_) (fun hb2 => ?_)
  · have hf := ifT hb2 hf
    refine lv_iload_n hx hb dX9_count_24 rfl (lv_at hl 1 rfl) ?_
    have hf := Option.some.inj hf
    subst hf
    exact hQ _ _ _ _ dX9_count_25 hP hS
  · have hf := ifF hb2 hf
    refine lv_iload_n hx hb dX9_count_10 rfl (lv_at hl 1 rfl) ?_
    refine lv_iload_n hx hb dX9_count_11 rfl (lv_at hl 0 rfl) ?_
    refine lv_iload_n hx hb dX9_count_12 rfl (lv_at hl 2 rfl) ?_
    refine lv_ishr hx hb dX9_count_13 ?_
    refine lv_iconst (v := 1) hx hb dX9_count_14 (by decide) ?_
    refine lv_iand hx hb dX9_count_15 ?_
    refine lv_iadd hx hb dX9_count_16 ?_
    refine lv_topi (fun v4 ev4 => ?_)
    have hf := bnd_at v4 ev4 hf
    refine lv_istore_n (lv' := [(2, .int v4), (1, .int p1), (3, .int q1.2)]) hx hb dX9_count_17 rfl hl (by decide) rfl (fun ls hl => ?_)
    obtain ⟨v5, ev5⟩ : ∃ z : Int32, z = q1.2 + 1 := ⟨_, rfl⟩
    have hf := bnd_at v5 ev5 hf
    refine lv_iinc (v := v5) (lv' := [(3, .int v5), (2, .int v4), (1, .int p1)]) hx hb dX9_count_18 hl (k := 2) rfl (by rw [ev5]; rfl) (by decide) rfl (fun ls hl => ?_)
    refine lv_goto (tgt := 4) hx hb dX9_count_21 (by decide) ?_
    exact ihk2 _ hf _ _ _ (lv_sub hl [2, 1, 0] rfl) hP hS
set_option maxHeartbeats 4000000 in
set_option maxRecDepth 100000 in
theorem c_X9_isOne (l : Launch) {D : va_G} {a : Nat → Nat} {cA : Nat → ClassId} {A : Nat → Prop} {sa : Nat → Nat} (hDA : DA a A) {σ : PH} {d : PD} (p1 : Int32) {u : Int32} (hf : f_X9_isOne p1 = u) : CTi l yX9_isOne cX9_isOne 2 (some .boolean) 0 0 D a cA A sa [.ref (a 81), .int p1] σ d u σ d := by
  refine zz_metZ zpl_X9 hDA (Nat.le_of_ble_eq_true rfl) ?_
  intro p e R s m args below meth c Q ls hx hb hml C hRf hRl hQ hP hS hl
  have hl : lv_has ls 2 [(0, .ref (a 81)), (1, .int p1)] := hl
  unfold f_X9_isOne at hf
  refine lv_iload_n hx hb dX9_isOne_0 rfl (lv_at hl 1 rfl) ?_
  refine lv_if_eq (tgt := 9) hx hb dX9_isOne_1 (by decide) (fun hb0 => ?_) (fun hb0 => ?_)
  · have hf := ifT hb0 hf
    refine lv_iconst (v := 1) hx hb dX9_isOne_9 (by decide) ?_
    refine lv_goto (tgt := 14) hx hb dX9_isOne_10 (by decide) ?_
    subst hf
    exact hQ _ _ _ _ dX9_isOne_14 (show narrow .boolean (.int 1) = .int 1 from rfl) hP hS
  · have hf := ifF hb0 hf
    refine lv_iload_n hx hb dX9_isOne_4 rfl (lv_at hl 1 rfl) ?_
    refine lv_iconst (v := 1) hx hb dX9_isOne_5 (by decide) ?_
    refine lv_icmp_ne (tgt := 13) hx hb dX9_isOne_6 (by decide) (fun hb1 => ?_) (fun hb1 => ?_)
    · have hf := ifF hb1 hf
      refine lv_iconst (v := 0) hx hb dX9_isOne_13 (by decide) ?_
      subst hf
      exact hQ _ _ _ _ dX9_isOne_14 (show narrow .boolean (.int 0) = .int 0 from rfl) hP hS
    · have hf := ifT hb1 hf
      refine lv_iconst (v := 1) hx hb dX9_isOne_9 (by decide) ?_
      refine lv_goto (tgt := 14) hx hb dX9_isOne_10 (by decide) ?_
      subst hf
      exact hQ _ _ _ _ dX9_isOne_14 (show narrow .boolean (.int 1) = .int 1 from rfl) hP hS
set_option maxHeartbeats 4000000 in
set_option maxRecDepth 100000 in
theorem c_X9_row (l : Launch) {D : va_G} {a : Nat → Nat} {cA : Nat → ClassId} {A : Nat → Prop} {sa : Nat → Nat} (hDA : DA a A) {σ : PH} {d : PD} (p1 : Int32) (p2 : Int32) (p3 : Int32) {u : Int32 × PH} (hf : f_X9_row σ p1 p2 p3 = some u) : CTi l yX9_row cX9_row 5 (some .int) 1 21 D a cA A sa [.ref (a 81), .int p1, .int p2, .int p3] σ d u.1 u.2 d := by
  refine zz_metI zpl_X9 hDA (Nat.le_of_ble_eq_true rfl) ?_
  intro p e R s m args below meth c Q ls hx hb hml C hRf hRl hQ hP hS hl
  have hl : lv_has ls 5 [(0, .ref (a 81)), (1, .int p1), (2, .int p2), (3, .int p3)] := hl
  unfold f_X9_row at hf
  refine lv_aload_n hx hb dX9_row_0 rfl (lv_at hl 0 rfl) ?_
  refine lv_iload_n hx hb dX9_row_1 rfl (lv_at hl 1 rfl) ?_
  obtain ⟨u1, hzu1⟩ : ∃ z, z = f_X9_isShelf p1 := ⟨_, rfl⟩
  have hf := bnd_at u1 hzu1 hf
  refine zz_callVi (rest := []) hx hb hml C hP hS (c_X9_isShelf l hDA p1 hzu1.symm) zw_X9_103 ⟨Nat.le_trans (Nat.le_of_ble_eq_true rfl) hRf, Nat.le_trans (Nat.le_of_ble_eq_true rfl) hRl⟩ (by decide) lay_81 rfl rfl hl.1 (Nat.le_of_ble_eq_true rfl) ⟨Nat.zero_le _, Nat.zero_le _⟩ rfl dX9_row_2 (fun H locs hP hS => ?_)
  refine lv_if_ne (tgt := 14) hx hb dX9_row_5 (by decide) (fun hb1 => ?_) (fun hb1 => ?_)
  · have hf := ifF hb1 hf
    refine lv_iload_n hx hb dX9_row_14 rfl (lv_at hl 3 rfl) ?_
    refine lv_if_ge (tgt := 25) hx hb dX9_row_15 (by decide) (fun hb2 => ?_) (fun hb2 => ?_)
    · have hf := ifT hb2 hf
      refine lv_iload_n hx hb dX9_row_25 rfl (lv_at hl 2 rfl) ?_
      refine lv_if_lt (tgt := 34) hx hb dX9_row_26 (by decide) (fun hb3 => ?_) (fun hb3 => ?_)
      · have hf := ifT hb3 hf
        refine lv_aload_n hx hb dX9_row_34 rfl (lv_at hl 0 rfl) ?_
        refine lv_bipush (v := (-6)) hx hb dX9_row_35 (by decide) ?_
        obtain ⟨u5, hzu5, hf⟩ := obd_some hf
        refine zz_callVi (rest := []) hx hb hml C hP hS (c_X9_no l hDA (-6) hzu5) zw_X9_107 ⟨Nat.le_trans (Nat.le_of_ble_eq_true rfl) hRf, Nat.le_trans (Nat.le_of_ble_eq_true rfl) hRl⟩ (by decide) lay_81 rfl rfl hl.1 (Nat.le_of_ble_eq_true rfl) ⟨Nat.zero_le _, Nat.zero_le _⟩ rfl dX9_row_37 (fun H locs hP hS => ?_)
        have hf := Option.some.inj hf
        subst hf
        exact hQ _ _ _ _ dX9_row_40 hP hS
      · have hf := ifF hb3 hf
        refine lv_iload_n hx hb dX9_row_29 rfl (lv_at hl 2 rfl) ?_
        refine lv_iconst (v := 3) hx hb dX9_row_30 (by decide) ?_
        refine lv_icmp_le (tgt := 41) hx hb dX9_row_31 (by decide) (fun hb5 => ?_) (fun hb5 => ?_)
        · have hf := ifT hb5 hf
          refine lv_iload_n hx hb dX9_row_41 rfl (lv_at hl 3 rfl) ?_
          refine lv_sipush (v := 160) hx hb dX9_row_42 (by decide) ?_
          refine lv_icmp_le (tgt := 55) hx hb dX9_row_45 (by decide) (fun hb6 => ?_) (fun hb6 => ?_)
          · have hf := ifT hb6 hf
            refine lv_aload_n hx hb dX9_row_55 rfl (lv_at hl 0 rfl) ?_
            refine zg_X9_44 hx hb C hP (by decide) lay_81 rfl dX9_row_56 ?_
            refine lv_iload_n hx hb dX9_row_59 rfl (lv_at hl 1 rfl) ?_
            refine lv_iconst (v := 1) hx hb dX9_row_60 (by decide) ?_
            obtain ⟨hc7, hf⟩ := chk_some hf
            refine zz_iast hx hb C hP hS (by decide) lay_89 (inb_vp hc7) dX9_row_61 (fun σ9 eσ9 H locs hP hS => ?_)
            have hf := bnd_at σ9 eσ9 hf
            refine lv_aload_n hx hb dX9_row_62 rfl (lv_at hl 0 rfl) ?_
            refine zg_X9_47 hx hb C hP (by decide) lay_81 rfl dX9_row_63 ?_
            refine lv_iload_n hx hb dX9_row_66 rfl (lv_at hl 1 rfl) ?_
            refine lv_iload_n hx hb dX9_row_67 rfl (lv_at hl 2 rfl) ?_
            obtain ⟨hc9, hf⟩ := chk_some hf
            refine zz_iast hx hb C hP hS (by decide) lay_90 (inb_vp hc9) dX9_row_68 (fun σ11 eσ11 H locs hP hS => ?_)
            have hf := bnd_at σ11 eσ11 hf
            refine lv_aload_n hx hb dX9_row_69 rfl (lv_at hl 0 rfl) ?_
            refine zg_X9_50 hx hb C hP (by decide) lay_81 rfl dX9_row_70 ?_
            refine lv_iload_n hx hb dX9_row_73 rfl (lv_at hl 1 rfl) ?_
            refine lv_iload_n hx hb dX9_row_74 rfl (lv_at hl 3 rfl) ?_
            obtain ⟨hc11, hf⟩ := chk_some hf
            refine zz_iast hx hb C hP hS (by decide) lay_91 (inb_vp hc11) dX9_row_75 (fun σ13 eσ13 H locs hP hS => ?_)
            have hf := bnd_at σ13 eσ13 hf
            refine lv_iconst (v := 0) hx hb dX9_row_76 (by decide) ?_
            refine lv_istore (lv' := [(4, .int 0), (0, .ref (a 81)), (1, .int p1), (2, .int p2), (3, .int p3)]) hx hb dX9_row_77 hl (by decide) rfl (fun ls hl => ?_)
            refine loopN_ind (P := fun (q14 : Int32 × PH) => ∀ (H : Heap) (locs : List Loc) (ls : Array Slot), lv_has ls 5 [(0, .ref (a 81)), (1, .int p1), (4, .int q14.1)] → va_P D vwCl (wl a cA q14.2 d) H → va_S A s.heap H locs → W p l e R s m args below meth c H locs 0 0 Q (F0 m 79 ls [])) ?_ _ _ hf _ _ _ (lv_sub hl [1, 2, 0] rfl) hP hS
            intro k15 ihk15 q14 hf H locs ls hl hP hS
            unfold b_X9_row_79 at hf
            refine lv_iload hx hb dX9_row_79 (lv_at hl 2 rfl) ?_
            refine lv_sipush (v := 160) hx hb dX9_row_81 (by decide) ?_
            refine lv_icmp_ge (tgt := 107) hx hb dX9_row_84 (by decide) (fun hb15 => ?_) (fun hb15 => ?_)
            · have hf := ifT hb15 hf
              refine lv_iconst (v := 1) hx hb dX9_row_107 (by decide) ?_
              have hf := Option.some.inj hf
              subst hf
              exact hQ _ _ _ _ dX9_row_108 hP hS
            · have hf := ifF hb15 hf
              refine lv_aload_n hx hb dX9_row_87 rfl (lv_at hl 0 rfl) ?_
              refine zg_X9_56 hx hb C hP (by decide) lay_81 rfl dX9_row_88 ?_
              refine lv_sipush (v := 160) hx hb dX9_row_91 (by decide) ?_
              refine lv_iload_n hx hb dX9_row_94 rfl (lv_at hl 1 rfl) ?_
              refine lv_imul hx hb dX9_row_95 ?_
              refine lv_iload hx hb dX9_row_96 (lv_at hl 2 rfl) ?_
              refine lv_iadd hx hb dX9_row_98 ?_
              refine lv_lconst (v := 0) hx hb dX9_row_99 (by decide) ?_
              obtain ⟨hc16, hf⟩ := chk_some hf
              refine zz_last hx hb C hP hS (by decide) lay_93 (inb_vp hc16) dX9_row_100 (fun σ18 eσ18 H locs hP hS => ?_)
              have hf := bnd_at σ18 eσ18 hf
              obtain ⟨v19, ev19⟩ : ∃ z : Int32, z = q14.1 + 1 := ⟨_, rfl⟩
              have hf := bnd_at v19 ev19 hf
              refine lv_iinc (v := v19) (lv' := [(4, .int v19), (0, .ref (a 81)), (1, .int p1)]) hx hb dX9_row_101 hl (k := 2) rfl (by rw [ev19]; rfl) (by decide) rfl (fun ls hl => ?_)
              refine lv_goto (tgt := 79) hx hb dX9_row_104 (by decide) ?_
              exact ihk15 _ hf _ _ _ (lv_sub hl [1, 2, 0] rfl) hP hS
          · have hf := ifF hb6 hf
            refine lv_aload_n hx hb dX9_row_48 rfl (lv_at hl 0 rfl) ?_
            refine lv_bipush (v := (-7)) hx hb dX9_row_49 (by decide) ?_
            obtain ⟨u20, hzu20, hf⟩ := obd_some hf
            refine zz_callVi (rest := []) hx hb hml C hP hS (c_X9_no l hDA (-7) hzu20) zw_X9_107 ⟨Nat.le_trans (Nat.le_of_ble_eq_true rfl) hRf, Nat.le_trans (Nat.le_of_ble_eq_true rfl) hRl⟩ (by decide) lay_81 rfl rfl hl.1 (Nat.le_of_ble_eq_true rfl) ⟨Nat.zero_le _, Nat.zero_le _⟩ rfl dX9_row_51 (fun H locs hP hS => ?_)
            have hf := Option.some.inj hf
            subst hf
            exact hQ _ _ _ _ dX9_row_54 hP hS
        · have hf := ifF hb5 hf
          refine lv_aload_n hx hb dX9_row_34 rfl (lv_at hl 0 rfl) ?_
          refine lv_bipush (v := (-6)) hx hb dX9_row_35 (by decide) ?_
          obtain ⟨u21, hzu21, hf⟩ := obd_some hf
          refine zz_callVi (rest := []) hx hb hml C hP hS (c_X9_no l hDA (-6) hzu21) zw_X9_107 ⟨Nat.le_trans (Nat.le_of_ble_eq_true rfl) hRf, Nat.le_trans (Nat.le_of_ble_eq_true rfl) hRl⟩ (by decide) lay_81 rfl rfl hl.1 (Nat.le_of_ble_eq_true rfl) ⟨Nat.zero_le _, Nat.zero_le _⟩ rfl dX9_row_37 (fun H locs hP hS => ?_)
          have hf := Option.some.inj hf
          subst hf
          exact hQ _ _ _ _ dX9_row_40 hP hS
    · have hf := ifF hb2 hf
      refine lv_aload_n hx hb dX9_row_18 rfl (lv_at hl 0 rfl) ?_
      refine lv_bipush (v := (-4)) hx hb dX9_row_19 (by decide) ?_
      obtain ⟨u22, hzu22, hf⟩ := obd_some hf
      refine zz_callVi (rest := []) hx hb hml C hP hS (c_X9_no l hDA (-4) hzu22) zw_X9_107 ⟨Nat.le_trans (Nat.le_of_ble_eq_true rfl) hRf, Nat.le_trans (Nat.le_of_ble_eq_true rfl) hRl⟩ (by decide) lay_81 rfl rfl hl.1 (Nat.le_of_ble_eq_true rfl) ⟨Nat.zero_le _, Nat.zero_le _⟩ rfl dX9_row_21 (fun H locs hP hS => ?_)
      have hf := Option.some.inj hf
      subst hf
      exact hQ _ _ _ _ dX9_row_24 hP hS
  · have hf := ifT hb1 hf
    refine lv_aload_n hx hb dX9_row_8 rfl (lv_at hl 0 rfl) ?_
    refine lv_iconst (v := (-1)) hx hb dX9_row_9 (by decide) ?_
    obtain ⟨u23, hzu23, hf⟩ := obd_some hf
    refine zz_callVi (rest := []) hx hb hml C hP hS (c_X9_no l hDA (-1) hzu23) zw_X9_107 ⟨Nat.le_trans (Nat.le_of_ble_eq_true rfl) hRf, Nat.le_trans (Nat.le_of_ble_eq_true rfl) hRl⟩ (by decide) lay_81 rfl rfl hl.1 (Nat.le_of_ble_eq_true rfl) ⟨Nat.zero_le _, Nat.zero_le _⟩ rfl dX9_row_10 (fun H locs hP hS => ?_)
    have hf := Option.some.inj hf
    subst hf
    exact hQ _ _ _ _ dX9_row_13 hP hS
set_option maxHeartbeats 4000000 in
set_option maxRecDepth 100000 in
theorem c_X9_set (l : Launch) {D : va_G} {a : Nat → Nat} {cA : Nat → ClassId} {A : Nat → Prop} {sa : Nat → Nat} (hDA : DA a A) {σ : PH} {d : PD} (p1 : Int32) (p2 : Int32) (p3 : Int64) {u : Int32 × PH} (hf : f_X9_set σ p1 p2 p3 = some u) : CTi l yX9_set cX9_set 5 (some .int) 1 21 D a cA A sa [.ref (a 81), .int p1, .int p2, .long p3] σ d u.1 u.2 d := by
  refine zz_metI zpl_X9 hDA (Nat.le_of_ble_eq_true rfl) ?_
  intro p e R s m args below meth c Q ls hx hb hml C hRf hRl hQ hP hS hl
  have hl : lv_has ls 5 [(0, .ref (a 81)), (1, .int p1), (2, .int p2), (3, .long p3)] := hl
  unfold f_X9_set at hf
  refine lv_aload_n hx hb dX9_set_0 rfl (lv_at hl 0 rfl) ?_
  refine lv_iload_n hx hb dX9_set_1 rfl (lv_at hl 1 rfl) ?_
  obtain ⟨u1, hzu1⟩ : ∃ z, z = f_X9_isShelf p1 := ⟨_, rfl⟩
  have hf := bnd_at u1 hzu1 hf
  refine zz_callVi (rest := []) hx hb hml C hP hS (c_X9_isShelf l hDA p1 hzu1.symm) zw_X9_103 ⟨Nat.le_trans (Nat.le_of_ble_eq_true rfl) hRf, Nat.le_trans (Nat.le_of_ble_eq_true rfl) hRl⟩ (by decide) lay_81 rfl rfl hl.1 (Nat.le_of_ble_eq_true rfl) ⟨Nat.zero_le _, Nat.zero_le _⟩ rfl dX9_set_2 (fun H locs hP hS => ?_)
  refine lv_if_ne (tgt := 14) hx hb dX9_set_5 (by decide) (fun hb1 => ?_) (fun hb1 => ?_)
  · have hf := ifF hb1 hf
    refine lv_aload_n hx hb dX9_set_14 rfl (lv_at hl 0 rfl) ?_
    refine zg_X9_44 hx hb C hP (by decide) lay_81 rfl dX9_set_15 ?_
    refine lv_iload_n hx hb dX9_set_18 rfl (lv_at hl 1 rfl) ?_
    obtain ⟨hc2, hf⟩ := chk_some hf
    refine zz_iald hx hb C hP (by decide) lay_89 (inb_vp hc2) dX9_set_19 ?_
    refine lv_iconst (v := 2) hx hb dX9_set_20 (by decide) ?_
    refine lv_icmp_ne (tgt := 31) hx hb dX9_set_21 (by decide) (fun hb3 => ?_) (fun hb3 => ?_)
    · have hf := ifF hb3 hf
      refine lv_aload_n hx hb dX9_set_31 rfl (lv_at hl 0 rfl) ?_
      refine zg_X9_44 hx hb C hP (by decide) lay_81 rfl dX9_set_32 ?_
      refine lv_iload_n hx hb dX9_set_35 rfl (lv_at hl 1 rfl) ?_
      obtain ⟨hc4, hf⟩ := chk_some hf
      refine zz_iald hx hb C hP (by decide) lay_89 (inb_vp hc4) dX9_set_36 ?_
      refine lv_if_ne (tgt := 47) hx hb dX9_set_37 (by decide) (fun hb5 => ?_) (fun hb5 => ?_)
      · have hf := ifF hb5 hf
        refine lv_iload_n hx hb dX9_set_47 rfl (lv_at hl 2 rfl) ?_
        refine lv_if_lt (tgt := 61) hx hb dX9_set_48 (by decide) (fun hb6 => ?_) (fun hb6 => ?_)
        · have hf := ifT hb6 hf
          refine lv_aload_n hx hb dX9_set_61 rfl (lv_at hl 0 rfl) ?_
          refine lv_bipush (v := (-5)) hx hb dX9_set_62 (by decide) ?_
          obtain ⟨u8, hzu8, hf⟩ := obd_some hf
          refine zz_callVi (rest := []) hx hb hml C hP hS (c_X9_no l hDA (-5) hzu8) zw_X9_107 ⟨Nat.le_trans (Nat.le_of_ble_eq_true rfl) hRf, Nat.le_trans (Nat.le_of_ble_eq_true rfl) hRl⟩ (by decide) lay_81 rfl rfl hl.1 (Nat.le_of_ble_eq_true rfl) ⟨Nat.zero_le _, Nat.zero_le _⟩ rfl dX9_set_64 (fun H locs hP hS => ?_)
          have hf := Option.some.inj hf
          subst hf
          exact hQ _ _ _ _ dX9_set_67 hP hS
        · have hf := ifF hb6 hf
          refine lv_iload_n hx hb dX9_set_51 rfl (lv_at hl 2 rfl) ?_
          refine lv_aload_n hx hb dX9_set_52 rfl (lv_at hl 0 rfl) ?_
          refine zg_X9_50 hx hb C hP (by decide) lay_81 rfl dX9_set_53 ?_
          refine lv_iload_n hx hb dX9_set_56 rfl (lv_at hl 1 rfl) ?_
          obtain ⟨hc8, hf⟩ := chk_some hf
          refine zz_iald hx hb C hP (by decide) lay_91 (inb_vp hc8) dX9_set_57 ?_
          refine lv_icmp_lt (tgt := 68) hx hb dX9_set_58 (by decide) (fun hb9 => ?_) (fun hb9 => ?_)
          · have hf := ifT hb9 hf
            refine lv_aload_n hx hb dX9_set_68 rfl (lv_at hl 0 rfl) ?_
            refine zg_X9_56 hx hb C hP (by decide) lay_81 rfl dX9_set_69 ?_
            refine lv_sipush (v := 160) hx hb dX9_set_72 (by decide) ?_
            refine lv_iload_n hx hb dX9_set_75 rfl (lv_at hl 1 rfl) ?_
            refine lv_imul hx hb dX9_set_76 ?_
            refine lv_iload_n hx hb dX9_set_77 rfl (lv_at hl 2 rfl) ?_
            refine lv_iadd hx hb dX9_set_78 ?_
            refine lv_aload_n hx hb dX9_set_79 rfl (lv_at hl 0 rfl) ?_
            refine zg_X9_47 hx hb C hP (by decide) lay_81 rfl dX9_set_80 ?_
            refine lv_iload_n hx hb dX9_set_83 rfl (lv_at hl 1 rfl) ?_
            obtain ⟨hc10, hf⟩ := chk_some hf
            refine zz_iald hx hb C hP (by decide) lay_90 (inb_vp hc10) dX9_set_84 ?_
            refine lv_if_ne (tgt := 95) hx hb dX9_set_85 (by decide) (fun hb11 => ?_) (fun hb11 => ?_)
            · have hf := ifF hb11 hf
              refine lv_aload_n hx hb dX9_set_95 rfl (lv_at hl 0 rfl) ?_
              refine zg_X9_47 hx hb C hP (by decide) lay_81 rfl dX9_set_96 ?_
              refine lv_iload_n hx hb dX9_set_99 rfl (lv_at hl 1 rfl) ?_
              obtain ⟨hc12, hf⟩ := chk_some hf
              refine zz_iald hx hb C hP (by decide) lay_90 (inb_vp hc12) dX9_set_100 ?_
              refine lv_iconst (v := 1) hx hb dX9_set_101 (by decide) ?_
              refine lv_icmp_ne (tgt := 112) hx hb dX9_set_102 (by decide) (fun hb13 => ?_) (fun hb13 => ?_)
              · have hf := ifF hb13 hf
                refine lv_aload_n hx hb dX9_set_112 rfl (lv_at hl 0 rfl) ?_
                refine zg_X9_47 hx hb C hP (by decide) lay_81 rfl dX9_set_113 ?_
                refine lv_iload_n hx hb dX9_set_116 rfl (lv_at hl 1 rfl) ?_
                obtain ⟨hc14, hf⟩ := chk_some hf
                refine zz_iald hx hb C hP (by decide) lay_90 (inb_vp hc14) dX9_set_117 ?_
                refine lv_iconst (v := 2) hx hb dX9_set_118 (by decide) ?_
                refine lv_icmp_ne (tgt := 128) hx hb dX9_set_119 (by decide) (fun hb15 => ?_) (fun hb15 => ?_)
                · have hf := ifF hb15 hf
                  refine lv_lload_n hx hb dX9_set_128 rfl (lv_at hl 3 rfl) ?_
                  obtain ⟨hc16, hf⟩ := chk_some hf
                  refine zz_last hx hb C hP hS (by decide) lay_93 (inb_vp hc16) dX9_set_129 (fun σ18 eσ18 H locs hP hS => ?_)
                  have hf := bnd_at σ18 eσ18 hf
                  refine lv_iconst (v := 1) hx hb dX9_set_130 (by decide) ?_
                  have hf := Option.some.inj hf
                  subst hf
                  exact hQ _ _ _ _ dX9_set_131 hP hS
                · have hf := ifT hb15 hf
                  refine lv_lload_n hx hb dX9_set_122 rfl (lv_at hl 3 rfl) ?_
                  refine lv_l2i (v := p3.toInt32) hx hb dX9_set_123 rfl ?_
                  refine lv_i2l (v := p3.toInt32.toInt64) hx hb dX9_set_124 rfl ?_
                  refine lv_goto (tgt := 129) hx hb dX9_set_125 (by decide) ?_
                  obtain ⟨hc18, hf⟩ := chk_some hf
                  refine zz_last hx hb C hP hS (by decide) lay_93 (inb_vp hc18) dX9_set_129 (fun σ20 eσ20 H locs hP hS => ?_)
                  have hf := bnd_at σ20 eσ20 hf
                  refine lv_iconst (v := 1) hx hb dX9_set_130 (by decide) ?_
                  have hf := Option.some.inj hf
                  subst hf
                  exact hQ _ _ _ _ dX9_set_131 hP hS
              · have hf := ifT hb13 hf
                refine lv_lload_n hx hb dX9_set_105 rfl (lv_at hl 3 rfl) ?_
                refine lv_l2i (v := p3.toInt32) hx hb dX9_set_106 rfl ?_
                refine lv_i2s (v := p3.toInt32.toInt16.toInt32) hx hb dX9_set_107 rfl ?_
                refine lv_i2l (v := p3.toInt32.toInt16.toInt32.toInt64) hx hb dX9_set_108 rfl ?_
                refine lv_goto (tgt := 129) hx hb dX9_set_109 (by decide) ?_
                obtain ⟨hc20, hf⟩ := chk_some hf
                refine zz_last hx hb C hP hS (by decide) lay_93 (inb_vp hc20) dX9_set_129 (fun σ22 eσ22 H locs hP hS => ?_)
                have hf := bnd_at σ22 eσ22 hf
                refine lv_iconst (v := 1) hx hb dX9_set_130 (by decide) ?_
                have hf := Option.some.inj hf
                subst hf
                exact hQ _ _ _ _ dX9_set_131 hP hS
            · have hf := ifT hb11 hf
              refine lv_lload_n hx hb dX9_set_88 rfl (lv_at hl 3 rfl) ?_
              refine lv_l2i (v := p3.toInt32) hx hb dX9_set_89 rfl ?_
              refine lv_i2b (v := p3.toInt32.toInt8.toInt32) hx hb dX9_set_90 rfl ?_
              refine lv_i2l (v := p3.toInt32.toInt8.toInt32.toInt64) hx hb dX9_set_91 rfl ?_
              refine lv_goto (tgt := 129) hx hb dX9_set_92 (by decide) ?_
              obtain ⟨hc22, hf⟩ := chk_some hf
              refine zz_last hx hb C hP hS (by decide) lay_93 (inb_vp hc22) dX9_set_129 (fun σ24 eσ24 H locs hP hS => ?_)
              have hf := bnd_at σ24 eσ24 hf
              refine lv_iconst (v := 1) hx hb dX9_set_130 (by decide) ?_
              have hf := Option.some.inj hf
              subst hf
              exact hQ _ _ _ _ dX9_set_131 hP hS
          · have hf := ifF hb9 hf
            refine lv_aload_n hx hb dX9_set_61 rfl (lv_at hl 0 rfl) ?_
            refine lv_bipush (v := (-5)) hx hb dX9_set_62 (by decide) ?_
            obtain ⟨u25, hzu25, hf⟩ := obd_some hf
            refine zz_callVi (rest := []) hx hb hml C hP hS (c_X9_no l hDA (-5) hzu25) zw_X9_107 ⟨Nat.le_trans (Nat.le_of_ble_eq_true rfl) hRf, Nat.le_trans (Nat.le_of_ble_eq_true rfl) hRl⟩ (by decide) lay_81 rfl rfl hl.1 (Nat.le_of_ble_eq_true rfl) ⟨Nat.zero_le _, Nat.zero_le _⟩ rfl dX9_set_64 (fun H locs hP hS => ?_)
            have hf := Option.some.inj hf
            subst hf
            exact hQ _ _ _ _ dX9_set_67 hP hS
      · have hf := ifT hb5 hf
        refine lv_aload_n hx hb dX9_set_40 rfl (lv_at hl 0 rfl) ?_
        refine lv_bipush (v := (-3)) hx hb dX9_set_41 (by decide) ?_
        obtain ⟨u26, hzu26, hf⟩ := obd_some hf
        refine zz_callVi (rest := []) hx hb hml C hP hS (c_X9_no l hDA (-3) hzu26) zw_X9_107 ⟨Nat.le_trans (Nat.le_of_ble_eq_true rfl) hRf, Nat.le_trans (Nat.le_of_ble_eq_true rfl) hRl⟩ (by decide) lay_81 rfl rfl hl.1 (Nat.le_of_ble_eq_true rfl) ⟨Nat.zero_le _, Nat.zero_le _⟩ rfl dX9_set_43 (fun H locs hP hS => ?_)
        have hf := Option.some.inj hf
        subst hf
        exact hQ _ _ _ _ dX9_set_46 hP hS
    · have hf := ifT hb3 hf
      refine lv_aload_n hx hb dX9_set_24 rfl (lv_at hl 0 rfl) ?_
      refine lv_bipush (v := (-2)) hx hb dX9_set_25 (by decide) ?_
      obtain ⟨u27, hzu27, hf⟩ := obd_some hf
      refine zz_callVi (rest := []) hx hb hml C hP hS (c_X9_no l hDA (-2) hzu27) zw_X9_107 ⟨Nat.le_trans (Nat.le_of_ble_eq_true rfl) hRf, Nat.le_trans (Nat.le_of_ble_eq_true rfl) hRl⟩ (by decide) lay_81 rfl rfl hl.1 (Nat.le_of_ble_eq_true rfl) ⟨Nat.zero_le _, Nat.zero_le _⟩ rfl dX9_set_27 (fun H locs hP hS => ?_)
      have hf := Option.some.inj hf
      subst hf
      exact hQ _ _ _ _ dX9_set_30 hP hS
  · have hf := ifT hb1 hf
    refine lv_aload_n hx hb dX9_set_8 rfl (lv_at hl 0 rfl) ?_
    refine lv_iconst (v := (-1)) hx hb dX9_set_9 (by decide) ?_
    obtain ⟨u28, hzu28, hf⟩ := obd_some hf
    refine zz_callVi (rest := []) hx hb hml C hP hS (c_X9_no l hDA (-1) hzu28) zw_X9_107 ⟨Nat.le_trans (Nat.le_of_ble_eq_true rfl) hRf, Nat.le_trans (Nat.le_of_ble_eq_true rfl) hRl⟩ (by decide) lay_81 rfl rfl hl.1 (Nat.le_of_ble_eq_true rfl) ⟨Nat.zero_le _, Nat.zero_le _⟩ rfl dX9_set_10 (fun H locs hP hS => ?_)
    have hf := Option.some.inj hf
    subst hf
    exact hQ _ _ _ _ dX9_set_13 hP hS
set_option maxHeartbeats 4000000 in
set_option maxRecDepth 100000 in
theorem c_X9_copy (l : Launch) {D : va_G} {a : Nat → Nat} {cA : Nat → ClassId} {A : Nat → Prop} {sa : Nat → Nat} (hDA : DA a A) {σ : PH} {d : PD} (p1 : Int32) (p2 : Int32) (p3 : Int32) (p4 : Int32) (p5 : Int32) {u : Int32 × PH} (hf : f_X9_copy σ p1 p2 p3 p4 p5 = some u) : CTi l yX9_copy cX9_copy 7 (some .int) 1 21 D a cA A sa [.ref (a 81), .int p1, .int p2, .int p3, .int p4, .int p5] σ d u.1 u.2 d := by
  refine zz_metI zpl_X9 hDA (Nat.le_of_ble_eq_true rfl) ?_
  intro p e R s m args below meth c Q ls hx hb hml C hRf hRl hQ hP hS hl
  have hl : lv_has ls 7 [(0, .ref (a 81)), (1, .int p1), (2, .int p2), (3, .int p3), (4, .int p4), (5, .int p5)] := hl
  unfold f_X9_copy at hf
  refine lv_aload_n hx hb dX9_copy_0 rfl (lv_at hl 0 rfl) ?_
  refine lv_iload_n hx hb dX9_copy_1 rfl (lv_at hl 1 rfl) ?_
  obtain ⟨u1, hzu1⟩ : ∃ z, z = f_X9_isShelf p1 := ⟨_, rfl⟩
  have hf := bnd_at u1 hzu1 hf
  refine zz_callVi (rest := []) hx hb hml C hP hS (c_X9_isShelf l hDA p1 hzu1.symm) zw_X9_103 ⟨Nat.le_trans (Nat.le_of_ble_eq_true rfl) hRf, Nat.le_trans (Nat.le_of_ble_eq_true rfl) hRl⟩ (by decide) lay_81 rfl rfl hl.1 (Nat.le_of_ble_eq_true rfl) ⟨Nat.zero_le _, Nat.zero_le _⟩ rfl dX9_copy_2 (fun H locs hP hS => ?_)
  refine lv_if_eq (tgt := 16) hx hb dX9_copy_5 (by decide) (fun hb1 => ?_) (fun hb1 => ?_)
  · have hf := ifT hb1 hf
    refine lv_aload_n hx hb dX9_copy_16 rfl (lv_at hl 0 rfl) ?_
    refine lv_iconst (v := (-1)) hx hb dX9_copy_17 (by decide) ?_
    obtain ⟨u3, hzu3, hf⟩ := obd_some hf
    refine zz_callVi (rest := []) hx hb hml C hP hS (c_X9_no l hDA (-1) hzu3) zw_X9_107 ⟨Nat.le_trans (Nat.le_of_ble_eq_true rfl) hRf, Nat.le_trans (Nat.le_of_ble_eq_true rfl) hRl⟩ (by decide) lay_81 rfl rfl hl.1 (Nat.le_of_ble_eq_true rfl) ⟨Nat.zero_le _, Nat.zero_le _⟩ rfl dX9_copy_18 (fun H locs hP hS => ?_)
    have hf := Option.some.inj hf
    subst hf
    exact hQ _ _ _ _ dX9_copy_21 hP hS
  · have hf := ifF hb1 hf
    refine lv_aload_n hx hb dX9_copy_8 rfl (lv_at hl 0 rfl) ?_
    refine lv_iload_n hx hb dX9_copy_9 rfl (lv_at hl 2 rfl) ?_
    obtain ⟨u4, hzu4⟩ : ∃ z, z = f_X9_isShelf p2 := ⟨_, rfl⟩
    have hf := bnd_at u4 hzu4 hf
    refine zz_callVi (rest := []) hx hb hml C hP hS (c_X9_isShelf l hDA p2 hzu4.symm) zw_X9_103 ⟨Nat.le_trans (Nat.le_of_ble_eq_true rfl) hRf, Nat.le_trans (Nat.le_of_ble_eq_true rfl) hRl⟩ (by decide) lay_81 rfl rfl hl.1 (Nat.le_of_ble_eq_true rfl) ⟨Nat.zero_le _, Nat.zero_le _⟩ rfl dX9_copy_10 (fun H locs hP hS => ?_)
    refine lv_if_ne (tgt := 22) hx hb dX9_copy_13 (by decide) (fun hb4 => ?_) (fun hb4 => ?_)
    · have hf := ifF hb4 hf
      refine lv_aload_n hx hb dX9_copy_22 rfl (lv_at hl 0 rfl) ?_
      refine zg_X9_44 hx hb C hP (by decide) lay_81 rfl dX9_copy_23 ?_
      refine lv_iload_n hx hb dX9_copy_26 rfl (lv_at hl 1 rfl) ?_
      obtain ⟨hc5, hf⟩ := chk_some hf
      refine zz_iald hx hb C hP (by decide) lay_89 (inb_vp hc5) dX9_copy_27 ?_
      refine lv_iconst (v := 2) hx hb dX9_copy_28 (by decide) ?_
      refine lv_icmp_eq (tgt := 77) hx hb dX9_copy_29 (by decide) (fun hb6 => ?_) (fun hb6 => ?_)
      · have hf := ifT hb6 hf
        refine lv_aload_n hx hb dX9_copy_77 rfl (lv_at hl 0 rfl) ?_
        refine lv_bipush (v := (-2)) hx hb dX9_copy_78 (by decide) ?_
        obtain ⟨u8, hzu8, hf⟩ := obd_some hf
        refine zz_callVi (rest := []) hx hb hml C hP hS (c_X9_no l hDA (-2) hzu8) zw_X9_107 ⟨Nat.le_trans (Nat.le_of_ble_eq_true rfl) hRf, Nat.le_trans (Nat.le_of_ble_eq_true rfl) hRl⟩ (by decide) lay_81 rfl rfl hl.1 (Nat.le_of_ble_eq_true rfl) ⟨Nat.zero_le _, Nat.zero_le _⟩ rfl dX9_copy_80 (fun H locs hP hS => ?_)
        have hf := Option.some.inj hf
        subst hf
        exact hQ _ _ _ _ dX9_copy_83 hP hS
      · have hf := ifF hb6 hf
        refine lv_aload_n hx hb dX9_copy_32 rfl (lv_at hl 0 rfl) ?_
        refine zg_X9_44 hx hb C hP (by decide) lay_81 rfl dX9_copy_33 ?_
        refine lv_iload_n hx hb dX9_copy_36 rfl (lv_at hl 2 rfl) ?_
        obtain ⟨hc8, hf⟩ := chk_some hf
        refine zz_iald hx hb C hP (by decide) lay_89 (inb_vp hc8) dX9_copy_37 ?_
        refine lv_iconst (v := 2) hx hb dX9_copy_38 (by decide) ?_
        refine lv_icmp_eq (tgt := 77) hx hb dX9_copy_39 (by decide) (fun hb9 => ?_) (fun hb9 => ?_)
        · have hf := ifT hb9 hf
          refine lv_aload_n hx hb dX9_copy_77 rfl (lv_at hl 0 rfl) ?_
          refine lv_bipush (v := (-2)) hx hb dX9_copy_78 (by decide) ?_
          obtain ⟨u11, hzu11, hf⟩ := obd_some hf
          refine zz_callVi (rest := []) hx hb hml C hP hS (c_X9_no l hDA (-2) hzu11) zw_X9_107 ⟨Nat.le_trans (Nat.le_of_ble_eq_true rfl) hRf, Nat.le_trans (Nat.le_of_ble_eq_true rfl) hRl⟩ (by decide) lay_81 rfl rfl hl.1 (Nat.le_of_ble_eq_true rfl) ⟨Nat.zero_le _, Nat.zero_le _⟩ rfl dX9_copy_80 (fun H locs hP hS => ?_)
          have hf := Option.some.inj hf
          subst hf
          exact hQ _ _ _ _ dX9_copy_83 hP hS
        · have hf := ifF hb9 hf
          refine lv_aload_n hx hb dX9_copy_42 rfl (lv_at hl 0 rfl) ?_
          refine zg_X9_44 hx hb C hP (by decide) lay_81 rfl dX9_copy_43 ?_
          refine lv_iload_n hx hb dX9_copy_46 rfl (lv_at hl 1 rfl) ?_
          obtain ⟨hc11, hf⟩ := chk_some hf
          refine zz_iald hx hb C hP (by decide) lay_89 (inb_vp hc11) dX9_copy_47 ?_
          refine lv_iconst (v := 1) hx hb dX9_copy_48 (by decide) ?_
          have hJ84 : j_X9_copy_84 σ p1 p2 p3 p4 p5 = some u → ∀ (H : Heap) (locs : List Loc) (ls : Array Slot), lv_has ls 7 [(0, .ref (a 81)), (1, .int p1), (2, .int p2), (3, .int p3), (4, .int p4), (5, .int p5)] → va_P D vwCl (wl a cA σ d) H → va_S A s.heap H locs → W p l e R s m args below meth c H locs 0 0 Q (F0 m 84 ls []) := by
            intro  hf H locs ls hl hP hS
            unfold j_X9_copy_84 at hf
            refine lv_aload_n hx hb dX9_copy_84 rfl (lv_at hl 0 rfl) ?_
            refine zg_X9_44 hx hb C hP (by decide) lay_81 rfl dX9_copy_85 ?_
            refine lv_iload_n hx hb dX9_copy_88 rfl (lv_at hl 1 rfl) ?_
            obtain ⟨hc12, hf⟩ := chk_some hf
            refine zz_iald hx hb C hP (by decide) lay_89 (inb_vp hc12) dX9_copy_89 ?_
            refine lv_if_eq (tgt := 102) hx hb dX9_copy_90 (by decide) (fun hb13 => ?_) (fun hb13 => ?_)
            · have hf := ifT hb13 hf
              refine lv_aload_n hx hb dX9_copy_102 rfl (lv_at hl 0 rfl) ?_
              refine lv_bipush (v := (-3)) hx hb dX9_copy_103 (by decide) ?_
              obtain ⟨u15, hzu15, hf⟩ := obd_some hf
              refine zz_callVi (rest := []) hx hb hml C hP hS (c_X9_no l hDA (-3) hzu15) zw_X9_107 ⟨Nat.le_trans (Nat.le_of_ble_eq_true rfl) hRf, Nat.le_trans (Nat.le_of_ble_eq_true rfl) hRl⟩ (by decide) lay_81 rfl rfl hl.1 (Nat.le_of_ble_eq_true rfl) ⟨Nat.zero_le _, Nat.zero_le _⟩ rfl dX9_copy_105 (fun H locs hP hS => ?_)
              have hf := Option.some.inj hf
              subst hf
              exact hQ _ _ _ _ dX9_copy_108 hP hS
            · have hf := ifF hb13 hf
              refine lv_aload_n hx hb dX9_copy_93 rfl (lv_at hl 0 rfl) ?_
              refine zg_X9_44 hx hb C hP (by decide) lay_81 rfl dX9_copy_94 ?_
              refine lv_iload_n hx hb dX9_copy_97 rfl (lv_at hl 2 rfl) ?_
              obtain ⟨hc15, hf⟩ := chk_some hf
              refine zz_iald hx hb C hP (by decide) lay_89 (inb_vp hc15) dX9_copy_98 ?_
              refine lv_if_ne (tgt := 109) hx hb dX9_copy_99 (by decide) (fun hb16 => ?_) (fun hb16 => ?_)
              · have hf := ifF hb16 hf
                refine lv_iload hx hb dX9_copy_109 (lv_at hl 5 rfl) ?_
                refine lv_if_ge (tgt := 121) hx hb dX9_copy_111 (by decide) (fun hb17 => ?_) (fun hb17 => ?_)
                · have hf := ifT hb17 hf
                  refine lv_iload_n hx hb dX9_copy_121 rfl (lv_at hl 3 rfl) ?_
                  refine lv_if_lt (tgt := 157) hx hb dX9_copy_122 (by decide) (fun hb18 => ?_) (fun hb18 => ?_)
                  · have hf := ifT hb18 hf
                    refine lv_aload_n hx hb dX9_copy_157 rfl (lv_at hl 0 rfl) ?_
                    refine lv_bipush (v := (-5)) hx hb dX9_copy_158 (by decide) ?_
                    obtain ⟨u20, hzu20, hf⟩ := obd_some hf
                    refine zz_callVi (rest := []) hx hb hml C hP hS (c_X9_no l hDA (-5) hzu20) zw_X9_107 ⟨Nat.le_trans (Nat.le_of_ble_eq_true rfl) hRf, Nat.le_trans (Nat.le_of_ble_eq_true rfl) hRl⟩ (by decide) lay_81 rfl rfl hl.1 (Nat.le_of_ble_eq_true rfl) ⟨Nat.zero_le _, Nat.zero_le _⟩ rfl dX9_copy_160 (fun H locs hP hS => ?_)
                    have hf := Option.some.inj hf
                    subst hf
                    exact hQ _ _ _ _ dX9_copy_163 hP hS
                  · have hf := ifF hb18 hf
                    refine lv_iload hx hb dX9_copy_125 (lv_at hl 4 rfl) ?_
                    refine lv_if_lt (tgt := 157) hx hb dX9_copy_127 (by decide) (fun hb20 => ?_) (fun hb20 => ?_)
                    · have hf := ifT hb20 hf
                      refine lv_aload_n hx hb dX9_copy_157 rfl (lv_at hl 0 rfl) ?_
                      refine lv_bipush (v := (-5)) hx hb dX9_copy_158 (by decide) ?_
                      obtain ⟨u22, hzu22, hf⟩ := obd_some hf
                      refine zz_callVi (rest := []) hx hb hml C hP hS (c_X9_no l hDA (-5) hzu22) zw_X9_107 ⟨Nat.le_trans (Nat.le_of_ble_eq_true rfl) hRf, Nat.le_trans (Nat.le_of_ble_eq_true rfl) hRl⟩ (by decide) lay_81 rfl rfl hl.1 (Nat.le_of_ble_eq_true rfl) ⟨Nat.zero_le _, Nat.zero_le _⟩ rfl dX9_copy_160 (fun H locs hP hS => ?_)
                      have hf := Option.some.inj hf
                      subst hf
                      exact hQ _ _ _ _ dX9_copy_163 hP hS
                    · have hf := ifF hb20 hf
                      refine lv_iload_n hx hb dX9_copy_130 rfl (lv_at hl 3 rfl) ?_
                      refine lv_aload_n hx hb dX9_copy_131 rfl (lv_at hl 0 rfl) ?_
                      refine zg_X9_50 hx hb C hP (by decide) lay_81 rfl dX9_copy_132 ?_
                      refine lv_iload_n hx hb dX9_copy_135 rfl (lv_at hl 1 rfl) ?_
                      obtain ⟨hc22, hf⟩ := chk_some hf
                      refine zz_iald hx hb C hP (by decide) lay_91 (inb_vp hc22) dX9_copy_136 ?_
                      refine lv_iload hx hb dX9_copy_137 (lv_at hl 5 rfl) ?_
                      refine lv_isub hx hb dX9_copy_139 ?_
                      refine lv_icmp_gt (tgt := 157) hx hb dX9_copy_140 (by decide) (fun hb23 => ?_) (fun hb23 => ?_)
                      · have hf := ifT hb23 hf
                        refine lv_aload_n hx hb dX9_copy_157 rfl (lv_at hl 0 rfl) ?_
                        refine lv_bipush (v := (-5)) hx hb dX9_copy_158 (by decide) ?_
                        obtain ⟨u25, hzu25, hf⟩ := obd_some hf
                        refine zz_callVi (rest := []) hx hb hml C hP hS (c_X9_no l hDA (-5) hzu25) zw_X9_107 ⟨Nat.le_trans (Nat.le_of_ble_eq_true rfl) hRf, Nat.le_trans (Nat.le_of_ble_eq_true rfl) hRl⟩ (by decide) lay_81 rfl rfl hl.1 (Nat.le_of_ble_eq_true rfl) ⟨Nat.zero_le _, Nat.zero_le _⟩ rfl dX9_copy_160 (fun H locs hP hS => ?_)
                        have hf := Option.some.inj hf
                        subst hf
                        exact hQ _ _ _ _ dX9_copy_163 hP hS
                      · have hf := ifF hb23 hf
                        refine lv_iload hx hb dX9_copy_143 (lv_at hl 4 rfl) ?_
                        refine lv_aload_n hx hb dX9_copy_145 rfl (lv_at hl 0 rfl) ?_
                        refine zg_X9_50 hx hb C hP (by decide) lay_81 rfl dX9_copy_146 ?_
                        refine lv_iload_n hx hb dX9_copy_149 rfl (lv_at hl 2 rfl) ?_
                        obtain ⟨hc25, hf⟩ := chk_some hf
                        refine zz_iald hx hb C hP (by decide) lay_91 (inb_vp hc25) dX9_copy_150 ?_
                        refine lv_iload hx hb dX9_copy_151 (lv_at hl 5 rfl) ?_
                        refine lv_isub hx hb dX9_copy_153 ?_
                        refine lv_icmp_le (tgt := 164) hx hb dX9_copy_154 (by decide) (fun hb26 => ?_) (fun hb26 => ?_)
                        · have hf := ifT hb26 hf
                          refine lv_iconst (v := 0) hx hb dX9_copy_164 (by decide) ?_
                          refine lv_istore (lv' := [(6, .int 0), (0, .ref (a 81)), (1, .int p1), (2, .int p2), (3, .int p3), (4, .int p4), (5, .int p5)]) hx hb dX9_copy_165 hl (by decide) rfl (fun ls hl => ?_)
                          have hJ202 : ∀ (σ28 : PH), j_X9_copy_202 p2 p4 p5 σ28 = some u → ∀ (H : Heap) (locs : List Loc) (ls : Array Slot), lv_has ls 7 [(0, .ref (a 81)), (2, .int p2), (4, .int p4), (5, .int p5)] → va_P D vwCl (wl a cA σ28 d) H → va_S A s.heap H locs → W p l e R s m args below meth c H locs 0 0 Q (F0 m 202 ls []) := by
                            intro σ28 hf H locs ls hl hP hS
                            unfold j_X9_copy_202 at hf
                            refine lv_iconst (v := 0) hx hb dX9_copy_202 (by decide) ?_
                            refine lv_istore (lv' := [(6, .int 0), (0, .ref (a 81)), (2, .int p2), (4, .int p4), (5, .int p5)]) hx hb dX9_copy_203 hl (by decide) rfl (fun ls hl => ?_)
                            refine loopN_ind (P := fun (q29 : Int32 × PH) => ∀ (H : Heap) (locs : List Loc) (ls : Array Slot), lv_has ls 7 [(0, .ref (a 81)), (2, .int p2), (4, .int p4), (5, .int p5), (6, .int q29.1)] → va_P D vwCl (wl a cA q29.2 d) H → va_S A s.heap H locs → W p l e R s m args below meth c H locs 0 0 Q (F0 m 205 ls [])) ?_ _ _ hf _ _ _ (lv_sub hl [1, 2, 3, 4, 0] rfl) hP hS
                            intro k30 ihk30 q29 hf H locs ls hl hP hS
                            unfold b_X9_copy_205 at hf
                            refine lv_iload hx hb dX9_copy_205 (lv_at hl 4 rfl) ?_
                            refine lv_iload hx hb dX9_copy_207 (lv_at hl 3 rfl) ?_
                            refine lv_icmp_ge (tgt := 241) hx hb dX9_copy_209 (by decide) (fun hb30 => ?_) (fun hb30 => ?_)
                            · have hf := ifT hb30 hf
                              refine lv_iconst (v := 1) hx hb dX9_copy_241 (by decide) ?_
                              have hf := Option.some.inj hf
                              subst hf
                              exact hQ _ _ _ _ dX9_copy_242 hP hS
                            · have hf := ifF hb30 hf
                              refine lv_aload_n hx hb dX9_copy_212 rfl (lv_at hl 0 rfl) ?_
                              refine zg_X9_56 hx hb C hP (by decide) lay_81 rfl dX9_copy_213 ?_
                              refine lv_sipush (v := 160) hx hb dX9_copy_216 (by decide) ?_
                              refine lv_iload_n hx hb dX9_copy_219 rfl (lv_at hl 1 rfl) ?_
                              refine lv_imul hx hb dX9_copy_220 ?_
                              refine lv_iload hx hb dX9_copy_221 (lv_at hl 2 rfl) ?_
                              refine lv_iadd hx hb dX9_copy_223 ?_
                              refine lv_iload hx hb dX9_copy_224 (lv_at hl 4 rfl) ?_
                              refine lv_iadd hx hb dX9_copy_226 ?_
                              refine lv_aload_n hx hb dX9_copy_227 rfl (lv_at hl 0 rfl) ?_
                              refine zg_X9_60 hx hb C hP (by decide) lay_81 rfl dX9_copy_228 ?_
                              refine lv_iload hx hb dX9_copy_231 (lv_at hl 4 rfl) ?_
                              obtain ⟨hc31, hf⟩ := chk_some hf
                              refine zz_lald hx hb C hP (by decide) lay_94 (inb_vp hc31) dX9_copy_233 ?_
                              obtain ⟨hc32, hf⟩ := chk_some hf
                              refine zz_last hx hb C hP hS (by decide) lay_93 (inb_vp hc32) dX9_copy_234 (fun σ34 eσ34 H locs hP hS => ?_)
                              have hf := bnd_at σ34 eσ34 hf
                              obtain ⟨v35, ev35⟩ : ∃ z : Int32, z = q29.1 + 1 := ⟨_, rfl⟩
                              have hf := bnd_at v35 ev35 hf
                              refine lv_iinc (v := v35) (lv' := [(6, .int v35), (0, .ref (a 81)), (2, .int p2), (4, .int p4), (5, .int p5)]) hx hb dX9_copy_235 hl (k := 4) rfl (by rw [ev35]; rfl) (by decide) rfl (fun ls hl => ?_)
                              refine lv_goto (tgt := 205) hx hb dX9_copy_238 (by decide) ?_
                              exact ihk30 _ hf _ _ _ (lv_sub hl [1, 2, 3, 4, 0] rfl) hP hS
                          refine loopN_ind (P := fun (q36 : Int32 × PH) => ∀ (H : Heap) (locs : List Loc) (ls : Array Slot), lv_has ls 7 [(0, .ref (a 81)), (1, .int p1), (2, .int p2), (3, .int p3), (4, .int p4), (5, .int p5), (6, .int q36.1)] → va_P D vwCl (wl a cA q36.2 d) H → va_S A s.heap H locs → W p l e R s m args below meth c H locs 0 0 Q (F0 m 167 ls [])) ?_ _ _ hf _ _ _ (lv_sub hl [1, 2, 3, 4, 5, 6, 0] rfl) hP hS
                          intro k37 ihk37 q36 hf H locs ls hl hP hS
                          unfold b_X9_copy_167 at hf
                          refine lv_iload hx hb dX9_copy_167 (lv_at hl 6 rfl) ?_
                          refine lv_iload hx hb dX9_copy_169 (lv_at hl 5 rfl) ?_
                          refine lv_icmp_ge (tgt := 202) hx hb dX9_copy_171 (by decide) (fun hb37 => ?_) (fun hb37 => ?_)
                          · have hf := ifT hb37 hf
                            exact hJ202 _ hf _ _ _ (lv_sub hl [0, 2, 4, 5] rfl) hP hS
                          · have hf := ifF hb37 hf
                            refine lv_aload_n hx hb dX9_copy_174 rfl (lv_at hl 0 rfl) ?_
                            refine zg_X9_60 hx hb C hP (by decide) lay_81 rfl dX9_copy_175 ?_
                            refine lv_iload hx hb dX9_copy_178 (lv_at hl 6 rfl) ?_
                            refine lv_aload_n hx hb dX9_copy_180 rfl (lv_at hl 0 rfl) ?_
                            refine zg_X9_56 hx hb C hP (by decide) lay_81 rfl dX9_copy_181 ?_
                            refine lv_sipush (v := 160) hx hb dX9_copy_184 (by decide) ?_
                            refine lv_iload_n hx hb dX9_copy_187 rfl (lv_at hl 1 rfl) ?_
                            refine lv_imul hx hb dX9_copy_188 ?_
                            refine lv_iload_n hx hb dX9_copy_189 rfl (lv_at hl 3 rfl) ?_
                            refine lv_iadd hx hb dX9_copy_190 ?_
                            refine lv_iload hx hb dX9_copy_191 (lv_at hl 6 rfl) ?_
                            refine lv_iadd hx hb dX9_copy_193 ?_
                            obtain ⟨hc38, hf⟩ := chk_some hf
                            refine zz_lald hx hb C hP (by decide) lay_93 (inb_vp hc38) dX9_copy_194 ?_
                            obtain ⟨hc39, hf⟩ := chk_some hf
                            refine zz_last hx hb C hP hS (by decide) lay_94 (inb_vp hc39) dX9_copy_195 (fun σ41 eσ41 H locs hP hS => ?_)
                            have hf := bnd_at σ41 eσ41 hf
                            obtain ⟨v42, ev42⟩ : ∃ z : Int32, z = q36.1 + 1 := ⟨_, rfl⟩
                            have hf := bnd_at v42 ev42 hf
                            refine lv_iinc (v := v42) (lv' := [(6, .int v42), (0, .ref (a 81)), (1, .int p1), (2, .int p2), (3, .int p3), (4, .int p4), (5, .int p5)]) hx hb dX9_copy_196 hl (k := 6) rfl (by rw [ev42]; rfl) (by decide) rfl (fun ls hl => ?_)
                            refine lv_goto (tgt := 167) hx hb dX9_copy_199 (by decide) ?_
                            exact ihk37 _ hf _ _ _ (lv_sub hl [1, 2, 3, 4, 5, 6, 0] rfl) hP hS
                        · have hf := ifF hb26 hf
                          refine lv_aload_n hx hb dX9_copy_157 rfl (lv_at hl 0 rfl) ?_
                          refine lv_bipush (v := (-5)) hx hb dX9_copy_158 (by decide) ?_
                          obtain ⟨u43, hzu43, hf⟩ := obd_some hf
                          refine zz_callVi (rest := []) hx hb hml C hP hS (c_X9_no l hDA (-5) hzu43) zw_X9_107 ⟨Nat.le_trans (Nat.le_of_ble_eq_true rfl) hRf, Nat.le_trans (Nat.le_of_ble_eq_true rfl) hRl⟩ (by decide) lay_81 rfl rfl hl.1 (Nat.le_of_ble_eq_true rfl) ⟨Nat.zero_le _, Nat.zero_le _⟩ rfl dX9_copy_160 (fun H locs hP hS => ?_)
                          have hf := Option.some.inj hf
                          subst hf
                          exact hQ _ _ _ _ dX9_copy_163 hP hS
                · have hf := ifF hb17 hf
                  refine lv_aload_n hx hb dX9_copy_114 rfl (lv_at hl 0 rfl) ?_
                  refine lv_bipush (v := (-4)) hx hb dX9_copy_115 (by decide) ?_
                  obtain ⟨u44, hzu44, hf⟩ := obd_some hf
                  refine zz_callVi (rest := []) hx hb hml C hP hS (c_X9_no l hDA (-4) hzu44) zw_X9_107 ⟨Nat.le_trans (Nat.le_of_ble_eq_true rfl) hRf, Nat.le_trans (Nat.le_of_ble_eq_true rfl) hRl⟩ (by decide) lay_81 rfl rfl hl.1 (Nat.le_of_ble_eq_true rfl) ⟨Nat.zero_le _, Nat.zero_le _⟩ rfl dX9_copy_117 (fun H locs hP hS => ?_)
                  have hf := Option.some.inj hf
                  subst hf
                  exact hQ _ _ _ _ dX9_copy_120 hP hS
              · have hf := ifT hb16 hf
                refine lv_aload_n hx hb dX9_copy_102 rfl (lv_at hl 0 rfl) ?_
                refine lv_bipush (v := (-3)) hx hb dX9_copy_103 (by decide) ?_
                obtain ⟨u45, hzu45, hf⟩ := obd_some hf
                refine zz_callVi (rest := []) hx hb hml C hP hS (c_X9_no l hDA (-3) hzu45) zw_X9_107 ⟨Nat.le_trans (Nat.le_of_ble_eq_true rfl) hRf, Nat.le_trans (Nat.le_of_ble_eq_true rfl) hRl⟩ (by decide) lay_81 rfl rfl hl.1 (Nat.le_of_ble_eq_true rfl) ⟨Nat.zero_le _, Nat.zero_le _⟩ rfl dX9_copy_105 (fun H locs hP hS => ?_)
                have hf := Option.some.inj hf
                subst hf
                exact hQ _ _ _ _ dX9_copy_108 hP hS
          refine lv_icmp_ne (tgt := 84) hx hb dX9_copy_49 (by decide) (fun hb45 => ?_) (fun hb45 => ?_)
          · have hf := ifF hb45 hf
            exact hJ84  hf _ _ _ (lv_sub hl [0, 1, 2, 3, 4, 5] rfl) hP hS
          · have hf := ifT hb45 hf
            refine lv_aload_n hx hb dX9_copy_52 rfl (lv_at hl 0 rfl) ?_
            refine zg_X9_44 hx hb C hP (by decide) lay_81 rfl dX9_copy_53 ?_
            refine lv_iload_n hx hb dX9_copy_56 rfl (lv_at hl 2 rfl) ?_
            obtain ⟨hc46, hf⟩ := chk_some hf
            refine zz_iald hx hb C hP (by decide) lay_89 (inb_vp hc46) dX9_copy_57 ?_
            refine lv_iconst (v := 1) hx hb dX9_copy_58 (by decide) ?_
            refine lv_icmp_ne (tgt := 84) hx hb dX9_copy_59 (by decide) (fun hb47 => ?_) (fun hb47 => ?_)
            · have hf := ifF hb47 hf
              exact hJ84  hf _ _ _ (lv_sub hl [0, 1, 2, 3, 4, 5] rfl) hP hS
            · have hf := ifT hb47 hf
              refine lv_aload_n hx hb dX9_copy_62 rfl (lv_at hl 0 rfl) ?_
              refine zg_X9_47 hx hb C hP (by decide) lay_81 rfl dX9_copy_63 ?_
              refine lv_iload_n hx hb dX9_copy_66 rfl (lv_at hl 1 rfl) ?_
              obtain ⟨hc48, hf⟩ := chk_some hf
              refine zz_iald hx hb C hP (by decide) lay_90 (inb_vp hc48) dX9_copy_67 ?_
              refine lv_aload_n hx hb dX9_copy_68 rfl (lv_at hl 0 rfl) ?_
              refine zg_X9_47 hx hb C hP (by decide) lay_81 rfl dX9_copy_69 ?_
              refine lv_iload_n hx hb dX9_copy_72 rfl (lv_at hl 2 rfl) ?_
              obtain ⟨hc49, hf⟩ := chk_some hf
              refine zz_iald hx hb C hP (by decide) lay_90 (inb_vp hc49) dX9_copy_73 ?_
              refine lv_icmp_eq (tgt := 84) hx hb dX9_copy_74 (by decide) (fun hb50 => ?_) (fun hb50 => ?_)
              · have hf := ifT hb50 hf
                exact hJ84  hf _ _ _ (lv_sub hl [0, 1, 2, 3, 4, 5] rfl) hP hS
              · have hf := ifF hb50 hf
                refine lv_aload_n hx hb dX9_copy_77 rfl (lv_at hl 0 rfl) ?_
                refine lv_bipush (v := (-2)) hx hb dX9_copy_78 (by decide) ?_
                obtain ⟨u52, hzu52, hf⟩ := obd_some hf
                refine zz_callVi (rest := []) hx hb hml C hP hS (c_X9_no l hDA (-2) hzu52) zw_X9_107 ⟨Nat.le_trans (Nat.le_of_ble_eq_true rfl) hRf, Nat.le_trans (Nat.le_of_ble_eq_true rfl) hRl⟩ (by decide) lay_81 rfl rfl hl.1 (Nat.le_of_ble_eq_true rfl) ⟨Nat.zero_le _, Nat.zero_le _⟩ rfl dX9_copy_80 (fun H locs hP hS => ?_)
                have hf := Option.some.inj hf
                subst hf
                exact hQ _ _ _ _ dX9_copy_83 hP hS
    · have hf := ifT hb4 hf
      refine lv_aload_n hx hb dX9_copy_16 rfl (lv_at hl 0 rfl) ?_
      refine lv_iconst (v := (-1)) hx hb dX9_copy_17 (by decide) ?_
      obtain ⟨u53, hzu53, hf⟩ := obd_some hf
      refine zz_callVi (rest := []) hx hb hml C hP hS (c_X9_no l hDA (-1) hzu53) zw_X9_107 ⟨Nat.le_trans (Nat.le_of_ble_eq_true rfl) hRf, Nat.le_trans (Nat.le_of_ble_eq_true rfl) hRl⟩ (by decide) lay_81 rfl rfl hl.1 (Nat.le_of_ble_eq_true rfl) ⟨Nat.zero_le _, Nat.zero_le _⟩ rfl dX9_copy_18 (fun H locs hP hS => ?_)
      have hf := Option.some.inj hf
      subst hf
      exact hQ _ _ _ _ dX9_copy_21 hP hS
set_option maxHeartbeats 4000000 in
set_option maxRecDepth 100000 in
theorem c_X9_element (l : Launch) {D : va_G} {a : Nat → Nat} {cA : Nat → ClassId} {A : Nat → Prop} {sa : Nat → Nat} (hDA : DA a A) {σ : PH} {d : PD} (p1 : Int32) (p2 : Int32) {u : Int64} (hf : f_X9_element σ p1 p2 = some u) : CTl l yX9_element cX9_element 3 (some .long) 1 21 D a cA A sa [.ref (a 81), .int p1, .int p2] σ d u σ d := by
  refine zz_metL zpl_X9 hDA (Nat.le_of_ble_eq_true rfl) ?_
  intro p e R s m args below meth c Q ls hx hb hml C hRf hRl hQ hP hS hl
  have hl : lv_has ls 3 [(0, .ref (a 81)), (1, .int p1), (2, .int p2)] := hl
  unfold f_X9_element at hf
  refine lv_aload_n hx hb dX9_element_0 rfl (lv_at hl 0 rfl) ?_
  refine lv_iload_n hx hb dX9_element_1 rfl (lv_at hl 1 rfl) ?_
  obtain ⟨u1, hzu1⟩ : ∃ z, z = f_X9_isShelf p1 := ⟨_, rfl⟩
  have hf := bnd_at u1 hzu1 hf
  refine zz_callVi (rest := []) hx hb hml C hP hS (c_X9_isShelf l hDA p1 hzu1.symm) zw_X9_103 ⟨Nat.le_trans (Nat.le_of_ble_eq_true rfl) hRf, Nat.le_trans (Nat.le_of_ble_eq_true rfl) hRl⟩ (by decide) lay_81 rfl rfl hl.1 (Nat.le_of_ble_eq_true rfl) ⟨Nat.zero_le _, Nat.zero_le _⟩ rfl dX9_element_2 (fun H locs hP hS => ?_)
  refine lv_if_eq (tgt := 47) hx hb dX9_element_5 (by decide) (fun hb1 => ?_) (fun hb1 => ?_)
  · have hf := ifT hb1 hf
    refine lv_lconst (v := 0) hx hb dX9_element_47 (by decide) ?_
    have hf := Option.some.inj hf
    subst hf
    exact hQ _ _ _ _ dX9_element_48 hP hS
  · have hf := ifF hb1 hf
    refine lv_aload_n hx hb dX9_element_8 rfl (lv_at hl 0 rfl) ?_
    refine zg_X9_44 hx hb C hP (by decide) lay_81 rfl dX9_element_9 ?_
    refine lv_iload_n hx hb dX9_element_12 rfl (lv_at hl 1 rfl) ?_
    obtain ⟨hc2, hf⟩ := chk_some hf
    refine zz_iald hx hb C hP (by decide) lay_89 (inb_vp hc2) dX9_element_13 ?_
    refine lv_iconst (v := 1) hx hb dX9_element_14 (by decide) ?_
    refine lv_icmp_ne (tgt := 47) hx hb dX9_element_15 (by decide) (fun hb3 => ?_) (fun hb3 => ?_)
    · have hf := ifF hb3 hf
      refine lv_lconst (v := 0) hx hb dX9_element_47 (by decide) ?_
      have hf := Option.some.inj hf
      subst hf
      exact hQ _ _ _ _ dX9_element_48 hP hS
    · have hf := ifT hb3 hf
      refine lv_iload_n hx hb dX9_element_18 rfl (lv_at hl 2 rfl) ?_
      refine lv_if_lt (tgt := 47) hx hb dX9_element_19 (by decide) (fun hb4 => ?_) (fun hb4 => ?_)
      · have hf := ifT hb4 hf
        refine lv_lconst (v := 0) hx hb dX9_element_47 (by decide) ?_
        have hf := Option.some.inj hf
        subst hf
        exact hQ _ _ _ _ dX9_element_48 hP hS
      · have hf := ifF hb4 hf
        refine lv_iload_n hx hb dX9_element_22 rfl (lv_at hl 2 rfl) ?_
        refine lv_aload_n hx hb dX9_element_23 rfl (lv_at hl 0 rfl) ?_
        refine zg_X9_50 hx hb C hP (by decide) lay_81 rfl dX9_element_24 ?_
        refine lv_iload_n hx hb dX9_element_27 rfl (lv_at hl 1 rfl) ?_
        obtain ⟨hc5, hf⟩ := chk_some hf
        refine zz_iald hx hb C hP (by decide) lay_91 (inb_vp hc5) dX9_element_28 ?_
        refine lv_icmp_ge (tgt := 47) hx hb dX9_element_29 (by decide) (fun hb6 => ?_) (fun hb6 => ?_)
        · have hf := ifT hb6 hf
          refine lv_lconst (v := 0) hx hb dX9_element_47 (by decide) ?_
          have hf := Option.some.inj hf
          subst hf
          exact hQ _ _ _ _ dX9_element_48 hP hS
        · have hf := ifF hb6 hf
          refine lv_aload_n hx hb dX9_element_32 rfl (lv_at hl 0 rfl) ?_
          refine zg_X9_56 hx hb C hP (by decide) lay_81 rfl dX9_element_33 ?_
          refine lv_sipush (v := 160) hx hb dX9_element_36 (by decide) ?_
          refine lv_iload_n hx hb dX9_element_39 rfl (lv_at hl 1 rfl) ?_
          refine lv_imul hx hb dX9_element_40 ?_
          refine lv_iload_n hx hb dX9_element_41 rfl (lv_at hl 2 rfl) ?_
          refine lv_iadd hx hb dX9_element_42 ?_
          obtain ⟨hc7, hf⟩ := chk_some hf
          refine zz_lald hx hb C hP (by decide) lay_93 (inb_vp hc7) dX9_element_43 ?_
          refine lv_goto (tgt := 48) hx hb dX9_element_44 (by decide) ?_
          have hf := Option.some.inj hf
          subst hf
          exact hQ _ _ _ _ dX9_element_48 hP hS
set_option maxHeartbeats 4000000 in
set_option maxRecDepth 100000 in
theorem c_X9_show (l : Launch) {D : va_G} {a : Nat → Nat} {cA : Nat → ClassId} {A : Nat → Prop} {sa : Nat → Nat} (hDA : DA a A) {σ : PH} {d : PD} (p1 : Int32) (p2 : Int32) {u : Int32 × PH} (hf : f_X9_show σ p1 p2 = some u) : CTi l yX9_show cX9_show 3 (some .int) 1 21 D a cA A sa [.ref (a 81), .int p1, .int p2] σ d u.1 u.2 d := by
  refine zz_metI zpl_X9 hDA (Nat.le_of_ble_eq_true rfl) ?_
  intro p e R s m args below meth c Q ls hx hb hml C hRf hRl hQ hP hS hl
  have hl : lv_has ls 3 [(0, .ref (a 81)), (1, .int p1), (2, .int p2)] := hl
  unfold f_X9_show at hf
  refine lv_aload_n hx hb dX9_show_0 rfl (lv_at hl 0 rfl) ?_
  refine lv_iload_n hx hb dX9_show_1 rfl (lv_at hl 1 rfl) ?_
  obtain ⟨u1, hzu1⟩ : ∃ z, z = f_X9_isShelf p1 := ⟨_, rfl⟩
  have hf := bnd_at u1 hzu1 hf
  refine zz_callVi (rest := []) hx hb hml C hP hS (c_X9_isShelf l hDA p1 hzu1.symm) zw_X9_103 ⟨Nat.le_trans (Nat.le_of_ble_eq_true rfl) hRf, Nat.le_trans (Nat.le_of_ble_eq_true rfl) hRl⟩ (by decide) lay_81 rfl rfl hl.1 (Nat.le_of_ble_eq_true rfl) ⟨Nat.zero_le _, Nat.zero_le _⟩ rfl dX9_show_2 (fun H locs hP hS => ?_)
  refine lv_if_eq (tgt := 21) hx hb dX9_show_5 (by decide) (fun hb1 => ?_) (fun hb1 => ?_)
  · have hf := ifT hb1 hf
    refine lv_aload_n hx hb dX9_show_21 rfl (lv_at hl 0 rfl) ?_
    refine lv_iconst (v := (-1)) hx hb dX9_show_22 (by decide) ?_
    obtain ⟨u3, hzu3, hf⟩ := obd_some hf
    refine zz_callVi (rest := []) hx hb hml C hP hS (c_X9_no l hDA (-1) hzu3) zw_X9_107 ⟨Nat.le_trans (Nat.le_of_ble_eq_true rfl) hRf, Nat.le_trans (Nat.le_of_ble_eq_true rfl) hRl⟩ (by decide) lay_81 rfl rfl hl.1 (Nat.le_of_ble_eq_true rfl) ⟨Nat.zero_le _, Nat.zero_le _⟩ rfl dX9_show_23 (fun H locs hP hS => ?_)
    have hf := Option.some.inj hf
    subst hf
    exact hQ _ _ _ _ dX9_show_26 hP hS
  · have hf := ifF hb1 hf
    refine lv_iload_n hx hb dX9_show_8 rfl (lv_at hl 2 rfl) ?_
    refine lv_iconst (v := (-1)) hx hb dX9_show_9 (by decide) ?_
    have hJ27 : j_X9_show_27 σ p1 p2 = some u → ∀ (H : Heap) (locs : List Loc) (ls : Array Slot), lv_has ls 3 [(0, .ref (a 81)), (1, .int p1), (2, .int p2)] → va_P D vwCl (wl a cA σ d) H → va_S A s.heap H locs → W p l e R s m args below meth c H locs 0 0 Q (F0 m 27 ls []) := by
      intro  hf H locs ls hl hP hS
      unfold j_X9_show_27 at hf
      refine lv_aload_n hx hb dX9_show_27 rfl (lv_at hl 0 rfl) ?_
      refine zg_X9_44 hx hb C hP (by decide) lay_81 rfl dX9_show_28 ?_
      refine lv_iload_n hx hb dX9_show_31 rfl (lv_at hl 1 rfl) ?_
      refine lv_iload_n hx hb dX9_show_32 rfl (lv_at hl 2 rfl) ?_
      refine lv_iconst (v := (-1)) hx hb dX9_show_33 (by decide) ?_
      have hJ42 : ∀ (v4 : Int32), j_X9_show_42 σ p1 p2 v4 = some u → ∀ (H : Heap) (locs : List Loc) (ls : Array Slot), lv_has ls 3 [(0, .ref (a 81)), (1, .int p1), (2, .int p2)] → va_P D vwCl (wl a cA σ d) H → va_S A s.heap H locs → W p l e R s m args below meth c H locs 0 0 Q (F0 m 42 ls [.int v4, .int p1, .ref (a 89)]) := by
        intro v4 hf H locs ls hl hP hS
        unfold j_X9_show_42 at hf
        obtain ⟨hc4, hf⟩ := chk_some hf
        refine zz_iast hx hb C hP hS (by decide) lay_89 (inb_vp hc4) dX9_show_42 (fun σ6 eσ6 H locs hP hS => ?_)
        have hf := bnd_at σ6 eσ6 hf
        refine lv_aload_n hx hb dX9_show_43 rfl (lv_at hl 0 rfl) ?_
        refine zg_X9_53 hx hb C hP (by decide) lay_81 rfl dX9_show_44 ?_
        refine lv_iload_n hx hb dX9_show_47 rfl (lv_at hl 1 rfl) ?_
        refine lv_iload_n hx hb dX9_show_48 rfl (lv_at hl 2 rfl) ?_
        obtain ⟨hc6, hf⟩ := chk_some hf
        refine zz_iast hx hb C hP hS (by decide) lay_92 (inb_vp hc6) dX9_show_49 (fun σ8 eσ8 H locs hP hS => ?_)
        have hf := bnd_at σ8 eσ8 hf
        refine lv_iload_n hx hb dX9_show_50 rfl (lv_at hl 2 rfl) ?_
        refine lv_iconst (v := (-1)) hx hb dX9_show_51 (by decide) ?_
        refine lv_icmp_ne (tgt := 59) hx hb dX9_show_52 (by decide) (fun hb8 => ?_) (fun hb8 => ?_)
        · have hf := ifF hb8 hf
          refine lv_iconst (v := 1) hx hb dX9_show_59 (by decide) ?_
          have hf := Option.some.inj hf
          subst hf
          exact hQ _ _ _ _ dX9_show_60 hP hS
        · have hf := ifT hb8 hf
          refine lv_iconst (v := 0) hx hb dX9_show_55 (by decide) ?_
          refine lv_goto (tgt := 60) hx hb dX9_show_56 (by decide) ?_
          have hf := Option.some.inj hf
          subst hf
          exact hQ _ _ _ _ dX9_show_60 hP hS
      refine lv_icmp_ne (tgt := 41) hx hb dX9_show_34 (by decide) (fun hb9 => ?_) (fun hb9 => ?_)
      · have hf := ifF hb9 hf
        refine lv_iconst (v := 2) hx hb dX9_show_41 (by decide) ?_
        exact hJ42 _ hf _ _ _ (lv_sub hl [0, 1, 2] rfl) hP hS
      · have hf := ifT hb9 hf
        refine lv_iconst (v := 0) hx hb dX9_show_37 (by decide) ?_
        refine lv_goto (tgt := 42) hx hb dX9_show_38 (by decide) ?_
        exact hJ42 _ hf _ _ _ (lv_sub hl [0, 1, 2] rfl) hP hS
    refine lv_icmp_eq (tgt := 27) hx hb dX9_show_10 (by decide) (fun hb10 => ?_) (fun hb10 => ?_)
    · have hf := ifT hb10 hf
      exact hJ27  hf _ _ _ (lv_sub hl [0, 1, 2] rfl) hP hS
    · have hf := ifF hb10 hf
      refine lv_aload_n hx hb dX9_show_13 rfl (lv_at hl 0 rfl) ?_
      refine lv_iload_n hx hb dX9_show_14 rfl (lv_at hl 2 rfl) ?_
      obtain ⟨u12, hzu12⟩ : ∃ z, z = f_X9_isSinger σ p2 := ⟨_, rfl⟩
      have hf := bnd_at u12 hzu12 hf
      refine zz_callVi (rest := []) hx hb hml C hP hS (c_X9_isSinger l hDA p2 hzu12.symm) zw_X9_111 ⟨Nat.le_trans (Nat.le_of_ble_eq_true rfl) hRf, Nat.le_trans (Nat.le_of_ble_eq_true rfl) hRl⟩ (by decide) lay_81 rfl rfl hl.1 (Nat.le_of_ble_eq_true rfl) ⟨Nat.zero_le _, Nat.zero_le _⟩ rfl dX9_show_15 (fun H locs hP hS => ?_)
      refine lv_if_ne (tgt := 27) hx hb dX9_show_18 (by decide) (fun hb12 => ?_) (fun hb12 => ?_)
      · have hf := ifF hb12 hf
        exact hJ27  hf _ _ _ (lv_sub hl [0, 1, 2] rfl) hP hS
      · have hf := ifT hb12 hf
        refine lv_aload_n hx hb dX9_show_21 rfl (lv_at hl 0 rfl) ?_
        refine lv_iconst (v := (-1)) hx hb dX9_show_22 (by decide) ?_
        obtain ⟨u14, hzu14, hf⟩ := obd_some hf
        refine zz_callVi (rest := []) hx hb hml C hP hS (c_X9_no l hDA (-1) hzu14) zw_X9_107 ⟨Nat.le_trans (Nat.le_of_ble_eq_true rfl) hRf, Nat.le_trans (Nat.le_of_ble_eq_true rfl) hRl⟩ (by decide) lay_81 rfl rfl hl.1 (Nat.le_of_ble_eq_true rfl) ⟨Nat.zero_le _, Nat.zero_le _⟩ rfl dX9_show_23 (fun H locs hP hS => ?_)
        have hf := Option.some.inj hf
        subst hf
        exact hQ _ _ _ _ dX9_show_26 hP hS
set_option maxHeartbeats 4000000 in
set_option maxRecDepth 100000 in
theorem c_X9_holds (l : Launch) {D : va_G} {a : Nat → Nat} {cA : Nat → ClassId} {A : Nat → Prop} {sa : Nat → Nat} (hDA : DA a A) {σ : PH} {d : PD} (p1 : Int32) {u : Int32} (hf : f_X9_holds σ p1 = some u) : CTi l yX9_holds cX9_holds 2 (some .int) 1 21 D a cA A sa [.ref (a 81), .int p1] σ d u σ d := by
  refine zz_metI zpl_X9 hDA (Nat.le_of_ble_eq_true rfl) ?_
  intro p e R s m args below meth c Q ls hx hb hml C hRf hRl hQ hP hS hl
  have hl : lv_has ls 2 [(0, .ref (a 81)), (1, .int p1)] := hl
  unfold f_X9_holds at hf
  refine lv_aload_n hx hb dX9_holds_0 rfl (lv_at hl 0 rfl) ?_
  refine lv_iload_n hx hb dX9_holds_1 rfl (lv_at hl 1 rfl) ?_
  obtain ⟨u1, hzu1⟩ : ∃ z, z = f_X9_isShelf p1 := ⟨_, rfl⟩
  have hf := bnd_at u1 hzu1 hf
  refine zz_callVi (rest := []) hx hb hml C hP hS (c_X9_isShelf l hDA p1 hzu1.symm) zw_X9_103 ⟨Nat.le_trans (Nat.le_of_ble_eq_true rfl) hRf, Nat.le_trans (Nat.le_of_ble_eq_true rfl) hRl⟩ (by decide) lay_81 rfl rfl hl.1 (Nat.le_of_ble_eq_true rfl) ⟨Nat.zero_le _, Nat.zero_le _⟩ rfl dX9_holds_2 (fun H locs hP hS => ?_)
  refine lv_if_eq (tgt := 17) hx hb dX9_holds_5 (by decide) (fun hb1 => ?_) (fun hb1 => ?_)
  · have hf := ifT hb1 hf
    refine lv_iconst (v := (-1)) hx hb dX9_holds_17 (by decide) ?_
    have hf := Option.some.inj hf
    subst hf
    exact hQ _ _ _ _ dX9_holds_18 hP hS
  · have hf := ifF hb1 hf
    refine lv_aload_n hx hb dX9_holds_8 rfl (lv_at hl 0 rfl) ?_
    refine zg_X9_44 hx hb C hP (by decide) lay_81 rfl dX9_holds_9 ?_
    refine lv_iload_n hx hb dX9_holds_12 rfl (lv_at hl 1 rfl) ?_
    obtain ⟨hc2, hf⟩ := chk_some hf
    refine zz_iald hx hb C hP (by decide) lay_89 (inb_vp hc2) dX9_holds_13 ?_
    refine lv_if_ne (tgt := 19) hx hb dX9_holds_14 (by decide) (fun hb3 => ?_) (fun hb3 => ?_)
    · have hf := ifF hb3 hf
      refine lv_aload_n hx hb dX9_holds_19 rfl (lv_at hl 0 rfl) ?_
      refine zg_X9_44 hx hb C hP (by decide) lay_81 rfl dX9_holds_20 ?_
      refine lv_iload_n hx hb dX9_holds_23 rfl (lv_at hl 1 rfl) ?_
      obtain ⟨hc4, hf⟩ := chk_some hf
      refine zz_iald hx hb C hP (by decide) lay_89 (inb_vp hc4) dX9_holds_24 ?_
      refine lv_iconst (v := 1) hx hb dX9_holds_25 (by decide) ?_
      refine lv_icmp_ne (tgt := 41) hx hb dX9_holds_26 (by decide) (fun hb5 => ?_) (fun hb5 => ?_)
      · have hf := ifF hb5 hf
        refine lv_aload_n hx hb dX9_holds_41 rfl (lv_at hl 0 rfl) ?_
        refine zg_X9_53 hx hb C hP (by decide) lay_81 rfl dX9_holds_42 ?_
        refine lv_iload_n hx hb dX9_holds_45 rfl (lv_at hl 1 rfl) ?_
        obtain ⟨hc6, hf⟩ := chk_some hf
        refine zz_iald hx hb C hP (by decide) lay_92 (inb_vp hc6) dX9_holds_46 ?_
        have hf := Option.some.inj hf
        subst hf
        exact hQ _ _ _ _ dX9_holds_47 hP hS
      · have hf := ifT hb5 hf
        refine lv_bipush (v := 100) hx hb dX9_holds_29 (by decide) ?_
        refine lv_aload_n hx hb dX9_holds_31 rfl (lv_at hl 0 rfl) ?_
        refine zg_X9_47 hx hb C hP (by decide) lay_81 rfl dX9_holds_32 ?_
        refine lv_iload_n hx hb dX9_holds_35 rfl (lv_at hl 1 rfl) ?_
        obtain ⟨hc7, hf⟩ := chk_some hf
        refine zz_iald hx hb C hP (by decide) lay_90 (inb_vp hc7) dX9_holds_36 ?_
        refine lv_iadd hx hb dX9_holds_37 ?_
        refine lv_goto (tgt := 47) hx hb dX9_holds_38 (by decide) ?_
        have hf := Option.some.inj hf
        subst hf
        exact hQ _ _ _ _ dX9_holds_47 hP hS
    · have hf := ifT hb3 hf
      refine lv_iconst (v := (-1)) hx hb dX9_holds_17 (by decide) ?_
      have hf := Option.some.inj hf
      subst hf
      exact hQ _ _ _ _ dX9_holds_18 hP hS
set_option maxHeartbeats 4000000 in
set_option maxRecDepth 100000 in
theorem c_X9_who (l : Launch) {D : va_G} {a : Nat → Nat} {cA : Nat → ClassId} {A : Nat → Prop} {sa : Nat → Nat} (hDA : DA a A) {σ : PH} {d : PD} (p1 : Int32) {u : Int32} (hf : f_X9_who σ p1 = some u) : CTi l yX9_who cX9_who 3 (some .int) 0 0 D a cA A sa [.ref (a 81), .int p1] σ d u σ d := by
  refine zz_metI zpl_X9 hDA (Nat.le_of_ble_eq_true rfl) ?_
  intro p e R s m args below meth c Q ls hx hb hml C hRf hRl hQ hP hS hl
  have hl : lv_has ls 3 [(0, .ref (a 81)), (1, .int p1)] := hl
  unfold f_X9_who at hf
  refine lv_iconst (v := 0) hx hb dX9_who_0 (by decide) ?_
  refine lv_istore_n (lv' := [(2, .int 0), (0, .ref (a 81)), (1, .int p1)]) hx hb dX9_who_1 rfl hl (by decide) rfl (fun ls hl => ?_)
  refine loopN_ind (P := fun (q1 : Int32) => ∀ (H : Heap) (locs : List Loc) (ls : Array Slot), lv_has ls 3 [(0, .ref (a 81)), (1, .int p1), (2, .int q1)] → va_P D vwCl (wl a cA σ d) H → va_S A s.heap H locs → W p l e R s m args below meth c H locs 0 0 Q (F0 m 2 ls [])) ?_ _ _ hf _ _ _ (lv_sub hl [1, 2, 0] rfl) hP hS
  intro k2 ihk2 q1 hf H locs ls hl hP hS
  unfold b_X9_who_2 at hf
  refine lv_iload_n hx hb dX9_who_2 rfl (lv_at hl 2 rfl) ?_
  refine lv_aload_n hx hb dX9_who_3 rfl (lv_at hl 0 rfl) ?_
  refine zg_X9_96 hx hb C hP (by decide) lay_81 rfl dX9_who_4 ?_
  refine lv_icmp_ge (tgt := 28) hx hb dX9_who_7 (by decide) (fun hb2 => ?_) (fun hb2 => ?_)
  · have hf := ifT hb2 hf
    refine lv_iconst (v := (-1)) hx hb dX9_who_28 (by decide) ?_
    have hf := Option.some.inj hf
    subst hf
    exact hQ _ _ _ _ dX9_who_29 hP hS
  · have hf := ifF hb2 hf
    refine lv_aload_n hx hb dX9_who_10 rfl (lv_at hl 0 rfl) ?_
    refine zg_X9_35 hx hb C hP (by decide) lay_81 rfl dX9_who_11 ?_
    refine lv_iload_n hx hb dX9_who_14 rfl (lv_at hl 2 rfl) ?_
    obtain ⟨hc3, hf⟩ := chk_some hf
    refine zz_iald hx hb C hP (by decide) lay_86 (inb_vp hc3) dX9_who_15 ?_
    refine lv_iload_n hx hb dX9_who_16 rfl (lv_at hl 1 rfl) ?_
    refine lv_icmp_ne (tgt := 22) hx hb dX9_who_17 (by decide) (fun hb4 => ?_) (fun hb4 => ?_)
    · have hf := ifF hb4 hf
      obtain ⟨v6, ev6⟩ : ∃ z : Int32, z = q1 + 1 := ⟨_, rfl⟩
      have hf := bnd_at v6 ev6 hf
      refine lv_iinc (v := v6) (lv' := [(2, .int v6), (0, .ref (a 81)), (1, .int p1)]) hx hb dX9_who_22 hl (k := 2) rfl (by rw [ev6]; rfl) (by decide) rfl (fun ls hl => ?_)
      refine lv_goto (tgt := 2) hx hb dX9_who_25 (by decide) ?_
      exact ihk2 _ hf _ _ _ (lv_sub hl [1, 2, 0] rfl) hP hS
    · have hf := ifT hb4 hf
      refine lv_iload_n hx hb dX9_who_20 rfl (lv_at hl 2 rfl) ?_
      have hf := Option.some.inj hf
      subst hf
      exact hQ _ _ _ _ dX9_who_21 hP hS
set_option maxHeartbeats 4000000 in
set_option maxRecDepth 100000 in
theorem c_X9_says (l : Launch) {D : va_G} {a : Nat → Nat} {cA : Nat → ClassId} {A : Nat → Prop} {sa : Nat → Nat} (hDA : DA a A) {σ : PH} {d : PD} (p1 : Int32) (p2 : Int32) {u : Int32 × PH} (hf : f_X9_says σ p1 p2 = some u) : CTi l yX9_says cX9_says 6 (some .int) 1 22 D a cA A sa [.ref (a 81), .int p1, .int p2] σ d u.1 u.2 d := by
  refine zz_metI zpl_X9 hDA (Nat.le_of_ble_eq_true rfl) ?_
  intro p e R s m args below meth c Q ls hx hb hml C hRf hRl hQ hP hS hl
  have hl : lv_has ls 6 [(0, .ref (a 81)), (1, .int p1), (2, .int p2)] := hl
  unfold f_X9_says at hf
  refine lv_aload_n hx hb dX9_says_0 rfl (lv_at hl 0 rfl) ?_
  refine lv_iload_n hx hb dX9_says_1 rfl (lv_at hl 1 rfl) ?_
  obtain ⟨u1, hzu1⟩ : ∃ z, z = f_X9_isShelf p1 := ⟨_, rfl⟩
  have hf := bnd_at u1 hzu1 hf
  refine zz_callVi (rest := []) hx hb hml C hP hS (c_X9_isShelf l hDA p1 hzu1.symm) zw_X9_103 ⟨Nat.le_trans (Nat.le_of_ble_eq_true rfl) hRf, Nat.le_trans (Nat.le_of_ble_eq_true rfl) hRl⟩ (by decide) lay_81 rfl rfl hl.1 (Nat.le_of_ble_eq_true rfl) ⟨Nat.zero_le _, Nat.zero_le _⟩ rfl dX9_says_2 (fun H locs hP hS => ?_)
  refine lv_if_eq (tgt := 18) hx hb dX9_says_5 (by decide) (fun hb1 => ?_) (fun hb1 => ?_)
  · have hf := ifT hb1 hf
    refine lv_aload_n hx hb dX9_says_18 rfl (lv_at hl 0 rfl) ?_
    refine lv_iconst (v := (-1)) hx hb dX9_says_19 (by decide) ?_
    obtain ⟨u3, hzu3, hf⟩ := obd_some hf
    refine zz_callVi (rest := []) hx hb hml C hP hS (c_X9_no l hDA (-1) hzu3) zw_X9_107 ⟨Nat.le_trans (Nat.le_of_ble_eq_true rfl) hRf, Nat.le_trans (Nat.le_of_ble_eq_true rfl) hRl⟩ (by decide) lay_81 rfl rfl hl.1 (Nat.le_of_ble_eq_true rfl) ⟨Nat.zero_le _, Nat.zero_le _⟩ rfl dX9_says_20 (fun H locs hP hS => ?_)
    have hf := Option.some.inj hf
    subst hf
    exact hQ _ _ _ _ dX9_says_23 hP hS
  · have hf := ifF hb1 hf
    refine lv_iload_n hx hb dX9_says_8 rfl (lv_at hl 2 rfl) ?_
    refine lv_if_lt (tgt := 18) hx hb dX9_says_9 (by decide) (fun hb3 => ?_) (fun hb3 => ?_)
    · have hf := ifT hb3 hf
      refine lv_aload_n hx hb dX9_says_18 rfl (lv_at hl 0 rfl) ?_
      refine lv_iconst (v := (-1)) hx hb dX9_says_19 (by decide) ?_
      obtain ⟨u5, hzu5, hf⟩ := obd_some hf
      refine zz_callVi (rest := []) hx hb hml C hP hS (c_X9_no l hDA (-1) hzu5) zw_X9_107 ⟨Nat.le_trans (Nat.le_of_ble_eq_true rfl) hRf, Nat.le_trans (Nat.le_of_ble_eq_true rfl) hRl⟩ (by decide) lay_81 rfl rfl hl.1 (Nat.le_of_ble_eq_true rfl) ⟨Nat.zero_le _, Nat.zero_le _⟩ rfl dX9_says_20 (fun H locs hP hS => ?_)
      have hf := Option.some.inj hf
      subst hf
      exact hQ _ _ _ _ dX9_says_23 hP hS
    · have hf := ifF hb3 hf
      refine lv_iload_n hx hb dX9_says_12 rfl (lv_at hl 2 rfl) ?_
      refine lv_bipush (v := 6) hx hb dX9_says_13 (by decide) ?_
      refine lv_icmp_le (tgt := 24) hx hb dX9_says_15 (by decide) (fun hb5 => ?_) (fun hb5 => ?_)
      · have hf := ifT hb5 hf
        refine lv_aload_n hx hb dX9_says_24 rfl (lv_at hl 0 rfl) ?_
        refine zg_X9_44 hx hb C hP (by decide) lay_81 rfl dX9_says_25 ?_
        refine lv_iload_n hx hb dX9_says_28 rfl (lv_at hl 1 rfl) ?_
        obtain ⟨hc6, hf⟩ := chk_some hf
        refine zz_iald hx hb C hP (by decide) lay_89 (inb_vp hc6) dX9_says_29 ?_
        refine lv_iconst (v := 1) hx hb dX9_says_30 (by decide) ?_
        refine lv_icmp_ne (tgt := 41) hx hb dX9_says_31 (by decide) (fun hb7 => ?_) (fun hb7 => ?_)
        · have hf := ifF hb7 hf
          refine lv_aload_n hx hb dX9_says_41 rfl (lv_at hl 0 rfl) ?_
          refine zg_X9_44 hx hb C hP (by decide) lay_81 rfl dX9_says_42 ?_
          refine lv_iload_n hx hb dX9_says_45 rfl (lv_at hl 1 rfl) ?_
          obtain ⟨hc8, hf⟩ := chk_some hf
          refine zz_iald hx hb C hP (by decide) lay_89 (inb_vp hc8) dX9_says_46 ?_
          refine lv_if_ne (tgt := 57) hx hb dX9_says_47 (by decide) (fun hb9 => ?_) (fun hb9 => ?_)
          · have hf := ifF hb9 hf
            refine lv_aload_n hx hb dX9_says_57 rfl (lv_at hl 0 rfl) ?_
            refine zg_X9_53 hx hb C hP (by decide) lay_81 rfl dX9_says_58 ?_
            refine lv_iload_n hx hb dX9_says_61 rfl (lv_at hl 1 rfl) ?_
            obtain ⟨hc10, hf⟩ := chk_some hf
            refine zz_iald hx hb C hP (by decide) lay_92 (inb_vp hc10) dX9_says_62 ?_
            refine lv_topi (fun v12 ev12 => ?_)
            have hf := bnd_at v12 ev12 hf
            refine lv_istore_n (lv' := [(3, .int v12), (0, .ref (a 81)), (1, .int p1), (2, .int p2)]) hx hb dX9_says_63 rfl hl (by decide) rfl (fun ls hl => ?_)
            refine lv_aload_n hx hb dX9_says_64 rfl (lv_at hl 1 rfl) ?_
            refine zg_X9_26 hx hb C hP (by decide) lay_81 rfl dX9_says_65 ?_
            refine lv_iload_n hx hb dX9_says_68 rfl (lv_at hl 0 rfl) ?_
            obtain ⟨hc12, hf⟩ := chk_some hf
            refine zz_iald hx hb C hP (by decide) lay_83 (inb_vp hc12) dX9_says_69 ?_
            refine lv_topi (fun v14 ev14 => ?_)
            have hf := bnd_at v14 ev14 hf
            refine lv_istore (lv' := [(4, .int v14), (3, .int v12), (0, .ref (a 81)), (1, .int p1), (2, .int p2)]) hx hb dX9_says_70 hl (by decide) rfl (fun ls hl => ?_)
            refine lv_iload_n hx hb dX9_says_72 rfl (lv_at hl 4 rfl) ?_
            refine lv_iconst (v := 1) hx hb dX9_says_73 (by decide) ?_
            have hJ111 : ∀ (v15 : Int32), j_X9_says_111 σ p2 v12 v14 v15 = some u → ∀ (H : Heap) (locs : List Loc) (ls : Array Slot), lv_has ls 6 [(0, .ref (a 81)), (2, .int p2), (3, .int v12), (4, .int v14)] → va_P D vwCl (wl a cA σ d) H → va_S A s.heap H locs → W p l e R s m args below meth c H locs 0 0 Q (F0 m 111 ls [.int v15]) := by
              intro v15 hf H locs ls hl hP hS
              unfold j_X9_says_111 at hf
              refine lv_istore (lv' := [(5, .int v15), (0, .ref (a 81)), (2, .int p2), (3, .int v12), (4, .int v14)]) hx hb dX9_says_111 hl (by decide) rfl (fun ls hl => ?_)
              refine lv_iload_n hx hb dX9_says_113 rfl (lv_at hl 2 rfl) ?_
              have hJ135 : j_X9_says_135 σ p2 v12 = some u → ∀ (H : Heap) (locs : List Loc) (ls : Array Slot), lv_has ls 6 [(0, .ref (a 81)), (2, .int p2), (3, .int v12)] → va_P D vwCl (wl a cA σ d) H → va_S A s.heap H locs → W p l e R s m args below meth c H locs 0 0 Q (F0 m 135 ls []) := by
                intro  hf H locs ls hl hP hS
                unfold j_X9_says_135 at hf
                refine lv_iload_n hx hb dX9_says_135 rfl (lv_at hl 1 rfl) ?_
                have hJ183 : j_X9_says_183 σ v12 = some u → ∀ (H : Heap) (locs : List Loc) (ls : Array Slot), lv_has ls 6 [(0, .ref (a 81)), (3, .int v12)] → va_P D vwCl (wl a cA σ d) H → va_S A s.heap H locs → W p l e R s m args below meth c H locs 0 0 Q (F0 m 183 ls []) := by
                  intro  hf H locs ls hl hP hS
                  unfold j_X9_says_183 at hf
                  refine lv_aload_n hx hb dX9_says_183 rfl (lv_at hl 0 rfl) ?_
                  refine lv_aload_n hx hb dX9_says_184 rfl (lv_at hl 0 rfl) ?_
                  refine zg_X9_35 hx hb C hP (by decide) lay_81 rfl dX9_says_185 ?_
                  refine lv_iload_n hx hb dX9_says_188 rfl (lv_at hl 1 rfl) ?_
                  obtain ⟨hc15, hf⟩ := chk_some hf
                  refine zz_iald hx hb C hP (by decide) lay_86 (inb_vp hc15) dX9_says_189 ?_
                  refine lv_iconst (v := 1) hx hb dX9_says_190 (by decide) ?_
                  refine lv_isub hx hb dX9_says_191 ?_
                  obtain ⟨u17, hzu17, hf⟩ := obd_some hf
                  refine zz_callVi (rest := []) hx hb hml C hP hS (c_X9_who l hDA ((gI σ 86 v12.toNatClampNeg) - 1) hzu17) zw_X9_114 ⟨Nat.le_trans (Nat.le_of_ble_eq_true rfl) hRf, Nat.le_trans (Nat.le_of_ble_eq_true rfl) hRl⟩ (by decide) lay_81 rfl rfl hl.1 (Nat.le_of_ble_eq_true rfl) ⟨Nat.zero_le _, Nat.zero_le _⟩ rfl dX9_says_192 (fun H locs hP hS => ?_)
                  have hf := Option.some.inj hf
                  subst hf
                  exact hQ _ _ _ _ dX9_says_195 hP hS
                by_cases hb17 : p2 = 0
                · have hf := ifT hb17 hf
                  refine lv_tableIn (tgt := 176) hx hb dX9_says_136 (by rw [hb17]; decide) (by rw [hb17]; decide) (by rw [hb17]; rfl) (by decide) ?_
                  refine lv_aload_n hx hb dX9_says_176 rfl (lv_at hl 0 rfl) ?_
                  refine zg_X9_35 hx hb C hP (by decide) lay_81 rfl dX9_says_177 ?_
                  refine lv_iload_n hx hb dX9_says_180 rfl (lv_at hl 2 rfl) ?_
                  obtain ⟨hc18, hf⟩ := chk_some hf
                  refine zz_iald hx hb C hP (by decide) lay_86 (inb_vp hc18) dX9_says_181 ?_
                  have hf := Option.some.inj hf
                  subst hf
                  exact hQ _ _ _ _ dX9_says_182 hP hS
                have hf := ifF hb17 hf
                by_cases hb19 : p2 = 1
                · have hf := ifT hb19 hf
                  refine lv_tableIn (tgt := 183) hx hb dX9_says_136 (by rw [hb19]; decide) (by rw [hb19]; decide) (by rw [hb19]; rfl) (by decide) ?_
                  exact hJ183  hf _ _ _ (lv_sub hl [0, 2] rfl) hP hS
                have hf := ifF hb19 hf
                by_cases hb20 : p2 = 2
                · have hf := ifT hb20 hf
                  refine lv_tableIn (tgt := 196) hx hb dX9_says_136 (by rw [hb20]; decide) (by rw [hb20]; decide) (by rw [hb20]; rfl) (by decide) ?_
                  refine lv_aload_n hx hb dX9_says_196 rfl (lv_at hl 0 rfl) ?_
                  refine zg_X9_29 hx hb C hP (by decide) lay_81 rfl dX9_says_197 ?_
                  refine lv_iload_n hx hb dX9_says_200 rfl (lv_at hl 2 rfl) ?_
                  obtain ⟨hc21, hf⟩ := chk_some hf
                  refine zz_iald hx hb C hP (by decide) lay_84 (inb_vp hc21) dX9_says_201 ?_
                  refine lv_iconst (v := 2) hx hb dX9_says_202 (by decide) ?_
                  refine lv_iadd hx hb dX9_says_203 ?_
                  have hf := Option.some.inj hf
                  subst hf
                  exact hQ _ _ _ _ dX9_says_204 hP hS
                have hf := ifF hb20 hf
                by_cases hb22 : p2 = 3
                · have hf := ifT hb22 hf
                  refine lv_tableIn (tgt := 183) hx hb dX9_says_136 (by rw [hb22]; decide) (by rw [hb22]; decide) (by rw [hb22]; rfl) (by decide) ?_
                  exact hJ183  hf _ _ _ (lv_sub hl [0, 2] rfl) hP hS
                have hf := ifF hb22 hf
                by_cases hb23 : p2 = 4
                · have hf := ifT hb23 hf
                  refine lv_tableIn (tgt := 205) hx hb dX9_says_136 (by rw [hb23]; decide) (by rw [hb23]; decide) (by rw [hb23]; rfl) (by decide) ?_
                  refine lv_aload_n hx hb dX9_says_205 rfl (lv_at hl 0 rfl) ?_
                  refine zg_X9_29 hx hb C hP (by decide) lay_81 rfl dX9_says_206 ?_
                  refine lv_iload_n hx hb dX9_says_209 rfl (lv_at hl 2 rfl) ?_
                  obtain ⟨hc24, hf⟩ := chk_some hf
                  refine zz_iald hx hb C hP (by decide) lay_84 (inb_vp hc24) dX9_says_210 ?_
                  have hf := Option.some.inj hf
                  subst hf
                  exact hQ _ _ _ _ dX9_says_211 hP hS
                have hf := ifF hb23 hf
                by_cases hb25 : p2 = 5
                · have hf := ifT hb25 hf
                  refine lv_tableIn (tgt := 196) hx hb dX9_says_136 (by rw [hb25]; decide) (by rw [hb25]; decide) (by rw [hb25]; rfl) (by decide) ?_
                  refine lv_aload_n hx hb dX9_says_196 rfl (lv_at hl 0 rfl) ?_
                  refine zg_X9_29 hx hb C hP (by decide) lay_81 rfl dX9_says_197 ?_
                  refine lv_iload_n hx hb dX9_says_200 rfl (lv_at hl 2 rfl) ?_
                  obtain ⟨hc26, hf⟩ := chk_some hf
                  refine zz_iald hx hb C hP (by decide) lay_84 (inb_vp hc26) dX9_says_201 ?_
                  refine lv_iconst (v := 2) hx hb dX9_says_202 (by decide) ?_
                  refine lv_iadd hx hb dX9_says_203 ?_
                  have hf := Option.some.inj hf
                  subst hf
                  exact hQ _ _ _ _ dX9_says_204 hP hS
                have hf := ifF hb25 hf
                refine lv_tableOut (tgt := 205) hx hb dX9_says_136 (sw_0_5 hb17 hb19 hb20 hb22 hb23 hb25) (by decide) ?_
                refine lv_aload_n hx hb dX9_says_205 rfl (lv_at hl 0 rfl) ?_
                refine zg_X9_29 hx hb C hP (by decide) lay_81 rfl dX9_says_206 ?_
                refine lv_iload_n hx hb dX9_says_209 rfl (lv_at hl 2 rfl) ?_
                obtain ⟨hc27, hf⟩ := chk_some hf
                refine zz_iald hx hb C hP (by decide) lay_84 (inb_vp hc27) dX9_says_210 ?_
                have hf := Option.some.inj hf
                subst hf
                exact hQ _ _ _ _ dX9_says_211 hP hS
              refine lv_if_eq (tgt := 135) hx hb dX9_says_114 (by decide) (fun hb28 => ?_) (fun hb28 => ?_)
              · have hf := ifT hb28 hf
                exact hJ135  hf _ _ _ (lv_sub hl [1, 2, 3] rfl) hP hS
              · have hf := ifF hb28 hf
                refine lv_iload_n hx hb dX9_says_117 rfl (lv_at hl 2 rfl) ?_
                refine lv_iload hx hb dX9_says_118 (lv_at hl 4 rfl) ?_
                refine lv_icmp_eq (tgt := 135) hx hb dX9_says_120 (by decide) (fun hb29 => ?_) (fun hb29 => ?_)
                · have hf := ifT hb29 hf
                  exact hJ135  hf _ _ _ (lv_sub hl [1, 2, 3] rfl) hP hS
                · have hf := ifF hb29 hf
                  refine lv_iload hx hb dX9_says_123 (lv_at hl 0 rfl) ?_
                  refine lv_if_ne (tgt := 135) hx hb dX9_says_125 (by decide) (fun hb30 => ?_) (fun hb30 => ?_)
                  · have hf := ifF hb30 hf
                    exact hJ135  hf _ _ _ (lv_sub hl [1, 2, 3] rfl) hP hS
                  · have hf := ifT hb30 hf
                    refine lv_aload_n hx hb dX9_says_128 rfl (lv_at hl 1 rfl) ?_
                    refine lv_bipush (v := (-2)) hx hb dX9_says_129 (by decide) ?_
                    obtain ⟨u32, hzu32, hf⟩ := obd_some hf
                    refine zz_callVi (rest := []) hx hb hml C hP hS (c_X9_no l hDA (-2) hzu32) zw_X9_107 ⟨Nat.le_trans (Nat.le_of_ble_eq_true rfl) hRf, Nat.le_trans (Nat.le_of_ble_eq_true rfl) hRl⟩ (by decide) lay_81 rfl rfl hl.1 (Nat.le_of_ble_eq_true rfl) ⟨Nat.zero_le _, Nat.zero_le _⟩ rfl dX9_says_131 (fun H locs hP hS => ?_)
                    have hf := Option.some.inj hf
                    subst hf
                    exact hQ _ _ _ _ dX9_says_134 hP hS
            have hJ106 : j_X9_says_106 σ p2 v12 v14 = some u → ∀ (H : Heap) (locs : List Loc) (ls : Array Slot), lv_has ls 6 [(0, .ref (a 81)), (2, .int p2), (3, .int v12), (4, .int v14)] → va_P D vwCl (wl a cA σ d) H → va_S A s.heap H locs → W p l e R s m args below meth c H locs 0 0 Q (F0 m 106 ls []) := by
              intro  hf H locs ls hl hP hS
              unfold j_X9_says_106 at hf
              refine lv_iconst (v := 1) hx hb dX9_says_106 (by decide) ?_
              refine lv_goto (tgt := 111) hx hb dX9_says_107 (by decide) ?_
              exact hJ111 _ hf _ _ _ (lv_sub hl [0, 1, 2, 3] rfl) hP hS
            have hJ83 : j_X9_says_83 σ p2 v12 v14 = some u → ∀ (H : Heap) (locs : List Loc) (ls : Array Slot), lv_has ls 6 [(0, .ref (a 81)), (2, .int p2), (3, .int v12), (4, .int v14)] → va_P D vwCl (wl a cA σ d) H → va_S A s.heap H locs → W p l e R s m args below meth c H locs 0 0 Q (F0 m 83 ls []) := by
              intro  hf H locs ls hl hP hS
              unfold j_X9_says_83 at hf
              refine lv_iload_n hx hb dX9_says_83 rfl (lv_at hl 1 rfl) ?_
              refine lv_iconst (v := 2) hx hb dX9_says_84 (by decide) ?_
              have hJ94 : j_X9_says_94 σ p2 v12 v14 = some u → ∀ (H : Heap) (locs : List Loc) (ls : Array Slot), lv_has ls 6 [(0, .ref (a 81)), (2, .int p2), (3, .int v12), (4, .int v14)] → va_P D vwCl (wl a cA σ d) H → va_S A s.heap H locs → W p l e R s m args below meth c H locs 0 0 Q (F0 m 94 ls []) := by
                intro  hf H locs ls hl hP hS
                unfold j_X9_says_94 at hf
                refine lv_iload_n hx hb dX9_says_94 rfl (lv_at hl 1 rfl) ?_
                refine lv_iconst (v := 4) hx hb dX9_says_95 (by decide) ?_
                have hJ110 : j_X9_says_110 σ p2 v12 v14 = some u → ∀ (H : Heap) (locs : List Loc) (ls : Array Slot), lv_has ls 6 [(0, .ref (a 81)), (2, .int p2), (3, .int v12), (4, .int v14)] → va_P D vwCl (wl a cA σ d) H → va_S A s.heap H locs → W p l e R s m args below meth c H locs 0 0 Q (F0 m 110 ls []) := by
                  intro  hf H locs ls hl hP hS
                  unfold j_X9_says_110 at hf
                  refine lv_iconst (v := 0) hx hb dX9_says_110 (by decide) ?_
                  exact hJ111 _ hf _ _ _ (lv_sub hl [0, 1, 2, 3] rfl) hP hS
                refine lv_icmp_ne (tgt := 110) hx hb dX9_says_96 (by decide) (fun hb32 => ?_) (fun hb32 => ?_)
                · have hf := ifF hb32 hf
                  exact hJ110  hf _ _ _ (lv_sub hl [0, 1, 2, 3] rfl) hP hS
                · have hf := ifT hb32 hf
                  refine lv_iload hx hb dX9_says_99 (lv_at hl 3 rfl) ?_
                  refine lv_bipush (v := 6) hx hb dX9_says_101 (by decide) ?_
                  refine lv_icmp_ne (tgt := 110) hx hb dX9_says_103 (by decide) (fun hb33 => ?_) (fun hb33 => ?_)
                  · have hf := ifF hb33 hf
                    exact hJ110  hf _ _ _ (lv_sub hl [0, 1, 2, 3] rfl) hP hS
                  · have hf := ifT hb33 hf
                    exact hJ106  hf _ _ _ (lv_sub hl [0, 1, 2, 3] rfl) hP hS
              refine lv_icmp_ne (tgt := 94) hx hb dX9_says_85 (by decide) (fun hb34 => ?_) (fun hb34 => ?_)
              · have hf := ifF hb34 hf
                exact hJ94  hf _ _ _ (lv_sub hl [0, 1, 2, 3] rfl) hP hS
              · have hf := ifT hb34 hf
                refine lv_iload hx hb dX9_says_88 (lv_at hl 3 rfl) ?_
                refine lv_iconst (v := 5) hx hb dX9_says_90 (by decide) ?_
                refine lv_icmp_eq (tgt := 106) hx hb dX9_says_91 (by decide) (fun hb35 => ?_) (fun hb35 => ?_)
                · have hf := ifT hb35 hf
                  exact hJ106  hf _ _ _ (lv_sub hl [0, 1, 2, 3] rfl) hP hS
                · have hf := ifF hb35 hf
                  exact hJ94  hf _ _ _ (lv_sub hl [0, 1, 2, 3] rfl) hP hS
            refine lv_icmp_ne (tgt := 83) hx hb dX9_says_74 (by decide) (fun hb36 => ?_) (fun hb36 => ?_)
            · have hf := ifF hb36 hf
              exact hJ83  hf _ _ _ (lv_sub hl [2, 4, 1, 0] rfl) hP hS
            · have hf := ifT hb36 hf
              refine lv_iload hx hb dX9_says_77 (lv_at hl 0 rfl) ?_
              refine lv_iconst (v := 3) hx hb dX9_says_79 (by decide) ?_
              refine lv_icmp_eq (tgt := 106) hx hb dX9_says_80 (by decide) (fun hb37 => ?_) (fun hb37 => ?_)
              · have hf := ifT hb37 hf
                exact hJ106  hf _ _ _ (lv_sub hl [2, 4, 1, 0] rfl) hP hS
              · have hf := ifF hb37 hf
                exact hJ83  hf _ _ _ (lv_sub hl [2, 4, 1, 0] rfl) hP hS
          · have hf := ifT hb9 hf
            refine lv_aload_n hx hb dX9_says_50 rfl (lv_at hl 0 rfl) ?_
            refine lv_bipush (v := (-3)) hx hb dX9_says_51 (by decide) ?_
            obtain ⟨u39, hzu39, hf⟩ := obd_some hf
            refine zz_callVi (rest := []) hx hb hml C hP hS (c_X9_no l hDA (-3) hzu39) zw_X9_107 ⟨Nat.le_trans (Nat.le_of_ble_eq_true rfl) hRf, Nat.le_trans (Nat.le_of_ble_eq_true rfl) hRl⟩ (by decide) lay_81 rfl rfl hl.1 (Nat.le_of_ble_eq_true rfl) ⟨Nat.zero_le _, Nat.zero_le _⟩ rfl dX9_says_53 (fun H locs hP hS => ?_)
            have hf := Option.some.inj hf
            subst hf
            exact hQ _ _ _ _ dX9_says_56 hP hS
        · have hf := ifT hb7 hf
          refine lv_aload_n hx hb dX9_says_34 rfl (lv_at hl 0 rfl) ?_
          refine lv_bipush (v := (-2)) hx hb dX9_says_35 (by decide) ?_
          obtain ⟨u40, hzu40, hf⟩ := obd_some hf
          refine zz_callVi (rest := []) hx hb hml C hP hS (c_X9_no l hDA (-2) hzu40) zw_X9_107 ⟨Nat.le_trans (Nat.le_of_ble_eq_true rfl) hRf, Nat.le_trans (Nat.le_of_ble_eq_true rfl) hRl⟩ (by decide) lay_81 rfl rfl hl.1 (Nat.le_of_ble_eq_true rfl) ⟨Nat.zero_le _, Nat.zero_le _⟩ rfl dX9_says_37 (fun H locs hP hS => ?_)
          have hf := Option.some.inj hf
          subst hf
          exact hQ _ _ _ _ dX9_says_40 hP hS
      · have hf := ifF hb5 hf
        refine lv_aload_n hx hb dX9_says_18 rfl (lv_at hl 0 rfl) ?_
        refine lv_iconst (v := (-1)) hx hb dX9_says_19 (by decide) ?_
        obtain ⟨u41, hzu41, hf⟩ := obd_some hf
        refine zz_callVi (rest := []) hx hb hml C hP hS (c_X9_no l hDA (-1) hzu41) zw_X9_107 ⟨Nat.le_trans (Nat.le_of_ble_eq_true rfl) hRf, Nat.le_trans (Nat.le_of_ble_eq_true rfl) hRl⟩ (by decide) lay_81 rfl rfl hl.1 (Nat.le_of_ble_eq_true rfl) ⟨Nat.zero_le _, Nat.zero_le _⟩ rfl dX9_says_20 (fun H locs hP hS => ?_)
        have hf := Option.some.inj hf
        subst hf
        exact hQ _ _ _ _ dX9_says_23 hP hS
set_option maxHeartbeats 4000000 in
set_option maxRecDepth 100000 in
theorem c_X9_wanted (l : Launch) {D : va_G} {a : Nat → Nat} {cA : Nat → ClassId} {A : Nat → Prop} {sa : Nat → Nat} (hDA : DA a A) {σ : PH} {d : PD} (p1 : Int32) {u : Int32} (hf : f_X9_wanted σ p1 = some u) : CTi l yX9_wanted cX9_wanted 2 (some .int) 1 21 D a cA A sa [.ref (a 81), .int p1] σ d u σ d := by
  refine zz_metI zpl_X9 hDA (Nat.le_of_ble_eq_true rfl) ?_
  intro p e R s m args below meth c Q ls hx hb hml C hRf hRl hQ hP hS hl
  have hl : lv_has ls 2 [(0, .ref (a 81)), (1, .int p1)] := hl
  unfold f_X9_wanted at hf
  refine lv_aload_n hx hb dX9_wanted_0 rfl (lv_at hl 0 rfl) ?_
  refine lv_iload_n hx hb dX9_wanted_1 rfl (lv_at hl 1 rfl) ?_
  obtain ⟨u1, hzu1⟩ : ∃ z, z = f_X9_isShelf p1 := ⟨_, rfl⟩
  have hf := bnd_at u1 hzu1 hf
  refine zz_callVi (rest := []) hx hb hml C hP hS (c_X9_isShelf l hDA p1 hzu1.symm) zw_X9_103 ⟨Nat.le_trans (Nat.le_of_ble_eq_true rfl) hRf, Nat.le_trans (Nat.le_of_ble_eq_true rfl) hRl⟩ (by decide) lay_81 rfl rfl hl.1 (Nat.le_of_ble_eq_true rfl) ⟨Nat.zero_le _, Nat.zero_le _⟩ rfl dX9_wanted_2 (fun H locs hP hS => ?_)
  refine lv_if_ne (tgt := 12) hx hb dX9_wanted_5 (by decide) (fun hb1 => ?_) (fun hb1 => ?_)
  · have hf := ifF hb1 hf
    refine lv_aload_n hx hb dX9_wanted_12 rfl (lv_at hl 0 rfl) ?_
    refine zg_X9_44 hx hb C hP (by decide) lay_81 rfl dX9_wanted_13 ?_
    refine lv_iload_n hx hb dX9_wanted_16 rfl (lv_at hl 1 rfl) ?_
    obtain ⟨hc2, hf⟩ := chk_some hf
    refine zz_iald hx hb C hP (by decide) lay_89 (inb_vp hc2) dX9_wanted_17 ?_
    refine lv_iconst (v := 2) hx hb dX9_wanted_18 (by decide) ?_
    refine lv_icmp_ne (tgt := 27) hx hb dX9_wanted_19 (by decide) (fun hb3 => ?_) (fun hb3 => ?_)
    · have hf := ifF hb3 hf
      refine lv_aload_n hx hb dX9_wanted_27 rfl (lv_at hl 0 rfl) ?_
      refine zg_X9_44 hx hb C hP (by decide) lay_81 rfl dX9_wanted_28 ?_
      refine lv_iload_n hx hb dX9_wanted_31 rfl (lv_at hl 1 rfl) ?_
      obtain ⟨hc4, hf⟩ := chk_some hf
      refine zz_iald hx hb C hP (by decide) lay_89 (inb_vp hc4) dX9_wanted_32 ?_
      refine lv_if_ne (tgt := 41) hx hb dX9_wanted_33 (by decide) (fun hb5 => ?_) (fun hb5 => ?_)
      · have hf := ifF hb5 hf
        refine lv_iconst (v := 0) hx hb dX9_wanted_41 (by decide) ?_
        have hf := Option.some.inj hf
        subst hf
        exact hQ _ _ _ _ dX9_wanted_42 hP hS
      · have hf := ifT hb5 hf
        refine lv_bipush (v := (-3)) hx hb dX9_wanted_36 (by decide) ?_
        refine lv_goto (tgt := 42) hx hb dX9_wanted_38 (by decide) ?_
        have hf := Option.some.inj hf
        subst hf
        exact hQ _ _ _ _ dX9_wanted_42 hP hS
    · have hf := ifT hb3 hf
      refine lv_bipush (v := (-2)) hx hb dX9_wanted_22 (by decide) ?_
      refine lv_goto (tgt := 42) hx hb dX9_wanted_24 (by decide) ?_
      have hf := Option.some.inj hf
      subst hf
      exact hQ _ _ _ _ dX9_wanted_42 hP hS
  · have hf := ifT hb1 hf
    refine lv_iconst (v := (-1)) hx hb dX9_wanted_8 (by decide) ?_
    refine lv_goto (tgt := 42) hx hb dX9_wanted_9 (by decide) ?_
    have hf := Option.some.inj hf
    subst hf
    exact hQ _ _ _ _ dX9_wanted_42 hP hS
set_option maxHeartbeats 4000000 in
set_option maxRecDepth 100000 in
theorem c_X9_intAt (l : Launch) {D : va_G} {a : Nat → Nat} {cA : Nat → ClassId} {A : Nat → Prop} {sa : Nat → Nat} (hDA : DA a A) {σ : PH} {d : PD} (p1 : Int32) (p2 : Int32) {u : Int32} (hf : f_X9_intAt σ p1 p2 = some u) : CTi l yX9_intAt cX9_intAt 3 (some .int) 0 0 D a cA A sa [.ref (a 81), .int p1, .int p2] σ d u σ d := by
  refine zz_metI zpl_X9 hDA (Nat.le_of_ble_eq_true rfl) ?_
  intro p e R s m args below meth c Q ls hx hb hml C hRf hRl hQ hP hS hl
  have hl : lv_has ls 3 [(0, .ref (a 81)), (1, .int p1), (2, .int p2)] := hl
  unfold f_X9_intAt at hf
  refine lv_aload_n hx hb dX9_intAt_0 rfl (lv_at hl 0 rfl) ?_
  refine zg_X9_56 hx hb C hP (by decide) lay_81 rfl dX9_intAt_1 ?_
  refine lv_sipush (v := 160) hx hb dX9_intAt_4 (by decide) ?_
  refine lv_iload_n hx hb dX9_intAt_7 rfl (lv_at hl 1 rfl) ?_
  refine lv_imul hx hb dX9_intAt_8 ?_
  refine lv_iload_n hx hb dX9_intAt_9 rfl (lv_at hl 2 rfl) ?_
  refine lv_iadd hx hb dX9_intAt_10 ?_
  obtain ⟨hc0, hf⟩ := chk_some hf
  refine zz_lald hx hb C hP (by decide) lay_93 (inb_vp hc0) dX9_intAt_11 ?_
  refine lv_l2i (v := (gJ σ 93 ((160 * p1) + p2).toNatClampNeg).toInt32) hx hb dX9_intAt_12 rfl ?_
  have hf := Option.some.inj hf
  subst hf
  exact hQ _ _ _ _ dX9_intAt_13 hP hS
set_option maxHeartbeats 4000000 in
set_option maxRecDepth 100000 in
theorem c_X9_bars (l : Launch) {D : va_G} {a : Nat → Nat} {cA : Nat → ClassId} {A : Nat → Prop} {sa : Nat → Nat} (hDA : DA a A) {σ : PH} {d : PD} (p1 : Int32) (p2 : Int32) {u : Int32} (hf : f_X9_bars σ p1 p2 = some u) : CTi l yX9_bars cX9_bars 4 (some .int) 2 42 D a cA A sa [.ref (a 81), .int p1, .int p2] σ d u σ d := by
  refine zz_metI zpl_X9 hDA (Nat.le_of_ble_eq_true rfl) ?_
  intro p e R s m args below meth c Q ls hx hb hml C hRf hRl hQ hP hS hl
  have hl : lv_has ls 4 [(0, .ref (a 81)), (1, .int p1), (2, .int p2)] := hl
  unfold f_X9_bars at hf
  refine lv_aload_n hx hb dX9_bars_0 rfl (lv_at hl 0 rfl) ?_
  refine lv_iload_n hx hb dX9_bars_1 rfl (lv_at hl 1 rfl) ?_
  obtain ⟨u1, hzu1, hf⟩ := obd_some hf
  refine zz_callVi (rest := []) hx hb hml C hP hS (c_X9_wanted l hDA p1 hzu1) zw_X9_117 ⟨Nat.le_trans (Nat.le_of_ble_eq_true rfl) hRf, Nat.le_trans (Nat.le_of_ble_eq_true rfl) hRl⟩ (by decide) lay_81 rfl rfl hl.1 (Nat.le_of_ble_eq_true rfl) ⟨Nat.zero_le _, Nat.zero_le _⟩ rfl dX9_bars_2 (fun H locs hP hS => ?_)
  refine lv_istore_n (lv' := [(3, .int u1), (0, .ref (a 81)), (1, .int p1), (2, .int p2)]) hx hb dX9_bars_5 rfl hl (by decide) rfl (fun ls hl => ?_)
  refine lv_iload_n hx hb dX9_bars_6 rfl (lv_at hl 0 rfl) ?_
  refine lv_if_eq (tgt := 12) hx hb dX9_bars_7 (by decide) (fun hb1 => ?_) (fun hb1 => ?_)
  · have hf := ifT hb1 hf
    refine lv_iload_n hx hb dX9_bars_12 rfl (lv_at hl 3 rfl) ?_
    refine lv_if_ge (tgt := 21) hx hb dX9_bars_13 (by decide) (fun hb2 => ?_) (fun hb2 => ?_)
    · have hf := ifT hb2 hf
      refine lv_iload_n hx hb dX9_bars_21 rfl (lv_at hl 3 rfl) ?_
      refine lv_aload_n hx hb dX9_bars_22 rfl (lv_at hl 1 rfl) ?_
      refine zg_X9_50 hx hb C hP (by decide) lay_81 rfl dX9_bars_23 ?_
      refine lv_iload_n hx hb dX9_bars_26 rfl (lv_at hl 2 rfl) ?_
      obtain ⟨hc3, hf⟩ := chk_some hf
      refine zz_iald hx hb C hP (by decide) lay_91 (inb_vp hc3) dX9_bars_27 ?_
      refine lv_icmp_le (tgt := 36) hx hb dX9_bars_28 (by decide) (fun hb4 => ?_) (fun hb4 => ?_)
      · have hf := ifT hb4 hf
        refine lv_iconst (v := 0) hx hb dX9_bars_36 (by decide) ?_
        have hf := Option.some.inj hf
        subst hf
        exact hQ _ _ _ _ dX9_bars_37 hP hS
      · have hf := ifF hb4 hf
        refine lv_bipush (v := (-5)) hx hb dX9_bars_31 (by decide) ?_
        refine lv_goto (tgt := 37) hx hb dX9_bars_33 (by decide) ?_
        have hf := Option.some.inj hf
        subst hf
        exact hQ _ _ _ _ dX9_bars_37 hP hS
    · have hf := ifF hb2 hf
      refine lv_bipush (v := (-4)) hx hb dX9_bars_16 (by decide) ?_
      refine lv_goto (tgt := 37) hx hb dX9_bars_18 (by decide) ?_
      have hf := Option.some.inj hf
      subst hf
      exact hQ _ _ _ _ dX9_bars_37 hP hS
  · have hf := ifF hb1 hf
    refine lv_iload_n hx hb dX9_bars_10 rfl (lv_at hl 0 rfl) ?_
    have hf := Option.some.inj hf
    subst hf
    exact hQ _ _ _ _ dX9_bars_11 hP hS
set_option maxHeartbeats 4000000 in
set_option maxRecDepth 100000 in
theorem c_X9_anew (l : Launch) {D : va_G} {a : Nat → Nat} {cA : Nat → ClassId} {A : Nat → Prop} {sa : Nat → Nat} (hDA : DA a A) {σ : PH} {d : PD}  {u : PH} (hf : f_X9_anew σ = u) : CTv l yX9_anew cX9_anew 1 none 0 0 D a cA A sa [.ref (a 81)] σ d u d := by
  refine zz_metV zpl_X9 hDA (Nat.le_of_ble_eq_true rfl) ?_
  intro p e R s m args below meth c Q ls hx hb hml C hRf hRl hQ hP hS hl
  have hl : lv_has ls 1 [(0, .ref (a 81))] := hl
  unfold f_X9_anew at hf
  refine lv_aload_n hx hb dX9_anew_0 rfl (lv_at hl 0 rfl) ?_
  refine lv_aload_n hx hb dX9_anew_1 rfl (lv_at hl 0 rfl) ?_
  refine zg_X9_96 hx hb C hP (by decide) lay_81 rfl dX9_anew_2 ?_
  refine lv_if_ne (tgt := 12) hx hb dX9_anew_5 (by decide) (fun hb0 => ?_) (fun hb0 => ?_)
  · have hf := ifF hb0 hf
    refine lv_iconst (v := 1) hx hb dX9_anew_12 (by decide) ?_
    refine zp_X9_120 hx hb C hP hS (by decide) lay_81 rfl dX9_anew_13 (fun σ2 eσ2 H locs hP hS => ?_)
    have hf := bnd_at σ2 eσ2 hf
    refine lv_aload_n hx hb dX9_anew_16 rfl (lv_at hl 0 rfl) ?_
    refine lv_iconst (v := 0) hx hb dX9_anew_17 (by decide) ?_
    refine zp_X9_123 hx hb C hP hS (by decide) lay_81 rfl dX9_anew_18 (fun σ3 eσ3 H locs hP hS => ?_)
    have hf := bnd_at σ3 eσ3 hf
    subst hf
    exact hQ _ _ _ _ dX9_anew_21 hP hS
  · have hf := ifT hb0 hf
    refine lv_iconst (v := 0) hx hb dX9_anew_8 (by decide) ?_
    refine lv_goto (tgt := 13) hx hb dX9_anew_9 (by decide) ?_
    refine zp_X9_120 hx hb C hP hS (by decide) lay_81 rfl dX9_anew_13 (fun σ4 eσ4 H locs hP hS => ?_)
    have hf := bnd_at σ4 eσ4 hf
    refine lv_aload_n hx hb dX9_anew_16 rfl (lv_at hl 0 rfl) ?_
    refine lv_iconst (v := 0) hx hb dX9_anew_17 (by decide) ?_
    refine zp_X9_123 hx hb C hP hS (by decide) lay_81 rfl dX9_anew_18 (fun σ5 eσ5 H locs hP hS => ?_)
    have hf := bnd_at σ5 eσ5 hf
    subst hf
    exact hQ _ _ _ _ dX9_anew_21 hP hS
set_option maxHeartbeats 4000000 in
set_option maxRecDepth 100000 in
theorem c_X9_adds (l : Launch) {D : va_G} {a : Nat → Nat} {cA : Nat → ClassId} {A : Nat → Prop} {sa : Nat → Nat} (hDA : DA a A) {σ : PH} {d : PD} (p1 : Int32) (p2 : Int32) (p3 : Int32) {u : Int32 × PH} (hf : f_X9_adds σ p1 p2 p3 = some u) : CTi l yX9_adds cX9_adds 4 (some .int) 1 20 D a cA A sa [.ref (a 81), .int p1, .int p2, .int p3] σ d u.1 u.2 d := by
  refine zz_metI zpl_X9 hDA (Nat.le_of_ble_eq_true rfl) ?_
  intro p e R s m args below meth c Q ls hx hb hml C hRf hRl hQ hP hS hl
  have hl : lv_has ls 4 [(0, .ref (a 81)), (1, .int p1), (2, .int p2), (3, .int p3)] := hl
  unfold f_X9_adds at hf
  refine lv_aload_n hx hb dX9_adds_0 rfl (lv_at hl 0 rfl) ?_
  refine zg_X9_26 hx hb C hP (by decide) lay_81 rfl dX9_adds_1 ?_
  refine lv_aload_n hx hb dX9_adds_4 rfl (lv_at hl 0 rfl) ?_
  refine zg_X9_96 hx hb C hP (by decide) lay_81 rfl dX9_adds_5 ?_
  refine lv_iload_n hx hb dX9_adds_8 rfl (lv_at hl 1 rfl) ?_
  obtain ⟨hc0, hf⟩ := chk_some hf
  refine zz_iast hx hb C hP hS (by decide) lay_83 (inb_vp hc0) dX9_adds_9 (fun σ2 eσ2 H locs hP hS => ?_)
  have hf := bnd_at σ2 eσ2 hf
  refine lv_aload_n hx hb dX9_adds_10 rfl (lv_at hl 0 rfl) ?_
  refine zg_X9_29 hx hb C hP (by decide) lay_81 rfl dX9_adds_11 ?_
  refine lv_aload_n hx hb dX9_adds_14 rfl (lv_at hl 0 rfl) ?_
  refine zg_X9_96 hx hb C hP (by decide) lay_81 rfl dX9_adds_15 ?_
  refine lv_iload_n hx hb dX9_adds_18 rfl (lv_at hl 2 rfl) ?_
  obtain ⟨hc2, hf⟩ := chk_some hf
  refine zz_iast hx hb C hP hS (by decide) lay_84 (inb_vp hc2) dX9_adds_19 (fun σ4 eσ4 H locs hP hS => ?_)
  have hf := bnd_at σ4 eσ4 hf
  refine lv_aload_n hx hb dX9_adds_20 rfl (lv_at hl 0 rfl) ?_
  refine zg_X9_32 hx hb C hP (by decide) lay_81 rfl dX9_adds_21 ?_
  refine lv_aload_n hx hb dX9_adds_24 rfl (lv_at hl 0 rfl) ?_
  refine zg_X9_96 hx hb C hP (by decide) lay_81 rfl dX9_adds_25 ?_
  refine lv_iload_n hx hb dX9_adds_28 rfl (lv_at hl 3 rfl) ?_
  obtain ⟨hc4, hf⟩ := chk_some hf
  refine zz_iast hx hb C hP hS (by decide) lay_85 (inb_vp hc4) dX9_adds_29 (fun σ6 eσ6 H locs hP hS => ?_)
  have hf := bnd_at σ6 eσ6 hf
  refine lv_aload_n hx hb dX9_adds_30 rfl (lv_at hl 0 rfl) ?_
  refine zg_X9_35 hx hb C hP (by decide) lay_81 rfl dX9_adds_31 ?_
  refine lv_aload_n hx hb dX9_adds_34 rfl (lv_at hl 0 rfl) ?_
  refine zg_X9_96 hx hb C hP (by decide) lay_81 rfl dX9_adds_35 ?_
  refine lv_aload_n hx hb dX9_adds_38 rfl (lv_at hl 0 rfl) ?_
  refine zg_X9_96 hx hb C hP (by decide) lay_81 rfl dX9_adds_39 ?_
  obtain ⟨hc6, hf⟩ := chk_some hf
  refine zz_iast hx hb C hP hS (by decide) lay_86 (inb_vp hc6) dX9_adds_42 (fun σ8 eσ8 H locs hP hS => ?_)
  have hf := bnd_at σ8 eσ8 hf
  refine lv_aload_n hx hb dX9_adds_43 rfl (lv_at hl 0 rfl) ?_
  refine lv_dup hx hb dX9_adds_44 rfl ?_
  refine zg_X9_96 hx hb C hP (by decide) lay_81 rfl dX9_adds_45 ?_
  refine lv_iconst (v := 1) hx hb dX9_adds_48 (by decide) ?_
  refine lv_iadd hx hb dX9_adds_49 ?_
  refine zp_X9_96 hx hb C hP hS (by decide) lay_81 rfl dX9_adds_50 (fun σ9 eσ9 H locs hP hS => ?_)
  have hf := bnd_at σ9 eσ9 hf
  refine lv_aload_n hx hb dX9_adds_53 rfl (lv_at hl 0 rfl) ?_
  obtain ⟨u10, hzu10⟩ : ∃ z, z = f_X9_anew σ9 := ⟨_, rfl⟩
  have hf := bnd_at u10 hzu10 hf
  refine zz_callVv (rest := []) hx hb hml C hP hS (c_X9_anew l hDA  hzu10.symm) zw_X9_126 ⟨Nat.le_trans (Nat.le_of_ble_eq_true rfl) hRf, Nat.le_trans (Nat.le_of_ble_eq_true rfl) hRl⟩ (by decide) lay_81 rfl rfl hl.1 (Nat.le_of_ble_eq_true rfl) ⟨Nat.zero_le _, Nat.zero_le _⟩ rfl dX9_adds_54 (fun H locs hP hS => ?_)
  refine lv_aload_n hx hb dX9_adds_57 rfl (lv_at hl 0 rfl) ?_
  refine zg_X9_96 hx hb C hP (by decide) lay_81 rfl dX9_adds_58 ?_
  refine lv_iconst (v := 1) hx hb dX9_adds_61 (by decide) ?_
  refine lv_isub hx hb dX9_adds_62 ?_
  have hf := Option.some.inj hf
  subst hf
  exact hQ _ _ _ _ dX9_adds_63 hP hS
set_option maxHeartbeats 4000000 in
set_option maxRecDepth 100000 in
theorem c_X9_singer (l : Launch) {D : va_G} {a : Nat → Nat} {cA : Nat → ClassId} {A : Nat → Prop} {sa : Nat → Nat} (hDA : DA a A) {σ : PH} {d : PD} (p1 : Int32) (p2 : Int32) (p3 : Int32) {u : Int32 × PH} (hf : f_X9_singer σ p1 p2 p3 = some u) : CTi l yX9_singer cX9_singer 4 (some .int) 2 43 D a cA A sa [.ref (a 81), .int p1, .int p2, .int p3] σ d u.1 u.2 d := by
  refine zz_metI zpl_X9 hDA (Nat.le_of_ble_eq_true rfl) ?_
  intro p e R s m args below meth c Q ls hx hb hml C hRf hRl hQ hP hS hl
  have hl : lv_has ls 4 [(0, .ref (a 81)), (1, .int p1), (2, .int p2), (3, .int p3)] := hl
  unfold f_X9_singer at hf
  refine lv_iload_n hx hb dX9_singer_0 rfl (lv_at hl 1 rfl) ?_
  refine lv_if_lt (tgt := 10) hx hb dX9_singer_1 (by decide) (fun hb0 => ?_) (fun hb0 => ?_)
  · have hf := ifT hb0 hf
    refine lv_aload_n hx hb dX9_singer_10 rfl (lv_at hl 0 rfl) ?_
    refine lv_iconst (v := (-1)) hx hb dX9_singer_11 (by decide) ?_
    obtain ⟨u2, hzu2, hf⟩ := obd_some hf
    refine zz_callVi (rest := []) hx hb hml C hP hS (c_X9_no l hDA (-1) hzu2) zw_X9_107 ⟨Nat.le_trans (Nat.le_of_ble_eq_true rfl) hRf, Nat.le_trans (Nat.le_of_ble_eq_true rfl) hRl⟩ (by decide) lay_81 rfl rfl hl.1 (Nat.le_of_ble_eq_true rfl) ⟨Nat.zero_le _, Nat.zero_le _⟩ rfl dX9_singer_12 (fun H locs hP hS => ?_)
    have hf := Option.some.inj hf
    subst hf
    exact hQ _ _ _ _ dX9_singer_15 hP hS
  · have hf := ifF hb0 hf
    refine lv_iload_n hx hb dX9_singer_4 rfl (lv_at hl 1 rfl) ?_
    refine lv_bipush (v := 6) hx hb dX9_singer_5 (by decide) ?_
    refine lv_icmp_le (tgt := 16) hx hb dX9_singer_7 (by decide) (fun hb2 => ?_) (fun hb2 => ?_)
    · have hf := ifT hb2 hf
      refine lv_iload_n hx hb dX9_singer_16 rfl (lv_at hl 2 rfl) ?_
      refine lv_if_lt (tgt := 37) hx hb dX9_singer_17 (by decide) (fun hb3 => ?_) (fun hb3 => ?_)
      · have hf := ifT hb3 hf
        refine lv_aload_n hx hb dX9_singer_37 rfl (lv_at hl 0 rfl) ?_
        refine lv_bipush (v := (-6)) hx hb dX9_singer_38 (by decide) ?_
        obtain ⟨u5, hzu5, hf⟩ := obd_some hf
        refine zz_callVi (rest := []) hx hb hml C hP hS (c_X9_no l hDA (-6) hzu5) zw_X9_107 ⟨Nat.le_trans (Nat.le_of_ble_eq_true rfl) hRf, Nat.le_trans (Nat.le_of_ble_eq_true rfl) hRl⟩ (by decide) lay_81 rfl rfl hl.1 (Nat.le_of_ble_eq_true rfl) ⟨Nat.zero_le _, Nat.zero_le _⟩ rfl dX9_singer_40 (fun H locs hP hS => ?_)
        have hf := Option.some.inj hf
        subst hf
        exact hQ _ _ _ _ dX9_singer_43 hP hS
      · have hf := ifF hb3 hf
        refine lv_iload_n hx hb dX9_singer_20 rfl (lv_at hl 2 rfl) ?_
        refine lv_bipush (v := 9) hx hb dX9_singer_21 (by decide) ?_
        refine lv_icmp_gt (tgt := 37) hx hb dX9_singer_23 (by decide) (fun hb5 => ?_) (fun hb5 => ?_)
        · have hf := ifT hb5 hf
          refine lv_aload_n hx hb dX9_singer_37 rfl (lv_at hl 0 rfl) ?_
          refine lv_bipush (v := (-6)) hx hb dX9_singer_38 (by decide) ?_
          obtain ⟨u7, hzu7, hf⟩ := obd_some hf
          refine zz_callVi (rest := []) hx hb hml C hP hS (c_X9_no l hDA (-6) hzu7) zw_X9_107 ⟨Nat.le_trans (Nat.le_of_ble_eq_true rfl) hRf, Nat.le_trans (Nat.le_of_ble_eq_true rfl) hRl⟩ (by decide) lay_81 rfl rfl hl.1 (Nat.le_of_ble_eq_true rfl) ⟨Nat.zero_le _, Nat.zero_le _⟩ rfl dX9_singer_40 (fun H locs hP hS => ?_)
          have hf := Option.some.inj hf
          subst hf
          exact hQ _ _ _ _ dX9_singer_43 hP hS
        · have hf := ifF hb5 hf
          refine lv_iload_n hx hb dX9_singer_26 rfl (lv_at hl 3 rfl) ?_
          refine lv_iconst (v := 1) hx hb dX9_singer_27 (by decide) ?_
          refine lv_icmp_lt (tgt := 37) hx hb dX9_singer_28 (by decide) (fun hb7 => ?_) (fun hb7 => ?_)
          · have hf := ifT hb7 hf
            refine lv_aload_n hx hb dX9_singer_37 rfl (lv_at hl 0 rfl) ?_
            refine lv_bipush (v := (-6)) hx hb dX9_singer_38 (by decide) ?_
            obtain ⟨u9, hzu9, hf⟩ := obd_some hf
            refine zz_callVi (rest := []) hx hb hml C hP hS (c_X9_no l hDA (-6) hzu9) zw_X9_107 ⟨Nat.le_trans (Nat.le_of_ble_eq_true rfl) hRf, Nat.le_trans (Nat.le_of_ble_eq_true rfl) hRl⟩ (by decide) lay_81 rfl rfl hl.1 (Nat.le_of_ble_eq_true rfl) ⟨Nat.zero_le _, Nat.zero_le _⟩ rfl dX9_singer_40 (fun H locs hP hS => ?_)
            have hf := Option.some.inj hf
            subst hf
            exact hQ _ _ _ _ dX9_singer_43 hP hS
          · have hf := ifF hb7 hf
            refine lv_iload_n hx hb dX9_singer_31 rfl (lv_at hl 3 rfl) ?_
            refine lv_bipush (v := 9) hx hb dX9_singer_32 (by decide) ?_
            refine lv_icmp_le (tgt := 44) hx hb dX9_singer_34 (by decide) (fun hb9 => ?_) (fun hb9 => ?_)
            · have hf := ifT hb9 hf
              refine lv_aload_n hx hb dX9_singer_44 rfl (lv_at hl 0 rfl) ?_
              refine zg_X9_96 hx hb C hP (by decide) lay_81 rfl dX9_singer_45 ?_
              refine lv_bipush (v := 8) hx hb dX9_singer_48 (by decide) ?_
              refine lv_icmp_ne (tgt := 62) hx hb dX9_singer_50 (by decide) (fun hb10 => ?_) (fun hb10 => ?_)
              · have hf := ifF hb10 hf
                refine lv_aload_n hx hb dX9_singer_62 rfl (lv_at hl 0 rfl) ?_
                refine lv_iload_n hx hb dX9_singer_63 rfl (lv_at hl 1 rfl) ?_
                refine lv_iload_n hx hb dX9_singer_64 rfl (lv_at hl 2 rfl) ?_
                refine lv_iload_n hx hb dX9_singer_65 rfl (lv_at hl 3 rfl) ?_
                obtain ⟨u12, hzu12, hf⟩ := obd_some hf
                refine zz_callVi (rest := []) hx hb hml C hP hS (c_X9_adds l hDA p1 p2 p3 hzu12) zw_X9_129 ⟨Nat.le_trans (Nat.le_of_ble_eq_true rfl) hRf, Nat.le_trans (Nat.le_of_ble_eq_true rfl) hRl⟩ (by decide) lay_81 rfl rfl hl.1 (Nat.le_of_ble_eq_true rfl) ⟨Nat.zero_le _, Nat.zero_le _⟩ rfl dX9_singer_66 (fun H locs hP hS => ?_)
                have hf := Option.some.inj hf
                subst hf
                exact hQ _ _ _ _ dX9_singer_69 hP hS
              · have hf := ifT hb10 hf
                refine lv_aload_n hx hb dX9_singer_53 rfl (lv_at hl 0 rfl) ?_
                refine lv_bipush (v := (-7)) hx hb dX9_singer_54 (by decide) ?_
                obtain ⟨u13, hzu13, hf⟩ := obd_some hf
                refine zz_callVi (rest := []) hx hb hml C hP hS (c_X9_no l hDA (-7) hzu13) zw_X9_107 ⟨Nat.le_trans (Nat.le_of_ble_eq_true rfl) hRf, Nat.le_trans (Nat.le_of_ble_eq_true rfl) hRl⟩ (by decide) lay_81 rfl rfl hl.1 (Nat.le_of_ble_eq_true rfl) ⟨Nat.zero_le _, Nat.zero_le _⟩ rfl dX9_singer_56 (fun H locs hP hS => ?_)
                refine lv_goto (tgt := 69) hx hb dX9_singer_59 (by decide) ?_
                have hf := Option.some.inj hf
                subst hf
                exact hQ _ _ _ _ dX9_singer_69 hP hS
            · have hf := ifF hb9 hf
              refine lv_aload_n hx hb dX9_singer_37 rfl (lv_at hl 0 rfl) ?_
              refine lv_bipush (v := (-6)) hx hb dX9_singer_38 (by decide) ?_
              obtain ⟨u14, hzu14, hf⟩ := obd_some hf
              refine zz_callVi (rest := []) hx hb hml C hP hS (c_X9_no l hDA (-6) hzu14) zw_X9_107 ⟨Nat.le_trans (Nat.le_of_ble_eq_true rfl) hRf, Nat.le_trans (Nat.le_of_ble_eq_true rfl) hRl⟩ (by decide) lay_81 rfl rfl hl.1 (Nat.le_of_ble_eq_true rfl) ⟨Nat.zero_le _, Nat.zero_le _⟩ rfl dX9_singer_40 (fun H locs hP hS => ?_)
              have hf := Option.some.inj hf
              subst hf
              exact hQ _ _ _ _ dX9_singer_43 hP hS
    · have hf := ifF hb2 hf
      refine lv_aload_n hx hb dX9_singer_10 rfl (lv_at hl 0 rfl) ?_
      refine lv_iconst (v := (-1)) hx hb dX9_singer_11 (by decide) ?_
      obtain ⟨u15, hzu15, hf⟩ := obd_some hf
      refine zz_callVi (rest := []) hx hb hml C hP hS (c_X9_no l hDA (-1) hzu15) zw_X9_107 ⟨Nat.le_trans (Nat.le_of_ble_eq_true rfl) hRf, Nat.le_trans (Nat.le_of_ble_eq_true rfl) hRl⟩ (by decide) lay_81 rfl rfl hl.1 (Nat.le_of_ble_eq_true rfl) ⟨Nat.zero_le _, Nat.zero_le _⟩ rfl dX9_singer_12 (fun H locs hP hS => ?_)
      have hf := Option.some.inj hf
      subst hf
      exact hQ _ _ _ _ dX9_singer_15 hP hS
set_option maxHeartbeats 4000000 in
set_option maxRecDepth 100000 in
theorem c_X9_lists (l : Launch) {D : va_G} {a : Nat → Nat} {cA : Nat → ClassId} {A : Nat → Prop} {sa : Nat → Nat} (hDA : DA a A) {σ : PH} {d : PD}  {u : Int32 × PH} (hf : f_X9_lists σ = some u) : CTi l yX9_lists cX9_lists 3 (some .int) 1 23 D a cA A sa [.ref (a 81)] σ d u.1 u.2 d := by
  refine zz_metI zpl_X9 hDA (Nat.le_of_ble_eq_true rfl) ?_
  intro p e R s m args below meth c Q ls hx hb hml C hRf hRl hQ hP hS hl
  have hl : lv_has ls 3 [(0, .ref (a 81))] := hl
  unfold f_X9_lists at hf
  refine lv_aload_n hx hb dX9_lists_0 rfl (lv_at hl 0 rfl) ?_
  refine lv_iconst (v := 0) hx hb dX9_lists_1 (by decide) ?_
  refine zp_X9_227 hx hb C hP hS (by decide) lay_81 rfl dX9_lists_2 (fun σ1 eσ1 H locs hP hS => ?_)
  have hf := bnd_at σ1 eσ1 hf
  refine lv_iconst (v := 1) hx hb dX9_lists_5 (by decide) ?_
  refine lv_istore_n (lv' := [(1, .int 1), (0, .ref (a 81))]) hx hb dX9_lists_6 rfl hl (by decide) rfl (fun ls hl => ?_)
  refine loopN_ind (P := fun (q2 : Int32 × PH) => ∀ (H : Heap) (locs : List Loc) (ls : Array Slot), lv_has ls 3 [(0, .ref (a 81)), (1, .int q2.1)] → va_P D vwCl (wl a cA q2.2 d) H → va_S A s.heap H locs → W p l e R s m args below meth c H locs 0 0 Q (F0 m 7 ls [])) ?_ _ _ hf _ _ _ (lv_sub hl [1, 0] rfl) hP hS
  intro k3 ihk3 q2 hf H locs ls hl hP hS
  unfold b_X9_lists_7 at hf
  refine lv_iload_n hx hb dX9_lists_7 rfl (lv_at hl 1 rfl) ?_
  refine lv_aload_n hx hb dX9_lists_8 rfl (lv_at hl 0 rfl) ?_
  refine zg_X9_7 hx hb C hP (by decide) lay_81 rfl dX9_lists_9 ?_
  refine lv_icmp_gt (tgt := 69) hx hb dX9_lists_12 (by decide) (fun hb3 => ?_) (fun hb3 => ?_)
  · have hf := ifT hb3 hf
    refine lv_aload_n hx hb dX9_lists_69 rfl (lv_at hl 0 rfl) ?_
    refine zg_X9_227 hx hb C hP (by decide) lay_81 rfl dX9_lists_70 ?_
    have hf := Option.some.inj hf
    subst hf
    exact hQ _ _ _ _ dX9_lists_73 hP hS
  · have hf := ifF hb3 hf
    refine lv_iconst (v := 1) hx hb dX9_lists_15 (by decide) ?_
    refine lv_istore_n (lv' := [(2, .int 1), (0, .ref (a 81)), (1, .int q2.1)]) hx hb dX9_lists_16 rfl hl (by decide) rfl (fun ls hl => ?_)
    refine loopN_ind (P := fun (q5 : Int32 × PH) => ∀ (H : Heap) (locs : List Loc) (ls : Array Slot), lv_has ls 3 [(0, .ref (a 81)), (1, .int q2.1), (2, .int q5.1)] → va_P D vwCl (wl a cA q5.2 d) H → va_S A s.heap H locs → W p l e R s m args below meth c H locs 0 0 Q (F0 m 17 ls [])) ?_ _ _ hf _ _ _ (lv_sub hl [1, 2, 0] rfl) hP hS
    intro k6 ihk6 q5 hf H locs ls hl hP hS
    unfold b_X9_lists_17 at hf
    refine lv_iload_n hx hb dX9_lists_17 rfl (lv_at hl 2 rfl) ?_
    refine lv_aload_n hx hb dX9_lists_18 rfl (lv_at hl 0 rfl) ?_
    obtain ⟨u7, hzu7⟩ : ∃ z, z = f_X9_everybody q5.2 := ⟨_, rfl⟩
    have hf := bnd_at u7 hzu7 hf
    refine zz_callVi (rest := [.int q5.1]) hx hb hml C hP hS (c_X9_everybody l hDA  hzu7.symm) zw_X9_99 ⟨Nat.le_trans (Nat.le_of_ble_eq_true rfl) hRf, Nat.le_trans (Nat.le_of_ble_eq_true rfl) hRl⟩ (by decide) lay_81 rfl rfl hl.1 (Nat.le_of_ble_eq_true rfl) ⟨Nat.zero_le _, Nat.zero_le _⟩ rfl dX9_lists_19 (fun H locs hP hS => ?_)
    refine lv_icmp_gt (tgt := 63) hx hb dX9_lists_22 (by decide) (fun hb7 => ?_) (fun hb7 => ?_)
    · have hf := ifT hb7 hf
      obtain ⟨v9, ev9⟩ : ∃ z : Int32, z = q2.1 + 1 := ⟨_, rfl⟩
      have hf := bnd_at v9 ev9 hf
      refine lv_iinc (v := v9) (lv' := [(1, .int v9), (0, .ref (a 81)), (2, .int q5.1)]) hx hb dX9_lists_63 hl (k := 1) rfl (by rw [ev9]; rfl) (by decide) rfl (fun ls hl => ?_)
      refine lv_goto (tgt := 7) hx hb dX9_lists_66 (by decide) ?_
      exact ihk3 _ hf _ _ _ (lv_sub hl [1, 0] rfl) hP hS
    · have hf := ifF hb7 hf
      refine lv_aload_n hx hb dX9_lists_25 rfl (lv_at hl 0 rfl) ?_
      refine lv_iload_n hx hb dX9_lists_26 rfl (lv_at hl 2 rfl) ?_
      obtain ⟨u10, hzu10, hf⟩ := obd_some hf
      refine zz_callVi (rest := []) hx hb hml C hP hS (c_X9_count l hDA q5.1 hzu10) zw_X9_221 ⟨Nat.le_trans (Nat.le_of_ble_eq_true rfl) hRf, Nat.le_trans (Nat.le_of_ble_eq_true rfl) hRl⟩ (by decide) lay_81 rfl rfl hl.1 (Nat.le_of_ble_eq_true rfl) ⟨Nat.zero_le _, Nat.zero_le _⟩ rfl dX9_lists_27 (fun H locs hP hS => ?_)
      refine lv_iload_n hx hb dX9_lists_30 rfl (lv_at hl 1 rfl) ?_
      refine lv_icmp_eq (tgt := 37) hx hb dX9_lists_31 (by decide) (fun hb10 => ?_) (fun hb10 => ?_)
      · have hf := ifT hb10 hf
        refine lv_aload_n hx hb dX9_lists_37 rfl (lv_at hl 0 rfl) ?_
        refine zg_X9_78 hx hb C hP (by decide) lay_81 rfl dX9_lists_38 ?_
        refine lv_aload_n hx hb dX9_lists_41 rfl (lv_at hl 0 rfl) ?_
        refine zg_X9_227 hx hb C hP (by decide) lay_81 rfl dX9_lists_42 ?_
        refine lv_iload_n hx hb dX9_lists_45 rfl (lv_at hl 2 rfl) ?_
        obtain ⟨hc11, hf⟩ := chk_some hf
        refine zz_iast hx hb C hP hS (by decide) lay_100 (inb_vp hc11) dX9_lists_46 (fun σ13 eσ13 H locs hP hS => ?_)
        have hf := bnd_at σ13 eσ13 hf
        refine lv_aload_n hx hb dX9_lists_47 rfl (lv_at hl 0 rfl) ?_
        refine lv_dup hx hb dX9_lists_48 rfl ?_
        refine zg_X9_227 hx hb C hP (by decide) lay_81 rfl dX9_lists_49 ?_
        refine lv_iconst (v := 1) hx hb dX9_lists_52 (by decide) ?_
        refine lv_iadd hx hb dX9_lists_53 ?_
        refine zp_X9_227 hx hb C hP hS (by decide) lay_81 rfl dX9_lists_54 (fun σ14 eσ14 H locs hP hS => ?_)
        have hf := bnd_at σ14 eσ14 hf
        obtain ⟨v15, ev15⟩ : ∃ z : Int32, z = q5.1 + 1 := ⟨_, rfl⟩
        have hf := bnd_at v15 ev15 hf
        refine lv_iinc (v := v15) (lv' := [(2, .int v15), (0, .ref (a 81)), (1, .int q2.1)]) hx hb dX9_lists_57 hl (k := 2) rfl (by rw [ev15]; rfl) (by decide) rfl (fun ls hl => ?_)
        refine lv_goto (tgt := 17) hx hb dX9_lists_60 (by decide) ?_
        exact ihk6 _ hf _ _ _ (lv_sub hl [1, 2, 0] rfl) hP hS
      · have hf := ifF hb10 hf
        refine lv_goto (tgt := 57) hx hb dX9_lists_34 (by decide) ?_
        obtain ⟨v16, ev16⟩ : ∃ z : Int32, z = q5.1 + 1 := ⟨_, rfl⟩
        have hf := bnd_at v16 ev16 hf
        refine lv_iinc (v := v16) (lv' := [(2, .int v16), (0, .ref (a 81)), (1, .int q2.1)]) hx hb dX9_lists_57 hl (k := 2) rfl (by rw [ev16]; rfl) (by decide) rfl (fun ls hl => ?_)
        refine lv_goto (tgt := 17) hx hb dX9_lists_60 (by decide) ?_
        exact ihk6 _ hf _ _ _ (lv_sub hl [1, 2, 0] rfl) hP hS
set_option maxHeartbeats 4000000 in
set_option maxRecDepth 100000 in
theorem c_X9_holdsUp (l : Launch) {D : va_G} {a : Nat → Nat} {cA : Nat → ClassId} {A : Nat → Prop} {sa : Nat → Nat} (hDA : DA a A) {σ : PH} {d : PD} (p1 : Int32) (p2 : Int32) (p3 : Int32) {u : Int32} (hf : f_X9_holdsUp σ p1 p2 p3 = some u) : CTi l yX9_holdsUp cX9_holdsUp 5 (some .boolean) 1 22 D a cA A sa [.ref (a 81), .int p1, .int p2, .int p3] σ d u σ d := by
  refine zz_metZ zpl_X9 hDA (Nat.le_of_ble_eq_true rfl) ?_
  intro p e R s m args below meth c Q ls hx hb hml C hRf hRl hQ hP hS hl
  have hl : lv_has ls 5 [(0, .ref (a 81)), (1, .int p1), (2, .int p2), (3, .int p3)] := hl
  unfold f_X9_holdsUp at hf
  refine lv_aload_n hx hb dX9_holdsUp_0 rfl (lv_at hl 0 rfl) ?_
  refine lv_iload_n hx hb dX9_holdsUp_1 rfl (lv_at hl 1 rfl) ?_
  obtain ⟨u1, hzu1, hf⟩ := obd_some hf
  refine zz_callVi (rest := []) hx hb hml C hP hS (c_X9_who l hDA p1 hzu1) zw_X9_114 ⟨Nat.le_trans (Nat.le_of_ble_eq_true rfl) hRf, Nat.le_trans (Nat.le_of_ble_eq_true rfl) hRl⟩ (by decide) lay_81 rfl rfl hl.1 (Nat.le_of_ble_eq_true rfl) ⟨Nat.zero_le _, Nat.zero_le _⟩ rfl dX9_holdsUp_2 (fun H locs hP hS => ?_)
  refine lv_istore (lv' := [(4, .int u1), (0, .ref (a 81)), (1, .int p1), (2, .int p2), (3, .int p3)]) hx hb dX9_holdsUp_5 hl (by decide) rfl (fun ls hl => ?_)
  refine lv_iload hx hb dX9_holdsUp_7 (lv_at hl 0 rfl) ?_
  refine lv_iconst (v := (-1)) hx hb dX9_holdsUp_9 (by decide) ?_
  refine lv_icmp_eq (tgt := 37) hx hb dX9_holdsUp_10 (by decide) (fun hb1 => ?_) (fun hb1 => ?_)
  · have hf := ifT hb1 hf
    refine lv_iconst (v := 0) hx hb dX9_holdsUp_37 (by decide) ?_
    have hf := Option.some.inj hf
    subst hf
    exact hQ _ _ _ _ dX9_holdsUp_38 (show narrow .boolean (.int 0) = .int 0 from rfl) hP hS
  · have hf := ifF hb1 hf
    refine lv_aload_n hx hb dX9_holdsUp_13 rfl (lv_at hl 1 rfl) ?_
    refine lv_iload_n hx hb dX9_holdsUp_14 rfl (lv_at hl 3 rfl) ?_
    refine lv_iload hx hb dX9_holdsUp_15 (lv_at hl 0 rfl) ?_
    obtain ⟨u3, hzu3⟩ : ∃ z, z = f_X9_isIn p2 u1 := ⟨_, rfl⟩
    have hf := bnd_at u3 hzu3 hf
    refine zz_callVi (rest := []) hx hb hml C hP hS (c_X9_isIn l hDA p2 u1 hzu3.symm) zw_X9_214 ⟨Nat.le_trans (Nat.le_of_ble_eq_true rfl) hRf, Nat.le_trans (Nat.le_of_ble_eq_true rfl) hRl⟩ (by decide) lay_81 rfl rfl hl.1 (Nat.le_of_ble_eq_true rfl) ⟨Nat.zero_le _, Nat.zero_le _⟩ rfl dX9_holdsUp_17 (fun H locs hP hS => ?_)
    refine lv_if_eq (tgt := 37) hx hb dX9_holdsUp_20 (by decide) (fun hb3 => ?_) (fun hb3 => ?_)
    · have hf := ifT hb3 hf
      refine lv_iconst (v := 0) hx hb dX9_holdsUp_37 (by decide) ?_
      have hf := Option.some.inj hf
      subst hf
      exact hQ _ _ _ _ dX9_holdsUp_38 (show narrow .boolean (.int 0) = .int 0 from rfl) hP hS
    · have hf := ifF hb3 hf
      refine lv_aload_n hx hb dX9_holdsUp_23 rfl (lv_at hl 1 rfl) ?_
      refine lv_iload_n hx hb dX9_holdsUp_24 rfl (lv_at hl 4 rfl) ?_
      refine lv_iload hx hb dX9_holdsUp_25 (lv_at hl 0 rfl) ?_
      obtain ⟨u5, hzu5⟩ : ∃ z, z = f_X9_isIn p3 u1 := ⟨_, rfl⟩
      have hf := bnd_at u5 hzu5 hf
      refine zz_callVi (rest := []) hx hb hml C hP hS (c_X9_isIn l hDA p3 u1 hzu5.symm) zw_X9_214 ⟨Nat.le_trans (Nat.le_of_ble_eq_true rfl) hRf, Nat.le_trans (Nat.le_of_ble_eq_true rfl) hRl⟩ (by decide) lay_81 rfl rfl hl.1 (Nat.le_of_ble_eq_true rfl) ⟨Nat.zero_le _, Nat.zero_le _⟩ rfl dX9_holdsUp_27 (fun H locs hP hS => ?_)
      refine lv_if_ne (tgt := 37) hx hb dX9_holdsUp_30 (by decide) (fun hb5 => ?_) (fun hb5 => ?_)
      · have hf := ifF hb5 hf
        refine lv_iconst (v := 0) hx hb dX9_holdsUp_37 (by decide) ?_
        have hf := Option.some.inj hf
        subst hf
        exact hQ _ _ _ _ dX9_holdsUp_38 (show narrow .boolean (.int 0) = .int 0 from rfl) hP hS
      · have hf := ifT hb5 hf
        refine lv_iconst (v := 1) hx hb dX9_holdsUp_33 (by decide) ?_
        refine lv_goto (tgt := 38) hx hb dX9_holdsUp_34 (by decide) ?_
        have hf := Option.some.inj hf
        subst hf
        exact hQ _ _ _ _ dX9_holdsUp_38 (show narrow .boolean (.int 1) = .int 1 from rfl) hP hS
set_option maxHeartbeats 4000000 in
set_option maxRecDepth 100000 in
theorem c_X9_isHeard (l : Launch) {D : va_G} {a : Nat → Nat} {cA : Nat → ClassId} {A : Nat → Prop} {sa : Nat → Nat} (hDA : DA a A) {σ : PH} {d : PD} (p1 : Int32) (p2 : Int32) (p3 : Int32) {u : Int32} (hf : f_X9_isHeard σ p1 p2 p3 = some u) : CTi l yX9_isHeard cX9_isHeard 5 (some .boolean) 2 46 D a cA A sa [.ref (a 81), .int p1, .int p2, .int p3] σ d u σ d := by
  refine zz_metZ zpl_X9 hDA (Nat.le_of_ble_eq_true rfl) ?_
  intro p e R s m args below meth c Q ls hx hb hml C hRf hRl hQ hP hS hl
  have hl : lv_has ls 5 [(0, .ref (a 81)), (1, .int p1), (2, .int p2), (3, .int p3)] := hl
  unfold f_X9_isHeard at hf
  refine lv_aload_n hx hb dX9_isHeard_0 rfl (lv_at hl 0 rfl) ?_
  refine zg_X9_35 hx hb C hP (by decide) lay_81 rfl dX9_isHeard_1 ?_
  refine lv_iload_n hx hb dX9_isHeard_4 rfl (lv_at hl 1 rfl) ?_
  obtain ⟨hc0, hf⟩ := chk_some hf
  refine zz_iald hx hb C hP (by decide) lay_86 (inb_vp hc0) dX9_isHeard_5 ?_
  refine lv_topi (fun v2 ev2 => ?_)
  have hf := bnd_at v2 ev2 hf
  refine lv_istore (lv' := [(4, .int v2), (0, .ref (a 81)), (1, .int p1), (2, .int p2), (3, .int p3)]) hx hb dX9_isHeard_6 hl (by decide) rfl (fun ls hl => ?_)
  refine lv_aload_n hx hb dX9_isHeard_8 rfl (lv_at hl 1 rfl) ?_
  refine zg_X9_26 hx hb C hP (by decide) lay_81 rfl dX9_isHeard_9 ?_
  refine lv_iload_n hx hb dX9_isHeard_12 rfl (lv_at hl 2 rfl) ?_
  obtain ⟨hc2, hf⟩ := chk_some hf
  refine zz_iald hx hb C hP (by decide) lay_83 (inb_vp hc2) dX9_isHeard_13 ?_
  by_cases hb3 : (gI σ 83 p1.toNatClampNeg) = 1
  · have hf := ifT hb3 hf
    refine lv_tableIn (tgt := 52) hx hb dX9_isHeard_14 (by rw [hb3]; decide) (by rw [hb3]; decide) (by rw [hb3]; rfl) (by decide) ?_
    refine lv_aload_n hx hb dX9_isHeard_52 rfl (lv_at hl 1 rfl) ?_
    refine lv_iload hx hb dX9_isHeard_53 (lv_at hl 0 rfl) ?_
    refine lv_iconst (v := 1) hx hb dX9_isHeard_55 (by decide) ?_
    refine lv_isub hx hb dX9_isHeard_56 ?_
    refine lv_iload_n hx hb dX9_isHeard_57 rfl (lv_at hl 3 rfl) ?_
    refine lv_iload_n hx hb dX9_isHeard_58 rfl (lv_at hl 4 rfl) ?_
    obtain ⟨u5, hzu5, hf⟩ := obd_some hf
    refine zz_callVi (rest := []) hx hb hml C hP hS (c_X9_holdsUp l hDA (v2 - 1) p2 p3 hzu5) zw_X9_217 ⟨Nat.le_trans (Nat.le_of_ble_eq_true rfl) hRf, Nat.le_trans (Nat.le_of_ble_eq_true rfl) hRl⟩ (by decide) lay_81 rfl rfl hl.1 (Nat.le_of_ble_eq_true rfl) ⟨Nat.zero_le _, Nat.zero_le _⟩ rfl dX9_isHeard_59 (fun H locs hP hS => ?_)
    refine lv_if_ne (tgt := 69) hx hb dX9_isHeard_62 (by decide) (fun hb5 => ?_) (fun hb5 => ?_)
    · have hf := ifF hb5 hf
      refine lv_iconst (v := 0) hx hb dX9_isHeard_69 (by decide) ?_
      have hf := Option.some.inj hf
      subst hf
      exact hQ _ _ _ _ dX9_isHeard_70 (show narrow .boolean (.int 0) = .int 0 from rfl) hP hS
    · have hf := ifT hb5 hf
      refine lv_iconst (v := 1) hx hb dX9_isHeard_65 (by decide) ?_
      refine lv_goto (tgt := 70) hx hb dX9_isHeard_66 (by decide) ?_
      have hf := Option.some.inj hf
      subst hf
      exact hQ _ _ _ _ dX9_isHeard_70 (show narrow .boolean (.int 1) = .int 1 from rfl) hP hS
  have hf := ifF hb3 hf
  by_cases hb6 : (gI σ 83 p1.toNatClampNeg) = 2
  · have hf := ifT hb6 hf
    refine lv_tableIn (tgt := 103) hx hb dX9_isHeard_14 (by rw [hb6]; decide) (by rw [hb6]; decide) (by rw [hb6]; rfl) (by decide) ?_
    refine lv_aload_n hx hb dX9_isHeard_103 rfl (lv_at hl 1 rfl) ?_
    refine lv_iload_n hx hb dX9_isHeard_104 rfl (lv_at hl 3 rfl) ?_
    obtain ⟨u8, hzu8, hf⟩ := obd_some hf
    refine zz_callVi (rest := []) hx hb hml C hP hS (c_X9_count l hDA p2 hzu8) zw_X9_221 ⟨Nat.le_trans (Nat.le_of_ble_eq_true rfl) hRf, Nat.le_trans (Nat.le_of_ble_eq_true rfl) hRl⟩ (by decide) lay_81 rfl rfl hl.1 (Nat.le_of_ble_eq_true rfl) ⟨Nat.zero_le _, Nat.zero_le _⟩ rfl dX9_isHeard_105 (fun H locs hP hS => ?_)
    refine lv_aload_n hx hb dX9_isHeard_108 rfl (lv_at hl 1 rfl) ?_
    refine zg_X9_29 hx hb C hP (by decide) lay_81 rfl dX9_isHeard_109 ?_
    refine lv_iload_n hx hb dX9_isHeard_112 rfl (lv_at hl 2 rfl) ?_
    obtain ⟨hc8, hf⟩ := chk_some hf
    refine zz_iald hx hb C hP (by decide) lay_84 (inb_vp hc8) dX9_isHeard_113 ?_
    refine lv_iconst (v := 1) hx hb dX9_isHeard_114 (by decide) ?_
    refine lv_iadd hx hb dX9_isHeard_115 ?_
    refine lv_icmp_le (tgt := 123) hx hb dX9_isHeard_116 (by decide) (fun hb9 => ?_) (fun hb9 => ?_)
    · have hf := ifT hb9 hf
      refine lv_iconst (v := 0) hx hb dX9_isHeard_123 (by decide) ?_
      have hf := Option.some.inj hf
      subst hf
      exact hQ _ _ _ _ dX9_isHeard_124 (show narrow .boolean (.int 0) = .int 0 from rfl) hP hS
    · have hf := ifF hb9 hf
      refine lv_iconst (v := 1) hx hb dX9_isHeard_119 (by decide) ?_
      refine lv_goto (tgt := 124) hx hb dX9_isHeard_120 (by decide) ?_
      have hf := Option.some.inj hf
      subst hf
      exact hQ _ _ _ _ dX9_isHeard_124 (show narrow .boolean (.int 1) = .int 1 from rfl) hP hS
  have hf := ifF hb6 hf
  by_cases hb10 : (gI σ 83 p1.toNatClampNeg) = 3
  · have hf := ifT hb10 hf
    refine lv_tableIn (tgt := 71) hx hb dX9_isHeard_14 (by rw [hb10]; decide) (by rw [hb10]; decide) (by rw [hb10]; rfl) (by decide) ?_
    refine lv_aload_n hx hb dX9_isHeard_71 rfl (lv_at hl 1 rfl) ?_
    refine lv_iload hx hb dX9_isHeard_72 (lv_at hl 0 rfl) ?_
    refine lv_iconst (v := 1) hx hb dX9_isHeard_74 (by decide) ?_
    refine lv_isub hx hb dX9_isHeard_75 ?_
    refine lv_iload_n hx hb dX9_isHeard_76 rfl (lv_at hl 3 rfl) ?_
    refine lv_iload_n hx hb dX9_isHeard_77 rfl (lv_at hl 4 rfl) ?_
    obtain ⟨u12, hzu12, hf⟩ := obd_some hf
    refine zz_callVi (rest := []) hx hb hml C hP hS (c_X9_holdsUp l hDA (v2 - 1) p2 p3 hzu12) zw_X9_217 ⟨Nat.le_trans (Nat.le_of_ble_eq_true rfl) hRf, Nat.le_trans (Nat.le_of_ble_eq_true rfl) hRl⟩ (by decide) lay_81 rfl rfl hl.1 (Nat.le_of_ble_eq_true rfl) ⟨Nat.zero_le _, Nat.zero_le _⟩ rfl dX9_isHeard_78 (fun H locs hP hS => ?_)
    refine lv_if_ne (tgt := 101) hx hb dX9_isHeard_81 (by decide) (fun hb12 => ?_) (fun hb12 => ?_)
    · have hf := ifF hb12 hf
      refine lv_iconst (v := 0) hx hb dX9_isHeard_101 (by decide) ?_
      have hf := Option.some.inj hf
      subst hf
      exact hQ _ _ _ _ dX9_isHeard_102 (show narrow .boolean (.int 0) = .int 0 from rfl) hP hS
    · have hf := ifT hb12 hf
      refine lv_aload_n hx hb dX9_isHeard_84 rfl (lv_at hl 1 rfl) ?_
      refine lv_iload hx hb dX9_isHeard_85 (lv_at hl 0 rfl) ?_
      refine lv_iconst (v := 1) hx hb dX9_isHeard_87 (by decide) ?_
      refine lv_iadd hx hb dX9_isHeard_88 ?_
      refine lv_iload_n hx hb dX9_isHeard_89 rfl (lv_at hl 3 rfl) ?_
      refine lv_iload_n hx hb dX9_isHeard_90 rfl (lv_at hl 4 rfl) ?_
      obtain ⟨u14, hzu14, hf⟩ := obd_some hf
      refine zz_callVi (rest := []) hx hb hml C hP hS (c_X9_holdsUp l hDA (v2 + 1) p2 p3 hzu14) zw_X9_217 ⟨Nat.le_trans (Nat.le_of_ble_eq_true rfl) hRf, Nat.le_trans (Nat.le_of_ble_eq_true rfl) hRl⟩ (by decide) lay_81 rfl rfl hl.1 (Nat.le_of_ble_eq_true rfl) ⟨Nat.zero_le _, Nat.zero_le _⟩ rfl dX9_isHeard_91 (fun H locs hP hS => ?_)
      refine lv_if_ne (tgt := 101) hx hb dX9_isHeard_94 (by decide) (fun hb14 => ?_) (fun hb14 => ?_)
      · have hf := ifF hb14 hf
        refine lv_iconst (v := 0) hx hb dX9_isHeard_101 (by decide) ?_
        have hf := Option.some.inj hf
        subst hf
        exact hQ _ _ _ _ dX9_isHeard_102 (show narrow .boolean (.int 0) = .int 0 from rfl) hP hS
      · have hf := ifT hb14 hf
        refine lv_iconst (v := 1) hx hb dX9_isHeard_97 (by decide) ?_
        refine lv_goto (tgt := 102) hx hb dX9_isHeard_98 (by decide) ?_
        have hf := Option.some.inj hf
        subst hf
        exact hQ _ _ _ _ dX9_isHeard_102 (show narrow .boolean (.int 1) = .int 1 from rfl) hP hS
  have hf := ifF hb10 hf
  by_cases hb15 : (gI σ 83 p1.toNatClampNeg) = 4
  · have hf := ifT hb15 hf
    refine lv_tableIn (tgt := 163) hx hb dX9_isHeard_14 (by rw [hb15]; decide) (by rw [hb15]; decide) (by rw [hb15]; rfl) (by decide) ?_
    refine lv_iconst (v := 0) hx hb dX9_isHeard_163 (by decide) ?_
    have hf := Option.some.inj hf
    subst hf
    exact hQ _ _ _ _ dX9_isHeard_164 (show narrow .boolean (.int 0) = .int 0 from rfl) hP hS
  have hf := ifF hb15 hf
  by_cases hb16 : (gI σ 83 p1.toNatClampNeg) = 5
  · have hf := ifT hb16 hf
    refine lv_tableIn (tgt := 125) hx hb dX9_isHeard_14 (by rw [hb16]; decide) (by rw [hb16]; decide) (by rw [hb16]; rfl) (by decide) ?_
    refine lv_aload_n hx hb dX9_isHeard_125 rfl (lv_at hl 1 rfl) ?_
    refine lv_iload_n hx hb dX9_isHeard_126 rfl (lv_at hl 3 rfl) ?_
    obtain ⟨u18, hzu18, hf⟩ := obd_some hf
    refine zz_callVi (rest := []) hx hb hml C hP hS (c_X9_count l hDA p2 hzu18) zw_X9_221 ⟨Nat.le_trans (Nat.le_of_ble_eq_true rfl) hRf, Nat.le_trans (Nat.le_of_ble_eq_true rfl) hRl⟩ (by decide) lay_81 rfl rfl hl.1 (Nat.le_of_ble_eq_true rfl) ⟨Nat.zero_le _, Nat.zero_le _⟩ rfl dX9_isHeard_127 (fun H locs hP hS => ?_)
    refine lv_aload_n hx hb dX9_isHeard_130 rfl (lv_at hl 1 rfl) ?_
    refine zg_X9_29 hx hb C hP (by decide) lay_81 rfl dX9_isHeard_131 ?_
    refine lv_iload_n hx hb dX9_isHeard_134 rfl (lv_at hl 2 rfl) ?_
    obtain ⟨hc18, hf⟩ := chk_some hf
    refine zz_iald hx hb C hP (by decide) lay_84 (inb_vp hc18) dX9_isHeard_135 ?_
    refine lv_iconst (v := 1) hx hb dX9_isHeard_136 (by decide) ?_
    refine lv_iadd hx hb dX9_isHeard_137 ?_
    refine lv_icmp_le (tgt := 161) hx hb dX9_isHeard_138 (by decide) (fun hb19 => ?_) (fun hb19 => ?_)
    · have hf := ifT hb19 hf
      refine lv_iconst (v := 0) hx hb dX9_isHeard_161 (by decide) ?_
      have hf := Option.some.inj hf
      subst hf
      exact hQ _ _ _ _ dX9_isHeard_162 (show narrow .boolean (.int 0) = .int 0 from rfl) hP hS
    · have hf := ifF hb19 hf
      refine lv_iload hx hb dX9_isHeard_141 (lv_at hl 0 rfl) ?_
      refine lv_if_le (tgt := 161) hx hb dX9_isHeard_143 (by decide) (fun hb20 => ?_) (fun hb20 => ?_)
      · have hf := ifT hb20 hf
        refine lv_iconst (v := 0) hx hb dX9_isHeard_161 (by decide) ?_
        have hf := Option.some.inj hf
        subst hf
        exact hQ _ _ _ _ dX9_isHeard_162 (show narrow .boolean (.int 0) = .int 0 from rfl) hP hS
      · have hf := ifF hb20 hf
        refine lv_iload hx hb dX9_isHeard_146 (lv_at hl 0 rfl) ?_
        refine lv_aload_n hx hb dX9_isHeard_148 rfl (lv_at hl 1 rfl) ?_
        refine zg_X9_96 hx hb C hP (by decide) lay_81 rfl dX9_isHeard_149 ?_
        refine lv_iconst (v := 1) hx hb dX9_isHeard_152 (by decide) ?_
        refine lv_isub hx hb dX9_isHeard_153 ?_
        refine lv_icmp_ge (tgt := 161) hx hb dX9_isHeard_154 (by decide) (fun hb21 => ?_) (fun hb21 => ?_)
        · have hf := ifT hb21 hf
          refine lv_iconst (v := 0) hx hb dX9_isHeard_161 (by decide) ?_
          have hf := Option.some.inj hf
          subst hf
          exact hQ _ _ _ _ dX9_isHeard_162 (show narrow .boolean (.int 0) = .int 0 from rfl) hP hS
        · have hf := ifF hb21 hf
          refine lv_iconst (v := 1) hx hb dX9_isHeard_157 (by decide) ?_
          refine lv_goto (tgt := 162) hx hb dX9_isHeard_158 (by decide) ?_
          have hf := Option.some.inj hf
          subst hf
          exact hQ _ _ _ _ dX9_isHeard_162 (show narrow .boolean (.int 1) = .int 1 from rfl) hP hS
  have hf := ifF hb16 hf
  by_cases hb22 : (gI σ 83 p1.toNatClampNeg) = 6
  · have hf := ifT hb22 hf
    refine lv_tableIn (tgt := 165) hx hb dX9_isHeard_14 (by rw [hb22]; decide) (by rw [hb22]; decide) (by rw [hb22]; rfl) (by decide) ?_
    refine lv_iload_n hx hb dX9_isHeard_165 rfl (lv_at hl 3 rfl) ?_
    refine lv_aload_n hx hb dX9_isHeard_166 rfl (lv_at hl 1 rfl) ?_
    obtain ⟨u24, hzu24⟩ : ∃ z, z = f_X9_everybody σ := ⟨_, rfl⟩
    have hf := bnd_at u24 hzu24 hf
    refine zz_callVi (rest := [.int p2]) hx hb hml C hP hS (c_X9_everybody l hDA  hzu24.symm) zw_X9_99 ⟨Nat.le_trans (Nat.le_of_ble_eq_true rfl) hRf, Nat.le_trans (Nat.le_of_ble_eq_true rfl) hRl⟩ (by decide) lay_81 rfl rfl hl.1 (Nat.le_of_ble_eq_true rfl) ⟨Nat.zero_le _, Nat.zero_le _⟩ rfl dX9_isHeard_167 (fun H locs hP hS => ?_)
    refine lv_icmp_ne (tgt := 177) hx hb dX9_isHeard_170 (by decide) (fun hb24 => ?_) (fun hb24 => ?_)
    · have hf := ifF hb24 hf
      refine lv_iconst (v := 0) hx hb dX9_isHeard_177 (by decide) ?_
      have hf := Option.some.inj hf
      subst hf
      exact hQ _ _ _ _ dX9_isHeard_178 (show narrow .boolean (.int 0) = .int 0 from rfl) hP hS
    · have hf := ifT hb24 hf
      refine lv_iconst (v := 1) hx hb dX9_isHeard_173 (by decide) ?_
      refine lv_goto (tgt := 178) hx hb dX9_isHeard_174 (by decide) ?_
      have hf := Option.some.inj hf
      subst hf
      exact hQ _ _ _ _ dX9_isHeard_178 (show narrow .boolean (.int 1) = .int 1 from rfl) hP hS
  have hf := ifF hb22 hf
  refine lv_tableOut (tgt := 179) hx hb dX9_isHeard_14 (sw_1_6 hb3 hb6 hb10 hb15 hb16 hb22) (by decide) ?_
  refine lv_iconst (v := 1) hx hb dX9_isHeard_179 (by decide) ?_
  have hf := Option.some.inj hf
  subst hf
  exact hQ _ _ _ _ dX9_isHeard_180 (show narrow .boolean (.int 1) = .int 1 from rfl) hP hS
set_option maxHeartbeats 4000000 in
set_option maxRecDepth 100000 in
theorem c_X9_soundOf (l : Launch) {D : va_G} {a : Nat → Nat} {cA : Nat → ClassId} {A : Nat → Prop} {sa : Nat → Nat} (hDA : DA a A) {σ : PH} {d : PD} (p1 : Int32) (p2 : Int32) {u : Int32} (hf : f_X9_soundOf σ p1 p2 = some u) : CTi l yX9_soundOf cX9_soundOf 4 (some .int) 3 70 D a cA A sa [.ref (a 81), .int p1, .int p2] σ d u σ d := by
  refine zz_metI zpl_X9 hDA (Nat.le_of_ble_eq_true rfl) ?_
  intro p e R s m args below meth c Q ls hx hb hml C hRf hRl hQ hP hS hl
  have hl : lv_has ls 4 [(0, .ref (a 81)), (1, .int p1), (2, .int p2)] := hl
  unfold f_X9_soundOf at hf
  refine lv_iconst (v := 0) hx hb dX9_soundOf_0 (by decide) ?_
  refine lv_istore_n (lv' := [(3, .int 0), (0, .ref (a 81)), (1, .int p1), (2, .int p2)]) hx hb dX9_soundOf_1 rfl hl (by decide) rfl (fun ls hl => ?_)
  refine loopN_ind (P := fun (q1 : Int32) => ∀ (H : Heap) (locs : List Loc) (ls : Array Slot), lv_has ls 4 [(0, .ref (a 81)), (1, .int p1), (2, .int p2), (3, .int q1)] → va_P D vwCl (wl a cA σ d) H → va_S A s.heap H locs → W p l e R s m args below meth c H locs 0 0 Q (F0 m 2 ls [])) ?_ _ _ hf _ _ _ (lv_sub hl [1, 2, 3, 0] rfl) hP hS
  intro k2 ihk2 q1 hf H locs ls hl hP hS
  unfold b_X9_soundOf_2 at hf
  refine lv_iload_n hx hb dX9_soundOf_2 rfl (lv_at hl 3 rfl) ?_
  refine lv_aload_n hx hb dX9_soundOf_3 rfl (lv_at hl 0 rfl) ?_
  refine zg_X9_96 hx hb C hP (by decide) lay_81 rfl dX9_soundOf_4 ?_
  refine lv_icmp_ge (tgt := 39) hx hb dX9_soundOf_7 (by decide) (fun hb2 => ?_) (fun hb2 => ?_)
  · have hf := ifT hb2 hf
    refine lv_iconst (v := 0) hx hb dX9_soundOf_39 (by decide) ?_
    have hf := Option.some.inj hf
    subst hf
    exact hQ _ _ _ _ dX9_soundOf_40 hP hS
  · have hf := ifF hb2 hf
    refine lv_aload_n hx hb dX9_soundOf_10 rfl (lv_at hl 0 rfl) ?_
    refine lv_iload_n hx hb dX9_soundOf_11 rfl (lv_at hl 1 rfl) ?_
    refine lv_iload_n hx hb dX9_soundOf_12 rfl (lv_at hl 2 rfl) ?_
    refine lv_iand hx hb dX9_soundOf_13 ?_
    refine lv_iload_n hx hb dX9_soundOf_14 rfl (lv_at hl 3 rfl) ?_
    obtain ⟨u4, hzu4⟩ : ∃ z, z = f_X9_isIn (p1 &&& p2) q1 := ⟨_, rfl⟩
    have hf := bnd_at u4 hzu4 hf
    refine zz_callVi (rest := []) hx hb hml C hP hS (c_X9_isIn l hDA (p1 &&& p2) q1 hzu4.symm) zw_X9_214 ⟨Nat.le_trans (Nat.le_of_ble_eq_true rfl) hRf, Nat.le_trans (Nat.le_of_ble_eq_true rfl) hRl⟩ (by decide) lay_81 rfl rfl hl.1 (Nat.le_of_ble_eq_true rfl) ⟨Nat.zero_le _, Nat.zero_le _⟩ rfl dX9_soundOf_15 (fun H locs hP hS => ?_)
    refine lv_if_eq (tgt := 33) hx hb dX9_soundOf_18 (by decide) (fun hb4 => ?_) (fun hb4 => ?_)
    · have hf := ifT hb4 hf
      obtain ⟨v6, ev6⟩ : ∃ z : Int32, z = q1 + 1 := ⟨_, rfl⟩
      have hf := bnd_at v6 ev6 hf
      refine lv_iinc (v := v6) (lv' := [(3, .int v6), (0, .ref (a 81)), (1, .int p1), (2, .int p2)]) hx hb dX9_soundOf_33 hl (k := 3) rfl (by rw [ev6]; rfl) (by decide) rfl (fun ls hl => ?_)
      refine lv_goto (tgt := 2) hx hb dX9_soundOf_36 (by decide) ?_
      exact ihk2 _ hf _ _ _ (lv_sub hl [1, 2, 3, 0] rfl) hP hS
    · have hf := ifF hb4 hf
      refine lv_aload_n hx hb dX9_soundOf_21 rfl (lv_at hl 0 rfl) ?_
      refine lv_iload_n hx hb dX9_soundOf_22 rfl (lv_at hl 3 rfl) ?_
      refine lv_iload_n hx hb dX9_soundOf_23 rfl (lv_at hl 1 rfl) ?_
      refine lv_iload_n hx hb dX9_soundOf_24 rfl (lv_at hl 2 rfl) ?_
      obtain ⟨u7, hzu7, hf⟩ := obd_some hf
      refine zz_callVi (rest := []) hx hb hml C hP hS (c_X9_isHeard l hDA q1 p1 p2 hzu7) zw_X9_224 ⟨Nat.le_trans (Nat.le_of_ble_eq_true rfl) hRf, Nat.le_trans (Nat.le_of_ble_eq_true rfl) hRl⟩ (by decide) lay_81 rfl rfl hl.1 (Nat.le_of_ble_eq_true rfl) ⟨Nat.zero_le _, Nat.zero_le _⟩ rfl dX9_soundOf_25 (fun H locs hP hS => ?_)
      refine lv_if_eq (tgt := 33) hx hb dX9_soundOf_28 (by decide) (fun hb7 => ?_) (fun hb7 => ?_)
      · have hf := ifT hb7 hf
        obtain ⟨v9, ev9⟩ : ∃ z : Int32, z = q1 + 1 := ⟨_, rfl⟩
        have hf := bnd_at v9 ev9 hf
        refine lv_iinc (v := v9) (lv' := [(3, .int v9), (0, .ref (a 81)), (1, .int p1), (2, .int p2)]) hx hb dX9_soundOf_33 hl (k := 3) rfl (by rw [ev9]; rfl) (by decide) rfl (fun ls hl => ?_)
        refine lv_goto (tgt := 2) hx hb dX9_soundOf_36 (by decide) ?_
        exact ihk2 _ hf _ _ _ (lv_sub hl [1, 2, 3, 0] rfl) hP hS
      · have hf := ifF hb7 hf
        refine lv_iconst (v := 1) hx hb dX9_soundOf_31 (by decide) ?_
        have hf := Option.some.inj hf
        subst hf
        exact hQ _ _ _ _ dX9_soundOf_32 hP hS
set_option maxHeartbeats 4000000 in
set_option maxRecDepth 100000 in
theorem c_X9_stays (l : Launch) {D : va_G} {a : Nat → Nat} {cA : Nat → ClassId} {A : Nat → Prop} {sa : Nat → Nat} (hDA : DA a A) {σ : PH} {d : PD} (p1 : Int32) (p2 : Int32) (p3 : Int32) {u : Int32 × PH} (hf : f_X9_stays σ p1 p2 p3 = some u) : CTi l yX9_stays cX9_stays 6 (some .int) 4 93 D a cA A sa [.ref (a 81), .int p1, .int p2, .int p3] σ d u.1 u.2 d := by
  refine zz_metI zpl_X9 hDA (Nat.le_of_ble_eq_true rfl) ?_
  intro p e R s m args below meth c Q ls hx hb hml C hRf hRl hQ hP hS hl
  have hl : lv_has ls 6 [(0, .ref (a 81)), (1, .int p1), (2, .int p2), (3, .int p3)] := hl
  unfold f_X9_stays at hf
  refine lv_iconst (v := 0) hx hb dX9_stays_0 (by decide) ?_
  refine lv_istore (lv' := [(4, .int 0), (0, .ref (a 81)), (1, .int p1), (2, .int p2), (3, .int p3)]) hx hb dX9_stays_1 hl (by decide) rfl (fun ls hl => ?_)
  refine lv_iconst (v := 0) hx hb dX9_stays_3 (by decide) ?_
  refine lv_istore (lv' := [(5, .int 0), (4, .int 0), (0, .ref (a 81)), (1, .int p1), (2, .int p2), (3, .int p3)]) hx hb dX9_stays_4 hl (by decide) rfl (fun ls hl => ?_)
  refine loopN_ind (P := fun (q1 : Int32 × Int32 × PH) => ∀ (H : Heap) (locs : List Loc) (ls : Array Slot), lv_has ls 6 [(0, .ref (a 81)), (1, .int p1), (2, .int p2), (3, .int p3), (4, .int q1.1), (5, .int q1.2.1)] → va_P D vwCl (wl a cA q1.2.2 d) H → va_S A s.heap H locs → W p l e R s m args below meth c H locs 0 0 Q (F0 m 6 ls [])) ?_ _ _ hf _ _ _ (lv_sub hl [2, 3, 4, 5, 1, 0] rfl) hP hS
  intro k2 ihk2 q1 hf H locs ls hl hP hS
  unfold b_X9_stays_6 at hf
  refine lv_iload hx hb dX9_stays_6 (lv_at hl 5 rfl) ?_
  refine lv_iload_n hx hb dX9_stays_8 rfl (lv_at hl 1 rfl) ?_
  refine lv_icmp_ge (tgt := 54) hx hb dX9_stays_9 (by decide) (fun hb2 => ?_) (fun hb2 => ?_)
  · have hf := ifT hb2 hf
    refine lv_iload hx hb dX9_stays_54 (lv_at hl 4 rfl) ?_
    have hf := Option.some.inj hf
    subst hf
    exact hQ _ _ _ _ dX9_stays_56 hP hS
  · have hf := ifF hb2 hf
    refine lv_aload_n hx hb dX9_stays_12 rfl (lv_at hl 0 rfl) ?_
    refine lv_iload_n hx hb dX9_stays_13 rfl (lv_at hl 2 rfl) ?_
    refine lv_aload_n hx hb dX9_stays_14 rfl (lv_at hl 0 rfl) ?_
    refine zg_X9_81 hx hb C hP (by decide) lay_81 rfl dX9_stays_15 ?_
    refine lv_iload hx hb dX9_stays_18 (lv_at hl 5 rfl) ?_
    obtain ⟨hc3, hf⟩ := chk_some hf
    refine zz_iald hx hb C hP (by decide) lay_101 (inb_vp hc3) dX9_stays_20 ?_
    obtain ⟨u5, hzu5, hf⟩ := obd_some hf
    refine zz_callVi (rest := []) hx hb hml C hP hS (c_X9_soundOf l hDA p2 (gI q1.2.2 101 q1.2.1.toNatClampNeg) hzu5) zw_X9_230 ⟨Nat.le_trans (Nat.le_of_ble_eq_true rfl) hRf, Nat.le_trans (Nat.le_of_ble_eq_true rfl) hRl⟩ (by decide) lay_81 rfl rfl hl.1 (Nat.le_of_ble_eq_true rfl) ⟨Nat.zero_le _, Nat.zero_le _⟩ rfl dX9_stays_21 (fun H locs hP hS => ?_)
    refine lv_iload_n hx hb dX9_stays_24 rfl (lv_at hl 3 rfl) ?_
    refine lv_icmp_eq (tgt := 31) hx hb dX9_stays_25 (by decide) (fun hb5 => ?_) (fun hb5 => ?_)
    · have hf := ifT hb5 hf
      refine lv_aload_n hx hb dX9_stays_31 rfl (lv_at hl 0 rfl) ?_
      refine zg_X9_81 hx hb C hP (by decide) lay_81 rfl dX9_stays_32 ?_
      refine lv_iload hx hb dX9_stays_35 (lv_at hl 4 rfl) ?_
      refine lv_aload_n hx hb dX9_stays_37 rfl (lv_at hl 0 rfl) ?_
      refine zg_X9_81 hx hb C hP (by decide) lay_81 rfl dX9_stays_38 ?_
      refine lv_iload hx hb dX9_stays_41 (lv_at hl 5 rfl) ?_
      obtain ⟨hc6, hf⟩ := chk_some hf
      refine zz_iald hx hb C hP (by decide) lay_101 (inb_vp hc6) dX9_stays_43 ?_
      obtain ⟨hc7, hf⟩ := chk_some hf
      refine zz_iast hx hb C hP hS (by decide) lay_101 (inb_vp hc7) dX9_stays_44 (fun σ9 eσ9 H locs hP hS => ?_)
      have hf := bnd_at σ9 eσ9 hf
      obtain ⟨v10, ev10⟩ : ∃ z : Int32, z = q1.1 + 1 := ⟨_, rfl⟩
      have hf := bnd_at v10 ev10 hf
      refine lv_iinc (v := v10) (lv' := [(4, .int v10), (0, .ref (a 81)), (1, .int p1), (2, .int p2), (3, .int p3), (5, .int q1.2.1)]) hx hb dX9_stays_45 hl (k := 4) rfl (by rw [ev10]; rfl) (by decide) rfl (fun ls hl => ?_)
      obtain ⟨v11, ev11⟩ : ∃ z : Int32, z = q1.2.1 + 1 := ⟨_, rfl⟩
      have hf := bnd_at v11 ev11 hf
      refine lv_iinc (v := v11) (lv' := [(5, .int v11), (4, .int v10), (0, .ref (a 81)), (1, .int p1), (2, .int p2), (3, .int p3)]) hx hb dX9_stays_48 hl (k := 5) rfl (by rw [ev11]; rfl) (by decide) rfl (fun ls hl => ?_)
      refine lv_goto (tgt := 6) hx hb dX9_stays_51 (by decide) ?_
      exact ihk2 _ hf _ _ _ (lv_sub hl [2, 3, 4, 5, 1, 0] rfl) hP hS
    · have hf := ifF hb5 hf
      refine lv_goto (tgt := 48) hx hb dX9_stays_28 (by decide) ?_
      obtain ⟨v12, ev12⟩ : ∃ z : Int32, z = q1.2.1 + 1 := ⟨_, rfl⟩
      have hf := bnd_at v12 ev12 hf
      refine lv_iinc (v := v12) (lv' := [(5, .int v12), (0, .ref (a 81)), (1, .int p1), (2, .int p2), (3, .int p3), (4, .int q1.1)]) hx hb dX9_stays_48 hl (k := 5) rfl (by rw [ev12]; rfl) (by decide) rfl (fun ls hl => ?_)
      refine lv_goto (tgt := 6) hx hb dX9_stays_51 (by decide) ?_
      exact ihk2 _ hf _ _ _ (lv_sub hl [1, 2, 3, 4, 5, 0] rfl) hP hS
set_option maxHeartbeats 4000000 in
set_option maxRecDepth 100000 in
theorem c_X9_possible (l : Launch) {D : va_G} {a : Nat → Nat} {cA : Nat → ClassId} {A : Nat → Prop} {sa : Nat → Nat} (hDA : DA a A) {σ : PH} {d : PD}  {u : Int32 × PH} (hf : f_X9_possible σ = some u) : CTi l yX9_possible cX9_possible 3 (some .int) 5 118 D a cA A sa [.ref (a 81)] σ d u.1 u.2 d := by
  refine zz_metI zpl_X9 hDA (Nat.le_of_ble_eq_true rfl) ?_
  intro p e R s m args below meth c Q ls hx hb hml C hRf hRl hQ hP hS hl
  have hl : lv_has ls 3 [(0, .ref (a 81))] := hl
  unfold f_X9_possible at hf
  refine lv_aload_n hx hb dX9_possible_0 rfl (lv_at hl 0 rfl) ?_
  obtain ⟨u1, hzu1, hf⟩ := obd_some hf
  refine zz_callVi (rest := []) hx hb hml C hP hS (c_X9_lists l hDA  hzu1) zw_X9_233 ⟨Nat.le_trans (Nat.le_of_ble_eq_true rfl) hRf, Nat.le_trans (Nat.le_of_ble_eq_true rfl) hRl⟩ (by decide) lay_81 rfl rfl hl.1 (Nat.le_of_ble_eq_true rfl) ⟨Nat.zero_le _, Nat.zero_le _⟩ rfl dX9_possible_1 (fun H locs hP hS => ?_)
  refine lv_istore_n (lv' := [(1, .int u1.1), (0, .ref (a 81))]) hx hb dX9_possible_4 rfl hl (by decide) rfl (fun ls hl => ?_)
  refine lv_iconst (v := 0) hx hb dX9_possible_5 (by decide) ?_
  refine lv_istore_n (lv' := [(2, .int 0), (1, .int u1.1), (0, .ref (a 81))]) hx hb dX9_possible_6 rfl hl (by decide) rfl (fun ls hl => ?_)
  have hJ30 : ∀ (σ2 : PH), j_X9_possible_30 u1 σ2 = some u → ∀ (H : Heap) (locs : List Loc) (ls : Array Slot), lv_has ls 3 [(0, .ref (a 81)), (1, .int u1.1)] → va_P D vwCl (wl a cA σ2 d) H → va_S A s.heap H locs → W p l e R s m args below meth c H locs 0 0 Q (F0 m 30 ls []) := by
    intro σ2 hf H locs ls hl hP hS
    unfold j_X9_possible_30 at hf
    refine lv_iconst (v := 0) hx hb dX9_possible_30 (by decide) ?_
    refine lv_istore_n (lv' := [(2, .int 0), (0, .ref (a 81)), (1, .int u1.1)]) hx hb dX9_possible_31 rfl hl (by decide) rfl (fun ls hl => ?_)
    refine loopN_ind (P := fun (q3 : Int32 × Int32 × PH) => ∀ (H : Heap) (locs : List Loc) (ls : Array Slot), lv_has ls 3 [(0, .ref (a 81)), (1, .int q3.1), (2, .int q3.2.1)] → va_P D vwCl (wl a cA q3.2.2 d) H → va_S A s.heap H locs → W p l e R s m args below meth c H locs 0 0 Q (F0 m 32 ls [])) ?_ _ _ hf _ _ _ (lv_sub hl [1, 2, 0] rfl) hP hS
    intro k4 ihk4 q3 hf H locs ls hl hP hS
    unfold b_X9_possible_32 at hf
    refine lv_iload_n hx hb dX9_possible_32 rfl (lv_at hl 2 rfl) ?_
    refine lv_aload_n hx hb dX9_possible_33 rfl (lv_at hl 0 rfl) ?_
    refine zg_X9_123 hx hb C hP (by decide) lay_81 rfl dX9_possible_34 ?_
    refine lv_icmp_ge (tgt := 64) hx hb dX9_possible_37 (by decide) (fun hb4 => ?_) (fun hb4 => ?_)
    · have hf := ifT hb4 hf
      refine lv_iload_n hx hb dX9_possible_64 rfl (lv_at hl 1 rfl) ?_
      have hf := Option.some.inj hf
      subst hf
      exact hQ _ _ _ _ dX9_possible_65 hP hS
    · have hf := ifF hb4 hf
      refine lv_aload_n hx hb dX9_possible_40 rfl (lv_at hl 0 rfl) ?_
      refine lv_iload_n hx hb dX9_possible_41 rfl (lv_at hl 1 rfl) ?_
      refine lv_aload_n hx hb dX9_possible_42 rfl (lv_at hl 0 rfl) ?_
      refine zg_X9_38 hx hb C hP (by decide) lay_81 rfl dX9_possible_43 ?_
      refine lv_iload_n hx hb dX9_possible_46 rfl (lv_at hl 2 rfl) ?_
      obtain ⟨hc5, hf⟩ := chk_some hf
      refine zz_iald hx hb C hP (by decide) lay_87 (inb_vp hc5) dX9_possible_47 ?_
      refine lv_aload_n hx hb dX9_possible_48 rfl (lv_at hl 0 rfl) ?_
      refine zg_X9_41 hx hb C hP (by decide) lay_81 rfl dX9_possible_49 ?_
      refine lv_iload_n hx hb dX9_possible_52 rfl (lv_at hl 2 rfl) ?_
      obtain ⟨hc6, hf⟩ := chk_some hf
      refine zz_iald hx hb C hP (by decide) lay_88 (inb_vp hc6) dX9_possible_53 ?_
      obtain ⟨u8, hzu8, hf⟩ := obd_some hf
      refine zz_callVi (rest := []) hx hb hml C hP hS (c_X9_stays l hDA q3.1 (gI q3.2.2 87 q3.2.1.toNatClampNeg) (gI q3.2.2 88 q3.2.1.toNatClampNeg) hzu8) zw_X9_236 ⟨Nat.le_trans (Nat.le_of_ble_eq_true rfl) hRf, Nat.le_trans (Nat.le_of_ble_eq_true rfl) hRl⟩ (by decide) lay_81 rfl rfl hl.1 (Nat.le_of_ble_eq_true rfl) ⟨Nat.zero_le _, Nat.zero_le _⟩ rfl dX9_possible_54 (fun H locs hP hS => ?_)
      refine lv_istore_n (lv' := [(1, .int u8.1), (0, .ref (a 81)), (2, .int q3.2.1)]) hx hb dX9_possible_57 rfl hl (by decide) rfl (fun ls hl => ?_)
      obtain ⟨v9, ev9⟩ : ∃ z : Int32, z = q3.2.1 + 1 := ⟨_, rfl⟩
      have hf := bnd_at v9 ev9 hf
      refine lv_iinc (v := v9) (lv' := [(2, .int v9), (1, .int u8.1), (0, .ref (a 81))]) hx hb dX9_possible_58 hl (k := 2) rfl (by rw [ev9]; rfl) (by decide) rfl (fun ls hl => ?_)
      refine lv_goto (tgt := 32) hx hb dX9_possible_61 (by decide) ?_
      exact ihk4 _ hf _ _ _ (lv_sub hl [2, 1, 0] rfl) hP hS
  refine loopN_ind (P := fun (q10 : Int32 × PH) => ∀ (H : Heap) (locs : List Loc) (ls : Array Slot), lv_has ls 3 [(0, .ref (a 81)), (1, .int u1.1), (2, .int q10.1)] → va_P D vwCl (wl a cA q10.2 d) H → va_S A s.heap H locs → W p l e R s m args below meth c H locs 0 0 Q (F0 m 7 ls [])) ?_ _ _ hf _ _ _ (lv_sub hl [2, 1, 0] rfl) hP hS
  intro k11 ihk11 q10 hf H locs ls hl hP hS
  unfold b_X9_possible_7 at hf
  refine lv_iload_n hx hb dX9_possible_7 rfl (lv_at hl 2 rfl) ?_
  refine lv_iload_n hx hb dX9_possible_8 rfl (lv_at hl 1 rfl) ?_
  refine lv_icmp_ge (tgt := 30) hx hb dX9_possible_9 (by decide) (fun hb11 => ?_) (fun hb11 => ?_)
  · have hf := ifT hb11 hf
    exact hJ30 _ hf _ _ _ (lv_sub hl [0, 1] rfl) hP hS
  · have hf := ifF hb11 hf
    refine lv_aload_n hx hb dX9_possible_12 rfl (lv_at hl 0 rfl) ?_
    refine zg_X9_81 hx hb C hP (by decide) lay_81 rfl dX9_possible_13 ?_
    refine lv_iload_n hx hb dX9_possible_16 rfl (lv_at hl 2 rfl) ?_
    refine lv_aload_n hx hb dX9_possible_17 rfl (lv_at hl 0 rfl) ?_
    refine zg_X9_78 hx hb C hP (by decide) lay_81 rfl dX9_possible_18 ?_
    refine lv_iload_n hx hb dX9_possible_21 rfl (lv_at hl 2 rfl) ?_
    obtain ⟨hc12, hf⟩ := chk_some hf
    refine zz_iald hx hb C hP (by decide) lay_100 (inb_vp hc12) dX9_possible_22 ?_
    obtain ⟨hc13, hf⟩ := chk_some hf
    refine zz_iast hx hb C hP hS (by decide) lay_101 (inb_vp hc13) dX9_possible_23 (fun σ15 eσ15 H locs hP hS => ?_)
    have hf := bnd_at σ15 eσ15 hf
    obtain ⟨v16, ev16⟩ : ∃ z : Int32, z = q10.1 + 1 := ⟨_, rfl⟩
    have hf := bnd_at v16 ev16 hf
    refine lv_iinc (v := v16) (lv' := [(2, .int v16), (0, .ref (a 81)), (1, .int u1.1)]) hx hb dX9_possible_24 hl (k := 2) rfl (by rw [ev16]; rfl) (by decide) rfl (fun ls hl => ?_)
    refine lv_goto (tgt := 7) hx hb dX9_possible_27 (by decide) ?_
    exact ihk11 _ hf _ _ _ (lv_sub hl [1, 2, 0] rfl) hP hS
set_option maxHeartbeats 4000000 in
set_option maxRecDepth 100000 in
theorem c_X9_weight (l : Launch) {D : va_G} {a : Nat → Nat} {cA : Nat → ClassId} {A : Nat → Prop} {sa : Nat → Nat} (hDA : DA a A) {σ : PH} {d : PD} (p1 : Int32) {u : Int32} (hf : f_X9_weight σ p1 = some u) : CTi l yX9_weight cX9_weight 4 (some .int) 1 22 D a cA A sa [.ref (a 81), .int p1] σ d u σ d := by
  refine zz_metI zpl_X9 hDA (Nat.le_of_ble_eq_true rfl) ?_
  intro p e R s m args below meth c Q ls hx hb hml C hRf hRl hQ hP hS hl
  have hl : lv_has ls 4 [(0, .ref (a 81)), (1, .int p1)] := hl
  unfold f_X9_weight at hf
  refine lv_iconst (v := 1) hx hb dX9_weight_0 (by decide) ?_
  refine lv_istore_n (lv' := [(2, .int 1), (0, .ref (a 81)), (1, .int p1)]) hx hb dX9_weight_1 rfl hl (by decide) rfl (fun ls hl => ?_)
  refine lv_iconst (v := 0) hx hb dX9_weight_2 (by decide) ?_
  refine lv_istore_n (lv' := [(3, .int 0), (2, .int 1), (0, .ref (a 81)), (1, .int p1)]) hx hb dX9_weight_3 rfl hl (by decide) rfl (fun ls hl => ?_)
  refine loopN_ind (P := fun (q1 : Int32 × Int32) => ∀ (H : Heap) (locs : List Loc) (ls : Array Slot), lv_has ls 4 [(0, .ref (a 81)), (1, .int p1), (2, .int q1.1), (3, .int q1.2)] → va_P D vwCl (wl a cA σ d) H → va_S A s.heap H locs → W p l e R s m args below meth c H locs 0 0 Q (F0 m 4 ls [])) ?_ _ _ hf _ _ _ (lv_sub hl [2, 3, 1, 0] rfl) hP hS
  intro k2 ihk2 q1 hf H locs ls hl hP hS
  unfold b_X9_weight_4 at hf
  refine lv_iload_n hx hb dX9_weight_4 rfl (lv_at hl 3 rfl) ?_
  refine lv_aload_n hx hb dX9_weight_5 rfl (lv_at hl 0 rfl) ?_
  refine zg_X9_96 hx hb C hP (by decide) lay_81 rfl dX9_weight_6 ?_
  refine lv_icmp_ge (tgt := 36) hx hb dX9_weight_9 (by decide) (fun hb2 => ?_) (fun hb2 => ?_)
  · have hf := ifT hb2 hf
    refine lv_iload_n hx hb dX9_weight_36 rfl (lv_at hl 2 rfl) ?_
    have hf := Option.some.inj hf
    subst hf
    exact hQ _ _ _ _ dX9_weight_37 hP hS
  · have hf := ifF hb2 hf
    refine lv_aload_n hx hb dX9_weight_12 rfl (lv_at hl 0 rfl) ?_
    refine lv_iload_n hx hb dX9_weight_13 rfl (lv_at hl 1 rfl) ?_
    refine lv_iload_n hx hb dX9_weight_14 rfl (lv_at hl 3 rfl) ?_
    obtain ⟨u4, hzu4⟩ : ∃ z, z = f_X9_isIn p1 q1.2 := ⟨_, rfl⟩
    have hf := bnd_at u4 hzu4 hf
    refine zz_callVi (rest := []) hx hb hml C hP hS (c_X9_isIn l hDA p1 q1.2 hzu4.symm) zw_X9_214 ⟨Nat.le_trans (Nat.le_of_ble_eq_true rfl) hRf, Nat.le_trans (Nat.le_of_ble_eq_true rfl) hRl⟩ (by decide) lay_81 rfl rfl hl.1 (Nat.le_of_ble_eq_true rfl) ⟨Nat.zero_le _, Nat.zero_le _⟩ rfl dX9_weight_15 (fun H locs hP hS => ?_)
    refine lv_if_eq (tgt := 30) hx hb dX9_weight_18 (by decide) (fun hb4 => ?_) (fun hb4 => ?_)
    · have hf := ifT hb4 hf
      obtain ⟨v6, ev6⟩ : ∃ z : Int32, z = q1.2 + 1 := ⟨_, rfl⟩
      have hf := bnd_at v6 ev6 hf
      refine lv_iinc (v := v6) (lv' := [(3, .int v6), (0, .ref (a 81)), (1, .int p1), (2, .int q1.1)]) hx hb dX9_weight_30 hl (k := 3) rfl (by rw [ev6]; rfl) (by decide) rfl (fun ls hl => ?_)
      refine lv_goto (tgt := 4) hx hb dX9_weight_33 (by decide) ?_
      exact ihk2 _ hf _ _ _ (lv_sub hl [1, 2, 3, 0] rfl) hP hS
    · have hf := ifF hb4 hf
      refine lv_iload_n hx hb dX9_weight_21 rfl (lv_at hl 2 rfl) ?_
      refine lv_aload_n hx hb dX9_weight_22 rfl (lv_at hl 0 rfl) ?_
      refine zg_X9_32 hx hb C hP (by decide) lay_81 rfl dX9_weight_23 ?_
      refine lv_iload_n hx hb dX9_weight_26 rfl (lv_at hl 3 rfl) ?_
      obtain ⟨hc6, hf⟩ := chk_some hf
      refine zz_iald hx hb C hP (by decide) lay_85 (inb_vp hc6) dX9_weight_27 ?_
      refine lv_imul hx hb dX9_weight_28 ?_
      refine lv_topi (fun v8 ev8 => ?_)
      have hf := bnd_at v8 ev8 hf
      refine lv_istore_n (lv' := [(2, .int v8), (0, .ref (a 81)), (1, .int p1), (3, .int q1.2)]) hx hb dX9_weight_29 rfl hl (by decide) rfl (fun ls hl => ?_)
      obtain ⟨v9, ev9⟩ : ∃ z : Int32, z = q1.2 + 1 := ⟨_, rfl⟩
      have hf := bnd_at v9 ev9 hf
      refine lv_iinc (v := v9) (lv' := [(3, .int v9), (2, .int v8), (0, .ref (a 81)), (1, .int p1)]) hx hb dX9_weight_30 hl (k := 3) rfl (by rw [ev9]; rfl) (by decide) rfl (fun ls hl => ?_)
      refine lv_goto (tgt := 4) hx hb dX9_weight_33 (by decide) ?_
      exact ihk2 _ hf _ _ _ (lv_sub hl [2, 3, 1, 0] rfl) hP hS
set_option maxHeartbeats 4000000 in
set_option maxRecDepth 100000 in
theorem c_X9_likely (l : Launch) {D : va_G} {a : Nat → Nat} {cA : Nat → ClassId} {A : Nat → Prop} {sa : Nat → Nat} (hDA : DA a A) {σ : PH} {d : PD} (p1 : Int32) {u : Int32 × PH} (hf : f_X9_likely σ p1 = some u) : CTi l yX9_likely cX9_likely 7 (some .int) 6 140 D a cA A sa [.ref (a 81), .int p1] σ d u.1 u.2 d := by
  refine zz_metI zpl_X9 hDA (Nat.le_of_ble_eq_true rfl) ?_
  intro p e R s m args below meth c Q ls hx hb hml C hRf hRl hQ hP hS hl
  have hl : lv_has ls 7 [(0, .ref (a 81)), (1, .int p1)] := hl
  unfold f_X9_likely at hf
  refine lv_aload_n hx hb dX9_likely_0 rfl (lv_at hl 0 rfl) ?_
  obtain ⟨u1, hzu1, hf⟩ := obd_some hf
  refine zz_callVi (rest := []) hx hb hml C hP hS (c_X9_possible l hDA  hzu1) zw_X9_239 ⟨Nat.le_trans (Nat.le_of_ble_eq_true rfl) hRf, Nat.le_trans (Nat.le_of_ble_eq_true rfl) hRl⟩ (by decide) lay_81 rfl rfl hl.1 (Nat.le_of_ble_eq_true rfl) ⟨Nat.zero_le _, Nat.zero_le _⟩ rfl dX9_likely_1 (fun H locs hP hS => ?_)
  refine lv_istore_n (lv' := [(2, .int u1.1), (0, .ref (a 81)), (1, .int p1)]) hx hb dX9_likely_4 rfl hl (by decide) rfl (fun ls hl => ?_)
  refine lv_iconst (v := 0) hx hb dX9_likely_5 (by decide) ?_
  refine lv_istore_n (lv' := [(3, .int 0), (2, .int u1.1), (0, .ref (a 81)), (1, .int p1)]) hx hb dX9_likely_6 rfl hl (by decide) rfl (fun ls hl => ?_)
  refine lv_iconst (v := 0) hx hb dX9_likely_7 (by decide) ?_
  refine lv_istore (lv' := [(4, .int 0), (3, .int 0), (2, .int u1.1), (0, .ref (a 81)), (1, .int p1)]) hx hb dX9_likely_8 hl (by decide) rfl (fun ls hl => ?_)
  refine lv_iconst (v := 0) hx hb dX9_likely_10 (by decide) ?_
  refine lv_istore (lv' := [(5, .int 0), (4, .int 0), (3, .int 0), (2, .int u1.1), (0, .ref (a 81)), (1, .int p1)]) hx hb dX9_likely_11 hl (by decide) rfl (fun ls hl => ?_)
  have hJ65 : ∀ (v2 : Int32) (v3 : Int32), j_X9_likely_65 u1 v2 v3 = some u → ∀ (H : Heap) (locs : List Loc) (ls : Array Slot), lv_has ls 7 [(3, .int v2), (4, .int v3)] → va_P D vwCl (wl a cA u1.2 d) H → va_S A s.heap H locs → W p l e R s m args below meth c H locs 0 0 Q (F0 m 65 ls []) := by
    intro v2 v3 hf H locs ls hl hP hS
    unfold j_X9_likely_65 at hf
    refine lv_iload hx hb dX9_likely_65 (lv_at hl 1 rfl) ?_
    refine lv_if_ne (tgt := 74) hx hb dX9_likely_67 (by decide) (fun hb3 => ?_) (fun hb3 => ?_)
    · have hf := ifF hb3 hf
      refine lv_sipush (v := 1000) hx hb dX9_likely_74 (by decide) ?_
      refine lv_iload_n hx hb dX9_likely_77 rfl (lv_at hl 0 rfl) ?_
      refine lv_imul hx hb dX9_likely_78 ?_
      refine lv_iload hx hb dX9_likely_79 (lv_at hl 1 rfl) ?_
      obtain ⟨hc5, hf⟩ := chk_some hf
      refine lv_idiv hx hb dX9_likely_81 hc5 ?_
      have hf := Option.some.inj hf
      subst hf
      exact hQ _ _ _ _ dX9_likely_82 hP hS
    · have hf := ifT hb3 hf
      refine lv_iconst (v := 0) hx hb dX9_likely_70 (by decide) ?_
      refine lv_goto (tgt := 82) hx hb dX9_likely_71 (by decide) ?_
      have hf := Option.some.inj hf
      subst hf
      exact hQ _ _ _ _ dX9_likely_82 hP hS
  refine loopN_ind (P := fun (q6 : Int32 × Int32 × Int32) => ∀ (H : Heap) (locs : List Loc) (ls : Array Slot), lv_has ls 7 [(0, .ref (a 81)), (1, .int p1), (2, .int u1.1), (3, .int q6.1), (4, .int q6.2.1), (5, .int q6.2.2)] → va_P D vwCl (wl a cA u1.2 d) H → va_S A s.heap H locs → W p l e R s m args below meth c H locs 0 0 Q (F0 m 13 ls [])) ?_ _ _ hf _ _ _ (lv_sub hl [4, 5, 3, 2, 1, 0] rfl) hP hS
  intro k7 ihk7 q6 hf H locs ls hl hP hS
  unfold b_X9_likely_13 at hf
  refine lv_iload hx hb dX9_likely_13 (lv_at hl 5 rfl) ?_
  refine lv_iload_n hx hb dX9_likely_15 rfl (lv_at hl 2 rfl) ?_
  refine lv_icmp_ge (tgt := 65) hx hb dX9_likely_16 (by decide) (fun hb7 => ?_) (fun hb7 => ?_)
  · have hf := ifT hb7 hf
    exact hJ65 _ _ hf _ _ _ (lv_sub hl [3, 4] rfl) hP hS
  · have hf := ifF hb7 hf
    refine lv_aload_n hx hb dX9_likely_19 rfl (lv_at hl 0 rfl) ?_
    refine lv_aload_n hx hb dX9_likely_20 rfl (lv_at hl 0 rfl) ?_
    refine zg_X9_81 hx hb C hP (by decide) lay_81 rfl dX9_likely_21 ?_
    refine lv_iload hx hb dX9_likely_24 (lv_at hl 5 rfl) ?_
    obtain ⟨hc8, hf⟩ := chk_some hf
    refine zz_iald hx hb C hP (by decide) lay_101 (inb_vp hc8) dX9_likely_26 ?_
    obtain ⟨u10, hzu10, hf⟩ := obd_some hf
    refine zz_callVi (rest := []) hx hb hml C hP hS (c_X9_weight l hDA (gI u1.2 101 q6.2.2.toNatClampNeg) hzu10) zw_X9_245 ⟨Nat.le_trans (Nat.le_of_ble_eq_true rfl) hRf, Nat.le_trans (Nat.le_of_ble_eq_true rfl) hRl⟩ (by decide) lay_81 rfl rfl hl.1 (Nat.le_of_ble_eq_true rfl) ⟨Nat.zero_le _, Nat.zero_le _⟩ rfl dX9_likely_27 (fun H locs hP hS => ?_)
    refine lv_istore (lv' := [(6, .int u10), (0, .ref (a 81)), (1, .int p1), (2, .int u1.1), (3, .int q6.1), (4, .int q6.2.1), (5, .int q6.2.2)]) hx hb dX9_likely_30 hl (by decide) rfl (fun ls hl => ?_)
    refine lv_iload hx hb dX9_likely_32 (lv_at hl 5 rfl) ?_
    refine lv_iload hx hb dX9_likely_34 (lv_at hl 0 rfl) ?_
    refine lv_iadd hx hb dX9_likely_36 ?_
    refine lv_topi (fun v11 ev11 => ?_)
    have hf := bnd_at v11 ev11 hf
    refine lv_istore (lv' := [(4, .int v11), (6, .int u10), (0, .ref (a 81)), (1, .int p1), (2, .int u1.1), (3, .int q6.1), (5, .int q6.2.2)]) hx hb dX9_likely_37 hl (by decide) rfl (fun ls hl => ?_)
    refine lv_aload_n hx hb dX9_likely_39 rfl (lv_at hl 2 rfl) ?_
    refine lv_aload_n hx hb dX9_likely_40 rfl (lv_at hl 2 rfl) ?_
    refine zg_X9_81 hx hb C hP (by decide) lay_81 rfl dX9_likely_41 ?_
    refine lv_iload hx hb dX9_likely_44 (lv_at hl 6 rfl) ?_
    obtain ⟨hc11, hf⟩ := chk_some hf
    refine zz_iald hx hb C hP (by decide) lay_101 (inb_vp hc11) dX9_likely_46 ?_
    refine lv_iload_n hx hb dX9_likely_47 rfl (lv_at hl 3 rfl) ?_
    obtain ⟨u13, hzu13⟩ : ∃ z, z = f_X9_isIn (gI u1.2 101 q6.2.2.toNatClampNeg) p1 := ⟨_, rfl⟩
    have hf := bnd_at u13 hzu13 hf
    refine zz_callVi (rest := []) hx hb hml C hP hS (c_X9_isIn l hDA (gI u1.2 101 q6.2.2.toNatClampNeg) p1 hzu13.symm) zw_X9_214 ⟨Nat.le_trans (Nat.le_of_ble_eq_true rfl) hRf, Nat.le_trans (Nat.le_of_ble_eq_true rfl) hRl⟩ (by decide) lay_81 rfl rfl hl.1 (Nat.le_of_ble_eq_true rfl) ⟨Nat.zero_le _, Nat.zero_le _⟩ rfl dX9_likely_48 (fun H locs hP hS => ?_)
    refine lv_if_eq (tgt := 59) hx hb dX9_likely_51 (by decide) (fun hb13 => ?_) (fun hb13 => ?_)
    · have hf := ifT hb13 hf
      obtain ⟨v15, ev15⟩ : ∃ z : Int32, z = q6.2.2 + 1 := ⟨_, rfl⟩
      have hf := bnd_at v15 ev15 hf
      refine lv_iinc (v := v15) (lv' := [(5, .int v15), (4, .int v11), (6, .int u10), (0, .ref (a 81)), (1, .int p1), (2, .int u1.1), (3, .int q6.1)]) hx hb dX9_likely_59 hl (k := 6) rfl (by rw [ev15]; rfl) (by decide) rfl (fun ls hl => ?_)
      refine lv_goto (tgt := 13) hx hb dX9_likely_62 (by decide) ?_
      exact ihk7 _ hf _ _ _ (lv_sub hl [3, 4, 5, 6, 1, 0] rfl) hP hS
    · have hf := ifF hb13 hf
      refine lv_iload_n hx hb dX9_likely_54 rfl (lv_at hl 5 rfl) ?_
      refine lv_iload hx hb dX9_likely_55 (lv_at hl 1 rfl) ?_
      refine lv_iadd hx hb dX9_likely_57 ?_
      refine lv_topi (fun v16 ev16 => ?_)
      have hf := bnd_at v16 ev16 hf
      refine lv_istore_n (lv' := [(3, .int v16), (4, .int v11), (6, .int u10), (0, .ref (a 81)), (1, .int p1), (2, .int u1.1), (5, .int q6.2.2)]) hx hb dX9_likely_58 rfl hl (by decide) rfl (fun ls hl => ?_)
      obtain ⟨v17, ev17⟩ : ∃ z : Int32, z = q6.2.2 + 1 := ⟨_, rfl⟩
      have hf := bnd_at v17 ev17 hf
      refine lv_iinc (v := v17) (lv' := [(5, .int v17), (3, .int v16), (4, .int v11), (6, .int u10), (0, .ref (a 81)), (1, .int p1), (2, .int u1.1)]) hx hb dX9_likely_59 hl (k := 6) rfl (by rw [ev17]; rfl) (by decide) rfl (fun ls hl => ?_)
      refine lv_goto (tgt := 13) hx hb dX9_likely_62 (by decide) ?_
      exact ihk7 _ hf _ _ _ (lv_sub hl [4, 5, 6, 1, 2, 0] rfl) hP hS
set_option maxHeartbeats 4000000 in
set_option maxRecDepth 100000 in
theorem c_X9_singerOf (l : Launch) {D : va_G} {a : Nat → Nat} {cA : Nat → ClassId} {A : Nat → Prop} {sa : Nat → Nat} (hDA : DA a A) {σ : PH} {d : PD} (p1 : Int32) (p2 : Int32) {u : Int32 × PH} (hf : f_X9_singerOf σ p1 p2 = some u) : CTi l yX9_singerOf cX9_singerOf 3 (some .int) 7 166 D a cA A sa [.ref (a 81), .int p1, .int p2] σ d u.1 u.2 d := by
  refine zz_metI zpl_X9 hDA (Nat.le_of_ble_eq_true rfl) ?_
  intro p e R s m args below meth c Q ls hx hb hml C hRf hRl hQ hP hS hl
  have hl : lv_has ls 3 [(0, .ref (a 81)), (1, .int p1), (2, .int p2)] := hl
  unfold f_X9_singerOf at hf
  refine lv_aload_n hx hb dX9_singerOf_0 rfl (lv_at hl 0 rfl) ?_
  refine lv_iload_n hx hb dX9_singerOf_1 rfl (lv_at hl 1 rfl) ?_
  obtain ⟨u1, hzu1⟩ : ∃ z, z = f_X9_isSinger σ p1 := ⟨_, rfl⟩
  have hf := bnd_at u1 hzu1 hf
  refine zz_callVi (rest := []) hx hb hml C hP hS (c_X9_isSinger l hDA p1 hzu1.symm) zw_X9_111 ⟨Nat.le_trans (Nat.le_of_ble_eq_true rfl) hRf, Nat.le_trans (Nat.le_of_ble_eq_true rfl) hRl⟩ (by decide) lay_81 rfl rfl hl.1 (Nat.le_of_ble_eq_true rfl) ⟨Nat.zero_le _, Nat.zero_le _⟩ rfl dX9_singerOf_2 (fun H locs hP hS => ?_)
  refine lv_if_ne (tgt := 15) hx hb dX9_singerOf_5 (by decide) (fun hb1 => ?_) (fun hb1 => ?_)
  · have hf := ifF hb1 hf
    refine lv_iload_n hx hb dX9_singerOf_15 rfl (lv_at hl 2 rfl) ?_
    by_cases hb2 : p2 = 0
    · have hf := ifT hb2 hf
      refine lv_tableIn (tgt := 52) hx hb dX9_singerOf_16 (by rw [hb2]; decide) (by rw [hb2]; decide) (by rw [hb2]; rfl) (by decide) ?_
      refine lv_aload_n hx hb dX9_singerOf_52 rfl (lv_at hl 0 rfl) ?_
      refine zg_X9_26 hx hb C hP (by decide) lay_81 rfl dX9_singerOf_53 ?_
      refine lv_iload_n hx hb dX9_singerOf_56 rfl (lv_at hl 1 rfl) ?_
      obtain ⟨hc3, hf⟩ := chk_some hf
      refine zz_iald hx hb C hP (by decide) lay_83 (inb_vp hc3) dX9_singerOf_57 ?_
      have hf := Option.some.inj hf
      subst hf
      exact hQ _ _ _ _ dX9_singerOf_58 hP hS
    have hf := ifF hb2 hf
    by_cases hb4 : p2 = 1
    · have hf := ifT hb4 hf
      refine lv_tableIn (tgt := 59) hx hb dX9_singerOf_16 (by rw [hb4]; decide) (by rw [hb4]; decide) (by rw [hb4]; rfl) (by decide) ?_
      refine lv_aload_n hx hb dX9_singerOf_59 rfl (lv_at hl 0 rfl) ?_
      refine zg_X9_29 hx hb C hP (by decide) lay_81 rfl dX9_singerOf_60 ?_
      refine lv_iload_n hx hb dX9_singerOf_63 rfl (lv_at hl 1 rfl) ?_
      obtain ⟨hc5, hf⟩ := chk_some hf
      refine zz_iald hx hb C hP (by decide) lay_84 (inb_vp hc5) dX9_singerOf_64 ?_
      have hf := Option.some.inj hf
      subst hf
      exact hQ _ _ _ _ dX9_singerOf_65 hP hS
    have hf := ifF hb4 hf
    by_cases hb6 : p2 = 2
    · have hf := ifT hb6 hf
      refine lv_tableIn (tgt := 66) hx hb dX9_singerOf_16 (by rw [hb6]; decide) (by rw [hb6]; decide) (by rw [hb6]; rfl) (by decide) ?_
      refine lv_aload_n hx hb dX9_singerOf_66 rfl (lv_at hl 0 rfl) ?_
      refine zg_X9_32 hx hb C hP (by decide) lay_81 rfl dX9_singerOf_67 ?_
      refine lv_iload_n hx hb dX9_singerOf_70 rfl (lv_at hl 1 rfl) ?_
      obtain ⟨hc7, hf⟩ := chk_some hf
      refine zz_iald hx hb C hP (by decide) lay_85 (inb_vp hc7) dX9_singerOf_71 ?_
      have hf := Option.some.inj hf
      subst hf
      exact hQ _ _ _ _ dX9_singerOf_72 hP hS
    have hf := ifF hb6 hf
    by_cases hb8 : p2 = 3
    · have hf := ifT hb8 hf
      refine lv_tableIn (tgt := 73) hx hb dX9_singerOf_16 (by rw [hb8]; decide) (by rw [hb8]; decide) (by rw [hb8]; rfl) (by decide) ?_
      refine lv_aload_n hx hb dX9_singerOf_73 rfl (lv_at hl 0 rfl) ?_
      refine zg_X9_35 hx hb C hP (by decide) lay_81 rfl dX9_singerOf_74 ?_
      refine lv_iload_n hx hb dX9_singerOf_77 rfl (lv_at hl 1 rfl) ?_
      obtain ⟨hc9, hf⟩ := chk_some hf
      refine zz_iald hx hb C hP (by decide) lay_86 (inb_vp hc9) dX9_singerOf_78 ?_
      have hf := Option.some.inj hf
      subst hf
      exact hQ _ _ _ _ dX9_singerOf_79 hP hS
    have hf := ifF hb8 hf
    by_cases hb10 : p2 = 4
    · have hf := ifT hb10 hf
      refine lv_tableIn (tgt := 80) hx hb dX9_singerOf_16 (by rw [hb10]; decide) (by rw [hb10]; decide) (by rw [hb10]; rfl) (by decide) ?_
      refine lv_aload_n hx hb dX9_singerOf_80 rfl (lv_at hl 0 rfl) ?_
      refine lv_iload_n hx hb dX9_singerOf_81 rfl (lv_at hl 1 rfl) ?_
      obtain ⟨u12, hzu12, hf⟩ := obd_some hf
      refine zz_callVi (rest := []) hx hb hml C hP hS (c_X9_likely l hDA p1 hzu12) zw_X9_133 ⟨Nat.le_trans (Nat.le_of_ble_eq_true rfl) hRf, Nat.le_trans (Nat.le_of_ble_eq_true rfl) hRl⟩ (by decide) lay_81 rfl rfl hl.1 (Nat.le_of_ble_eq_true rfl) ⟨Nat.zero_le _, Nat.zero_le _⟩ rfl dX9_singerOf_82 (fun H locs hP hS => ?_)
      have hf := Option.some.inj hf
      subst hf
      exact hQ _ _ _ _ dX9_singerOf_85 hP hS
    have hf := ifF hb10 hf
    refine lv_tableOut (tgt := 86) hx hb dX9_singerOf_16 (sw_0_4 hb2 hb4 hb6 hb8 hb10) (by decide) ?_
    refine lv_aload_n hx hb dX9_singerOf_86 rfl (lv_at hl 0 rfl) ?_
    refine lv_bipush (v := (-5)) hx hb dX9_singerOf_87 (by decide) ?_
    obtain ⟨u13, hzu13, hf⟩ := obd_some hf
    refine zz_callVi (rest := []) hx hb hml C hP hS (c_X9_no l hDA (-5) hzu13) zw_X9_107 ⟨Nat.le_trans (Nat.le_of_ble_eq_true rfl) hRf, Nat.le_trans (Nat.le_of_ble_eq_true rfl) hRl⟩ (by decide) lay_81 rfl rfl hl.1 (Nat.le_of_ble_eq_true rfl) ⟨Nat.zero_le _, Nat.zero_le _⟩ rfl dX9_singerOf_89 (fun H locs hP hS => ?_)
    have hf := Option.some.inj hf
    subst hf
    exact hQ _ _ _ _ dX9_singerOf_92 hP hS
  · have hf := ifT hb1 hf
    refine lv_aload_n hx hb dX9_singerOf_8 rfl (lv_at hl 0 rfl) ?_
    refine lv_bipush (v := (-5)) hx hb dX9_singerOf_9 (by decide) ?_
    obtain ⟨u14, hzu14, hf⟩ := obd_some hf
    refine zz_callVi (rest := []) hx hb hml C hP hS (c_X9_no l hDA (-5) hzu14) zw_X9_107 ⟨Nat.le_trans (Nat.le_of_ble_eq_true rfl) hRf, Nat.le_trans (Nat.le_of_ble_eq_true rfl) hRl⟩ (by decide) lay_81 rfl rfl hl.1 (Nat.le_of_ble_eq_true rfl) ⟨Nat.zero_le _, Nat.zero_le _⟩ rfl dX9_singerOf_11 (fun H locs hP hS => ?_)
    have hf := Option.some.inj hf
    subst hf
    exact hQ _ _ _ _ dX9_singerOf_14 hP hS
