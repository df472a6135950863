set_option maxHeartbeats 4000000 in
set_option maxRecDepth 100000 in
theorem c_X6_traced (l : Launch) {D : va_G} {a : Nat → Nat} {cA : Nat → ClassId} {A : Nat → Prop} {sa : Nat → Nat} (hDA : DA a A) {σ : PH} {d : PD} (p1 : Int32) {u : Int32} (hf : f_X6_traced σ p1 = some u) : CTi l yX6_traced cX6_traced 2 (some .int) 0 0 D a cA A sa [.ref (a 3), .int p1] σ d u σ d := by
  refine zz_metI zpl_X6 hDA (Nat.le_of_ble_eq_true rfl) ?_
  intro p e R s m args below meth c Q ls hx hb hml C hRf hRl hQ hP hS hl
  have hl : lv_has ls 2 [(0, .ref (a 3)), (1, .int p1)] := hl
  unfold f_X6_traced at hf
  refine lv_iload_n hx hb dX6_traced_0 rfl (lv_at hl 1 rfl) ?_
  refine lv_if_lt (tgt := 27) hx hb dX6_traced_1 (by decide) (fun hb0 => ?_) (fun hb0 => ?_)
  · have hf := ifT hb0 hf
    refine lv_iconst (v := (-1)) hx hb dX6_traced_27 (by decide) ?_
    have hf := Option.some.inj hf
    subst hf
    exact hQ _ _ _ _ dX6_traced_28 hP hS
  · have hf := ifF hb0 hf
    refine lv_iload_n hx hb dX6_traced_4 rfl (lv_at hl 1 rfl) ?_
    refine lv_bipush (v := 20) hx hb dX6_traced_5 (by decide) ?_
    refine lv_icmp_ge (tgt := 27) hx hb dX6_traced_7 (by decide) (fun hb1 => ?_) (fun hb1 => ?_)
    · have hf := ifT hb1 hf
      refine lv_iconst (v := (-1)) hx hb dX6_traced_27 (by decide) ?_
      have hf := Option.some.inj hf
      subst hf
      exact hQ _ _ _ _ dX6_traced_28 hP hS
    · have hf := ifF hb1 hf
      refine lv_iload_n hx hb dX6_traced_10 rfl (lv_at hl 1 rfl) ?_
      refine lv_aload_n hx hb dX6_traced_11 rfl (lv_at hl 0 rfl) ?_
      refine zg_X6_15 hx hb C hP (by decide) lay_3 rfl dX6_traced_12 ?_
      refine lv_icmp_ge (tgt := 27) hx hb dX6_traced_15 (by decide) (fun hb2 => ?_) (fun hb2 => ?_)
      · have hf := ifT hb2 hf
        refine lv_iconst (v := (-1)) hx hb dX6_traced_27 (by decide) ?_
        have hf := Option.some.inj hf
        subst hf
        exact hQ _ _ _ _ dX6_traced_28 hP hS
      · have hf := ifF hb2 hf
        refine lv_aload_n hx hb dX6_traced_18 rfl (lv_at hl 0 rfl) ?_
        refine zg_X6_11 hx hb C hP (by decide) lay_3 rfl dX6_traced_19 ?_
        refine lv_iload_n hx hb dX6_traced_22 rfl (lv_at hl 1 rfl) ?_
        obtain ⟨hc3, hf⟩ := chk_some hf
        refine zz_iald hx hb C hP (by decide) lay_4 (inb_vp hc3) dX6_traced_23 ?_
        refine lv_goto (tgt := 28) hx hb dX6_traced_24 (by decide) ?_
        have hf := Option.some.inj hf
        subst hf
        exact hQ _ _ _ _ dX6_traced_28 hP hS
set_option maxHeartbeats 4000000 in
set_option maxRecDepth 100000 in
theorem c_X6_note (l : Launch) {D : va_G} {a : Nat → Nat} {cA : Nat → ClassId} {A : Nat → Prop} {sa : Nat → Nat} (hDA : DA a A) {σ : PH} {d : PD} (p1 : Int32) {u : PH} (hf : f_X6_note σ p1 = some u) : CTv l yX6_note cX6_note 2 none 0 0 D a cA A sa [.ref (a 3), .int p1] σ d u d := by
  refine zz_metV zpl_X6 hDA (Nat.le_of_ble_eq_true rfl) ?_
  intro p e R s m args below meth c Q ls hx hb hml C hRf hRl hQ hP hS hl
  have hl : lv_has ls 2 [(0, .ref (a 3)), (1, .int p1)] := hl
  unfold f_X6_note at hf
  refine lv_aload_n hx hb dX6_note_0 rfl (lv_at hl 0 rfl) ?_
  refine zg_X6_15 hx hb C hP (by decide) lay_3 rfl dX6_note_1 ?_
  refine lv_bipush (v := 20) hx hb dX6_note_4 (by decide) ?_
  refine lv_icmp_ge (tgt := 19) hx hb dX6_note_6 (by decide) (fun hb0 => ?_) (fun hb0 => ?_)
  · have hf := ifT hb0 hf
    refine lv_aload_n hx hb dX6_note_19 rfl (lv_at hl 0 rfl) ?_
    refine lv_dup hx hb dX6_note_20 rfl ?_
    refine zg_X6_15 hx hb C hP (by decide) lay_3 rfl dX6_note_21 ?_
    refine lv_iconst (v := 1) hx hb dX6_note_24 (by decide) ?_
    refine lv_iadd hx hb dX6_note_25 ?_
    refine zp_X6_15 hx hb C hP hS (by decide) lay_3 rfl dX6_note_26 (fun σ2 eσ2 H locs hP hS => ?_)
    have hf := bnd_at σ2 eσ2 hf
    have hf := Option.some.inj hf
    subst hf
    exact hQ _ _ _ _ dX6_note_29 hP hS
  · have hf := ifF hb0 hf
    refine lv_aload_n hx hb dX6_note_9 rfl (lv_at hl 0 rfl) ?_
    refine zg_X6_11 hx hb C hP (by decide) lay_3 rfl dX6_note_10 ?_
    refine lv_aload_n hx hb dX6_note_13 rfl (lv_at hl 0 rfl) ?_
    refine zg_X6_15 hx hb C hP (by decide) lay_3 rfl dX6_note_14 ?_
    refine lv_iload_n hx hb dX6_note_17 rfl (lv_at hl 1 rfl) ?_
    obtain ⟨hc2, hf⟩ := chk_some hf
    refine zz_iast hx hb C hP hS (by decide) lay_4 (inb_vp hc2) dX6_note_18 (fun σ4 eσ4 H locs hP hS => ?_)
    have hf := bnd_at σ4 eσ4 hf
    refine lv_aload_n hx hb dX6_note_19 rfl (lv_at hl 0 rfl) ?_
    refine lv_dup hx hb dX6_note_20 rfl ?_
    refine zg_X6_15 hx hb C hP (by decide) lay_3 rfl dX6_note_21 ?_
    refine lv_iconst (v := 1) hx hb dX6_note_24 (by decide) ?_
    refine lv_iadd hx hb dX6_note_25 ?_
    refine zp_X6_15 hx hb C hP hS (by decide) lay_3 rfl dX6_note_26 (fun σ5 eσ5 H locs hP hS => ?_)
    have hf := bnd_at σ5 eσ5 hf
    have hf := Option.some.inj hf
    subst hf
    exact hQ _ _ _ _ dX6_note_29 hP hS
set_option maxHeartbeats 4000000 in
set_option maxRecDepth 100000 in
theorem c_X6_owner (l : Launch) {D : va_G} {a : Nat → Nat} {cA : Nat → ClassId} {A : Nat → Prop} {sa : Nat → Nat} (hDA : DA a A) {σ : PH} {d : PD} (p1 : Int32) (p2 : Int32) {u : Int32} (hf : f_X6_owner p1 p2 = some u) : CTi l yX6_owner cX6_owner 4 (some .int) 1 20 D a cA A sa [.int p1, .int p2] σ d u σ d := by
  refine zz_metI zpl_X6 hDA (Nat.le_of_ble_eq_true rfl) ?_
  intro p e R s m args below meth c Q ls hx hb hml C hRf hRl hQ hP hS hl
  have hl : lv_has ls 4 [(0, .int p1), (1, .int p2)] := hl
  unfold f_X6_owner at hf
  refine lv_iload_n hx hb dX6_owner_0 rfl (lv_at hl 0 rfl) ?_
  refine lv_istore_n (lv' := [(2, .int p1), (0, .int p1), (1, .int p2)]) hx hb dX6_owner_1 rfl hl (by decide) rfl (fun ls hl => ?_)
  refine lv_iconst (v := 0) hx hb dX6_owner_2 (by decide) ?_
  refine lv_istore_n (lv' := [(3, .int 0), (2, .int p1), (0, .int p1), (1, .int p2)]) hx hb dX6_owner_3 rfl hl (by decide) rfl (fun ls hl => ?_)
  refine loopN_ind (P := fun (q1 : Int32 × Int32) => ∀ (H : Heap) (locs : List Loc) (ls : Array Slot), lv_has ls 4 [(1, .int p2), (2, .int q1.1), (3, .int q1.2)] → va_P D vwCl (wl a cA σ d) H → va_S A s.heap H locs → W p l e R s m args below meth c H locs 0 0 Q (F0 m 4 ls [])) ?_ _ _ hf _ _ _ (lv_sub hl [3, 1, 0] rfl) hP hS
  intro k2 ihk2 q1 hf H locs ls hl hP hS
  unfold b_X6_owner_4 at hf
  refine lv_iload_n hx hb dX6_owner_4 rfl (lv_at hl 2 rfl) ?_
  refine zz_sget hx hb C hS C.2.2.2.1.1 kf_X6_44 dX6_owner_5 ?_
  refine zz_slen (v := 7) hx hb hS C.2.2.2.1.1 (by decide) dX6_owner_8 ?_
  refine lv_icmp_ge (tgt := 45) hx hb dX6_owner_9 (by decide) (fun hb2 => ?_) (fun hb2 => ?_)
  · have hf := ifT hb2 hf
    refine lv_iconst (v := (-1)) hx hb dX6_owner_45 (by decide) ?_
    have hf := Option.some.inj hf
    subst hf
    exact hQ _ _ _ _ dX6_owner_46 hP hS
  · have hf := ifF hb2 hf
    refine lv_iload_n hx hb dX6_owner_12 rfl (lv_at hl 1 rfl) ?_
    obtain ⟨u4, hzu4⟩ : ∃ z, z = f_X0_isKind q1.1 := ⟨_, rfl⟩
    have hf := bnd_at u4 hzu4 hf
    refine zz_callSi (rest := []) hx hb hml C hP hS (c_X0_isKind l hDA q1.1 hzu4.symm) zw_X6_47 ⟨Nat.le_trans (Nat.le_of_ble_eq_true rfl) hRf, Nat.le_trans (Nat.le_of_ble_eq_true rfl) hRl⟩  rfl hl.1 (Nat.le_of_ble_eq_true rfl) ⟨Nat.zero_le _, Nat.zero_le _⟩ rfl dX6_owner_13 (fun H locs hP hS => ?_)
    refine lv_if_eq (tgt := 45) hx hb dX6_owner_16 (by decide) (fun hb4 => ?_) (fun hb4 => ?_)
    · have hf := ifT hb4 hf
      refine lv_iconst (v := (-1)) hx hb dX6_owner_45 (by decide) ?_
      have hf := Option.some.inj hf
      subst hf
      exact hQ _ _ _ _ dX6_owner_46 hP hS
    · have hf := ifF hb4 hf
      refine zz_sget hx hb C hS C.2.2.2.1.2.2.2.2.1 kf_X6_50 dX6_owner_19 ?_
      refine lv_iconst (v := 3) hx hb dX6_owner_22 (by decide) ?_
      refine lv_iload_n hx hb dX6_owner_23 rfl (lv_at hl 1 rfl) ?_
      refine lv_imul hx hb dX6_owner_24 ?_
      refine lv_iload_n hx hb dX6_owner_25 rfl (lv_at hl 0 rfl) ?_
      refine lv_iadd hx hb dX6_owner_26 ?_
      obtain ⟨hc5, hf⟩ := chk_some hf
      refine zz_sald hx hb hS C.2.2.2.1.2.2.2.2.1 (inb_vp hc5) dX6_owner_27 ?_
      refine lv_if_eq (tgt := 33) hx hb dX6_owner_28 (by decide) (fun hb6 => ?_) (fun hb6 => ?_)
      · have hf := ifT hb6 hf
        refine zz_sget hx hb C hS C.2.2.2.1.1 kf_X6_44 dX6_owner_33 ?_
        refine lv_iload_n hx hb dX6_owner_36 rfl (lv_at hl 1 rfl) ?_
        obtain ⟨hc7, hf⟩ := chk_some hf
        refine zz_sald hx hb hS C.2.2.2.1.1 (inb_vp hc7) dX6_owner_37 ?_
        refine lv_topi (fun v9 ev9 => ?_)
        have hf := bnd_at v9 ev9 hf
        refine lv_istore_n (lv' := [(2, .int v9), (1, .int p2), (3, .int q1.2)]) hx hb dX6_owner_38 rfl hl (by decide) rfl (fun ls hl => ?_)
        obtain ⟨v10, ev10⟩ : ∃ z : Int32, z = q1.2 + 1 := ⟨_, rfl⟩
        have hf := bnd_at v10 ev10 hf
        refine lv_iinc (v := v10) (lv' := [(3, .int v10), (2, .int v9), (1, .int p2)]) hx hb dX6_owner_39 hl (k := 2) rfl (by rw [ev10]; rfl) (by decide) rfl (fun ls hl => ?_)
        refine lv_goto (tgt := 4) hx hb dX6_owner_42 (by decide) ?_
        exact ihk2 _ hf _ _ _ (lv_sub hl [2, 1, 0] rfl) hP hS
      · have hf := ifF hb6 hf
        refine lv_iload_n hx hb dX6_owner_31 rfl (lv_at hl 1 rfl) ?_
        have hf := Option.some.inj hf
        subst hf
        exact hQ _ _ _ _ dX6_owner_32 hP hS
set_option maxHeartbeats 4000000 in
set_option maxRecDepth 100000 in
theorem c_X7_indexOf (l : Launch) {D : va_G} {a : Nat → Nat} {cA : Nat → ClassId} {A : Nat → Prop} {sa : Nat → Nat} (hDA : DA a A) {σ : PH} {d : PD} {h : Nat} (hh : isHall h) (p1 : Int32) {u : Int32} (hf : f_X7_indexOf σ h p1 = some u) : CTi l yX7_indexOf cX7_indexOf 3 (some .int) 0 0 D a cA A sa [.ref (a (h + 7)), .int p1] σ d u σ d := by
  refine zz_metI zpl_X7 hDA (Nat.le_of_ble_eq_true rfl) ?_
  intro p e R s m args below meth c Q ls hx hb hml C hRf hRl hQ hP hS hl
  have hl : lv_has ls 3 [(0, .ref (a (h + 7))), (1, .int p1)] := hl
  unfold f_X7_indexOf at hf
  refine lv_iconst (v := 0) hx hb dX7_indexOf_0 (by decide) ?_
  refine lv_istore_n (lv' := [(2, .int 0), (0, .ref (a (h + 7))), (1, .int p1)]) hx hb dX7_indexOf_1 rfl hl (by decide) rfl (fun ls hl => ?_)
  refine loopN_ind (P := fun (q1 : Int32) => ∀ (H : Heap) (locs : List Loc) (ls : Array Slot), lv_has ls 3 [(0, .ref (a (h + 7))), (1, .int p1), (2, .int q1)] → va_P D vwCl (wl a cA σ d) H → va_S A s.heap H locs → W p l e R s m args below meth c H locs 0 0 Q (F0 m 2 ls [])) ?_ _ _ hf _ _ _ (lv_sub hl [1, 2, 0] rfl) hP hS
  intro k2 ihk2 q1 hf H locs ls hl hP hS
  unfold b_X7_indexOf_2 at hf
  refine lv_iload_n hx hb dX7_indexOf_2 rfl (lv_at hl 2 rfl) ?_
  refine lv_aload_n hx hb dX7_indexOf_3 rfl (lv_at hl 0 rfl) ?_
  refine zg_X7_20 hx hb C hP (lth hh 7 (by decide)) (lay_h7 hh) rfl dX7_indexOf_4 ?_
  refine lv_icmp_ge (tgt := 28) hx hb dX7_indexOf_7 (by decide) (fun hb2 => ?_) (fun hb2 => ?_)
  · have hf := ifT hb2 hf
    refine lv_iconst (v := (-1)) hx hb dX7_indexOf_28 (by decide) ?_
    have hf := Option.some.inj hf
    subst hf
    exact hQ _ _ _ _ dX7_indexOf_29 hP hS
  · have hf := ifF hb2 hf
    refine lv_aload_n hx hb dX7_indexOf_10 rfl (lv_at hl 0 rfl) ?_
    refine zg_X7_13 hx hb C hP (lth hh 7 (by decide)) (lay_h7 hh) rfl dX7_indexOf_11 ?_
    refine lv_iload_n hx hb dX7_indexOf_14 rfl (lv_at hl 2 rfl) ?_
    obtain ⟨hc3, hf⟩ := chk_some hf
    refine zz_iald hx hb C hP (lth hh 8 (by decide)) (lay_h8 hh) (inb_vp hc3) dX7_indexOf_15 ?_
    refine lv_iload_n hx hb dX7_indexOf_16 rfl (lv_at hl 1 rfl) ?_
    refine lv_icmp_ne (tgt := 22) hx hb dX7_indexOf_17 (by decide) (fun hb4 => ?_) (fun hb4 => ?_)
    · have hf := ifF hb4 hf
      obtain ⟨v6, ev6⟩ : ∃ z : Int32, z = q1 + 1 := ⟨_, rfl⟩
      have hf := bnd_at v6 ev6 hf
      refine lv_iinc (v := v6) (lv' := [(2, .int v6), (0, .ref (a (h + 7))), (1, .int p1)]) hx hb dX7_indexOf_22 hl (k := 2) rfl (by rw [ev6]; rfl) (by decide) rfl (fun ls hl => ?_)
      refine lv_goto (tgt := 2) hx hb dX7_indexOf_25 (by decide) ?_
      exact ihk2 _ hf _ _ _ (lv_sub hl [1, 2, 0] rfl) hP hS
    · have hf := ifT hb4 hf
      refine lv_iload_n hx hb dX7_indexOf_20 rfl (lv_at hl 2 rfl) ?_
      have hf := Option.some.inj hf
      subst hf
      exact hQ _ _ _ _ dX7_indexOf_21 hP hS
set_option maxHeartbeats 4000000 in
set_option maxRecDepth 100000 in
theorem c_X8_isShelf (l : Launch) {D : va_G} {a : Nat → Nat} {cA : Nat → ClassId} {A : Nat → Prop} {sa : Nat → Nat} (hDA : DA a A) {σ : PH} {d : PD} (p1 : Int32) {u : Int32} (hf : f_X8_isShelf p1 = u) : CTi l yX8_isShelf cX8_isShelf 1 (some .boolean) 0 0 D a cA A sa [.int p1] σ d u σ d := by
  refine zz_metZ zpl_X8 hDA (Nat.le_of_ble_eq_true rfl) ?_
  intro p e R s m args below meth c Q ls hx hb hml C hRf hRl hQ hP hS hl
  have hl : lv_has ls 1 [(0, .int p1)] := hl
  unfold f_X8_isShelf at hf
  refine lv_iload_n hx hb dX8_isShelf_0 rfl (lv_at hl 0 rfl) ?_
  refine lv_if_lt (tgt := 14) hx hb dX8_isShelf_1 (by decide) (fun hb0 => ?_) (fun hb0 => ?_)
  · have hf := ifT hb0 hf
    refine lv_iconst (v := 0) hx hb dX8_isShelf_14 (by decide) ?_
    subst hf
    exact hQ _ _ _ _ dX8_isShelf_15 (show narrow .boolean (.int 0) = .int 0 from rfl) hP hS
  · have hf := ifF hb0 hf
    refine lv_iload_n hx hb dX8_isShelf_4 rfl (lv_at hl 0 rfl) ?_
    refine lv_bipush (v := 8) hx hb dX8_isShelf_5 (by decide) ?_
    refine lv_icmp_ge (tgt := 14) hx hb dX8_isShelf_7 (by decide) (fun hb1 => ?_) (fun hb1 => ?_)
    · have hf := ifT hb1 hf
      refine lv_iconst (v := 0) hx hb dX8_isShelf_14 (by decide) ?_
      subst hf
      exact hQ _ _ _ _ dX8_isShelf_15 (show narrow .boolean (.int 0) = .int 0 from rfl) hP hS
    · have hf := ifF hb1 hf
      refine lv_iconst (v := 1) hx hb dX8_isShelf_10 (by decide) ?_
      refine lv_goto (tgt := 15) hx hb dX8_isShelf_11 (by decide) ?_
      subst hf
      exact hQ _ _ _ _ dX8_isShelf_15 (show narrow .boolean (.int 1) = .int 1 from rfl) hP hS
set_option maxHeartbeats 4000000 in
set_option maxRecDepth 100000 in
theorem c_X8_refuse (l : Launch) {D : va_G} {a : Nat → Nat} {cA : Nat → ClassId} {A : Nat → Prop} {sa : Nat → Nat} (hDA : DA a A) {σ : PH} {d : PD} (p1 : Int32) {u : Int32 × PH} (hf : f_X8_refuse σ p1 = some u) : CTi l yX8_refuse cX8_refuse 2 (some .int) 0 0 D a cA A sa [.ref (a 0), .int p1] σ d u.1 u.2 d := by
  refine zz_metI zpl_X8 hDA (Nat.le_of_ble_eq_true rfl) ?_
  intro p e R s m args below meth c Q ls hx hb hml C hRf hRl hQ hP hS hl
  have hl : lv_has ls 2 [(0, .ref (a 0)), (1, .int p1)] := hl
  unfold f_X8_refuse at hf
  refine lv_iload_n hx hb dX8_refuse_0 rfl (lv_at hl 1 rfl) ?_
  refine lv_iconst (v := (-1)) hx hb dX8_refuse_1 (by decide) ?_
  refine lv_icmp_gt (tgt := 22) hx hb dX8_refuse_2 (by decide) (fun hb0 => ?_) (fun hb0 => ?_)
  · have hf := ifT hb0 hf
    refine lv_iload_n hx hb dX8_refuse_22 rfl (lv_at hl 1 rfl) ?_
    have hf := Option.some.inj hf
    subst hf
    exact hQ _ _ _ _ dX8_refuse_23 hP hS
  · have hf := ifF hb0 hf
    refine lv_iload_n hx hb dX8_refuse_5 rfl (lv_at hl 1 rfl) ?_
    refine lv_bipush (v := (-7)) hx hb dX8_refuse_6 (by decide) ?_
    refine lv_icmp_lt (tgt := 22) hx hb dX8_refuse_8 (by decide) (fun hb1 => ?_) (fun hb1 => ?_)
    · have hf := ifT hb1 hf
      refine lv_iload_n hx hb dX8_refuse_22 rfl (lv_at hl 1 rfl) ?_
      have hf := Option.some.inj hf
      subst hf
      exact hQ _ _ _ _ dX8_refuse_23 hP hS
    · have hf := ifF hb1 hf
      refine lv_aload_n hx hb dX8_refuse_11 rfl (lv_at hl 0 rfl) ?_
      refine zg_X8_15 hx hb C hP (by decide) lay_0 rfl dX8_refuse_12 ?_
      refine lv_iload_n hx hb dX8_refuse_15 rfl (lv_at hl 1 rfl) ?_
      refine lv_ineg hx hb dX8_refuse_16 ?_
      refine lv_dup2_11 hx hb dX8_refuse_17 rfl rfl ?_
      obtain ⟨hc2, hf⟩ := chk_some hf
      refine zz_iald hx hb C hP (by decide) lay_2 (inb_vp hc2) dX8_refuse_18 ?_
      refine lv_iconst (v := 1) hx hb dX8_refuse_19 (by decide) ?_
      refine lv_iadd hx hb dX8_refuse_20 ?_
      obtain ⟨hc3, hf⟩ := chk_some hf
      refine zz_iast hx hb C hP hS (by decide) lay_2 (inb_vp hc3) dX8_refuse_21 (fun σ5 eσ5 H locs hP hS => ?_)
      have hf := bnd_at σ5 eσ5 hf
      refine lv_iload_n hx hb dX8_refuse_22 rfl (lv_at hl 1 rfl) ?_
      have hf := Option.some.inj hf
      subst hf
      exact hQ _ _ _ _ dX8_refuse_23 hP hS
set_option maxHeartbeats 4000000 in
set_option maxRecDepth 100000 in
theorem c_X8_row (l : Launch) {D : va_G} {a : Nat → Nat} {cA : Nat → ClassId} {A : Nat → Prop} {sa : Nat → Nat} (hDA : DA a A) {σ : PH} {d : PD} (p1 : Int32) (p2 : Int32) (p3 : Int32) {u : Int32 × PH} (hf : f_X8_row σ p1 p2 p3 = some u) : CTi l yX8_row cX8_row 4 (some .int) 2 44 D a cA A sa [.ref (a 0), .int p1, .int p2, .int p3] σ d u.1 u.2 d := by
  refine zz_metI zpl_X8 hDA (Nat.le_of_ble_eq_true rfl) ?_
  intro p e R s m args below meth c Q ls hx hb hml C hRf hRl hQ hP hS hl
  have hl : lv_has ls 4 [(0, .ref (a 0)), (1, .int p1), (2, .int p2), (3, .int p3)] := hl
  unfold f_X8_row at hf
  refine lv_iload_n hx hb dX8_row_0 rfl (lv_at hl 1 rfl) ?_
  obtain ⟨u1, hzu1⟩ : ∃ z, z = f_X8_isShelf p1 := ⟨_, rfl⟩
  have hf := bnd_at u1 hzu1 hf
  refine zz_callSi (rest := []) hx hb hml C hP hS (c_X8_isShelf l hDA p1 hzu1.symm) zw_X8_69 ⟨Nat.le_trans (Nat.le_of_ble_eq_true rfl) hRf, Nat.le_trans (Nat.le_of_ble_eq_true rfl) hRl⟩  rfl hl.1 (Nat.le_of_ble_eq_true rfl) ⟨Nat.zero_le _, Nat.zero_le _⟩ rfl dX8_row_1 (fun H locs hP hS => ?_)
  refine lv_if_ne (tgt := 13) hx hb dX8_row_4 (by decide) (fun hb1 => ?_) (fun hb1 => ?_)
  · have hf := ifF hb1 hf
    refine lv_iload_n hx hb dX8_row_13 rfl (lv_at hl 3 rfl) ?_
    refine lv_if_ge (tgt := 24) hx hb dX8_row_14 (by decide) (fun hb2 => ?_) (fun hb2 => ?_)
    · have hf := ifT hb2 hf
      refine lv_iload_n hx hb dX8_row_24 rfl (lv_at hl 2 rfl) ?_
      refine lv_if_lt (tgt := 33) hx hb dX8_row_25 (by decide) (fun hb3 => ?_) (fun hb3 => ?_)
      · have hf := ifT hb3 hf
        refine lv_aload_n hx hb dX8_row_33 rfl (lv_at hl 0 rfl) ?_
        refine lv_bipush (v := (-6)) hx hb dX8_row_34 (by decide) ?_
        obtain ⟨u5, hzu5, hf⟩ := obd_some hf
        refine zz_callVi (rest := []) hx hb hml C hP hS (c_X8_refuse l hDA (-6) hzu5) zw_X8_73 ⟨Nat.le_trans (Nat.le_of_ble_eq_true rfl) hRf, Nat.le_trans (Nat.le_of_ble_eq_true rfl) hRl⟩ (by decide) lay_0 rfl rfl hl.1 (Nat.le_of_ble_eq_true rfl) ⟨Nat.zero_le _, Nat.zero_le _⟩ rfl dX8_row_36 (fun H locs hP hS => ?_)
        have hf := Option.some.inj hf
        subst hf
        exact hQ _ _ _ _ dX8_row_39 hP hS
      · have hf := ifF hb3 hf
        refine lv_iload_n hx hb dX8_row_28 rfl (lv_at hl 2 rfl) ?_
        refine lv_iconst (v := 4) hx hb dX8_row_29 (by decide) ?_
        refine lv_icmp_lt (tgt := 40) hx hb dX8_row_30 (by decide) (fun hb5 => ?_) (fun hb5 => ?_)
        · have hf := ifT hb5 hf
          refine lv_iload_n hx hb dX8_row_40 rfl (lv_at hl 3 rfl) ?_
          refine lv_sipush (v := 160) hx hb dX8_row_41 (by decide) ?_
          refine lv_icmp_le (tgt := 54) hx hb dX8_row_44 (by decide) (fun hb6 => ?_) (fun hb6 => ?_)
          · have hf := ifT hb6 hf
            refine lv_aload_n hx hb dX8_row_54 rfl (lv_at hl 0 rfl) ?_
            refine zg_X8_11 hx hb C hP (by decide) lay_0 rfl dX8_row_55 ?_
            refine lv_iload_n hx hb dX8_row_58 rfl (lv_at hl 1 rfl) ?_
            obtain ⟨hc7, hf⟩ := chk_some hf
            refine zz_shelf hx hb C hP (inb_vp hc7) dX8_row_59 (fun r9 er9 hr9 => ?_)
            have hf := bnd_at r9 er9 hf
            refine lv_iload_n hx hb dX8_row_60 rfl (lv_at hl 2 rfl) ?_
            refine lv_iload_n hx hb dX8_row_61 rfl (lv_at hl 3 rfl) ?_
            obtain ⟨u10, hzu10, hf⟩ := obd_some hf
            refine zz_callVv (rest := []) hx hb hml C hP hS (c_X4_begin l hDA (sh0 := r9) hr9 p2 p3 hzu10) zw_X8_77 ⟨Nat.le_trans (Nat.le_of_ble_eq_true rfl) hRf, Nat.le_trans (Nat.le_of_ble_eq_true rfl) hRl⟩ (lts0 hr9) (lay_s0 hr9) rfl rfl hl.1 (Nat.le_of_ble_eq_true rfl) ⟨Nat.zero_le _, Nat.zero_le _⟩ rfl dX8_row_62 (fun H locs hP hS => ?_)
            refine lv_iconst (v := 1) hx hb dX8_row_65 (by decide) ?_
            have hf := Option.some.inj hf
            subst hf
            exact hQ _ _ _ _ dX8_row_66 hP hS
          · have hf := ifF hb6 hf
            refine lv_aload_n hx hb dX8_row_47 rfl (lv_at hl 0 rfl) ?_
            refine lv_bipush (v := (-7)) hx hb dX8_row_48 (by decide) ?_
            obtain ⟨u11, hzu11, hf⟩ := obd_some hf
            refine zz_callVi (rest := []) hx hb hml C hP hS (c_X8_refuse l hDA (-7) hzu11) zw_X8_73 ⟨Nat.le_trans (Nat.le_of_ble_eq_true rfl) hRf, Nat.le_trans (Nat.le_of_ble_eq_true rfl) hRl⟩ (by decide) lay_0 rfl rfl hl.1 (Nat.le_of_ble_eq_true rfl) ⟨Nat.zero_le _, Nat.zero_le _⟩ rfl dX8_row_50 (fun H locs hP hS => ?_)
            have hf := Option.some.inj hf
            subst hf
            exact hQ _ _ _ _ dX8_row_53 hP hS
        · have hf := ifF hb5 hf
          refine lv_aload_n hx hb dX8_row_33 rfl (lv_at hl 0 rfl) ?_
          refine lv_bipush (v := (-6)) hx hb dX8_row_34 (by decide) ?_
          obtain ⟨u12, hzu12, hf⟩ := obd_some hf
          refine zz_callVi (rest := []) hx hb hml C hP hS (c_X8_refuse l hDA (-6) hzu12) zw_X8_73 ⟨Nat.le_trans (Nat.le_of_ble_eq_true rfl) hRf, Nat.le_trans (Nat.le_of_ble_eq_true rfl) hRl⟩ (by decide) lay_0 rfl rfl hl.1 (Nat.le_of_ble_eq_true rfl) ⟨Nat.zero_le _, Nat.zero_le _⟩ rfl dX8_row_36 (fun H locs hP hS => ?_)
          have hf := Option.some.inj hf
          subst hf
          exact hQ _ _ _ _ dX8_row_39 hP hS
    · have hf := ifF hb2 hf
      refine lv_aload_n hx hb dX8_row_17 rfl (lv_at hl 0 rfl) ?_
      refine lv_bipush (v := (-4)) hx hb dX8_row_18 (by decide) ?_
      obtain ⟨u13, hzu13, hf⟩ := obd_some hf
      refine zz_callVi (rest := []) hx hb hml C hP hS (c_X8_refuse l hDA (-4) hzu13) zw_X8_73 ⟨Nat.le_trans (Nat.le_of_ble_eq_true rfl) hRf, Nat.le_trans (Nat.le_of_ble_eq_true rfl) hRl⟩ (by decide) lay_0 rfl rfl hl.1 (Nat.le_of_ble_eq_true rfl) ⟨Nat.zero_le _, Nat.zero_le _⟩ rfl dX8_row_20 (fun H locs hP hS => ?_)
      have hf := Option.some.inj hf
      subst hf
      exact hQ _ _ _ _ dX8_row_23 hP hS
  · have hf := ifT hb1 hf
    refine lv_aload_n hx hb dX8_row_7 rfl (lv_at hl 0 rfl) ?_
    refine lv_iconst (v := (-1)) hx hb dX8_row_8 (by decide) ?_
    obtain ⟨u14, hzu14, hf⟩ := obd_some hf
    refine zz_callVi (rest := []) hx hb hml C hP hS (c_X8_refuse l hDA (-1) hzu14) zw_X8_73 ⟨Nat.le_trans (Nat.le_of_ble_eq_true rfl) hRf, Nat.le_trans (Nat.le_of_ble_eq_true rfl) hRl⟩ (by decide) lay_0 rfl rfl hl.1 (Nat.le_of_ble_eq_true rfl) ⟨Nat.zero_le _, Nat.zero_le _⟩ rfl dX8_row_9 (fun H locs hP hS => ?_)
    have hf := Option.some.inj hf
    subst hf
    exact hQ _ _ _ _ dX8_row_12 hP hS
set_option maxHeartbeats 4000000 in
set_option maxRecDepth 100000 in
theorem c_X8_lackOfRow (l : Launch) {D : va_G} {a : Nat → Nat} {cA : Nat → ClassId} {A : Nat → Prop} {sa : Nat → Nat} (hDA : DA a A) {σ : PH} {d : PD} (p1 : Int32) {u : Int32} (hf : f_X8_lackOfRow σ p1 = some u) : CTi l yX8_lackOfRow cX8_lackOfRow 2 (some .int) 1 20 D a cA A sa [.ref (a 0), .int p1] σ d u σ d := by
  refine zz_metI zpl_X8 hDA (Nat.le_of_ble_eq_true rfl) ?_
  intro p e R s m args below meth c Q ls hx hb hml C hRf hRl hQ hP hS hl
  have hl : lv_has ls 2 [(0, .ref (a 0)), (1, .int p1)] := hl
  unfold f_X8_lackOfRow at hf
  refine lv_iload_n hx hb dX8_lackOfRow_0 rfl (lv_at hl 1 rfl) ?_
  obtain ⟨u1, hzu1⟩ : ∃ z, z = f_X8_isShelf p1 := ⟨_, rfl⟩
  have hf := bnd_at u1 hzu1 hf
  refine zz_callSi (rest := []) hx hb hml C hP hS (c_X8_isShelf l hDA p1 hzu1.symm) zw_X8_69 ⟨Nat.le_trans (Nat.le_of_ble_eq_true rfl) hRf, Nat.le_trans (Nat.le_of_ble_eq_true rfl) hRl⟩  rfl hl.1 (Nat.le_of_ble_eq_true rfl) ⟨Nat.zero_le _, Nat.zero_le _⟩ rfl dX8_lackOfRow_1 (fun H locs hP hS => ?_)
  refine lv_if_ne (tgt := 9) hx hb dX8_lackOfRow_4 (by decide) (fun hb1 => ?_) (fun hb1 => ?_)
  · have hf := ifF hb1 hf
    refine lv_aload_n hx hb dX8_lackOfRow_9 rfl (lv_at hl 0 rfl) ?_
    refine zg_X8_11 hx hb C hP (by decide) lay_0 rfl dX8_lackOfRow_10 ?_
    refine lv_iload_n hx hb dX8_lackOfRow_13 rfl (lv_at hl 1 rfl) ?_
    obtain ⟨hc2, hf⟩ := chk_some hf
    refine zz_shelf hx hb C hP (inb_vp hc2) dX8_lackOfRow_14 (fun r4 er4 hr4 => ?_)
    have hf := bnd_at r4 er4 hf
    obtain ⟨u5, hzu5⟩ : ∃ z, z = f_X4_holdsRow σ r4 := ⟨_, rfl⟩
    have hf := bnd_at u5 hzu5 hf
    refine zz_callVi (rest := []) hx hb hml C hP hS (c_X4_holdsRow l hDA (sh0 := r4) hr4 hzu5.symm) zw_X8_124 ⟨Nat.le_trans (Nat.le_of_ble_eq_true rfl) hRf, Nat.le_trans (Nat.le_of_ble_eq_true rfl) hRl⟩ (lts0 hr4) (lay_s0 hr4) rfl rfl hl.1 (Nat.le_of_ble_eq_true rfl) ⟨Nat.zero_le _, Nat.zero_le _⟩ rfl dX8_lackOfRow_15 (fun H locs hP hS => ?_)
    refine lv_if_eq (tgt := 23) hx hb dX8_lackOfRow_18 (by decide) (fun hb5 => ?_) (fun hb5 => ?_)
    · have hf := ifT hb5 hf
      refine lv_aload_n hx hb dX8_lackOfRow_23 rfl (lv_at hl 0 rfl) ?_
      refine zg_X8_11 hx hb C hP (by decide) lay_0 rfl dX8_lackOfRow_24 ?_
      refine lv_iload_n hx hb dX8_lackOfRow_27 rfl (lv_at hl 1 rfl) ?_
      obtain ⟨hc6, hf⟩ := chk_some hf
      refine zz_shelf hx hb C hP (inb_vp hc6) dX8_lackOfRow_28 (fun r8 er8 hr8 => ?_)
      have hf := bnd_at r8 er8 hf
      refine zg_X8_118 hx hb C hP (lts0 hr8) (lay_s0 hr8) rfl dX8_lackOfRow_29 ?_
      refine lv_iconst (v := (-1)) hx hb dX8_lackOfRow_32 (by decide) ?_
      refine lv_icmp_ne (tgt := 41) hx hb dX8_lackOfRow_33 (by decide) (fun hb8 => ?_) (fun hb8 => ?_)
      · have hf := ifF hb8 hf
        refine lv_bipush (v := (-2)) hx hb dX8_lackOfRow_41 (by decide) ?_
        have hf := Option.some.inj hf
        subst hf
        exact hQ _ _ _ _ dX8_lackOfRow_43 hP hS
      · have hf := ifT hb8 hf
        refine lv_bipush (v := (-3)) hx hb dX8_lackOfRow_36 (by decide) ?_
        refine lv_goto (tgt := 43) hx hb dX8_lackOfRow_38 (by decide) ?_
        have hf := Option.some.inj hf
        subst hf
        exact hQ _ _ _ _ dX8_lackOfRow_43 hP hS
    · have hf := ifF hb5 hf
      refine lv_iconst (v := 0) hx hb dX8_lackOfRow_21 (by decide) ?_
      have hf := Option.some.inj hf
      subst hf
      exact hQ _ _ _ _ dX8_lackOfRow_22 hP hS
  · have hf := ifT hb1 hf
    refine lv_iconst (v := (-1)) hx hb dX8_lackOfRow_7 (by decide) ?_
    have hf := Option.some.inj hf
    subst hf
    exact hQ _ _ _ _ dX8_lackOfRow_8 hP hS
set_option maxHeartbeats 4000000 in
set_option maxRecDepth 100000 in
theorem c_X8_set (l : Launch) {D : va_G} {a : Nat → Nat} {cA : Nat → ClassId} {A : Nat → Prop} {sa : Nat → Nat} (hDA : DA a A) {σ : PH} {d : PD} (p1 : Int32) (p2 : Int32) (p3 : Int64) {u : Int32 × PH} (hf : f_X8_set σ p1 p2 p3 = some u) : CTi l yX8_set cX8_set 6 (some .int) 2 44 D a cA A sa [.ref (a 0), .int p1, .int p2, .long p3] σ d u.1 u.2 d := by
  refine zz_metI zpl_X8 hDA (Nat.le_of_ble_eq_true rfl) ?_
  intro p e R s m args below meth c Q ls hx hb hml C hRf hRl hQ hP hS hl
  have hl : lv_has ls 6 [(0, .ref (a 0)), (1, .int p1), (2, .int p2), (3, .long p3)] := hl
  unfold f_X8_set at hf
  refine lv_aload_n hx hb dX8_set_0 rfl (lv_at hl 0 rfl) ?_
  refine lv_iload_n hx hb dX8_set_1 rfl (lv_at hl 1 rfl) ?_
  obtain ⟨u1, hzu1, hf⟩ := obd_some hf
  refine zz_callVi (rest := []) hx hb hml C hP hS (c_X8_lackOfRow l hDA p1 hzu1) zw_X8_81 ⟨Nat.le_trans (Nat.le_of_ble_eq_true rfl) hRf, Nat.le_trans (Nat.le_of_ble_eq_true rfl) hRl⟩ (by decide) lay_0 rfl rfl hl.1 (Nat.le_of_ble_eq_true rfl) ⟨Nat.zero_le _, Nat.zero_le _⟩ rfl dX8_set_2 (fun H locs hP hS => ?_)
  refine lv_istore (lv' := [(5, .int u1), (0, .ref (a 0)), (1, .int p1), (2, .int p2), (3, .long p3)]) hx hb dX8_set_5 hl (by decide) rfl (fun ls hl => ?_)
  refine lv_iload hx hb dX8_set_7 (lv_at hl 0 rfl) ?_
  refine lv_if_eq (tgt := 19) hx hb dX8_set_9 (by decide) (fun hb1 => ?_) (fun hb1 => ?_)
  · have hf := ifT hb1 hf
    refine lv_aload_n hx hb dX8_set_19 rfl (lv_at hl 1 rfl) ?_
    refine zg_X8_11 hx hb C hP (by decide) lay_0 rfl dX8_set_20 ?_
    refine lv_iload_n hx hb dX8_set_23 rfl (lv_at hl 2 rfl) ?_
    obtain ⟨hc2, hf⟩ := chk_some hf
    refine zz_shelf hx hb C hP (inb_vp hc2) dX8_set_24 (fun r4 er4 hr4 => ?_)
    have hf := bnd_at r4 er4 hf
    refine lv_iload_n hx hb dX8_set_25 rfl (lv_at hl 3 rfl) ?_
    obtain ⟨u5, hzu5⟩ : ∃ z, z = f_X4_hasElement σ r4 p2 := ⟨_, rfl⟩
    have hf := bnd_at u5 hzu5 hf
    refine zz_callVi (rest := []) hx hb hml C hP hS (c_X4_hasElement l hDA (sh0 := r4) hr4 p2 hzu5.symm) zw_X8_84 ⟨Nat.le_trans (Nat.le_of_ble_eq_true rfl) hRf, Nat.le_trans (Nat.le_of_ble_eq_true rfl) hRl⟩ (lts0 hr4) (lay_s0 hr4) rfl rfl hl.1 (Nat.le_of_ble_eq_true rfl) ⟨Nat.zero_le _, Nat.zero_le _⟩ rfl dX8_set_26 (fun H locs hP hS => ?_)
    refine lv_if_ne (tgt := 39) hx hb dX8_set_29 (by decide) (fun hb5 => ?_) (fun hb5 => ?_)
    · have hf := ifF hb5 hf
      refine lv_aload_n hx hb dX8_set_39 rfl (lv_at hl 1 rfl) ?_
      refine zg_X8_11 hx hb C hP (by decide) lay_0 rfl dX8_set_40 ?_
      refine lv_iload_n hx hb dX8_set_43 rfl (lv_at hl 2 rfl) ?_
      obtain ⟨hc6, hf⟩ := chk_some hf
      refine zz_shelf hx hb C hP (inb_vp hc6) dX8_set_44 (fun r8 er8 hr8 => ?_)
      have hf := bnd_at r8 er8 hf
      refine lv_iload_n hx hb dX8_set_45 rfl (lv_at hl 3 rfl) ?_
      refine lv_lload_n hx hb dX8_set_46 rfl (lv_at hl 4 rfl) ?_
      obtain ⟨u9, hzu9, hf⟩ := obd_some hf
      refine zz_callVv (rest := []) hx hb hml C hP hS (c_X4_put l hDA (sh0 := r8) hr8 p2 p3 hzu9) zw_X8_87 ⟨Nat.le_trans (Nat.le_of_ble_eq_true rfl) hRf, Nat.le_trans (Nat.le_of_ble_eq_true rfl) hRl⟩ (lts0 hr8) (lay_s0 hr8) rfl rfl hl.1 (Nat.le_of_ble_eq_true rfl) ⟨Nat.zero_le _, Nat.zero_le _⟩ rfl dX8_set_47 (fun H locs hP hS => ?_)
      refine lv_iconst (v := 1) hx hb dX8_set_50 (by decide) ?_
      have hf := Option.some.inj hf
      subst hf
      exact hQ _ _ _ _ dX8_set_51 hP hS
    · have hf := ifT hb5 hf
      refine lv_aload_n hx hb dX8_set_32 rfl (lv_at hl 1 rfl) ?_
      refine lv_bipush (v := (-5)) hx hb dX8_set_33 (by decide) ?_
      obtain ⟨u10, hzu10, hf⟩ := obd_some hf
      refine zz_callVi (rest := []) hx hb hml C hP hS (c_X8_refuse l hDA (-5) hzu10) zw_X8_73 ⟨Nat.le_trans (Nat.le_of_ble_eq_true rfl) hRf, Nat.le_trans (Nat.le_of_ble_eq_true rfl) hRl⟩ (by decide) lay_0 rfl rfl hl.1 (Nat.le_of_ble_eq_true rfl) ⟨Nat.zero_le _, Nat.zero_le _⟩ rfl dX8_set_35 (fun H locs hP hS => ?_)
      have hf := Option.some.inj hf
      subst hf
      exact hQ _ _ _ _ dX8_set_38 hP hS
  · have hf := ifF hb1 hf
    refine lv_aload_n hx hb dX8_set_12 rfl (lv_at hl 1 rfl) ?_
    refine lv_iload hx hb dX8_set_13 (lv_at hl 0 rfl) ?_
    obtain ⟨u11, hzu11, hf⟩ := obd_some hf
    refine zz_callVi (rest := []) hx hb hml C hP hS (c_X8_refuse l hDA u1 hzu11) zw_X8_73 ⟨Nat.le_trans (Nat.le_of_ble_eq_true rfl) hRf, Nat.le_trans (Nat.le_of_ble_eq_true rfl) hRl⟩ (by decide) lay_0 rfl rfl hl.1 (Nat.le_of_ble_eq_true rfl) ⟨Nat.zero_le _, Nat.zero_le _⟩ rfl dX8_set_15 (fun H locs hP hS => ?_)
    have hf := Option.some.inj hf
    subst hf
    exact hQ _ _ _ _ dX8_set_18 hP hS
set_option maxHeartbeats 4000000 in
set_option maxRecDepth 100000 in
theorem c_X8_lackForCopy (l : Launch) {D : va_G} {a : Nat → Nat} {cA : Nat → ClassId} {A : Nat → Prop} {sa : Nat → Nat} (hDA : DA a A) {σ : PH} {d : PD} (p1 : Int32) (p2 : Int32) {u : Int32} (hf : f_X8_lackForCopy σ p1 p2 = some u) : CTi l yX8_lackForCopy cX8_lackForCopy 5 (some .int) 2 41 D a cA A sa [.ref (a 0), .int p1, .int p2] σ d u σ d := by
  refine zz_metI zpl_X8 hDA (Nat.le_of_ble_eq_true rfl) ?_
  intro p e R s m args below meth c Q ls hx hb hml C hRf hRl hQ hP hS hl
  have hl : lv_has ls 5 [(0, .ref (a 0)), (1, .int p1), (2, .int p2)] := hl
  unfold f_X8_lackForCopy at hf
  refine lv_aload_n hx hb dX8_lackForCopy_0 rfl (lv_at hl 0 rfl) ?_
  refine lv_iload_n hx hb dX8_lackForCopy_1 rfl (lv_at hl 1 rfl) ?_
  obtain ⟨u1, hzu1, hf⟩ := obd_some hf
  refine zz_callVi (rest := []) hx hb hml C hP hS (c_X8_lackOfRow l hDA p1 hzu1) zw_X8_81 ⟨Nat.le_trans (Nat.le_of_ble_eq_true rfl) hRf, Nat.le_trans (Nat.le_of_ble_eq_true rfl) hRl⟩ (by decide) lay_0 rfl rfl hl.1 (Nat.le_of_ble_eq_true rfl) ⟨Nat.zero_le _, Nat.zero_le _⟩ rfl dX8_lackForCopy_2 (fun H locs hP hS => ?_)
  refine lv_istore_n (lv' := [(3, .int u1), (0, .ref (a 0)), (1, .int p1), (2, .int p2)]) hx hb dX8_lackForCopy_5 rfl hl (by decide) rfl (fun ls hl => ?_)
  refine lv_aload_n hx hb dX8_lackForCopy_6 rfl (lv_at hl 1 rfl) ?_
  refine lv_iload_n hx hb dX8_lackForCopy_7 rfl (lv_at hl 3 rfl) ?_
  obtain ⟨u2, hzu2, hf⟩ := obd_some hf
  refine zz_callVi (rest := []) hx hb hml C hP hS (c_X8_lackOfRow l hDA p2 hzu2) zw_X8_81 ⟨Nat.le_trans (Nat.le_of_ble_eq_true rfl) hRf, Nat.le_trans (Nat.le_of_ble_eq_true rfl) hRl⟩ (by decide) lay_0 rfl rfl hl.1 (Nat.le_of_ble_eq_true rfl) ⟨Nat.zero_le _, Nat.zero_le _⟩ rfl dX8_lackForCopy_8 (fun H locs hP hS => ?_)
  refine lv_istore (lv' := [(4, .int u2), (3, .int u1), (0, .ref (a 0)), (1, .int p1), (2, .int p2)]) hx hb dX8_lackForCopy_11 hl (by decide) rfl (fun ls hl => ?_)
  refine lv_iload_n hx hb dX8_lackForCopy_13 rfl (lv_at hl 1 rfl) ?_
  refine lv_iconst (v := (-1)) hx hb dX8_lackForCopy_14 (by decide) ?_
  refine lv_icmp_eq (tgt := 24) hx hb dX8_lackForCopy_15 (by decide) (fun hb2 => ?_) (fun hb2 => ?_)
  · have hf := ifT hb2 hf
    refine lv_iconst (v := (-1)) hx hb dX8_lackForCopy_24 (by decide) ?_
    have hf := Option.some.inj hf
    subst hf
    exact hQ _ _ _ _ dX8_lackForCopy_25 hP hS
  · have hf := ifF hb2 hf
    refine lv_iload hx hb dX8_lackForCopy_18 (lv_at hl 0 rfl) ?_
    refine lv_iconst (v := (-1)) hx hb dX8_lackForCopy_20 (by decide) ?_
    refine lv_icmp_ne (tgt := 26) hx hb dX8_lackForCopy_21 (by decide) (fun hb3 => ?_) (fun hb3 => ?_)
    · have hf := ifF hb3 hf
      refine lv_iload_n hx hb dX8_lackForCopy_26 rfl (lv_at hl 1 rfl) ?_
      refine lv_bipush (v := (-2)) hx hb dX8_lackForCopy_27 (by decide) ?_
      refine lv_icmp_eq (tgt := 39) hx hb dX8_lackForCopy_29 (by decide) (fun hb4 => ?_) (fun hb4 => ?_)
      · have hf := ifT hb4 hf
        refine lv_bipush (v := (-2)) hx hb dX8_lackForCopy_39 (by decide) ?_
        have hf := Option.some.inj hf
        subst hf
        exact hQ _ _ _ _ dX8_lackForCopy_41 hP hS
      · have hf := ifF hb4 hf
        refine lv_iload hx hb dX8_lackForCopy_32 (lv_at hl 0 rfl) ?_
        refine lv_bipush (v := (-2)) hx hb dX8_lackForCopy_34 (by decide) ?_
        refine lv_icmp_ne (tgt := 42) hx hb dX8_lackForCopy_36 (by decide) (fun hb5 => ?_) (fun hb5 => ?_)
        · have hf := ifF hb5 hf
          refine lv_iload_n hx hb dX8_lackForCopy_42 rfl (lv_at hl 1 rfl) ?_
          refine lv_bipush (v := (-3)) hx hb dX8_lackForCopy_43 (by decide) ?_
          refine lv_icmp_eq (tgt := 55) hx hb dX8_lackForCopy_45 (by decide) (fun hb6 => ?_) (fun hb6 => ?_)
          · have hf := ifT hb6 hf
            refine lv_bipush (v := (-3)) hx hb dX8_lackForCopy_55 (by decide) ?_
            have hf := Option.some.inj hf
            subst hf
            exact hQ _ _ _ _ dX8_lackForCopy_57 hP hS
          · have hf := ifF hb6 hf
            refine lv_iload hx hb dX8_lackForCopy_48 (lv_at hl 0 rfl) ?_
            refine lv_bipush (v := (-3)) hx hb dX8_lackForCopy_50 (by decide) ?_
            refine lv_icmp_ne (tgt := 58) hx hb dX8_lackForCopy_52 (by decide) (fun hb7 => ?_) (fun hb7 => ?_)
            · have hf := ifF hb7 hf
              refine lv_aload_n hx hb dX8_lackForCopy_58 rfl (lv_at hl 2 rfl) ?_
              refine zg_X8_11 hx hb C hP (by decide) lay_0 rfl dX8_lackForCopy_59 ?_
              refine lv_iload_n hx hb dX8_lackForCopy_62 rfl (lv_at hl 3 rfl) ?_
              obtain ⟨hc8, hf⟩ := chk_some hf
              refine zz_shelf hx hb C hP (inb_vp hc8) dX8_lackForCopy_63 (fun r10 er10 hr10 => ?_)
              have hf := bnd_at r10 er10 hf
              refine zg_X8_118 hx hb C hP (lts0 hr10) (lay_s0 hr10) rfl dX8_lackForCopy_64 ?_
              refine lv_aload_n hx hb dX8_lackForCopy_67 rfl (lv_at hl 2 rfl) ?_
              refine zg_X8_11 hx hb C hP (by decide) lay_0 rfl dX8_lackForCopy_68 ?_
              refine lv_iload_n hx hb dX8_lackForCopy_71 rfl (lv_at hl 4 rfl) ?_
              obtain ⟨hc10, hf⟩ := chk_some hf
              refine zz_shelf hx hb C hP (inb_vp hc10) dX8_lackForCopy_72 (fun r12 er12 hr12 => ?_)
              have hf := bnd_at r12 er12 hf
              refine zg_X8_118 hx hb C hP (lts0 hr12) (lay_s0 hr12) rfl dX8_lackForCopy_73 ?_
              refine lv_icmp_ne (tgt := 83) hx hb dX8_lackForCopy_76 (by decide) (fun hb12 => ?_) (fun hb12 => ?_)
              · have hf := ifF hb12 hf
                refine lv_bipush (v := (-2)) hx hb dX8_lackForCopy_83 (by decide) ?_
                have hf := Option.some.inj hf
                subst hf
                exact hQ _ _ _ _ dX8_lackForCopy_85 hP hS
              · have hf := ifT hb12 hf
                refine lv_iconst (v := 0) hx hb dX8_lackForCopy_79 (by decide) ?_
                refine lv_goto (tgt := 85) hx hb dX8_lackForCopy_80 (by decide) ?_
                have hf := Option.some.inj hf
                subst hf
                exact hQ _ _ _ _ dX8_lackForCopy_85 hP hS
            · have hf := ifT hb7 hf
              refine lv_bipush (v := (-3)) hx hb dX8_lackForCopy_55 (by decide) ?_
              have hf := Option.some.inj hf
              subst hf
              exact hQ _ _ _ _ dX8_lackForCopy_57 hP hS
        · have hf := ifT hb5 hf
          refine lv_bipush (v := (-2)) hx hb dX8_lackForCopy_39 (by decide) ?_
          have hf := Option.some.inj hf
          subst hf
          exact hQ _ _ _ _ dX8_lackForCopy_41 hP hS
    · have hf := ifT hb3 hf
      refine lv_iconst (v := (-1)) hx hb dX8_lackForCopy_24 (by decide) ?_
      have hf := Option.some.inj hf
      subst hf
      exact hQ _ _ _ _ dX8_lackForCopy_25 hP hS
set_option maxHeartbeats 4000000 in
set_option maxRecDepth 100000 in
theorem c_X8_copy (l : Launch) {D : va_G} {a : Nat → Nat} {cA : Nat → ClassId} {A : Nat → Prop} {sa : Nat → Nat} (hDA : DA a A) {σ : PH} {d : PD} (p1 : Int32) (p2 : Int32) (p3 : Int32) (p4 : Int32) (p5 : Int32) {u : Int32 × PH} (hf : f_X8_copy σ p1 p2 p3 p4 p5 = some u) : CTi l yX8_copy cX8_copy 7 (some .int) 3 65 D a cA A sa [.ref (a 0), .int p1, .int p2, .int p3, .int p4, .int p5] σ d u.1 u.2 d := by
  refine zz_metI zpl_X8 hDA (Nat.le_of_ble_eq_true rfl) ?_
  intro p e R s m args below meth c Q ls hx hb hml C hRf hRl hQ hP hS hl
  have hl : lv_has ls 7 [(0, .ref (a 0)), (1, .int p1), (2, .int p2), (3, .int p3), (4, .int p4), (5, .int p5)] := hl
  unfold f_X8_copy at hf
  refine lv_aload_n hx hb dX8_copy_0 rfl (lv_at hl 0 rfl) ?_
  refine lv_iload_n hx hb dX8_copy_1 rfl (lv_at hl 1 rfl) ?_
  refine lv_iload_n hx hb dX8_copy_2 rfl (lv_at hl 2 rfl) ?_
  obtain ⟨u1, hzu1, hf⟩ := obd_some hf
  refine zz_callVi (rest := []) hx hb hml C hP hS (c_X8_lackForCopy l hDA p1 p2 hzu1) zw_X8_91 ⟨Nat.le_trans (Nat.le_of_ble_eq_true rfl) hRf, Nat.le_trans (Nat.le_of_ble_eq_true rfl) hRl⟩ (by decide) lay_0 rfl rfl hl.1 (Nat.le_of_ble_eq_true rfl) ⟨Nat.zero_le _, Nat.zero_le _⟩ rfl dX8_copy_3 (fun H locs hP hS => ?_)
  refine lv_istore (lv' := [(6, .int u1), (0, .ref (a 0)), (1, .int p1), (2, .int p2), (3, .int p3), (4, .int p4), (5, .int p5)]) hx hb dX8_copy_6 hl (by decide) rfl (fun ls hl => ?_)
  refine lv_iload hx hb dX8_copy_8 (lv_at hl 0 rfl) ?_
  refine lv_if_eq (tgt := 20) hx hb dX8_copy_10 (by decide) (fun hb1 => ?_) (fun hb1 => ?_)
  · have hf := ifT hb1 hf
    refine lv_iload hx hb dX8_copy_20 (lv_at hl 6 rfl) ?_
    refine lv_if_ge (tgt := 32) hx hb dX8_copy_22 (by decide) (fun hb2 => ?_) (fun hb2 => ?_)
    · have hf := ifT hb2 hf
      refine lv_aload_n hx hb dX8_copy_32 rfl (lv_at hl 1 rfl) ?_
      refine zg_X8_11 hx hb C hP (by decide) lay_0 rfl dX8_copy_33 ?_
      refine lv_iload_n hx hb dX8_copy_36 rfl (lv_at hl 2 rfl) ?_
      obtain ⟨hc3, hf⟩ := chk_some hf
      refine zz_shelf hx hb C hP (inb_vp hc3) dX8_copy_37 (fun r5 er5 hr5 => ?_)
      have hf := bnd_at r5 er5 hf
      refine lv_iload_n hx hb dX8_copy_38 rfl (lv_at hl 4 rfl) ?_
      refine lv_iload hx hb dX8_copy_39 (lv_at hl 6 rfl) ?_
      obtain ⟨u6, hzu6⟩ : ∃ z, z = f_X4_hasElements σ r5 p3 p5 := ⟨_, rfl⟩
      have hf := bnd_at u6 hzu6 hf
      refine zz_callVi (rest := []) hx hb hml C hP hS (c_X4_hasElements l hDA (sh0 := r5) hr5 p3 p5 hzu6.symm) zw_X8_95 ⟨Nat.le_trans (Nat.le_of_ble_eq_true rfl) hRf, Nat.le_trans (Nat.le_of_ble_eq_true rfl) hRl⟩ (lts0 hr5) (lay_s0 hr5) rfl rfl hl.1 (Nat.le_of_ble_eq_true rfl) ⟨Nat.zero_le _, Nat.zero_le _⟩ rfl dX8_copy_41 (fun H locs hP hS => ?_)
      refine lv_if_eq (tgt := 63) hx hb dX8_copy_44 (by decide) (fun hb6 => ?_) (fun hb6 => ?_)
      · have hf := ifT hb6 hf
        refine lv_aload_n hx hb dX8_copy_63 rfl (lv_at hl 1 rfl) ?_
        refine lv_bipush (v := (-5)) hx hb dX8_copy_64 (by decide) ?_
        obtain ⟨u8, hzu8, hf⟩ := obd_some hf
        refine zz_callVi (rest := []) hx hb hml C hP hS (c_X8_refuse l hDA (-5) hzu8) zw_X8_73 ⟨Nat.le_trans (Nat.le_of_ble_eq_true rfl) hRf, Nat.le_trans (Nat.le_of_ble_eq_true rfl) hRl⟩ (by decide) lay_0 rfl rfl hl.1 (Nat.le_of_ble_eq_true rfl) ⟨Nat.zero_le _, Nat.zero_le _⟩ rfl dX8_copy_66 (fun H locs hP hS => ?_)
        have hf := Option.some.inj hf
        subst hf
        exact hQ _ _ _ _ dX8_copy_69 hP hS
      · have hf := ifF hb6 hf
        refine lv_aload_n hx hb dX8_copy_47 rfl (lv_at hl 1 rfl) ?_
        refine zg_X8_11 hx hb C hP (by decide) lay_0 rfl dX8_copy_48 ?_
        refine lv_iload_n hx hb dX8_copy_51 rfl (lv_at hl 3 rfl) ?_
        obtain ⟨hc8, hf⟩ := chk_some hf
        refine zz_shelf hx hb C hP (inb_vp hc8) dX8_copy_52 (fun r10 er10 hr10 => ?_)
        have hf := bnd_at r10 er10 hf
        refine lv_iload hx hb dX8_copy_53 (lv_at hl 5 rfl) ?_
        refine lv_iload hx hb dX8_copy_55 (lv_at hl 6 rfl) ?_
        obtain ⟨u11, hzu11⟩ : ∃ z, z = f_X4_hasElements σ r10 p4 p5 := ⟨_, rfl⟩
        have hf := bnd_at u11 hzu11 hf
        refine zz_callVi (rest := []) hx hb hml C hP hS (c_X4_hasElements l hDA (sh0 := r10) hr10 p4 p5 hzu11.symm) zw_X8_95 ⟨Nat.le_trans (Nat.le_of_ble_eq_true rfl) hRf, Nat.le_trans (Nat.le_of_ble_eq_true rfl) hRl⟩ (lts0 hr10) (lay_s0 hr10) rfl rfl hl.1 (Nat.le_of_ble_eq_true rfl) ⟨Nat.zero_le _, Nat.zero_le _⟩ rfl dX8_copy_57 (fun H locs hP hS => ?_)
        refine lv_if_ne (tgt := 70) hx hb dX8_copy_60 (by decide) (fun hb11 => ?_) (fun hb11 => ?_)
        · have hf := ifF hb11 hf
          refine lv_aload_n hx hb dX8_copy_70 rfl (lv_at hl 1 rfl) ?_
          refine zg_X8_11 hx hb C hP (by decide) lay_0 rfl dX8_copy_71 ?_
          refine lv_iload_n hx hb dX8_copy_74 rfl (lv_at hl 2 rfl) ?_
          obtain ⟨hc12, hf⟩ := chk_some hf
          refine zz_shelf hx hb C hP (inb_vp hc12) dX8_copy_75 (fun r14 er14 hr14 => ?_)
          have hf := bnd_at r14 er14 hf
          refine zg_X8_99 hx hb C hP (lts0 hr14) (lay_s0 hr14) rfl dX8_copy_76 ?_
          refine lv_iload_n hx hb dX8_copy_79 rfl (lv_at hl 4 rfl) ?_
          refine lv_aload_n hx hb dX8_copy_80 rfl (lv_at hl 1 rfl) ?_
          refine zg_X8_11 hx hb C hP (by decide) lay_0 rfl dX8_copy_81 ?_
          refine lv_iload_n hx hb dX8_copy_84 rfl (lv_at hl 3 rfl) ?_
          obtain ⟨hc14, hf⟩ := chk_some hf
          refine zz_shelf hx hb C hP (inb_vp hc14) dX8_copy_85 (fun r16 er16 hr16 => ?_)
          have hf := bnd_at r16 er16 hf
          refine zg_X8_99 hx hb C hP (lts0 hr16) (lay_s0 hr16) rfl dX8_copy_86 ?_
          refine lv_iload hx hb dX8_copy_89 (lv_at hl 5 rfl) ?_
          refine lv_iload hx hb dX8_copy_91 (lv_at hl 6 rfl) ?_
          obtain ⟨hc16, hf⟩ := chk_some hf
          refine zz_cpyJ hx hb (hml.trans hl.1.symm) C hP hS (lts1 hr14) (lay_s1 hr14) (lts1 hr16) (lay_s1 hr16) hc16.1 hc16.2.1 hc16.2.2.1 hc16.2.2.2.1 hc16.2.2.2.2 km_X8_103 kv_arraycopyName kt_arraycopyName kn_J10 (Nat.le_trans (by decide) hRf) (Nat.le_trans (by decide +kernel) hRl) dX8_copy_93 (fun σ18 eσ18 H locs hP hS => ?_)
          have hf := bnd_at σ18 eσ18 hf
          refine lv_iconst (v := 1) hx hb dX8_copy_96 (by decide) ?_
          have hf := Option.some.inj hf
          subst hf
          exact hQ _ _ _ _ dX8_copy_97 hP hS
        · have hf := ifT hb11 hf
          refine lv_aload_n hx hb dX8_copy_63 rfl (lv_at hl 1 rfl) ?_
          refine lv_bipush (v := (-5)) hx hb dX8_copy_64 (by decide) ?_
          obtain ⟨u19, hzu19, hf⟩ := obd_some hf
          refine zz_callVi (rest := []) hx hb hml C hP hS (c_X8_refuse l hDA (-5) hzu19) zw_X8_73 ⟨Nat.le_trans (Nat.le_of_ble_eq_true rfl) hRf, Nat.le_trans (Nat.le_of_ble_eq_true rfl) hRl⟩ (by decide) lay_0 rfl rfl hl.1 (Nat.le_of_ble_eq_true rfl) ⟨Nat.zero_le _, Nat.zero_le _⟩ rfl dX8_copy_66 (fun H locs hP hS => ?_)
          have hf := Option.some.inj hf
          subst hf
          exact hQ _ _ _ _ dX8_copy_69 hP hS
    · have hf := ifF hb2 hf
      refine lv_aload_n hx hb dX8_copy_25 rfl (lv_at hl 1 rfl) ?_
      refine lv_bipush (v := (-4)) hx hb dX8_copy_26 (by decide) ?_
      obtain ⟨u20, hzu20, hf⟩ := obd_some hf
      refine zz_callVi (rest := []) hx hb hml C hP hS (c_X8_refuse l hDA (-4) hzu20) zw_X8_73 ⟨Nat.le_trans (Nat.le_of_ble_eq_true rfl) hRf, Nat.le_trans (Nat.le_of_ble_eq_true rfl) hRl⟩ (by decide) lay_0 rfl rfl hl.1 (Nat.le_of_ble_eq_true rfl) ⟨Nat.zero_le _, Nat.zero_le _⟩ rfl dX8_copy_28 (fun H locs hP hS => ?_)
      have hf := Option.some.inj hf
      subst hf
      exact hQ _ _ _ _ dX8_copy_31 hP hS
  · have hf := ifF hb1 hf
    refine lv_aload_n hx hb dX8_copy_13 rfl (lv_at hl 1 rfl) ?_
    refine lv_iload hx hb dX8_copy_14 (lv_at hl 0 rfl) ?_
    obtain ⟨u21, hzu21, hf⟩ := obd_some hf
    refine zz_callVi (rest := []) hx hb hml C hP hS (c_X8_refuse l hDA u1 hzu21) zw_X8_73 ⟨Nat.le_trans (Nat.le_of_ble_eq_true rfl) hRf, Nat.le_trans (Nat.le_of_ble_eq_true rfl) hRl⟩ (by decide) lay_0 rfl rfl hl.1 (Nat.le_of_ble_eq_true rfl) ⟨Nat.zero_le _, Nat.zero_le _⟩ rfl dX8_copy_16 (fun H locs hP hS => ?_)
    have hf := Option.some.inj hf
    subst hf
    exact hQ _ _ _ _ dX8_copy_19 hP hS
set_option maxHeartbeats 4000000 in
set_option maxRecDepth 100000 in
theorem c_X8_element (l : Launch) {D : va_G} {a : Nat → Nat} {cA : Nat → ClassId} {A : Nat → Prop} {sa : Nat → Nat} (hDA : DA a A) {σ : PH} {d : PD} (p1 : Int32) (p2 : Int32) {u : Int64} (hf : f_X8_element σ p1 p2 = some u) : CTl l yX8_element cX8_element 3 (some .long) 2 41 D a cA A sa [.ref (a 0), .int p1, .int p2] σ d u σ d := by
  refine zz_metL zpl_X8 hDA (Nat.le_of_ble_eq_true rfl) ?_
  intro p e R s m args below meth c Q ls hx hb hml C hRf hRl hQ hP hS hl
  have hl : lv_has ls 3 [(0, .ref (a 0)), (1, .int p1), (2, .int p2)] := hl
  unfold f_X8_element at hf
  refine lv_aload_n hx hb dX8_element_0 rfl (lv_at hl 0 rfl) ?_
  refine lv_iload_n hx hb dX8_element_1 rfl (lv_at hl 1 rfl) ?_
  obtain ⟨u1, hzu1, hf⟩ := obd_some hf
  refine zz_callVi (rest := []) hx hb hml C hP hS (c_X8_lackOfRow l hDA p1 hzu1) zw_X8_81 ⟨Nat.le_trans (Nat.le_of_ble_eq_true rfl) hRf, Nat.le_trans (Nat.le_of_ble_eq_true rfl) hRl⟩ (by decide) lay_0 rfl rfl hl.1 (Nat.le_of_ble_eq_true rfl) ⟨Nat.zero_le _, Nat.zero_le _⟩ rfl dX8_element_2 (fun H locs hP hS => ?_)
  refine lv_if_ne (tgt := 21) hx hb dX8_element_5 (by decide) (fun hb1 => ?_) (fun hb1 => ?_)
  · have hf := ifF hb1 hf
    refine lv_lconst (v := 0) hx hb dX8_element_21 (by decide) ?_
    have hf := Option.some.inj hf
    subst hf
    exact hQ _ _ _ _ dX8_element_22 hP hS
  · have hf := ifT hb1 hf
    refine lv_aload_n hx hb dX8_element_8 rfl (lv_at hl 0 rfl) ?_
    refine zg_X8_11 hx hb C hP (by decide) lay_0 rfl dX8_element_9 ?_
    refine lv_iload_n hx hb dX8_element_12 rfl (lv_at hl 1 rfl) ?_
    obtain ⟨hc2, hf⟩ := chk_some hf
    refine zz_shelf hx hb C hP (inb_vp hc2) dX8_element_13 (fun r4 er4 hr4 => ?_)
    have hf := bnd_at r4 er4 hf
    refine lv_iload_n hx hb dX8_element_14 rfl (lv_at hl 2 rfl) ?_
    obtain ⟨u5, hzu5⟩ : ∃ z, z = f_X4_hasElement σ r4 p2 := ⟨_, rfl⟩
    have hf := bnd_at u5 hzu5 hf
    refine zz_callVi (rest := []) hx hb hml C hP hS (c_X4_hasElement l hDA (sh0 := r4) hr4 p2 hzu5.symm) zw_X8_84 ⟨Nat.le_trans (Nat.le_of_ble_eq_true rfl) hRf, Nat.le_trans (Nat.le_of_ble_eq_true rfl) hRl⟩ (lts0 hr4) (lay_s0 hr4) rfl rfl hl.1 (Nat.le_of_ble_eq_true rfl) ⟨Nat.zero_le _, Nat.zero_le _⟩ rfl dX8_element_15 (fun H locs hP hS => ?_)
    refine lv_if_ne (tgt := 23) hx hb dX8_element_18 (by decide) (fun hb5 => ?_) (fun hb5 => ?_)
    · have hf := ifF hb5 hf
      refine lv_aload_n hx hb dX8_element_23 rfl (lv_at hl 0 rfl) ?_
      refine zg_X8_11 hx hb C hP (by decide) lay_0 rfl dX8_element_24 ?_
      refine lv_iload_n hx hb dX8_element_27 rfl (lv_at hl 1 rfl) ?_
      obtain ⟨hc6, hf⟩ := chk_some hf
      refine zz_shelf hx hb C hP (inb_vp hc6) dX8_element_28 (fun r8 er8 hr8 => ?_)
      have hf := bnd_at r8 er8 hf
      refine zg_X8_99 hx hb C hP (lts0 hr8) (lay_s0 hr8) rfl dX8_element_29 ?_
      refine lv_iload_n hx hb dX8_element_32 rfl (lv_at hl 2 rfl) ?_
      obtain ⟨hc8, hf⟩ := chk_some hf
      refine zz_lald hx hb C hP (lts1 hr8) (lay_s1 hr8) (inb_vp hc8) dX8_element_33 ?_
      have hf := Option.some.inj hf
      subst hf
      exact hQ _ _ _ _ dX8_element_34 hP hS
    · have hf := ifT hb5 hf
      refine lv_lconst (v := 0) hx hb dX8_element_21 (by decide) ?_
      have hf := Option.some.inj hf
      subst hf
      exact hQ _ _ _ _ dX8_element_22 hP hS
set_option maxHeartbeats 4000000 in
set_option maxRecDepth 100000 in
theorem c_X8_show (l : Launch) {D : va_G} {a : Nat → Nat} {cA : Nat → ClassId} {A : Nat → Prop} {sa : Nat → Nat} (hDA : DA a A) {σ : PH} {d : PD} (hd1 : isHall d.1) (p1 : Int32) (p2 : Int32) {u : Int32 × PH} (hf : f_X8_show σ d p1 p2 = some u) : CTi l yX8_show cX8_show 3 (some .int) 1 21 D a cA A sa [.ref (a 0), .int p1, .int p2] σ d u.1 u.2 d := by
  refine zz_metI zpl_X8 hDA (Nat.le_of_ble_eq_true rfl) ?_
  intro p e R s m args below meth c Q ls hx hb hml C hRf hRl hQ hP hS hl
  have hl : lv_has ls 3 [(0, .ref (a 0)), (1, .int p1), (2, .int p2)] := hl
  unfold f_X8_show at hf
  refine lv_iload_n hx hb dX8_show_0 rfl (lv_at hl 1 rfl) ?_
  obtain ⟨u1, hzu1⟩ : ∃ z, z = f_X8_isShelf p1 := ⟨_, rfl⟩
  have hf := bnd_at u1 hzu1 hf
  refine zz_callSi (rest := []) hx hb hml C hP hS (c_X8_isShelf l hDA p1 hzu1.symm) zw_X8_69 ⟨Nat.le_trans (Nat.le_of_ble_eq_true rfl) hRf, Nat.le_trans (Nat.le_of_ble_eq_true rfl) hRl⟩  rfl hl.1 (Nat.le_of_ble_eq_true rfl) ⟨Nat.zero_le _, Nat.zero_le _⟩ rfl dX8_show_1 (fun H locs hP hS => ?_)
  refine lv_if_eq (tgt := 26) hx hb dX8_show_4 (by decide) (fun hb1 => ?_) (fun hb1 => ?_)
  · have hf := ifT hb1 hf
    refine lv_aload_n hx hb dX8_show_26 rfl (lv_at hl 0 rfl) ?_
    refine lv_iconst (v := (-1)) hx hb dX8_show_27 (by decide) ?_
    obtain ⟨u3, hzu3, hf⟩ := obd_some hf
    refine zz_callVi (rest := []) hx hb hml C hP hS (c_X8_refuse l hDA (-1) hzu3) zw_X8_73 ⟨Nat.le_trans (Nat.le_of_ble_eq_true rfl) hRf, Nat.le_trans (Nat.le_of_ble_eq_true rfl) hRl⟩ (by decide) lay_0 rfl rfl hl.1 (Nat.le_of_ble_eq_true rfl) ⟨Nat.zero_le _, Nat.zero_le _⟩ rfl dX8_show_28 (fun H locs hP hS => ?_)
    have hf := Option.some.inj hf
    subst hf
    exact hQ _ _ _ _ dX8_show_31 hP hS
  · have hf := ifF hb1 hf
    refine lv_iload_n hx hb dX8_show_7 rfl (lv_at hl 2 rfl) ?_
    refine lv_iconst (v := (-1)) hx hb dX8_show_8 (by decide) ?_
    have hJ32 : j_X8_show_32 σ p1 p2 = some u → ∀ (H : Heap) (locs : List Loc) (ls : Array Slot), lv_has ls 3 [(0, .ref (a 0)), (1, .int p1), (2, .int p2)] → va_P D vwCl (wl a cA σ d) H → va_S A s.heap H locs → W p l e R s m args below meth c H locs 0 0 Q (F0 m 32 ls []) := by
      intro  hf H locs ls hl hP hS
      unfold j_X8_show_32 at hf
      refine lv_aload_n hx hb dX8_show_32 rfl (lv_at hl 0 rfl) ?_
      refine zg_X8_11 hx hb C hP (by decide) lay_0 rfl dX8_show_33 ?_
      refine lv_iload_n hx hb dX8_show_36 rfl (lv_at hl 1 rfl) ?_
      obtain ⟨hc3, hf⟩ := chk_some hf
      refine zz_shelf hx hb C hP (inb_vp hc3) dX8_show_37 (fun r5 er5 hr5 => ?_)
      have hf := bnd_at r5 er5 hf
      refine lv_iload_n hx hb dX8_show_38 rfl (lv_at hl 2 rfl) ?_
      refine zp_X8_118 hx hb C hP hS (lts0 hr5) (lay_s0 hr5) rfl dX8_show_39 (fun σ6 eσ6 H locs hP hS => ?_)
      have hf := bnd_at σ6 eσ6 hf
      refine lv_iload_n hx hb dX8_show_42 rfl (lv_at hl 2 rfl) ?_
      refine lv_iconst (v := (-1)) hx hb dX8_show_43 (by decide) ?_
      refine lv_icmp_ne (tgt := 51) hx hb dX8_show_44 (by decide) (fun hb6 => ?_) (fun hb6 => ?_)
      · have hf := ifF hb6 hf
        refine lv_iconst (v := 1) hx hb dX8_show_51 (by decide) ?_
        have hf := Option.some.inj hf
        subst hf
        exact hQ _ _ _ _ dX8_show_52 hP hS
      · have hf := ifT hb6 hf
        refine lv_iconst (v := 0) hx hb dX8_show_47 (by decide) ?_
        refine lv_goto (tgt := 52) hx hb dX8_show_48 (by decide) ?_
        have hf := Option.some.inj hf
        subst hf
        exact hQ _ _ _ _ dX8_show_52 hP hS
    refine lv_icmp_eq (tgt := 32) hx hb dX8_show_9 (by decide) (fun hb7 => ?_) (fun hb7 => ?_)
    · have hf := ifT hb7 hf
      exact hJ32  hf _ _ _ (lv_sub hl [0, 1, 2] rfl) hP hS
    · have hf := ifF hb7 hf
      refine lv_aload_n hx hb dX8_show_12 rfl (lv_at hl 0 rfl) ?_
      refine zg_X8_50 hx hb C hP (by decide) lay_0 rfl dX8_show_13 ?_
      refine zg_X8_109 hx hb C hP (lth0 hd1) (lay_h0 hd1) rfl dX8_show_16 ?_
      refine lv_iload_n hx hb dX8_show_19 rfl (lv_at hl 2 rfl) ?_
      obtain ⟨u9, hzu9⟩ : ∃ z, z = f_X0_has σ d.1 p2 := ⟨_, rfl⟩
      have hf := bnd_at u9 hzu9 hf
      refine zz_callVi (rest := []) hx hb hml C hP hS (c_X0_has l hDA (h := d.1) hd1 p2 hzu9.symm) zw_X8_113 ⟨Nat.le_trans (Nat.le_of_ble_eq_true rfl) hRf, Nat.le_trans (Nat.le_of_ble_eq_true rfl) hRl⟩ (lth hd1 1 (by decide)) (lay_h1 hd1) rfl rfl hl.1 (Nat.le_of_ble_eq_true rfl) ⟨Nat.zero_le _, Nat.zero_le _⟩ rfl dX8_show_20 (fun H locs hP hS => ?_)
      refine lv_if_ne (tgt := 32) hx hb dX8_show_23 (by decide) (fun hb9 => ?_) (fun hb9 => ?_)
      · have hf := ifF hb9 hf
        exact hJ32  hf _ _ _ (lv_sub hl [0, 1, 2] rfl) hP hS
      · have hf := ifT hb9 hf
        refine lv_aload_n hx hb dX8_show_26 rfl (lv_at hl 0 rfl) ?_
        refine lv_iconst (v := (-1)) hx hb dX8_show_27 (by decide) ?_
        obtain ⟨u11, hzu11, hf⟩ := obd_some hf
        refine zz_callVi (rest := []) hx hb hml C hP hS (c_X8_refuse l hDA (-1) hzu11) zw_X8_73 ⟨Nat.le_trans (Nat.le_of_ble_eq_true rfl) hRf, Nat.le_trans (Nat.le_of_ble_eq_true rfl) hRl⟩ (by decide) lay_0 rfl rfl hl.1 (Nat.le_of_ble_eq_true rfl) ⟨Nat.zero_le _, Nat.zero_le _⟩ rfl dX8_show_28 (fun H locs hP hS => ?_)
        have hf := Option.some.inj hf
        subst hf
        exact hQ _ _ _ _ dX8_show_31 hP hS
set_option maxHeartbeats 4000000 in
set_option maxRecDepth 100000 in
theorem c_X8_holds (l : Launch) {D : va_G} {a : Nat → Nat} {cA : Nat → ClassId} {A : Nat → Prop} {sa : Nat → Nat} (hDA : DA a A) {σ : PH} {d : PD} (p1 : Int32) {u : Int32} (hf : f_X8_holds σ p1 = some u) : CTi l yX8_holds cX8_holds 2 (some .int) 1 20 D a cA A sa [.ref (a 0), .int p1] σ d u σ d := by
  refine zz_metI zpl_X8 hDA (Nat.le_of_ble_eq_true rfl) ?_
  intro p e R s m args below meth c Q ls hx hb hml C hRf hRl hQ hP hS hl
  have hl : lv_has ls 2 [(0, .ref (a 0)), (1, .int p1)] := hl
  unfold f_X8_holds at hf
  refine lv_iload_n hx hb dX8_holds_0 rfl (lv_at hl 1 rfl) ?_
  obtain ⟨u1, hzu1⟩ : ∃ z, z = f_X8_isShelf p1 := ⟨_, rfl⟩
  have hf := bnd_at u1 hzu1 hf
  refine zz_callSi (rest := []) hx hb hml C hP hS (c_X8_isShelf l hDA p1 hzu1.symm) zw_X8_69 ⟨Nat.le_trans (Nat.le_of_ble_eq_true rfl) hRf, Nat.le_trans (Nat.le_of_ble_eq_true rfl) hRl⟩  rfl hl.1 (Nat.le_of_ble_eq_true rfl) ⟨Nat.zero_le _, Nat.zero_le _⟩ rfl dX8_holds_1 (fun H locs hP hS => ?_)
  refine lv_if_eq (tgt := 19) hx hb dX8_holds_4 (by decide) (fun hb1 => ?_) (fun hb1 => ?_)
  · have hf := ifT hb1 hf
    refine lv_iconst (v := (-1)) hx hb dX8_holds_19 (by decide) ?_
    have hf := Option.some.inj hf
    subst hf
    exact hQ _ _ _ _ dX8_holds_20 hP hS
  · have hf := ifF hb1 hf
    refine lv_aload_n hx hb dX8_holds_7 rfl (lv_at hl 0 rfl) ?_
    refine zg_X8_11 hx hb C hP (by decide) lay_0 rfl dX8_holds_8 ?_
    refine lv_iload_n hx hb dX8_holds_11 rfl (lv_at hl 1 rfl) ?_
    obtain ⟨hc2, hf⟩ := chk_some hf
    refine zz_shelf hx hb C hP (inb_vp hc2) dX8_holds_12 (fun r4 er4 hr4 => ?_)
    have hf := bnd_at r4 er4 hf
    refine zg_X8_118 hx hb C hP (lts0 hr4) (lay_s0 hr4) rfl dX8_holds_13 ?_
    refine lv_goto (tgt := 20) hx hb dX8_holds_16 (by decide) ?_
    have hf := Option.some.inj hf
    subst hf
    exact hQ _ _ _ _ dX8_holds_20 hP hS
set_option maxHeartbeats 4000000 in
set_option maxRecDepth 100000 in
theorem c_X8_says (l : Launch) {D : va_G} {a : Nat → Nat} {cA : Nat → ClassId} {A : Nat → Prop} {sa : Nat → Nat} (hDA : DA a A) {σ : PH} {d : PD} (hd1 : isHall d.1) (p1 : Int32) (p2 : Int32) {u : Int32 × PH} (hf : f_X8_says σ d p1 p2 = some u) : CTi l yX8_says cX8_says 4 (some .int) 2 44 D a cA A sa [.ref (a 0), .int p1, .int p2] σ d u.1 u.2 d := by
  refine zz_metI zpl_X8 hDA (Nat.le_of_ble_eq_true rfl) ?_
  intro p e R s m args below meth c Q ls hx hb hml C hRf hRl hQ hP hS hl
  have hl : lv_has ls 4 [(0, .ref (a 0)), (1, .int p1), (2, .int p2)] := hl
  unfold f_X8_says at hf
  refine lv_iload_n hx hb dX8_says_0 rfl (lv_at hl 1 rfl) ?_
  obtain ⟨u1, hzu1⟩ : ∃ z, z = f_X8_isShelf p1 := ⟨_, rfl⟩
  have hf := bnd_at u1 hzu1 hf
  refine zz_callSi (rest := []) hx hb hml C hP hS (c_X8_isShelf l hDA p1 hzu1.symm) zw_X8_69 ⟨Nat.le_trans (Nat.le_of_ble_eq_true rfl) hRf, Nat.le_trans (Nat.le_of_ble_eq_true rfl) hRl⟩  rfl hl.1 (Nat.le_of_ble_eq_true rfl) ⟨Nat.zero_le _, Nat.zero_le _⟩ rfl dX8_says_1 (fun H locs hP hS => ?_)
  refine lv_if_eq (tgt := 14) hx hb dX8_says_4 (by decide) (fun hb1 => ?_) (fun hb1 => ?_)
  · have hf := ifT hb1 hf
    refine lv_aload_n hx hb dX8_says_14 rfl (lv_at hl 0 rfl) ?_
    refine lv_iconst (v := (-1)) hx hb dX8_says_15 (by decide) ?_
    obtain ⟨u3, hzu3, hf⟩ := obd_some hf
    refine zz_callVi (rest := []) hx hb hml C hP hS (c_X8_refuse l hDA (-1) hzu3) zw_X8_73 ⟨Nat.le_trans (Nat.le_of_ble_eq_true rfl) hRf, Nat.le_trans (Nat.le_of_ble_eq_true rfl) hRl⟩ (by decide) lay_0 rfl rfl hl.1 (Nat.le_of_ble_eq_true rfl) ⟨Nat.zero_le _, Nat.zero_le _⟩ rfl dX8_says_16 (fun H locs hP hS => ?_)
    have hf := Option.some.inj hf
    subst hf
    exact hQ _ _ _ _ dX8_says_19 hP hS
  · have hf := ifF hb1 hf
    refine lv_iload_n hx hb dX8_says_7 rfl (lv_at hl 2 rfl) ?_
    obtain ⟨u4, hzu4⟩ : ∃ z, z = f_X0_isKind p2 := ⟨_, rfl⟩
    have hf := bnd_at u4 hzu4 hf
    refine zz_callSi (rest := []) hx hb hml C hP hS (c_X0_isKind l hDA p2 hzu4.symm) zw_X8_121 ⟨Nat.le_trans (Nat.le_of_ble_eq_true rfl) hRf, Nat.le_trans (Nat.le_of_ble_eq_true rfl) hRl⟩  rfl hl.1 (Nat.le_of_ble_eq_true rfl) ⟨Nat.zero_le _, Nat.zero_le _⟩ rfl dX8_says_8 (fun H locs hP hS => ?_)
    refine lv_if_ne (tgt := 20) hx hb dX8_says_11 (by decide) (fun hb4 => ?_) (fun hb4 => ?_)
    · have hf := ifF hb4 hf
      refine lv_aload_n hx hb dX8_says_20 rfl (lv_at hl 0 rfl) ?_
      refine zg_X8_11 hx hb C hP (by decide) lay_0 rfl dX8_says_21 ?_
      refine lv_iload_n hx hb dX8_says_24 rfl (lv_at hl 1 rfl) ?_
      obtain ⟨hc5, hf⟩ := chk_some hf
      refine zz_shelf hx hb C hP (inb_vp hc5) dX8_says_25 (fun r7 er7 hr7 => ?_)
      have hf := bnd_at r7 er7 hf
      refine lv_astore_n (lv' := [(3, .ref (a r7)), (0, .ref (a 0)), (1, .int p1), (2, .int p2)]) hx hb dX8_says_26 rfl hl (by decide) rfl (fun ls hl => ?_)
      refine lv_aload_n hx hb dX8_says_27 rfl (lv_at hl 0 rfl) ?_
      obtain ⟨u8, hzu8⟩ : ∃ z, z = f_X4_holdsRow σ r7 := ⟨_, rfl⟩
      have hf := bnd_at u8 hzu8 hf
      refine zz_callVi (rest := []) hx hb hml C hP hS (c_X4_holdsRow l hDA (sh0 := r7) hr7 hzu8.symm) zw_X8_124 ⟨Nat.le_trans (Nat.le_of_ble_eq_true rfl) hRf, Nat.le_trans (Nat.le_of_ble_eq_true rfl) hRl⟩ (lts0 hr7) (lay_s0 hr7) rfl rfl hl.1 (Nat.le_of_ble_eq_true rfl) ⟨Nat.zero_le _, Nat.zero_le _⟩ rfl dX8_says_28 (fun H locs hP hS => ?_)
      refine lv_if_eq (tgt := 41) hx hb dX8_says_31 (by decide) (fun hb8 => ?_) (fun hb8 => ?_)
      · have hf := ifT hb8 hf
        refine lv_aload_n hx hb dX8_says_41 rfl (lv_at hl 1 rfl) ?_
        refine zg_X8_50 hx hb C hP (by decide) lay_0 rfl dX8_says_42 ?_
        refine zg_X8_109 hx hb C hP (lth0 hd1) (lay_h0 hd1) rfl dX8_says_45 ?_
        refine lv_aload_n hx hb dX8_says_48 rfl (lv_at hl 0 rfl) ?_
        refine zg_X8_118 hx hb C hP (lts0 hr7) (lay_s0 hr7) rfl dX8_says_49 ?_
        obtain ⟨u10, hzu10⟩ : ∃ z, z = f_X0_has σ d.1 (gI σ r7 0) := ⟨_, rfl⟩
        have hf := bnd_at u10 hzu10 hf
        refine zz_callVi (rest := []) hx hb hml C hP hS (c_X0_has l hDA (h := d.1) hd1 (gI σ r7 0) hzu10.symm) zw_X8_113 ⟨Nat.le_trans (Nat.le_of_ble_eq_true rfl) hRf, Nat.le_trans (Nat.le_of_ble_eq_true rfl) hRl⟩ (lth hd1 1 (by decide)) (lay_h1 hd1) rfl rfl hl.1 (Nat.le_of_ble_eq_true rfl) ⟨Nat.zero_le _, Nat.zero_le _⟩ rfl dX8_says_52 (fun H locs hP hS => ?_)
        refine lv_if_ne (tgt := 65) hx hb dX8_says_55 (by decide) (fun hb10 => ?_) (fun hb10 => ?_)
        · have hf := ifF hb10 hf
          refine lv_aload_n hx hb dX8_says_65 rfl (lv_at hl 1 rfl) ?_
          refine zg_X8_50 hx hb C hP (by decide) lay_0 rfl dX8_says_66 ?_
          refine zg_X8_109 hx hb C hP (lth0 hd1) (lay_h0 hd1) rfl dX8_says_69 ?_
          refine zg_X8_128 hx hb C hP (lth hd1 1 (by decide)) (lay_h1 hd1) rfl dX8_says_72 ?_
          refine lv_aload_n hx hb dX8_says_75 rfl (lv_at hl 0 rfl) ?_
          refine zg_X8_118 hx hb C hP (lts0 hr7) (lay_s0 hr7) rfl dX8_says_76 ?_
          obtain ⟨hc11, hf⟩ := chk_some hf
          refine zz_iald hx hb C hP (lth hd1 2 (by decide)) (lay_h2 hd1) (inb_vp hc11) dX8_says_79 ?_
          refine lv_iload_n hx hb dX8_says_80 rfl (lv_at hl 3 rfl) ?_
          obtain ⟨u13, hzu13, hf⟩ := obd_some hf
          refine zz_callSi (rest := []) hx hb hml C hP hS (c_X0_isUnder l hDA (gI σ (d.1 + 2) (gI σ r7 0).toNatClampNeg) p2 hzu13) zw_X8_131 ⟨Nat.le_trans (Nat.le_of_ble_eq_true rfl) hRf, Nat.le_trans (Nat.le_of_ble_eq_true rfl) hRl⟩  rfl hl.1 (Nat.le_of_ble_eq_true rfl) ⟨Nat.zero_le _, Nat.zero_le _⟩ rfl dX8_says_81 (fun H locs hP hS => ?_)
          refine lv_if_ne (tgt := 94) hx hb dX8_says_84 (by decide) (fun hb13 => ?_) (fun hb13 => ?_)
          · have hf := ifF hb13 hf
            refine lv_aload_n hx hb dX8_says_94 rfl (lv_at hl 1 rfl) ?_
            refine zg_X8_50 hx hb C hP (by decide) lay_0 rfl dX8_says_95 ?_
            refine zg_X8_109 hx hb C hP (lth0 hd1) (lay_h0 hd1) rfl dX8_says_98 ?_
            refine lv_aload_n hx hb dX8_says_101 rfl (lv_at hl 0 rfl) ?_
            refine zg_X8_118 hx hb C hP (lts0 hr7) (lay_s0 hr7) rfl dX8_says_102 ?_
            refine lv_iload_n hx hb dX8_says_105 rfl (lv_at hl 3 rfl) ?_
            obtain ⟨u15, hzu15, hf⟩ := obd_some hf
            refine zz_callVi (rest := []) hx hb hml C hP hS (c_X0_tellsOf l hDA (h := d.1) hd1 (gI σ r7 0) p2 hzu15) zw_X8_134 ⟨Nat.le_trans (Nat.le_of_ble_eq_true rfl) hRf, Nat.le_trans (Nat.le_of_ble_eq_true rfl) hRl⟩ (lth hd1 1 (by decide)) (lay_h1 hd1) rfl rfl hl.1 (Nat.le_of_ble_eq_true rfl) ⟨Nat.zero_le _, Nat.zero_le _⟩ rfl dX8_says_106 (fun H locs hP hS => ?_)
            have hf := Option.some.inj hf
            subst hf
            exact hQ _ _ _ _ dX8_says_109 hP hS
          · have hf := ifT hb13 hf
            refine lv_aload_n hx hb dX8_says_87 rfl (lv_at hl 1 rfl) ?_
            refine lv_bipush (v := (-2)) hx hb dX8_says_88 (by decide) ?_
            obtain ⟨u16, hzu16, hf⟩ := obd_some hf
            refine zz_callVi (rest := []) hx hb hml C hP hS (c_X8_refuse l hDA (-2) hzu16) zw_X8_73 ⟨Nat.le_trans (Nat.le_of_ble_eq_true rfl) hRf, Nat.le_trans (Nat.le_of_ble_eq_true rfl) hRl⟩ (by decide) lay_0 rfl rfl hl.1 (Nat.le_of_ble_eq_true rfl) ⟨Nat.zero_le _, Nat.zero_le _⟩ rfl dX8_says_90 (fun H locs hP hS => ?_)
            have hf := Option.some.inj hf
            subst hf
            exact hQ _ _ _ _ dX8_says_93 hP hS
        · have hf := ifT hb10 hf
          refine lv_aload_n hx hb dX8_says_58 rfl (lv_at hl 1 rfl) ?_
          refine lv_bipush (v := (-3)) hx hb dX8_says_59 (by decide) ?_
          obtain ⟨u17, hzu17, hf⟩ := obd_some hf
          refine zz_callVi (rest := []) hx hb hml C hP hS (c_X8_refuse l hDA (-3) hzu17) zw_X8_73 ⟨Nat.le_trans (Nat.le_of_ble_eq_true rfl) hRf, Nat.le_trans (Nat.le_of_ble_eq_true rfl) hRl⟩ (by decide) lay_0 rfl rfl hl.1 (Nat.le_of_ble_eq_true rfl) ⟨Nat.zero_le _, Nat.zero_le _⟩ rfl dX8_says_61 (fun H locs hP hS => ?_)
          have hf := Option.some.inj hf
          subst hf
          exact hQ _ _ _ _ dX8_says_64 hP hS
      · have hf := ifF hb8 hf
        refine lv_aload_n hx hb dX8_says_34 rfl (lv_at hl 1 rfl) ?_
        refine lv_bipush (v := (-2)) hx hb dX8_says_35 (by decide) ?_
        obtain ⟨u18, hzu18, hf⟩ := obd_some hf
        refine zz_callVi (rest := []) hx hb hml C hP hS (c_X8_refuse l hDA (-2) hzu18) zw_X8_73 ⟨Nat.le_trans (Nat.le_of_ble_eq_true rfl) hRf, Nat.le_trans (Nat.le_of_ble_eq_true rfl) hRl⟩ (by decide) lay_0 rfl rfl hl.1 (Nat.le_of_ble_eq_true rfl) ⟨Nat.zero_le _, Nat.zero_le _⟩ rfl dX8_says_37 (fun H locs hP hS => ?_)
        have hf := Option.some.inj hf
        subst hf
        exact hQ _ _ _ _ dX8_says_40 hP hS
    · have hf := ifT hb4 hf
      refine lv_aload_n hx hb dX8_says_14 rfl (lv_at hl 0 rfl) ?_
      refine lv_iconst (v := (-1)) hx hb dX8_says_15 (by decide) ?_
      obtain ⟨u19, hzu19, hf⟩ := obd_some hf
      refine zz_callVi (rest := []) hx hb hml C hP hS (c_X8_refuse l hDA (-1) hzu19) zw_X8_73 ⟨Nat.le_trans (Nat.le_of_ble_eq_true rfl) hRf, Nat.le_trans (Nat.le_of_ble_eq_true rfl) hRl⟩ (by decide) lay_0 rfl rfl hl.1 (Nat.le_of_ble_eq_true rfl) ⟨Nat.zero_le _, Nat.zero_le _⟩ rfl dX8_says_16 (fun H locs hP hS => ?_)
      have hf := Option.some.inj hf
      subst hf
      exact hQ _ _ _ _ dX8_says_19 hP hS
set_option maxHeartbeats 4000000 in
set_option maxRecDepth 100000 in
theorem c_X8_singer (l : Launch) {D : va_G} {a : Nat → Nat} {cA : Nat → ClassId} {A : Nat → Prop} {sa : Nat → Nat} (hDA : DA a A) {σ : PH} {d : PD} (hd1 : isHall d.1) (p1 : Int32) (p2 : Int32) (p3 : Int32) {u : Int32 × PH} (hf : f_X8_singer σ d p1 p2 p3 = some u) : CTi l yX8_singer cX8_singer 4 (some .int) 5 114 D a cA A sa [.ref (a 0), .int p1, .int p2, .int p3] σ d u.1 u.2 d := by
  refine zz_metI zpl_X8 hDA (Nat.le_of_ble_eq_true rfl) ?_
  intro p e R s m args below meth c Q ls hx hb hml C hRf hRl hQ hP hS hl
  have hl : lv_has ls 4 [(0, .ref (a 0)), (1, .int p1), (2, .int p2), (3, .int p3)] := hl
  unfold f_X8_singer at hf
  refine lv_iload_n hx hb dX8_singer_0 rfl (lv_at hl 1 rfl) ?_
  obtain ⟨u1, hzu1⟩ : ∃ z, z = f_X0_isKind p1 := ⟨_, rfl⟩
  have hf := bnd_at u1 hzu1 hf
  refine zz_callSi (rest := []) hx hb hml C hP hS (c_X0_isKind l hDA p1 hzu1.symm) zw_X8_121 ⟨Nat.le_trans (Nat.le_of_ble_eq_true rfl) hRf, Nat.le_trans (Nat.le_of_ble_eq_true rfl) hRl⟩  rfl hl.1 (Nat.le_of_ble_eq_true rfl) ⟨Nat.zero_le _, Nat.zero_le _⟩ rfl dX8_singer_1 (fun H locs hP hS => ?_)
  refine lv_if_ne (tgt := 13) hx hb dX8_singer_4 (by decide) (fun hb1 => ?_) (fun hb1 => ?_)
  · have hf := ifF hb1 hf
    refine lv_iload_n hx hb dX8_singer_13 rfl (lv_at hl 2 rfl) ?_
    obtain ⟨u3, hzu3⟩ : ∃ z, z = f_X0_isA p2 := ⟨_, rfl⟩
    have hf := bnd_at u3 hzu3 hf
    refine zz_callSi (rest := []) hx hb hml C hP hS (c_X0_isA l hDA p2 hzu3.symm) zw_X8_137 ⟨Nat.le_trans (Nat.le_of_ble_eq_true rfl) hRf, Nat.le_trans (Nat.le_of_ble_eq_true rfl) hRl⟩  rfl hl.1 (Nat.le_of_ble_eq_true rfl) ⟨Nat.zero_le _, Nat.zero_le _⟩ rfl dX8_singer_14 (fun H locs hP hS => ?_)
    refine lv_if_eq (tgt := 27) hx hb dX8_singer_17 (by decide) (fun hb3 => ?_) (fun hb3 => ?_)
    · have hf := ifT hb3 hf
      refine lv_aload_n hx hb dX8_singer_27 rfl (lv_at hl 0 rfl) ?_
      refine lv_bipush (v := (-6)) hx hb dX8_singer_28 (by decide) ?_
      obtain ⟨u5, hzu5, hf⟩ := obd_some hf
      refine zz_callVi (rest := []) hx hb hml C hP hS (c_X8_refuse l hDA (-6) hzu5) zw_X8_73 ⟨Nat.le_trans (Nat.le_of_ble_eq_true rfl) hRf, Nat.le_trans (Nat.le_of_ble_eq_true rfl) hRl⟩ (by decide) lay_0 rfl rfl hl.1 (Nat.le_of_ble_eq_true rfl) ⟨Nat.zero_le _, Nat.zero_le _⟩ rfl dX8_singer_30 (fun H locs hP hS => ?_)
      have hf := Option.some.inj hf
      subst hf
      exact hQ _ _ _ _ dX8_singer_33 hP hS
    · have hf := ifF hb3 hf
      refine lv_iload_n hx hb dX8_singer_20 rfl (lv_at hl 3 rfl) ?_
      obtain ⟨u6, hzu6⟩ : ∃ z, z = f_X0_isOdds p3 := ⟨_, rfl⟩
      have hf := bnd_at u6 hzu6 hf
      refine zz_callSi (rest := []) hx hb hml C hP hS (c_X0_isOdds l hDA p3 hzu6.symm) zw_X8_140 ⟨Nat.le_trans (Nat.le_of_ble_eq_true rfl) hRf, Nat.le_trans (Nat.le_of_ble_eq_true rfl) hRl⟩  rfl hl.1 (Nat.le_of_ble_eq_true rfl) ⟨Nat.zero_le _, Nat.zero_le _⟩ rfl dX8_singer_21 (fun H locs hP hS => ?_)
      refine lv_if_ne (tgt := 34) hx hb dX8_singer_24 (by decide) (fun hb6 => ?_) (fun hb6 => ?_)
      · have hf := ifF hb6 hf
        refine lv_aload_n hx hb dX8_singer_34 rfl (lv_at hl 0 rfl) ?_
        refine zg_X8_50 hx hb C hP (by decide) lay_0 rfl dX8_singer_35 ?_
        refine zg_X8_109 hx hb C hP (lth0 hd1) (lay_h0 hd1) rfl dX8_singer_38 ?_
        obtain ⟨u8, hzu8⟩ : ∃ z, z = f_X0_hasRoom σ d.1 := ⟨_, rfl⟩
        have hf := bnd_at u8 hzu8 hf
        refine zz_callVi (rest := []) hx hb hml C hP hS (c_X0_hasRoom l hDA (h := d.1) hd1 hzu8.symm) zw_X8_143 ⟨Nat.le_trans (Nat.le_of_ble_eq_true rfl) hRf, Nat.le_trans (Nat.le_of_ble_eq_true rfl) hRl⟩ (lth hd1 1 (by decide)) (lay_h1 hd1) rfl rfl hl.1 (Nat.le_of_ble_eq_true rfl) ⟨Nat.zero_le _, Nat.zero_le _⟩ rfl dX8_singer_41 (fun H locs hP hS => ?_)
        refine lv_if_ne (tgt := 54) hx hb dX8_singer_44 (by decide) (fun hb8 => ?_) (fun hb8 => ?_)
        · have hf := ifF hb8 hf
          refine lv_aload_n hx hb dX8_singer_54 rfl (lv_at hl 0 rfl) ?_
          refine zg_X8_50 hx hb C hP (by decide) lay_0 rfl dX8_singer_55 ?_
          refine lv_iload_n hx hb dX8_singer_58 rfl (lv_at hl 1 rfl) ?_
          refine lv_iload_n hx hb dX8_singer_59 rfl (lv_at hl 2 rfl) ?_
          refine lv_iload_n hx hb dX8_singer_60 rfl (lv_at hl 3 rfl) ?_
          obtain ⟨u10, hzu10, hf⟩ := obd_some hf
          refine zz_callVv (rest := []) hx hb hml C hP hS (c_X2_join l hDA (h := d.1) hd1 p1 p2 p3 hzu10) zw_X8_146 ⟨Nat.le_trans (Nat.le_of_ble_eq_true rfl) hRf, Nat.le_trans (Nat.le_of_ble_eq_true rfl) hRl⟩ (lth0 hd1) (lay_h0 hd1) rfl rfl hl.1 (Nat.le_of_ble_eq_true rfl) ⟨Nat.zero_le _, Nat.zero_le _⟩ rfl dX8_singer_61 (fun H locs hP hS => ?_)
          refine lv_aload_n hx hb dX8_singer_64 rfl (lv_at hl 0 rfl) ?_
          refine zg_X8_50 hx hb C hP (by decide) lay_0 rfl dX8_singer_65 ?_
          refine zg_X8_109 hx hb C hP (lth0 hd1) (lay_h0 hd1) rfl dX8_singer_68 ?_
          refine zg_X8_150 hx hb C hP (lth hd1 1 (by decide)) (lay_h1 hd1) rfl dX8_singer_71 ?_
          refine lv_iconst (v := 1) hx hb dX8_singer_74 (by decide) ?_
          refine lv_isub hx hb dX8_singer_75 ?_
          have hf := Option.some.inj hf
          subst hf
          exact hQ _ _ _ _ dX8_singer_76 hP hS
        · have hf := ifT hb8 hf
          refine lv_aload_n hx hb dX8_singer_47 rfl (lv_at hl 0 rfl) ?_
          refine lv_bipush (v := (-7)) hx hb dX8_singer_48 (by decide) ?_
          obtain ⟨u11, hzu11, hf⟩ := obd_some hf
          refine zz_callVi (rest := []) hx hb hml C hP hS (c_X8_refuse l hDA (-7) hzu11) zw_X8_73 ⟨Nat.le_trans (Nat.le_of_ble_eq_true rfl) hRf, Nat.le_trans (Nat.le_of_ble_eq_true rfl) hRl⟩ (by decide) lay_0 rfl rfl hl.1 (Nat.le_of_ble_eq_true rfl) ⟨Nat.zero_le _, Nat.zero_le _⟩ rfl dX8_singer_50 (fun H locs hP hS => ?_)
          have hf := Option.some.inj hf
          subst hf
          exact hQ _ _ _ _ dX8_singer_53 hP hS
      · have hf := ifT hb6 hf
        refine lv_aload_n hx hb dX8_singer_27 rfl (lv_at hl 0 rfl) ?_
        refine lv_bipush (v := (-6)) hx hb dX8_singer_28 (by decide) ?_
        obtain ⟨u12, hzu12, hf⟩ := obd_some hf
        refine zz_callVi (rest := []) hx hb hml C hP hS (c_X8_refuse l hDA (-6) hzu12) zw_X8_73 ⟨Nat.le_trans (Nat.le_of_ble_eq_true rfl) hRf, Nat.le_trans (Nat.le_of_ble_eq_true rfl) hRl⟩ (by decide) lay_0 rfl rfl hl.1 (Nat.le_of_ble_eq_true rfl) ⟨Nat.zero_le _, Nat.zero_le _⟩ rfl dX8_singer_30 (fun H locs hP hS => ?_)
        have hf := Option.some.inj hf
        subst hf
        exact hQ _ _ _ _ dX8_singer_33 hP hS
  · have hf := ifT hb1 hf
    refine lv_aload_n hx hb dX8_singer_7 rfl (lv_at hl 0 rfl) ?_
    refine lv_iconst (v := (-1)) hx hb dX8_singer_8 (by decide) ?_
    obtain ⟨u13, hzu13, hf⟩ := obd_some hf
    refine zz_callVi (rest := []) hx hb hml C hP hS (c_X8_refuse l hDA (-1) hzu13) zw_X8_73 ⟨Nat.le_trans (Nat.le_of_ble_eq_true rfl) hRf, Nat.le_trans (Nat.le_of_ble_eq_true rfl) hRl⟩ (by decide) lay_0 rfl rfl hl.1 (Nat.le_of_ble_eq_true rfl) ⟨Nat.zero_le _, Nat.zero_le _⟩ rfl dX8_singer_9 (fun H locs hP hS => ?_)
    have hf := Option.some.inj hf
    subst hf
    exact hQ _ _ _ _ dX8_singer_12 hP hS
set_option maxHeartbeats 4000000 in
set_option maxRecDepth 100000 in
theorem c_X8_singerOf (l : Launch) {D : va_G} {a : Nat → Nat} {cA : Nat → ClassId} {A : Nat → Prop} {sa : Nat → Nat} (hDA : DA a A) {σ : PH} {d : PD} (hd1 : isHall d.1) (p1 : Int32) (p2 : Int32) {u : Int32 × PH} (hf : f_X8_singerOf σ d p1 p2 = some u) : CTi l yX8_singerOf cX8_singerOf 4 (some .int) 3 70 D a cA A sa [.ref (a 0), .int p1, .int p2] σ d u.1 u.2 d := by
  refine zz_metI zpl_X8 hDA (Nat.le_of_ble_eq_true rfl) ?_
  intro p e R s m args below meth c Q ls hx hb hml C hRf hRl hQ hP hS hl
  have hl : lv_has ls 4 [(0, .ref (a 0)), (1, .int p1), (2, .int p2)] := hl
  unfold f_X8_singerOf at hf
  refine lv_aload_n hx hb dX8_singerOf_0 rfl (lv_at hl 0 rfl) ?_
  refine zg_X8_50 hx hb C hP (by decide) lay_0 rfl dX8_singerOf_1 ?_
  refine zg_X8_109 hx hb C hP (lth0 hd1) (lay_h0 hd1) rfl dX8_singerOf_4 ?_
  refine lv_astore_n (lv' := [(3, .ref (a (d.1 + 1))), (0, .ref (a 0)), (1, .int p1), (2, .int p2)]) hx hb dX8_singerOf_7 rfl hl (by decide) rfl (fun ls hl => ?_)
  refine lv_aload_n hx hb dX8_singerOf_8 rfl (lv_at hl 0 rfl) ?_
  refine lv_iload_n hx hb dX8_singerOf_9 rfl (lv_at hl 2 rfl) ?_
  obtain ⟨u1, hzu1⟩ : ∃ z, z = f_X0_has σ d.1 p1 := ⟨_, rfl⟩
  have hf := bnd_at u1 hzu1 hf
  refine zz_callVi (rest := []) hx hb hml C hP hS (c_X0_has l hDA (h := d.1) hd1 p1 hzu1.symm) zw_X8_113 ⟨Nat.le_trans (Nat.le_of_ble_eq_true rfl) hRf, Nat.le_trans (Nat.le_of_ble_eq_true rfl) hRl⟩ (lth hd1 1 (by decide)) (lay_h1 hd1) rfl rfl hl.1 (Nat.le_of_ble_eq_true rfl) ⟨Nat.zero_le _, Nat.zero_le _⟩ rfl dX8_singerOf_10 (fun H locs hP hS => ?_)
  refine lv_if_ne (tgt := 23) hx hb dX8_singerOf_13 (by decide) (fun hb1 => ?_) (fun hb1 => ?_)
  · have hf := ifF hb1 hf
    refine lv_iload_n hx hb dX8_singerOf_23 rfl (lv_at hl 3 rfl) ?_
    by_cases hb2 : p2 = 0
    · have hf := ifT hb2 hf
      refine lv_tableIn (tgt := 60) hx hb dX8_singerOf_24 (by rw [hb2]; decide) (by rw [hb2]; decide) (by rw [hb2]; rfl) (by decide) ?_
      refine lv_aload_n hx hb dX8_singerOf_60 rfl (lv_at hl 0 rfl) ?_
      refine zg_X8_128 hx hb C hP (lth hd1 1 (by decide)) (lay_h1 hd1) rfl dX8_singerOf_61 ?_
      refine lv_iload_n hx hb dX8_singerOf_64 rfl (lv_at hl 2 rfl) ?_
      obtain ⟨hc3, hf⟩ := chk_some hf
      refine zz_iald hx hb C hP (lth hd1 2 (by decide)) (lay_h2 hd1) (inb_vp hc3) dX8_singerOf_65 ?_
      have hf := Option.some.inj hf
      subst hf
      exact hQ _ _ _ _ dX8_singerOf_66 hP hS
    have hf := ifF hb2 hf
    by_cases hb4 : p2 = 1
    · have hf := ifT hb4 hf
      refine lv_tableIn (tgt := 67) hx hb dX8_singerOf_24 (by rw [hb4]; decide) (by rw [hb4]; decide) (by rw [hb4]; rfl) (by decide) ?_
      refine lv_aload_n hx hb dX8_singerOf_67 rfl (lv_at hl 0 rfl) ?_
      refine zg_X8_153 hx hb C hP (lth hd1 1 (by decide)) (lay_h1 hd1) rfl dX8_singerOf_68 ?_
      refine lv_iload_n hx hb dX8_singerOf_71 rfl (lv_at hl 2 rfl) ?_
      obtain ⟨hc5, hf⟩ := chk_some hf
      refine zz_iald hx hb C hP (lth hd1 3 (by decide)) (lay_h3 hd1) (inb_vp hc5) dX8_singerOf_72 ?_
      have hf := Option.some.inj hf
      subst hf
      exact hQ _ _ _ _ dX8_singerOf_73 hP hS
    have hf := ifF hb4 hf
    by_cases hb6 : p2 = 2
    · have hf := ifT hb6 hf
      refine lv_tableIn (tgt := 74) hx hb dX8_singerOf_24 (by rw [hb6]; decide) (by rw [hb6]; decide) (by rw [hb6]; rfl) (by decide) ?_
      refine lv_aload_n hx hb dX8_singerOf_74 rfl (lv_at hl 0 rfl) ?_
      refine zg_X8_156 hx hb C hP (lth hd1 1 (by decide)) (lay_h1 hd1) rfl dX8_singerOf_75 ?_
      refine lv_iload_n hx hb dX8_singerOf_78 rfl (lv_at hl 2 rfl) ?_
      obtain ⟨hc7, hf⟩ := chk_some hf
      refine zz_iald hx hb C hP (lth hd1 4 (by decide)) (lay_h4 hd1) (inb_vp hc7) dX8_singerOf_79 ?_
      have hf := Option.some.inj hf
      subst hf
      exact hQ _ _ _ _ dX8_singerOf_80 hP hS
    have hf := ifF hb6 hf
    by_cases hb8 : p2 = 3
    · have hf := ifT hb8 hf
      refine lv_tableIn (tgt := 81) hx hb dX8_singerOf_24 (by rw [hb8]; decide) (by rw [hb8]; decide) (by rw [hb8]; rfl) (by decide) ?_
      refine lv_aload_n hx hb dX8_singerOf_81 rfl (lv_at hl 0 rfl) ?_
      refine zg_X8_159 hx hb C hP (lth hd1 1 (by decide)) (lay_h1 hd1) rfl dX8_singerOf_82 ?_
      refine lv_iload_n hx hb dX8_singerOf_85 rfl (lv_at hl 2 rfl) ?_
      obtain ⟨hc9, hf⟩ := chk_some hf
      refine zz_iald hx hb C hP (lth hd1 5 (by decide)) (lay_h5 hd1) (inb_vp hc9) dX8_singerOf_86 ?_
      have hf := Option.some.inj hf
      subst hf
      exact hQ _ _ _ _ dX8_singerOf_87 hP hS
    have hf := ifF hb8 hf
    by_cases hb10 : p2 = 4
    · have hf := ifT hb10 hf
      refine lv_tableIn (tgt := 88) hx hb dX8_singerOf_24 (by rw [hb10]; decide) (by rw [hb10]; decide) (by rw [hb10]; rfl) (by decide) ?_
      refine lv_aload_n hx hb dX8_singerOf_88 rfl (lv_at hl 1 rfl) ?_
      refine zg_X8_50 hx hb C hP (by decide) lay_0 rfl dX8_singerOf_89 ?_
      refine lv_iload_n hx hb dX8_singerOf_92 rfl (lv_at hl 2 rfl) ?_
      obtain ⟨u12, hzu12, hf⟩ := obd_some hf
      refine zz_callVi (rest := []) hx hb hml C hP hS (c_X2_likely l hDA (h := d.1) hd1 p1 hzu12) zw_X8_162 ⟨Nat.le_trans (Nat.le_of_ble_eq_true rfl) hRf, Nat.le_trans (Nat.le_of_ble_eq_true rfl) hRl⟩ (lth0 hd1) (lay_h0 hd1) rfl rfl hl.1 (Nat.le_of_ble_eq_true rfl) ⟨Nat.zero_le _, Nat.zero_le _⟩ rfl dX8_singerOf_93 (fun H locs hP hS => ?_)
      have hf := Option.some.inj hf
      subst hf
      exact hQ _ _ _ _ dX8_singerOf_96 hP hS
    have hf := ifF hb10 hf
    refine lv_tableOut (tgt := 97) hx hb dX8_singerOf_24 (sw_0_4 hb2 hb4 hb6 hb8 hb10) (by decide) ?_
    refine lv_aload_n hx hb dX8_singerOf_97 rfl (lv_at hl 1 rfl) ?_
    refine lv_bipush (v := (-5)) hx hb dX8_singerOf_98 (by decide) ?_
    obtain ⟨u13, hzu13, hf⟩ := obd_some hf
    refine zz_callVi (rest := []) hx hb hml C hP hS (c_X8_refuse l hDA (-5) hzu13) zw_X8_73 ⟨Nat.le_trans (Nat.le_of_ble_eq_true rfl) hRf, Nat.le_trans (Nat.le_of_ble_eq_true rfl) hRl⟩ (by decide) lay_0 rfl rfl hl.1 (Nat.le_of_ble_eq_true rfl) ⟨Nat.zero_le _, Nat.zero_le _⟩ rfl dX8_singerOf_100 (fun H locs hP hS => ?_)
    have hf := Option.some.inj hf
    subst hf
    exact hQ _ _ _ _ dX8_singerOf_103 hP hS
  · have hf := ifT hb1 hf
    refine lv_aload_n hx hb dX8_singerOf_16 rfl (lv_at hl 1 rfl) ?_
    refine lv_bipush (v := (-5)) hx hb dX8_singerOf_17 (by decide) ?_
    obtain ⟨u14, hzu14, hf⟩ := obd_some hf
    refine zz_callVi (rest := []) hx hb hml C hP hS (c_X8_refuse l hDA (-5) hzu14) zw_X8_73 ⟨Nat.le_trans (Nat.le_of_ble_eq_true rfl) hRf, Nat.le_trans (Nat.le_of_ble_eq_true rfl) hRl⟩ (by decide) lay_0 rfl rfl hl.1 (Nat.le_of_ble_eq_true rfl) ⟨Nat.zero_le _, Nat.zero_le _⟩ rfl dX8_singerOf_19 (fun H locs hP hS => ?_)
    have hf := Option.some.inj hf
    subst hf
    exact hQ _ _ _ _ dX8_singerOf_22 hP hS
set_option maxHeartbeats 4000000 in
set_option maxRecDepth 100000 in
theorem c_X8_ask (l : Launch) {D : va_G} {a : Nat → Nat} {cA : Nat → ClassId} {A : Nat → Prop} {sa : Nat → Nat} (hDA : DA a A) {σ : PH} {d : PD} (hd1 : isHall d.1) (p1 : Int32) (p2 : Int32) {u : Int32 × PH} (hf : f_X8_ask σ d p1 p2 = some u) : CTi l yX8_ask cX8_ask 4 (some .int) 5 113 D a cA A sa [.ref (a 0), .int p1, .int p2] σ d u.1 u.2 d := by
  refine zz_metI zpl_X8 hDA (Nat.le_of_ble_eq_true rfl) ?_
  intro p e R s m args below meth c Q ls hx hb hml C hRf hRl hQ hP hS hl
  have hl : lv_has ls 4 [(0, .ref (a 0)), (1, .int p1), (2, .int p2)] := hl
  unfold f_X8_ask at hf
  refine lv_iload_n hx hb dX8_ask_0 rfl (lv_at hl 1 rfl) ?_
  refine lv_iload_n hx hb dX8_ask_1 rfl (lv_at hl 2 rfl) ?_
  obtain ⟨u1, hzu1, hf⟩ := obd_some hf
  refine zz_callSi (rest := []) hx hb hml C hP hS (c_X2_suits l hDA p1 p2 hzu1) zw_X8_165 ⟨Nat.le_trans (Nat.le_of_ble_eq_true rfl) hRf, Nat.le_trans (Nat.le_of_ble_eq_true rfl) hRl⟩  rfl hl.1 (Nat.le_of_ble_eq_true rfl) ⟨Nat.zero_le _, Nat.zero_le _⟩ rfl dX8_ask_2 (fun H locs hP hS => ?_)
  refine lv_if_ne (tgt := 15) hx hb dX8_ask_5 (by decide) (fun hb1 => ?_) (fun hb1 => ?_)
  · have hf := ifF hb1 hf
    refine lv_aload_n hx hb dX8_ask_15 rfl (lv_at hl 0 rfl) ?_
    refine zg_X8_50 hx hb C hP (by decide) lay_0 rfl dX8_ask_16 ?_
    refine lv_iload_n hx hb dX8_ask_19 rfl (lv_at hl 1 rfl) ?_
    obtain ⟨u3, hzu3, hf⟩ := obd_some hf
    refine zz_callVi (rest := []) hx hb hml C hP hS (c_X2_rule l hDA (h := d.1) hd1 p1 hzu3) zw_X8_168 ⟨Nat.le_trans (Nat.le_of_ble_eq_true rfl) hRf, Nat.le_trans (Nat.le_of_ble_eq_true rfl) hRl⟩ (lth0 hd1) (lay_h0 hd1) rfl rfl hl.1 (Nat.le_of_ble_eq_true rfl) ⟨Nat.zero_le _, Nat.zero_le _⟩ rfl dX8_ask_20 (fun H locs hP hS => ?_)
    refine lv_istore_n (lv' := [(3, .int u3), (0, .ref (a 0)), (1, .int p1), (2, .int p2)]) hx hb dX8_ask_23 rfl hl (by decide) rfl (fun ls hl => ?_)
    refine lv_aload_n hx hb dX8_ask_24 rfl (lv_at hl 1 rfl) ?_
    refine zg_X8_50 hx hb C hP (by decide) lay_0 rfl dX8_ask_25 ?_
    refine lv_iload_n hx hb dX8_ask_28 rfl (lv_at hl 2 rfl) ?_
    refine lv_iload_n hx hb dX8_ask_29 rfl (lv_at hl 3 rfl) ?_
    obtain ⟨u4, hzu4, hf⟩ := obd_some hf
    refine zz_callVv (rest := []) hx hb hml C hP hS (c_X2_put l hDA (h := d.1) hd1 p1 p2 hzu4) zw_X8_171 ⟨Nat.le_trans (Nat.le_of_ble_eq_true rfl) hRf, Nat.le_trans (Nat.le_of_ble_eq_true rfl) hRl⟩ (lth0 hd1) (lay_h0 hd1) rfl rfl hl.1 (Nat.le_of_ble_eq_true rfl) ⟨Nat.zero_le _, Nat.zero_le _⟩ rfl dX8_ask_30 (fun H locs hP hS => ?_)
    refine lv_iload_n hx hb dX8_ask_33 rfl (lv_at hl 0 rfl) ?_
    have hf := Option.some.inj hf
    subst hf
    exact hQ _ _ _ _ dX8_ask_34 hP hS
  · have hf := ifT hb1 hf
    refine lv_aload_n hx hb dX8_ask_8 rfl (lv_at hl 0 rfl) ?_
    refine lv_bipush (v := (-6)) hx hb dX8_ask_9 (by decide) ?_
    obtain ⟨u5, hzu5, hf⟩ := obd_some hf
    refine zz_callVi (rest := []) hx hb hml C hP hS (c_X8_refuse l hDA (-6) hzu5) zw_X8_73 ⟨Nat.le_trans (Nat.le_of_ble_eq_true rfl) hRf, Nat.le_trans (Nat.le_of_ble_eq_true rfl) hRl⟩ (by decide) lay_0 rfl rfl hl.1 (Nat.le_of_ble_eq_true rfl) ⟨Nat.zero_le _, Nat.zero_le _⟩ rfl dX8_ask_11 (fun H locs hP hS => ?_)
    have hf := Option.some.inj hf
    subst hf
    exact hQ _ _ _ _ dX8_ask_14 hP hS
set_option maxHeartbeats 4000000 in
set_option maxRecDepth 100000 in
theorem c_X8_fault (l : Launch) {D : va_G} {a : Nat → Nat} {cA : Nat → ClassId} {A : Nat → Prop} {sa : Nat → Nat} (hDA : DA a A) {σ : PH} {d : PD}  {u : Int32} (hf : f_X8_fault σ = u) : CTi l yX8_fault cX8_fault 1 (some .int) 0 0 D a cA A sa [.ref (a 0)] σ d u σ d := by
  refine zz_metI zpl_X8 hDA (Nat.le_of_ble_eq_true rfl) ?_
  intro p e R s m args below meth c Q ls hx hb hml C hRf hRl hQ hP hS hl
  have hl : lv_has ls 1 [(0, .ref (a 0))] := hl
  unfold f_X8_fault at hf
  refine lv_aload_n hx hb dX8_fault_0 rfl (lv_at hl 0 rfl) ?_
  refine zg_X8_64 hx hb C hP (by decide) lay_0 rfl dX8_fault_1 ?_
  subst hf
  exact hQ _ _ _ _ dX8_fault_4 hP hS
set_option maxHeartbeats 4000000 in
set_option maxRecDepth 100000 in
theorem c_X8_worlds (l : Launch) {D : va_G} {a : Nat → Nat} {cA : Nat → ClassId} {A : Nat → Prop} {sa : Nat → Nat} (hDA : DA a A) {σ : PH} {d : PD} (hd1 : isHall d.1) (p1 : Int32) {u : Int32 × PH} (hf : f_X8_worlds σ d p1 = some u) : CTi l yX8_worlds cX8_worlds 2 (some .int) 3 64 D a cA A sa [.ref (a 0), .int p1] σ d u.1 u.2 d := by
  refine zz_metI zpl_X8 hDA (Nat.le_of_ble_eq_true rfl) ?_
  intro p e R s m args below meth c Q ls hx hb hml C hRf hRl hQ hP hS hl
  have hl : lv_has ls 2 [(0, .ref (a 0)), (1, .int p1)] := hl
  unfold f_X8_worlds at hf
  refine lv_iload_n hx hb dX8_worlds_0 rfl (lv_at hl 1 rfl) ?_
  by_cases hb0 : p1 = 0
  · have hf := ifT hb0 hf
    refine lv_lookup (off := 27) (tgt := 28) hx hb dX8_worlds_1 (by decide) (by rw [hb0]; decide) (by decide) ?_
    refine lv_aload_n hx hb dX8_worlds_28 rfl (lv_at hl 0 rfl) ?_
    refine zg_X8_50 hx hb C hP (by decide) lay_0 rfl dX8_worlds_29 ?_
    refine zg_X8_190 hx hb C hP (lth0 hd1) (lay_h0 hd1) rfl dX8_worlds_32 ?_
    refine zg_X8_194 hx hb C hP (lth hd1 7 (by decide)) (lay_h7 hd1) rfl dX8_worlds_35 ?_
    have hf := Option.some.inj hf
    subst hf
    exact hQ _ _ _ _ dX8_worlds_38 hP hS
  have hf := ifF hb0 hf
  by_cases hb1 : p1 = 1
  · have hf := ifT hb1 hf
    refine lv_lookup (off := 38) (tgt := 39) hx hb dX8_worlds_1 (by decide) (by rw [hb1]; decide) (by decide) ?_
    refine lv_aload_n hx hb dX8_worlds_39 rfl (lv_at hl 0 rfl) ?_
    refine zg_X8_50 hx hb C hP (by decide) lay_0 rfl dX8_worlds_40 ?_
    obtain ⟨u3, hzu3⟩ : ∃ z, z = f_X2_possible σ d.1 := ⟨_, rfl⟩
    have hf := bnd_at u3 hzu3 hf
    refine zz_callVi (rest := []) hx hb hml C hP hS (c_X2_possible l hDA (h := d.1) hd1 hzu3.symm) zw_X8_197 ⟨Nat.le_trans (Nat.le_of_ble_eq_true rfl) hRf, Nat.le_trans (Nat.le_of_ble_eq_true rfl) hRl⟩ (lth0 hd1) (lay_h0 hd1) rfl rfl hl.1 (Nat.le_of_ble_eq_true rfl) ⟨Nat.zero_le _, Nat.zero_le _⟩ rfl dX8_worlds_43 (fun H locs hP hS => ?_)
    have hf := Option.some.inj hf
    subst hf
    exact hQ _ _ _ _ dX8_worlds_46 hP hS
  have hf := ifF hb1 hf
  refine lv_lookup (off := 46) (tgt := 47) hx hb dX8_worlds_1 (by decide) (lks_0_1 hb0 hb1) (by decide) ?_
  refine lv_aload_n hx hb dX8_worlds_47 rfl (lv_at hl 0 rfl) ?_
  refine lv_bipush (v := (-5)) hx hb dX8_worlds_48 (by decide) ?_
  obtain ⟨u4, hzu4, hf⟩ := obd_some hf
  refine zz_callVi (rest := []) hx hb hml C hP hS (c_X8_refuse l hDA (-5) hzu4) zw_X8_73 ⟨Nat.le_trans (Nat.le_of_ble_eq_true rfl) hRf, Nat.le_trans (Nat.le_of_ble_eq_true rfl) hRl⟩ (by decide) lay_0 rfl rfl hl.1 (Nat.le_of_ble_eq_true rfl) ⟨Nat.zero_le _, Nat.zero_le _⟩ rfl dX8_worlds_50 (fun H locs hP hS => ?_)
  have hf := Option.some.inj hf
  subst hf
  exact hQ _ _ _ _ dX8_worlds_53 hP hS
set_option maxHeartbeats 4000000 in
set_option maxRecDepth 100000 in
theorem c_X8_world (l : Launch) {D : va_G} {a : Nat → Nat} {cA : Nat → ClassId} {A : Nat → Prop} {sa : Nat → Nat} (hDA : DA a A) {σ : PH} {d : PD} (hd1 : isHall d.1) (p1 : Int32) {u : Int32 × PH} (hf : f_X8_world σ d p1 = some u) : CTi l yX8_world cX8_world 2 (some .int) 3 67 D a cA A sa [.ref (a 0), .int p1] σ d u.1 u.2 d := by
  refine zz_metI zpl_X8 hDA (Nat.le_of_ble_eq_true rfl) ?_
  intro p e R s m args below meth c Q ls hx hb hml C hRf hRl hQ hP hS hl
  have hl : lv_has ls 2 [(0, .ref (a 0)), (1, .int p1)] := hl
  unfold f_X8_world at hf
  refine lv_iload_n hx hb dX8_world_0 rfl (lv_at hl 1 rfl) ?_
  refine lv_if_lt (tgt := 15) hx hb dX8_world_1 (by decide) (fun hb0 => ?_) (fun hb0 => ?_)
  · have hf := ifT hb0 hf
    refine lv_aload_n hx hb dX8_world_15 rfl (lv_at hl 0 rfl) ?_
    refine lv_bipush (v := (-5)) hx hb dX8_world_16 (by decide) ?_
    obtain ⟨u2, hzu2, hf⟩ := obd_some hf
    refine zz_callVi (rest := []) hx hb hml C hP hS (c_X8_refuse l hDA (-5) hzu2) zw_X8_73 ⟨Nat.le_trans (Nat.le_of_ble_eq_true rfl) hRf, Nat.le_trans (Nat.le_of_ble_eq_true rfl) hRl⟩ (by decide) lay_0 rfl rfl hl.1 (Nat.le_of_ble_eq_true rfl) ⟨Nat.zero_le _, Nat.zero_le _⟩ rfl dX8_world_18 (fun H locs hP hS => ?_)
    have hf := Option.some.inj hf
    subst hf
    exact hQ _ _ _ _ dX8_world_21 hP hS
  · have hf := ifF hb0 hf
    refine lv_iload_n hx hb dX8_world_4 rfl (lv_at hl 1 rfl) ?_
    refine lv_aload_n hx hb dX8_world_5 rfl (lv_at hl 0 rfl) ?_
    refine zg_X8_50 hx hb C hP (by decide) lay_0 rfl dX8_world_6 ?_
    obtain ⟨u3, hzu3⟩ : ∃ z, z = f_X2_possible σ d.1 := ⟨_, rfl⟩
    have hf := bnd_at u3 hzu3 hf
    refine zz_callVi (rest := [.int p1]) hx hb hml C hP hS (c_X2_possible l hDA (h := d.1) hd1 hzu3.symm) zw_X8_197 ⟨Nat.le_trans (Nat.le_of_ble_eq_true rfl) hRf, Nat.le_trans (Nat.le_of_ble_eq_true rfl) hRl⟩ (lth0 hd1) (lay_h0 hd1) rfl rfl hl.1 (Nat.le_of_ble_eq_true rfl) ⟨Nat.zero_le _, Nat.zero_le _⟩ rfl dX8_world_9 (fun H locs hP hS => ?_)
    refine lv_icmp_lt (tgt := 22) hx hb dX8_world_12 (by decide) (fun hb3 => ?_) (fun hb3 => ?_)
    · have hf := ifT hb3 hf
      refine lv_aload_n hx hb dX8_world_22 rfl (lv_at hl 0 rfl) ?_
      refine zg_X8_50 hx hb C hP (by decide) lay_0 rfl dX8_world_23 ?_
      refine lv_iload_n hx hb dX8_world_26 rfl (lv_at hl 1 rfl) ?_
      obtain ⟨u5, hzu5, hf⟩ := obd_some hf
      refine zz_callVi (rest := []) hx hb hml C hP hS (c_X2_possibleWorld l hDA (h := d.1) hd1 p1 hzu5) zw_X8_201 ⟨Nat.le_trans (Nat.le_of_ble_eq_true rfl) hRf, Nat.le_trans (Nat.le_of_ble_eq_true rfl) hRl⟩ (lth0 hd1) (lay_h0 hd1) rfl rfl hl.1 (Nat.le_of_ble_eq_true rfl) ⟨Nat.zero_le _, Nat.zero_le _⟩ rfl dX8_world_27 (fun H locs hP hS => ?_)
      have hf := Option.some.inj hf
      subst hf
      exact hQ _ _ _ _ dX8_world_30 hP hS
    · have hf := ifF hb3 hf
      refine lv_aload_n hx hb dX8_world_15 rfl (lv_at hl 0 rfl) ?_
      refine lv_bipush (v := (-5)) hx hb dX8_world_16 (by decide) ?_
      obtain ⟨u6, hzu6, hf⟩ := obd_some hf
      refine zz_callVi (rest := []) hx hb hml C hP hS (c_X8_refuse l hDA (-5) hzu6) zw_X8_73 ⟨Nat.le_trans (Nat.le_of_ble_eq_true rfl) hRf, Nat.le_trans (Nat.le_of_ble_eq_true rfl) hRl⟩ (by decide) lay_0 rfl rfl hl.1 (Nat.le_of_ble_eq_true rfl) ⟨Nat.zero_le _, Nat.zero_le _⟩ rfl dX8_world_18 (fun H locs hP hS => ?_)
      have hf := Option.some.inj hf
      subst hf
      exact hQ _ _ _ _ dX8_world_21 hP hS
set_option maxHeartbeats 4000000 in
set_option maxRecDepth 100000 in
theorem c_X8_sounds (l : Launch) {D : va_G} {a : Nat → Nat} {cA : Nat → ClassId} {A : Nat → Prop} {sa : Nat → Nat} (hDA : DA a A) {σ : PH} {d : PD} (hd1 : isHall d.1) (p1 : Int32) (p2 : Int32) {u : Int32 × PH} (hf : f_X8_sounds σ d p1 p2 = some u) : CTi l yX8_sounds cX8_sounds 4 (some .int) 4 99 D a cA A sa [.ref (a 0), .int p1, .int p2] σ d u.1 u.2 d := by
  refine zz_metI zpl_X8 hDA (Nat.le_of_ble_eq_true rfl) ?_
  intro p e R s m args below meth c Q ls hx hb hml C hRf hRl hQ hP hS hl
  have hl : lv_has ls 4 [(0, .ref (a 0)), (1, .int p1), (2, .int p2)] := hl
  unfold f_X8_sounds at hf
  refine lv_aload_n hx hb dX8_sounds_0 rfl (lv_at hl 0 rfl) ?_
  refine zg_X8_50 hx hb C hP (by decide) lay_0 rfl dX8_sounds_1 ?_
  refine zg_X8_190 hx hb C hP (lth0 hd1) (lay_h0 hd1) rfl dX8_sounds_4 ?_
  refine lv_iload_n hx hb dX8_sounds_7 rfl (lv_at hl 2 rfl) ?_
  obtain ⟨u1, hzu1, hf⟩ := obd_some hf
  refine zz_callVi (rest := []) hx hb hml C hP hS (c_X7_indexOf l hDA (h := d.1) hd1 p2 hzu1) zw_X8_204 ⟨Nat.le_trans (Nat.le_of_ble_eq_true rfl) hRf, Nat.le_trans (Nat.le_of_ble_eq_true rfl) hRl⟩ (lth hd1 7 (by decide)) (lay_h7 hd1) rfl rfl hl.1 (Nat.le_of_ble_eq_true rfl) ⟨Nat.zero_le _, Nat.zero_le _⟩ rfl dX8_sounds_8 (fun H locs hP hS => ?_)
  refine lv_istore_n (lv' := [(3, .int u1), (0, .ref (a 0)), (1, .int p1), (2, .int p2)]) hx hb dX8_sounds_11 rfl hl (by decide) rfl (fun ls hl => ?_)
  refine lv_aload_n hx hb dX8_sounds_12 rfl (lv_at hl 1 rfl) ?_
  refine zg_X8_50 hx hb C hP (by decide) lay_0 rfl dX8_sounds_13 ?_
  refine zg_X8_109 hx hb C hP (lth0 hd1) (lay_h0 hd1) rfl dX8_sounds_16 ?_
  refine lv_iload_n hx hb dX8_sounds_19 rfl (lv_at hl 2 rfl) ?_
  obtain ⟨u2, hzu2⟩ : ∃ z, z = f_X0_isSet σ d.1 p1 := ⟨_, rfl⟩
  have hf := bnd_at u2 hzu2 hf
  refine zz_callVi (rest := []) hx hb hml C hP hS (c_X0_isSet l hDA (h := d.1) hd1 p1 hzu2.symm) zw_X8_207 ⟨Nat.le_trans (Nat.le_of_ble_eq_true rfl) hRf, Nat.le_trans (Nat.le_of_ble_eq_true rfl) hRl⟩ (lth hd1 1 (by decide)) (lay_h1 hd1) rfl rfl hl.1 (Nat.le_of_ble_eq_true rfl) ⟨Nat.zero_le _, Nat.zero_le _⟩ rfl dX8_sounds_20 (fun H locs hP hS => ?_)
  refine lv_if_eq (tgt := 31) hx hb dX8_sounds_23 (by decide) (fun hb2 => ?_) (fun hb2 => ?_)
  · have hf := ifT hb2 hf
    refine lv_aload_n hx hb dX8_sounds_31 rfl (lv_at hl 1 rfl) ?_
    refine lv_bipush (v := (-6)) hx hb dX8_sounds_32 (by decide) ?_
    obtain ⟨u4, hzu4, hf⟩ := obd_some hf
    refine zz_callVi (rest := []) hx hb hml C hP hS (c_X8_refuse l hDA (-6) hzu4) zw_X8_73 ⟨Nat.le_trans (Nat.le_of_ble_eq_true rfl) hRf, Nat.le_trans (Nat.le_of_ble_eq_true rfl) hRl⟩ (by decide) lay_0 rfl rfl hl.1 (Nat.le_of_ble_eq_true rfl) ⟨Nat.zero_le _, Nat.zero_le _⟩ rfl dX8_sounds_34 (fun H locs hP hS => ?_)
    have hf := Option.some.inj hf
    subst hf
    exact hQ _ _ _ _ dX8_sounds_37 hP hS
  · have hf := ifF hb2 hf
    refine lv_iload_n hx hb dX8_sounds_26 rfl (lv_at hl 0 rfl) ?_
    refine lv_iconst (v := (-1)) hx hb dX8_sounds_27 (by decide) ?_
    refine lv_icmp_ne (tgt := 38) hx hb dX8_sounds_28 (by decide) (fun hb4 => ?_) (fun hb4 => ?_)
    · have hf := ifF hb4 hf
      refine lv_aload_n hx hb dX8_sounds_38 rfl (lv_at hl 1 rfl) ?_
      refine zg_X8_50 hx hb C hP (by decide) lay_0 rfl dX8_sounds_39 ?_
      refine zg_X8_190 hx hb C hP (lth0 hd1) (lay_h0 hd1) rfl dX8_sounds_42 ?_
      refine lv_iload_n hx hb dX8_sounds_45 rfl (lv_at hl 2 rfl) ?_
      refine lv_iload_n hx hb dX8_sounds_46 rfl (lv_at hl 0 rfl) ?_
      obtain ⟨u6, hzu6, hf⟩ := obd_some hf
      refine zz_callVi (rest := []) hx hb hml C hP hS (c_X7_soundOf l hDA (h := d.1) hd1 p1 u1 hzu6) zw_X8_210 ⟨Nat.le_trans (Nat.le_of_ble_eq_true rfl) hRf, Nat.le_trans (Nat.le_of_ble_eq_true rfl) hRl⟩ (lth hd1 7 (by decide)) (lay_h7 hd1) rfl rfl hl.1 (Nat.le_of_ble_eq_true rfl) ⟨Nat.zero_le _, Nat.zero_le _⟩ rfl dX8_sounds_47 (fun H locs hP hS => ?_)
      have hf := Option.some.inj hf
      subst hf
      exact hQ _ _ _ _ dX8_sounds_50 hP hS
    · have hf := ifT hb4 hf
      refine lv_aload_n hx hb dX8_sounds_31 rfl (lv_at hl 1 rfl) ?_
      refine lv_bipush (v := (-6)) hx hb dX8_sounds_32 (by decide) ?_
      obtain ⟨u7, hzu7, hf⟩ := obd_some hf
      refine zz_callVi (rest := []) hx hb hml C hP hS (c_X8_refuse l hDA (-6) hzu7) zw_X8_73 ⟨Nat.le_trans (Nat.le_of_ble_eq_true rfl) hRf, Nat.le_trans (Nat.le_of_ble_eq_true rfl) hRl⟩ (by decide) lay_0 rfl rfl hl.1 (Nat.le_of_ble_eq_true rfl) ⟨Nat.zero_le _, Nat.zero_le _⟩ rfl dX8_sounds_34 (fun H locs hP hS => ?_)
      have hf := Option.some.inj hf
      subst hf
      exact hQ _ _ _ _ dX8_sounds_37 hP hS
set_option maxHeartbeats 4000000 in
set_option maxRecDepth 100000 in
theorem c_X8_heard (l : Launch) {D : va_G} {a : Nat → Nat} {cA : Nat → ClassId} {A : Nat → Prop} {sa : Nat → Nat} (hDA : DA a A) {σ : PH} {d : PD} (hd1 : isHall d.1) (p1 : Int32) (p2 : Int32) {u : Int32 × PH} (hf : f_X8_heard σ d p1 p2 = some u) : CTi l yX8_heard cX8_heard 3 (some .int) 5 124 D a cA A sa [.ref (a 0), .int p1, .int p2] σ d u.1 u.2 d := by
  refine zz_metI zpl_X8 hDA (Nat.le_of_ble_eq_true rfl) ?_
  intro p e R s m args below meth c Q ls hx hb hml C hRf hRl hQ hP hS hl
  have hl : lv_has ls 3 [(0, .ref (a 0)), (1, .int p1), (2, .int p2)] := hl
  unfold f_X8_heard at hf
  refine lv_aload_n hx hb dX8_heard_0 rfl (lv_at hl 0 rfl) ?_
  refine zg_X8_50 hx hb C hP (by decide) lay_0 rfl dX8_heard_1 ?_
  refine zg_X8_109 hx hb C hP (lth0 hd1) (lay_h0 hd1) rfl dX8_heard_4 ?_
  refine lv_iload_n hx hb dX8_heard_7 rfl (lv_at hl 1 rfl) ?_
  obtain ⟨u1, hzu1⟩ : ∃ z, z = f_X0_isSet σ d.1 p1 := ⟨_, rfl⟩
  have hf := bnd_at u1 hzu1 hf
  refine zz_callVi (rest := []) hx hb hml C hP hS (c_X0_isSet l hDA (h := d.1) hd1 p1 hzu1.symm) zw_X8_207 ⟨Nat.le_trans (Nat.le_of_ble_eq_true rfl) hRf, Nat.le_trans (Nat.le_of_ble_eq_true rfl) hRl⟩ (lth hd1 1 (by decide)) (lay_h1 hd1) rfl rfl hl.1 (Nat.le_of_ble_eq_true rfl) ⟨Nat.zero_le _, Nat.zero_le _⟩ rfl dX8_heard_8 (fun H locs hP hS => ?_)
  refine lv_if_eq (tgt := 26) hx hb dX8_heard_11 (by decide) (fun hb1 => ?_) (fun hb1 => ?_)
  · have hf := ifT hb1 hf
    refine lv_aload_n hx hb dX8_heard_26 rfl (lv_at hl 0 rfl) ?_
    refine lv_bipush (v := (-6)) hx hb dX8_heard_27 (by decide) ?_
    obtain ⟨u3, hzu3, hf⟩ := obd_some hf
    refine zz_callVi (rest := []) hx hb hml C hP hS (c_X8_refuse l hDA (-6) hzu3) zw_X8_73 ⟨Nat.le_trans (Nat.le_of_ble_eq_true rfl) hRf, Nat.le_trans (Nat.le_of_ble_eq_true rfl) hRl⟩ (by decide) lay_0 rfl rfl hl.1 (Nat.le_of_ble_eq_true rfl) ⟨Nat.zero_le _, Nat.zero_le _⟩ rfl dX8_heard_29 (fun H locs hP hS => ?_)
    have hf := Option.some.inj hf
    subst hf
    exact hQ _ _ _ _ dX8_heard_32 hP hS
  · have hf := ifF hb1 hf
    refine lv_aload_n hx hb dX8_heard_14 rfl (lv_at hl 0 rfl) ?_
    refine zg_X8_50 hx hb C hP (by decide) lay_0 rfl dX8_heard_15 ?_
    refine lv_iload_n hx hb dX8_heard_18 rfl (lv_at hl 1 rfl) ?_
    refine lv_iload_n hx hb dX8_heard_19 rfl (lv_at hl 2 rfl) ?_
    obtain ⟨u4, hzu4, hf⟩ := obd_some hf
    refine zz_callVi (rest := []) hx hb hml C hP hS (c_X2_canSound l hDA (h := d.1) hd1 p1 p2 hzu4) zw_X8_213 ⟨Nat.le_trans (Nat.le_of_ble_eq_true rfl) hRf, Nat.le_trans (Nat.le_of_ble_eq_true rfl) hRl⟩ (lth0 hd1) (lay_h0 hd1) rfl rfl hl.1 (Nat.le_of_ble_eq_true rfl) ⟨Nat.zero_le _, Nat.zero_le _⟩ rfl dX8_heard_20 (fun H locs hP hS => ?_)
    refine lv_if_ne (tgt := 33) hx hb dX8_heard_23 (by decide) (fun hb4 => ?_) (fun hb4 => ?_)
    · have hf := ifF hb4 hf
      refine lv_aload_n hx hb dX8_heard_33 rfl (lv_at hl 0 rfl) ?_
      refine zg_X8_50 hx hb C hP (by decide) lay_0 rfl dX8_heard_34 ?_
      refine lv_iload_n hx hb dX8_heard_37 rfl (lv_at hl 1 rfl) ?_
      refine lv_iload_n hx hb dX8_heard_38 rfl (lv_at hl 2 rfl) ?_
      obtain ⟨u6, hzu6, hf⟩ := obd_some hf
      refine zz_callVi (rest := []) hx hb hml C hP hS (c_X2_isKnown l hDA (h := d.1) hd1 p1 p2 hzu6) zw_X8_216 ⟨Nat.le_trans (Nat.le_of_ble_eq_true rfl) hRf, Nat.le_trans (Nat.le_of_ble_eq_true rfl) hRl⟩ (lth0 hd1) (lay_h0 hd1) rfl rfl hl.1 (Nat.le_of_ble_eq_true rfl) ⟨Nat.zero_le _, Nat.zero_le _⟩ rfl dX8_heard_39 (fun H locs hP hS => ?_)
      have hJ62 : j_X8_heard_62 d p1 p2 u4 = some u → ∀ (H : Heap) (locs : List Loc) (ls : Array Slot), lv_has ls 3 [(0, .ref (a 0)), (1, .int p1), (2, .int p2)] → va_P D vwCl (wl a cA u4.2 d) H → va_S A s.heap H locs → W p l e R s m args below meth c H locs 0 0 Q (F0 m 62 ls []) := by
        intro  hf H locs ls hl hP hS
        unfold j_X8_heard_62 at hf
        refine lv_aload_n hx hb dX8_heard_62 rfl (lv_at hl 0 rfl) ?_
        refine zg_X8_50 hx hb C hP (by decide) lay_0 rfl dX8_heard_63 ?_
        refine lv_iload_n hx hb dX8_heard_66 rfl (lv_at hl 1 rfl) ?_
        refine lv_iload_n hx hb dX8_heard_67 rfl (lv_at hl 2 rfl) ?_
        obtain ⟨u7, hzu7, hf⟩ := obd_some hf
        refine zz_callVv (rest := []) hx hb hml C hP hS (c_X2_learn l hDA (h := d.1) hd1 p1 p2 hzu7) zw_X8_220 ⟨Nat.le_trans (Nat.le_of_ble_eq_true rfl) hRf, Nat.le_trans (Nat.le_of_ble_eq_true rfl) hRl⟩ (lth0 hd1) (lay_h0 hd1) rfl rfl hl.1 (Nat.le_of_ble_eq_true rfl) ⟨Nat.zero_le _, Nat.zero_le _⟩ rfl dX8_heard_68 (fun H locs hP hS => ?_)
        refine lv_aload_n hx hb dX8_heard_71 rfl (lv_at hl 0 rfl) ?_
        refine zg_X8_50 hx hb C hP (by decide) lay_0 rfl dX8_heard_72 ?_
        obtain ⟨u8, hzu8⟩ : ∃ z, z = f_X2_possible u7 d.1 := ⟨_, rfl⟩
        have hf := bnd_at u8 hzu8 hf
        refine zz_callVi (rest := []) hx hb hml C hP hS (c_X2_possible l hDA (h := d.1) hd1 hzu8.symm) zw_X8_197 ⟨Nat.le_trans (Nat.le_of_ble_eq_true rfl) hRf, Nat.le_trans (Nat.le_of_ble_eq_true rfl) hRl⟩ (lth0 hd1) (lay_h0 hd1) rfl rfl hl.1 (Nat.le_of_ble_eq_true rfl) ⟨Nat.zero_le _, Nat.zero_le _⟩ rfl dX8_heard_75 (fun H locs hP hS => ?_)
        have hf := Option.some.inj hf
        subst hf
        exact hQ _ _ _ _ dX8_heard_78 hP hS
      refine lv_if_ne (tgt := 62) hx hb dX8_heard_42 (by decide) (fun hb8 => ?_) (fun hb8 => ?_)
      · have hf := ifF hb8 hf
        exact hJ62  hf _ _ _ (lv_sub hl [0, 1, 2] rfl) hP hS
      · have hf := ifT hb8 hf
        refine lv_aload_n hx hb dX8_heard_45 rfl (lv_at hl 0 rfl) ?_
        refine zg_X8_50 hx hb C hP (by decide) lay_0 rfl dX8_heard_46 ?_
        obtain ⟨u10, hzu10⟩ : ∃ z, z = f_X2_hasRoom u4.2 d.1 := ⟨_, rfl⟩
        have hf := bnd_at u10 hzu10 hf
        refine zz_callVi (rest := []) hx hb hml C hP hS (c_X2_hasRoom l hDA (h := d.1) hd1 hzu10.symm) zw_X8_219 ⟨Nat.le_trans (Nat.le_of_ble_eq_true rfl) hRf, Nat.le_trans (Nat.le_of_ble_eq_true rfl) hRl⟩ (lth0 hd1) (lay_h0 hd1) rfl rfl hl.1 (Nat.le_of_ble_eq_true rfl) ⟨Nat.zero_le _, Nat.zero_le _⟩ rfl dX8_heard_49 (fun H locs hP hS => ?_)
        refine lv_if_ne (tgt := 62) hx hb dX8_heard_52 (by decide) (fun hb10 => ?_) (fun hb10 => ?_)
        · have hf := ifF hb10 hf
          exact hJ62  hf _ _ _ (lv_sub hl [0, 1, 2] rfl) hP hS
        · have hf := ifT hb10 hf
          refine lv_aload_n hx hb dX8_heard_55 rfl (lv_at hl 0 rfl) ?_
          refine lv_bipush (v := (-7)) hx hb dX8_heard_56 (by decide) ?_
          obtain ⟨u12, hzu12, hf⟩ := obd_some hf
          refine zz_callVi (rest := []) hx hb hml C hP hS (c_X8_refuse l hDA (-7) hzu12) zw_X8_73 ⟨Nat.le_trans (Nat.le_of_ble_eq_true rfl) hRf, Nat.le_trans (Nat.le_of_ble_eq_true rfl) hRl⟩ (by decide) lay_0 rfl rfl hl.1 (Nat.le_of_ble_eq_true rfl) ⟨Nat.zero_le _, Nat.zero_le _⟩ rfl dX8_heard_58 (fun H locs hP hS => ?_)
          have hf := Option.some.inj hf
          subst hf
          exact hQ _ _ _ _ dX8_heard_61 hP hS
    · have hf := ifT hb4 hf
      refine lv_aload_n hx hb dX8_heard_26 rfl (lv_at hl 0 rfl) ?_
      refine lv_bipush (v := (-6)) hx hb dX8_heard_27 (by decide) ?_
      obtain ⟨u13, hzu13, hf⟩ := obd_some hf
      refine zz_callVi (rest := []) hx hb hml C hP hS (c_X8_refuse l hDA (-6) hzu13) zw_X8_73 ⟨Nat.le_trans (Nat.le_of_ble_eq_true rfl) hRf, Nat.le_trans (Nat.le_of_ble_eq_true rfl) hRl⟩ (by decide) lay_0 rfl rfl hl.1 (Nat.le_of_ble_eq_true rfl) ⟨Nat.zero_le _, Nat.zero_le _⟩ rfl dX8_heard_29 (fun H locs hP hS => ?_)
      have hf := Option.some.inj hf
      subst hf
      exact hQ _ _ _ _ dX8_heard_32 hP hS
set_option maxHeartbeats 4000000 in
set_option maxRecDepth 100000 in
theorem c_X8_known (l : Launch) {D : va_G} {a : Nat → Nat} {cA : Nat → ClassId} {A : Nat → Prop} {sa : Nat → Nat} (hDA : DA a A) {σ : PH} {d : PD} (hd1 : isHall d.1) (p1 : Int32) {u : Int32 × PH} (hf : f_X8_known σ d p1 = some u) : CTi l yX8_known cX8_known 2 (some .int) 1 21 D a cA A sa [.ref (a 0), .int p1] σ d u.1 u.2 d := by
  refine zz_metI zpl_X8 hDA (Nat.le_of_ble_eq_true rfl) ?_
  intro p e R s m args below meth c Q ls hx hb hml C hRf hRl hQ hP hS hl
  have hl : lv_has ls 2 [(0, .ref (a 0)), (1, .int p1)] := hl
  unfold f_X8_known at hf
  refine lv_iload_n hx hb dX8_known_0 rfl (lv_at hl 1 rfl) ?_
  refine lv_iconst (v := (-1)) hx hb dX8_known_1 (by decide) ?_
  refine lv_icmp_ne (tgt := 13) hx hb dX8_known_2 (by decide) (fun hb0 => ?_) (fun hb0 => ?_)
  · have hf := ifF hb0 hf
    refine lv_iload_n hx hb dX8_known_13 rfl (lv_at hl 1 rfl) ?_
    refine lv_if_lt (tgt := 28) hx hb dX8_known_14 (by decide) (fun hb1 => ?_) (fun hb1 => ?_)
    · have hf := ifT hb1 hf
      refine lv_aload_n hx hb dX8_known_28 rfl (lv_at hl 0 rfl) ?_
      refine lv_bipush (v := (-5)) hx hb dX8_known_29 (by decide) ?_
      obtain ⟨u3, hzu3, hf⟩ := obd_some hf
      refine zz_callVi (rest := []) hx hb hml C hP hS (c_X8_refuse l hDA (-5) hzu3) zw_X8_73 ⟨Nat.le_trans (Nat.le_of_ble_eq_true rfl) hRf, Nat.le_trans (Nat.le_of_ble_eq_true rfl) hRl⟩ (by decide) lay_0 rfl rfl hl.1 (Nat.le_of_ble_eq_true rfl) ⟨Nat.zero_le _, Nat.zero_le _⟩ rfl dX8_known_31 (fun H locs hP hS => ?_)
      have hf := Option.some.inj hf
      subst hf
      exact hQ _ _ _ _ dX8_known_34 hP hS
    · have hf := ifF hb1 hf
      refine lv_iload_n hx hb dX8_known_17 rfl (lv_at hl 1 rfl) ?_
      refine lv_aload_n hx hb dX8_known_18 rfl (lv_at hl 0 rfl) ?_
      refine zg_X8_50 hx hb C hP (by decide) lay_0 rfl dX8_known_19 ?_
      refine zg_X8_223 hx hb C hP (lth0 hd1) (lay_h0 hd1) rfl dX8_known_22 ?_
      refine lv_icmp_lt (tgt := 35) hx hb dX8_known_25 (by decide) (fun hb3 => ?_) (fun hb3 => ?_)
      · have hf := ifT hb3 hf
        refine lv_aload_n hx hb dX8_known_35 rfl (lv_at hl 0 rfl) ?_
        refine zg_X8_50 hx hb C hP (by decide) lay_0 rfl dX8_known_36 ?_
        refine zg_X8_226 hx hb C hP (lth0 hd1) (lay_h0 hd1) rfl dX8_known_39 ?_
        refine lv_iload_n hx hb dX8_known_42 rfl (lv_at hl 1 rfl) ?_
        obtain ⟨hc4, hf⟩ := chk_some hf
        refine zz_iald hx hb C hP (lth hd1 16 (by decide)) (lay_h16 hd1) (inb_vp hc4) dX8_known_43 ?_
        have hf := Option.some.inj hf
        subst hf
        exact hQ _ _ _ _ dX8_known_44 hP hS
      · have hf := ifF hb3 hf
        refine lv_aload_n hx hb dX8_known_28 rfl (lv_at hl 0 rfl) ?_
        refine lv_bipush (v := (-5)) hx hb dX8_known_29 (by decide) ?_
        obtain ⟨u6, hzu6, hf⟩ := obd_some hf
        refine zz_callVi (rest := []) hx hb hml C hP hS (c_X8_refuse l hDA (-5) hzu6) zw_X8_73 ⟨Nat.le_trans (Nat.le_of_ble_eq_true rfl) hRf, Nat.le_trans (Nat.le_of_ble_eq_true rfl) hRl⟩ (by decide) lay_0 rfl rfl hl.1 (Nat.le_of_ble_eq_true rfl) ⟨Nat.zero_le _, Nat.zero_le _⟩ rfl dX8_known_31 (fun H locs hP hS => ?_)
        have hf := Option.some.inj hf
        subst hf
        exact hQ _ _ _ _ dX8_known_34 hP hS
  · have hf := ifT hb0 hf
    refine lv_aload_n hx hb dX8_known_5 rfl (lv_at hl 0 rfl) ?_
    refine zg_X8_50 hx hb C hP (by decide) lay_0 rfl dX8_known_6 ?_
    refine zg_X8_223 hx hb C hP (lth0 hd1) (lay_h0 hd1) rfl dX8_known_9 ?_
    have hf := Option.some.inj hf
    subst hf
    exact hQ _ _ _ _ dX8_known_12 hP hS
set_option maxHeartbeats 4000000 in
set_option maxRecDepth 100000 in
theorem c_X8_forget (l : Launch) {D : va_G} {a : Nat → Nat} {cA : Nat → ClassId} {A : Nat → Prop} {sa : Nat → Nat} (hDA : DA a A) {σ : PH} {d : PD} (hd1 : isHall d.1)  {u : Int32 × PH} (hf : f_X8_forget σ d = u) : CTi l yX8_forget cX8_forget 2 (some .int) 2 40 D a cA A sa [.ref (a 0)] σ d u.1 u.2 d := by
  refine zz_metI zpl_X8 hDA (Nat.le_of_ble_eq_true rfl) ?_
  intro p e R s m args below meth c Q ls hx hb hml C hRf hRl hQ hP hS hl
  have hl : lv_has ls 2 [(0, .ref (a 0))] := hl
  unfold f_X8_forget at hf
  refine lv_aload_n hx hb dX8_forget_0 rfl (lv_at hl 0 rfl) ?_
  refine zg_X8_50 hx hb C hP (by decide) lay_0 rfl dX8_forget_1 ?_
  refine zg_X8_223 hx hb C hP (lth0 hd1) (lay_h0 hd1) rfl dX8_forget_4 ?_
  refine lv_topi (fun v1 ev1 => ?_)
  have hf := bnd_at v1 ev1 hf
  refine lv_istore_n (lv' := [(1, .int v1), (0, .ref (a 0))]) hx hb dX8_forget_7 rfl hl (by decide) rfl (fun ls hl => ?_)
  refine lv_aload_n hx hb dX8_forget_8 rfl (lv_at hl 1 rfl) ?_
  refine zg_X8_50 hx hb C hP (by decide) lay_0 rfl dX8_forget_9 ?_
  obtain ⟨u2, hzu2⟩ : ∃ z, z = f_X2_forgetAll σ d.1 := ⟨_, rfl⟩
  have hf := bnd_at u2 hzu2 hf
  refine zz_callVv (rest := []) hx hb hml C hP hS (c_X2_forgetAll l hDA (h := d.1) hd1 hzu2.symm) zw_X8_229 ⟨Nat.le_trans (Nat.le_of_ble_eq_true rfl) hRf, Nat.le_trans (Nat.le_of_ble_eq_true rfl) hRl⟩ (lth0 hd1) (lay_h0 hd1) rfl rfl hl.1 (Nat.le_of_ble_eq_true rfl) ⟨Nat.zero_le _, Nat.zero_le _⟩ rfl dX8_forget_12 (fun H locs hP hS => ?_)
  refine lv_iload_n hx hb dX8_forget_15 rfl (lv_at hl 0 rfl) ?_
  subst hf
  exact hQ _ _ _ _ dX8_forget_16 hP hS
set_option maxHeartbeats 4000000 in
set_option maxRecDepth 100000 in
theorem c_X8_may (l : Launch) {D : va_G} {a : Nat → Nat} {cA : Nat → ClassId} {A : Nat → Prop} {sa : Nat → Nat} (hDA : DA a A) {σ : PH} {d : PD} (hd1 : isHall d.1) (p1 : Int32) {u : Int32 × PH} (hf : f_X8_may σ d p1 = some u) : CTi l yX8_may cX8_may 2 (some .int) 4 86 D a cA A sa [.ref (a 0), .int p1] σ d u.1 u.2 d := by
  refine zz_metI zpl_X8 hDA (Nat.le_of_ble_eq_true rfl) ?_
  intro p e R s m args below meth c Q ls hx hb hml C hRf hRl hQ hP hS hl
  have hl : lv_has ls 2 [(0, .ref (a 0)), (1, .int p1)] := hl
  unfold f_X8_may at hf
  refine lv_iload_n hx hb dX8_may_0 rfl (lv_at hl 1 rfl) ?_
  by_cases hb0 : p1 = 0
  · have hf := ifT hb0 hf
    refine lv_lookup (off := 27) (tgt := 28) hx hb dX8_may_1 (by decide) (by rw [hb0]; decide) (by decide) ?_
    refine lv_aload_n hx hb dX8_may_28 rfl (lv_at hl 0 rfl) ?_
    refine zg_X8_50 hx hb C hP (by decide) lay_0 rfl dX8_may_29 ?_
    obtain ⟨u2, hzu2, hf⟩ := obd_some hf
    refine zz_callVi (rest := []) hx hb hml C hP hS (c_X2_wrongInSome l hDA (h := d.1) hd1 hzu2) zw_X8_232 ⟨Nat.le_trans (Nat.le_of_ble_eq_true rfl) hRf, Nat.le_trans (Nat.le_of_ble_eq_true rfl) hRl⟩ (lth0 hd1) (lay_h0 hd1) rfl rfl hl.1 (Nat.le_of_ble_eq_true rfl) ⟨Nat.zero_le _, Nat.zero_le _⟩ rfl dX8_may_32 (fun H locs hP hS => ?_)
    have hf := Option.some.inj hf
    subst hf
    exact hQ _ _ _ _ dX8_may_35 hP hS
  have hf := ifF hb0 hf
  by_cases hb2 : p1 = 1
  · have hf := ifT hb2 hf
    refine lv_lookup (off := 35) (tgt := 36) hx hb dX8_may_1 (by decide) (by rw [hb2]; decide) (by decide) ?_
    refine lv_aload_n hx hb dX8_may_36 rfl (lv_at hl 0 rfl) ?_
    refine zg_X8_50 hx hb C hP (by decide) lay_0 rfl dX8_may_37 ?_
    obtain ⟨u4, hzu4, hf⟩ := obd_some hf
    refine zz_callVi (rest := []) hx hb hml C hP hS (c_X2_wrongInAll l hDA (h := d.1) hd1 hzu4) zw_X8_235 ⟨Nat.le_trans (Nat.le_of_ble_eq_true rfl) hRf, Nat.le_trans (Nat.le_of_ble_eq_true rfl) hRl⟩ (lth0 hd1) (lay_h0 hd1) rfl rfl hl.1 (Nat.le_of_ble_eq_true rfl) ⟨Nat.zero_le _, Nat.zero_le _⟩ rfl dX8_may_40 (fun H locs hP hS => ?_)
    have hf := Option.some.inj hf
    subst hf
    exact hQ _ _ _ _ dX8_may_43 hP hS
  have hf := ifF hb2 hf
  refine lv_lookup (off := 43) (tgt := 44) hx hb dX8_may_1 (by decide) (lks_0_1 hb0 hb2) (by decide) ?_
  refine lv_aload_n hx hb dX8_may_44 rfl (lv_at hl 0 rfl) ?_
  refine lv_bipush (v := (-5)) hx hb dX8_may_45 (by decide) ?_
  obtain ⟨u5, hzu5, hf⟩ := obd_some hf
  refine zz_callVi (rest := []) hx hb hml C hP hS (c_X8_refuse l hDA (-5) hzu5) zw_X8_73 ⟨Nat.le_trans (Nat.le_of_ble_eq_true rfl) hRf, Nat.le_trans (Nat.le_of_ble_eq_true rfl) hRl⟩ (by decide) lay_0 rfl rfl hl.1 (Nat.le_of_ble_eq_true rfl) ⟨Nat.zero_le _, Nat.zero_le _⟩ rfl dX8_may_47 (fun H locs hP hS => ?_)
  have hf := Option.some.inj hf
  subst hf
  exact hQ _ _ _ _ dX8_may_50 hP hS
set_option maxHeartbeats 4000000 in
set_option maxRecDepth 100000 in
theorem c_X8_likeliest (l : Launch) {D : va_G} {a : Nat → Nat} {cA : Nat → ClassId} {A : Nat → Prop} {sa : Nat → Nat} (hDA : DA a A) {σ : PH} {d : PD} (hd1 : isHall d.1)  {u : Int32 × PH} (hf : f_X8_likeliest σ d = some u) : CTi l yX8_likeliest cX8_likeliest 1 (some .int) 3 67 D a cA A sa [.ref (a 0)] σ d u.1 u.2 d := by
  refine zz_metI zpl_X8 hDA (Nat.le_of_ble_eq_true rfl) ?_
  intro p e R s m args below meth c Q ls hx hb hml C hRf hRl hQ hP hS hl
  have hl : lv_has ls 1 [(0, .ref (a 0))] := hl
  unfold f_X8_likeliest at hf
  refine lv_aload_n hx hb dX8_likeliest_0 rfl (lv_at hl 0 rfl) ?_
  refine zg_X8_50 hx hb C hP (by decide) lay_0 rfl dX8_likeliest_1 ?_
  obtain ⟨u1, hzu1⟩ : ∃ z, z = f_X2_possible σ d.1 := ⟨_, rfl⟩
  have hf := bnd_at u1 hzu1 hf
  refine zz_callVi (rest := []) hx hb hml C hP hS (c_X2_possible l hDA (h := d.1) hd1 hzu1.symm) zw_X8_197 ⟨Nat.le_trans (Nat.le_of_ble_eq_true rfl) hRf, Nat.le_trans (Nat.le_of_ble_eq_true rfl) hRl⟩ (lth0 hd1) (lay_h0 hd1) rfl rfl hl.1 (Nat.le_of_ble_eq_true rfl) ⟨Nat.zero_le _, Nat.zero_le _⟩ rfl dX8_likeliest_4 (fun H locs hP hS => ?_)
  refine lv_if_ne (tgt := 17) hx hb dX8_likeliest_7 (by decide) (fun hb1 => ?_) (fun hb1 => ?_)
  · have hf := ifF hb1 hf
    refine lv_aload_n hx hb dX8_likeliest_17 rfl (lv_at hl 0 rfl) ?_
    refine zg_X8_50 hx hb C hP (by decide) lay_0 rfl dX8_likeliest_18 ?_
    obtain ⟨u3, hzu3, hf⟩ := obd_some hf
    refine zz_callVi (rest := []) hx hb hml C hP hS (c_X2_likeliestWorld l hDA (h := d.1) hd1 hzu3) zw_X8_238 ⟨Nat.le_trans (Nat.le_of_ble_eq_true rfl) hRf, Nat.le_trans (Nat.le_of_ble_eq_true rfl) hRl⟩ (lth0 hd1) (lay_h0 hd1) rfl rfl hl.1 (Nat.le_of_ble_eq_true rfl) ⟨Nat.zero_le _, Nat.zero_le _⟩ rfl dX8_likeliest_21 (fun H locs hP hS => ?_)
    have hf := Option.some.inj hf
    subst hf
    exact hQ _ _ _ _ dX8_likeliest_24 hP hS
  · have hf := ifT hb1 hf
    refine lv_aload_n hx hb dX8_likeliest_10 rfl (lv_at hl 0 rfl) ?_
    refine lv_bipush (v := (-5)) hx hb dX8_likeliest_11 (by decide) ?_
    obtain ⟨u4, hzu4, hf⟩ := obd_some hf
    refine zz_callVi (rest := []) hx hb hml C hP hS (c_X8_refuse l hDA (-5) hzu4) zw_X8_73 ⟨Nat.le_trans (Nat.le_of_ble_eq_true rfl) hRf, Nat.le_trans (Nat.le_of_ble_eq_true rfl) hRl⟩ (by decide) lay_0 rfl rfl hl.1 (Nat.le_of_ble_eq_true rfl) ⟨Nat.zero_le _, Nat.zero_le _⟩ rfl dX8_likeliest_13 (fun H locs hP hS => ?_)
    have hf := Option.some.inj hf
    subst hf
    exact hQ _ _ _ _ dX8_likeliest_16 hP hS
set_option maxHeartbeats 4000000 in
set_option maxRecDepth 100000 in
theorem c_X8_lawful (l : Launch) {D : va_G} {a : Nat → Nat} {cA : Nat → ClassId} {A : Nat → Prop} {sa : Nat → Nat} (hDA : DA a A) {σ : PH} {d : PD} (hd1 : isHall d.1) (p1 : Int32) {u : Int32} (hf : f_X8_lawful σ d p1 = some u) : CTi l yX8_lawful cX8_lawful 2 (some .int) 3 62 D a cA A sa [.ref (a 0), .int p1] σ d u σ d := by
  refine zz_metI zpl_X8 hDA (Nat.le_of_ble_eq_true rfl) ?_
  intro p e R s m args below meth c Q ls hx hb hml C hRf hRl hQ hP hS hl
  have hl : lv_has ls 2 [(0, .ref (a 0)), (1, .int p1)] := hl
  unfold f_X8_lawful at hf
  refine lv_aload_n hx hb dX8_lawful_0 rfl (lv_at hl 0 rfl) ?_
  refine zg_X8_50 hx hb C hP (by decide) lay_0 rfl dX8_lawful_1 ?_
  refine lv_iload_n hx hb dX8_lawful_4 rfl (lv_at hl 1 rfl) ?_
  obtain ⟨u1, hzu1, hf⟩ := obd_some hf
  refine zz_callVi (rest := []) hx hb hml C hP hS (c_X2_allows l hDA (h := d.1) hd1 p1 hzu1) zw_X8_241 ⟨Nat.le_trans (Nat.le_of_ble_eq_true rfl) hRf, Nat.le_trans (Nat.le_of_ble_eq_true rfl) hRl⟩ (lth0 hd1) (lay_h0 hd1) rfl rfl hl.1 (Nat.le_of_ble_eq_true rfl) ⟨Nat.zero_le _, Nat.zero_le _⟩ rfl dX8_lawful_5 (fun H locs hP hS => ?_)
  refine lv_if_eq (tgt := 15) hx hb dX8_lawful_8 (by decide) (fun hb1 => ?_) (fun hb1 => ?_)
  · have hf := ifT hb1 hf
    refine lv_iconst (v := 0) hx hb dX8_lawful_15 (by decide) ?_
    have hf := Option.some.inj hf
    subst hf
    exact hQ _ _ _ _ dX8_lawful_16 hP hS
  · have hf := ifF hb1 hf
    refine lv_iconst (v := 1) hx hb dX8_lawful_11 (by decide) ?_
    refine lv_goto (tgt := 16) hx hb dX8_lawful_12 (by decide) ?_
    have hf := Option.some.inj hf
    subst hf
    exact hQ _ _ _ _ dX8_lawful_16 hP hS
set_option maxHeartbeats 4000000 in
set_option maxRecDepth 100000 in
theorem c_X8_parts (l : Launch) {D : va_G} {a : Nat → Nat} {cA : Nat → ClassId} {A : Nat → Prop} {sa : Nat → Nat} (hDA : DA a A) {σ : PH} {d : PD} (hd1 : isHall d.1) (p1 : Int32) (p2 : Int32) {u : Int32 × PH} (hf : f_X8_parts σ d p1 p2 = some u) : CTi l yX8_parts cX8_parts 4 (some .int) 4 102 D a cA A sa [.ref (a 0), .int p1, .int p2] σ d u.1 u.2 d := by
  refine zz_metI zpl_X8 hDA (Nat.le_of_ble_eq_true rfl) ?_
  intro p e R s m args below meth c Q ls hx hb hml C hRf hRl hQ hP hS hl
  have hl : lv_has ls 4 [(0, .ref (a 0)), (1, .int p1), (2, .int p2)] := hl
  unfold f_X8_parts at hf
  refine lv_iload_n hx hb dX8_parts_0 rfl (lv_at hl 2 rfl) ?_
  refine lv_if_lt (tgt := 9) hx hb dX8_parts_1 (by decide) (fun hb0 => ?_) (fun hb0 => ?_)
  · have hf := ifT hb0 hf
    refine lv_aload_n hx hb dX8_parts_9 rfl (lv_at hl 0 rfl) ?_
    refine lv_bipush (v := (-5)) hx hb dX8_parts_10 (by decide) ?_
    obtain ⟨u2, hzu2, hf⟩ := obd_some hf
    refine zz_callVi (rest := []) hx hb hml C hP hS (c_X8_refuse l hDA (-5) hzu2) zw_X8_73 ⟨Nat.le_trans (Nat.le_of_ble_eq_true rfl) hRf, Nat.le_trans (Nat.le_of_ble_eq_true rfl) hRl⟩ (by decide) lay_0 rfl rfl hl.1 (Nat.le_of_ble_eq_true rfl) ⟨Nat.zero_le _, Nat.zero_le _⟩ rfl dX8_parts_12 (fun H locs hP hS => ?_)
    have hf := Option.some.inj hf
    subst hf
    exact hQ _ _ _ _ dX8_parts_15 hP hS
  · have hf := ifF hb0 hf
    refine lv_iload_n hx hb dX8_parts_4 rfl (lv_at hl 2 rfl) ?_
    refine lv_iconst (v := 1) hx hb dX8_parts_5 (by decide) ?_
    refine lv_icmp_le (tgt := 16) hx hb dX8_parts_6 (by decide) (fun hb2 => ?_) (fun hb2 => ?_)
    · have hf := ifT hb2 hf
      refine lv_aload_n hx hb dX8_parts_16 rfl (lv_at hl 0 rfl) ?_
      refine zg_X8_50 hx hb C hP (by decide) lay_0 rfl dX8_parts_17 ?_
      refine zg_X8_109 hx hb C hP (lth0 hd1) (lay_h0 hd1) rfl dX8_parts_20 ?_
      refine lv_iload_n hx hb dX8_parts_23 rfl (lv_at hl 1 rfl) ?_
      obtain ⟨u4, hzu4⟩ : ∃ z, z = f_X0_isSet σ d.1 p1 := ⟨_, rfl⟩
      have hf := bnd_at u4 hzu4 hf
      refine zz_callVi (rest := []) hx hb hml C hP hS (c_X0_isSet l hDA (h := d.1) hd1 p1 hzu4.symm) zw_X8_207 ⟨Nat.le_trans (Nat.le_of_ble_eq_true rfl) hRf, Nat.le_trans (Nat.le_of_ble_eq_true rfl) hRl⟩ (lth hd1 1 (by decide)) (lay_h1 hd1) rfl rfl hl.1 (Nat.le_of_ble_eq_true rfl) ⟨Nat.zero_le _, Nat.zero_le _⟩ rfl dX8_parts_24 (fun H locs hP hS => ?_)
      refine lv_if_ne (tgt := 37) hx hb dX8_parts_27 (by decide) (fun hb4 => ?_) (fun hb4 => ?_)
      · have hf := ifF hb4 hf
        refine lv_aload_n hx hb dX8_parts_37 rfl (lv_at hl 0 rfl) ?_
        refine zg_X8_50 hx hb C hP (by decide) lay_0 rfl dX8_parts_38 ?_
        refine zg_X8_190 hx hb C hP (lth0 hd1) (lay_h0 hd1) rfl dX8_parts_41 ?_
        refine lv_iload_n hx hb dX8_parts_44 rfl (lv_at hl 1 rfl) ?_
        refine lv_aload_n hx hb dX8_parts_45 rfl (lv_at hl 0 rfl) ?_
        refine zg_X8_50 hx hb C hP (by decide) lay_0 rfl dX8_parts_46 ?_
        refine zg_X8_244 hx hb C hP (lth0 hd1) (lay_h0 hd1) rfl dX8_parts_49 ?_
        refine lv_aload_n hx hb dX8_parts_52 rfl (lv_at hl 0 rfl) ?_
        refine zg_X8_50 hx hb C hP (by decide) lay_0 rfl dX8_parts_53 ?_
        refine zg_X8_248 hx hb C hP (lth0 hd1) (lay_h0 hd1) rfl dX8_parts_56 ?_
        obtain ⟨u6, hzu6, hf⟩ := obd_some hf
        refine zz_callVi (rest := []) hx hb hml C hP hS (c_X7_wrongAmong l hDA (h := d.1) hd1 p1 (gJ σ d.1 7) (gJ σ d.1 8) hzu6) zw_X8_251 ⟨Nat.le_trans (Nat.le_of_ble_eq_true rfl) hRf, Nat.le_trans (Nat.le_of_ble_eq_true rfl) hRl⟩ (lth hd1 7 (by decide)) (lay_h7 hd1) rfl rfl hl.1 (Nat.le_of_ble_eq_true rfl) ⟨Nat.zero_le _, Nat.zero_le _⟩ rfl dX8_parts_59 (fun H locs hP hS => ?_)
        refine lv_istore_n (lv' := [(3, .int u6.1), (0, .ref (a 0)), (1, .int p1), (2, .int p2)]) hx hb dX8_parts_62 rfl hl (by decide) rfl (fun ls hl => ?_)
        refine lv_iload_n hx hb dX8_parts_63 rfl (lv_at hl 3 rfl) ?_
        refine lv_if_ne (tgt := 71) hx hb dX8_parts_64 (by decide) (fun hb6 => ?_) (fun hb6 => ?_)
        · have hf := ifF hb6 hf
          refine lv_iload_n hx hb dX8_parts_71 rfl (lv_at hl 0 rfl) ?_
          refine lv_aload_n hx hb dX8_parts_72 rfl (lv_at hl 1 rfl) ?_
          refine zg_X8_50 hx hb C hP (by decide) lay_0 rfl dX8_parts_73 ?_
          obtain ⟨u8, hzu8⟩ : ∃ z, z = f_X2_possible u6.2 d.1 := ⟨_, rfl⟩
          have hf := bnd_at u8 hzu8 hf
          refine zz_callVi (rest := [.int u6.1]) hx hb hml C hP hS (c_X2_possible l hDA (h := d.1) hd1 hzu8.symm) zw_X8_197 ⟨Nat.le_trans (Nat.le_of_ble_eq_true rfl) hRf, Nat.le_trans (Nat.le_of_ble_eq_true rfl) hRl⟩ (lth0 hd1) (lay_h0 hd1) rfl rfl hl.1 (Nat.le_of_ble_eq_true rfl) ⟨Nat.zero_le _, Nat.zero_le _⟩ rfl dX8_parts_76 (fun H locs hP hS => ?_)
          refine lv_iload_n hx hb dX8_parts_79 rfl (lv_at hl 0 rfl) ?_
          refine lv_isub hx hb dX8_parts_80 ?_
          refine zz_max hx hb (hml.trans hl.1.symm) C km_X8_255 kt_Lib_Math_max_name kn_J9 kc_Lib_Math_max_name (Nat.le_trans (by decide) hRf) (Nat.le_trans (Nat.le_of_ble_eq_true rfl) hRl) ⟨Nat.zero_le _, Nat.zero_le _⟩ dX8_parts_81 ?_
          have hf := Option.some.inj hf
          subst hf
          exact hQ _ _ _ _ dX8_parts_84 hP hS
        · have hf := ifT hb6 hf
          refine lv_iload_n hx hb dX8_parts_67 rfl (lv_at hl 0 rfl) ?_
          refine lv_goto (tgt := 84) hx hb dX8_parts_68 (by decide) ?_
          have hf := Option.some.inj hf
          subst hf
          exact hQ _ _ _ _ dX8_parts_84 hP hS
      · have hf := ifT hb4 hf
        refine lv_aload_n hx hb dX8_parts_30 rfl (lv_at hl 0 rfl) ?_
        refine lv_bipush (v := (-6)) hx hb dX8_parts_31 (by decide) ?_
        obtain ⟨u9, hzu9, hf⟩ := obd_some hf
        refine zz_callVi (rest := []) hx hb hml C hP hS (c_X8_refuse l hDA (-6) hzu9) zw_X8_73 ⟨Nat.le_trans (Nat.le_of_ble_eq_true rfl) hRf, Nat.le_trans (Nat.le_of_ble_eq_true rfl) hRl⟩ (by decide) lay_0 rfl rfl hl.1 (Nat.le_of_ble_eq_true rfl) ⟨Nat.zero_le _, Nat.zero_le _⟩ rfl dX8_parts_33 (fun H locs hP hS => ?_)
        have hf := Option.some.inj hf
        subst hf
        exact hQ _ _ _ _ dX8_parts_36 hP hS
    · have hf := ifF hb2 hf
      refine lv_aload_n hx hb dX8_parts_9 rfl (lv_at hl 0 rfl) ?_
      refine lv_bipush (v := (-5)) hx hb dX8_parts_10 (by decide) ?_
      obtain ⟨u10, hzu10, hf⟩ := obd_some hf
      refine zz_callVi (rest := []) hx hb hml C hP hS (c_X8_refuse l hDA (-5) hzu10) zw_X8_73 ⟨Nat.le_trans (Nat.le_of_ble_eq_true rfl) hRf, Nat.le_trans (Nat.le_of_ble_eq_true rfl) hRl⟩ (by decide) lay_0 rfl rfl hl.1 (Nat.le_of_ble_eq_true rfl) ⟨Nat.zero_le _, Nat.zero_le _⟩ rfl dX8_parts_12 (fun H locs hP hS => ?_)
      have hf := Option.some.inj hf
      subst hf
      exact hQ _ _ _ _ dX8_parts_15 hP hS
set_option maxHeartbeats 4000000 in
set_option maxRecDepth 100000 in
theorem c_X8_next (l : Launch) {D : va_G} {a : Nat → Nat} {cA : Nat → ClassId} {A : Nat → Prop} {sa : Nat → Nat} (hDA : DA a A) {σ : PH} {d : PD} (hd1 : isHall d.1)  {u : Int32 × PH} (hf : f_X8_next σ d = some u) : CTi l yX8_next cX8_next 1 (some .int) 5 133 D a cA A sa [.ref (a 0)] σ d u.1 u.2 d := by
  refine zz_metI zpl_X8 hDA (Nat.le_of_ble_eq_true rfl) ?_
  intro p e R s m args below meth c Q ls hx hb hml C hRf hRl hQ hP hS hl
  have hl : lv_has ls 1 [(0, .ref (a 0))] := hl
  unfold f_X8_next at hf
  refine lv_aload_n hx hb dX8_next_0 rfl (lv_at hl 0 rfl) ?_
  refine zg_X8_50 hx hb C hP (by decide) lay_0 rfl dX8_next_1 ?_
  refine lv_aload_n hx hb dX8_next_4 rfl (lv_at hl 0 rfl) ?_
  refine zg_X8_50 hx hb C hP (by decide) lay_0 rfl dX8_next_5 ?_
  refine zg_X8_244 hx hb C hP (lth0 hd1) (lay_h0 hd1) rfl dX8_next_8 ?_
  refine lv_aload_n hx hb dX8_next_11 rfl (lv_at hl 0 rfl) ?_
  refine zg_X8_50 hx hb C hP (by decide) lay_0 rfl dX8_next_12 ?_
  refine zg_X8_248 hx hb C hP (lth0 hd1) (lay_h0 hd1) rfl dX8_next_15 ?_
  obtain ⟨u1, hzu1, hf⟩ := obd_some hf
  refine zz_callVi (rest := []) hx hb hml C hP hS (c_X2_best l hDA (h := d.1) hd1 (gJ σ d.1 7) (gJ σ d.1 8) hzu1) zw_X8_260 ⟨Nat.le_trans (Nat.le_of_ble_eq_true rfl) hRf, Nat.le_trans (Nat.le_of_ble_eq_true rfl) hRl⟩ (lth0 hd1) (lay_h0 hd1) rfl rfl hl.1 (Nat.le_of_ble_eq_true rfl) ⟨Nat.zero_le _, Nat.zero_le _⟩ rfl dX8_next_18 (fun H locs hP hS => ?_)
  have hf := Option.some.inj hf
  subst hf
  exact hQ _ _ _ _ dX8_next_21 hP hS
set_option maxHeartbeats 4000000 in
set_option maxRecDepth 100000 in
theorem c_X8_by (l : Launch) {D : va_G} {a : Nat → Nat} {cA : Nat → ClassId} {A : Nat → Prop} {sa : Nat → Nat} (hDA : DA a A) {σ : PH} {d : PD} (hd1 : isHall d.1) (p1 : Int32) {u : Int32 × PH} (hf : f_X8_by σ d p1 = some u) : CTi l yX8_by cX8_by 2 (some .int) 6 161 D a cA A sa [.ref (a 0), .int p1] σ d u.1 u.2 d := by
  refine zz_metI zpl_X8 hDA (Nat.le_of_ble_eq_true rfl) ?_
  intro p e R s m args below meth c Q ls hx hb hml C hRf hRl hQ hP hS hl
  have hl : lv_has ls 2 [(0, .ref (a 0)), (1, .int p1)] := hl
  unfold f_X8_by at hf
  refine lv_iload_n hx hb dX8_by_0 rfl (lv_at hl 1 rfl) ?_
  refine lv_if_lt (tgt := 19) hx hb dX8_by_1 (by decide) (fun hb0 => ?_) (fun hb0 => ?_)
  · have hf := ifT hb0 hf
    refine lv_aload_n hx hb dX8_by_19 rfl (lv_at hl 0 rfl) ?_
    refine lv_bipush (v := (-5)) hx hb dX8_by_20 (by decide) ?_
    obtain ⟨u2, hzu2, hf⟩ := obd_some hf
    refine zz_callVi (rest := []) hx hb hml C hP hS (c_X8_refuse l hDA (-5) hzu2) zw_X8_73 ⟨Nat.le_trans (Nat.le_of_ble_eq_true rfl) hRf, Nat.le_trans (Nat.le_of_ble_eq_true rfl) hRl⟩ (by decide) lay_0 rfl rfl hl.1 (Nat.le_of_ble_eq_true rfl) ⟨Nat.zero_le _, Nat.zero_le _⟩ rfl dX8_by_22 (fun H locs hP hS => ?_)
    have hf := Option.some.inj hf
    subst hf
    exact hQ _ _ _ _ dX8_by_25 hP hS
  · have hf := ifF hb0 hf
    refine lv_iload_n hx hb dX8_by_4 rfl (lv_at hl 1 rfl) ?_
    refine lv_iconst (v := 2) hx hb dX8_by_5 (by decide) ?_
    refine lv_icmp_gt (tgt := 19) hx hb dX8_by_6 (by decide) (fun hb2 => ?_) (fun hb2 => ?_)
    · have hf := ifT hb2 hf
      refine lv_aload_n hx hb dX8_by_19 rfl (lv_at hl 0 rfl) ?_
      refine lv_bipush (v := (-5)) hx hb dX8_by_20 (by decide) ?_
      obtain ⟨u4, hzu4, hf⟩ := obd_some hf
      refine zz_callVi (rest := []) hx hb hml C hP hS (c_X8_refuse l hDA (-5) hzu4) zw_X8_73 ⟨Nat.le_trans (Nat.le_of_ble_eq_true rfl) hRf, Nat.le_trans (Nat.le_of_ble_eq_true rfl) hRl⟩ (by decide) lay_0 rfl rfl hl.1 (Nat.le_of_ble_eq_true rfl) ⟨Nat.zero_le _, Nat.zero_le _⟩ rfl dX8_by_22 (fun H locs hP hS => ?_)
      have hf := Option.some.inj hf
      subst hf
      exact hQ _ _ _ _ dX8_by_25 hP hS
    · have hf := ifF hb2 hf
      refine lv_aload_n hx hb dX8_by_9 rfl (lv_at hl 0 rfl) ?_
      refine zg_X8_50 hx hb C hP (by decide) lay_0 rfl dX8_by_10 ?_
      obtain ⟨u5, hzu5⟩ : ∃ z, z = f_X2_possible σ d.1 := ⟨_, rfl⟩
      have hf := bnd_at u5 hzu5 hf
      refine zz_callVi (rest := []) hx hb hml C hP hS (c_X2_possible l hDA (h := d.1) hd1 hzu5.symm) zw_X8_197 ⟨Nat.le_trans (Nat.le_of_ble_eq_true rfl) hRf, Nat.le_trans (Nat.le_of_ble_eq_true rfl) hRl⟩ (lth0 hd1) (lay_h0 hd1) rfl rfl hl.1 (Nat.le_of_ble_eq_true rfl) ⟨Nat.zero_le _, Nat.zero_le _⟩ rfl dX8_by_13 (fun H locs hP hS => ?_)
      refine lv_if_ne (tgt := 26) hx hb dX8_by_16 (by decide) (fun hb5 => ?_) (fun hb5 => ?_)
      · have hf := ifF hb5 hf
        refine lv_aload_n hx hb dX8_by_26 rfl (lv_at hl 0 rfl) ?_
        refine zg_X8_36 hx hb C hP (by decide) lay_0 rfl dX8_by_27 ?_
        refine lv_aload_n hx hb dX8_by_30 rfl (lv_at hl 0 rfl) ?_
        refine zg_X8_50 hx hb C hP (by decide) lay_0 rfl dX8_by_31 ?_
        obtain ⟨u7, hzu7, hf⟩ := obd_some hf
        refine zz_callVv (rest := []) hx hb hml C hP hS (c_X1_follow l hDA (h := d.1) hd1 hzu7) zw_X8_264 ⟨Nat.le_trans (Nat.le_of_ble_eq_true rfl) hRf, Nat.le_trans (Nat.le_of_ble_eq_true rfl) hRl⟩ (by decide) lay_7 rfl rfl hl.1 (Nat.le_of_ble_eq_true rfl) ⟨Nat.zero_le _, Nat.zero_le _⟩ rfl dX8_by_34 (fun H locs hP hS => ?_)
        refine lv_iload_n hx hb dX8_by_37 rfl (lv_at hl 1 rfl) ?_
        by_cases hb7 : p1 = 0
        · have hf := ifT hb7 hf
          refine lv_lookup (off := 26) (tgt := 64) hx hb dX8_by_38 (by decide) (by rw [hb7]; decide) (by decide) ?_
          refine lv_aload_n hx hb dX8_by_64 rfl (lv_at hl 0 rfl) ?_
          refine zg_X8_36 hx hb C hP (by decide) lay_0 rfl dX8_by_65 ?_
          refine zg_X8_267 hx hb C hP (by decide) lay_7 rfl dX8_by_68 ?_
          have hf := Option.some.inj hf
          subst hf
          exact hQ _ _ _ _ dX8_by_71 hP hS
        have hf := ifF hb7 hf
        by_cases hb8 : p1 = 1
        · have hf := ifT hb8 hf
          refine lv_lookup (off := 34) (tgt := 72) hx hb dX8_by_38 (by decide) (by rw [hb8]; decide) (by decide) ?_
          refine lv_aload_n hx hb dX8_by_72 rfl (lv_at hl 0 rfl) ?_
          refine zg_X8_36 hx hb C hP (by decide) lay_0 rfl dX8_by_73 ?_
          obtain ⟨u10, hzu10, hf⟩ := obd_some hf
          refine zz_callVi (rest := []) hx hb hml C hP hS (c_X1_mean l hDA  hzu10) zw_X8_270 ⟨Nat.le_trans (Nat.le_of_ble_eq_true rfl) hRf, Nat.le_trans (Nat.le_of_ble_eq_true rfl) hRl⟩ (by decide) lay_7 rfl rfl hl.1 (Nat.le_of_ble_eq_true rfl) ⟨Nat.zero_le _, Nat.zero_le _⟩ rfl dX8_by_76 (fun H locs hP hS => ?_)
          have hf := Option.some.inj hf
          subst hf
          exact hQ _ _ _ _ dX8_by_79 hP hS
        have hf := ifF hb8 hf
        refine lv_lookup (off := 42) (tgt := 80) hx hb dX8_by_38 (by decide) (lks_0_1 hb7 hb8) (by decide) ?_
        refine lv_aload_n hx hb dX8_by_80 rfl (lv_at hl 0 rfl) ?_
        refine zg_X8_36 hx hb C hP (by decide) lay_0 rfl dX8_by_81 ?_
        refine zg_X8_273 hx hb C hP (by decide) lay_7 rfl dX8_by_84 ?_
        have hf := Option.some.inj hf
        subst hf
        exact hQ _ _ _ _ dX8_by_87 hP hS
      · have hf := ifT hb5 hf
        refine lv_aload_n hx hb dX8_by_19 rfl (lv_at hl 0 rfl) ?_
        refine lv_bipush (v := (-5)) hx hb dX8_by_20 (by decide) ?_
        obtain ⟨u11, hzu11, hf⟩ := obd_some hf
        refine zz_callVi (rest := []) hx hb hml C hP hS (c_X8_refuse l hDA (-5) hzu11) zw_X8_73 ⟨Nat.le_trans (Nat.le_of_ble_eq_true rfl) hRf, Nat.le_trans (Nat.le_of_ble_eq_true rfl) hRl⟩ (by decide) lay_0 rfl rfl hl.1 (Nat.le_of_ble_eq_true rfl) ⟨Nat.zero_le _, Nat.zero_le _⟩ rfl dX8_by_22 (fun H locs hP hS => ?_)
        have hf := Option.some.inj hf
        subst hf
        exact hQ _ _ _ _ dX8_by_25 hP hS
set_option maxHeartbeats 4000000 in
set_option maxRecDepth 100000 in
theorem c_X8_lackOfTold (l : Launch) {D : va_G} {a : Nat → Nat} {cA : Nat → ClassId} {A : Nat → Prop} {sa : Nat → Nat} (hDA : DA a A) {σ : PH} {d : PD} (p1 : Int32) (p2 : Int32) {u : Int32} (hf : f_X8_lackOfTold σ p1 p2 = some u) : CTi l yX8_lackOfTold cX8_lackOfTold 4 (some .int) 2 41 D a cA A sa [.ref (a 0), .int p1, .int p2] σ d u σ d := by
  refine zz_metI zpl_X8 hDA (Nat.le_of_ble_eq_true rfl) ?_
  intro p e R s m args below meth c Q ls hx hb hml C hRf hRl hQ hP hS hl
  have hl : lv_has ls 4 [(0, .ref (a 0)), (1, .int p1), (2, .int p2)] := hl
  unfold f_X8_lackOfTold at hf
  refine lv_aload_n hx hb dX8_lackOfTold_0 rfl (lv_at hl 0 rfl) ?_
  refine lv_iload_n hx hb dX8_lackOfTold_1 rfl (lv_at hl 1 rfl) ?_
  obtain ⟨u1, hzu1, hf⟩ := obd_some hf
  refine zz_callVi (rest := []) hx hb hml C hP hS (c_X8_lackOfRow l hDA p1 hzu1) zw_X8_81 ⟨Nat.le_trans (Nat.le_of_ble_eq_true rfl) hRf, Nat.le_trans (Nat.le_of_ble_eq_true rfl) hRl⟩ (by decide) lay_0 rfl rfl hl.1 (Nat.le_of_ble_eq_true rfl) ⟨Nat.zero_le _, Nat.zero_le _⟩ rfl dX8_lackOfTold_2 (fun H locs hP hS => ?_)
  refine lv_istore_n (lv' := [(3, .int u1), (0, .ref (a 0)), (1, .int p1), (2, .int p2)]) hx hb dX8_lackOfTold_5 rfl hl (by decide) rfl (fun ls hl => ?_)
  refine lv_iload_n hx hb dX8_lackOfTold_6 rfl (lv_at hl 0 rfl) ?_
  refine lv_if_eq (tgt := 12) hx hb dX8_lackOfTold_7 (by decide) (fun hb1 => ?_) (fun hb1 => ?_)
  · have hf := ifT hb1 hf
    refine lv_iload_n hx hb dX8_lackOfTold_12 rfl (lv_at hl 3 rfl) ?_
    refine lv_if_ge (tgt := 19) hx hb dX8_lackOfTold_13 (by decide) (fun hb2 => ?_) (fun hb2 => ?_)
    · have hf := ifT hb2 hf
      refine lv_iload_n hx hb dX8_lackOfTold_19 rfl (lv_at hl 3 rfl) ?_
      refine lv_aload_n hx hb dX8_lackOfTold_20 rfl (lv_at hl 1 rfl) ?_
      refine zg_X8_11 hx hb C hP (by decide) lay_0 rfl dX8_lackOfTold_21 ?_
      refine lv_iload_n hx hb dX8_lackOfTold_24 rfl (lv_at hl 2 rfl) ?_
      obtain ⟨hc3, hf⟩ := chk_some hf
      refine zz_shelf hx hb C hP (inb_vp hc3) dX8_lackOfTold_25 (fun r5 er5 hr5 => ?_)
      have hf := bnd_at r5 er5 hf
      refine zg_X8_352 hx hb C hP (lts0 hr5) (lay_s0 hr5) rfl dX8_lackOfTold_26 ?_
      refine lv_icmp_le (tgt := 37) hx hb dX8_lackOfTold_29 (by decide) (fun hb5 => ?_) (fun hb5 => ?_)
      · have hf := ifT hb5 hf
        refine lv_iconst (v := 0) hx hb dX8_lackOfTold_37 (by decide) ?_
        have hf := Option.some.inj hf
        subst hf
        exact hQ _ _ _ _ dX8_lackOfTold_38 hP hS
      · have hf := ifF hb5 hf
        refine lv_bipush (v := (-5)) hx hb dX8_lackOfTold_32 (by decide) ?_
        refine lv_goto (tgt := 38) hx hb dX8_lackOfTold_34 (by decide) ?_
        have hf := Option.some.inj hf
        subst hf
        exact hQ _ _ _ _ dX8_lackOfTold_38 hP hS
    · have hf := ifF hb2 hf
      refine lv_bipush (v := (-4)) hx hb dX8_lackOfTold_16 (by decide) ?_
      have hf := Option.some.inj hf
      subst hf
      exact hQ _ _ _ _ dX8_lackOfTold_18 hP hS
  · have hf := ifF hb1 hf
    refine lv_iload_n hx hb dX8_lackOfTold_10 rfl (lv_at hl 0 rfl) ?_
    have hf := Option.some.inj hf
    subst hf
    exact hQ _ _ _ _ dX8_lackOfTold_11 hP hS
set_option maxHeartbeats 4000000 in
set_option maxRecDepth 100000 in
theorem c_X8_ahead (l : Launch) {D : va_G} {a : Nat → Nat} {cA : Nat → ClassId} {A : Nat → Prop} {sa : Nat → Nat} (hDA : DA a A) {σ : PH} {d : PD} (hd1 : isHall d.1) (p1 : Int32) (p2 : Int32) (p3 : Int32) {u : Int32 × PH} (hf : f_X8_ahead σ d p1 p2 p3 = some u) : CTi l yX8_ahead cX8_ahead 5 (some .int) 5 125 D a cA A sa [.ref (a 0), .int p1, .int p2, .int p3] σ d u.1 u.2 d := by
  refine zz_metI zpl_X8 hDA (Nat.le_of_ble_eq_true rfl) ?_
  intro p e R s m args below meth c Q ls hx hb hml C hRf hRl hQ hP hS hl
  have hl : lv_has ls 5 [(0, .ref (a 0)), (1, .int p1), (2, .int p2), (3, .int p3)] := hl
  unfold f_X8_ahead at hf
  refine lv_aload_n hx hb dX8_ahead_0 rfl (lv_at hl 0 rfl) ?_
  refine lv_iload_n hx hb dX8_ahead_1 rfl (lv_at hl 1 rfl) ?_
  refine lv_iload_n hx hb dX8_ahead_2 rfl (lv_at hl 2 rfl) ?_
  obtain ⟨u1, hzu1, hf⟩ := obd_some hf
  refine zz_callVi (rest := []) hx hb hml C hP hS (c_X8_lackOfTold l hDA p1 p2 hzu1) zw_X8_276 ⟨Nat.le_trans (Nat.le_of_ble_eq_true rfl) hRf, Nat.le_trans (Nat.le_of_ble_eq_true rfl) hRl⟩ (by decide) lay_0 rfl rfl hl.1 (Nat.le_of_ble_eq_true rfl) ⟨Nat.zero_le _, Nat.zero_le _⟩ rfl dX8_ahead_3 (fun H locs hP hS => ?_)
  refine lv_istore (lv' := [(4, .int u1), (0, .ref (a 0)), (1, .int p1), (2, .int p2), (3, .int p3)]) hx hb dX8_ahead_6 hl (by decide) rfl (fun ls hl => ?_)
  refine lv_iload hx hb dX8_ahead_8 (lv_at hl 0 rfl) ?_
  have hJ26 : ∀ (v2 : Int32), j_X8_ahead_26 σ d p1 p2 p3 v2 = some u → ∀ (H : Heap) (locs : List Loc) (ls : Array Slot), lv_has ls 5 [(0, .ref (a 0)), (1, .int p1), (2, .int p2), (3, .int p3), (4, .int v2)] → va_P D vwCl (wl a cA σ d) H → va_S A s.heap H locs → W p l e R s m args below meth c H locs 0 0 Q (F0 m 26 ls []) := by
    intro v2 hf H locs ls hl hP hS
    unfold j_X8_ahead_26 at hf
    refine lv_iload hx hb dX8_ahead_26 (lv_at hl 4 rfl) ?_
    have hJ62 : ∀ (v3 : Int32), j_X8_ahead_62 σ d p1 p2 p3 v3 = some u → ∀ (H : Heap) (locs : List Loc) (ls : Array Slot), lv_has ls 5 [(0, .ref (a 0)), (1, .int p1), (2, .int p2), (3, .int p3), (4, .int v3)] → va_P D vwCl (wl a cA σ d) H → va_S A s.heap H locs → W p l e R s m args below meth c H locs 0 0 Q (F0 m 62 ls []) := by
      intro v3 hf H locs ls hl hP hS
      unfold j_X8_ahead_62 at hf
      refine lv_iload hx hb dX8_ahead_62 (lv_at hl 4 rfl) ?_
      refine lv_if_eq (tgt := 74) hx hb dX8_ahead_64 (by decide) (fun hb3 => ?_) (fun hb3 => ?_)
      · have hf := ifT hb3 hf
        refine lv_aload_n hx hb dX8_ahead_74 rfl (lv_at hl 0 rfl) ?_
        refine zg_X8_43 hx hb C hP (by decide) lay_0 rfl dX8_ahead_75 ?_
        refine lv_aload_n hx hb dX8_ahead_78 rfl (lv_at hl 0 rfl) ?_
        refine zg_X8_50 hx hb C hP (by decide) lay_0 rfl dX8_ahead_79 ?_
        refine lv_aload_n hx hb dX8_ahead_82 rfl (lv_at hl 0 rfl) ?_
        refine zg_X8_11 hx hb C hP (by decide) lay_0 rfl dX8_ahead_83 ?_
        refine lv_iload_n hx hb dX8_ahead_86 rfl (lv_at hl 1 rfl) ?_
        obtain ⟨hc4, hf⟩ := chk_some hf
        refine zz_shelf hx hb C hP (inb_vp hc4) dX8_ahead_87 (fun r6 er6 hr6 => ?_)
        have hf := bnd_at r6 er6 hf
        refine lv_iload_n hx hb dX8_ahead_88 rfl (lv_at hl 2 rfl) ?_
        obtain ⟨u7, hzu7, hf⟩ := obd_some hf
        refine zz_callVv (rest := []) hx hb hml C hP hS (c_X5_sortOut l hDA (h := d.1) hd1 (sh2 := r6) hr6 p2 hzu7) zw_X8_283 ⟨Nat.le_trans (Nat.le_of_ble_eq_true rfl) hRf, Nat.le_trans (Nat.le_of_ble_eq_true rfl) hRl⟩ (by decide) lay_11 rfl rfl hl.1 (Nat.le_of_ble_eq_true rfl) ⟨Nat.zero_le _, Nat.zero_le _⟩ rfl dX8_ahead_89 (fun H locs hP hS => ?_)
        refine lv_iload_n hx hb dX8_ahead_92 rfl (lv_at hl 3 rfl) ?_
        refine lv_if_ne (tgt := 106) hx hb dX8_ahead_93 (by decide) (fun hb7 => ?_) (fun hb7 => ?_)
        · have hf := ifF hb7 hf
          refine lv_aload_n hx hb dX8_ahead_106 rfl (lv_at hl 0 rfl) ?_
          refine zg_X8_43 hx hb C hP (by decide) lay_0 rfl dX8_ahead_107 ?_
          refine zg_X8_290 hx hb C hP (by decide) lay_11 rfl dX8_ahead_110 ?_
          have hf := Option.some.inj hf
          subst hf
          exact hQ _ _ _ _ dX8_ahead_113 hP hS
        · have hf := ifT hb7 hf
          refine lv_aload_n hx hb dX8_ahead_96 rfl (lv_at hl 0 rfl) ?_
          refine zg_X8_43 hx hb C hP (by decide) lay_0 rfl dX8_ahead_97 ?_
          refine zg_X8_287 hx hb C hP (by decide) lay_11 rfl dX8_ahead_100 ?_
          refine lv_goto (tgt := 113) hx hb dX8_ahead_103 (by decide) ?_
          have hf := Option.some.inj hf
          subst hf
          exact hQ _ _ _ _ dX8_ahead_113 hP hS
      · have hf := ifF hb3 hf
        refine lv_aload_n hx hb dX8_ahead_67 rfl (lv_at hl 0 rfl) ?_
        refine lv_iload hx hb dX8_ahead_68 (lv_at hl 4 rfl) ?_
        obtain ⟨u9, hzu9, hf⟩ := obd_some hf
        refine zz_callVi (rest := []) hx hb hml C hP hS (c_X8_refuse l hDA v3 hzu9) zw_X8_73 ⟨Nat.le_trans (Nat.le_of_ble_eq_true rfl) hRf, Nat.le_trans (Nat.le_of_ble_eq_true rfl) hRl⟩ (by decide) lay_0 rfl rfl hl.1 (Nat.le_of_ble_eq_true rfl) ⟨Nat.zero_le _, Nat.zero_le _⟩ rfl dX8_ahead_70 (fun H locs hP hS => ?_)
        have hf := Option.some.inj hf
        subst hf
        exact hQ _ _ _ _ dX8_ahead_73 hP hS
    refine lv_if_ne (tgt := 62) hx hb dX8_ahead_28 (by decide) (fun hb9 => ?_) (fun hb9 => ?_)
    · have hf := ifF hb9 hf
      exact hJ62 _ hf _ _ _ (lv_sub hl [0, 1, 2, 3, 4] rfl) hP hS
    · have hf := ifT hb9 hf
      refine lv_iload_n hx hb dX8_ahead_31 rfl (lv_at hl 2 rfl) ?_
      refine lv_bipush (v := 16) hx hb dX8_ahead_32 (by decide) ?_
      have hJ58 : j_X8_ahead_58 σ d p1 p2 p3 = some u → ∀ (H : Heap) (locs : List Loc) (ls : Array Slot), lv_has ls 5 [(0, .ref (a 0)), (1, .int p1), (2, .int p2), (3, .int p3)] → va_P D vwCl (wl a cA σ d) H → va_S A s.heap H locs → W p l e R s m args below meth c H locs 0 0 Q (F0 m 58 ls []) := by
        intro  hf H locs ls hl hP hS
        unfold j_X8_ahead_58 at hf
        refine lv_bipush (v := (-6)) hx hb dX8_ahead_58 (by decide) ?_
        refine lv_istore (lv' := [(4, .int (-6)), (0, .ref (a 0)), (1, .int p1), (2, .int p2), (3, .int p3)]) hx hb dX8_ahead_60 hl (by decide) rfl (fun ls hl => ?_)
        exact hJ62 _ hf _ _ _ (lv_sub hl [1, 2, 3, 4, 0] rfl) hP hS
      refine lv_icmp_gt (tgt := 58) hx hb dX8_ahead_34 (by decide) (fun hb10 => ?_) (fun hb10 => ?_)
      · have hf := ifT hb10 hf
        exact hJ58  hf _ _ _ (lv_sub hl [0, 1, 2, 3] rfl) hP hS
      · have hf := ifF hb10 hf
        refine lv_aload_n hx hb dX8_ahead_37 rfl (lv_at hl 0 rfl) ?_
        refine zg_X8_43 hx hb C hP (by decide) lay_0 rfl dX8_ahead_38 ?_
        refine lv_aload_n hx hb dX8_ahead_41 rfl (lv_at hl 0 rfl) ?_
        refine zg_X8_50 hx hb C hP (by decide) lay_0 rfl dX8_ahead_42 ?_
        refine lv_aload_n hx hb dX8_ahead_45 rfl (lv_at hl 0 rfl) ?_
        refine zg_X8_11 hx hb C hP (by decide) lay_0 rfl dX8_ahead_46 ?_
        refine lv_iload_n hx hb dX8_ahead_49 rfl (lv_at hl 1 rfl) ?_
        obtain ⟨hc11, hf⟩ := chk_some hf
        refine zz_shelf hx hb C hP (inb_vp hc11) dX8_ahead_50 (fun r13 er13 hr13 => ?_)
        have hf := bnd_at r13 er13 hf
        refine lv_iload_n hx hb dX8_ahead_51 rfl (lv_at hl 2 rfl) ?_
        obtain ⟨u14, hzu14, hf⟩ := obd_some hf
        refine zz_callVi (rest := []) hx hb hml C hP hS (c_X5_areSets l hDA (h := d.1) hd1 (sh2 := r13) hr13 p2 hzu14) zw_X8_279 ⟨Nat.le_trans (Nat.le_of_ble_eq_true rfl) hRf, Nat.le_trans (Nat.le_of_ble_eq_true rfl) hRl⟩ (by decide) lay_11 rfl rfl hl.1 (Nat.le_of_ble_eq_true rfl) ⟨Nat.zero_le _, Nat.zero_le _⟩ rfl dX8_ahead_52 (fun H locs hP hS => ?_)
        refine lv_if_ne (tgt := 62) hx hb dX8_ahead_55 (by decide) (fun hb14 => ?_) (fun hb14 => ?_)
        · have hf := ifF hb14 hf
          exact hJ62 _ hf _ _ _ (lv_sub hl [0, 1, 2, 3, 4] rfl) hP hS
        · have hf := ifT hb14 hf
          exact hJ58  hf _ _ _ (lv_sub hl [0, 1, 2, 3] rfl) hP hS
  refine lv_if_ne (tgt := 26) hx hb dX8_ahead_10 (by decide) (fun hb15 => ?_) (fun hb15 => ?_)
  · have hf := ifF hb15 hf
    exact hJ26 _ hf _ _ _ (lv_sub hl [1, 2, 3, 4, 0] rfl) hP hS
  · have hf := ifT hb15 hf
    refine lv_iload_n hx hb dX8_ahead_13 rfl (lv_at hl 4 rfl) ?_
    have hJ22 : j_X8_ahead_22 σ d p1 p2 p3 = some u → ∀ (H : Heap) (locs : List Loc) (ls : Array Slot), lv_has ls 5 [(0, .ref (a 0)), (1, .int p1), (2, .int p2), (3, .int p3)] → va_P D vwCl (wl a cA σ d) H → va_S A s.heap H locs → W p l e R s m args below meth c H locs 0 0 Q (F0 m 22 ls []) := by
      intro  hf H locs ls hl hP hS
      unfold j_X8_ahead_22 at hf
      refine lv_bipush (v := (-5)) hx hb dX8_ahead_22 (by decide) ?_
      refine lv_istore (lv' := [(4, .int (-5)), (0, .ref (a 0)), (1, .int p1), (2, .int p2), (3, .int p3)]) hx hb dX8_ahead_24 hl (by decide) rfl (fun ls hl => ?_)
      exact hJ26 _ hf _ _ _ (lv_sub hl [1, 2, 3, 4, 0] rfl) hP hS
    refine lv_if_lt (tgt := 22) hx hb dX8_ahead_14 (by decide) (fun hb16 => ?_) (fun hb16 => ?_)
    · have hf := ifT hb16 hf
      exact hJ22  hf _ _ _ (lv_sub hl [1, 2, 3, 4] rfl) hP hS
    · have hf := ifF hb16 hf
      refine lv_iload_n hx hb dX8_ahead_17 rfl (lv_at hl 4 rfl) ?_
      refine lv_iconst (v := 1) hx hb dX8_ahead_18 (by decide) ?_
      refine lv_icmp_le (tgt := 26) hx hb dX8_ahead_19 (by decide) (fun hb17 => ?_) (fun hb17 => ?_)
      · have hf := ifT hb17 hf
        exact hJ26 _ hf _ _ _ (lv_sub hl [1, 2, 3, 4, 0] rfl) hP hS
      · have hf := ifF hb17 hf
        exact hJ22  hf _ _ _ (lv_sub hl [1, 2, 3, 4] rfl) hP hS
set_option maxHeartbeats 4000000 in
set_option maxRecDepth 100000 in
theorem c_X8_judge (l : Launch) {D : va_G} {a : Nat → Nat} {cA : Nat → ClassId} {A : Nat → Prop} {sa : Nat → Nat} (hDA : DA a A) {σ : PH} {d : PD} (hd1 : isHall d.1) (p1 : Int32) (p2 : Int32) {u : Int32 × PH} (hf : f_X8_judge σ d p1 p2 = some u) : CTi l yX8_judge cX8_judge 4 (some .int) 5 128 D a cA A sa [.ref (a 0), .int p1, .int p2] σ d u.1 u.2 d := by
  refine zz_metI zpl_X8 hDA (Nat.le_of_ble_eq_true rfl) ?_
  intro p e R s m args below meth c Q ls hx hb hml C hRf hRl hQ hP hS hl
  have hl : lv_has ls 4 [(0, .ref (a 0)), (1, .int p1), (2, .int p2)] := hl
  unfold f_X8_judge at hf
  refine lv_aload_n hx hb dX8_judge_0 rfl (lv_at hl 0 rfl) ?_
  refine lv_iload_n hx hb dX8_judge_1 rfl (lv_at hl 1 rfl) ?_
  refine lv_iload_n hx hb dX8_judge_2 rfl (lv_at hl 2 rfl) ?_
  obtain ⟨u1, hzu1, hf⟩ := obd_some hf
  refine zz_callVi (rest := []) hx hb hml C hP hS (c_X8_lackOfTold l hDA p1 p2 hzu1) zw_X8_276 ⟨Nat.le_trans (Nat.le_of_ble_eq_true rfl) hRf, Nat.le_trans (Nat.le_of_ble_eq_true rfl) hRl⟩ (by decide) lay_0 rfl rfl hl.1 (Nat.le_of_ble_eq_true rfl) ⟨Nat.zero_le _, Nat.zero_le _⟩ rfl dX8_judge_3 (fun H locs hP hS => ?_)
  refine lv_istore_n (lv' := [(3, .int u1), (0, .ref (a 0)), (1, .int p1), (2, .int p2)]) hx hb dX8_judge_6 rfl hl (by decide) rfl (fun ls hl => ?_)
  refine lv_iload_n hx hb dX8_judge_7 rfl (lv_at hl 0 rfl) ?_
  have hJ20 : ∀ (v2 : Int32), j_X8_judge_20 σ d p1 p2 v2 = some u → ∀ (H : Heap) (locs : List Loc) (ls : Array Slot), lv_has ls 4 [(0, .ref (a 0)), (1, .int p1), (2, .int p2), (3, .int v2)] → va_P D vwCl (wl a cA σ d) H → va_S A s.heap H locs → W p l e R s m args below meth c H locs 0 0 Q (F0 m 20 ls []) := by
    intro v2 hf H locs ls hl hP hS
    unfold j_X8_judge_20 at hf
    refine lv_iload_n hx hb dX8_judge_20 rfl (lv_at hl 3 rfl) ?_
    refine lv_if_eq (tgt := 33) hx hb dX8_judge_21 (by decide) (fun hb2 => ?_) (fun hb2 => ?_)
    · have hf := ifT hb2 hf
      refine lv_aload_n hx hb dX8_judge_33 rfl (lv_at hl 0 rfl) ?_
      refine zg_X8_43 hx hb C hP (by decide) lay_0 rfl dX8_judge_34 ?_
      refine lv_aload_n hx hb dX8_judge_37 rfl (lv_at hl 0 rfl) ?_
      refine zg_X8_50 hx hb C hP (by decide) lay_0 rfl dX8_judge_38 ?_
      refine lv_aload_n hx hb dX8_judge_41 rfl (lv_at hl 0 rfl) ?_
      refine zg_X8_11 hx hb C hP (by decide) lay_0 rfl dX8_judge_42 ?_
      refine lv_iload_n hx hb dX8_judge_45 rfl (lv_at hl 1 rfl) ?_
      obtain ⟨hc3, hf⟩ := chk_some hf
      refine zz_shelf hx hb C hP (inb_vp hc3) dX8_judge_46 (fun r5 er5 hr5 => ?_)
      have hf := bnd_at r5 er5 hf
      refine lv_iload_n hx hb dX8_judge_47 rfl (lv_at hl 2 rfl) ?_
      obtain ⟨u6, hzu6, hf⟩ := obd_some hf
      refine zz_callVi (rest := []) hx hb hml C hP hS (c_X5_firstWrong l hDA (h := d.1) hd1 (sh2 := r5) hr5 p2 hzu6) zw_X8_293 ⟨Nat.le_trans (Nat.le_of_ble_eq_true rfl) hRf, Nat.le_trans (Nat.le_of_ble_eq_true rfl) hRl⟩ (by decide) lay_11 rfl rfl hl.1 (Nat.le_of_ble_eq_true rfl) ⟨Nat.zero_le _, Nat.zero_le _⟩ rfl dX8_judge_48 (fun H locs hP hS => ?_)
      have hf := Option.some.inj hf
      subst hf
      exact hQ _ _ _ _ dX8_judge_51 hP hS
    · have hf := ifF hb2 hf
      refine lv_aload_n hx hb dX8_judge_24 rfl (lv_at hl 0 rfl) ?_
      refine lv_iload_n hx hb dX8_judge_25 rfl (lv_at hl 3 rfl) ?_
      obtain ⟨u7, hzu7, hf⟩ := obd_some hf
      refine zz_callVi (rest := []) hx hb hml C hP hS (c_X8_refuse l hDA v2 hzu7) zw_X8_73 ⟨Nat.le_trans (Nat.le_of_ble_eq_true rfl) hRf, Nat.le_trans (Nat.le_of_ble_eq_true rfl) hRl⟩ (by decide) lay_0 rfl rfl hl.1 (Nat.le_of_ble_eq_true rfl) ⟨Nat.zero_le _, Nat.zero_le _⟩ rfl dX8_judge_26 (fun H locs hP hS => ?_)
      refine lv_bipush (v := 10) hx hb dX8_judge_29 (by decide) ?_
      refine lv_isub hx hb dX8_judge_31 ?_
      have hf := Option.some.inj hf
      subst hf
      exact hQ _ _ _ _ dX8_judge_32 hP hS
  refine lv_if_ne (tgt := 20) hx hb dX8_judge_8 (by decide) (fun hb7 => ?_) (fun hb7 => ?_)
  · have hf := ifF hb7 hf
    exact hJ20 _ hf _ _ _ (lv_sub hl [1, 2, 3, 0] rfl) hP hS
  · have hf := ifT hb7 hf
    refine lv_iload_n hx hb dX8_judge_11 rfl (lv_at hl 3 rfl) ?_
    refine lv_bipush (v := 32) hx hb dX8_judge_12 (by decide) ?_
    refine lv_icmp_le (tgt := 20) hx hb dX8_judge_14 (by decide) (fun hb8 => ?_) (fun hb8 => ?_)
    · have hf := ifT hb8 hf
      exact hJ20 _ hf _ _ _ (lv_sub hl [1, 2, 3, 0] rfl) hP hS
    · have hf := ifF hb8 hf
      refine lv_bipush (v := (-6)) hx hb dX8_judge_17 (by decide) ?_
      refine lv_istore_n (lv' := [(3, .int (-6)), (0, .ref (a 0)), (1, .int p1), (2, .int p2)]) hx hb dX8_judge_19 rfl hl (by decide) rfl (fun ls hl => ?_)
      exact hJ20 _ hf _ _ _ (lv_sub hl [1, 2, 3, 0] rfl) hP hS
set_option maxHeartbeats 4000000 in
set_option maxRecDepth 100000 in
theorem c_X8_isToldInPairs (l : Launch) {D : va_G} {a : Nat → Nat} {cA : Nat → ClassId} {A : Nat → Prop} {sa : Nat → Nat} (hDA : DA a A) {σ : PH} {d : PD} (p1 : Int32) {u : Int32} (hf : f_X8_isToldInPairs p1 = u) : CTi l yX8_isToldInPairs cX8_isToldInPairs 1 (some .boolean) 0 0 D a cA A sa [.int p1] σ d u σ d := by
  refine zz_metZ zpl_X8 hDA (Nat.le_of_ble_eq_true rfl) ?_
  intro p e R s m args below meth c Q ls hx hb hml C hRf hRl hQ hP hS hl
  have hl : lv_has ls 1 [(0, .int p1)] := hl
  unfold f_X8_isToldInPairs at hf
  refine lv_iload_n hx hb dX8_isToldInPairs_0 rfl (lv_at hl 0 rfl) ?_
  refine lv_bipush (v := 32) hx hb dX8_isToldInPairs_1 (by decide) ?_
  refine lv_icmp_gt (tgt := 16) hx hb dX8_isToldInPairs_3 (by decide) (fun hb0 => ?_) (fun hb0 => ?_)
  · have hf := ifT hb0 hf
    refine lv_iconst (v := 0) hx hb dX8_isToldInPairs_16 (by decide) ?_
    subst hf
    exact hQ _ _ _ _ dX8_isToldInPairs_17 (show narrow .boolean (.int 0) = .int 0 from rfl) hP hS
  · have hf := ifF hb0 hf
    refine lv_iload_n hx hb dX8_isToldInPairs_6 rfl (lv_at hl 0 rfl) ?_
    refine lv_iconst (v := 1) hx hb dX8_isToldInPairs_7 (by decide) ?_
    refine lv_iand hx hb dX8_isToldInPairs_8 ?_
    refine lv_if_ne (tgt := 16) hx hb dX8_isToldInPairs_9 (by decide) (fun hb1 => ?_) (fun hb1 => ?_)
    · have hf := ifF hb1 hf
      refine lv_iconst (v := 0) hx hb dX8_isToldInPairs_16 (by decide) ?_
      subst hf
      exact hQ _ _ _ _ dX8_isToldInPairs_17 (show narrow .boolean (.int 0) = .int 0 from rfl) hP hS
    · have hf := ifT hb1 hf
      refine lv_iconst (v := 1) hx hb dX8_isToldInPairs_12 (by decide) ?_
      refine lv_goto (tgt := 17) hx hb dX8_isToldInPairs_13 (by decide) ?_
      subst hf
      exact hQ _ _ _ _ dX8_isToldInPairs_17 (show narrow .boolean (.int 1) = .int 1 from rfl) hP hS
set_option maxHeartbeats 4000000 in
set_option maxRecDepth 100000 in
theorem c_X8_behind (l : Launch) {D : va_G} {a : Nat → Nat} {cA : Nat → ClassId} {A : Nat → Prop} {sa : Nat → Nat} (hDA : DA a A) {σ : PH} {d : PD} (hd1 : isHall d.1) (p1 : Int32) (p2 : Int32) {u : Int32 × PH} (hf : f_X8_behind σ d p1 p2 = some u) : CTi l yX8_behind cX8_behind 4 (some .int) 5 128 D a cA A sa [.ref (a 0), .int p1, .int p2] σ d u.1 u.2 d := by
  refine zz_metI zpl_X8 hDA (Nat.le_of_ble_eq_true rfl) ?_
  intro p e R s m args below meth c Q ls hx hb hml C hRf hRl hQ hP hS hl
  have hl : lv_has ls 4 [(0, .ref (a 0)), (1, .int p1), (2, .int p2)] := hl
  unfold f_X8_behind at hf
  refine lv_aload_n hx hb dX8_behind_0 rfl (lv_at hl 0 rfl) ?_
  refine lv_iload_n hx hb dX8_behind_1 rfl (lv_at hl 1 rfl) ?_
  refine lv_iload_n hx hb dX8_behind_2 rfl (lv_at hl 2 rfl) ?_
  obtain ⟨u1, hzu1, hf⟩ := obd_some hf
  refine zz_callVi (rest := []) hx hb hml C hP hS (c_X8_lackOfTold l hDA p1 p2 hzu1) zw_X8_276 ⟨Nat.le_trans (Nat.le_of_ble_eq_true rfl) hRf, Nat.le_trans (Nat.le_of_ble_eq_true rfl) hRl⟩ (by decide) lay_0 rfl rfl hl.1 (Nat.le_of_ble_eq_true rfl) ⟨Nat.zero_le _, Nat.zero_le _⟩ rfl dX8_behind_3 (fun H locs hP hS => ?_)
  refine lv_istore_n (lv' := [(3, .int u1), (0, .ref (a 0)), (1, .int p1), (2, .int p2)]) hx hb dX8_behind_6 rfl hl (by decide) rfl (fun ls hl => ?_)
  refine lv_iload_n hx hb dX8_behind_7 rfl (lv_at hl 0 rfl) ?_
  have hJ43 : ∀ (v2 : Int32) (σ3 : PH), j_X8_behind_43 v2 σ3 = some u → ∀ (H : Heap) (locs : List Loc) (ls : Array Slot), lv_has ls 4 [(0, .ref (a 0)), (3, .int v2)] → va_P D vwCl (wl a cA σ3 d) H → va_S A s.heap H locs → W p l e R s m args below meth c H locs 0 0 Q (F0 m 43 ls []) := by
    intro v2 σ3 hf H locs ls hl hP hS
    unfold j_X8_behind_43 at hf
    refine lv_iload_n hx hb dX8_behind_43 rfl (lv_at hl 1 rfl) ?_
    refine lv_if_eq (tgt := 53) hx hb dX8_behind_44 (by decide) (fun hb3 => ?_) (fun hb3 => ?_)
    · have hf := ifT hb3 hf
      refine lv_aload_n hx hb dX8_behind_53 rfl (lv_at hl 0 rfl) ?_
      refine zg_X8_43 hx hb C hP (by decide) lay_0 rfl dX8_behind_54 ?_
      refine zg_X8_300 hx hb C hP (by decide) lay_11 rfl dX8_behind_57 ?_
      refine lv_aload_n hx hb dX8_behind_60 rfl (lv_at hl 0 rfl) ?_
      refine zg_X8_43 hx hb C hP (by decide) lay_0 rfl dX8_behind_61 ?_
      refine zg_X8_301 hx hb C hP (by decide) lay_11 rfl dX8_behind_64 ?_
      obtain ⟨u5, hzu5⟩ : ∃ z, z = f_X7_countIn (gJ σ3 11 4) (gJ σ3 11 5) := ⟨_, rfl⟩
      have hf := bnd_at u5 hzu5 hf
      refine zz_callSi (rest := []) hx hb hml C hP hS (c_X7_countIn l hDA (gJ σ3 11 4) (gJ σ3 11 5) hzu5.symm) zw_X8_302 ⟨Nat.le_trans (Nat.le_of_ble_eq_true rfl) hRf, Nat.le_trans (Nat.le_of_ble_eq_true rfl) hRl⟩  rfl hl.1 (Nat.le_of_ble_eq_true rfl) ⟨Nat.zero_le _, Nat.zero_le _⟩ rfl dX8_behind_67 (fun H locs hP hS => ?_)
      have hf := Option.some.inj hf
      subst hf
      exact hQ _ _ _ _ dX8_behind_70 hP hS
    · have hf := ifF hb3 hf
      refine lv_aload_n hx hb dX8_behind_47 rfl (lv_at hl 0 rfl) ?_
      refine lv_iload_n hx hb dX8_behind_48 rfl (lv_at hl 1 rfl) ?_
      obtain ⟨u6, hzu6, hf⟩ := obd_some hf
      refine zz_callVi (rest := []) hx hb hml C hP hS (c_X8_refuse l hDA v2 hzu6) zw_X8_73 ⟨Nat.le_trans (Nat.le_of_ble_eq_true rfl) hRf, Nat.le_trans (Nat.le_of_ble_eq_true rfl) hRl⟩ (by decide) lay_0 rfl rfl hl.1 (Nat.le_of_ble_eq_true rfl) ⟨Nat.zero_le _, Nat.zero_le _⟩ rfl dX8_behind_49 (fun H locs hP hS => ?_)
      have hf := Option.some.inj hf
      subst hf
      exact hQ _ _ _ _ dX8_behind_52 hP hS
  refine lv_if_ne (tgt := 43) hx hb dX8_behind_8 (by decide) (fun hb6 => ?_) (fun hb6 => ?_)
  · have hf := ifF hb6 hf
    exact hJ43 _ _ hf _ _ _ (lv_sub hl [1, 0] rfl) hP hS
  · have hf := ifT hb6 hf
    refine lv_iload_n hx hb dX8_behind_11 rfl (lv_at hl 3 rfl) ?_
    obtain ⟨u8, hzu8⟩ : ∃ z, z = f_X8_isToldInPairs p2 := ⟨_, rfl⟩
    have hf := bnd_at u8 hzu8 hf
    refine zz_callSi (rest := []) hx hb hml C hP hS (c_X8_isToldInPairs l hDA p2 hzu8.symm) zw_X8_297 ⟨Nat.le_trans (Nat.le_of_ble_eq_true rfl) hRf, Nat.le_trans (Nat.le_of_ble_eq_true rfl) hRl⟩  rfl hl.1 (Nat.le_of_ble_eq_true rfl) ⟨Nat.zero_le _, Nat.zero_le _⟩ rfl dX8_behind_12 (fun H locs hP hS => ?_)
    have hJ40 : ∀ (σ9 : PH), j_X8_behind_40 σ9 = some u → ∀ (H : Heap) (locs : List Loc) (ls : Array Slot), lv_has ls 4 [(0, .ref (a 0))] → va_P D vwCl (wl a cA σ9 d) H → va_S A s.heap H locs → W p l e R s m args below meth c H locs 0 0 Q (F0 m 40 ls []) := by
      intro σ9 hf H locs ls hl hP hS
      unfold j_X8_behind_40 at hf
      refine lv_bipush (v := (-6)) hx hb dX8_behind_40 (by decide) ?_
      refine lv_istore_n (lv' := [(3, .int (-6)), (0, .ref (a 0))]) hx hb dX8_behind_42 rfl hl (by decide) rfl (fun ls hl => ?_)
      exact hJ43 _ _ hf _ _ _ (lv_sub hl [1, 0] rfl) hP hS
    refine lv_if_eq (tgt := 40) hx hb dX8_behind_15 (by decide) (fun hb9 => ?_) (fun hb9 => ?_)
    · have hf := ifT hb9 hf
      exact hJ40 _ hf _ _ _ (lv_sub hl [1] rfl) hP hS
    · have hf := ifF hb9 hf
      refine lv_aload_n hx hb dX8_behind_18 rfl (lv_at hl 1 rfl) ?_
      refine zg_X8_43 hx hb C hP (by decide) lay_0 rfl dX8_behind_19 ?_
      refine lv_aload_n hx hb dX8_behind_22 rfl (lv_at hl 1 rfl) ?_
      refine zg_X8_50 hx hb C hP (by decide) lay_0 rfl dX8_behind_23 ?_
      refine lv_aload_n hx hb dX8_behind_26 rfl (lv_at hl 1 rfl) ?_
      refine zg_X8_11 hx hb C hP (by decide) lay_0 rfl dX8_behind_27 ?_
      refine lv_iload_n hx hb dX8_behind_30 rfl (lv_at hl 2 rfl) ?_
      obtain ⟨hc10, hf⟩ := chk_some hf
      refine zz_shelf hx hb C hP (inb_vp hc10) dX8_behind_31 (fun r12 er12 hr12 => ?_)
      have hf := bnd_at r12 er12 hf
      refine lv_iload_n hx hb dX8_behind_32 rfl (lv_at hl 3 rfl) ?_
      obtain ⟨u13, hzu13, hf⟩ := obd_some hf
      refine zz_callVi (rest := []) hx hb hml C hP hS (c_X5_firstWrong l hDA (h := d.1) hd1 (sh2 := r12) hr12 p2 hzu13) zw_X8_293 ⟨Nat.le_trans (Nat.le_of_ble_eq_true rfl) hRf, Nat.le_trans (Nat.le_of_ble_eq_true rfl) hRl⟩ (by decide) lay_11 rfl rfl hl.1 (Nat.le_of_ble_eq_true rfl) ⟨Nat.zero_le _, Nat.zero_le _⟩ rfl dX8_behind_33 (fun H locs hP hS => ?_)
      refine lv_iconst (v := (-1)) hx hb dX8_behind_36 (by decide) ?_
      refine lv_icmp_eq (tgt := 43) hx hb dX8_behind_37 (by decide) (fun hb13 => ?_) (fun hb13 => ?_)
      · have hf := ifT hb13 hf
        exact hJ43 _ _ hf _ _ _ (lv_sub hl [1, 0] rfl) hP hS
      · have hf := ifF hb13 hf
        exact hJ40 _ hf _ _ _ (lv_sub hl [1] rfl) hP hS
set_option maxHeartbeats 4000000 in
set_option maxRecDepth 100000 in
theorem c_X8_byEar (l : Launch) {D : va_G} {a : Nat → Nat} {cA : Nat → ClassId} {A : Nat → Prop} {sa : Nat → Nat} (hDA : DA a A) {σ : PH} {d : PD} (hd1 : isHall d.1) (p1 : Int32) (p2 : Int32) {u : Int32 × PH} (hf : f_X8_byEar σ d p1 p2 = some u) : CTi l yX8_byEar cX8_byEar 4 (some .int) 5 131 D a cA A sa [.ref (a 0), .int p1, .int p2] σ d u.1 u.2 d := by
  refine zz_metI zpl_X8 hDA (Nat.le_of_ble_eq_true rfl) ?_
  intro p e R s m args below meth c Q ls hx hb hml C hRf hRl hQ hP hS hl
  have hl : lv_has ls 4 [(0, .ref (a 0)), (1, .int p1), (2, .int p2)] := hl
  unfold f_X8_byEar at hf
  refine lv_aload_n hx hb dX8_byEar_0 rfl (lv_at hl 0 rfl) ?_
  refine lv_iload_n hx hb dX8_byEar_1 rfl (lv_at hl 1 rfl) ?_
  refine lv_iload_n hx hb dX8_byEar_2 rfl (lv_at hl 2 rfl) ?_
  obtain ⟨u1, hzu1, hf⟩ := obd_some hf
  refine zz_callVi (rest := []) hx hb hml C hP hS (c_X8_lackOfTold l hDA p1 p2 hzu1) zw_X8_276 ⟨Nat.le_trans (Nat.le_of_ble_eq_true rfl) hRf, Nat.le_trans (Nat.le_of_ble_eq_true rfl) hRl⟩ (by decide) lay_0 rfl rfl hl.1 (Nat.le_of_ble_eq_true rfl) ⟨Nat.zero_le _, Nat.zero_le _⟩ rfl dX8_byEar_3 (fun H locs hP hS => ?_)
  refine lv_istore_n (lv' := [(3, .int u1), (0, .ref (a 0)), (1, .int p1), (2, .int p2)]) hx hb dX8_byEar_6 rfl hl (by decide) rfl (fun ls hl => ?_)
  refine lv_iload_n hx hb dX8_byEar_7 rfl (lv_at hl 0 rfl) ?_
  have hJ27 : ∀ (v2 : Int32), j_X8_byEar_27 σ d p1 p2 v2 = some u → ∀ (H : Heap) (locs : List Loc) (ls : Array Slot), lv_has ls 4 [(0, .ref (a 0)), (1, .int p1), (2, .int p2), (3, .int v2)] → va_P D vwCl (wl a cA σ d) H → va_S A s.heap H locs → W p l e R s m args below meth c H locs 0 0 Q (F0 m 27 ls []) := by
    intro v2 hf H locs ls hl hP hS
    unfold j_X8_byEar_27 at hf
    refine lv_iload_n hx hb dX8_byEar_27 rfl (lv_at hl 3 rfl) ?_
    have hJ62 : ∀ (v3 : Int32), j_X8_byEar_62 σ d p1 p2 v3 = some u → ∀ (H : Heap) (locs : List Loc) (ls : Array Slot), lv_has ls 4 [(0, .ref (a 0)), (1, .int p1), (2, .int p2), (3, .int v3)] → va_P D vwCl (wl a cA σ d) H → va_S A s.heap H locs → W p l e R s m args below meth c H locs 0 0 Q (F0 m 62 ls []) := by
      intro v3 hf H locs ls hl hP hS
      unfold j_X8_byEar_62 at hf
      refine lv_iload_n hx hb dX8_byEar_62 rfl (lv_at hl 3 rfl) ?_
      refine lv_if_eq (tgt := 72) hx hb dX8_byEar_63 (by decide) (fun hb3 => ?_) (fun hb3 => ?_)
      · have hf := ifT hb3 hf
        refine lv_aload_n hx hb dX8_byEar_72 rfl (lv_at hl 0 rfl) ?_
        refine zg_X8_43 hx hb C hP (by decide) lay_0 rfl dX8_byEar_73 ?_
        refine lv_aload_n hx hb dX8_byEar_76 rfl (lv_at hl 0 rfl) ?_
        refine zg_X8_50 hx hb C hP (by decide) lay_0 rfl dX8_byEar_77 ?_
        refine lv_aload_n hx hb dX8_byEar_80 rfl (lv_at hl 0 rfl) ?_
        refine zg_X8_11 hx hb C hP (by decide) lay_0 rfl dX8_byEar_81 ?_
        refine lv_iload_n hx hb dX8_byEar_84 rfl (lv_at hl 1 rfl) ?_
        obtain ⟨hc4, hf⟩ := chk_some hf
        refine zz_shelf hx hb C hP (inb_vp hc4) dX8_byEar_85 (fun r6 er6 hr6 => ?_)
        have hf := bnd_at r6 er6 hf
        refine lv_iload_n hx hb dX8_byEar_86 rfl (lv_at hl 2 rfl) ?_
        obtain ⟨u7, hzu7, hf⟩ := obd_some hf
        refine zz_callVi (rest := []) hx hb hml C hP hS (c_X5_likeliestByEar l hDA (h := d.1) hd1 (sh2 := r6) hr6 p2 hzu7) zw_X8_308 ⟨Nat.le_trans (Nat.le_of_ble_eq_true rfl) hRf, Nat.le_trans (Nat.le_of_ble_eq_true rfl) hRl⟩ (by decide) lay_11 rfl rfl hl.1 (Nat.le_of_ble_eq_true rfl) ⟨Nat.zero_le _, Nat.zero_le _⟩ rfl dX8_byEar_87 (fun H locs hP hS => ?_)
        have hf := Option.some.inj hf
        subst hf
        exact hQ _ _ _ _ dX8_byEar_90 hP hS
      · have hf := ifF hb3 hf
        refine lv_aload_n hx hb dX8_byEar_66 rfl (lv_at hl 0 rfl) ?_
        refine lv_iload_n hx hb dX8_byEar_67 rfl (lv_at hl 3 rfl) ?_
        obtain ⟨u8, hzu8, hf⟩ := obd_some hf
        refine zz_callVi (rest := []) hx hb hml C hP hS (c_X8_refuse l hDA v3 hzu8) zw_X8_73 ⟨Nat.le_trans (Nat.le_of_ble_eq_true rfl) hRf, Nat.le_trans (Nat.le_of_ble_eq_true rfl) hRl⟩ (by decide) lay_0 rfl rfl hl.1 (Nat.le_of_ble_eq_true rfl) ⟨Nat.zero_le _, Nat.zero_le _⟩ rfl dX8_byEar_68 (fun H locs hP hS => ?_)
        have hf := Option.some.inj hf
        subst hf
        exact hQ _ _ _ _ dX8_byEar_71 hP hS
    refine lv_if_ne (tgt := 62) hx hb dX8_byEar_28 (by decide) (fun hb8 => ?_) (fun hb8 => ?_)
    · have hf := ifF hb8 hf
      exact hJ62 _ hf _ _ _ (lv_sub hl [0, 1, 2, 3] rfl) hP hS
    · have hf := ifT hb8 hf
      refine lv_iload_n hx hb dX8_byEar_31 rfl (lv_at hl 2 rfl) ?_
      obtain ⟨u10, hzu10⟩ : ∃ z, z = f_X8_isToldInPairs p2 := ⟨_, rfl⟩
      have hf := bnd_at u10 hzu10 hf
      refine zz_callSi (rest := []) hx hb hml C hP hS (c_X8_isToldInPairs l hDA p2 hzu10.symm) zw_X8_297 ⟨Nat.le_trans (Nat.le_of_ble_eq_true rfl) hRf, Nat.le_trans (Nat.le_of_ble_eq_true rfl) hRl⟩  rfl hl.1 (Nat.le_of_ble_eq_true rfl) ⟨Nat.zero_le _, Nat.zero_le _⟩ rfl dX8_byEar_32 (fun H locs hP hS => ?_)
      have hJ59 : j_X8_byEar_59 σ d p1 p2 = some u → ∀ (H : Heap) (locs : List Loc) (ls : Array Slot), lv_has ls 4 [(0, .ref (a 0)), (1, .int p1), (2, .int p2)] → va_P D vwCl (wl a cA σ d) H → va_S A s.heap H locs → W p l e R s m args below meth c H locs 0 0 Q (F0 m 59 ls []) := by
        intro  hf H locs ls hl hP hS
        unfold j_X8_byEar_59 at hf
        refine lv_bipush (v := (-6)) hx hb dX8_byEar_59 (by decide) ?_
        refine lv_istore_n (lv' := [(3, .int (-6)), (0, .ref (a 0)), (1, .int p1), (2, .int p2)]) hx hb dX8_byEar_61 rfl hl (by decide) rfl (fun ls hl => ?_)
        exact hJ62 _ hf _ _ _ (lv_sub hl [1, 2, 3, 0] rfl) hP hS
      refine lv_if_eq (tgt := 59) hx hb dX8_byEar_35 (by decide) (fun hb10 => ?_) (fun hb10 => ?_)
      · have hf := ifT hb10 hf
        exact hJ59  hf _ _ _ (lv_sub hl [0, 1, 2] rfl) hP hS
      · have hf := ifF hb10 hf
        refine lv_aload_n hx hb dX8_byEar_38 rfl (lv_at hl 0 rfl) ?_
        refine zg_X8_43 hx hb C hP (by decide) lay_0 rfl dX8_byEar_39 ?_
        refine lv_aload_n hx hb dX8_byEar_42 rfl (lv_at hl 0 rfl) ?_
        refine zg_X8_50 hx hb C hP (by decide) lay_0 rfl dX8_byEar_43 ?_
        refine lv_aload_n hx hb dX8_byEar_46 rfl (lv_at hl 0 rfl) ?_
        refine zg_X8_11 hx hb C hP (by decide) lay_0 rfl dX8_byEar_47 ?_
        refine lv_iload_n hx hb dX8_byEar_50 rfl (lv_at hl 1 rfl) ?_
        obtain ⟨hc11, hf⟩ := chk_some hf
        refine zz_shelf hx hb C hP (inb_vp hc11) dX8_byEar_51 (fun r13 er13 hr13 => ?_)
        have hf := bnd_at r13 er13 hf
        refine lv_iload_n hx hb dX8_byEar_52 rfl (lv_at hl 2 rfl) ?_
        obtain ⟨u14, hzu14, hf⟩ := obd_some hf
        refine zz_callVi (rest := []) hx hb hml C hP hS (c_X5_arePairs l hDA (h := d.1) hd1 (sh2 := r13) hr13 p2 hzu14) zw_X8_305 ⟨Nat.le_trans (Nat.le_of_ble_eq_true rfl) hRf, Nat.le_trans (Nat.le_of_ble_eq_true rfl) hRl⟩ (by decide) lay_11 rfl rfl hl.1 (Nat.le_of_ble_eq_true rfl) ⟨Nat.zero_le _, Nat.zero_le _⟩ rfl dX8_byEar_53 (fun H locs hP hS => ?_)
        refine lv_if_ne (tgt := 62) hx hb dX8_byEar_56 (by decide) (fun hb14 => ?_) (fun hb14 => ?_)
        · have hf := ifF hb14 hf
          exact hJ62 _ hf _ _ _ (lv_sub hl [0, 1, 2, 3] rfl) hP hS
        · have hf := ifT hb14 hf
          exact hJ59  hf _ _ _ (lv_sub hl [0, 1, 2] rfl) hP hS
  refine lv_if_ne (tgt := 27) hx hb dX8_byEar_8 (by decide) (fun hb15 => ?_) (fun hb15 => ?_)
  · have hf := ifF hb15 hf
    exact hJ27 _ hf _ _ _ (lv_sub hl [1, 2, 3, 0] rfl) hP hS
  · have hf := ifT hb15 hf
    refine lv_aload_n hx hb dX8_byEar_11 rfl (lv_at hl 1 rfl) ?_
    refine zg_X8_50 hx hb C hP (by decide) lay_0 rfl dX8_byEar_12 ?_
    refine zg_X8_109 hx hb C hP (lth0 hd1) (lay_h0 hd1) rfl dX8_byEar_15 ?_
    refine zg_X8_150 hx hb C hP (lth hd1 1 (by decide)) (lay_h1 hd1) rfl dX8_byEar_18 ?_
    refine lv_if_ne (tgt := 27) hx hb dX8_byEar_21 (by decide) (fun hb16 => ?_) (fun hb16 => ?_)
    · have hf := ifF hb16 hf
      exact hJ27 _ hf _ _ _ (lv_sub hl [1, 2, 3, 0] rfl) hP hS
    · have hf := ifT hb16 hf
      refine lv_bipush (v := (-5)) hx hb dX8_byEar_24 (by decide) ?_
      refine lv_istore_n (lv' := [(3, .int (-5)), (0, .ref (a 0)), (1, .int p1), (2, .int p2)]) hx hb dX8_byEar_26 rfl hl (by decide) rfl (fun ls hl => ?_)
      exact hJ27 _ hf _ _ _ (lv_sub hl [1, 2, 3, 0] rfl) hP hS
set_option maxHeartbeats 4000000 in
set_option maxRecDepth 100000 in
theorem c_X8_beside (l : Launch) {D : va_G} {a : Nat → Nat} {cA : Nat → ClassId} {A : Nat → Prop} {sa : Nat → Nat} (hDA : DA a A) {σ : PH} {d : PD} (hd1 : isHall d.1)  {u : Int32 × PH} (hf : f_X8_beside σ d = some u) : CTi l yX8_beside cX8_beside 1 (some .int) 6 144 D a cA A sa [.ref (a 0)] σ d u.1 u.2 d := by
  refine zz_metI zpl_X8 hDA (Nat.le_of_ble_eq_true rfl) ?_
  intro p e R s m args below meth c Q ls hx hb hml C hRf hRl hQ hP hS hl
  have hl : lv_has ls 1 [(0, .ref (a 0))] := hl
  unfold f_X8_beside at hf
  refine lv_aload_n hx hb dX8_beside_0 rfl (lv_at hl 0 rfl) ?_
  refine zg_X8_50 hx hb C hP (by decide) lay_0 rfl dX8_beside_1 ?_
  obtain ⟨u1, hzu1, hf⟩ := obd_some hf
  refine zz_callVi (rest := []) hx hb hml C hP hS (c_X2_firstToChange l hDA (h := d.1) hd1 hzu1) zw_X8_311 ⟨Nat.le_trans (Nat.le_of_ble_eq_true rfl) hRf, Nat.le_trans (Nat.le_of_ble_eq_true rfl) hRl⟩ (lth0 hd1) (lay_h0 hd1) rfl rfl hl.1 (Nat.le_of_ble_eq_true rfl) ⟨Nat.zero_le _, Nat.zero_le _⟩ rfl dX8_beside_4 (fun H locs hP hS => ?_)
  have hf := Option.some.inj hf
  subst hf
  exact hQ _ _ _ _ dX8_beside_7 hP hS
set_option maxHeartbeats 4000000 in
set_option maxRecDepth 100000 in
theorem c_X8_quiet (l : Launch) {D : va_G} {a : Nat → Nat} {cA : Nat → ClassId} {A : Nat → Prop} {sa : Nat → Nat} (hDA : DA a A) {σ : PH} {d : PD} (hd1 : isHall d.1)  {u : Int32 × PH} (hf : f_X8_quiet σ d = some u) : CTi l yX8_quiet cX8_quiet 1 (some .int) 6 145 D a cA A sa [.ref (a 0)] σ d u.1 u.2 d := by
  refine zz_metI zpl_X8 hDA (Nat.le_of_ble_eq_true rfl) ?_
  intro p e R s m args below meth c Q ls hx hb hml C hRf hRl hQ hP hS hl
  have hl : lv_has ls 1 [(0, .ref (a 0))] := hl
  unfold f_X8_quiet at hf
  refine lv_aload_n hx hb dX8_quiet_0 rfl (lv_at hl 0 rfl) ?_
  refine zg_X8_50 hx hb C hP (by decide) lay_0 rfl dX8_quiet_1 ?_
  refine zg_X8_109 hx hb C hP (lth0 hd1) (lay_h0 hd1) rfl dX8_quiet_4 ?_
  refine zg_X8_150 hx hb C hP (lth hd1 1 (by decide)) (lay_h1 hd1) rfl dX8_quiet_7 ?_
  refine lv_if_ne (tgt := 20) hx hb dX8_quiet_10 (by decide) (fun hb0 => ?_) (fun hb0 => ?_)
  · have hf := ifF hb0 hf
    refine lv_aload_n hx hb dX8_quiet_20 rfl (lv_at hl 0 rfl) ?_
    refine zg_X8_50 hx hb C hP (by decide) lay_0 rfl dX8_quiet_21 ?_
    obtain ⟨u2, hzu2, hf⟩ := obd_some hf
    refine zz_callVi (rest := []) hx hb hml C hP hS (c_X2_mostQuiet l hDA (h := d.1) hd1 hzu2) zw_X8_314 ⟨Nat.le_trans (Nat.le_of_ble_eq_true rfl) hRf, Nat.le_trans (Nat.le_of_ble_eq_true rfl) hRl⟩ (lth0 hd1) (lay_h0 hd1) rfl rfl hl.1 (Nat.le_of_ble_eq_true rfl) ⟨Nat.zero_le _, Nat.zero_le _⟩ rfl dX8_quiet_24 (fun H locs hP hS => ?_)
    have hf := Option.some.inj hf
    subst hf
    exact hQ _ _ _ _ dX8_quiet_27 hP hS
  · have hf := ifT hb0 hf
    refine lv_aload_n hx hb dX8_quiet_13 rfl (lv_at hl 0 rfl) ?_
    refine lv_bipush (v := (-5)) hx hb dX8_quiet_14 (by decide) ?_
    obtain ⟨u3, hzu3, hf⟩ := obd_some hf
    refine zz_callVi (rest := []) hx hb hml C hP hS (c_X8_refuse l hDA (-5) hzu3) zw_X8_73 ⟨Nat.le_trans (Nat.le_of_ble_eq_true rfl) hRf, Nat.le_trans (Nat.le_of_ble_eq_true rfl) hRl⟩ (by decide) lay_0 rfl rfl hl.1 (Nat.le_of_ble_eq_true rfl) ⟨Nat.zero_le _, Nat.zero_le _⟩ rfl dX8_quiet_16 (fun H locs hP hS => ?_)
    have hf := Option.some.inj hf
    subst hf
    exact hQ _ _ _ _ dX8_quiet_19 hP hS
set_option maxHeartbeats 4000000 in
set_option maxRecDepth 100000 in
theorem c_X8_swap (l : Launch) {D : va_G} {a : Nat → Nat} {cA : Nat → ClassId} {A : Nat → Prop} {sa : Nat → Nat} (hDA : DA a A) {σ : PH} {d : PD} (hd1 : isHall d.1) (p1 : Int32) (p2 : Int32) {u : Int32 × PH} (hf : f_X8_swap σ d p1 p2 = some u) : CTi l yX8_swap cX8_swap 3 (some .int) 5 113 D a cA A sa [.ref (a 0), .int p1, .int p2] σ d u.1 u.2 d := by
  refine zz_metI zpl_X8 hDA (Nat.le_of_ble_eq_true rfl) ?_
  intro p e R s m args below meth c Q ls hx hb hml C hRf hRl hQ hP hS hl
  have hl : lv_has ls 3 [(0, .ref (a 0)), (1, .int p1), (2, .int p2)] := hl
  unfold f_X8_swap at hf
  refine lv_aload_n hx hb dX8_swap_0 rfl (lv_at hl 0 rfl) ?_
  refine zg_X8_50 hx hb C hP (by decide) lay_0 rfl dX8_swap_1 ?_
  refine zg_X8_109 hx hb C hP (lth0 hd1) (lay_h0 hd1) rfl dX8_swap_4 ?_
  refine lv_iload_n hx hb dX8_swap_7 rfl (lv_at hl 1 rfl) ?_
  obtain ⟨u1, hzu1⟩ : ∃ z, z = f_X0_has σ d.1 p1 := ⟨_, rfl⟩
  have hf := bnd_at u1 hzu1 hf
  refine zz_callVi (rest := []) hx hb hml C hP hS (c_X0_has l hDA (h := d.1) hd1 p1 hzu1.symm) zw_X8_113 ⟨Nat.le_trans (Nat.le_of_ble_eq_true rfl) hRf, Nat.le_trans (Nat.le_of_ble_eq_true rfl) hRl⟩ (lth hd1 1 (by decide)) (lay_h1 hd1) rfl rfl hl.1 (Nat.le_of_ble_eq_true rfl) ⟨Nat.zero_le _, Nat.zero_le _⟩ rfl dX8_swap_8 (fun H locs hP hS => ?_)
  refine lv_if_eq (tgt := 28) hx hb dX8_swap_11 (by decide) (fun hb1 => ?_) (fun hb1 => ?_)
  · have hf := ifT hb1 hf
    refine lv_aload_n hx hb dX8_swap_28 rfl (lv_at hl 0 rfl) ?_
    refine lv_iconst (v := (-1)) hx hb dX8_swap_29 (by decide) ?_
    obtain ⟨u3, hzu3, hf⟩ := obd_some hf
    refine zz_callVi (rest := []) hx hb hml C hP hS (c_X8_refuse l hDA (-1) hzu3) zw_X8_73 ⟨Nat.le_trans (Nat.le_of_ble_eq_true rfl) hRf, Nat.le_trans (Nat.le_of_ble_eq_true rfl) hRl⟩ (by decide) lay_0 rfl rfl hl.1 (Nat.le_of_ble_eq_true rfl) ⟨Nat.zero_le _, Nat.zero_le _⟩ rfl dX8_swap_30 (fun H locs hP hS => ?_)
    have hf := Option.some.inj hf
    subst hf
    exact hQ _ _ _ _ dX8_swap_33 hP hS
  · have hf := ifF hb1 hf
    refine lv_aload_n hx hb dX8_swap_14 rfl (lv_at hl 0 rfl) ?_
    refine zg_X8_50 hx hb C hP (by decide) lay_0 rfl dX8_swap_15 ?_
    refine zg_X8_109 hx hb C hP (lth0 hd1) (lay_h0 hd1) rfl dX8_swap_18 ?_
    refine lv_iload_n hx hb dX8_swap_21 rfl (lv_at hl 2 rfl) ?_
    obtain ⟨u4, hzu4⟩ : ∃ z, z = f_X0_has σ d.1 p2 := ⟨_, rfl⟩
    have hf := bnd_at u4 hzu4 hf
    refine zz_callVi (rest := []) hx hb hml C hP hS (c_X0_has l hDA (h := d.1) hd1 p2 hzu4.symm) zw_X8_113 ⟨Nat.le_trans (Nat.le_of_ble_eq_true rfl) hRf, Nat.le_trans (Nat.le_of_ble_eq_true rfl) hRl⟩ (lth hd1 1 (by decide)) (lay_h1 hd1) rfl rfl hl.1 (Nat.le_of_ble_eq_true rfl) ⟨Nat.zero_le _, Nat.zero_le _⟩ rfl dX8_swap_22 (fun H locs hP hS => ?_)
    refine lv_if_ne (tgt := 34) hx hb dX8_swap_25 (by decide) (fun hb4 => ?_) (fun hb4 => ?_)
    · have hf := ifF hb4 hf
      refine lv_iload_n hx hb dX8_swap_34 rfl (lv_at hl 1 rfl) ?_
      refine lv_iload_n hx hb dX8_swap_35 rfl (lv_at hl 2 rfl) ?_
      refine lv_icmp_ne (tgt := 46) hx hb dX8_swap_36 (by decide) (fun hb5 => ?_) (fun hb5 => ?_)
      · have hf := ifF hb5 hf
        refine lv_aload_n hx hb dX8_swap_46 rfl (lv_at hl 0 rfl) ?_
        refine zg_X8_50 hx hb C hP (by decide) lay_0 rfl dX8_swap_47 ?_
        refine lv_iload_n hx hb dX8_swap_50 rfl (lv_at hl 1 rfl) ?_
        refine lv_iload_n hx hb dX8_swap_51 rfl (lv_at hl 2 rfl) ?_
        obtain ⟨u7, hzu7, hf⟩ := obd_some hf
        refine zz_callVv (rest := []) hx hb hml C hP hS (c_X2_changePlaces l hDA (h := d.1) hd1 p1 p2 hzu7) zw_X8_317 ⟨Nat.le_trans (Nat.le_of_ble_eq_true rfl) hRf, Nat.le_trans (Nat.le_of_ble_eq_true rfl) hRl⟩ (lth0 hd1) (lay_h0 hd1) rfl rfl hl.1 (Nat.le_of_ble_eq_true rfl) ⟨Nat.zero_le _, Nat.zero_le _⟩ rfl dX8_swap_52 (fun H locs hP hS => ?_)
        refine lv_iconst (v := 1) hx hb dX8_swap_55 (by decide) ?_
        have hf := Option.some.inj hf
        subst hf
        exact hQ _ _ _ _ dX8_swap_56 hP hS
      · have hf := ifT hb5 hf
        refine lv_aload_n hx hb dX8_swap_39 rfl (lv_at hl 0 rfl) ?_
        refine lv_bipush (v := (-6)) hx hb dX8_swap_40 (by decide) ?_
        obtain ⟨u8, hzu8, hf⟩ := obd_some hf
        refine zz_callVi (rest := []) hx hb hml C hP hS (c_X8_refuse l hDA (-6) hzu8) zw_X8_73 ⟨Nat.le_trans (Nat.le_of_ble_eq_true rfl) hRf, Nat.le_trans (Nat.le_of_ble_eq_true rfl) hRl⟩ (by decide) lay_0 rfl rfl hl.1 (Nat.le_of_ble_eq_true rfl) ⟨Nat.zero_le _, Nat.zero_le _⟩ rfl dX8_swap_42 (fun H locs hP hS => ?_)
        have hf := Option.some.inj hf
        subst hf
        exact hQ _ _ _ _ dX8_swap_45 hP hS
    · have hf := ifT hb4 hf
      refine lv_aload_n hx hb dX8_swap_28 rfl (lv_at hl 0 rfl) ?_
      refine lv_iconst (v := (-1)) hx hb dX8_swap_29 (by decide) ?_
      obtain ⟨u9, hzu9, hf⟩ := obd_some hf
      refine zz_callVi (rest := []) hx hb hml C hP hS (c_X8_refuse l hDA (-1) hzu9) zw_X8_73 ⟨Nat.le_trans (Nat.le_of_ble_eq_true rfl) hRf, Nat.le_trans (Nat.le_of_ble_eq_true rfl) hRl⟩ (by decide) lay_0 rfl rfl hl.1 (Nat.le_of_ble_eq_true rfl) ⟨Nat.zero_le _, Nat.zero_le _⟩ rfl dX8_swap_30 (fun H locs hP hS => ?_)
      have hf := Option.some.inj hf
      subst hf
      exact hQ _ _ _ _ dX8_swap_33 hP hS
set_option maxHeartbeats 4000000 in
set_option maxRecDepth 100000 in
theorem c_X8_isTrue (l : Launch) {D : va_G} {a : Nat → Nat} {cA : Nat → ClassId} {A : Nat → Prop} {sa : Nat → Nat} (hDA : DA a A) {σ : PH} {d : PD} (hd1 : isHall d.1) (p1 : Int32) {u : Int32 × PH} (hf : f_X8_isTrue σ d p1 = some u) : CTi l yX8_isTrue cX8_isTrue 4 (some .int) 3 61 D a cA A sa [.ref (a 0), .int p1] σ d u.1 u.2 d := by
  refine zz_metI zpl_X8 hDA (Nat.le_of_ble_eq_true rfl) ?_
  intro p e R s m args below meth c Q ls hx hb hml C hRf hRl hQ hP hS hl
  have hl : lv_has ls 4 [(0, .ref (a 0)), (1, .int p1)] := hl
  unfold f_X8_isTrue at hf
  refine lv_aload_n hx hb dX8_isTrue_0 rfl (lv_at hl 0 rfl) ?_
  refine zg_X8_50 hx hb C hP (by decide) lay_0 rfl dX8_isTrue_1 ?_
  refine zg_X8_190 hx hb C hP (lth0 hd1) (lay_h0 hd1) rfl dX8_isTrue_4 ?_
  refine lv_iload_n hx hb dX8_isTrue_7 rfl (lv_at hl 1 rfl) ?_
  obtain ⟨u1, hzu1, hf⟩ := obd_some hf
  refine zz_callVi (rest := []) hx hb hml C hP hS (c_X7_indexOf l hDA (h := d.1) hd1 p1 hzu1) zw_X8_204 ⟨Nat.le_trans (Nat.le_of_ble_eq_true rfl) hRf, Nat.le_trans (Nat.le_of_ble_eq_true rfl) hRl⟩ (lth hd1 7 (by decide)) (lay_h7 hd1) rfl rfl hl.1 (Nat.le_of_ble_eq_true rfl) ⟨Nat.zero_le _, Nat.zero_le _⟩ rfl dX8_isTrue_8 (fun H locs hP hS => ?_)
  refine lv_istore_n (lv' := [(2, .int u1), (0, .ref (a 0)), (1, .int p1)]) hx hb dX8_isTrue_11 rfl hl (by decide) rfl (fun ls hl => ?_)
  refine lv_iload_n hx hb dX8_isTrue_12 rfl (lv_at hl 0 rfl) ?_
  refine lv_iconst (v := (-1)) hx hb dX8_isTrue_13 (by decide) ?_
  refine lv_icmp_ne (tgt := 24) hx hb dX8_isTrue_14 (by decide) (fun hb1 => ?_) (fun hb1 => ?_)
  · have hf := ifF hb1 hf
    refine lv_aload_n hx hb dX8_isTrue_24 rfl (lv_at hl 1 rfl) ?_
    refine zg_X8_50 hx hb C hP (by decide) lay_0 rfl dX8_isTrue_25 ?_
    obtain ⟨u3, hzu3, hf⟩ := obd_some hf
    refine zz_callVi (rest := []) hx hb hml C hP hS (c_X2_trueWorld l hDA (h := d.1) hd1 hzu3) zw_X8_320 ⟨Nat.le_trans (Nat.le_of_ble_eq_true rfl) hRf, Nat.le_trans (Nat.le_of_ble_eq_true rfl) hRl⟩ (lth0 hd1) (lay_h0 hd1) rfl rfl hl.1 (Nat.le_of_ble_eq_true rfl) ⟨Nat.zero_le _, Nat.zero_le _⟩ rfl dX8_isTrue_28 (fun H locs hP hS => ?_)
    refine lv_istore_n (lv' := [(3, .int u3), (2, .int u1), (0, .ref (a 0)), (1, .int p1)]) hx hb dX8_isTrue_31 rfl hl (by decide) rfl (fun ls hl => ?_)
    refine lv_aload_n hx hb dX8_isTrue_32 rfl (lv_at hl 2 rfl) ?_
    refine zg_X8_50 hx hb C hP (by decide) lay_0 rfl dX8_isTrue_33 ?_
    refine lv_iload_n hx hb dX8_isTrue_36 rfl (lv_at hl 1 rfl) ?_
    obtain ⟨u4, hzu4⟩ : ∃ z, z = f_X2_makeTrue σ d.1 u1 := ⟨_, rfl⟩
    have hf := bnd_at u4 hzu4 hf
    refine zz_callVv (rest := []) hx hb hml C hP hS (c_X2_makeTrue l hDA (h := d.1) hd1 u1 hzu4.symm) zw_X8_323 ⟨Nat.le_trans (Nat.le_of_ble_eq_true rfl) hRf, Nat.le_trans (Nat.le_of_ble_eq_true rfl) hRl⟩ (lth0 hd1) (lay_h0 hd1) rfl rfl hl.1 (Nat.le_of_ble_eq_true rfl) ⟨Nat.zero_le _, Nat.zero_le _⟩ rfl dX8_isTrue_37 (fun H locs hP hS => ?_)
    refine lv_iload_n hx hb dX8_isTrue_40 rfl (lv_at hl 0 rfl) ?_
    have hf := Option.some.inj hf
    subst hf
    exact hQ _ _ _ _ dX8_isTrue_41 hP hS
  · have hf := ifT hb1 hf
    refine lv_aload_n hx hb dX8_isTrue_17 rfl (lv_at hl 1 rfl) ?_
    refine lv_bipush (v := (-6)) hx hb dX8_isTrue_18 (by decide) ?_
    obtain ⟨u5, hzu5, hf⟩ := obd_some hf
    refine zz_callVi (rest := []) hx hb hml C hP hS (c_X8_refuse l hDA (-6) hzu5) zw_X8_73 ⟨Nat.le_trans (Nat.le_of_ble_eq_true rfl) hRf, Nat.le_trans (Nat.le_of_ble_eq_true rfl) hRl⟩ (by decide) lay_0 rfl rfl hl.1 (Nat.le_of_ble_eq_true rfl) ⟨Nat.zero_le _, Nat.zero_le _⟩ rfl dX8_isTrue_20 (fun H locs hP hS => ?_)
    have hf := Option.some.inj hf
    subst hf
    exact hQ _ _ _ _ dX8_isTrue_23 hP hS
set_option maxHeartbeats 4000000 in
set_option maxRecDepth 100000 in
theorem c_X8_hear (l : Launch) {D : va_G} {a : Nat → Nat} {cA : Nat → ClassId} {A : Nat → Prop} {sa : Nat → Nat} (hDA : DA a A) {σ : PH} {d : PD} (hd1 : isHall d.1) (p1 : Int32) {u : Int32 × PH} (hf : f_X8_hear σ d p1 = some u) : CTi l yX8_hear cX8_hear 3 (some .int) 5 124 D a cA A sa [.ref (a 0), .int p1] σ d u.1 u.2 d := by
  refine zz_metI zpl_X8 hDA (Nat.le_of_ble_eq_true rfl) ?_
  intro p e R s m args below meth c Q ls hx hb hml C hRf hRl hQ hP hS hl
  have hl : lv_has ls 3 [(0, .ref (a 0)), (1, .int p1)] := hl
  unfold f_X8_hear at hf
  refine lv_aload_n hx hb dX8_hear_0 rfl (lv_at hl 0 rfl) ?_
  refine zg_X8_50 hx hb C hP (by decide) lay_0 rfl dX8_hear_1 ?_
  refine lv_iload_n hx hb dX8_hear_4 rfl (lv_at hl 1 rfl) ?_
  obtain ⟨u1, hzu1, hf⟩ := obd_some hf
  refine zz_callVi (rest := []) hx hb hml C hP hS (c_X2_allows l hDA (h := d.1) hd1 p1 hzu1) zw_X8_241 ⟨Nat.le_trans (Nat.le_of_ble_eq_true rfl) hRf, Nat.le_trans (Nat.le_of_ble_eq_true rfl) hRl⟩ (lth0 hd1) (lay_h0 hd1) rfl rfl hl.1 (Nat.le_of_ble_eq_true rfl) ⟨Nat.zero_le _, Nat.zero_le _⟩ rfl dX8_hear_5 (fun H locs hP hS => ?_)
  refine lv_if_ne (tgt := 18) hx hb dX8_hear_8 (by decide) (fun hb1 => ?_) (fun hb1 => ?_)
  · have hf := ifF hb1 hf
    refine lv_aload_n hx hb dX8_hear_18 rfl (lv_at hl 0 rfl) ?_
    refine zg_X8_50 hx hb C hP (by decide) lay_0 rfl dX8_hear_19 ?_
    refine lv_iload_n hx hb dX8_hear_22 rfl (lv_at hl 1 rfl) ?_
    obtain ⟨u3, hzu3, hf⟩ := obd_some hf
    refine zz_callVi (rest := []) hx hb hml C hP hS (c_X2_soundInTruth l hDA (h := d.1) hd1 p1 hzu3) zw_X8_327 ⟨Nat.le_trans (Nat.le_of_ble_eq_true rfl) hRf, Nat.le_trans (Nat.le_of_ble_eq_true rfl) hRl⟩ (lth0 hd1) (lay_h0 hd1) rfl rfl hl.1 (Nat.le_of_ble_eq_true rfl) ⟨Nat.zero_le _, Nat.zero_le _⟩ rfl dX8_hear_23 (fun H locs hP hS => ?_)
    refine lv_istore_n (lv' := [(2, .int u3.1), (0, .ref (a 0)), (1, .int p1)]) hx hb dX8_hear_26 rfl hl (by decide) rfl (fun ls hl => ?_)
    refine lv_aload_n hx hb dX8_hear_27 rfl (lv_at hl 1 rfl) ?_
    refine zg_X8_50 hx hb C hP (by decide) lay_0 rfl dX8_hear_28 ?_
    refine lv_iload_n hx hb dX8_hear_31 rfl (lv_at hl 2 rfl) ?_
    refine lv_iload_n hx hb dX8_hear_32 rfl (lv_at hl 0 rfl) ?_
    obtain ⟨u4, hzu4, hf⟩ := obd_some hf
    refine zz_callVi (rest := []) hx hb hml C hP hS (c_X2_isKnown l hDA (h := d.1) hd1 p1 u3.1 hzu4) zw_X8_216 ⟨Nat.le_trans (Nat.le_of_ble_eq_true rfl) hRf, Nat.le_trans (Nat.le_of_ble_eq_true rfl) hRl⟩ (lth0 hd1) (lay_h0 hd1) rfl rfl hl.1 (Nat.le_of_ble_eq_true rfl) ⟨Nat.zero_le _, Nat.zero_le _⟩ rfl dX8_hear_33 (fun H locs hP hS => ?_)
    have hJ56 : j_X8_hear_56 d p1 u3 = some u → ∀ (H : Heap) (locs : List Loc) (ls : Array Slot), lv_has ls 3 [(0, .ref (a 0)), (1, .int p1), (2, .int u3.1)] → va_P D vwCl (wl a cA u3.2 d) H → va_S A s.heap H locs → W p l e R s m args below meth c H locs 0 0 Q (F0 m 56 ls []) := by
      intro  hf H locs ls hl hP hS
      unfold j_X8_hear_56 at hf
      refine lv_aload_n hx hb dX8_hear_56 rfl (lv_at hl 0 rfl) ?_
      refine zg_X8_50 hx hb C hP (by decide) lay_0 rfl dX8_hear_57 ?_
      refine lv_iload_n hx hb dX8_hear_60 rfl (lv_at hl 1 rfl) ?_
      refine lv_iload_n hx hb dX8_hear_61 rfl (lv_at hl 2 rfl) ?_
      obtain ⟨u5, hzu5, hf⟩ := obd_some hf
      refine zz_callVv (rest := []) hx hb hml C hP hS (c_X2_learn l hDA (h := d.1) hd1 p1 u3.1 hzu5) zw_X8_220 ⟨Nat.le_trans (Nat.le_of_ble_eq_true rfl) hRf, Nat.le_trans (Nat.le_of_ble_eq_true rfl) hRl⟩ (lth0 hd1) (lay_h0 hd1) rfl rfl hl.1 (Nat.le_of_ble_eq_true rfl) ⟨Nat.zero_le _, Nat.zero_le _⟩ rfl dX8_hear_62 (fun H locs hP hS => ?_)
      refine lv_iload_n hx hb dX8_hear_65 rfl (lv_at hl 2 rfl) ?_
      have hf := Option.some.inj hf
      subst hf
      exact hQ _ _ _ _ dX8_hear_66 hP hS
    refine lv_if_ne (tgt := 56) hx hb dX8_hear_36 (by decide) (fun hb5 => ?_) (fun hb5 => ?_)
    · have hf := ifF hb5 hf
      exact hJ56  hf _ _ _ (lv_sub hl [1, 2, 0] rfl) hP hS
    · have hf := ifT hb5 hf
      refine lv_aload_n hx hb dX8_hear_39 rfl (lv_at hl 1 rfl) ?_
      refine zg_X8_50 hx hb C hP (by decide) lay_0 rfl dX8_hear_40 ?_
      obtain ⟨u7, hzu7⟩ : ∃ z, z = f_X2_hasRoom u3.2 d.1 := ⟨_, rfl⟩
      have hf := bnd_at u7 hzu7 hf
      refine zz_callVi (rest := []) hx hb hml C hP hS (c_X2_hasRoom l hDA (h := d.1) hd1 hzu7.symm) zw_X8_219 ⟨Nat.le_trans (Nat.le_of_ble_eq_true rfl) hRf, Nat.le_trans (Nat.le_of_ble_eq_true rfl) hRl⟩ (lth0 hd1) (lay_h0 hd1) rfl rfl hl.1 (Nat.le_of_ble_eq_true rfl) ⟨Nat.zero_le _, Nat.zero_le _⟩ rfl dX8_hear_43 (fun H locs hP hS => ?_)
      refine lv_if_ne (tgt := 56) hx hb dX8_hear_46 (by decide) (fun hb7 => ?_) (fun hb7 => ?_)
      · have hf := ifF hb7 hf
        exact hJ56  hf _ _ _ (lv_sub hl [1, 2, 0] rfl) hP hS
      · have hf := ifT hb7 hf
        refine lv_aload_n hx hb dX8_hear_49 rfl (lv_at hl 1 rfl) ?_
        refine lv_bipush (v := (-7)) hx hb dX8_hear_50 (by decide) ?_
        obtain ⟨u9, hzu9, hf⟩ := obd_some hf
        refine zz_callVi (rest := []) hx hb hml C hP hS (c_X8_refuse l hDA (-7) hzu9) zw_X8_73 ⟨Nat.le_trans (Nat.le_of_ble_eq_true rfl) hRf, Nat.le_trans (Nat.le_of_ble_eq_true rfl) hRl⟩ (by decide) lay_0 rfl rfl hl.1 (Nat.le_of_ble_eq_true rfl) ⟨Nat.zero_le _, Nat.zero_le _⟩ rfl dX8_hear_52 (fun H locs hP hS => ?_)
        have hf := Option.some.inj hf
        subst hf
        exact hQ _ _ _ _ dX8_hear_55 hP hS
  · have hf := ifT hb1 hf
    refine lv_aload_n hx hb dX8_hear_11 rfl (lv_at hl 0 rfl) ?_
    refine lv_bipush (v := (-6)) hx hb dX8_hear_12 (by decide) ?_
    obtain ⟨u10, hzu10, hf⟩ := obd_some hf
    refine zz_callVi (rest := []) hx hb hml C hP hS (c_X8_refuse l hDA (-6) hzu10) zw_X8_73 ⟨Nat.le_trans (Nat.le_of_ble_eq_true rfl) hRf, Nat.le_trans (Nat.le_of_ble_eq_true rfl) hRl⟩ (by decide) lay_0 rfl rfl hl.1 (Nat.le_of_ble_eq_true rfl) ⟨Nat.zero_le _, Nat.zero_le _⟩ rfl dX8_hear_14 (fun H locs hP hS => ?_)
    have hf := Option.some.inj hf
    subst hf
    exact hQ _ _ _ _ dX8_hear_17 hP hS
set_option maxHeartbeats 4000000 in
set_option maxRecDepth 100000 in
theorem c_X8_evenings (l : Launch) {D : va_G} {a : Nat → Nat} {cA : Nat → ClassId} {A : Nat → Prop} {sa : Nat → Nat} (hDA : DA a A) {σ : PH} {d : PD} (hd1 : isHall d.1) (p1 : Int32) {u : Int32 × PH} (hf : f_X8_evenings σ d p1 = some u) : CTi l yX8_evenings cX8_evenings 4 (some .int) 6 155 D a cA A sa [.ref (a 0), .int p1] σ d u.1 u.2 d := by
  refine zz_metI zpl_X8 hDA (Nat.le_of_ble_eq_true rfl) ?_
  intro p e R s m args below meth c Q ls hx hb hml C hRf hRl hQ hP hS hl
  have hl : lv_has ls 4 [(0, .ref (a 0)), (1, .int p1)] := hl
  unfold f_X8_evenings at hf
  refine lv_aload_n hx hb dX8_evenings_0 rfl (lv_at hl 0 rfl) ?_
  refine zg_X8_50 hx hb C hP (by decide) lay_0 rfl dX8_evenings_1 ?_
  refine zg_X8_109 hx hb C hP (lth0 hd1) (lay_h0 hd1) rfl dX8_evenings_4 ?_
  refine zg_X8_150 hx hb C hP (lth hd1 1 (by decide)) (lay_h1 hd1) rfl dX8_evenings_7 ?_
  refine lv_if_ne (tgt := 20) hx hb dX8_evenings_10 (by decide) (fun hb0 => ?_) (fun hb0 => ?_)
  · have hf := ifF hb0 hf
    refine lv_iload_n hx hb dX8_evenings_20 rfl (lv_at hl 1 rfl) ?_
    refine lv_iconst (v := 1) hx hb dX8_evenings_21 (by decide) ?_
    refine lv_icmp_lt (tgt := 31) hx hb dX8_evenings_22 (by decide) (fun hb1 => ?_) (fun hb1 => ?_)
    · have hf := ifT hb1 hf
      refine lv_aload_n hx hb dX8_evenings_31 rfl (lv_at hl 0 rfl) ?_
      refine lv_bipush (v := (-6)) hx hb dX8_evenings_32 (by decide) ?_
      obtain ⟨u3, hzu3, hf⟩ := obd_some hf
      refine zz_callVi (rest := []) hx hb hml C hP hS (c_X8_refuse l hDA (-6) hzu3) zw_X8_73 ⟨Nat.le_trans (Nat.le_of_ble_eq_true rfl) hRf, Nat.le_trans (Nat.le_of_ble_eq_true rfl) hRl⟩ (by decide) lay_0 rfl rfl hl.1 (Nat.le_of_ble_eq_true rfl) ⟨Nat.zero_le _, Nat.zero_le _⟩ rfl dX8_evenings_34 (fun H locs hP hS => ?_)
      have hf := Option.some.inj hf
      subst hf
      exact hQ _ _ _ _ dX8_evenings_37 hP hS
    · have hf := ifF hb1 hf
      refine lv_iload_n hx hb dX8_evenings_25 rfl (lv_at hl 1 rfl) ?_
      refine lv_bipush (v := 20) hx hb dX8_evenings_26 (by decide) ?_
      refine lv_icmp_le (tgt := 38) hx hb dX8_evenings_28 (by decide) (fun hb3 => ?_) (fun hb3 => ?_)
      · have hf := ifT hb3 hf
        refine lv_iconst (v := 0) hx hb dX8_evenings_38 (by decide) ?_
        refine lv_istore_n (lv' := [(2, .int 0), (0, .ref (a 0)), (1, .int p1)]) hx hb dX8_evenings_39 rfl hl (by decide) rfl (fun ls hl => ?_)
        refine lv_iconst (v := 0) hx hb dX8_evenings_40 (by decide) ?_
        refine lv_istore_n (lv' := [(3, .int 0), (2, .int 0), (0, .ref (a 0)), (1, .int p1)]) hx hb dX8_evenings_41 rfl hl (by decide) rfl (fun ls hl => ?_)
        refine loopN_ind (P := fun (q5 : Int32 × Int32 × PH) => ∀ (H : Heap) (locs : List Loc) (ls : Array Slot), lv_has ls 4 [(0, .ref (a 0)), (1, .int p1), (2, .int q5.1), (3, .int q5.2.1)] → va_P D vwCl (wl a cA q5.2.2 d) H → va_S A s.heap H locs → W p l e R s m args below meth c H locs 0 0 Q (F0 m 42 ls [])) ?_ _ _ hf _ _ _ (lv_sub hl [2, 3, 1, 0] rfl) hP hS
        intro k6 ihk6 q5 hf H locs ls hl hP hS
        unfold b_X8_evenings_42 at hf
        refine lv_iload_n hx hb dX8_evenings_42 rfl (lv_at hl 3 rfl) ?_
        refine lv_iload_n hx hb dX8_evenings_43 rfl (lv_at hl 1 rfl) ?_
        refine lv_icmp_ge (tgt := 63) hx hb dX8_evenings_44 (by decide) (fun hb6 => ?_) (fun hb6 => ?_)
        · have hf := ifT hb6 hf
          refine lv_iload_n hx hb dX8_evenings_63 rfl (lv_at hl 2 rfl) ?_
          have hf := Option.some.inj hf
          subst hf
          exact hQ _ _ _ _ dX8_evenings_64 hP hS
        · have hf := ifF hb6 hf
          refine lv_iload_n hx hb dX8_evenings_47 rfl (lv_at hl 2 rfl) ?_
          refine lv_aload_n hx hb dX8_evenings_48 rfl (lv_at hl 0 rfl) ?_
          refine zg_X8_50 hx hb C hP (by decide) lay_0 rfl dX8_evenings_49 ?_
          obtain ⟨u8, hzu8, hf⟩ := obd_some hf
          refine zz_callVi (rest := [.int q5.1]) hx hb hml C hP hS (c_X2_evening l hDA (h := d.1) hd1 hzu8) zw_X8_330 ⟨Nat.le_trans (Nat.le_of_ble_eq_true rfl) hRf, Nat.le_trans (Nat.le_of_ble_eq_true rfl) hRl⟩ (lth0 hd1) (lay_h0 hd1) rfl rfl hl.1 (Nat.le_of_ble_eq_true rfl) ⟨Nat.zero_le _, Nat.zero_le _⟩ rfl dX8_evenings_52 (fun H locs hP hS => ?_)
          refine lv_iadd hx hb dX8_evenings_55 ?_
          refine lv_topi (fun v9 ev9 => ?_)
          have hf := bnd_at v9 ev9 hf
          refine lv_istore_n (lv' := [(2, .int v9), (0, .ref (a 0)), (1, .int p1), (3, .int q5.2.1)]) hx hb dX8_evenings_56 rfl hl (by decide) rfl (fun ls hl => ?_)
          obtain ⟨v10, ev10⟩ : ∃ z : Int32, z = q5.2.1 + 1 := ⟨_, rfl⟩
          have hf := bnd_at v10 ev10 hf
          refine lv_iinc (v := v10) (lv' := [(3, .int v10), (2, .int v9), (0, .ref (a 0)), (1, .int p1)]) hx hb dX8_evenings_57 hl (k := 3) rfl (by rw [ev10]; rfl) (by decide) rfl (fun ls hl => ?_)
          refine lv_goto (tgt := 42) hx hb dX8_evenings_60 (by decide) ?_
          exact ihk6 _ hf _ _ _ (lv_sub hl [2, 3, 1, 0] rfl) hP hS
      · have hf := ifF hb3 hf
        refine lv_aload_n hx hb dX8_evenings_31 rfl (lv_at hl 0 rfl) ?_
        refine lv_bipush (v := (-6)) hx hb dX8_evenings_32 (by decide) ?_
        obtain ⟨u11, hzu11, hf⟩ := obd_some hf
        refine zz_callVi (rest := []) hx hb hml C hP hS (c_X8_refuse l hDA (-6) hzu11) zw_X8_73 ⟨Nat.le_trans (Nat.le_of_ble_eq_true rfl) hRf, Nat.le_trans (Nat.le_of_ble_eq_true rfl) hRl⟩ (by decide) lay_0 rfl rfl hl.1 (Nat.le_of_ble_eq_true rfl) ⟨Nat.zero_le _, Nat.zero_le _⟩ rfl dX8_evenings_34 (fun H locs hP hS => ?_)
        have hf := Option.some.inj hf
        subst hf
        exact hQ _ _ _ _ dX8_evenings_37 hP hS
  · have hf := ifT hb0 hf
    refine lv_aload_n hx hb dX8_evenings_13 rfl (lv_at hl 0 rfl) ?_
    refine lv_bipush (v := (-5)) hx hb dX8_evenings_14 (by decide) ?_
    obtain ⟨u12, hzu12, hf⟩ := obd_some hf
    refine zz_callVi (rest := []) hx hb hml C hP hS (c_X8_refuse l hDA (-5) hzu12) zw_X8_73 ⟨Nat.le_trans (Nat.le_of_ble_eq_true rfl) hRf, Nat.le_trans (Nat.le_of_ble_eq_true rfl) hRl⟩ (by decide) lay_0 rfl rfl hl.1 (Nat.le_of_ble_eq_true rfl) ⟨Nat.zero_le _, Nat.zero_le _⟩ rfl dX8_evenings_16 (fun H locs hP hS => ?_)
    have hf := Option.some.inj hf
    subst hf
    exact hQ _ _ _ _ dX8_evenings_19 hP hS
set_option maxHeartbeats 4000000 in
set_option maxRecDepth 100000 in
theorem c_X8_seed (l : Launch) {D : va_G} {a : Nat → Nat} {cA : Nat → ClassId} {A : Nat → Prop} {sa : Nat → Nat} (hDA : DA a A) {σ : PH} {d : PD} (hd1 : isHall d.1) (p1 : Int32) {u : Int32 × PH} (hf : f_X8_seed σ d p1 = u) : CTi l yX8_seed cX8_seed 3 (some .int) 0 0 D a cA A sa [.ref (a 0), .int p1] σ d u.1 u.2 d := by
  refine zz_metI zpl_X8 hDA (Nat.le_of_ble_eq_true rfl) ?_
  intro p e R s m args below meth c Q ls hx hb hml C hRf hRl hQ hP hS hl
  have hl : lv_has ls 3 [(0, .ref (a 0)), (1, .int p1)] := hl
  unfold f_X8_seed at hf
  refine lv_aload_n hx hb dX8_seed_0 rfl (lv_at hl 0 rfl) ?_
  refine zg_X8_50 hx hb C hP (by decide) lay_0 rfl dX8_seed_1 ?_
  refine zg_X8_333 hx hb C hP (lth0 hd1) (lay_h0 hd1) rfl dX8_seed_4 ?_
  refine lv_topi (fun v1 ev1 => ?_)
  have hf := bnd_at v1 ev1 hf
  refine lv_istore_n (lv' := [(2, .int v1), (0, .ref (a 0)), (1, .int p1)]) hx hb dX8_seed_7 rfl hl (by decide) rfl (fun ls hl => ?_)
  refine lv_aload_n hx hb dX8_seed_8 rfl (lv_at hl 1 rfl) ?_
  refine zg_X8_50 hx hb C hP (by decide) lay_0 rfl dX8_seed_9 ?_
  refine lv_iload_n hx hb dX8_seed_12 rfl (lv_at hl 2 rfl) ?_
  refine zp_X8_333 hx hb C hP hS (lth0 hd1) (lay_h0 hd1) rfl dX8_seed_13 (fun σ2 eσ2 H locs hP hS => ?_)
  have hf := bnd_at σ2 eσ2 hf
  refine lv_iload_n hx hb dX8_seed_16 rfl (lv_at hl 0 rfl) ?_
  subst hf
  exact hQ _ _ _ _ dX8_seed_17 hP hS
set_option maxHeartbeats 4000000 in
set_option maxRecDepth 100000 in
theorem c_X8_trace (l : Launch) {D : va_G} {a : Nat → Nat} {cA : Nat → ClassId} {A : Nat → Prop} {sa : Nat → Nat} (hDA : DA a A) {σ : PH} {d : PD} (p1 : Int32) {u : Int32} (hf : f_X8_trace σ p1 = some u) : CTi l yX8_trace cX8_trace 2 (some .int) 1 21 D a cA A sa [.ref (a 0), .int p1] σ d u σ d := by
  refine zz_metI zpl_X8 hDA (Nat.le_of_ble_eq_true rfl) ?_
  intro p e R s m args below meth c Q ls hx hb hml C hRf hRl hQ hP hS hl
  have hl : lv_has ls 2 [(0, .ref (a 0)), (1, .int p1)] := hl
  unfold f_X8_trace at hf
  refine lv_aload_n hx hb dX8_trace_0 rfl (lv_at hl 0 rfl) ?_
  refine zg_X8_22 hx hb C hP (by decide) lay_0 rfl dX8_trace_1 ?_
  refine lv_iload_n hx hb dX8_trace_4 rfl (lv_at hl 1 rfl) ?_
  obtain ⟨u1, hzu1, hf⟩ := obd_some hf
  refine zz_callVi (rest := []) hx hb hml C hP hS (c_X6_traced l hDA p1 hzu1) zw_X8_343 ⟨Nat.le_trans (Nat.le_of_ble_eq_true rfl) hRf, Nat.le_trans (Nat.le_of_ble_eq_true rfl) hRl⟩ (by decide) lay_3 rfl rfl hl.1 (Nat.le_of_ble_eq_true rfl) ⟨Nat.zero_le _, Nat.zero_le _⟩ rfl dX8_trace_5 (fun H locs hP hS => ?_)
  have hf := Option.some.inj hf
  subst hf
  exact hQ _ _ _ _ dX8_trace_8 hP hS
set_option maxHeartbeats 4000000 in
set_option maxRecDepth 100000 in
theorem c_X8_image (l : Launch) {D : va_G} {a : Nat → Nat} {cA : Nat → ClassId} {A : Nat → Prop} {sa : Nat → Nat} (hDA : DA a A) {σ : PH} {d : PD} (hd1 : isHall d.1)  {u : Int32 × PH} (hf : f_X8_image σ d = u) : CTi l yX8_image cX8_image 1 (some .int) 3 68 D a cA A sa [.ref (a 0)] σ d u.1 u.2 d := by
  refine zz_metI zpl_X8 hDA (Nat.le_of_ble_eq_true rfl) ?_
  intro p e R s m args below meth c Q ls hx hb hml C hRf hRl hQ hP hS hl
  have hl : lv_has ls 1 [(0, .ref (a 0))] := hl
  unfold f_X8_image at hf
  refine lv_aload_n hx hb dX8_image_0 rfl (lv_at hl 0 rfl) ?_
  refine zg_X8_57 hx hb C hP (by decide) lay_0 rfl dX8_image_1 ?_
  refine lv_aload_n hx hb dX8_image_4 rfl (lv_at hl 0 rfl) ?_
  refine zg_X8_50 hx hb C hP (by decide) lay_0 rfl dX8_image_5 ?_
  obtain ⟨u1, hzu1⟩ : ∃ z, z = f_X2_copyOf σ 64 d.1 := ⟨_, rfl⟩
  have hf := bnd_at u1 hzu1 hf
  refine zz_callVv (rest := []) hx hb hml C hP hS (c_X2_copyOf l hDA (h := 64) (Or.inr (Or.inr rfl) : isHall 64) (h2 := d.1) hd1 hzu1.symm) zw_X8_173 ⟨Nat.le_trans (Nat.le_of_ble_eq_true rfl) hRf, Nat.le_trans (Nat.le_of_ble_eq_true rfl) hRl⟩ (lth0 (Or.inr (Or.inr rfl) : isHall 64)) (lay_h0 (Or.inr (Or.inr rfl) : isHall 64)) rfl rfl hl.1 (Nat.le_of_ble_eq_true rfl) ⟨Nat.zero_le _, Nat.zero_le _⟩ rfl dX8_image_8 (fun H locs hP hS => ?_)
  refine lv_aload_n hx hb dX8_image_11 rfl (lv_at hl 0 rfl) ?_
  refine lv_iconst (v := 1) hx hb dX8_image_12 (by decide) ?_
  refine zp_X8_60 hx hb C hP hS (by decide) lay_0 rfl rfl rfl dX8_image_13 (fun σ2 eσ2 H locs hP hS => ?_)
  have hf := bnd_at σ2 eσ2 hf
  refine lv_aload_n hx hb dX8_image_16 rfl (lv_at hl 0 rfl) ?_
  refine zg_X8_50 hx hb C hP (by decide) lay_0 rfl dX8_image_17 ?_
  refine zg_X8_109 hx hb C hP (lth0 hd1) (lay_h0 hd1) rfl dX8_image_20 ?_
  refine zg_X8_150 hx hb C hP (lth hd1 1 (by decide)) (lay_h1 hd1) rfl dX8_image_23 ?_
  subst hf
  exact hQ _ _ _ _ dX8_image_26 hP hS
set_option maxHeartbeats 4000000 in
set_option maxRecDepth 100000 in
theorem c_X8_restore (l : Launch) {D : va_G} {a : Nat → Nat} {cA : Nat → ClassId} {A : Nat → Prop} {sa : Nat → Nat} (hDA : DA a A) {σ : PH} {d : PD} (hd1 : isHall d.1)  {u : Int32 × PH} (hf : f_X8_restore σ d = some u) : CTi l yX8_restore cX8_restore 2 (some .int) 3 68 D a cA A sa [.ref (a 0)] σ d u.1 u.2 d := by
  refine zz_metI zpl_X8 hDA (Nat.le_of_ble_eq_true rfl) ?_
  intro p e R s m args below meth c Q ls hx hb hml C hRf hRl hQ hP hS hl
  have hl : lv_has ls 2 [(0, .ref (a 0))] := hl
  unfold f_X8_restore at hf
  refine lv_aload_n hx hb dX8_restore_0 rfl (lv_at hl 0 rfl) ?_
  refine zg_X8_60 hx hb C hP (by decide) lay_0 rfl dX8_restore_1 ?_
  refine lv_if_ne (tgt := 14) hx hb dX8_restore_4 (by decide) (fun hb0 => ?_) (fun hb0 => ?_)
  · have hf := ifF hb0 hf
    refine lv_aload_n hx hb dX8_restore_14 rfl (lv_at hl 0 rfl) ?_
    refine zg_X8_50 hx hb C hP (by decide) lay_0 rfl dX8_restore_15 ?_
    refine lv_aload_n hx hb dX8_restore_18 rfl (lv_at hl 0 rfl) ?_
    refine zg_X8_57 hx hb C hP (by decide) lay_0 rfl dX8_restore_19 ?_
    obtain ⟨u2, hzu2⟩ : ∃ z, z = f_X2_copyOf σ d.1 64 := ⟨_, rfl⟩
    have hf := bnd_at u2 hzu2 hf
    refine zz_callVv (rest := []) hx hb hml C hP hS (c_X2_copyOf l hDA (h := d.1) hd1 (h2 := 64) (Or.inr (Or.inr rfl) : isHall 64) hzu2.symm) zw_X8_173 ⟨Nat.le_trans (Nat.le_of_ble_eq_true rfl) hRf, Nat.le_trans (Nat.le_of_ble_eq_true rfl) hRl⟩ (lth0 hd1) (lay_h0 hd1) rfl rfl hl.1 (Nat.le_of_ble_eq_true rfl) ⟨Nat.zero_le _, Nat.zero_le _⟩ rfl dX8_restore_22 (fun H locs hP hS => ?_)
    refine lv_iconst (v := 0) hx hb dX8_restore_25 (by decide) ?_
    refine lv_istore_n (lv' := [(1, .int 0), (0, .ref (a 0))]) hx hb dX8_restore_26 rfl hl (by decide) rfl (fun ls hl => ?_)
    have hJ83 : ∀ (σ3 : PH), j_X8_restore_83 d σ3 = some u → ∀ (H : Heap) (locs : List Loc) (ls : Array Slot), lv_has ls 2 [(0, .ref (a 0))] → va_P D vwCl (wl a cA σ3 d) H → va_S A s.heap H locs → W p l e R s m args below meth c H locs 0 0 Q (F0 m 83 ls []) := by
      intro σ3 hf H locs ls hl hP hS
      unfold j_X8_restore_83 at hf
      refine lv_aload_n hx hb dX8_restore_83 rfl (lv_at hl 0 rfl) ?_
      refine zg_X8_50 hx hb C hP (by decide) lay_0 rfl dX8_restore_84 ?_
      refine zg_X8_109 hx hb C hP (lth0 hd1) (lay_h0 hd1) rfl dX8_restore_87 ?_
      refine zg_X8_150 hx hb C hP (lth hd1 1 (by decide)) (lay_h1 hd1) rfl dX8_restore_90 ?_
      have hf := Option.some.inj hf
      subst hf
      exact hQ _ _ _ _ dX8_restore_93 hP hS
    refine loopN_ind (P := fun (q4 : Int32 × PH) => ∀ (H : Heap) (locs : List Loc) (ls : Array Slot), lv_has ls 2 [(0, .ref (a 0)), (1, .int q4.1)] → va_P D vwCl (wl a cA q4.2 d) H → va_S A s.heap H locs → W p l e R s m args below meth c H locs 0 0 Q (F0 m 27 ls [])) ?_ _ _ hf _ _ _ (lv_sub hl [1, 0] rfl) hP hS
    intro k5 ihk5 q4 hf H locs ls hl hP hS
    unfold b_X8_restore_27 at hf
    refine lv_iload_n hx hb dX8_restore_27 rfl (lv_at hl 1 rfl) ?_
    refine lv_bipush (v := 8) hx hb dX8_restore_28 (by decide) ?_
    refine lv_icmp_ge (tgt := 83) hx hb dX8_restore_30 (by decide) (fun hb5 => ?_) (fun hb5 => ?_)
    · have hf := ifT hb5 hf
      exact hJ83 _ hf _ _ _ (lv_sub hl [0] rfl) hP hS
    · have hf := ifF hb5 hf
      refine lv_aload_n hx hb dX8_restore_33 rfl (lv_at hl 0 rfl) ?_
      refine zg_X8_11 hx hb C hP (by decide) lay_0 rfl dX8_restore_34 ?_
      refine lv_iload_n hx hb dX8_restore_37 rfl (lv_at hl 1 rfl) ?_
      obtain ⟨hc6, hf⟩ := chk_some hf
      refine zz_shelf hx hb C hP (inb_vp hc6) dX8_restore_38 (fun r8 er8 hr8 => ?_)
      have hf := bnd_at r8 er8 hf
      obtain ⟨u9, hzu9⟩ : ∃ z, z = f_X4_holdsRow q4.2 r8 := ⟨_, rfl⟩
      have hf := bnd_at u9 hzu9 hf
      refine zz_callVi (rest := []) hx hb hml C hP hS (c_X4_holdsRow l hDA (sh0 := r8) hr8 hzu9.symm) zw_X8_124 ⟨Nat.le_trans (Nat.le_of_ble_eq_true rfl) hRf, Nat.le_trans (Nat.le_of_ble_eq_true rfl) hRl⟩ (lts0 hr8) (lay_s0 hr8) rfl rfl hl.1 (Nat.le_of_ble_eq_true rfl) ⟨Nat.zero_le _, Nat.zero_le _⟩ rfl dX8_restore_39 (fun H locs hP hS => ?_)
      refine lv_if_ne (tgt := 77) hx hb dX8_restore_42 (by decide) (fun hb9 => ?_) (fun hb9 => ?_)
      · have hf := ifF hb9 hf
        obtain ⟨v11, ev11⟩ : ∃ z : Int32, z = q4.1 + 1 := ⟨_, rfl⟩
        have hf := bnd_at v11 ev11 hf
        refine lv_iinc (v := v11) (lv' := [(1, .int v11), (0, .ref (a 0))]) hx hb dX8_restore_77 hl (k := 1) rfl (by rw [ev11]; rfl) (by decide) rfl (fun ls hl => ?_)
        refine lv_goto (tgt := 27) hx hb dX8_restore_80 (by decide) ?_
        exact ihk5 _ hf _ _ _ (lv_sub hl [1, 0] rfl) hP hS
      · have hf := ifT hb9 hf
        refine lv_aload_n hx hb dX8_restore_45 rfl (lv_at hl 0 rfl) ?_
        refine zg_X8_50 hx hb C hP (by decide) lay_0 rfl dX8_restore_46 ?_
        refine zg_X8_109 hx hb C hP (lth0 hd1) (lay_h0 hd1) rfl dX8_restore_49 ?_
        refine lv_aload_n hx hb dX8_restore_52 rfl (lv_at hl 0 rfl) ?_
        refine zg_X8_11 hx hb C hP (by decide) lay_0 rfl dX8_restore_53 ?_
        refine lv_iload_n hx hb dX8_restore_56 rfl (lv_at hl 1 rfl) ?_
        obtain ⟨hc11, hf⟩ := chk_some hf
        refine zz_shelf hx hb C hP (inb_vp hc11) dX8_restore_57 (fun r13 er13 hr13 => ?_)
        have hf := bnd_at r13 er13 hf
        refine zg_X8_118 hx hb C hP (lts0 hr13) (lay_s0 hr13) rfl dX8_restore_58 ?_
        obtain ⟨u14, hzu14⟩ : ∃ z, z = f_X0_has q4.2 d.1 (gI q4.2 r13 0) := ⟨_, rfl⟩
        have hf := bnd_at u14 hzu14 hf
        refine zz_callVi (rest := []) hx hb hml C hP hS (c_X0_has l hDA (h := d.1) hd1 (gI q4.2 r13 0) hzu14.symm) zw_X8_113 ⟨Nat.le_trans (Nat.le_of_ble_eq_true rfl) hRf, Nat.le_trans (Nat.le_of_ble_eq_true rfl) hRl⟩ (lth hd1 1 (by decide)) (lay_h1 hd1) rfl rfl hl.1 (Nat.le_of_ble_eq_true rfl) ⟨Nat.zero_le _, Nat.zero_le _⟩ rfl dX8_restore_61 (fun H locs hP hS => ?_)
        refine lv_if_ne (tgt := 77) hx hb dX8_restore_64 (by decide) (fun hb14 => ?_) (fun hb14 => ?_)
        · have hf := ifF hb14 hf
          obtain ⟨v16, ev16⟩ : ∃ z : Int32, z = q4.1 + 1 := ⟨_, rfl⟩
          have hf := bnd_at v16 ev16 hf
          refine lv_iinc (v := v16) (lv' := [(1, .int v16), (0, .ref (a 0))]) hx hb dX8_restore_77 hl (k := 1) rfl (by rw [ev16]; rfl) (by decide) rfl (fun ls hl => ?_)
          refine lv_goto (tgt := 27) hx hb dX8_restore_80 (by decide) ?_
          exact ihk5 _ hf _ _ _ (lv_sub hl [1, 0] rfl) hP hS
        · have hf := ifT hb14 hf
          refine lv_aload_n hx hb dX8_restore_67 rfl (lv_at hl 0 rfl) ?_
          refine zg_X8_11 hx hb C hP (by decide) lay_0 rfl dX8_restore_68 ?_
          refine lv_iload_n hx hb dX8_restore_71 rfl (lv_at hl 1 rfl) ?_
          obtain ⟨hc16, hf⟩ := chk_some hf
          refine zz_shelf hx hb C hP (inb_vp hc16) dX8_restore_72 (fun r18 er18 hr18 => ?_)
          have hf := bnd_at r18 er18 hf
          refine lv_iconst (v := (-1)) hx hb dX8_restore_73 (by decide) ?_
          refine zp_X8_118 hx hb C hP hS (lts0 hr18) (lay_s0 hr18) rfl dX8_restore_74 (fun σ19 eσ19 H locs hP hS => ?_)
          have hf := bnd_at σ19 eσ19 hf
          obtain ⟨v20, ev20⟩ : ∃ z : Int32, z = q4.1 + 1 := ⟨_, rfl⟩
          have hf := bnd_at v20 ev20 hf
          refine lv_iinc (v := v20) (lv' := [(1, .int v20), (0, .ref (a 0))]) hx hb dX8_restore_77 hl (k := 1) rfl (by rw [ev20]; rfl) (by decide) rfl (fun ls hl => ?_)
          refine lv_goto (tgt := 27) hx hb dX8_restore_80 (by decide) ?_
          exact ihk5 _ hf _ _ _ (lv_sub hl [1, 0] rfl) hP hS
  · have hf := ifT hb0 hf
    refine lv_aload_n hx hb dX8_restore_7 rfl (lv_at hl 0 rfl) ?_
    refine lv_bipush (v := (-6)) hx hb dX8_restore_8 (by decide) ?_
    obtain ⟨u21, hzu21, hf⟩ := obd_some hf
    refine zz_callVi (rest := []) hx hb hml C hP hS (c_X8_refuse l hDA (-6) hzu21) zw_X8_73 ⟨Nat.le_trans (Nat.le_of_ble_eq_true rfl) hRf, Nat.le_trans (Nat.le_of_ble_eq_true rfl) hRl⟩ (by decide) lay_0 rfl rfl hl.1 (Nat.le_of_ble_eq_true rfl) ⟨Nat.zero_le _, Nat.zero_le _⟩ rfl dX8_restore_10 (fun H locs hP hS => ?_)
    have hf := Option.some.inj hf
    subst hf
    exact hQ _ _ _ _ dX8_restore_13 hP hS
