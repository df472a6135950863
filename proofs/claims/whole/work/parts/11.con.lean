set_option maxHeartbeats 4000000 in
set_option maxRecDepth 100000 in
theorem c_X0_isKind (l : Launch) {D : va_G} {a : Nat → Nat} {cA : Nat → ClassId} {A : Nat → Prop} {sa : Nat → Nat} (hDA : DA a A) {σ : PH} {d : PD} (p1 : Int32) {u : Int32} (hf : f_X0_isKind p1 = u) : CTi l yX0_isKind cX0_isKind 1 (some .boolean) 0 0 D a cA A sa [.int p1] σ d u σ d := by
  refine zz_metZ zpl_X0 hDA (Nat.le_of_ble_eq_true rfl) ?_
  intro p e R s m args below meth c Q ls hx hb hml C hRf hRl hQ hP hS hl
  have hl : lv_has ls 1 [(0, .int p1)] := hl
  unfold f_X0_isKind at hf
  refine lv_iload_n hx hb dX0_isKind_0 rfl (lv_at hl 0 rfl) ?_
  refine lv_if_lt (tgt := 14) hx hb dX0_isKind_1 (by decide) (fun hb0 => ?_) (fun hb0 => ?_)
  · have hf := ifT hb0 hf
    refine lv_iconst (v := 0) hx hb dX0_isKind_14 (by decide) ?_
    subst hf
    exact hQ _ _ _ _ dX0_isKind_15 (show narrow .boolean (.int 0) = .int 0 from rfl) hP hS
  · have hf := ifF hb0 hf
    refine lv_iload_n hx hb dX0_isKind_4 rfl (lv_at hl 0 rfl) ?_
    refine lv_bipush (v := 6) hx hb dX0_isKind_5 (by decide) ?_
    refine lv_icmp_gt (tgt := 14) hx hb dX0_isKind_7 (by decide) (fun hb1 => ?_) (fun hb1 => ?_)
    · have hf := ifT hb1 hf
      refine lv_iconst (v := 0) hx hb dX0_isKind_14 (by decide) ?_
      subst hf
      exact hQ _ _ _ _ dX0_isKind_15 (show narrow .boolean (.int 0) = .int 0 from rfl) hP hS
    · have hf := ifF hb1 hf
      refine lv_iconst (v := 1) hx hb dX0_isKind_10 (by decide) ?_
      refine lv_goto (tgt := 15) hx hb dX0_isKind_11 (by decide) ?_
      subst hf
      exact hQ _ _ _ _ dX0_isKind_15 (show narrow .boolean (.int 1) = .int 1 from rfl) hP hS
set_option maxHeartbeats 4000000 in
set_option maxRecDepth 100000 in
theorem c_X0_isA (l : Launch) {D : va_G} {a : Nat → Nat} {cA : Nat → ClassId} {A : Nat → Prop} {sa : Nat → Nat} (hDA : DA a A) {σ : PH} {d : PD} (p1 : Int32) {u : Int32} (hf : f_X0_isA p1 = u) : CTi l yX0_isA cX0_isA 1 (some .boolean) 0 0 D a cA A sa [.int p1] σ d u σ d := by
  refine zz_metZ zpl_X0 hDA (Nat.le_of_ble_eq_true rfl) ?_
  intro p e R s m args below meth c Q ls hx hb hml C hRf hRl hQ hP hS hl
  have hl : lv_has ls 1 [(0, .int p1)] := hl
  unfold f_X0_isA at hf
  refine lv_iload_n hx hb dX0_isA_0 rfl (lv_at hl 0 rfl) ?_
  refine lv_if_lt (tgt := 14) hx hb dX0_isA_1 (by decide) (fun hb0 => ?_) (fun hb0 => ?_)
  · have hf := ifT hb0 hf
    refine lv_iconst (v := 0) hx hb dX0_isA_14 (by decide) ?_
    subst hf
    exact hQ _ _ _ _ dX0_isA_15 (show narrow .boolean (.int 0) = .int 0 from rfl) hP hS
  · have hf := ifF hb0 hf
    refine lv_iload_n hx hb dX0_isA_4 rfl (lv_at hl 0 rfl) ?_
    refine lv_bipush (v := 9) hx hb dX0_isA_5 (by decide) ?_
    refine lv_icmp_gt (tgt := 14) hx hb dX0_isA_7 (by decide) (fun hb1 => ?_) (fun hb1 => ?_)
    · have hf := ifT hb1 hf
      refine lv_iconst (v := 0) hx hb dX0_isA_14 (by decide) ?_
      subst hf
      exact hQ _ _ _ _ dX0_isA_15 (show narrow .boolean (.int 0) = .int 0 from rfl) hP hS
    · have hf := ifF hb1 hf
      refine lv_iconst (v := 1) hx hb dX0_isA_10 (by decide) ?_
      refine lv_goto (tgt := 15) hx hb dX0_isA_11 (by decide) ?_
      subst hf
      exact hQ _ _ _ _ dX0_isA_15 (show narrow .boolean (.int 1) = .int 1 from rfl) hP hS
set_option maxHeartbeats 4000000 in
set_option maxRecDepth 100000 in
theorem c_X0_isOdds (l : Launch) {D : va_G} {a : Nat → Nat} {cA : Nat → ClassId} {A : Nat → Prop} {sa : Nat → Nat} (hDA : DA a A) {σ : PH} {d : PD} (p1 : Int32) {u : Int32} (hf : f_X0_isOdds p1 = u) : CTi l yX0_isOdds cX0_isOdds 1 (some .boolean) 0 0 D a cA A sa [.int p1] σ d u σ d := by
  refine zz_metZ zpl_X0 hDA (Nat.le_of_ble_eq_true rfl) ?_
  intro p e R s m args below meth c Q ls hx hb hml C hRf hRl hQ hP hS hl
  have hl : lv_has ls 1 [(0, .int p1)] := hl
  unfold f_X0_isOdds at hf
  refine lv_iload_n hx hb dX0_isOdds_0 rfl (lv_at hl 0 rfl) ?_
  refine lv_iconst (v := 1) hx hb dX0_isOdds_1 (by decide) ?_
  refine lv_icmp_lt (tgt := 15) hx hb dX0_isOdds_2 (by decide) (fun hb0 => ?_) (fun hb0 => ?_)
  · have hf := ifT hb0 hf
    refine lv_iconst (v := 0) hx hb dX0_isOdds_15 (by decide) ?_
    subst hf
    exact hQ _ _ _ _ dX0_isOdds_16 (show narrow .boolean (.int 0) = .int 0 from rfl) hP hS
  · have hf := ifF hb0 hf
    refine lv_iload_n hx hb dX0_isOdds_5 rfl (lv_at hl 0 rfl) ?_
    refine lv_bipush (v := 9) hx hb dX0_isOdds_6 (by decide) ?_
    refine lv_icmp_gt (tgt := 15) hx hb dX0_isOdds_8 (by decide) (fun hb1 => ?_) (fun hb1 => ?_)
    · have hf := ifT hb1 hf
      refine lv_iconst (v := 0) hx hb dX0_isOdds_15 (by decide) ?_
      subst hf
      exact hQ _ _ _ _ dX0_isOdds_16 (show narrow .boolean (.int 0) = .int 0 from rfl) hP hS
    · have hf := ifF hb1 hf
      refine lv_iconst (v := 1) hx hb dX0_isOdds_11 (by decide) ?_
      refine lv_goto (tgt := 16) hx hb dX0_isOdds_12 (by decide) ?_
      subst hf
      exact hQ _ _ _ _ dX0_isOdds_16 (show narrow .boolean (.int 1) = .int 1 from rfl) hP hS
set_option maxHeartbeats 4000000 in
set_option maxRecDepth 100000 in
theorem c_X0_isUnder (l : Launch) {D : va_G} {a : Nat → Nat} {cA : Nat → ClassId} {A : Nat → Prop} {sa : Nat → Nat} (hDA : DA a A) {σ : PH} {d : PD} (p1 : Int32) (p2 : Int32) {u : Int32} (hf : f_X0_isUnder p1 p2 = some u) : CTi l yX0_isUnder cX0_isUnder 4 (some .boolean) 1 20 D a cA A sa [.int p1, .int p2] σ d u σ d := by
  refine zz_metZ zpl_X0 hDA (Nat.le_of_ble_eq_true rfl) ?_
  intro p e R s m args below meth c Q ls hx hb hml C hRf hRl hQ hP hS hl
  have hl : lv_has ls 4 [(0, .int p1), (1, .int p2)] := hl
  unfold f_X0_isUnder at hf
  refine lv_iload_n hx hb dX0_isUnder_0 rfl (lv_at hl 0 rfl) ?_
  refine lv_istore_n (lv' := [(2, .int p1), (0, .int p1), (1, .int p2)]) hx hb dX0_isUnder_1 rfl hl (by decide) rfl (fun ls hl => ?_)
  refine lv_iconst (v := 0) hx hb dX0_isUnder_2 (by decide) ?_
  refine lv_istore_n (lv' := [(3, .int 0), (2, .int p1), (0, .int p1), (1, .int p2)]) hx hb dX0_isUnder_3 rfl hl (by decide) rfl (fun ls hl => ?_)
  refine loopN_ind (P := fun (q1 : Int32 × Int32) => ∀ (H : Heap) (locs : List Loc) (ls : Array Slot), lv_has ls 4 [(1, .int p2), (2, .int q1.1), (3, .int q1.2)] → va_P D vwCl (wl a cA σ d) H → va_S A s.heap H locs → W p l e R s m args below meth c H locs 0 0 Q (F0 m 4 ls [])) ?_ _ _ hf _ _ _ (lv_sub hl [3, 1, 0] rfl) hP hS
  intro k2 ihk2 q1 hf H locs ls hl hP hS
  unfold b_X0_isUnder_4 at hf
  refine lv_iload_n hx hb dX0_isUnder_4 rfl (lv_at hl 2 rfl) ?_
  refine zz_sget hx hb C hS C.2.2.2.1.1 kf_X0_31 dX0_isUnder_5 ?_
  refine zz_slen (v := 7) hx hb hS C.2.2.2.1.1 (by decide) dX0_isUnder_8 ?_
  refine lv_icmp_ge (tgt := 38) hx hb dX0_isUnder_9 (by decide) (fun hb2 => ?_) (fun hb2 => ?_)
  · have hf := ifT hb2 hf
    refine lv_iconst (v := 0) hx hb dX0_isUnder_38 (by decide) ?_
    have hf := Option.some.inj hf
    subst hf
    exact hQ _ _ _ _ dX0_isUnder_39 (show narrow .boolean (.int 0) = .int 0 from rfl) hP hS
  · have hf := ifF hb2 hf
    refine lv_iload_n hx hb dX0_isUnder_12 rfl (lv_at hl 1 rfl) ?_
    obtain ⟨u4, hzu4⟩ : ∃ z, z = f_X0_isKind q1.1 := ⟨_, rfl⟩
    have hf := bnd_at u4 hzu4 hf
    refine zz_callSi (rest := []) hx hb hml C hP hS (c_X0_isKind l hDA q1.1 hzu4.symm) zw_X0_34 ⟨Nat.le_trans (Nat.le_of_ble_eq_true rfl) hRf, Nat.le_trans (Nat.le_of_ble_eq_true rfl) hRl⟩  rfl hl.1 (Nat.le_of_ble_eq_true rfl) ⟨Nat.zero_le _, Nat.zero_le _⟩ rfl dX0_isUnder_13 (fun H locs hP hS => ?_)
    refine lv_if_eq (tgt := 38) hx hb dX0_isUnder_16 (by decide) (fun hb4 => ?_) (fun hb4 => ?_)
    · have hf := ifT hb4 hf
      refine lv_iconst (v := 0) hx hb dX0_isUnder_38 (by decide) ?_
      have hf := Option.some.inj hf
      subst hf
      exact hQ _ _ _ _ dX0_isUnder_39 (show narrow .boolean (.int 0) = .int 0 from rfl) hP hS
    · have hf := ifF hb4 hf
      refine lv_iload_n hx hb dX0_isUnder_19 rfl (lv_at hl 1 rfl) ?_
      refine lv_iload_n hx hb dX0_isUnder_20 rfl (lv_at hl 0 rfl) ?_
      refine lv_icmp_ne (tgt := 26) hx hb dX0_isUnder_21 (by decide) (fun hb5 => ?_) (fun hb5 => ?_)
      · have hf := ifF hb5 hf
        refine zz_sget hx hb C hS C.2.2.2.1.1 kf_X0_31 dX0_isUnder_26 ?_
        refine lv_iload_n hx hb dX0_isUnder_29 rfl (lv_at hl 1 rfl) ?_
        obtain ⟨hc6, hf⟩ := chk_some hf
        refine zz_sald hx hb hS C.2.2.2.1.1 (inb_vp hc6) dX0_isUnder_30 ?_
        refine lv_topi (fun v8 ev8 => ?_)
        have hf := bnd_at v8 ev8 hf
        refine lv_istore_n (lv' := [(2, .int v8), (1, .int p2), (3, .int q1.2)]) hx hb dX0_isUnder_31 rfl hl (by decide) rfl (fun ls hl => ?_)
        obtain ⟨v9, ev9⟩ : ∃ z : Int32, z = q1.2 + 1 := ⟨_, rfl⟩
        have hf := bnd_at v9 ev9 hf
        refine lv_iinc (v := v9) (lv' := [(3, .int v9), (2, .int v8), (1, .int p2)]) hx hb dX0_isUnder_32 hl (k := 2) rfl (by rw [ev9]; rfl) (by decide) rfl (fun ls hl => ?_)
        refine lv_goto (tgt := 4) hx hb dX0_isUnder_35 (by decide) ?_
        exact ihk2 _ hf _ _ _ (lv_sub hl [2, 1, 0] rfl) hP hS
      · have hf := ifT hb5 hf
        refine lv_iconst (v := 1) hx hb dX0_isUnder_24 (by decide) ?_
        have hf := Option.some.inj hf
        subst hf
        exact hQ _ _ _ _ dX0_isUnder_25 (show narrow .boolean (.int 1) = .int 1 from rfl) hP hS
set_option maxHeartbeats 4000000 in
set_option maxRecDepth 100000 in
theorem c_X0_copyOf (l : Launch) {D : va_G} {a : Nat → Nat} {cA : Nat → ClassId} {A : Nat → Prop} {sa : Nat → Nat} (hDA : DA a A) {σ : PH} {d : PD} {h : Nat} (hh : isHall h) {h2 : Nat} (hh2 : isHall h2) {u : PH} (hf : f_X0_copyOf σ h h2 = u) : CTv l yX0_copyOf cX0_copyOf 2 none 1 26 D a cA A sa [.ref (a (h + 1)), .ref (a (h2 + 1))] σ d u d := by
  refine zz_metV zpl_X0 hDA (Nat.le_of_ble_eq_true rfl) ?_
  intro p e R s m args below meth c Q ls hx hb hml C hRf hRl hQ hP hS hl
  have hl : lv_has ls 2 [(0, .ref (a (h + 1))), (1, .ref (a (h2 + 1)))] := hl
  unfold f_X0_copyOf at hf
  refine lv_aload_n hx hb dX0_copyOf_0 rfl (lv_at hl 1 rfl) ?_
  refine zg_X0_11 hx hb C hP (lth hh2 1 (by decide)) (lay_h1 hh2) rfl dX0_copyOf_1 ?_
  refine lv_iconst (v := 0) hx hb dX0_copyOf_4 (by decide) ?_
  refine lv_aload_n hx hb dX0_copyOf_5 rfl (lv_at hl 0 rfl) ?_
  refine zg_X0_11 hx hb C hP (lth hh 1 (by decide)) (lay_h1 hh) rfl dX0_copyOf_6 ?_
  refine lv_iconst (v := 0) hx hb dX0_copyOf_9 (by decide) ?_
  refine lv_bipush (v := 8) hx hb dX0_copyOf_10 (by decide) ?_
  refine zz_cpyI hx hb (hml.trans hl.1.symm) C hP hS (lth hh2 2 (by decide)) (lay_h2 hh2) (lth hh 2 (by decide)) (lay_h2 hh) (by decide) (by decide) (by decide) (by decide) (by decide) km_X0_38 kv_arraycopyName kt_arraycopyName kn_J10 (Nat.le_trans (by decide) hRf) (Nat.le_trans (by decide +kernel) hRl) dX0_copyOf_12 (fun σ1 eσ1 H locs hP hS => ?_)
  have hf := bnd_at σ1 eσ1 hf
  refine lv_aload_n hx hb dX0_copyOf_15 rfl (lv_at hl 1 rfl) ?_
  refine zg_X0_15 hx hb C hP (lth hh2 1 (by decide)) (lay_h1 hh2) rfl dX0_copyOf_16 ?_
  refine lv_iconst (v := 0) hx hb dX0_copyOf_19 (by decide) ?_
  refine lv_aload_n hx hb dX0_copyOf_20 rfl (lv_at hl 0 rfl) ?_
  refine zg_X0_15 hx hb C hP (lth hh 1 (by decide)) (lay_h1 hh) rfl dX0_copyOf_21 ?_
  refine lv_iconst (v := 0) hx hb dX0_copyOf_24 (by decide) ?_
  refine lv_bipush (v := 8) hx hb dX0_copyOf_25 (by decide) ?_
  refine zz_cpyI hx hb (hml.trans hl.1.symm) C hP hS (lth hh2 3 (by decide)) (lay_h3 hh2) (lth hh 3 (by decide)) (lay_h3 hh) (by decide) (by decide) (by decide) (by decide) (by decide) km_X0_38 kv_arraycopyName kt_arraycopyName kn_J10 (Nat.le_trans (by decide) hRf) (Nat.le_trans (by decide +kernel) hRl) dX0_copyOf_27 (fun σ2 eσ2 H locs hP hS => ?_)
  have hf := bnd_at σ2 eσ2 hf
  refine lv_aload_n hx hb dX0_copyOf_30 rfl (lv_at hl 1 rfl) ?_
  refine zg_X0_18 hx hb C hP (lth hh2 1 (by decide)) (lay_h1 hh2) rfl dX0_copyOf_31 ?_
  refine lv_iconst (v := 0) hx hb dX0_copyOf_34 (by decide) ?_
  refine lv_aload_n hx hb dX0_copyOf_35 rfl (lv_at hl 0 rfl) ?_
  refine zg_X0_18 hx hb C hP (lth hh 1 (by decide)) (lay_h1 hh) rfl dX0_copyOf_36 ?_
  refine lv_iconst (v := 0) hx hb dX0_copyOf_39 (by decide) ?_
  refine lv_bipush (v := 8) hx hb dX0_copyOf_40 (by decide) ?_
  refine zz_cpyI hx hb (hml.trans hl.1.symm) C hP hS (lth hh2 4 (by decide)) (lay_h4 hh2) (lth hh 4 (by decide)) (lay_h4 hh) (by decide) (by decide) (by decide) (by decide) (by decide) km_X0_38 kv_arraycopyName kt_arraycopyName kn_J10 (Nat.le_trans (by decide) hRf) (Nat.le_trans (by decide +kernel) hRl) dX0_copyOf_42 (fun σ3 eσ3 H locs hP hS => ?_)
  have hf := bnd_at σ3 eσ3 hf
  refine lv_aload_n hx hb dX0_copyOf_45 rfl (lv_at hl 1 rfl) ?_
  refine zg_X0_21 hx hb C hP (lth hh2 1 (by decide)) (lay_h1 hh2) rfl dX0_copyOf_46 ?_
  refine lv_iconst (v := 0) hx hb dX0_copyOf_49 (by decide) ?_
  refine lv_aload_n hx hb dX0_copyOf_50 rfl (lv_at hl 0 rfl) ?_
  refine zg_X0_21 hx hb C hP (lth hh 1 (by decide)) (lay_h1 hh) rfl dX0_copyOf_51 ?_
  refine lv_iconst (v := 0) hx hb dX0_copyOf_54 (by decide) ?_
  refine lv_bipush (v := 8) hx hb dX0_copyOf_55 (by decide) ?_
  refine zz_cpyI hx hb (hml.trans hl.1.symm) C hP hS (lth hh2 5 (by decide)) (lay_h5 hh2) (lth hh 5 (by decide)) (lay_h5 hh) (by decide) (by decide) (by decide) (by decide) (by decide) km_X0_38 kv_arraycopyName kt_arraycopyName kn_J10 (Nat.le_trans (by decide) hRf) (Nat.le_trans (by decide +kernel) hRl) dX0_copyOf_57 (fun σ4 eσ4 H locs hP hS => ?_)
  have hf := bnd_at σ4 eσ4 hf
  refine lv_aload_n hx hb dX0_copyOf_60 rfl (lv_at hl 1 rfl) ?_
  refine zg_X0_24 hx hb C hP (lth hh2 1 (by decide)) (lay_h1 hh2) rfl dX0_copyOf_61 ?_
  refine lv_iconst (v := 0) hx hb dX0_copyOf_64 (by decide) ?_
  refine lv_aload_n hx hb dX0_copyOf_65 rfl (lv_at hl 0 rfl) ?_
  refine zg_X0_24 hx hb C hP (lth hh 1 (by decide)) (lay_h1 hh) rfl dX0_copyOf_66 ?_
  refine lv_iconst (v := 0) hx hb dX0_copyOf_69 (by decide) ?_
  refine lv_bipush (v := 10) hx hb dX0_copyOf_70 (by decide) ?_
  refine zz_cpyI hx hb (hml.trans hl.1.symm) C hP hS (lth hh2 6 (by decide)) (lay_h6 hh2) (lth hh 6 (by decide)) (lay_h6 hh) (by decide) (by decide) (by decide) (by decide) (by decide) km_X0_38 kv_arraycopyName kt_arraycopyName kn_J10 (Nat.le_trans (by decide) hRf) (Nat.le_trans (by decide +kernel) hRl) dX0_copyOf_72 (fun σ5 eσ5 H locs hP hS => ?_)
  have hf := bnd_at σ5 eσ5 hf
  refine lv_aload_n hx hb dX0_copyOf_75 rfl (lv_at hl 0 rfl) ?_
  refine lv_aload_n hx hb dX0_copyOf_76 rfl (lv_at hl 1 rfl) ?_
  refine zg_X0_27 hx hb C hP (lth hh2 1 (by decide)) (lay_h1 hh2) rfl dX0_copyOf_77 ?_
  refine zp_X0_27 hx hb C hP hS (lth hh 1 (by decide)) (lay_h1 hh) rfl dX0_copyOf_80 (fun σ6 eσ6 H locs hP hS => ?_)
  have hf := bnd_at σ6 eσ6 hf
  subst hf
  exact hQ _ _ _ _ dX0_copyOf_83 hP hS
set_option maxHeartbeats 4000000 in
set_option maxRecDepth 100000 in
theorem c_X0_has (l : Launch) {D : va_G} {a : Nat → Nat} {cA : Nat → ClassId} {A : Nat → Prop} {sa : Nat → Nat} (hDA : DA a A) {σ : PH} {d : PD} {h : Nat} (hh : isHall h) (p1 : Int32) {u : Int32} (hf : f_X0_has σ h p1 = u) : CTi l yX0_has cX0_has 2 (some .boolean) 0 0 D a cA A sa [.ref (a (h + 1)), .int p1] σ d u σ d := by
  refine zz_metZ zpl_X0 hDA (Nat.le_of_ble_eq_true rfl) ?_
  intro p e R s m args below meth c Q ls hx hb hml C hRf hRl hQ hP hS hl
  have hl : lv_has ls 2 [(0, .ref (a (h + 1))), (1, .int p1)] := hl
  unfold f_X0_has at hf
  refine lv_iload_n hx hb dX0_has_0 rfl (lv_at hl 1 rfl) ?_
  refine lv_if_lt (tgt := 16) hx hb dX0_has_1 (by decide) (fun hb0 => ?_) (fun hb0 => ?_)
  · have hf := ifT hb0 hf
    refine lv_iconst (v := 0) hx hb dX0_has_16 (by decide) ?_
    subst hf
    exact hQ _ _ _ _ dX0_has_17 (show narrow .boolean (.int 0) = .int 0 from rfl) hP hS
  · have hf := ifF hb0 hf
    refine lv_iload_n hx hb dX0_has_4 rfl (lv_at hl 1 rfl) ?_
    refine lv_aload_n hx hb dX0_has_5 rfl (lv_at hl 0 rfl) ?_
    refine zg_X0_27 hx hb C hP (lth hh 1 (by decide)) (lay_h1 hh) rfl dX0_has_6 ?_
    refine lv_icmp_ge (tgt := 16) hx hb dX0_has_9 (by decide) (fun hb1 => ?_) (fun hb1 => ?_)
    · have hf := ifT hb1 hf
      refine lv_iconst (v := 0) hx hb dX0_has_16 (by decide) ?_
      subst hf
      exact hQ _ _ _ _ dX0_has_17 (show narrow .boolean (.int 0) = .int 0 from rfl) hP hS
    · have hf := ifF hb1 hf
      refine lv_iconst (v := 1) hx hb dX0_has_12 (by decide) ?_
      refine lv_goto (tgt := 17) hx hb dX0_has_13 (by decide) ?_
      subst hf
      exact hQ _ _ _ _ dX0_has_17 (show narrow .boolean (.int 1) = .int 1 from rfl) hP hS
set_option maxHeartbeats 4000000 in
set_option maxRecDepth 100000 in
theorem c_X0_hasRoom (l : Launch) {D : va_G} {a : Nat → Nat} {cA : Nat → ClassId} {A : Nat → Prop} {sa : Nat → Nat} (hDA : DA a A) {σ : PH} {d : PD} {h : Nat} (hh : isHall h) {u : Int32} (hf : f_X0_hasRoom σ h = u) : CTi l yX0_hasRoom cX0_hasRoom 1 (some .boolean) 0 0 D a cA A sa [.ref (a (h + 1))] σ d u σ d := by
  refine zz_metZ zpl_X0 hDA (Nat.le_of_ble_eq_true rfl) ?_
  intro p e R s m args below meth c Q ls hx hb hml C hRf hRl hQ hP hS hl
  have hl : lv_has ls 1 [(0, .ref (a (h + 1)))] := hl
  unfold f_X0_hasRoom at hf
  refine lv_aload_n hx hb dX0_hasRoom_0 rfl (lv_at hl 0 rfl) ?_
  refine zg_X0_27 hx hb C hP (lth hh 1 (by decide)) (lay_h1 hh) rfl dX0_hasRoom_1 ?_
  refine lv_bipush (v := 8) hx hb dX0_hasRoom_4 (by decide) ?_
  refine lv_icmp_ge (tgt := 13) hx hb dX0_hasRoom_6 (by decide) (fun hb0 => ?_) (fun hb0 => ?_)
  · have hf := ifT hb0 hf
    refine lv_iconst (v := 0) hx hb dX0_hasRoom_13 (by decide) ?_
    subst hf
    exact hQ _ _ _ _ dX0_hasRoom_14 (show narrow .boolean (.int 0) = .int 0 from rfl) hP hS
  · have hf := ifF hb0 hf
    refine lv_iconst (v := 1) hx hb dX0_hasRoom_9 (by decide) ?_
    refine lv_goto (tgt := 14) hx hb dX0_hasRoom_10 (by decide) ?_
    subst hf
    exact hQ _ _ _ _ dX0_hasRoom_14 (show narrow .boolean (.int 1) = .int 1 from rfl) hP hS
set_option maxHeartbeats 4000000 in
set_option maxRecDepth 100000 in
theorem c_X0_all (l : Launch) {D : va_G} {a : Nat → Nat} {cA : Nat → ClassId} {A : Nat → Prop} {sa : Nat → Nat} (hDA : DA a A) {σ : PH} {d : PD} {h : Nat} (hh : isHall h) {u : Int32} (hf : f_X0_all σ h = u) : CTi l yX0_all cX0_all 1 (some .int) 0 0 D a cA A sa [.ref (a (h + 1))] σ d u σ d := by
  refine zz_metI zpl_X0 hDA (Nat.le_of_ble_eq_true rfl) ?_
  intro p e R s m args below meth c Q ls hx hb hml C hRf hRl hQ hP hS hl
  have hl : lv_has ls 1 [(0, .ref (a (h + 1)))] := hl
  unfold f_X0_all at hf
  refine lv_iconst (v := 1) hx hb dX0_all_0 (by decide) ?_
  refine lv_aload_n hx hb dX0_all_1 rfl (lv_at hl 0 rfl) ?_
  refine zg_X0_27 hx hb C hP (lth hh 1 (by decide)) (lay_h1 hh) rfl dX0_all_2 ?_
  refine lv_ishl hx hb dX0_all_5 ?_
  refine lv_iconst (v := 1) hx hb dX0_all_6 (by decide) ?_
  refine lv_isub hx hb dX0_all_7 ?_
  subst hf
  exact hQ _ _ _ _ dX0_all_8 hP hS
set_option maxHeartbeats 4000000 in
set_option maxRecDepth 100000 in
theorem c_X0_isSet (l : Launch) {D : va_G} {a : Nat → Nat} {cA : Nat → ClassId} {A : Nat → Prop} {sa : Nat → Nat} (hDA : DA a A) {σ : PH} {d : PD} {h : Nat} (hh : isHall h) (p1 : Int32) {u : Int32} (hf : f_X0_isSet σ h p1 = u) : CTi l yX0_isSet cX0_isSet 2 (some .boolean) 1 20 D a cA A sa [.ref (a (h + 1)), .int p1] σ d u σ d := by
  refine zz_metZ zpl_X0 hDA (Nat.le_of_ble_eq_true rfl) ?_
  intro p e R s m args below meth c Q ls hx hb hml C hRf hRl hQ hP hS hl
  have hl : lv_has ls 2 [(0, .ref (a (h + 1))), (1, .int p1)] := hl
  unfold f_X0_isSet at hf
  refine lv_iload_n hx hb dX0_isSet_0 rfl (lv_at hl 1 rfl) ?_
  refine lv_if_le (tgt := 16) hx hb dX0_isSet_1 (by decide) (fun hb0 => ?_) (fun hb0 => ?_)
  · have hf := ifT hb0 hf
    refine lv_iconst (v := 0) hx hb dX0_isSet_16 (by decide) ?_
    subst hf
    exact hQ _ _ _ _ dX0_isSet_17 (show narrow .boolean (.int 0) = .int 0 from rfl) hP hS
  · have hf := ifF hb0 hf
    refine lv_iload_n hx hb dX0_isSet_4 rfl (lv_at hl 1 rfl) ?_
    refine lv_aload_n hx hb dX0_isSet_5 rfl (lv_at hl 0 rfl) ?_
    obtain ⟨u2, hzu2⟩ : ∃ z, z = f_X0_all σ h := ⟨_, rfl⟩
    have hf := bnd_at u2 hzu2 hf
    refine zz_callVi (rest := [.int p1]) hx hb hml C hP hS (c_X0_all l hDA (h := h) hh hzu2.symm) zw_X0_44 ⟨Nat.le_trans (Nat.le_of_ble_eq_true rfl) hRf, Nat.le_trans (Nat.le_of_ble_eq_true rfl) hRl⟩ (lth hh 1 (by decide)) (lay_h1 hh) rfl rfl hl.1 (Nat.le_of_ble_eq_true rfl) ⟨Nat.zero_le _, Nat.zero_le _⟩ rfl dX0_isSet_6 (fun H locs hP hS => ?_)
    refine lv_icmp_gt (tgt := 16) hx hb dX0_isSet_9 (by decide) (fun hb2 => ?_) (fun hb2 => ?_)
    · have hf := ifT hb2 hf
      refine lv_iconst (v := 0) hx hb dX0_isSet_16 (by decide) ?_
      subst hf
      exact hQ _ _ _ _ dX0_isSet_17 (show narrow .boolean (.int 0) = .int 0 from rfl) hP hS
    · have hf := ifF hb2 hf
      refine lv_iconst (v := 1) hx hb dX0_isSet_12 (by decide) ?_
      refine lv_goto (tgt := 17) hx hb dX0_isSet_13 (by decide) ?_
      subst hf
      exact hQ _ _ _ _ dX0_isSet_17 (show narrow .boolean (.int 1) = .int 1 from rfl) hP hS
set_option maxHeartbeats 4000000 in
set_option maxRecDepth 100000 in
theorem c_X0_add (l : Launch) {D : va_G} {a : Nat → Nat} {cA : Nat → ClassId} {A : Nat → Prop} {sa : Nat → Nat} (hDA : DA a A) {σ : PH} {d : PD} {h : Nat} (hh : isHall h) (p1 : Int32) (p2 : Int32) (p3 : Int32) {u : PH} (hf : f_X0_add σ h p1 p2 p3 = some u) : CTv l yX0_add cX0_add 4 none 1 20 D a cA A sa [.ref (a (h + 1)), .int p1, .int p2, .int p3] σ d u d := by
  refine zz_metV zpl_X0 hDA (Nat.le_of_ble_eq_true rfl) ?_
  intro p e R s m args below meth c Q ls hx hb hml C hRf hRl hQ hP hS hl
  have hl : lv_has ls 4 [(0, .ref (a (h + 1))), (1, .int p1), (2, .int p2), (3, .int p3)] := hl
  unfold f_X0_add at hf
  refine lv_aload_n hx hb dX0_add_0 rfl (lv_at hl 0 rfl) ?_
  obtain ⟨u1, hzu1⟩ : ∃ z, z = f_X0_hasRoom σ h := ⟨_, rfl⟩
  have hf := bnd_at u1 hzu1 hf
  refine zz_callVi (rest := []) hx hb hml C hP hS (c_X0_hasRoom l hDA (h := h) hh hzu1.symm) zw_X0_48 ⟨Nat.le_trans (Nat.le_of_ble_eq_true rfl) hRf, Nat.le_trans (Nat.le_of_ble_eq_true rfl) hRl⟩ (lth hh 1 (by decide)) (lay_h1 hh) rfl rfl hl.1 (Nat.le_of_ble_eq_true rfl) ⟨Nat.zero_le _, Nat.zero_le _⟩ rfl dX0_add_1 (fun H locs hP hS => ?_)
  refine lv_if_ne (tgt := 8) hx hb dX0_add_4 (by decide) (fun hb1 => ?_) (fun hb1 => ?_)
  · have hf := ifF hb1 hf
    refine lv_aload_n hx hb dX0_add_8 rfl (lv_at hl 0 rfl) ?_
    refine zg_X0_11 hx hb C hP (lth hh 1 (by decide)) (lay_h1 hh) rfl dX0_add_9 ?_
    refine lv_aload_n hx hb dX0_add_12 rfl (lv_at hl 0 rfl) ?_
    refine zg_X0_27 hx hb C hP (lth hh 1 (by decide)) (lay_h1 hh) rfl dX0_add_13 ?_
    refine lv_iload_n hx hb dX0_add_16 rfl (lv_at hl 1 rfl) ?_
    obtain ⟨hc2, hf⟩ := chk_some hf
    refine zz_iast hx hb C hP hS (lth hh 2 (by decide)) (lay_h2 hh) (inb_vp hc2) dX0_add_17 (fun σ4 eσ4 H locs hP hS => ?_)
    have hf := bnd_at σ4 eσ4 hf
    refine lv_aload_n hx hb dX0_add_18 rfl (lv_at hl 0 rfl) ?_
    refine zg_X0_15 hx hb C hP (lth hh 1 (by decide)) (lay_h1 hh) rfl dX0_add_19 ?_
    refine lv_aload_n hx hb dX0_add_22 rfl (lv_at hl 0 rfl) ?_
    refine zg_X0_27 hx hb C hP (lth hh 1 (by decide)) (lay_h1 hh) rfl dX0_add_23 ?_
    refine lv_iload_n hx hb dX0_add_26 rfl (lv_at hl 2 rfl) ?_
    obtain ⟨hc4, hf⟩ := chk_some hf
    refine zz_iast hx hb C hP hS (lth hh 3 (by decide)) (lay_h3 hh) (inb_vp hc4) dX0_add_27 (fun σ6 eσ6 H locs hP hS => ?_)
    have hf := bnd_at σ6 eσ6 hf
    refine lv_aload_n hx hb dX0_add_28 rfl (lv_at hl 0 rfl) ?_
    refine zg_X0_18 hx hb C hP (lth hh 1 (by decide)) (lay_h1 hh) rfl dX0_add_29 ?_
    refine lv_aload_n hx hb dX0_add_32 rfl (lv_at hl 0 rfl) ?_
    refine zg_X0_27 hx hb C hP (lth hh 1 (by decide)) (lay_h1 hh) rfl dX0_add_33 ?_
    refine lv_iload_n hx hb dX0_add_36 rfl (lv_at hl 3 rfl) ?_
    obtain ⟨hc6, hf⟩ := chk_some hf
    refine zz_iast hx hb C hP hS (lth hh 4 (by decide)) (lay_h4 hh) (inb_vp hc6) dX0_add_37 (fun σ8 eσ8 H locs hP hS => ?_)
    have hf := bnd_at σ8 eσ8 hf
    refine lv_aload_n hx hb dX0_add_38 rfl (lv_at hl 0 rfl) ?_
    refine zg_X0_21 hx hb C hP (lth hh 1 (by decide)) (lay_h1 hh) rfl dX0_add_39 ?_
    refine lv_aload_n hx hb dX0_add_42 rfl (lv_at hl 0 rfl) ?_
    refine zg_X0_27 hx hb C hP (lth hh 1 (by decide)) (lay_h1 hh) rfl dX0_add_43 ?_
    refine lv_aload_n hx hb dX0_add_46 rfl (lv_at hl 0 rfl) ?_
    refine zg_X0_27 hx hb C hP (lth hh 1 (by decide)) (lay_h1 hh) rfl dX0_add_47 ?_
    obtain ⟨hc8, hf⟩ := chk_some hf
    refine zz_iast hx hb C hP hS (lth hh 5 (by decide)) (lay_h5 hh) (inb_vp hc8) dX0_add_50 (fun σ10 eσ10 H locs hP hS => ?_)
    have hf := bnd_at σ10 eσ10 hf
    refine lv_aload_n hx hb dX0_add_51 rfl (lv_at hl 0 rfl) ?_
    refine zg_X0_24 hx hb C hP (lth hh 1 (by decide)) (lay_h1 hh) rfl dX0_add_52 ?_
    refine lv_aload_n hx hb dX0_add_55 rfl (lv_at hl 0 rfl) ?_
    refine zg_X0_27 hx hb C hP (lth hh 1 (by decide)) (lay_h1 hh) rfl dX0_add_56 ?_
    refine lv_iconst (v := 1) hx hb dX0_add_59 (by decide) ?_
    refine lv_iadd hx hb dX0_add_60 ?_
    refine lv_iconst (v := 1) hx hb dX0_add_61 (by decide) ?_
    refine lv_aload_n hx hb dX0_add_62 rfl (lv_at hl 0 rfl) ?_
    refine zg_X0_27 hx hb C hP (lth hh 1 (by decide)) (lay_h1 hh) rfl dX0_add_63 ?_
    refine lv_ishl hx hb dX0_add_66 ?_
    obtain ⟨hc10, hf⟩ := chk_some hf
    refine zz_iast hx hb C hP hS (lth hh 6 (by decide)) (lay_h6 hh) (inb_vp hc10) dX0_add_67 (fun σ12 eσ12 H locs hP hS => ?_)
    have hf := bnd_at σ12 eσ12 hf
    refine lv_aload_n hx hb dX0_add_68 rfl (lv_at hl 0 rfl) ?_
    refine lv_dup hx hb dX0_add_69 rfl ?_
    refine zg_X0_27 hx hb C hP (lth hh 1 (by decide)) (lay_h1 hh) rfl dX0_add_70 ?_
    refine lv_iconst (v := 1) hx hb dX0_add_73 (by decide) ?_
    refine lv_iadd hx hb dX0_add_74 ?_
    refine zp_X0_27 hx hb C hP hS (lth hh 1 (by decide)) (lay_h1 hh) rfl dX0_add_75 (fun σ13 eσ13 H locs hP hS => ?_)
    have hf := bnd_at σ13 eσ13 hf
    have hf := Option.some.inj hf
    subst hf
    exact hQ _ _ _ _ dX0_add_78 hP hS
  · have hf := ifT hb1 hf
    have hf := Option.some.inj hf
    subst hf
    exact hQ _ _ _ _ dX0_add_7 hP hS
set_option maxHeartbeats 4000000 in
set_option maxRecDepth 100000 in
theorem c_X0_exchange (l : Launch) {D : va_G} {a : Nat → Nat} {cA : Nat → ClassId} {A : Nat → Prop} {sa : Nat → Nat} (hDA : DA a A) {σ : PH} {d : PD} {h : Nat} (hh : isHall h) (p1 : Int32) (p2 : Int32) {u : PH} (hf : f_X0_exchange σ h p1 p2 = some u) : CTv l yX0_exchange cX0_exchange 4 none 1 21 D a cA A sa [.ref (a (h + 1)), .int p1, .int p2] σ d u d := by
  refine zz_metV zpl_X0 hDA (Nat.le_of_ble_eq_true rfl) ?_
  intro p e R s m args below meth c Q ls hx hb hml C hRf hRl hQ hP hS hl
  have hl : lv_has ls 4 [(0, .ref (a (h + 1))), (1, .int p1), (2, .int p2)] := hl
  unfold f_X0_exchange at hf
  refine lv_aload_n hx hb dX0_exchange_0 rfl (lv_at hl 0 rfl) ?_
  refine lv_iload_n hx hb dX0_exchange_1 rfl (lv_at hl 1 rfl) ?_
  obtain ⟨u1, hzu1⟩ : ∃ z, z = f_X0_has σ h p1 := ⟨_, rfl⟩
  have hf := bnd_at u1 hzu1 hf
  refine zz_callVi (rest := []) hx hb hml C hP hS (c_X0_has l hDA (h := h) hh p1 hzu1.symm) zw_X0_52 ⟨Nat.le_trans (Nat.le_of_ble_eq_true rfl) hRf, Nat.le_trans (Nat.le_of_ble_eq_true rfl) hRl⟩ (lth hh 1 (by decide)) (lay_h1 hh) rfl rfl hl.1 (Nat.le_of_ble_eq_true rfl) ⟨Nat.zero_le _, Nat.zero_le _⟩ rfl dX0_exchange_2 (fun H locs hP hS => ?_)
  refine lv_if_eq (tgt := 16) hx hb dX0_exchange_5 (by decide) (fun hb1 => ?_) (fun hb1 => ?_)
  · have hf := ifT hb1 hf
    have hf := Option.some.inj hf
    subst hf
    exact hQ _ _ _ _ dX0_exchange_16 hP hS
  · have hf := ifF hb1 hf
    refine lv_aload_n hx hb dX0_exchange_8 rfl (lv_at hl 0 rfl) ?_
    refine lv_iload_n hx hb dX0_exchange_9 rfl (lv_at hl 2 rfl) ?_
    obtain ⟨u3, hzu3⟩ : ∃ z, z = f_X0_has σ h p2 := ⟨_, rfl⟩
    have hf := bnd_at u3 hzu3 hf
    refine zz_callVi (rest := []) hx hb hml C hP hS (c_X0_has l hDA (h := h) hh p2 hzu3.symm) zw_X0_52 ⟨Nat.le_trans (Nat.le_of_ble_eq_true rfl) hRf, Nat.le_trans (Nat.le_of_ble_eq_true rfl) hRl⟩ (lth hh 1 (by decide)) (lay_h1 hh) rfl rfl hl.1 (Nat.le_of_ble_eq_true rfl) ⟨Nat.zero_le _, Nat.zero_le _⟩ rfl dX0_exchange_10 (fun H locs hP hS => ?_)
    refine lv_if_ne (tgt := 17) hx hb dX0_exchange_13 (by decide) (fun hb3 => ?_) (fun hb3 => ?_)
    · have hf := ifF hb3 hf
      refine lv_aload_n hx hb dX0_exchange_17 rfl (lv_at hl 0 rfl) ?_
      refine zg_X0_21 hx hb C hP (lth hh 1 (by decide)) (lay_h1 hh) rfl dX0_exchange_18 ?_
      refine lv_iload_n hx hb dX0_exchange_21 rfl (lv_at hl 1 rfl) ?_
      obtain ⟨hc4, hf⟩ := chk_some hf
      refine zz_iald hx hb C hP (lth hh 5 (by decide)) (lay_h5 hh) (inb_vp hc4) dX0_exchange_22 ?_
      refine lv_topi (fun v6 ev6 => ?_)
      have hf := bnd_at v6 ev6 hf
      refine lv_istore_n (lv' := [(3, .int v6), (0, .ref (a (h + 1))), (1, .int p1), (2, .int p2)]) hx hb dX0_exchange_23 rfl hl (by decide) rfl (fun ls hl => ?_)
      refine lv_aload_n hx hb dX0_exchange_24 rfl (lv_at hl 1 rfl) ?_
      refine zg_X0_21 hx hb C hP (lth hh 1 (by decide)) (lay_h1 hh) rfl dX0_exchange_25 ?_
      refine lv_iload_n hx hb dX0_exchange_28 rfl (lv_at hl 2 rfl) ?_
      refine lv_aload_n hx hb dX0_exchange_29 rfl (lv_at hl 1 rfl) ?_
      refine zg_X0_21 hx hb C hP (lth hh 1 (by decide)) (lay_h1 hh) rfl dX0_exchange_30 ?_
      refine lv_iload_n hx hb dX0_exchange_33 rfl (lv_at hl 3 rfl) ?_
      obtain ⟨hc6, hf⟩ := chk_some hf
      refine zz_iald hx hb C hP (lth hh 5 (by decide)) (lay_h5 hh) (inb_vp hc6) dX0_exchange_34 ?_
      obtain ⟨hc7, hf⟩ := chk_some hf
      refine zz_iast hx hb C hP hS (lth hh 5 (by decide)) (lay_h5 hh) (inb_vp hc7) dX0_exchange_35 (fun σ9 eσ9 H locs hP hS => ?_)
      have hf := bnd_at σ9 eσ9 hf
      refine lv_aload_n hx hb dX0_exchange_36 rfl (lv_at hl 1 rfl) ?_
      refine zg_X0_21 hx hb C hP (lth hh 1 (by decide)) (lay_h1 hh) rfl dX0_exchange_37 ?_
      refine lv_iload_n hx hb dX0_exchange_40 rfl (lv_at hl 3 rfl) ?_
      refine lv_iload_n hx hb dX0_exchange_41 rfl (lv_at hl 0 rfl) ?_
      obtain ⟨hc9, hf⟩ := chk_some hf
      refine zz_iast hx hb C hP hS (lth hh 5 (by decide)) (lay_h5 hh) (inb_vp hc9) dX0_exchange_42 (fun σ11 eσ11 H locs hP hS => ?_)
      have hf := bnd_at σ11 eσ11 hf
      refine lv_aload_n hx hb dX0_exchange_43 rfl (lv_at hl 1 rfl) ?_
      refine zg_X0_24 hx hb C hP (lth hh 1 (by decide)) (lay_h1 hh) rfl dX0_exchange_44 ?_
      refine lv_aload_n hx hb dX0_exchange_47 rfl (lv_at hl 1 rfl) ?_
      refine zg_X0_21 hx hb C hP (lth hh 1 (by decide)) (lay_h1 hh) rfl dX0_exchange_48 ?_
      refine lv_iload_n hx hb dX0_exchange_51 rfl (lv_at hl 2 rfl) ?_
      obtain ⟨hc11, hf⟩ := chk_some hf
      refine zz_iald hx hb C hP (lth hh 5 (by decide)) (lay_h5 hh) (inb_vp hc11) dX0_exchange_52 ?_
      refine lv_iconst (v := 1) hx hb dX0_exchange_53 (by decide) ?_
      refine lv_iadd hx hb dX0_exchange_54 ?_
      refine lv_iconst (v := 1) hx hb dX0_exchange_55 (by decide) ?_
      refine lv_iload_n hx hb dX0_exchange_56 rfl (lv_at hl 2 rfl) ?_
      refine lv_ishl hx hb dX0_exchange_57 ?_
      obtain ⟨hc12, hf⟩ := chk_some hf
      refine zz_iast hx hb C hP hS (lth hh 6 (by decide)) (lay_h6 hh) (inb_vp hc12) dX0_exchange_58 (fun σ14 eσ14 H locs hP hS => ?_)
      have hf := bnd_at σ14 eσ14 hf
      refine lv_aload_n hx hb dX0_exchange_59 rfl (lv_at hl 1 rfl) ?_
      refine zg_X0_24 hx hb C hP (lth hh 1 (by decide)) (lay_h1 hh) rfl dX0_exchange_60 ?_
      refine lv_aload_n hx hb dX0_exchange_63 rfl (lv_at hl 1 rfl) ?_
      refine zg_X0_21 hx hb C hP (lth hh 1 (by decide)) (lay_h1 hh) rfl dX0_exchange_64 ?_
      refine lv_iload_n hx hb dX0_exchange_67 rfl (lv_at hl 3 rfl) ?_
      obtain ⟨hc14, hf⟩ := chk_some hf
      refine zz_iald hx hb C hP (lth hh 5 (by decide)) (lay_h5 hh) (inb_vp hc14) dX0_exchange_68 ?_
      refine lv_iconst (v := 1) hx hb dX0_exchange_69 (by decide) ?_
      refine lv_iadd hx hb dX0_exchange_70 ?_
      refine lv_iconst (v := 1) hx hb dX0_exchange_71 (by decide) ?_
      refine lv_iload_n hx hb dX0_exchange_72 rfl (lv_at hl 3 rfl) ?_
      refine lv_ishl hx hb dX0_exchange_73 ?_
      obtain ⟨hc15, hf⟩ := chk_some hf
      refine zz_iast hx hb C hP hS (lth hh 6 (by decide)) (lay_h6 hh) (inb_vp hc15) dX0_exchange_74 (fun σ17 eσ17 H locs hP hS => ?_)
      have hf := bnd_at σ17 eσ17 hf
      have hf := Option.some.inj hf
      subst hf
      exact hQ _ _ _ _ dX0_exchange_75 hP hS
    · have hf := ifT hb3 hf
      have hf := Option.some.inj hf
      subst hf
      exact hQ _ _ _ _ dX0_exchange_16 hP hS
set_option maxHeartbeats 4000000 in
set_option maxRecDepth 100000 in
theorem c_J6_bitCount_0f7a4 (l : Launch) {D : va_G} {a : Nat → Nat} {cA : Nat → ClassId} {A : Nat → Prop} {sa : Nat → Nat} (hDA : DA a A) {σ : PH} {d : PD} (p1 : Int32) {u : Int32} (hf : f_J6_bitCount_0f7a4 p1 = u) : CTi l yJ6_bitCount_0f7a4 cJ6_bitCount_0f7a4 1 (some .int) 0 0 D a cA A sa [.int p1] σ d u σ d := by
  refine zz_metI zpl_J6 hDA (Nat.le_of_ble_eq_true rfl) ?_
  intro p e R s m args below meth c Q ls hx hb hml C hRf hRl hQ hP hS hl
  have hl : lv_has ls 1 [(0, .int p1)] := hl
  unfold f_J6_bitCount_0f7a4 at hf
  refine lv_iload_n hx hb dJ6_bitCount_0f7a4_0 rfl (lv_at hl 0 rfl) ?_
  refine lv_iload_n hx hb dJ6_bitCount_0f7a4_1 rfl (lv_at hl 0 rfl) ?_
  refine lv_iconst (v := 1) hx hb dJ6_bitCount_0f7a4_2 (by decide) ?_
  refine lv_iushr (v := (p1.toUInt32 >>> ((1 : Int32).toUInt32 &&& Int32.toUInt32 31)).toInt32) hx hb dJ6_bitCount_0f7a4_3 rfl ?_
  refine lv_ldcw (v := 1431655765) hx hb C.1 (C.2.1 _ kk_J6_265) dJ6_bitCount_0f7a4_4 ?_
  refine lv_iand hx hb dJ6_bitCount_0f7a4_7 ?_
  refine lv_isub hx hb dJ6_bitCount_0f7a4_8 ?_
  refine lv_topi (fun v1 ev1 => ?_)
  have hf := bnd_at v1 ev1 hf
  refine lv_istore_n (lv' := [(0, .int v1)]) hx hb dJ6_bitCount_0f7a4_9 rfl hl (by decide) rfl (fun ls hl => ?_)
  refine lv_iload_n hx hb dJ6_bitCount_0f7a4_10 rfl (lv_at hl 0 rfl) ?_
  refine lv_ldcw (v := 858993459) hx hb C.1 (C.2.1 _ kk_J6_266) dJ6_bitCount_0f7a4_11 ?_
  refine lv_iand hx hb dJ6_bitCount_0f7a4_14 ?_
  refine lv_iload_n hx hb dJ6_bitCount_0f7a4_15 rfl (lv_at hl 0 rfl) ?_
  refine lv_iconst (v := 2) hx hb dJ6_bitCount_0f7a4_16 (by decide) ?_
  refine lv_iushr (v := (v1.toUInt32 >>> ((2 : Int32).toUInt32 &&& Int32.toUInt32 31)).toInt32) hx hb dJ6_bitCount_0f7a4_17 rfl ?_
  refine lv_ldcw (v := 858993459) hx hb C.1 (C.2.1 _ kk_J6_266) dJ6_bitCount_0f7a4_18 ?_
  refine lv_iand hx hb dJ6_bitCount_0f7a4_21 ?_
  refine lv_iadd hx hb dJ6_bitCount_0f7a4_22 ?_
  refine lv_topi (fun v2 ev2 => ?_)
  have hf := bnd_at v2 ev2 hf
  refine lv_istore_n (lv' := [(0, .int v2)]) hx hb dJ6_bitCount_0f7a4_23 rfl hl (by decide) rfl (fun ls hl => ?_)
  refine lv_iload_n hx hb dJ6_bitCount_0f7a4_24 rfl (lv_at hl 0 rfl) ?_
  refine lv_iload_n hx hb dJ6_bitCount_0f7a4_25 rfl (lv_at hl 0 rfl) ?_
  refine lv_iconst (v := 4) hx hb dJ6_bitCount_0f7a4_26 (by decide) ?_
  refine lv_iushr (v := (v2.toUInt32 >>> ((4 : Int32).toUInt32 &&& Int32.toUInt32 31)).toInt32) hx hb dJ6_bitCount_0f7a4_27 rfl ?_
  refine lv_iadd hx hb dJ6_bitCount_0f7a4_28 ?_
  refine lv_ldcw (v := 252645135) hx hb C.1 (C.2.1 _ kk_J6_267) dJ6_bitCount_0f7a4_29 ?_
  refine lv_iand hx hb dJ6_bitCount_0f7a4_32 ?_
  refine lv_topi (fun v3 ev3 => ?_)
  have hf := bnd_at v3 ev3 hf
  refine lv_istore_n (lv' := [(0, .int v3)]) hx hb dJ6_bitCount_0f7a4_33 rfl hl (by decide) rfl (fun ls hl => ?_)
  refine lv_iload_n hx hb dJ6_bitCount_0f7a4_34 rfl (lv_at hl 0 rfl) ?_
  refine lv_iload_n hx hb dJ6_bitCount_0f7a4_35 rfl (lv_at hl 0 rfl) ?_
  refine lv_bipush (v := 8) hx hb dJ6_bitCount_0f7a4_36 (by decide) ?_
  refine lv_iushr (v := (v3.toUInt32 >>> ((8 : Int32).toUInt32 &&& Int32.toUInt32 31)).toInt32) hx hb dJ6_bitCount_0f7a4_38 rfl ?_
  refine lv_iadd hx hb dJ6_bitCount_0f7a4_39 ?_
  refine lv_topi (fun v4 ev4 => ?_)
  have hf := bnd_at v4 ev4 hf
  refine lv_istore_n (lv' := [(0, .int v4)]) hx hb dJ6_bitCount_0f7a4_40 rfl hl (by decide) rfl (fun ls hl => ?_)
  refine lv_iload_n hx hb dJ6_bitCount_0f7a4_41 rfl (lv_at hl 0 rfl) ?_
  refine lv_iload_n hx hb dJ6_bitCount_0f7a4_42 rfl (lv_at hl 0 rfl) ?_
  refine lv_bipush (v := 16) hx hb dJ6_bitCount_0f7a4_43 (by decide) ?_
  refine lv_iushr (v := (v4.toUInt32 >>> ((16 : Int32).toUInt32 &&& Int32.toUInt32 31)).toInt32) hx hb dJ6_bitCount_0f7a4_45 rfl ?_
  refine lv_iadd hx hb dJ6_bitCount_0f7a4_46 ?_
  refine lv_topi (fun v5 ev5 => ?_)
  have hf := bnd_at v5 ev5 hf
  refine lv_istore_n (lv' := [(0, .int v5)]) hx hb dJ6_bitCount_0f7a4_47 rfl hl (by decide) rfl (fun ls hl => ?_)
  refine lv_iload_n hx hb dJ6_bitCount_0f7a4_48 rfl (lv_at hl 0 rfl) ?_
  refine lv_bipush (v := 63) hx hb dJ6_bitCount_0f7a4_49 (by decide) ?_
  refine lv_iand hx hb dJ6_bitCount_0f7a4_51 ?_
  subst hf
  exact hQ _ _ _ _ dJ6_bitCount_0f7a4_52 hP hS
set_option maxHeartbeats 4000000 in
set_option maxRecDepth 100000 in
theorem c_X0_wrongWith (l : Launch) {D : va_G} {a : Nat → Nat} {cA : Nat → ClassId} {A : Nat → Prop} {sa : Nat → Nat} (hDA : DA a A) {σ : PH} {d : PD} {h : Nat} (hh : isHall h) (p1 : Int32) (p2 : Int32) {u : Int32} (hf : f_X0_wrongWith σ h p1 p2 = some u) : CTi l yX0_wrongWith cX0_wrongWith 5 (some .int) 1 20 D a cA A sa [.ref (a (h + 1)), .int p1, .int p2] σ d u σ d := by
  refine zz_metI zpl_X0 hDA (Nat.le_of_ble_eq_true rfl) ?_
  intro p e R s m args below meth c Q ls hx hb hml C hRf hRl hQ hP hS hl
  have hl : lv_has ls 5 [(0, .ref (a (h + 1))), (1, .int p1), (2, .int p2)] := hl
  unfold f_X0_wrongWith at hf
  refine lv_iload_n hx hb dX0_wrongWith_0 rfl (lv_at hl 1 rfl) ?_
  refine lv_if_lt (tgt := 12) hx hb dX0_wrongWith_1 (by decide) (fun hb0 => ?_) (fun hb0 => ?_)
  · have hf := ifT hb0 hf
    refine lv_iconst (v := (-1)) hx hb dX0_wrongWith_12 (by decide) ?_
    have hf := Option.some.inj hf
    subst hf
    exact hQ _ _ _ _ dX0_wrongWith_13 hP hS
  · have hf := ifF hb0 hf
    refine lv_iload_n hx hb dX0_wrongWith_4 rfl (lv_at hl 1 rfl) ?_
    refine lv_aload_n hx hb dX0_wrongWith_5 rfl (lv_at hl 0 rfl) ?_
    refine zg_X0_27 hx hb C hP (lth hh 1 (by decide)) (lay_h1 hh) rfl dX0_wrongWith_6 ?_
    refine lv_icmp_lt (tgt := 14) hx hb dX0_wrongWith_9 (by decide) (fun hb1 => ?_) (fun hb1 => ?_)
    · have hf := ifT hb1 hf
      refine lv_aload_n hx hb dX0_wrongWith_14 rfl (lv_at hl 0 rfl) ?_
      refine zg_X0_21 hx hb C hP (lth hh 1 (by decide)) (lay_h1 hh) rfl dX0_wrongWith_15 ?_
      refine lv_iload_n hx hb dX0_wrongWith_18 rfl (lv_at hl 1 rfl) ?_
      obtain ⟨hc2, hf⟩ := chk_some hf
      refine zz_iald hx hb C hP (lth hh 5 (by decide)) (lay_h5 hh) (inb_vp hc2) dX0_wrongWith_19 ?_
      refine lv_topi (fun v4 ev4 => ?_)
      have hf := bnd_at v4 ev4 hf
      refine lv_istore_n (lv' := [(3, .int v4), (0, .ref (a (h + 1))), (1, .int p1), (2, .int p2)]) hx hb dX0_wrongWith_20 rfl hl (by decide) rfl (fun ls hl => ?_)
      refine lv_aload_n hx hb dX0_wrongWith_21 rfl (lv_at hl 1 rfl) ?_
      refine zg_X0_11 hx hb C hP (lth hh 1 (by decide)) (lay_h1 hh) rfl dX0_wrongWith_22 ?_
      refine lv_iload_n hx hb dX0_wrongWith_25 rfl (lv_at hl 2 rfl) ?_
      obtain ⟨hc4, hf⟩ := chk_some hf
      refine zz_iald hx hb C hP (lth hh 2 (by decide)) (lay_h2 hh) (inb_vp hc4) dX0_wrongWith_26 ?_
      by_cases hb5 : (gI σ (h + 2) p1.toNatClampNeg) = 0
      · have hf := ifT hb5 hf
        refine lv_tableIn (tgt := 68) hx hb dX0_wrongWith_27 (by rw [hb5]; decide) (by rw [hb5]; decide) (by rw [hb5]; rfl) (by decide) ?_
        refine lv_iconst (v := 0) hx hb dX0_wrongWith_68 (by decide) ?_
        have hf := Option.some.inj hf
        subst hf
        exact hQ _ _ _ _ dX0_wrongWith_69 hP hS
      have hf := ifF hb5 hf
      by_cases hb6 : (gI σ (h + 2) p1.toNatClampNeg) = 1
      · have hf := ifT hb6 hf
        refine lv_tableIn (tgt := 70) hx hb dX0_wrongWith_27 (by rw [hb6]; decide) (by rw [hb6]; decide) (by rw [hb6]; rfl) (by decide) ?_
        refine lv_iload_n hx hb dX0_wrongWith_70 rfl (lv_at hl 3 rfl) ?_
        refine lv_aload_n hx hb dX0_wrongWith_71 rfl (lv_at hl 1 rfl) ?_
        refine zg_X0_24 hx hb C hP (lth hh 1 (by decide)) (lay_h1 hh) rfl dX0_wrongWith_72 ?_
        refine lv_iload_n hx hb dX0_wrongWith_75 rfl (lv_at hl 0 rfl) ?_
        obtain ⟨hc7, hf⟩ := chk_some hf
        refine zz_iald hx hb C hP (lth hh 6 (by decide)) (lay_h6 hh) (inb_vp hc7) dX0_wrongWith_76 ?_
        refine lv_iand hx hb dX0_wrongWith_77 ?_
        have hf := Option.some.inj hf
        subst hf
        exact hQ _ _ _ _ dX0_wrongWith_78 hP hS
      have hf := ifF hb6 hf
      by_cases hb8 : (gI σ (h + 2) p1.toNatClampNeg) = 2
      · have hf := ifT hb8 hf
        refine lv_tableIn (tgt := 97) hx hb dX0_wrongWith_27 (by rw [hb8]; decide) (by rw [hb8]; decide) (by rw [hb8]; rfl) (by decide) ?_
        refine lv_iload_n hx hb dX0_wrongWith_97 rfl (lv_at hl 3 rfl) ?_
        obtain ⟨u10, hzu10⟩ : ∃ z, z = f_J6_bitCount_0f7a4 p2 := ⟨_, rfl⟩
        have hf := bnd_at u10 hzu10 hf
        refine zz_callSi (rest := []) hx hb hml C hP hS (c_J6_bitCount_0f7a4 l hDA p2 hzu10.symm) zw_X0_55 ⟨Nat.le_trans (Nat.le_of_ble_eq_true rfl) hRf, Nat.le_trans (Nat.le_of_ble_eq_true rfl) hRl⟩  rfl hl.1 (Nat.le_of_ble_eq_true rfl) ⟨Nat.zero_le _, Nat.zero_le _⟩ rfl dX0_wrongWith_98 (fun H locs hP hS => ?_)
        refine lv_aload_n hx hb dX0_wrongWith_101 rfl (lv_at hl 1 rfl) ?_
        refine zg_X0_15 hx hb C hP (lth hh 1 (by decide)) (lay_h1 hh) rfl dX0_wrongWith_102 ?_
        refine lv_iload_n hx hb dX0_wrongWith_105 rfl (lv_at hl 2 rfl) ?_
        obtain ⟨hc10, hf⟩ := chk_some hf
        refine zz_iald hx hb C hP (lth hh 3 (by decide)) (lay_h3 hh) (inb_vp hc10) dX0_wrongWith_106 ?_
        refine lv_iconst (v := 1) hx hb dX0_wrongWith_107 (by decide) ?_
        refine lv_iadd hx hb dX0_wrongWith_108 ?_
        refine lv_icmp_gt (tgt := 116) hx hb dX0_wrongWith_109 (by decide) (fun hb11 => ?_) (fun hb11 => ?_)
        · have hf := ifT hb11 hf
          refine lv_iconst (v := 0) hx hb dX0_wrongWith_116 (by decide) ?_
          have hf := Option.some.inj hf
          subst hf
          exact hQ _ _ _ _ dX0_wrongWith_117 hP hS
        · have hf := ifF hb11 hf
          refine lv_iconst (v := (-1)) hx hb dX0_wrongWith_112 (by decide) ?_
          refine lv_goto (tgt := 117) hx hb dX0_wrongWith_113 (by decide) ?_
          have hf := Option.some.inj hf
          subst hf
          exact hQ _ _ _ _ dX0_wrongWith_117 hP hS
      have hf := ifF hb8 hf
      by_cases hb12 : (gI σ (h + 2) p1.toNatClampNeg) = 3
      · have hf := ifT hb12 hf
        refine lv_tableIn (tgt := 79) hx hb dX0_wrongWith_27 (by rw [hb12]; decide) (by rw [hb12]; decide) (by rw [hb12]; rfl) (by decide) ?_
        refine lv_iload_n hx hb dX0_wrongWith_79 rfl (lv_at hl 3 rfl) ?_
        refine lv_aload_n hx hb dX0_wrongWith_80 rfl (lv_at hl 1 rfl) ?_
        refine zg_X0_24 hx hb C hP (lth hh 1 (by decide)) (lay_h1 hh) rfl dX0_wrongWith_81 ?_
        refine lv_iload_n hx hb dX0_wrongWith_84 rfl (lv_at hl 0 rfl) ?_
        obtain ⟨hc13, hf⟩ := chk_some hf
        refine zz_iald hx hb C hP (lth hh 6 (by decide)) (lay_h6 hh) (inb_vp hc13) dX0_wrongWith_85 ?_
        refine lv_aload_n hx hb dX0_wrongWith_86 rfl (lv_at hl 1 rfl) ?_
        refine zg_X0_24 hx hb C hP (lth hh 1 (by decide)) (lay_h1 hh) rfl dX0_wrongWith_87 ?_
        refine lv_iload_n hx hb dX0_wrongWith_90 rfl (lv_at hl 0 rfl) ?_
        refine lv_iconst (v := 2) hx hb dX0_wrongWith_91 (by decide) ?_
        refine lv_iadd hx hb dX0_wrongWith_92 ?_
        obtain ⟨hc14, hf⟩ := chk_some hf
        refine zz_iald hx hb C hP (lth hh 6 (by decide)) (lay_h6 hh) (inb_vp hc14) dX0_wrongWith_93 ?_
        refine lv_ior hx hb dX0_wrongWith_94 ?_
        refine lv_iand hx hb dX0_wrongWith_95 ?_
        have hf := Option.some.inj hf
        subst hf
        exact hQ _ _ _ _ dX0_wrongWith_96 hP hS
      have hf := ifF hb12 hf
      by_cases hb15 : (gI σ (h + 2) p1.toNatClampNeg) = 4
      · have hf := ifT hb15 hf
        refine lv_tableIn (tgt := 183) hx hb dX0_wrongWith_27 (by rw [hb15]; decide) (by rw [hb15]; decide) (by rw [hb15]; rfl) (by decide) ?_
        refine lv_iconst (v := (-1)) hx hb dX0_wrongWith_183 (by decide) ?_
        have hf := Option.some.inj hf
        subst hf
        exact hQ _ _ _ _ dX0_wrongWith_184 hP hS
      have hf := ifF hb15 hf
      by_cases hb16 : (gI σ (h + 2) p1.toNatClampNeg) = 5
      · have hf := ifT hb16 hf
        refine lv_tableIn (tgt := 118) hx hb dX0_wrongWith_27 (by rw [hb16]; decide) (by rw [hb16]; decide) (by rw [hb16]; rfl) (by decide) ?_
        refine lv_iload_n hx hb dX0_wrongWith_118 rfl (lv_at hl 0 rfl) ?_
        have hJ137 : ∀ (v18 : Int32), j_X0_wrongWith_137 σ h p1 p2 v18 = some u → ∀ (H : Heap) (locs : List Loc) (ls : Array Slot), lv_has ls 5 [(0, .ref (a (h + 1))), (1, .int p1), (2, .int p2)] → va_P D vwCl (wl a cA σ d) H → va_S A s.heap H locs → W p l e R s m args below meth c H locs 0 0 Q (F0 m 137 ls [.int v18]) := by
          intro v18 hf H locs ls hl hP hS
          unfold j_X0_wrongWith_137 at hf
          refine lv_istore (lv' := [(4, .int v18), (0, .ref (a (h + 1))), (1, .int p1), (2, .int p2)]) hx hb dX0_wrongWith_137 hl (by decide) rfl (fun ls hl => ?_)
          refine lv_iload hx hb dX0_wrongWith_139 (lv_at hl 0 rfl) ?_
          refine lv_if_ne (tgt := 159) hx hb dX0_wrongWith_141 (by decide) (fun hb18 => ?_) (fun hb18 => ?_)
          · have hf := ifF hb18 hf
            refine lv_iconst (v := (-1)) hx hb dX0_wrongWith_159 (by decide) ?_
            refine lv_goto (tgt := 164) hx hb dX0_wrongWith_160 (by decide) ?_
            have hf := Option.some.inj hf
            subst hf
            exact hQ _ _ _ _ dX0_wrongWith_164 hP hS
          · have hf := ifT hb18 hf
            refine lv_iload_n hx hb dX0_wrongWith_144 rfl (lv_at hl 3 rfl) ?_
            obtain ⟨u20, hzu20⟩ : ∃ z, z = f_J6_bitCount_0f7a4 p2 := ⟨_, rfl⟩
            have hf := bnd_at u20 hzu20 hf
            refine zz_callSi (rest := []) hx hb hml C hP hS (c_J6_bitCount_0f7a4 l hDA p2 hzu20.symm) zw_X0_55 ⟨Nat.le_trans (Nat.le_of_ble_eq_true rfl) hRf, Nat.le_trans (Nat.le_of_ble_eq_true rfl) hRl⟩  rfl hl.1 (Nat.le_of_ble_eq_true rfl) ⟨Nat.zero_le _, Nat.zero_le _⟩ rfl dX0_wrongWith_145 (fun H locs hP hS => ?_)
            refine lv_aload_n hx hb dX0_wrongWith_148 rfl (lv_at hl 1 rfl) ?_
            refine zg_X0_15 hx hb C hP (lth hh 1 (by decide)) (lay_h1 hh) rfl dX0_wrongWith_149 ?_
            refine lv_iload_n hx hb dX0_wrongWith_152 rfl (lv_at hl 2 rfl) ?_
            obtain ⟨hc20, hf⟩ := chk_some hf
            refine zz_iald hx hb C hP (lth hh 3 (by decide)) (lay_h3 hh) (inb_vp hc20) dX0_wrongWith_153 ?_
            refine lv_iconst (v := 1) hx hb dX0_wrongWith_154 (by decide) ?_
            refine lv_iadd hx hb dX0_wrongWith_155 ?_
            refine lv_icmp_gt (tgt := 163) hx hb dX0_wrongWith_156 (by decide) (fun hb21 => ?_) (fun hb21 => ?_)
            · have hf := ifT hb21 hf
              refine lv_iconst (v := 0) hx hb dX0_wrongWith_163 (by decide) ?_
              have hf := Option.some.inj hf
              subst hf
              exact hQ _ _ _ _ dX0_wrongWith_164 hP hS
            · have hf := ifF hb21 hf
              refine lv_iconst (v := (-1)) hx hb dX0_wrongWith_159 (by decide) ?_
              refine lv_goto (tgt := 164) hx hb dX0_wrongWith_160 (by decide) ?_
              have hf := Option.some.inj hf
              subst hf
              exact hQ _ _ _ _ dX0_wrongWith_164 hP hS
        have hJ132 : j_X0_wrongWith_132 σ h p1 p2 = some u → ∀ (H : Heap) (locs : List Loc) (ls : Array Slot), lv_has ls 5 [(0, .ref (a (h + 1))), (1, .int p1), (2, .int p2)] → va_P D vwCl (wl a cA σ d) H → va_S A s.heap H locs → W p l e R s m args below meth c H locs 0 0 Q (F0 m 132 ls []) := by
          intro  hf H locs ls hl hP hS
          unfold j_X0_wrongWith_132 at hf
          refine lv_iconst (v := 1) hx hb dX0_wrongWith_132 (by decide) ?_
          refine lv_goto (tgt := 137) hx hb dX0_wrongWith_133 (by decide) ?_
          exact hJ137 _ hf _ _ _ (lv_sub hl [0, 1, 2] rfl) hP hS
        refine lv_if_eq (tgt := 132) hx hb dX0_wrongWith_119 (by decide) (fun hb22 => ?_) (fun hb22 => ?_)
        · have hf := ifT hb22 hf
          exact hJ132  hf _ _ _ (lv_sub hl [1, 2, 3] rfl) hP hS
        · have hf := ifF hb22 hf
          refine lv_iload_n hx hb dX0_wrongWith_122 rfl (lv_at hl 0 rfl) ?_
          refine lv_aload_n hx hb dX0_wrongWith_123 rfl (lv_at hl 1 rfl) ?_
          refine zg_X0_27 hx hb C hP (lth hh 1 (by decide)) (lay_h1 hh) rfl dX0_wrongWith_124 ?_
          refine lv_iconst (v := 1) hx hb dX0_wrongWith_127 (by decide) ?_
          refine lv_isub hx hb dX0_wrongWith_128 ?_
          refine lv_icmp_ne (tgt := 136) hx hb dX0_wrongWith_129 (by decide) (fun hb23 => ?_) (fun hb23 => ?_)
          · have hf := ifF hb23 hf
            refine lv_iconst (v := 0) hx hb dX0_wrongWith_136 (by decide) ?_
            exact hJ137 _ hf _ _ _ (lv_sub hl [1, 2, 3] rfl) hP hS
          · have hf := ifT hb23 hf
            exact hJ132  hf _ _ _ (lv_sub hl [1, 2, 3] rfl) hP hS
      have hf := ifF hb16 hf
      by_cases hb24 : (gI σ (h + 2) p1.toNatClampNeg) = 6
      · have hf := ifT hb24 hf
        refine lv_tableIn (tgt := 165) hx hb dX0_wrongWith_27 (by rw [hb24]; decide) (by rw [hb24]; decide) (by rw [hb24]; rfl) (by decide) ?_
        refine lv_iload_n hx hb dX0_wrongWith_165 rfl (lv_at hl 3 rfl) ?_
        refine lv_iconst (v := 1) hx hb dX0_wrongWith_166 (by decide) ?_
        refine lv_aload_n hx hb dX0_wrongWith_167 rfl (lv_at hl 1 rfl) ?_
        refine zg_X0_27 hx hb C hP (lth hh 1 (by decide)) (lay_h1 hh) rfl dX0_wrongWith_168 ?_
        refine lv_ishl hx hb dX0_wrongWith_171 ?_
        refine lv_iconst (v := 1) hx hb dX0_wrongWith_172 (by decide) ?_
        refine lv_isub hx hb dX0_wrongWith_173 ?_
        refine lv_icmp_ne (tgt := 181) hx hb dX0_wrongWith_174 (by decide) (fun hb25 => ?_) (fun hb25 => ?_)
        · have hf := ifF hb25 hf
          refine lv_iconst (v := (-1)) hx hb dX0_wrongWith_181 (by decide) ?_
          have hf := Option.some.inj hf
          subst hf
          exact hQ _ _ _ _ dX0_wrongWith_182 hP hS
        · have hf := ifT hb25 hf
          refine lv_iconst (v := 0) hx hb dX0_wrongWith_177 (by decide) ?_
          refine lv_goto (tgt := 182) hx hb dX0_wrongWith_178 (by decide) ?_
          have hf := Option.some.inj hf
          subst hf
          exact hQ _ _ _ _ dX0_wrongWith_182 hP hS
      have hf := ifF hb24 hf
      refine lv_tableOut (tgt := 183) hx hb dX0_wrongWith_27 (sw_0_6 hb5 hb6 hb8 hb12 hb15 hb16 hb24) (by decide) ?_
      refine lv_iconst (v := (-1)) hx hb dX0_wrongWith_183 (by decide) ?_
      have hf := Option.some.inj hf
      subst hf
      exact hQ _ _ _ _ dX0_wrongWith_184 hP hS
    · have hf := ifF hb1 hf
      refine lv_iconst (v := (-1)) hx hb dX0_wrongWith_12 (by decide) ?_
      have hf := Option.some.inj hf
      subst hf
      exact hQ _ _ _ _ dX0_wrongWith_13 hP hS
set_option maxHeartbeats 4000000 in
set_option maxRecDepth 100000 in
theorem c_J6_numberOfTrailingZeros_0f7a4 (l : Launch) {D : va_G} {a : Nat → Nat} {cA : Nat → ClassId} {A : Nat → Prop} {sa : Nat → Nat} (hDA : DA a A) {σ : PH} {d : PD} (p1 : Int32) {u : Int32} (hf : f_J6_numberOfTrailingZeros_0f7a4 p1 = u) : CTi l yJ6_numberOfTrailingZeros_0f7a4 cJ6_numberOfTrailingZeros_0f7a4 2 (some .int) 0 0 D a cA A sa [.int p1] σ d u σ d := by
  refine zz_metI zpl_J6 hDA (Nat.le_of_ble_eq_true rfl) ?_
  intro p e R s m args below meth c Q ls hx hb hml C hRf hRl hQ hP hS hl
  have hl : lv_has ls 2 [(0, .int p1)] := hl
  unfold f_J6_numberOfTrailingZeros_0f7a4 at hf
  refine lv_iload_n hx hb dJ6_numberOfTrailingZeros_0f7a4_0 rfl (lv_at hl 0 rfl) ?_
  refine lv_iconst (v := (-1)) hx hb dJ6_numberOfTrailingZeros_0f7a4_1 (by decide) ?_
  refine lv_ixor hx hb dJ6_numberOfTrailingZeros_0f7a4_2 ?_
  refine lv_iload_n hx hb dJ6_numberOfTrailingZeros_0f7a4_3 rfl (lv_at hl 0 rfl) ?_
  refine lv_iconst (v := 1) hx hb dJ6_numberOfTrailingZeros_0f7a4_4 (by decide) ?_
  refine lv_isub hx hb dJ6_numberOfTrailingZeros_0f7a4_5 ?_
  refine lv_iand hx hb dJ6_numberOfTrailingZeros_0f7a4_6 ?_
  refine lv_topi (fun v1 ev1 => ?_)
  have hf := bnd_at v1 ev1 hf
  refine lv_istore_n (lv' := [(0, .int v1)]) hx hb dJ6_numberOfTrailingZeros_0f7a4_7 rfl hl (by decide) rfl (fun ls hl => ?_)
  refine lv_iload_n hx hb dJ6_numberOfTrailingZeros_0f7a4_8 rfl (lv_at hl 0 rfl) ?_
  refine lv_if_gt (tgt := 17) hx hb dJ6_numberOfTrailingZeros_0f7a4_9 (by decide) (fun hb1 => ?_) (fun hb1 => ?_)
  · have hf := ifT hb1 hf
    refine lv_iconst (v := 1) hx hb dJ6_numberOfTrailingZeros_0f7a4_17 (by decide) ?_
    refine lv_istore_n (lv' := [(1, .int 1), (0, .int v1)]) hx hb dJ6_numberOfTrailingZeros_0f7a4_18 rfl hl (by decide) rfl (fun ls hl => ?_)
    refine lv_iload_n hx hb dJ6_numberOfTrailingZeros_0f7a4_19 rfl (lv_at hl 1 rfl) ?_
    refine lv_ldcw (v := 65536) hx hb C.1 (C.2.1 _ kk_J6_264) dJ6_numberOfTrailingZeros_0f7a4_20 ?_
    have hJ34 : ∀ (v3 : Int32) (v4 : Int32), j_J6_numberOfTrailingZeros_0f7a4_34 v3 v4 = u → ∀ (H : Heap) (locs : List Loc) (ls : Array Slot), lv_has ls 2 [(0, .int v3), (1, .int v4)] → va_P D vwCl (wl a cA σ d) H → va_S A s.heap H locs → W p l e R s m args below meth c H locs 0 0 Q (F0 m 34 ls []) := by
      intro v3 v4 hf H locs ls hl hP hS
      unfold j_J6_numberOfTrailingZeros_0f7a4_34 at hf
      refine lv_iload_n hx hb dJ6_numberOfTrailingZeros_0f7a4_34 rfl (lv_at hl 0 rfl) ?_
      refine lv_sipush (v := 256) hx hb dJ6_numberOfTrailingZeros_0f7a4_35 (by decide) ?_
      have hJ49 : ∀ (v5 : Int32) (v6 : Int32), j_J6_numberOfTrailingZeros_0f7a4_49 v5 v6 = u → ∀ (H : Heap) (locs : List Loc) (ls : Array Slot), lv_has ls 2 [(0, .int v5), (1, .int v6)] → va_P D vwCl (wl a cA σ d) H → va_S A s.heap H locs → W p l e R s m args below meth c H locs 0 0 Q (F0 m 49 ls []) := by
        intro v5 v6 hf H locs ls hl hP hS
        unfold j_J6_numberOfTrailingZeros_0f7a4_49 at hf
        refine lv_iload_n hx hb dJ6_numberOfTrailingZeros_0f7a4_49 rfl (lv_at hl 0 rfl) ?_
        refine lv_bipush (v := 16) hx hb dJ6_numberOfTrailingZeros_0f7a4_50 (by decide) ?_
        have hJ62 : ∀ (v7 : Int32) (v8 : Int32), j_J6_numberOfTrailingZeros_0f7a4_62 v7 v8 = u → ∀ (H : Heap) (locs : List Loc) (ls : Array Slot), lv_has ls 2 [(0, .int v7), (1, .int v8)] → va_P D vwCl (wl a cA σ d) H → va_S A s.heap H locs → W p l e R s m args below meth c H locs 0 0 Q (F0 m 62 ls []) := by
          intro v7 v8 hf H locs ls hl hP hS
          unfold j_J6_numberOfTrailingZeros_0f7a4_62 at hf
          refine lv_iload_n hx hb dJ6_numberOfTrailingZeros_0f7a4_62 rfl (lv_at hl 0 rfl) ?_
          refine lv_iconst (v := 4) hx hb dJ6_numberOfTrailingZeros_0f7a4_63 (by decide) ?_
          refine lv_icmp_le (tgt := 74) hx hb dJ6_numberOfTrailingZeros_0f7a4_64 (by decide) (fun hb8 => ?_) (fun hb8 => ?_)
          · have hf := ifT hb8 hf
            refine lv_iload_n hx hb dJ6_numberOfTrailingZeros_0f7a4_74 rfl (lv_at hl 1 rfl) ?_
            refine lv_iload_n hx hb dJ6_numberOfTrailingZeros_0f7a4_75 rfl (lv_at hl 0 rfl) ?_
            refine lv_iconst (v := 1) hx hb dJ6_numberOfTrailingZeros_0f7a4_76 (by decide) ?_
            refine lv_iushr (v := (v7.toUInt32 >>> ((1 : Int32).toUInt32 &&& Int32.toUInt32 31)).toInt32) hx hb dJ6_numberOfTrailingZeros_0f7a4_77 rfl ?_
            refine lv_iadd hx hb dJ6_numberOfTrailingZeros_0f7a4_78 ?_
            subst hf
            exact hQ _ _ _ _ dJ6_numberOfTrailingZeros_0f7a4_79 hP hS
          · have hf := ifF hb8 hf
            obtain ⟨v10, ev10⟩ : ∃ z : Int32, z = v8 + 2 := ⟨_, rfl⟩
            have hf := bnd_at v10 ev10 hf
            refine lv_iinc (v := v10) (lv' := [(1, .int v10), (0, .int v7)]) hx hb dJ6_numberOfTrailingZeros_0f7a4_67 hl (k := 1) rfl (by rw [ev10]; rfl) (by decide) rfl (fun ls hl => ?_)
            refine lv_iload_n hx hb dJ6_numberOfTrailingZeros_0f7a4_70 rfl (lv_at hl 1 rfl) ?_
            refine lv_iconst (v := 2) hx hb dJ6_numberOfTrailingZeros_0f7a4_71 (by decide) ?_
            refine lv_iushr (v := (v7.toUInt32 >>> ((2 : Int32).toUInt32 &&& Int32.toUInt32 31)).toInt32) hx hb dJ6_numberOfTrailingZeros_0f7a4_72 rfl ?_
            refine lv_topi (fun v11 ev11 => ?_)
            have hf := bnd_at v11 ev11 hf
            refine lv_istore_n (lv' := [(0, .int v11), (1, .int v10)]) hx hb dJ6_numberOfTrailingZeros_0f7a4_73 rfl hl (by decide) rfl (fun ls hl => ?_)
            refine lv_iload_n hx hb dJ6_numberOfTrailingZeros_0f7a4_74 rfl (lv_at hl 1 rfl) ?_
            refine lv_iload_n hx hb dJ6_numberOfTrailingZeros_0f7a4_75 rfl (lv_at hl 0 rfl) ?_
            refine lv_iconst (v := 1) hx hb dJ6_numberOfTrailingZeros_0f7a4_76 (by decide) ?_
            refine lv_iushr (v := (v11.toUInt32 >>> ((1 : Int32).toUInt32 &&& Int32.toUInt32 31)).toInt32) hx hb dJ6_numberOfTrailingZeros_0f7a4_77 rfl ?_
            refine lv_iadd hx hb dJ6_numberOfTrailingZeros_0f7a4_78 ?_
            subst hf
            exact hQ _ _ _ _ dJ6_numberOfTrailingZeros_0f7a4_79 hP hS
        refine lv_icmp_le (tgt := 62) hx hb dJ6_numberOfTrailingZeros_0f7a4_52 (by decide) (fun hb11 => ?_) (fun hb11 => ?_)
        · have hf := ifT hb11 hf
          exact hJ62 _ _ hf _ _ _ (lv_sub hl [0, 1] rfl) hP hS
        · have hf := ifF hb11 hf
          obtain ⟨v13, ev13⟩ : ∃ z : Int32, z = v6 + 4 := ⟨_, rfl⟩
          have hf := bnd_at v13 ev13 hf
          refine lv_iinc (v := v13) (lv' := [(1, .int v13), (0, .int v5)]) hx hb dJ6_numberOfTrailingZeros_0f7a4_55 hl (k := 1) rfl (by rw [ev13]; rfl) (by decide) rfl (fun ls hl => ?_)
          refine lv_iload_n hx hb dJ6_numberOfTrailingZeros_0f7a4_58 rfl (lv_at hl 1 rfl) ?_
          refine lv_iconst (v := 4) hx hb dJ6_numberOfTrailingZeros_0f7a4_59 (by decide) ?_
          refine lv_iushr (v := (v5.toUInt32 >>> ((4 : Int32).toUInt32 &&& Int32.toUInt32 31)).toInt32) hx hb dJ6_numberOfTrailingZeros_0f7a4_60 rfl ?_
          refine lv_topi (fun v14 ev14 => ?_)
          have hf := bnd_at v14 ev14 hf
          refine lv_istore_n (lv' := [(0, .int v14), (1, .int v13)]) hx hb dJ6_numberOfTrailingZeros_0f7a4_61 rfl hl (by decide) rfl (fun ls hl => ?_)
          exact hJ62 _ _ hf _ _ _ (lv_sub hl [0, 1] rfl) hP hS
      refine lv_icmp_le (tgt := 49) hx hb dJ6_numberOfTrailingZeros_0f7a4_38 (by decide) (fun hb14 => ?_) (fun hb14 => ?_)
      · have hf := ifT hb14 hf
        exact hJ49 _ _ hf _ _ _ (lv_sub hl [0, 1] rfl) hP hS
      · have hf := ifF hb14 hf
        obtain ⟨v16, ev16⟩ : ∃ z : Int32, z = v4 + 8 := ⟨_, rfl⟩
        have hf := bnd_at v16 ev16 hf
        refine lv_iinc (v := v16) (lv' := [(1, .int v16), (0, .int v3)]) hx hb dJ6_numberOfTrailingZeros_0f7a4_41 hl (k := 1) rfl (by rw [ev16]; rfl) (by decide) rfl (fun ls hl => ?_)
        refine lv_iload_n hx hb dJ6_numberOfTrailingZeros_0f7a4_44 rfl (lv_at hl 1 rfl) ?_
        refine lv_bipush (v := 8) hx hb dJ6_numberOfTrailingZeros_0f7a4_45 (by decide) ?_
        refine lv_iushr (v := (v3.toUInt32 >>> ((8 : Int32).toUInt32 &&& Int32.toUInt32 31)).toInt32) hx hb dJ6_numberOfTrailingZeros_0f7a4_47 rfl ?_
        refine lv_topi (fun v17 ev17 => ?_)
        have hf := bnd_at v17 ev17 hf
        refine lv_istore_n (lv' := [(0, .int v17), (1, .int v16)]) hx hb dJ6_numberOfTrailingZeros_0f7a4_48 rfl hl (by decide) rfl (fun ls hl => ?_)
        exact hJ49 _ _ hf _ _ _ (lv_sub hl [0, 1] rfl) hP hS
    refine lv_icmp_le (tgt := 34) hx hb dJ6_numberOfTrailingZeros_0f7a4_23 (by decide) (fun hb17 => ?_) (fun hb17 => ?_)
    · have hf := ifT hb17 hf
      exact hJ34 _ _ hf _ _ _ (lv_sub hl [1, 0] rfl) hP hS
    · have hf := ifF hb17 hf
      obtain ⟨v19, ev19⟩ : ∃ z : Int32, z = 1 + 16 := ⟨_, rfl⟩
      have hf := bnd_at v19 ev19 hf
      refine lv_iinc (v := v19) (lv' := [(1, .int v19), (0, .int v1)]) hx hb dJ6_numberOfTrailingZeros_0f7a4_26 hl (k := 0) rfl (by rw [ev19]; rfl) (by decide) rfl (fun ls hl => ?_)
      refine lv_iload_n hx hb dJ6_numberOfTrailingZeros_0f7a4_29 rfl (lv_at hl 1 rfl) ?_
      refine lv_bipush (v := 16) hx hb dJ6_numberOfTrailingZeros_0f7a4_30 (by decide) ?_
      refine lv_iushr (v := (v1.toUInt32 >>> ((16 : Int32).toUInt32 &&& Int32.toUInt32 31)).toInt32) hx hb dJ6_numberOfTrailingZeros_0f7a4_32 rfl ?_
      refine lv_topi (fun v20 ev20 => ?_)
      have hf := bnd_at v20 ev20 hf
      refine lv_istore_n (lv' := [(0, .int v20), (1, .int v19)]) hx hb dJ6_numberOfTrailingZeros_0f7a4_33 rfl hl (by decide) rfl (fun ls hl => ?_)
      exact hJ34 _ _ hf _ _ _ (lv_sub hl [0, 1] rfl) hP hS
  · have hf := ifF hb1 hf
    refine lv_iload_n hx hb dJ6_numberOfTrailingZeros_0f7a4_12 rfl (lv_at hl 0 rfl) ?_
    refine lv_bipush (v := 32) hx hb dJ6_numberOfTrailingZeros_0f7a4_13 (by decide) ?_
    refine lv_iand hx hb dJ6_numberOfTrailingZeros_0f7a4_15 ?_
    subst hf
    exact hQ _ _ _ _ dJ6_numberOfTrailingZeros_0f7a4_16 hP hS
set_option maxHeartbeats 4000000 in
set_option maxRecDepth 100000 in
theorem c_X0_tellsOf (l : Launch) {D : va_G} {a : Nat → Nat} {cA : Nat → ClassId} {A : Nat → Prop} {sa : Nat → Nat} (hDA : DA a A) {σ : PH} {d : PD} {h : Nat} (hh : isHall h) (p1 : Int32) (p2 : Int32) {u : Int32} (hf : f_X0_tellsOf σ h p1 p2 = some u) : CTi l yX0_tellsOf cX0_tellsOf 4 (some .int) 1 21 D a cA A sa [.ref (a (h + 1)), .int p1, .int p2] σ d u σ d := by
  refine zz_metI zpl_X0 hDA (Nat.le_of_ble_eq_true rfl) ?_
  intro p e R s m args below meth c Q ls hx hb hml C hRf hRl hQ hP hS hl
  have hl : lv_has ls 4 [(0, .ref (a (h + 1))), (1, .int p1), (2, .int p2)] := hl
  unfold f_X0_tellsOf at hf
  refine lv_aload_n hx hb dX0_tellsOf_0 rfl (lv_at hl 0 rfl) ?_
  refine lv_iload_n hx hb dX0_tellsOf_1 rfl (lv_at hl 1 rfl) ?_
  obtain ⟨u1, hzu1⟩ : ∃ z, z = f_X0_has σ h p1 := ⟨_, rfl⟩
  have hf := bnd_at u1 hzu1 hf
  refine zz_callVi (rest := []) hx hb hml C hP hS (c_X0_has l hDA (h := h) hh p1 hzu1.symm) zw_X0_52 ⟨Nat.le_trans (Nat.le_of_ble_eq_true rfl) hRf, Nat.le_trans (Nat.le_of_ble_eq_true rfl) hRl⟩ (lth hh 1 (by decide)) (lay_h1 hh) rfl rfl hl.1 (Nat.le_of_ble_eq_true rfl) ⟨Nat.zero_le _, Nat.zero_le _⟩ rfl dX0_tellsOf_2 (fun H locs hP hS => ?_)
  refine lv_if_ne (tgt := 10) hx hb dX0_tellsOf_5 (by decide) (fun hb1 => ?_) (fun hb1 => ?_)
  · have hf := ifF hb1 hf
    refine lv_iload_n hx hb dX0_tellsOf_10 rfl (lv_at hl 2 rfl) ?_
    have hJ55 : j_X0_tellsOf_55 σ h p1 = some u → ∀ (H : Heap) (locs : List Loc) (ls : Array Slot), lv_has ls 4 [(0, .ref (a (h + 1))), (1, .int p1)] → va_P D vwCl (wl a cA σ d) H → va_S A s.heap H locs → W p l e R s m args below meth c H locs 0 0 Q (F0 m 55 ls []) := by
      intro  hf H locs ls hl hP hS
      unfold j_X0_tellsOf_55 at hf
      refine lv_aload_n hx hb dX0_tellsOf_55 rfl (lv_at hl 0 rfl) ?_
      refine zg_X0_24 hx hb C hP (lth hh 1 (by decide)) (lay_h1 hh) rfl dX0_tellsOf_56 ?_
      refine lv_aload_n hx hb dX0_tellsOf_59 rfl (lv_at hl 0 rfl) ?_
      refine zg_X0_21 hx hb C hP (lth hh 1 (by decide)) (lay_h1 hh) rfl dX0_tellsOf_60 ?_
      refine lv_iload_n hx hb dX0_tellsOf_63 rfl (lv_at hl 1 rfl) ?_
      obtain ⟨hc2, hf⟩ := chk_some hf
      refine zz_iald hx hb C hP (lth hh 5 (by decide)) (lay_h5 hh) (inb_vp hc2) dX0_tellsOf_64 ?_
      obtain ⟨hc3, hf⟩ := chk_some hf
      refine zz_iald hx hb C hP (lth hh 6 (by decide)) (lay_h6 hh) (inb_vp hc3) dX0_tellsOf_65 ?_
      refine lv_topi (fun v5 ev5 => ?_)
      have hf := bnd_at v5 ev5 hf
      refine lv_istore_n (lv' := [(3, .int v5), (0, .ref (a (h + 1))), (1, .int p1)]) hx hb dX0_tellsOf_66 rfl hl (by decide) rfl (fun ls hl => ?_)
      refine lv_iload_n hx hb dX0_tellsOf_67 rfl (lv_at hl 0 rfl) ?_
      refine lv_if_ne (tgt := 75) hx hb dX0_tellsOf_68 (by decide) (fun hb5 => ?_) (fun hb5 => ?_)
      · have hf := ifF hb5 hf
        refine lv_iload_n hx hb dX0_tellsOf_75 rfl (lv_at hl 0 rfl) ?_
        obtain ⟨u7, hzu7⟩ : ∃ z, z = f_J6_numberOfTrailingZeros_0f7a4 v5 := ⟨_, rfl⟩
        have hf := bnd_at u7 hzu7 hf
        refine zz_callSi (rest := []) hx hb hml C hP hS (c_J6_numberOfTrailingZeros_0f7a4 l hDA v5 hzu7.symm) zw_X0_61 ⟨Nat.le_trans (Nat.le_of_ble_eq_true rfl) hRf, Nat.le_trans (Nat.le_of_ble_eq_true rfl) hRl⟩  rfl hl.1 (Nat.le_of_ble_eq_true rfl) ⟨Nat.zero_le _, Nat.zero_le _⟩ rfl dX0_tellsOf_76 (fun H locs hP hS => ?_)
        have hf := Option.some.inj hf
        subst hf
        exact hQ _ _ _ _ dX0_tellsOf_79 hP hS
      · have hf := ifT hb5 hf
        refine lv_iconst (v := (-1)) hx hb dX0_tellsOf_71 (by decide) ?_
        refine lv_goto (tgt := 79) hx hb dX0_tellsOf_72 (by decide) ?_
        have hf := Option.some.inj hf
        subst hf
        exact hQ _ _ _ _ dX0_tellsOf_79 hP hS
    by_cases hb7 : p2 = 0
    · have hf := ifT hb7 hf
      refine lv_tableIn (tgt := 48) hx hb dX0_tellsOf_11 (by rw [hb7]; decide) (by rw [hb7]; decide) (by rw [hb7]; rfl) (by decide) ?_
      refine lv_aload_n hx hb dX0_tellsOf_48 rfl (lv_at hl 0 rfl) ?_
      refine zg_X0_21 hx hb C hP (lth hh 1 (by decide)) (lay_h1 hh) rfl dX0_tellsOf_49 ?_
      refine lv_iload_n hx hb dX0_tellsOf_52 rfl (lv_at hl 1 rfl) ?_
      obtain ⟨hc8, hf⟩ := chk_some hf
      refine zz_iald hx hb C hP (lth hh 5 (by decide)) (lay_h5 hh) (inb_vp hc8) dX0_tellsOf_53 ?_
      have hf := Option.some.inj hf
      subst hf
      exact hQ _ _ _ _ dX0_tellsOf_54 hP hS
    have hf := ifF hb7 hf
    by_cases hb9 : p2 = 1
    · have hf := ifT hb9 hf
      refine lv_tableIn (tgt := 55) hx hb dX0_tellsOf_11 (by rw [hb9]; decide) (by rw [hb9]; decide) (by rw [hb9]; rfl) (by decide) ?_
      exact hJ55  hf _ _ _ (lv_sub hl [0, 1] rfl) hP hS
    have hf := ifF hb9 hf
    by_cases hb10 : p2 = 2
    · have hf := ifT hb10 hf
      refine lv_tableIn (tgt := 80) hx hb dX0_tellsOf_11 (by rw [hb10]; decide) (by rw [hb10]; decide) (by rw [hb10]; rfl) (by decide) ?_
      refine lv_aload_n hx hb dX0_tellsOf_80 rfl (lv_at hl 0 rfl) ?_
      refine zg_X0_15 hx hb C hP (lth hh 1 (by decide)) (lay_h1 hh) rfl dX0_tellsOf_81 ?_
      refine lv_iload_n hx hb dX0_tellsOf_84 rfl (lv_at hl 1 rfl) ?_
      obtain ⟨hc11, hf⟩ := chk_some hf
      refine zz_iald hx hb C hP (lth hh 3 (by decide)) (lay_h3 hh) (inb_vp hc11) dX0_tellsOf_85 ?_
      refine lv_iconst (v := 2) hx hb dX0_tellsOf_86 (by decide) ?_
      refine lv_iadd hx hb dX0_tellsOf_87 ?_
      have hf := Option.some.inj hf
      subst hf
      exact hQ _ _ _ _ dX0_tellsOf_88 hP hS
    have hf := ifF hb10 hf
    by_cases hb12 : p2 = 3
    · have hf := ifT hb12 hf
      refine lv_tableIn (tgt := 55) hx hb dX0_tellsOf_11 (by rw [hb12]; decide) (by rw [hb12]; decide) (by rw [hb12]; rfl) (by decide) ?_
      exact hJ55  hf _ _ _ (lv_sub hl [0, 1] rfl) hP hS
    have hf := ifF hb12 hf
    by_cases hb13 : p2 = 4
    · have hf := ifT hb13 hf
      refine lv_tableIn (tgt := 89) hx hb dX0_tellsOf_11 (by rw [hb13]; decide) (by rw [hb13]; decide) (by rw [hb13]; rfl) (by decide) ?_
      refine lv_aload_n hx hb dX0_tellsOf_89 rfl (lv_at hl 0 rfl) ?_
      refine zg_X0_15 hx hb C hP (lth hh 1 (by decide)) (lay_h1 hh) rfl dX0_tellsOf_90 ?_
      refine lv_iload_n hx hb dX0_tellsOf_93 rfl (lv_at hl 1 rfl) ?_
      obtain ⟨hc14, hf⟩ := chk_some hf
      refine zz_iald hx hb C hP (lth hh 3 (by decide)) (lay_h3 hh) (inb_vp hc14) dX0_tellsOf_94 ?_
      have hf := Option.some.inj hf
      subst hf
      exact hQ _ _ _ _ dX0_tellsOf_95 hP hS
    have hf := ifF hb13 hf
    by_cases hb15 : p2 = 5
    · have hf := ifT hb15 hf
      refine lv_tableIn (tgt := 80) hx hb dX0_tellsOf_11 (by rw [hb15]; decide) (by rw [hb15]; decide) (by rw [hb15]; rfl) (by decide) ?_
      refine lv_aload_n hx hb dX0_tellsOf_80 rfl (lv_at hl 0 rfl) ?_
      refine zg_X0_15 hx hb C hP (lth hh 1 (by decide)) (lay_h1 hh) rfl dX0_tellsOf_81 ?_
      refine lv_iload_n hx hb dX0_tellsOf_84 rfl (lv_at hl 1 rfl) ?_
      obtain ⟨hc16, hf⟩ := chk_some hf
      refine zz_iald hx hb C hP (lth hh 3 (by decide)) (lay_h3 hh) (inb_vp hc16) dX0_tellsOf_85 ?_
      refine lv_iconst (v := 2) hx hb dX0_tellsOf_86 (by decide) ?_
      refine lv_iadd hx hb dX0_tellsOf_87 ?_
      have hf := Option.some.inj hf
      subst hf
      exact hQ _ _ _ _ dX0_tellsOf_88 hP hS
    have hf := ifF hb15 hf
    refine lv_tableOut (tgt := 89) hx hb dX0_tellsOf_11 (sw_0_5 hb7 hb9 hb10 hb12 hb13 hb15) (by decide) ?_
    refine lv_aload_n hx hb dX0_tellsOf_89 rfl (lv_at hl 0 rfl) ?_
    refine zg_X0_15 hx hb C hP (lth hh 1 (by decide)) (lay_h1 hh) rfl dX0_tellsOf_90 ?_
    refine lv_iload_n hx hb dX0_tellsOf_93 rfl (lv_at hl 1 rfl) ?_
    obtain ⟨hc17, hf⟩ := chk_some hf
    refine zz_iald hx hb C hP (lth hh 3 (by decide)) (lay_h3 hh) (inb_vp hc17) dX0_tellsOf_94 ?_
    have hf := Option.some.inj hf
    subst hf
    exact hQ _ _ _ _ dX0_tellsOf_95 hP hS
  · have hf := ifT hb1 hf
    refine lv_iconst (v := (-1)) hx hb dX0_tellsOf_8 (by decide) ?_
    have hf := Option.some.inj hf
    subst hf
    exact hQ _ _ _ _ dX0_tellsOf_9 hP hS
set_option maxHeartbeats 4000000 in
set_option maxRecDepth 100000 in
theorem c_X0_isWithoutGap (l : Launch) {D : va_G} {a : Nat → Nat} {cA : Nat → ClassId} {A : Nat → Prop} {sa : Nat → Nat} (hDA : DA a A) {σ : PH} {d : PD} {h : Nat} (hh : isHall h) (p1 : Int32) {u : Int32} (hf : f_X0_isWithoutGap σ h p1 = some u) : CTi l yX0_isWithoutGap cX0_isWithoutGap 4 (some .boolean) 0 0 D a cA A sa [.ref (a (h + 1)), .int p1] σ d u σ d := by
  refine zz_metZ zpl_X0 hDA (Nat.le_of_ble_eq_true rfl) ?_
  intro p e R s m args below meth c Q ls hx hb hml C hRf hRl hQ hP hS hl
  have hl : lv_has ls 4 [(0, .ref (a (h + 1))), (1, .int p1)] := hl
  unfold f_X0_isWithoutGap at hf
  refine lv_iconst (v := 0) hx hb dX0_isWithoutGap_0 (by decide) ?_
  refine lv_istore_n (lv' := [(2, .int 0), (0, .ref (a (h + 1))), (1, .int p1)]) hx hb dX0_isWithoutGap_1 rfl hl (by decide) rfl (fun ls hl => ?_)
  refine lv_iconst (v := 0) hx hb dX0_isWithoutGap_2 (by decide) ?_
  refine lv_istore_n (lv' := [(3, .int 0), (2, .int 0), (0, .ref (a (h + 1))), (1, .int p1)]) hx hb dX0_isWithoutGap_3 rfl hl (by decide) rfl (fun ls hl => ?_)
  have hJ37 : ∀ (v1 : Int32), j_X0_isWithoutGap_37 v1 = some u → ∀ (H : Heap) (locs : List Loc) (ls : Array Slot), lv_has ls 4 [(2, .int v1)] → va_P D vwCl (wl a cA σ d) H → va_S A s.heap H locs → W p l e R s m args below meth c H locs 0 0 Q (F0 m 37 ls []) := by
    intro v1 hf H locs ls hl hP hS
    unfold j_X0_isWithoutGap_37 at hf
    refine lv_iload_n hx hb dX0_isWithoutGap_37 rfl (lv_at hl 0 rfl) ?_
    refine lv_iload_n hx hb dX0_isWithoutGap_38 rfl (lv_at hl 0 rfl) ?_
    refine lv_ineg hx hb dX0_isWithoutGap_39 ?_
    refine lv_iand hx hb dX0_isWithoutGap_40 ?_
    refine lv_topi (fun v2 ev2 => ?_)
    have hf := bnd_at v2 ev2 hf
    refine lv_istore_n (lv' := [(3, .int v2), (2, .int v1)]) hx hb dX0_isWithoutGap_41 rfl hl (by decide) rfl (fun ls hl => ?_)
    refine lv_iload_n hx hb dX0_isWithoutGap_42 rfl (lv_at hl 1 rfl) ?_
    refine lv_iload_n hx hb dX0_isWithoutGap_43 rfl (lv_at hl 0 rfl) ?_
    refine lv_iadd hx hb dX0_isWithoutGap_44 ?_
    refine lv_iload_n hx hb dX0_isWithoutGap_45 rfl (lv_at hl 1 rfl) ?_
    refine lv_iand hx hb dX0_isWithoutGap_46 ?_
    refine lv_if_ne (tgt := 54) hx hb dX0_isWithoutGap_47 (by decide) (fun hb2 => ?_) (fun hb2 => ?_)
    · have hf := ifF hb2 hf
      refine lv_iconst (v := 0) hx hb dX0_isWithoutGap_54 (by decide) ?_
      have hf := Option.some.inj hf
      subst hf
      exact hQ _ _ _ _ dX0_isWithoutGap_55 (show narrow .boolean (.int 0) = .int 0 from rfl) hP hS
    · have hf := ifT hb2 hf
      refine lv_iconst (v := 1) hx hb dX0_isWithoutGap_50 (by decide) ?_
      refine lv_goto (tgt := 55) hx hb dX0_isWithoutGap_51 (by decide) ?_
      have hf := Option.some.inj hf
      subst hf
      exact hQ _ _ _ _ dX0_isWithoutGap_55 (show narrow .boolean (.int 1) = .int 1 from rfl) hP hS
  refine loopN_ind (P := fun (q4 : Int32 × Int32) => ∀ (H : Heap) (locs : List Loc) (ls : Array Slot), lv_has ls 4 [(0, .ref (a (h + 1))), (1, .int p1), (2, .int q4.1), (3, .int q4.2)] → va_P D vwCl (wl a cA σ d) H → va_S A s.heap H locs → W p l e R s m args below meth c H locs 0 0 Q (F0 m 4 ls [])) ?_ _ _ hf _ _ _ (lv_sub hl [2, 3, 1, 0] rfl) hP hS
  intro k5 ihk5 q4 hf H locs ls hl hP hS
  unfold b_X0_isWithoutGap_4 at hf
  refine lv_iload_n hx hb dX0_isWithoutGap_4 rfl (lv_at hl 3 rfl) ?_
  refine lv_aload_n hx hb dX0_isWithoutGap_5 rfl (lv_at hl 0 rfl) ?_
  refine zg_X0_27 hx hb C hP (lth hh 1 (by decide)) (lay_h1 hh) rfl dX0_isWithoutGap_6 ?_
  refine lv_icmp_ge (tgt := 37) hx hb dX0_isWithoutGap_9 (by decide) (fun hb5 => ?_) (fun hb5 => ?_)
  · have hf := ifT hb5 hf
    exact hJ37 _ hf _ _ _ (lv_sub hl [2] rfl) hP hS
  · have hf := ifF hb5 hf
    refine lv_iload_n hx hb dX0_isWithoutGap_12 rfl (lv_at hl 1 rfl) ?_
    refine lv_iload_n hx hb dX0_isWithoutGap_13 rfl (lv_at hl 3 rfl) ?_
    refine lv_ishr hx hb dX0_isWithoutGap_14 ?_
    refine lv_iconst (v := 1) hx hb dX0_isWithoutGap_15 (by decide) ?_
    refine lv_iand hx hb dX0_isWithoutGap_16 ?_
    refine lv_if_eq (tgt := 31) hx hb dX0_isWithoutGap_17 (by decide) (fun hb6 => ?_) (fun hb6 => ?_)
    · have hf := ifT hb6 hf
      obtain ⟨v8, ev8⟩ : ∃ z : Int32, z = q4.2 + 1 := ⟨_, rfl⟩
      have hf := bnd_at v8 ev8 hf
      refine lv_iinc (v := v8) (lv' := [(3, .int v8), (0, .ref (a (h + 1))), (1, .int p1), (2, .int q4.1)]) hx hb dX0_isWithoutGap_31 hl (k := 3) rfl (by rw [ev8]; rfl) (by decide) rfl (fun ls hl => ?_)
      refine lv_goto (tgt := 4) hx hb dX0_isWithoutGap_34 (by decide) ?_
      exact ihk5 _ hf _ _ _ (lv_sub hl [1, 2, 3, 0] rfl) hP hS
    · have hf := ifF hb6 hf
      refine lv_iload_n hx hb dX0_isWithoutGap_20 rfl (lv_at hl 2 rfl) ?_
      refine lv_iconst (v := 1) hx hb dX0_isWithoutGap_21 (by decide) ?_
      refine lv_aload_n hx hb dX0_isWithoutGap_22 rfl (lv_at hl 0 rfl) ?_
      refine zg_X0_21 hx hb C hP (lth hh 1 (by decide)) (lay_h1 hh) rfl dX0_isWithoutGap_23 ?_
      refine lv_iload_n hx hb dX0_isWithoutGap_26 rfl (lv_at hl 3 rfl) ?_
      obtain ⟨hc8, hf⟩ := chk_some hf
      refine zz_iald hx hb C hP (lth hh 5 (by decide)) (lay_h5 hh) (inb_vp hc8) dX0_isWithoutGap_27 ?_
      refine lv_ishl hx hb dX0_isWithoutGap_28 ?_
      refine lv_ior hx hb dX0_isWithoutGap_29 ?_
      refine lv_topi (fun v10 ev10 => ?_)
      have hf := bnd_at v10 ev10 hf
      refine lv_istore_n (lv' := [(2, .int v10), (0, .ref (a (h + 1))), (1, .int p1), (3, .int q4.2)]) hx hb dX0_isWithoutGap_30 rfl hl (by decide) rfl (fun ls hl => ?_)
      obtain ⟨v11, ev11⟩ : ∃ z : Int32, z = q4.2 + 1 := ⟨_, rfl⟩
      have hf := bnd_at v11 ev11 hf
      refine lv_iinc (v := v11) (lv' := [(3, .int v11), (2, .int v10), (0, .ref (a (h + 1))), (1, .int p1)]) hx hb dX0_isWithoutGap_31 hl (k := 3) rfl (by rw [ev11]; rfl) (by decide) rfl (fun ls hl => ?_)
      refine lv_goto (tgt := 4) hx hb dX0_isWithoutGap_34 (by decide) ?_
      exact ihk5 _ hf _ _ _ (lv_sub hl [2, 3, 1, 0] rfl) hP hS
set_option maxHeartbeats 4000000 in
set_option maxRecDepth 100000 in
theorem c_X7_lowBit (l : Launch) {D : va_G} {a : Nat → Nat} {cA : Nat → ClassId} {A : Nat → Prop} {sa : Nat → Nat} (hDA : DA a A) {σ : PH} {d : PD} (p1 : Int32) {u : Int64} (hf : f_X7_lowBit p1 = u) : CTl l yX7_lowBit cX7_lowBit 1 (some .long) 0 0 D a cA A sa [.int p1] σ d u σ d := by
  refine zz_metL zpl_X7 hDA (Nat.le_of_ble_eq_true rfl) ?_
  intro p e R s m args below meth c Q ls hx hb hml C hRf hRl hQ hP hS hl
  have hl : lv_has ls 1 [(0, .int p1)] := hl
  unfold f_X7_lowBit at hf
  refine lv_iload_n hx hb dX7_lowBit_0 rfl (lv_at hl 0 rfl) ?_
  refine lv_if_lt (tgt := 16) hx hb dX7_lowBit_1 (by decide) (fun hb0 => ?_) (fun hb0 => ?_)
  · have hf := ifT hb0 hf
    refine lv_lconst (v := 0) hx hb dX7_lowBit_16 (by decide) ?_
    subst hf
    exact hQ _ _ _ _ dX7_lowBit_17 hP hS
  · have hf := ifF hb0 hf
    refine lv_iload_n hx hb dX7_lowBit_4 rfl (lv_at hl 0 rfl) ?_
    refine lv_bipush (v := 64) hx hb dX7_lowBit_5 (by decide) ?_
    refine lv_icmp_ge (tgt := 16) hx hb dX7_lowBit_7 (by decide) (fun hb1 => ?_) (fun hb1 => ?_)
    · have hf := ifT hb1 hf
      refine lv_lconst (v := 0) hx hb dX7_lowBit_16 (by decide) ?_
      subst hf
      exact hQ _ _ _ _ dX7_lowBit_17 hP hS
    · have hf := ifF hb1 hf
      refine lv_lconst (v := 1) hx hb dX7_lowBit_10 (by decide) ?_
      refine lv_iload_n hx hb dX7_lowBit_11 rfl (lv_at hl 0 rfl) ?_
      refine lv_lshl (v := (1 : Int64) <<< (p1.toInt64 &&& 63)) hx hb dX7_lowBit_12 rfl ?_
      refine lv_goto (tgt := 17) hx hb dX7_lowBit_13 (by decide) ?_
      subst hf
      exact hQ _ _ _ _ dX7_lowBit_17 hP hS
set_option maxHeartbeats 4000000 in
set_option maxRecDepth 100000 in
theorem c_X7_highBit (l : Launch) {D : va_G} {a : Nat → Nat} {cA : Nat → ClassId} {A : Nat → Prop} {sa : Nat → Nat} (hDA : DA a A) {σ : PH} {d : PD} (p1 : Int32) {u : Int64} (hf : f_X7_highBit p1 = u) : CTl l yX7_highBit cX7_highBit 1 (some .long) 0 0 D a cA A sa [.int p1] σ d u σ d := by
  refine zz_metL zpl_X7 hDA (Nat.le_of_ble_eq_true rfl) ?_
  intro p e R s m args below meth c Q ls hx hb hml C hRf hRl hQ hP hS hl
  have hl : lv_has ls 1 [(0, .int p1)] := hl
  unfold f_X7_highBit at hf
  refine lv_iload_n hx hb dX7_highBit_0 rfl (lv_at hl 0 rfl) ?_
  refine lv_bipush (v := 64) hx hb dX7_highBit_1 (by decide) ?_
  refine lv_icmp_lt (tgt := 22) hx hb dX7_highBit_3 (by decide) (fun hb0 => ?_) (fun hb0 => ?_)
  · have hf := ifT hb0 hf
    refine lv_lconst (v := 0) hx hb dX7_highBit_22 (by decide) ?_
    subst hf
    exact hQ _ _ _ _ dX7_highBit_23 hP hS
  · have hf := ifF hb0 hf
    refine lv_iload_n hx hb dX7_highBit_6 rfl (lv_at hl 0 rfl) ?_
    refine lv_sipush (v := 128) hx hb dX7_highBit_7 (by decide) ?_
    refine lv_icmp_ge (tgt := 22) hx hb dX7_highBit_10 (by decide) (fun hb1 => ?_) (fun hb1 => ?_)
    · have hf := ifT hb1 hf
      refine lv_lconst (v := 0) hx hb dX7_highBit_22 (by decide) ?_
      subst hf
      exact hQ _ _ _ _ dX7_highBit_23 hP hS
    · have hf := ifF hb1 hf
      refine lv_lconst (v := 1) hx hb dX7_highBit_13 (by decide) ?_
      refine lv_iload_n hx hb dX7_highBit_14 rfl (lv_at hl 0 rfl) ?_
      refine lv_bipush (v := 64) hx hb dX7_highBit_15 (by decide) ?_
      refine lv_isub hx hb dX7_highBit_17 ?_
      refine lv_lshl (v := (1 : Int64) <<< ((p1 - 64).toInt64 &&& 63)) hx hb dX7_highBit_18 rfl ?_
      refine lv_goto (tgt := 23) hx hb dX7_highBit_19 (by decide) ?_
      subst hf
      exact hQ _ _ _ _ dX7_highBit_23 hP hS
set_option maxHeartbeats 4000000 in
set_option maxRecDepth 100000 in
theorem c_X7_isIn (l : Launch) {D : va_G} {a : Nat → Nat} {cA : Nat → ClassId} {A : Nat → Prop} {sa : Nat → Nat} (hDA : DA a A) {σ : PH} {d : PD} (p1 : Int32) (p2 : Int64) (p3 : Int64) {u : Int32} (hf : f_X7_isIn p1 p2 p3 = u) : CTi l yX7_isIn cX7_isIn 5 (some .boolean) 1 20 D a cA A sa [.int p1, .long p2, .long p3] σ d u σ d := by
  refine zz_metZ zpl_X7 hDA (Nat.le_of_ble_eq_true rfl) ?_
  intro p e R s m args below meth c Q ls hx hb hml C hRf hRl hQ hP hS hl
  have hl : lv_has ls 5 [(0, .int p1), (1, .long p2), (3, .long p3)] := hl
  unfold f_X7_isIn at hf
  refine lv_lload_n hx hb dX7_isIn_0 rfl (lv_at hl 1 rfl) ?_
  refine lv_iload_n hx hb dX7_isIn_1 rfl (lv_at hl 0 rfl) ?_
  obtain ⟨u1, hzu1⟩ : ∃ z, z = f_X7_lowBit p1 := ⟨_, rfl⟩
  have hf := bnd_at u1 hzu1 hf
  refine zz_callSl (rest := [.long p2]) hx hb hml C hP hS (c_X7_lowBit l hDA p1 hzu1.symm) zw_X7_65 ⟨Nat.le_trans (Nat.le_of_ble_eq_true rfl) hRf, Nat.le_trans (Nat.le_of_ble_eq_true rfl) hRl⟩  rfl hl.1 (Nat.le_of_ble_eq_true rfl) ⟨Nat.zero_le _, Nat.zero_le _⟩ rfl dX7_isIn_2 (fun H locs hP hS => ?_)
  refine lv_land hx hb dX7_isIn_5 ?_
  refine lv_lconst (v := 0) hx hb dX7_isIn_6 (by decide) ?_
  refine W.lcmp hx hb dX7_isIn_7 ?_
  refine lv_if_ne (tgt := 22) hx hb dX7_isIn_8 (by decide) (fun hb1 => ?_) (fun hb1 => ?_)
  · have hf := ifF hb1 hf
    refine lv_iconst (v := 1) hx hb dX7_isIn_22 (by decide) ?_
    refine lv_goto (tgt := 27) hx hb dX7_isIn_23 (by decide) ?_
    subst hf
    exact hQ _ _ _ _ dX7_isIn_27 (show narrow .boolean (.int 1) = .int 1 from rfl) hP hS
  · have hf := ifT hb1 hf
    refine lv_lload_n hx hb dX7_isIn_11 rfl (lv_at hl 2 rfl) ?_
    refine lv_iload_n hx hb dX7_isIn_12 rfl (lv_at hl 0 rfl) ?_
    obtain ⟨u3, hzu3⟩ : ∃ z, z = f_X7_highBit p1 := ⟨_, rfl⟩
    have hf := bnd_at u3 hzu3 hf
    refine zz_callSl (rest := [.long p3]) hx hb hml C hP hS (c_X7_highBit l hDA p1 hzu3.symm) zw_X7_69 ⟨Nat.le_trans (Nat.le_of_ble_eq_true rfl) hRf, Nat.le_trans (Nat.le_of_ble_eq_true rfl) hRl⟩  rfl hl.1 (Nat.le_of_ble_eq_true rfl) ⟨Nat.zero_le _, Nat.zero_le _⟩ rfl dX7_isIn_13 (fun H locs hP hS => ?_)
    refine lv_land hx hb dX7_isIn_16 ?_
    refine lv_lconst (v := 0) hx hb dX7_isIn_17 (by decide) ?_
    refine W.lcmp hx hb dX7_isIn_18 ?_
    refine lv_if_eq (tgt := 26) hx hb dX7_isIn_19 (by decide) (fun hb3 => ?_) (fun hb3 => ?_)
    · have hf := ifT hb3 hf
      refine lv_iconst (v := 0) hx hb dX7_isIn_26 (by decide) ?_
      subst hf
      exact hQ _ _ _ _ dX7_isIn_27 (show narrow .boolean (.int 0) = .int 0 from rfl) hP hS
    · have hf := ifF hb3 hf
      refine lv_iconst (v := 1) hx hb dX7_isIn_22 (by decide) ?_
      refine lv_goto (tgt := 27) hx hb dX7_isIn_23 (by decide) ?_
      subst hf
      exact hQ _ _ _ _ dX7_isIn_27 (show narrow .boolean (.int 1) = .int 1 from rfl) hP hS
set_option maxHeartbeats 4000000 in
set_option maxRecDepth 100000 in
theorem c_X7_weightIn (l : Launch) {D : va_G} {a : Nat → Nat} {cA : Nat → ClassId} {A : Nat → Prop} {sa : Nat → Nat} (hDA : DA a A) {σ : PH} {d : PD} {h : Nat} (hh : isHall h) (p1 : Int64) (p2 : Int64) {u : Int64} (hf : f_X7_weightIn σ h p1 p2 = some u) : CTl l yX7_weightIn cX7_weightIn 8 (some .long) 2 44 D a cA A sa [.ref (a (h + 7)), .long p1, .long p2] σ d u σ d := by
  refine zz_metL zpl_X7 hDA (Nat.le_of_ble_eq_true rfl) ?_
  intro p e R s m args below meth c Q ls hx hb hml C hRf hRl hQ hP hS hl
  have hl : lv_has ls 8 [(0, .ref (a (h + 7))), (1, .long p1), (3, .long p2)] := hl
  unfold f_X7_weightIn at hf
  refine lv_lconst (v := 0) hx hb dX7_weightIn_0 (by decide) ?_
  refine lv_lstore (lv' := [(5, .long 0), (0, .ref (a (h + 7))), (1, .long p1), (3, .long p2)]) hx hb dX7_weightIn_1 hl (by decide) rfl (fun ls hl => ?_)
  refine lv_iconst (v := 0) hx hb dX7_weightIn_3 (by decide) ?_
  refine lv_istore (lv' := [(7, .int 0), (5, .long 0), (0, .ref (a (h + 7))), (1, .long p1), (3, .long p2)]) hx hb dX7_weightIn_4 hl (by decide) rfl (fun ls hl => ?_)
  refine loopN_ind (P := fun (q1 : Int64 × Int32) => ∀ (H : Heap) (locs : List Loc) (ls : Array Slot), lv_has ls 8 [(0, .ref (a (h + 7))), (1, .long p1), (3, .long p2), (5, .long q1.1), (7, .int q1.2)] → va_P D vwCl (wl a cA σ d) H → va_S A s.heap H locs → W p l e R s m args below meth c H locs 0 0 Q (F0 m 6 ls [])) ?_ _ _ hf _ _ _ (lv_sub hl [2, 3, 4, 1, 0] rfl) hP hS
  intro k2 ihk2 q1 hf H locs ls hl hP hS
  unfold b_X7_weightIn_6 at hf
  refine lv_iload hx hb dX7_weightIn_6 (lv_at hl 4 rfl) ?_
  refine lv_aload_n hx hb dX7_weightIn_8 rfl (lv_at hl 0 rfl) ?_
  refine zg_X7_20 hx hb C hP (lth hh 7 (by decide)) (lay_h7 hh) rfl dX7_weightIn_9 ?_
  refine lv_icmp_ge (tgt := 44) hx hb dX7_weightIn_12 (by decide) (fun hb2 => ?_) (fun hb2 => ?_)
  · have hf := ifT hb2 hf
    refine lv_lload hx hb dX7_weightIn_44 (lv_at hl 3 rfl) ?_
    have hf := Option.some.inj hf
    subst hf
    exact hQ _ _ _ _ dX7_weightIn_46 hP hS
  · have hf := ifF hb2 hf
    refine lv_iload hx hb dX7_weightIn_15 (lv_at hl 4 rfl) ?_
    refine lv_lload_n hx hb dX7_weightIn_17 rfl (lv_at hl 1 rfl) ?_
    refine lv_lload_n hx hb dX7_weightIn_18 rfl (lv_at hl 2 rfl) ?_
    obtain ⟨u4, hzu4⟩ : ∃ z, z = f_X7_isIn q1.2 p1 p2 := ⟨_, rfl⟩
    have hf := bnd_at u4 hzu4 hf
    refine zz_callSi (rest := []) hx hb hml C hP hS (c_X7_isIn l hDA q1.2 p1 p2 hzu4.symm) zw_X7_83 ⟨Nat.le_trans (Nat.le_of_ble_eq_true rfl) hRf, Nat.le_trans (Nat.le_of_ble_eq_true rfl) hRl⟩  rfl hl.1 (Nat.le_of_ble_eq_true rfl) ⟨Nat.zero_le _, Nat.zero_le _⟩ rfl dX7_weightIn_19 (fun H locs hP hS => ?_)
    refine lv_if_eq (tgt := 38) hx hb dX7_weightIn_22 (by decide) (fun hb4 => ?_) (fun hb4 => ?_)
    · have hf := ifT hb4 hf
      obtain ⟨v6, ev6⟩ : ∃ z : Int32, z = q1.2 + 1 := ⟨_, rfl⟩
      have hf := bnd_at v6 ev6 hf
      refine lv_iinc (v := v6) (lv' := [(7, .int v6), (0, .ref (a (h + 7))), (1, .long p1), (3, .long p2), (5, .long q1.1)]) hx hb dX7_weightIn_38 hl (k := 4) rfl (by rw [ev6]; rfl) (by decide) rfl (fun ls hl => ?_)
      refine lv_goto (tgt := 6) hx hb dX7_weightIn_41 (by decide) ?_
      exact ihk2 _ hf _ _ _ (lv_sub hl [1, 2, 3, 4, 0] rfl) hP hS
    · have hf := ifF hb4 hf
      refine lv_lload hx hb dX7_weightIn_25 (lv_at hl 3 rfl) ?_
      refine lv_aload_n hx hb dX7_weightIn_27 rfl (lv_at hl 0 rfl) ?_
      refine zg_X7_17 hx hb C hP (lth hh 7 (by decide)) (lay_h7 hh) rfl dX7_weightIn_28 ?_
      refine lv_iload hx hb dX7_weightIn_31 (lv_at hl 4 rfl) ?_
      obtain ⟨hc6, hf⟩ := chk_some hf
      refine zz_iald hx hb C hP (lth hh 9 (by decide)) (lay_h9 hh) (inb_vp hc6) dX7_weightIn_33 ?_
      refine lv_i2l (v := (gI σ (h + 9) q1.2.toNatClampNeg).toInt64) hx hb dX7_weightIn_34 rfl ?_
      refine lv_ladd hx hb dX7_weightIn_35 ?_
      refine lv_topl (fun v8 ev8 => ?_)
      have hf := bnd_at v8 ev8 hf
      refine lv_lstore (lv' := [(5, .long v8), (0, .ref (a (h + 7))), (1, .long p1), (3, .long p2), (7, .int q1.2)]) hx hb dX7_weightIn_36 hl (by decide) rfl (fun ls hl => ?_)
      obtain ⟨v9, ev9⟩ : ∃ z : Int32, z = q1.2 + 1 := ⟨_, rfl⟩
      have hf := bnd_at v9 ev9 hf
      refine lv_iinc (v := v9) (lv' := [(7, .int v9), (5, .long v8), (0, .ref (a (h + 7))), (1, .long p1), (3, .long p2)]) hx hb dX7_weightIn_38 hl (k := 4) rfl (by rw [ev9]; rfl) (by decide) rfl (fun ls hl => ?_)
      refine lv_goto (tgt := 6) hx hb dX7_weightIn_41 (by decide) ?_
      exact ihk2 _ hf _ _ _ (lv_sub hl [2, 3, 4, 1, 0] rfl) hP hS
set_option maxHeartbeats 4000000 in
set_option maxRecDepth 100000 in
theorem c_X1_lay (l : Launch) {D : va_G} {a : Nat → Nat} {cA : Nat → ClassId} {A : Nat → Prop} {sa : Nat → Nat} (hDA : DA a A) {σ : PH} {d : PD} (p1 : Int64) (p2 : Int64) (p3 : Int32) {u : PH} (hf : f_X1_lay σ p1 p2 p3 = some u) : CTv l yX1_lay cX1_lay 6 none 0 0 D a cA A sa [.ref (a 7), .long p1, .long p2, .int p3] σ d u d := by
  refine zz_metV zpl_X1 hDA (Nat.le_of_ble_eq_true rfl) ?_
  intro p e R s m args below meth c Q ls hx hb hml C hRf hRl hQ hP hS hl
  have hl : lv_has ls 6 [(0, .ref (a 7)), (1, .long p1), (3, .long p2), (5, .int p3)] := hl
  unfold f_X1_lay at hf
  refine lv_aload_n hx hb dX1_lay_0 rfl (lv_at hl 0 rfl) ?_
  refine zg_X1_24 hx hb C hP (by decide) lay_7 rfl dX1_lay_1 ?_
  refine lv_bipush (v := 94) hx hb dX1_lay_4 (by decide) ?_
  refine lv_icmp_ge (tgt := 50) hx hb dX1_lay_6 (by decide) (fun hb0 => ?_) (fun hb0 => ?_)
  · have hf := ifT hb0 hf
    have hf := Option.some.inj hf
    subst hf
    exact hQ _ _ _ _ dX1_lay_50 hP hS
  · have hf := ifF hb0 hf
    refine lv_aload_n hx hb dX1_lay_9 rfl (lv_at hl 0 rfl) ?_
    refine zg_X1_13 hx hb C hP (by decide) lay_7 rfl dX1_lay_10 ?_
    refine lv_aload_n hx hb dX1_lay_13 rfl (lv_at hl 0 rfl) ?_
    refine zg_X1_24 hx hb C hP (by decide) lay_7 rfl dX1_lay_14 ?_
    refine lv_lload_n hx hb dX1_lay_17 rfl (lv_at hl 1 rfl) ?_
    obtain ⟨hc1, hf⟩ := chk_some hf
    refine zz_last hx hb C hP hS (by decide) lay_8 (inb_vp hc1) dX1_lay_18 (fun σ3 eσ3 H locs hP hS => ?_)
    have hf := bnd_at σ3 eσ3 hf
    refine lv_aload_n hx hb dX1_lay_19 rfl (lv_at hl 0 rfl) ?_
    refine zg_X1_17 hx hb C hP (by decide) lay_7 rfl dX1_lay_20 ?_
    refine lv_aload_n hx hb dX1_lay_23 rfl (lv_at hl 0 rfl) ?_
    refine zg_X1_24 hx hb C hP (by decide) lay_7 rfl dX1_lay_24 ?_
    refine lv_lload_n hx hb dX1_lay_27 rfl (lv_at hl 2 rfl) ?_
    obtain ⟨hc3, hf⟩ := chk_some hf
    refine zz_last hx hb C hP hS (by decide) lay_9 (inb_vp hc3) dX1_lay_28 (fun σ5 eσ5 H locs hP hS => ?_)
    have hf := bnd_at σ5 eσ5 hf
    refine lv_aload_n hx hb dX1_lay_29 rfl (lv_at hl 0 rfl) ?_
    refine zg_X1_20 hx hb C hP (by decide) lay_7 rfl dX1_lay_30 ?_
    refine lv_aload_n hx hb dX1_lay_33 rfl (lv_at hl 0 rfl) ?_
    refine zg_X1_24 hx hb C hP (by decide) lay_7 rfl dX1_lay_34 ?_
    refine lv_iload hx hb dX1_lay_37 (lv_at hl 3 rfl) ?_
    obtain ⟨hc5, hf⟩ := chk_some hf
    refine zz_iast hx hb C hP hS (by decide) lay_10 (inb_vp hc5) dX1_lay_39 (fun σ7 eσ7 H locs hP hS => ?_)
    have hf := bnd_at σ7 eσ7 hf
    refine lv_aload_n hx hb dX1_lay_40 rfl (lv_at hl 0 rfl) ?_
    refine lv_dup hx hb dX1_lay_41 rfl ?_
    refine zg_X1_24 hx hb C hP (by decide) lay_7 rfl dX1_lay_42 ?_
    refine lv_iconst (v := 1) hx hb dX1_lay_45 (by decide) ?_
    refine lv_iadd hx hb dX1_lay_46 ?_
    refine zp_X1_24 hx hb C hP hS (by decide) lay_7 rfl dX1_lay_47 (fun σ8 eσ8 H locs hP hS => ?_)
    have hf := bnd_at σ8 eσ8 hf
    have hf := Option.some.inj hf
    subst hf
    exact hQ _ _ _ _ dX1_lay_50 hP hS
set_option maxHeartbeats 4000000 in
set_option maxRecDepth 100000 in
theorem c_J13_bitCount_95d88 (l : Launch) {D : va_G} {a : Nat → Nat} {cA : Nat → ClassId} {A : Nat → Prop} {sa : Nat → Nat} (hDA : DA a A) {σ : PH} {d : PD} (p1 : Int64) {u : Int32} (hf : f_J13_bitCount_95d88 p1 = u) : CTi l yJ13_bitCount_95d88 cJ13_bitCount_95d88 2 (some .int) 0 0 D a cA A sa [.long p1] σ d u σ d := by
  refine zz_metI zpl_J13 hDA (Nat.le_of_ble_eq_true rfl) ?_
  intro p e R s m args below meth c Q ls hx hb hml C hRf hRl hQ hP hS hl
  have hl : lv_has ls 2 [(0, .long p1)] := hl
  unfold f_J13_bitCount_95d88 at hf
  refine lv_lload_n hx hb dJ13_bitCount_95d88_0 rfl (lv_at hl 0 rfl) ?_
  refine lv_lload_n hx hb dJ13_bitCount_95d88_1 rfl (lv_at hl 0 rfl) ?_
  refine lv_iconst (v := 1) hx hb dJ13_bitCount_95d88_2 (by decide) ?_
  refine lv_lushr (v := (p1.toUInt64 >>> ((1 : Int32).toInt64.toUInt64 &&& Int64.toUInt64 63)).toInt64) hx hb dJ13_bitCount_95d88_3 rfl ?_
  refine lv_ldc2 (v := 6148914691236517205) hx hb C.1 (C.2.1 _ kk_J13_314) dJ13_bitCount_95d88_4 ?_
  refine lv_land hx hb dJ13_bitCount_95d88_7 ?_
  refine lv_lsub hx hb dJ13_bitCount_95d88_8 ?_
  refine lv_topl (fun v1 ev1 => ?_)
  have hf := bnd_at v1 ev1 hf
  refine lv_lstore_n (lv' := [(0, .long v1)]) hx hb dJ13_bitCount_95d88_9 rfl hl (by decide) rfl (fun ls hl => ?_)
  refine lv_lload_n hx hb dJ13_bitCount_95d88_10 rfl (lv_at hl 0 rfl) ?_
  refine lv_ldc2 (v := 3689348814741910323) hx hb C.1 (C.2.1 _ kk_J13_316) dJ13_bitCount_95d88_11 ?_
  refine lv_land hx hb dJ13_bitCount_95d88_14 ?_
  refine lv_lload_n hx hb dJ13_bitCount_95d88_15 rfl (lv_at hl 0 rfl) ?_
  refine lv_iconst (v := 2) hx hb dJ13_bitCount_95d88_16 (by decide) ?_
  refine lv_lushr (v := (v1.toUInt64 >>> ((2 : Int32).toInt64.toUInt64 &&& Int64.toUInt64 63)).toInt64) hx hb dJ13_bitCount_95d88_17 rfl ?_
  refine lv_ldc2 (v := 3689348814741910323) hx hb C.1 (C.2.1 _ kk_J13_316) dJ13_bitCount_95d88_18 ?_
  refine lv_land hx hb dJ13_bitCount_95d88_21 ?_
  refine lv_ladd hx hb dJ13_bitCount_95d88_22 ?_
  refine lv_topl (fun v2 ev2 => ?_)
  have hf := bnd_at v2 ev2 hf
  refine lv_lstore_n (lv' := [(0, .long v2)]) hx hb dJ13_bitCount_95d88_23 rfl hl (by decide) rfl (fun ls hl => ?_)
  refine lv_lload_n hx hb dJ13_bitCount_95d88_24 rfl (lv_at hl 0 rfl) ?_
  refine lv_lload_n hx hb dJ13_bitCount_95d88_25 rfl (lv_at hl 0 rfl) ?_
  refine lv_iconst (v := 4) hx hb dJ13_bitCount_95d88_26 (by decide) ?_
  refine lv_lushr (v := (v2.toUInt64 >>> ((4 : Int32).toInt64.toUInt64 &&& Int64.toUInt64 63)).toInt64) hx hb dJ13_bitCount_95d88_27 rfl ?_
  refine lv_ladd hx hb dJ13_bitCount_95d88_28 ?_
  refine lv_ldc2 (v := 1085102592571150095) hx hb C.1 (C.2.1 _ kk_J13_318) dJ13_bitCount_95d88_29 ?_
  refine lv_land hx hb dJ13_bitCount_95d88_32 ?_
  refine lv_topl (fun v3 ev3 => ?_)
  have hf := bnd_at v3 ev3 hf
  refine lv_lstore_n (lv' := [(0, .long v3)]) hx hb dJ13_bitCount_95d88_33 rfl hl (by decide) rfl (fun ls hl => ?_)
  refine lv_lload_n hx hb dJ13_bitCount_95d88_34 rfl (lv_at hl 0 rfl) ?_
  refine lv_lload_n hx hb dJ13_bitCount_95d88_35 rfl (lv_at hl 0 rfl) ?_
  refine lv_bipush (v := 8) hx hb dJ13_bitCount_95d88_36 (by decide) ?_
  refine lv_lushr (v := (v3.toUInt64 >>> ((8 : Int32).toInt64.toUInt64 &&& Int64.toUInt64 63)).toInt64) hx hb dJ13_bitCount_95d88_38 rfl ?_
  refine lv_ladd hx hb dJ13_bitCount_95d88_39 ?_
  refine lv_topl (fun v4 ev4 => ?_)
  have hf := bnd_at v4 ev4 hf
  refine lv_lstore_n (lv' := [(0, .long v4)]) hx hb dJ13_bitCount_95d88_40 rfl hl (by decide) rfl (fun ls hl => ?_)
  refine lv_lload_n hx hb dJ13_bitCount_95d88_41 rfl (lv_at hl 0 rfl) ?_
  refine lv_lload_n hx hb dJ13_bitCount_95d88_42 rfl (lv_at hl 0 rfl) ?_
  refine lv_bipush (v := 16) hx hb dJ13_bitCount_95d88_43 (by decide) ?_
  refine lv_lushr (v := (v4.toUInt64 >>> ((16 : Int32).toInt64.toUInt64 &&& Int64.toUInt64 63)).toInt64) hx hb dJ13_bitCount_95d88_45 rfl ?_
  refine lv_ladd hx hb dJ13_bitCount_95d88_46 ?_
  refine lv_topl (fun v5 ev5 => ?_)
  have hf := bnd_at v5 ev5 hf
  refine lv_lstore_n (lv' := [(0, .long v5)]) hx hb dJ13_bitCount_95d88_47 rfl hl (by decide) rfl (fun ls hl => ?_)
  refine lv_lload_n hx hb dJ13_bitCount_95d88_48 rfl (lv_at hl 0 rfl) ?_
  refine lv_lload_n hx hb dJ13_bitCount_95d88_49 rfl (lv_at hl 0 rfl) ?_
  refine lv_bipush (v := 32) hx hb dJ13_bitCount_95d88_50 (by decide) ?_
  refine lv_lushr (v := (v5.toUInt64 >>> ((32 : Int32).toInt64.toUInt64 &&& Int64.toUInt64 63)).toInt64) hx hb dJ13_bitCount_95d88_52 rfl ?_
  refine lv_ladd hx hb dJ13_bitCount_95d88_53 ?_
  refine lv_topl (fun v6 ev6 => ?_)
  have hf := bnd_at v6 ev6 hf
  refine lv_lstore_n (lv' := [(0, .long v6)]) hx hb dJ13_bitCount_95d88_54 rfl hl (by decide) rfl (fun ls hl => ?_)
  refine lv_lload_n hx hb dJ13_bitCount_95d88_55 rfl (lv_at hl 0 rfl) ?_
  refine lv_l2i (v := v6.toInt32) hx hb dJ13_bitCount_95d88_56 rfl ?_
  refine lv_bipush (v := 127) hx hb dJ13_bitCount_95d88_57 (by decide) ?_
  refine lv_iand hx hb dJ13_bitCount_95d88_59 ?_
  subst hf
  exact hQ _ _ _ _ dJ13_bitCount_95d88_60 hP hS
set_option maxHeartbeats 4000000 in
set_option maxRecDepth 100000 in
theorem c_X7_countIn (l : Launch) {D : va_G} {a : Nat → Nat} {cA : Nat → ClassId} {A : Nat → Prop} {sa : Nat → Nat} (hDA : DA a A) {σ : PH} {d : PD} (p1 : Int64) (p2 : Int64) {u : Int32} (hf : f_X7_countIn p1 p2 = u) : CTi l yX7_countIn cX7_countIn 4 (some .int) 1 21 D a cA A sa [.long p1, .long p2] σ d u σ d := by
  refine zz_metI zpl_X7 hDA (Nat.le_of_ble_eq_true rfl) ?_
  intro p e R s m args below meth c Q ls hx hb hml C hRf hRl hQ hP hS hl
  have hl : lv_has ls 4 [(0, .long p1), (2, .long p2)] := hl
  unfold f_X7_countIn at hf
  refine lv_lload_n hx hb dX7_countIn_0 rfl (lv_at hl 0 rfl) ?_
  obtain ⟨u1, hzu1⟩ : ∃ z, z = f_J13_bitCount_95d88 p1 := ⟨_, rfl⟩
  have hf := bnd_at u1 hzu1 hf
  refine zz_callSi (rest := []) hx hb hml C hP hS (c_J13_bitCount_95d88 l hDA p1 hzu1.symm) zw_X7_76 ⟨Nat.le_trans (Nat.le_of_ble_eq_true rfl) hRf, Nat.le_trans (Nat.le_of_ble_eq_true rfl) hRl⟩  rfl hl.1 (Nat.le_of_ble_eq_true rfl) ⟨Nat.zero_le _, Nat.zero_le _⟩ rfl dX7_countIn_1 (fun H locs hP hS => ?_)
  refine lv_lload_n hx hb dX7_countIn_4 rfl (lv_at hl 1 rfl) ?_
  obtain ⟨u2, hzu2⟩ : ∃ z, z = f_J13_bitCount_95d88 p2 := ⟨_, rfl⟩
  have hf := bnd_at u2 hzu2 hf
  refine zz_callSi (rest := [.int u1]) hx hb hml C hP hS (c_J13_bitCount_95d88 l hDA p2 hzu2.symm) zw_X7_76 ⟨Nat.le_trans (Nat.le_of_ble_eq_true rfl) hRf, Nat.le_trans (Nat.le_of_ble_eq_true rfl) hRl⟩  rfl hl.1 (Nat.le_of_ble_eq_true rfl) ⟨Nat.zero_le _, Nat.zero_le _⟩ rfl dX7_countIn_5 (fun H locs hP hS => ?_)
  refine lv_iadd hx hb dX7_countIn_8 ?_
  subst hf
  exact hQ _ _ _ _ dX7_countIn_9 hP hS
set_option maxHeartbeats 4000000 in
set_option maxRecDepth 100000 in
theorem c_X2_allows (l : Launch) {D : va_G} {a : Nat → Nat} {cA : Nat → ClassId} {A : Nat → Prop} {sa : Nat → Nat} (hDA : DA a A) {σ : PH} {d : PD} {h : Nat} (hh : isHall h) (p1 : Int32) {u : Int32} (hf : f_X2_allows σ h p1 = some u) : CTi l yX2_allows cX2_allows 2 (some .boolean) 2 41 D a cA A sa [.ref (a h), .int p1] σ d u σ d := by
  refine zz_metZ zpl_X2 hDA (Nat.le_of_ble_eq_true rfl) ?_
  intro p e R s m args below meth c Q ls hx hb hml C hRf hRl hQ hP hS hl
  have hl : lv_has ls 2 [(0, .ref (a h)), (1, .int p1)] := hl
  unfold f_X2_allows at hf
  refine lv_aload_n hx hb dX2_allows_0 rfl (lv_at hl 0 rfl) ?_
  refine zg_X2_12 hx hb C hP (lth0 hh) (lay_h0 hh) rfl dX2_allows_1 ?_
  refine lv_iload_n hx hb dX2_allows_4 rfl (lv_at hl 1 rfl) ?_
  obtain ⟨u1, hzu1⟩ : ∃ z, z = f_X0_isSet σ h p1 := ⟨_, rfl⟩
  have hf := bnd_at u1 hzu1 hf
  refine zz_callVi (rest := []) hx hb hml C hP hS (c_X0_isSet l hDA (h := h) hh p1 hzu1.symm) zw_X2_142 ⟨Nat.le_trans (Nat.le_of_ble_eq_true rfl) hRf, Nat.le_trans (Nat.le_of_ble_eq_true rfl) hRl⟩ (lth hh 1 (by decide)) (lay_h1 hh) rfl rfl hl.1 (Nat.le_of_ble_eq_true rfl) ⟨Nat.zero_le _, Nat.zero_le _⟩ rfl dX2_allows_5 (fun H locs hP hS => ?_)
  refine lv_if_eq (tgt := 24) hx hb dX2_allows_8 (by decide) (fun hb1 => ?_) (fun hb1 => ?_)
  · have hf := ifT hb1 hf
    refine lv_iconst (v := 0) hx hb dX2_allows_24 (by decide) ?_
    have hf := Option.some.inj hf
    subst hf
    exact hQ _ _ _ _ dX2_allows_25 (show narrow .boolean (.int 0) = .int 0 from rfl) hP hS
  · have hf := ifF hb1 hf
    refine lv_iload_n hx hb dX2_allows_11 rfl (lv_at hl 1 rfl) ?_
    obtain ⟨u3, hzu3⟩ : ∃ z, z = f_J6_bitCount_0f7a4 p1 := ⟨_, rfl⟩
    have hf := bnd_at u3 hzu3 hf
    refine zz_callSi (rest := []) hx hb hml C hP hS (c_J6_bitCount_0f7a4 l hDA p1 hzu3.symm) zw_X2_146 ⟨Nat.le_trans (Nat.le_of_ble_eq_true rfl) hRf, Nat.le_trans (Nat.le_of_ble_eq_true rfl) hRl⟩  rfl hl.1 (Nat.le_of_ble_eq_true rfl) ⟨Nat.zero_le _, Nat.zero_le _⟩ rfl dX2_allows_12 (fun H locs hP hS => ?_)
    refine lv_aload_n hx hb dX2_allows_15 rfl (lv_at hl 0 rfl) ?_
    refine zg_X2_27 hx hb C hP (lth0 hh) (lay_h0 hh) rfl dX2_allows_16 ?_
    refine lv_iconst (v := 1) hx hb dX2_allows_19 (by decide) ?_
    refine zz_iald hx hb C hP (lth hh 15 (by decide)) (lay_h15 hh) (inb_vp (by decide)) dX2_allows_20 ?_
    refine lv_icmp_ge (tgt := 26) hx hb dX2_allows_21 (by decide) (fun hb3 => ?_) (fun hb3 => ?_)
    · have hf := ifT hb3 hf
      refine lv_aload_n hx hb dX2_allows_26 rfl (lv_at hl 0 rfl) ?_
      refine zg_X2_27 hx hb C hP (lth0 hh) (lay_h0 hh) rfl dX2_allows_27 ?_
      refine lv_iconst (v := 2) hx hb dX2_allows_30 (by decide) ?_
      refine zz_iald hx hb C hP (lth hh 15 (by decide)) (lay_h15 hh) (inb_vp (by decide)) dX2_allows_31 ?_
      refine lv_if_eq (tgt := 46) hx hb dX2_allows_32 (by decide) (fun hb4 => ?_) (fun hb4 => ?_)
      · have hf := ifT hb4 hf
        refine lv_iconst (v := 1) hx hb dX2_allows_46 (by decide) ?_
        refine lv_goto (tgt := 51) hx hb dX2_allows_47 (by decide) ?_
        have hf := Option.some.inj hf
        subst hf
        exact hQ _ _ _ _ dX2_allows_51 (show narrow .boolean (.int 1) = .int 1 from rfl) hP hS
      · have hf := ifF hb4 hf
        refine lv_aload_n hx hb dX2_allows_35 rfl (lv_at hl 0 rfl) ?_
        refine zg_X2_12 hx hb C hP (lth0 hh) (lay_h0 hh) rfl dX2_allows_36 ?_
        refine lv_iload_n hx hb dX2_allows_39 rfl (lv_at hl 1 rfl) ?_
        obtain ⟨u6, hzu6, hf⟩ := obd_some hf
        refine zz_callVi (rest := []) hx hb hml C hP hS (c_X0_isWithoutGap l hDA (h := h) hh p1 hzu6) zw_X2_152 ⟨Nat.le_trans (Nat.le_of_ble_eq_true rfl) hRf, Nat.le_trans (Nat.le_of_ble_eq_true rfl) hRl⟩ (lth hh 1 (by decide)) (lay_h1 hh) rfl rfl hl.1 (Nat.le_of_ble_eq_true rfl) ⟨Nat.zero_le _, Nat.zero_le _⟩ rfl dX2_allows_40 (fun H locs hP hS => ?_)
        refine lv_if_eq (tgt := 50) hx hb dX2_allows_43 (by decide) (fun hb6 => ?_) (fun hb6 => ?_)
        · have hf := ifT hb6 hf
          refine lv_iconst (v := 0) hx hb dX2_allows_50 (by decide) ?_
          have hf := Option.some.inj hf
          subst hf
          exact hQ _ _ _ _ dX2_allows_51 (show narrow .boolean (.int 0) = .int 0 from rfl) hP hS
        · have hf := ifF hb6 hf
          refine lv_iconst (v := 1) hx hb dX2_allows_46 (by decide) ?_
          refine lv_goto (tgt := 51) hx hb dX2_allows_47 (by decide) ?_
          have hf := Option.some.inj hf
          subst hf
          exact hQ _ _ _ _ dX2_allows_51 (show narrow .boolean (.int 1) = .int 1 from rfl) hP hS
    · have hf := ifF hb3 hf
      refine lv_iconst (v := 0) hx hb dX2_allows_24 (by decide) ?_
      have hf := Option.some.inj hf
      subst hf
      exact hQ _ _ _ _ dX2_allows_25 (show narrow .boolean (.int 0) = .int 0 from rfl) hP hS
set_option maxHeartbeats 4000000 in
set_option maxRecDepth 100000 in
theorem c_X7_slot (l : Launch) {D : va_G} {a : Nat → Nat} {cA : Nat → ClassId} {A : Nat → Prop} {sa : Nat → Nat} (hDA : DA a A) {σ : PH} {d : PD} {h : Nat} (hh : isHall h) (p1 : Int32) {u : Int32 × PH} (hf : f_X7_slot σ h p1 = some u) : CTi l yX7_slot cX7_slot 13 (some .int) 2 44 D a cA A sa [.ref (a (h + 7)), .int p1] σ d u.1 u.2 d := by
  refine zz_metI zpl_X7 hDA (Nat.le_of_ble_eq_true rfl) ?_
  intro p e R s m args below meth c Q ls hx hb hml C hRf hRl hQ hP hS hl
  have hl : lv_has ls 13 [(0, .ref (a (h + 7))), (1, .int p1)] := hl
  unfold f_X7_slot at hf
  refine lv_iload_n hx hb dX7_slot_0 rfl (lv_at hl 1 rfl) ?_
  refine lv_if_le (tgt := 22) hx hb dX7_slot_1 (by decide) (fun hb0 => ?_) (fun hb0 => ?_)
  · have hf := ifT hb0 hf
    refine lv_iconst (v := 0) hx hb dX7_slot_22 (by decide) ?_
    have hf := Option.some.inj hf
    subst hf
    exact hQ _ _ _ _ dX7_slot_23 hP hS
  · have hf := ifF hb0 hf
    refine lv_iload_n hx hb dX7_slot_4 rfl (lv_at hl 1 rfl) ?_
    refine lv_sipush (v := 256) hx hb dX7_slot_5 (by decide) ?_
    refine lv_icmp_ge (tgt := 22) hx hb dX7_slot_8 (by decide) (fun hb1 => ?_) (fun hb1 => ?_)
    · have hf := ifT hb1 hf
      refine lv_iconst (v := 0) hx hb dX7_slot_22 (by decide) ?_
      have hf := Option.some.inj hf
      subst hf
      exact hQ _ _ _ _ dX7_slot_23 hP hS
    · have hf := ifF hb1 hf
      refine lv_iload_n hx hb dX7_slot_11 rfl (lv_at hl 1 rfl) ?_
      refine lv_aload_n hx hb dX7_slot_12 rfl (lv_at hl 0 rfl) ?_
      refine zg_X7_41 hx hb C hP (lth hh 7 (by decide)) (lay_h7 hh) rfl dX7_slot_13 ?_
      obtain ⟨u3, hzu3⟩ : ∃ z, z = f_X0_all σ h := ⟨_, rfl⟩
      have hf := bnd_at u3 hzu3 hf
      refine zz_callVi (rest := [.int p1]) hx hb hml C hP hS (c_X0_all l hDA (h := h) hh hzu3.symm) zw_X7_51 ⟨Nat.le_trans (Nat.le_of_ble_eq_true rfl) hRf, Nat.le_trans (Nat.le_of_ble_eq_true rfl) hRl⟩ (lth hh 1 (by decide)) (lay_h1 hh) rfl rfl hl.1 (Nat.le_of_ble_eq_true rfl) ⟨Nat.zero_le _, Nat.zero_le _⟩ rfl dX7_slot_16 (fun H locs hP hS => ?_)
      refine lv_icmp_le (tgt := 24) hx hb dX7_slot_19 (by decide) (fun hb3 => ?_) (fun hb3 => ?_)
      · have hf := ifT hb3 hf
        refine lv_aload_n hx hb dX7_slot_24 rfl (lv_at hl 0 rfl) ?_
        refine zg_X7_37 hx hb C hP (lth hh 7 (by decide)) (lay_h7 hh) rfl dX7_slot_25 ?_
        refine lv_iload_n hx hb dX7_slot_28 rfl (lv_at hl 1 rfl) ?_
        obtain ⟨hc4, hf⟩ := chk_some hf
        refine zz_zald hx hb C hP (lth hh 14 (by decide)) (lay_h14 hh) (inb_vp hc4) dX7_slot_29 ?_
        refine lv_if_eq (tgt := 35) hx hb dX7_slot_30 (by decide) (fun hb5 => ?_) (fun hb5 => ?_)
        · have hf := ifT hb5 hf
          refine lv_lconst (v := 0) hx hb dX7_slot_35 (by decide) ?_
          refine lv_lstore_n (lv' := [(2, .long 0), (0, .ref (a (h + 7))), (1, .int p1)]) hx hb dX7_slot_36 rfl hl (by decide) rfl (fun ls hl => ?_)
          refine lv_lconst (v := 0) hx hb dX7_slot_37 (by decide) ?_
          refine lv_lstore (lv' := [(4, .long 0), (2, .long 0), (0, .ref (a (h + 7))), (1, .int p1)]) hx hb dX7_slot_38 hl (by decide) rfl (fun ls hl => ?_)
          refine lv_iconst (v := 0) hx hb dX7_slot_40 (by decide) ?_
          refine lv_istore (lv' := [(6, .int 0), (4, .long 0), (2, .long 0), (0, .ref (a (h + 7))), (1, .int p1)]) hx hb dX7_slot_41 hl (by decide) rfl (fun ls hl => ?_)
          have hJ177 : ∀ (v7 : Int64) (v8 : Int64), j_X7_slot_177 σ h p1 v7 v8 = some u → ∀ (H : Heap) (locs : List Loc) (ls : Array Slot), lv_has ls 13 [(0, .ref (a (h + 7))), (1, .int p1), (2, .long v7), (4, .long v8)] → va_P D vwCl (wl a cA σ d) H → va_S A s.heap H locs → W p l e R s m args below meth c H locs 0 0 Q (F0 m 177 ls []) := by
            intro v7 v8 hf H locs ls hl hP hS
            unfold j_X7_slot_177 at hf
            refine lv_aload_n hx hb dX7_slot_177 rfl (lv_at hl 0 rfl) ?_
            refine zg_X7_31 hx hb C hP (lth hh 7 (by decide)) (lay_h7 hh) rfl dX7_slot_178 ?_
            refine lv_iload_n hx hb dX7_slot_181 rfl (lv_at hl 1 rfl) ?_
            refine lv_lload_n hx hb dX7_slot_182 rfl (lv_at hl 2 rfl) ?_
            obtain ⟨hc8, hf⟩ := chk_some hf
            refine zz_last hx hb C hP hS (lth hh 12 (by decide)) (lay_h12 hh) (inb_vp hc8) dX7_slot_183 (fun σ10 eσ10 H locs hP hS => ?_)
            have hf := bnd_at σ10 eσ10 hf
            refine lv_aload_n hx hb dX7_slot_184 rfl (lv_at hl 0 rfl) ?_
            refine zg_X7_34 hx hb C hP (lth hh 7 (by decide)) (lay_h7 hh) rfl dX7_slot_185 ?_
            refine lv_iload_n hx hb dX7_slot_188 rfl (lv_at hl 1 rfl) ?_
            refine lv_lload hx hb dX7_slot_189 (lv_at hl 3 rfl) ?_
            obtain ⟨hc10, hf⟩ := chk_some hf
            refine zz_last hx hb C hP hS (lth hh 13 (by decide)) (lay_h13 hh) (inb_vp hc10) dX7_slot_191 (fun σ12 eσ12 H locs hP hS => ?_)
            have hf := bnd_at σ12 eσ12 hf
            refine lv_aload_n hx hb dX7_slot_192 rfl (lv_at hl 0 rfl) ?_
            refine zg_X7_37 hx hb C hP (lth hh 7 (by decide)) (lay_h7 hh) rfl dX7_slot_193 ?_
            refine lv_iload_n hx hb dX7_slot_196 rfl (lv_at hl 1 rfl) ?_
            refine lv_iconst (v := 1) hx hb dX7_slot_197 (by decide) ?_
            obtain ⟨hc12, hf⟩ := chk_some hf
            refine zz_zast hx hb C hP hS (lth hh 14 (by decide)) (lay_h14 hh) (inb_vp hc12) dX7_slot_198 (fun σ14 eσ14 H locs hP hS => ?_)
            have hf := bnd_at σ14 eσ14 hf
            refine lv_iload_n hx hb dX7_slot_199 rfl (lv_at hl 1 rfl) ?_
            have hf := Option.some.inj hf
            subst hf
            exact hQ _ _ _ _ dX7_slot_200 hP hS
          refine loopN_ind (P := fun (q15 : Int64 × Int64 × Int32) => ∀ (H : Heap) (locs : List Loc) (ls : Array Slot), lv_has ls 13 [(0, .ref (a (h + 7))), (1, .int p1), (2, .long q15.1), (4, .long q15.2.1), (6, .int q15.2.2)] → va_P D vwCl (wl a cA σ d) H → va_S A s.heap H locs → W p l e R s m args below meth c H locs 0 0 Q (F0 m 43 ls [])) ?_ _ _ hf _ _ _ (lv_sub hl [3, 4, 2, 1, 0] rfl) hP hS
          intro k16 ihk16 q15 hf H locs ls hl hP hS
          unfold b_X7_slot_43 at hf
          refine lv_iload hx hb dX7_slot_43 (lv_at hl 4 rfl) ?_
          refine lv_aload_n hx hb dX7_slot_45 rfl (lv_at hl 0 rfl) ?_
          refine zg_X7_41 hx hb C hP (lth hh 7 (by decide)) (lay_h7 hh) rfl dX7_slot_46 ?_
          refine zg_X7_72 hx hb C hP (lth hh 1 (by decide)) (lay_h1 hh) rfl dX7_slot_49 ?_
          refine lv_icmp_ge (tgt := 177) hx hb dX7_slot_52 (by decide) (fun hb16 => ?_) (fun hb16 => ?_)
          · have hf := ifT hb16 hf
            exact hJ177 _ _ hf _ _ _ (lv_sub hl [0, 1, 2, 3] rfl) hP hS
          · have hf := ifF hb16 hf
            refine lv_iload_n hx hb dX7_slot_55 rfl (lv_at hl 1 rfl) ?_
            refine lv_iload hx hb dX7_slot_56 (lv_at hl 4 rfl) ?_
            refine lv_ishr hx hb dX7_slot_58 ?_
            refine lv_iconst (v := 1) hx hb dX7_slot_59 (by decide) ?_
            refine lv_iand hx hb dX7_slot_60 ?_
            have hJ78 : ∀ (v18 : Int32), j_X7_slot_78 σ h q15 k16 v18 = some u → ∀ (H : Heap) (locs : List Loc) (ls : Array Slot), lv_has ls 13 [(0, .ref (a (h + 7))), (1, .int p1), (2, .long q15.1), (4, .long q15.2.1), (6, .int q15.2.2)] → va_P D vwCl (wl a cA σ d) H → va_S A s.heap H locs → W p l e R s m args below meth c H locs 0 0 Q (F0 m 78 ls [.int v18]) := by
              intro v18 hf H locs ls hl hP hS
              unfold j_X7_slot_78 at hf
              refine lv_istore (lv' := [(7, .int v18), (0, .ref (a (h + 7))), (1, .int p1), (2, .long q15.1), (4, .long q15.2.1), (6, .int q15.2.2)]) hx hb dX7_slot_78 hl (by decide) rfl (fun ls hl => ?_)
              refine lv_iload hx hb dX7_slot_80 (lv_at hl 0 rfl) ?_
              refine lv_iconst (v := (-1)) hx hb dX7_slot_82 (by decide) ?_
              refine lv_icmp_eq (tgt := 171) hx hb dX7_slot_83 (by decide) (fun hb18 => ?_) (fun hb18 => ?_)
              · have hf := ifT hb18 hf
                obtain ⟨v20, ev20⟩ : ∃ z : Int32, z = q15.2.2 + 1 := ⟨_, rfl⟩
                have hf := bnd_at v20 ev20 hf
                refine lv_iinc (v := v20) (lv' := [(6, .int v20), (7, .int v18), (0, .ref (a (h + 7))), (1, .int p1), (2, .long q15.1), (4, .long q15.2.1)]) hx hb dX7_slot_171 hl (k := 5) rfl (by rw [ev20]; rfl) (by decide) rfl (fun ls hl => ?_)
                refine lv_goto (tgt := 43) hx hb dX7_slot_174 (by decide) ?_
                exact ihk16 _ hf _ _ _ (lv_sub hl [2, 3, 4, 5, 0] rfl) hP hS
              · have hf := ifF hb18 hf
                refine lv_aload_n hx hb dX7_slot_86 rfl (lv_at hl 1 rfl) ?_
                refine zg_X7_24 hx hb C hP (lth hh 7 (by decide)) (lay_h7 hh) rfl dX7_slot_87 ?_
                refine lv_iload hx hb dX7_slot_90 (lv_at hl 5 rfl) ?_
                obtain ⟨hc20, hf⟩ := chk_some hf
                refine zz_lald hx hb C hP (lth hh 10 (by decide)) (lay_h10 hh) (inb_vp hc20) dX7_slot_92 ?_
                refine lv_topl (fun v22 ev22 => ?_)
                have hf := bnd_at v22 ev22 hf
                refine lv_lstore (lv' := [(8, .long v22), (7, .int v18), (0, .ref (a (h + 7))), (1, .int p1), (2, .long q15.1), (4, .long q15.2.1), (6, .int q15.2.2)]) hx hb dX7_slot_93 hl (by decide) rfl (fun ls hl => ?_)
                refine lv_aload_n hx hb dX7_slot_95 rfl (lv_at hl 2 rfl) ?_
                refine zg_X7_28 hx hb C hP (lth hh 7 (by decide)) (lay_h7 hh) rfl dX7_slot_96 ?_
                refine lv_iload hx hb dX7_slot_99 (lv_at hl 6 rfl) ?_
                obtain ⟨hc22, hf⟩ := chk_some hf
                refine zz_lald hx hb C hP (lth hh 11 (by decide)) (lay_h11 hh) (inb_vp hc22) dX7_slot_101 ?_
                refine lv_topl (fun v24 ev24 => ?_)
                have hf := bnd_at v24 ev24 hf
                refine lv_lstore (lv' := [(10, .long v24), (8, .long v22), (7, .int v18), (0, .ref (a (h + 7))), (1, .int p1), (2, .long q15.1), (4, .long q15.2.1), (6, .int q15.2.2)]) hx hb dX7_slot_102 hl (by decide) rfl (fun ls hl => ?_)
                refine lv_iconst (v := 0) hx hb dX7_slot_104 (by decide) ?_
                refine lv_istore (lv' := [(12, .int 0), (10, .long v24), (8, .long v22), (7, .int v18), (0, .ref (a (h + 7))), (1, .int p1), (2, .long q15.1), (4, .long q15.2.1), (6, .int q15.2.2)]) hx hb dX7_slot_105 hl (by decide) rfl (fun ls hl => ?_)
                have hJ159 : ∀ (v25 : Int64) (v26 : Int64), j_X7_slot_159 q15 k16 v25 v26 = some u → ∀ (H : Heap) (locs : List Loc) (ls : Array Slot), lv_has ls 13 [(0, .ref (a (h + 7))), (1, .int p1), (2, .long q15.1), (4, .long q15.2.1), (6, .int q15.2.2), (8, .long v25), (10, .long v26)] → va_P D vwCl (wl a cA σ d) H → va_S A s.heap H locs → W p l e R s m args below meth c H locs 0 0 Q (F0 m 159 ls []) := by
                  intro v25 v26 hf H locs ls hl hP hS
                  unfold j_X7_slot_159 at hf
                  refine lv_lload_n hx hb dX7_slot_159 rfl (lv_at hl 2 rfl) ?_
                  refine lv_lload hx hb dX7_slot_160 (lv_at hl 5 rfl) ?_
                  refine lv_lor hx hb dX7_slot_162 ?_
                  refine lv_topl (fun v27 ev27 => ?_)
                  have hf := bnd_at v27 ev27 hf
                  refine lv_lstore_n (lv' := [(2, .long v27), (0, .ref (a (h + 7))), (1, .int p1), (4, .long q15.2.1), (6, .int q15.2.2), (8, .long v25), (10, .long v26)]) hx hb dX7_slot_163 rfl hl (by decide) rfl (fun ls hl => ?_)
                  refine lv_lload hx hb dX7_slot_164 (lv_at hl 3 rfl) ?_
                  refine lv_lload hx hb dX7_slot_166 (lv_at hl 6 rfl) ?_
                  refine lv_lor hx hb dX7_slot_168 ?_
                  refine lv_topl (fun v28 ev28 => ?_)
                  have hf := bnd_at v28 ev28 hf
                  refine lv_lstore (lv' := [(4, .long v28), (2, .long v27), (0, .ref (a (h + 7))), (1, .int p1), (6, .int q15.2.2), (8, .long v25), (10, .long v26)]) hx hb dX7_slot_169 hl (by decide) rfl (fun ls hl => ?_)
                  obtain ⟨v29, ev29⟩ : ∃ z : Int32, z = q15.2.2 + 1 := ⟨_, rfl⟩
                  have hf := bnd_at v29 ev29 hf
                  refine lv_iinc (v := v29) (lv' := [(6, .int v29), (4, .long v28), (2, .long v27), (0, .ref (a (h + 7))), (1, .int p1), (8, .long v25), (10, .long v26)]) hx hb dX7_slot_171 hl (k := 4) rfl (by rw [ev29]; rfl) (by decide) rfl (fun ls hl => ?_)
                  refine lv_goto (tgt := 43) hx hb dX7_slot_174 (by decide) ?_
                  exact ihk16 _ hf _ _ _ (lv_sub hl [3, 4, 2, 1, 0] rfl) hP hS
                refine loopN_ind (P := fun (q30 : Int64 × Int64 × Int32) => ∀ (H : Heap) (locs : List Loc) (ls : Array Slot), lv_has ls 13 [(0, .ref (a (h + 7))), (1, .int p1), (2, .long q15.1), (4, .long q15.2.1), (6, .int q15.2.2), (7, .int v18), (8, .long q30.1), (10, .long q30.2.1), (12, .int q30.2.2)] → va_P D vwCl (wl a cA σ d) H → va_S A s.heap H locs → W p l e R s m args below meth c H locs 0 0 Q (F0 m 107 ls [])) ?_ _ _ hf _ _ _ (lv_sub hl [4, 5, 6, 7, 8, 3, 2, 1, 0] rfl) hP hS
                intro k31 ihk31 q30 hf H locs ls hl hP hS
                unfold b_X7_slot_107 at hf
                refine lv_iload hx hb dX7_slot_107 (lv_at hl 8 rfl) ?_
                refine lv_aload_n hx hb dX7_slot_109 rfl (lv_at hl 0 rfl) ?_
                refine zg_X7_41 hx hb C hP (lth hh 7 (by decide)) (lay_h7 hh) rfl dX7_slot_110 ?_
                refine zg_X7_72 hx hb C hP (lth hh 1 (by decide)) (lay_h1 hh) rfl dX7_slot_113 ?_
                refine lv_icmp_ge (tgt := 159) hx hb dX7_slot_116 (by decide) (fun hb31 => ?_) (fun hb31 => ?_)
                · have hf := ifT hb31 hf
                  exact hJ159 _ _ hf _ _ _ (lv_sub hl [0, 1, 2, 3, 4, 6, 7] rfl) hP hS
                · have hf := ifF hb31 hf
                  refine lv_iload hx hb dX7_slot_119 (lv_at hl 5 rfl) ?_
                  refine lv_iload hx hb dX7_slot_121 (lv_at hl 8 rfl) ?_
                  refine lv_ishr hx hb dX7_slot_123 ?_
                  refine lv_iconst (v := 1) hx hb dX7_slot_124 (by decide) ?_
                  refine lv_iand hx hb dX7_slot_125 ?_
                  refine lv_if_eq (tgt := 153) hx hb dX7_slot_126 (by decide) (fun hb32 => ?_) (fun hb32 => ?_)
                  · have hf := ifT hb32 hf
                    obtain ⟨v34, ev34⟩ : ∃ z : Int32, z = q30.2.2 + 1 := ⟨_, rfl⟩
                    have hf := bnd_at v34 ev34 hf
                    refine lv_iinc (v := v34) (lv' := [(12, .int v34), (0, .ref (a (h + 7))), (1, .int p1), (2, .long q15.1), (4, .long q15.2.1), (6, .int q15.2.2), (7, .int v18), (8, .long q30.1), (10, .long q30.2.1)]) hx hb dX7_slot_153 hl (k := 8) rfl (by rw [ev34]; rfl) (by decide) rfl (fun ls hl => ?_)
                    refine lv_goto (tgt := 107) hx hb dX7_slot_156 (by decide) ?_
                    exact ihk31 _ hf _ _ _ (lv_sub hl [1, 2, 3, 4, 5, 6, 7, 8, 0] rfl) hP hS
                  · have hf := ifF hb32 hf
                    refine lv_lload hx hb dX7_slot_129 (lv_at hl 6 rfl) ?_
                    refine lv_aload_n hx hb dX7_slot_131 rfl (lv_at hl 0 rfl) ?_
                    refine zg_X7_24 hx hb C hP (lth hh 7 (by decide)) (lay_h7 hh) rfl dX7_slot_132 ?_
                    refine lv_iload hx hb dX7_slot_135 (lv_at hl 8 rfl) ?_
                    obtain ⟨hc34, hf⟩ := chk_some hf
                    refine zz_lald hx hb C hP (lth hh 10 (by decide)) (lay_h10 hh) (inb_vp hc34) dX7_slot_137 ?_
                    refine lv_land hx hb dX7_slot_138 ?_
                    refine lv_topl (fun v36 ev36 => ?_)
                    have hf := bnd_at v36 ev36 hf
                    refine lv_lstore (lv' := [(8, .long v36), (0, .ref (a (h + 7))), (1, .int p1), (2, .long q15.1), (4, .long q15.2.1), (6, .int q15.2.2), (7, .int v18), (10, .long q30.2.1), (12, .int q30.2.2)]) hx hb dX7_slot_139 hl (by decide) rfl (fun ls hl => ?_)
                    refine lv_lload hx hb dX7_slot_141 (lv_at hl 7 rfl) ?_
                    refine lv_aload_n hx hb dX7_slot_143 rfl (lv_at hl 1 rfl) ?_
                    refine zg_X7_28 hx hb C hP (lth hh 7 (by decide)) (lay_h7 hh) rfl dX7_slot_144 ?_
                    refine lv_iload hx hb dX7_slot_147 (lv_at hl 8 rfl) ?_
                    obtain ⟨hc36, hf⟩ := chk_some hf
                    refine zz_lald hx hb C hP (lth hh 11 (by decide)) (lay_h11 hh) (inb_vp hc36) dX7_slot_149 ?_
                    refine lv_land hx hb dX7_slot_150 ?_
                    refine lv_topl (fun v38 ev38 => ?_)
                    have hf := bnd_at v38 ev38 hf
                    refine lv_lstore (lv' := [(10, .long v38), (8, .long v36), (0, .ref (a (h + 7))), (1, .int p1), (2, .long q15.1), (4, .long q15.2.1), (6, .int q15.2.2), (7, .int v18), (12, .int q30.2.2)]) hx hb dX7_slot_151 hl (by decide) rfl (fun ls hl => ?_)
                    obtain ⟨v39, ev39⟩ : ∃ z : Int32, z = q30.2.2 + 1 := ⟨_, rfl⟩
                    have hf := bnd_at v39 ev39 hf
                    refine lv_iinc (v := v39) (lv' := [(12, .int v39), (10, .long v38), (8, .long v36), (0, .ref (a (h + 7))), (1, .int p1), (2, .long q15.1), (4, .long q15.2.1), (6, .int q15.2.2), (7, .int v18)]) hx hb dX7_slot_153 hl (k := 8) rfl (by rw [ev39]; rfl) (by decide) rfl (fun ls hl => ?_)
                    refine lv_goto (tgt := 107) hx hb dX7_slot_156 (by decide) ?_
                    exact ihk31 _ hf _ _ _ (lv_sub hl [3, 4, 5, 6, 7, 8, 2, 1, 0] rfl) hP hS
            refine lv_if_ne (tgt := 68) hx hb dX7_slot_61 (by decide) (fun hb39 => ?_) (fun hb39 => ?_)
            · have hf := ifF hb39 hf
              refine lv_aload_n hx hb dX7_slot_68 rfl (lv_at hl 0 rfl) ?_
              refine zg_X7_41 hx hb C hP (lth hh 7 (by decide)) (lay_h7 hh) rfl dX7_slot_69 ?_
              refine lv_iload hx hb dX7_slot_72 (lv_at hl 4 rfl) ?_
              refine lv_iload_n hx hb dX7_slot_74 rfl (lv_at hl 1 rfl) ?_
              obtain ⟨u41, hzu41, hf⟩ := obd_some hf
              refine zz_callVi (rest := []) hx hb hml C hP hS (c_X0_wrongWith l hDA (h := h) hh q15.2.2 p1 hzu41) zw_X7_87 ⟨Nat.le_trans (Nat.le_of_ble_eq_true rfl) hRf, Nat.le_trans (Nat.le_of_ble_eq_true rfl) hRl⟩ (lth hh 1 (by decide)) (lay_h1 hh) rfl rfl hl.1 (Nat.le_of_ble_eq_true rfl) ⟨Nat.zero_le _, Nat.zero_le _⟩ rfl dX7_slot_75 (fun H locs hP hS => ?_)
              exact hJ78 _ hf _ _ _ (lv_sub hl [0, 1, 2, 3, 4] rfl) hP hS
            · have hf := ifT hb39 hf
              refine lv_iconst (v := (-1)) hx hb dX7_slot_64 (by decide) ?_
              refine lv_goto (tgt := 78) hx hb dX7_slot_65 (by decide) ?_
              exact hJ78 _ hf _ _ _ (lv_sub hl [0, 1, 2, 3, 4] rfl) hP hS
        · have hf := ifF hb5 hf
          refine lv_iload_n hx hb dX7_slot_33 rfl (lv_at hl 1 rfl) ?_
          have hf := Option.some.inj hf
          subst hf
          exact hQ _ _ _ _ dX7_slot_34 hP hS
      · have hf := ifF hb3 hf
        refine lv_iconst (v := 0) hx hb dX7_slot_22 (by decide) ?_
        have hf := Option.some.inj hf
        subst hf
        exact hQ _ _ _ _ dX7_slot_23 hP hS
set_option maxHeartbeats 4000000 in
set_option maxRecDepth 100000 in
theorem c_X7_wrongAmong (l : Launch) {D : va_G} {a : Nat → Nat} {cA : Nat → ClassId} {A : Nat → Prop} {sa : Nat → Nat} (hDA : DA a A) {σ : PH} {d : PD} {h : Nat} (hh : isHall h) (p1 : Int32) (p2 : Int64) (p3 : Int64) {u : Int32 × PH} (hf : f_X7_wrongAmong σ h p1 p2 p3 = some u) : CTi l yX7_wrongAmong cX7_wrongAmong 7 (some .int) 3 76 D a cA A sa [.ref (a (h + 7)), .int p1, .long p2, .long p3] σ d u.1 u.2 d := by
  refine zz_metI zpl_X7 hDA (Nat.le_of_ble_eq_true rfl) ?_
  intro p e R s m args below meth c Q ls hx hb hml C hRf hRl hQ hP hS hl
  have hl : lv_has ls 7 [(0, .ref (a (h + 7))), (1, .int p1), (2, .long p2), (4, .long p3)] := hl
  unfold f_X7_wrongAmong at hf
  refine lv_aload_n hx hb dX7_wrongAmong_0 rfl (lv_at hl 0 rfl) ?_
  refine lv_iload_n hx hb dX7_wrongAmong_1 rfl (lv_at hl 1 rfl) ?_
  obtain ⟨u1, hzu1, hf⟩ := obd_some hf
  refine zz_callVi (rest := []) hx hb hml C hP hS (c_X7_slot l hDA (h := h) hh p1 hzu1) zw_X7_91 ⟨Nat.le_trans (Nat.le_of_ble_eq_true rfl) hRf, Nat.le_trans (Nat.le_of_ble_eq_true rfl) hRl⟩ (lth hh 7 (by decide)) (lay_h7 hh) rfl rfl hl.1 (Nat.le_of_ble_eq_true rfl) ⟨Nat.zero_le _, Nat.zero_le _⟩ rfl dX7_wrongAmong_2 (fun H locs hP hS => ?_)
  refine lv_istore (lv' := [(6, .int u1.1), (0, .ref (a (h + 7))), (1, .int p1), (2, .long p2), (4, .long p3)]) hx hb dX7_wrongAmong_5 hl (by decide) rfl (fun ls hl => ?_)
  refine lv_lload_n hx hb dX7_wrongAmong_7 rfl (lv_at hl 3 rfl) ?_
  refine lv_aload_n hx hb dX7_wrongAmong_8 rfl (lv_at hl 1 rfl) ?_
  refine zg_X7_31 hx hb C hP (lth hh 7 (by decide)) (lay_h7 hh) rfl dX7_wrongAmong_9 ?_
  refine lv_iload hx hb dX7_wrongAmong_12 (lv_at hl 0 rfl) ?_
  obtain ⟨hc1, hf⟩ := chk_some hf
  refine zz_lald hx hb C hP (lth hh 12 (by decide)) (lay_h12 hh) (inb_vp hc1) dX7_wrongAmong_14 ?_
  refine lv_land hx hb dX7_wrongAmong_15 ?_
  obtain ⟨u3, hzu3⟩ : ∃ z, z = f_J13_bitCount_95d88 (p2 &&& (gJ u1.2 (h + 12) u1.1.toNatClampNeg)) := ⟨_, rfl⟩
  have hf := bnd_at u3 hzu3 hf
  refine zz_callSi (rest := []) hx hb hml C hP hS (c_J13_bitCount_95d88 l hDA (p2 &&& (gJ u1.2 (h + 12) u1.1.toNatClampNeg)) hzu3.symm) zw_X7_76 ⟨Nat.le_trans (Nat.le_of_ble_eq_true rfl) hRf, Nat.le_trans (Nat.le_of_ble_eq_true rfl) hRl⟩  rfl hl.1 (Nat.le_of_ble_eq_true rfl) ⟨Nat.zero_le _, Nat.zero_le _⟩ rfl dX7_wrongAmong_16 (fun H locs hP hS => ?_)
  refine lv_lload hx hb dX7_wrongAmong_19 (lv_at hl 4 rfl) ?_
  refine lv_aload_n hx hb dX7_wrongAmong_21 rfl (lv_at hl 1 rfl) ?_
  refine zg_X7_34 hx hb C hP (lth hh 7 (by decide)) (lay_h7 hh) rfl dX7_wrongAmong_22 ?_
  refine lv_iload hx hb dX7_wrongAmong_25 (lv_at hl 0 rfl) ?_
  obtain ⟨hc3, hf⟩ := chk_some hf
  refine zz_lald hx hb C hP (lth hh 13 (by decide)) (lay_h13 hh) (inb_vp hc3) dX7_wrongAmong_27 ?_
  refine lv_land hx hb dX7_wrongAmong_28 ?_
  obtain ⟨u5, hzu5⟩ : ∃ z, z = f_J13_bitCount_95d88 (p3 &&& (gJ u1.2 (h + 13) u1.1.toNatClampNeg)) := ⟨_, rfl⟩
  have hf := bnd_at u5 hzu5 hf
  refine zz_callSi (rest := [.int u3]) hx hb hml C hP hS (c_J13_bitCount_95d88 l hDA (p3 &&& (gJ u1.2 (h + 13) u1.1.toNatClampNeg)) hzu5.symm) zw_X7_76 ⟨Nat.le_trans (Nat.le_of_ble_eq_true rfl) hRf, Nat.le_trans (Nat.le_of_ble_eq_true rfl) hRl⟩  rfl hl.1 (Nat.le_of_ble_eq_true rfl) ⟨Nat.zero_le _, Nat.zero_le _⟩ rfl dX7_wrongAmong_29 (fun H locs hP hS => ?_)
  refine lv_iadd hx hb dX7_wrongAmong_32 ?_
  have hf := Option.some.inj hf
  subst hf
  exact hQ _ _ _ _ dX7_wrongAmong_33 hP hS
set_option maxHeartbeats 4000000 in
set_option maxRecDepth 100000 in
theorem c_X2_best (l : Launch) {D : va_G} {a : Nat → Nat} {cA : Nat → ClassId} {A : Nat → Prop} {sa : Nat → Nat} (hDA : DA a A) {σ : PH} {d : PD} {h : Nat} (hh : isHall h) (p1 : Int64) (p2 : Int64) {u : Int32 × PH} (hf : f_X2_best σ h p1 p2 = some u) : CTi l yX2_best cX2_best 12 (some .int) 4 102 D a cA A sa [.ref (a h), .long p1, .long p2] σ d u.1 u.2 d := by
  refine zz_metI zpl_X2 hDA (Nat.le_of_ble_eq_true rfl) ?_
  intro p e R s m args below meth c Q ls hx hb hml C hRf hRl hQ hP hS hl
  have hl : lv_has ls 12 [(0, .ref (a h)), (1, .long p1), (3, .long p2)] := hl
  unfold f_X2_best at hf
  refine lv_lload_n hx hb dX2_best_0 rfl (lv_at hl 1 rfl) ?_
  refine lv_lload_n hx hb dX2_best_1 rfl (lv_at hl 2 rfl) ?_
  obtain ⟨u1, hzu1⟩ : ∃ z, z = f_X7_countIn p1 p2 := ⟨_, rfl⟩
  have hf := bnd_at u1 hzu1 hf
  refine zz_callSi (rest := []) hx hb hml C hP hS (c_X7_countIn l hDA p1 p2 hzu1.symm) zw_X2_108 ⟨Nat.le_trans (Nat.le_of_ble_eq_true rfl) hRf, Nat.le_trans (Nat.le_of_ble_eq_true rfl) hRl⟩  rfl hl.1 (Nat.le_of_ble_eq_true rfl) ⟨Nat.zero_le _, Nat.zero_le _⟩ rfl dX2_best_2 (fun H locs hP hS => ?_)
  refine lv_istore (lv' := [(5, .int u1), (0, .ref (a h)), (1, .long p1), (3, .long p2)]) hx hb dX2_best_5 hl (by decide) rfl (fun ls hl => ?_)
  refine lv_iload hx hb dX2_best_7 (lv_at hl 0 rfl) ?_
  refine lv_istore (lv' := [(6, .int u1), (5, .int u1), (0, .ref (a h)), (1, .long p1), (3, .long p2)]) hx hb dX2_best_9 hl (by decide) rfl (fun ls hl => ?_)
  refine lv_iconst (v := (-1)) hx hb dX2_best_11 (by decide) ?_
  refine lv_istore (lv' := [(7, .int (-1)), (6, .int u1), (5, .int u1), (0, .ref (a h)), (1, .long p1), (3, .long p2)]) hx hb dX2_best_12 hl (by decide) rfl (fun ls hl => ?_)
  refine lv_iload hx hb dX2_best_14 (lv_at hl 2 rfl) ?_
  refine lv_iconst (v := 2) hx hb dX2_best_16 (by decide) ?_
  have hJ31 : ∀ (v2 : Int32), j_X2_best_31 σ h p1 p2 u1 v2 = some u → ∀ (H : Heap) (locs : List Loc) (ls : Array Slot), lv_has ls 12 [(0, .ref (a h)), (1, .long p1), (3, .long p2), (5, .int u1), (6, .int u1), (7, .int (-1))] → va_P D vwCl (wl a cA σ d) H → va_S A s.heap H locs → W p l e R s m args below meth c H locs 0 0 Q (F0 m 31 ls [.int v2]) := by
    intro v2 hf H locs ls hl hP hS
    unfold j_X2_best_31 at hf
    refine lv_istore (lv' := [(8, .int v2), (0, .ref (a h)), (1, .long p1), (3, .long p2), (5, .int u1), (6, .int u1), (7, .int (-1))]) hx hb dX2_best_31 hl (by decide) rfl (fun ls hl => ?_)
    refine lv_iconst (v := 1) hx hb dX2_best_33 (by decide) ?_
    refine lv_istore (lv' := [(9, .int 1), (8, .int v2), (0, .ref (a h)), (1, .long p1), (3, .long p2), (5, .int u1), (6, .int u1), (7, .int (-1))]) hx hb dX2_best_34 hl (by decide) rfl (fun ls hl => ?_)
    refine loopN_ind (P := fun (q3 : Int32 × Int32 × Int32 × PH) => ∀ (H : Heap) (locs : List Loc) (ls : Array Slot), lv_has ls 12 [(0, .ref (a h)), (1, .long p1), (3, .long p2), (5, .int u1), (6, .int q3.1), (7, .int q3.2.1), (8, .int v2), (9, .int q3.2.2.1)] → va_P D vwCl (wl a cA q3.2.2.2 d) H → va_S A s.heap H locs → W p l e R s m args below meth c H locs 0 0 Q (F0 m 36 ls [])) ?_ _ _ hf _ _ _ (lv_sub hl [2, 3, 4, 5, 6, 7, 1, 0] rfl) hP hS
    intro k4 ihk4 q3 hf H locs ls hl hP hS
    unfold b_X2_best_36 at hf
    refine lv_iload hx hb dX2_best_36 (lv_at hl 7 rfl) ?_
    refine lv_iload hx hb dX2_best_38 (lv_at hl 6 rfl) ?_
    refine lv_icmp_gt (tgt := 98) hx hb dX2_best_40 (by decide) (fun hb4 => ?_) (fun hb4 => ?_)
    · have hf := ifT hb4 hf
      refine lv_iload hx hb dX2_best_98 (lv_at hl 5 rfl) ?_
      have hf := Option.some.inj hf
      subst hf
      exact hQ _ _ _ _ dX2_best_100 hP hS
    · have hf := ifF hb4 hf
      refine lv_aload_n hx hb dX2_best_43 rfl (lv_at hl 0 rfl) ?_
      refine lv_iload hx hb dX2_best_44 (lv_at hl 7 rfl) ?_
      obtain ⟨u6, hzu6, hf⟩ := obd_some hf
      refine zz_callVi (rest := []) hx hb hml C hP hS (c_X2_allows l hDA (h := h) hh q3.2.2.1 hzu6) zw_X2_155 ⟨Nat.le_trans (Nat.le_of_ble_eq_true rfl) hRf, Nat.le_trans (Nat.le_of_ble_eq_true rfl) hRl⟩ (lth0 hh) (lay_h0 hh) rfl rfl hl.1 (Nat.le_of_ble_eq_true rfl) ⟨Nat.zero_le _, Nat.zero_le _⟩ rfl dX2_best_46 (fun H locs hP hS => ?_)
      refine lv_if_eq (tgt := 92) hx hb dX2_best_49 (by decide) (fun hb6 => ?_) (fun hb6 => ?_)
      · have hf := ifT hb6 hf
        obtain ⟨v8, ev8⟩ : ∃ z : Int32, z = q3.2.2.1 + 1 := ⟨_, rfl⟩
        have hf := bnd_at v8 ev8 hf
        refine lv_iinc (v := v8) (lv' := [(9, .int v8), (0, .ref (a h)), (1, .long p1), (3, .long p2), (5, .int u1), (6, .int q3.1), (7, .int q3.2.1), (8, .int v2)]) hx hb dX2_best_92 hl (k := 7) rfl (by rw [ev8]; rfl) (by decide) rfl (fun ls hl => ?_)
        refine lv_goto (tgt := 36) hx hb dX2_best_95 (by decide) ?_
        exact ihk4 _ hf _ _ _ (lv_sub hl [1, 2, 3, 4, 5, 6, 7, 0] rfl) hP hS
      · have hf := ifF hb6 hf
        refine lv_aload_n hx hb dX2_best_52 rfl (lv_at hl 0 rfl) ?_
        refine zg_X2_23 hx hb C hP (lth0 hh) (lay_h0 hh) rfl dX2_best_53 ?_
        refine lv_iload hx hb dX2_best_56 (lv_at hl 7 rfl) ?_
        refine lv_lload_n hx hb dX2_best_58 rfl (lv_at hl 1 rfl) ?_
        refine lv_lload_n hx hb dX2_best_59 rfl (lv_at hl 2 rfl) ?_
        obtain ⟨u9, hzu9, hf⟩ := obd_some hf
        refine zz_callVi (rest := []) hx hb hml C hP hS (c_X7_wrongAmong l hDA (h := h) hh q3.2.2.1 p1 p2 hzu9) zw_X2_158 ⟨Nat.le_trans (Nat.le_of_ble_eq_true rfl) hRf, Nat.le_trans (Nat.le_of_ble_eq_true rfl) hRl⟩ (lth hh 7 (by decide)) (lay_h7 hh) rfl rfl hl.1 (Nat.le_of_ble_eq_true rfl) ⟨Nat.zero_le _, Nat.zero_le _⟩ rfl dX2_best_60 (fun H locs hP hS => ?_)
        refine lv_istore (lv' := [(10, .int u9.1), (0, .ref (a h)), (1, .long p1), (3, .long p2), (5, .int u1), (6, .int q3.1), (7, .int q3.2.1), (8, .int v2), (9, .int q3.2.2.1)]) hx hb dX2_best_63 hl (by decide) rfl (fun ls hl => ?_)
        refine lv_iload hx hb dX2_best_65 (lv_at hl 0 rfl) ?_
        refine lv_iload hx hb dX2_best_67 (lv_at hl 4 rfl) ?_
        refine lv_iload hx hb dX2_best_69 (lv_at hl 0 rfl) ?_
        refine lv_isub hx hb dX2_best_71 ?_
        refine zz_max hx hb (hml.trans hl.1.symm) C km_X2_162 kt_Lib_Math_max_name kn_J9 kc_Lib_Math_max_name (Nat.le_trans (by decide) hRf) (Nat.le_trans (Nat.le_of_ble_eq_true rfl) hRl) ⟨Nat.zero_le _, Nat.zero_le _⟩ dX2_best_72 ?_
        refine lv_topi (fun v10 ev10 => ?_)
        have hf := bnd_at v10 ev10 hf
        refine lv_istore (lv' := [(11, .int v10), (10, .int u9.1), (0, .ref (a h)), (1, .long p1), (3, .long p2), (5, .int u1), (6, .int q3.1), (7, .int q3.2.1), (8, .int v2), (9, .int q3.2.2.1)]) hx hb dX2_best_75 hl (by decide) rfl (fun ls hl => ?_)
        refine lv_iload hx hb dX2_best_77 (lv_at hl 0 rfl) ?_
        refine lv_iload hx hb dX2_best_79 (lv_at hl 6 rfl) ?_
        refine lv_icmp_ge (tgt := 92) hx hb dX2_best_81 (by decide) (fun hb10 => ?_) (fun hb10 => ?_)
        · have hf := ifT hb10 hf
          obtain ⟨v12, ev12⟩ : ∃ z : Int32, z = q3.2.2.1 + 1 := ⟨_, rfl⟩
          have hf := bnd_at v12 ev12 hf
          refine lv_iinc (v := v12) (lv' := [(9, .int v12), (11, .int v10), (10, .int u9.1), (0, .ref (a h)), (1, .long p1), (3, .long p2), (5, .int u1), (6, .int q3.1), (7, .int q3.2.1), (8, .int v2)]) hx hb dX2_best_92 hl (k := 9) rfl (by rw [ev12]; rfl) (by decide) rfl (fun ls hl => ?_)
          refine lv_goto (tgt := 36) hx hb dX2_best_95 (by decide) ?_
          exact ihk4 _ hf _ _ _ (lv_sub hl [3, 4, 5, 6, 7, 8, 9, 0] rfl) hP hS
        · have hf := ifF hb10 hf
          refine lv_iload hx hb dX2_best_84 (lv_at hl 0 rfl) ?_
          refine lv_istore (lv' := [(6, .int v10), (11, .int v10), (10, .int u9.1), (0, .ref (a h)), (1, .long p1), (3, .long p2), (5, .int u1), (7, .int q3.2.1), (8, .int v2), (9, .int q3.2.2.1)]) hx hb dX2_best_86 hl (by decide) rfl (fun ls hl => ?_)
          refine lv_iload hx hb dX2_best_88 (lv_at hl 9 rfl) ?_
          refine lv_istore (lv' := [(7, .int q3.2.2.1), (6, .int v10), (11, .int v10), (10, .int u9.1), (0, .ref (a h)), (1, .long p1), (3, .long p2), (5, .int u1), (8, .int v2), (9, .int q3.2.2.1)]) hx hb dX2_best_90 hl (by decide) rfl (fun ls hl => ?_)
          obtain ⟨v13, ev13⟩ : ∃ z : Int32, z = q3.2.2.1 + 1 := ⟨_, rfl⟩
          have hf := bnd_at v13 ev13 hf
          refine lv_iinc (v := v13) (lv' := [(9, .int v13), (7, .int q3.2.2.1), (6, .int v10), (11, .int v10), (10, .int u9.1), (0, .ref (a h)), (1, .long p1), (3, .long p2), (5, .int u1), (8, .int v2)]) hx hb dX2_best_92 hl (k := 9) rfl (by rw [ev13]; rfl) (by decide) rfl (fun ls hl => ?_)
          refine lv_goto (tgt := 36) hx hb dX2_best_95 (by decide) ?_
          exact ihk4 _ hf _ _ _ (lv_sub hl [5, 6, 7, 8, 2, 1, 9, 0] rfl) hP hS
  refine lv_icmp_ge (tgt := 24) hx hb dX2_best_17 (by decide) (fun hb13 => ?_) (fun hb13 => ?_)
  · have hf := ifT hb13 hf
    refine lv_aload_n hx hb dX2_best_24 rfl (lv_at hl 3 rfl) ?_
    refine zg_X2_12 hx hb C hP (lth0 hh) (lay_h0 hh) rfl dX2_best_25 ?_
    obtain ⟨u15, hzu15⟩ : ∃ z, z = f_X0_all σ h := ⟨_, rfl⟩
    have hf := bnd_at u15 hzu15 hf
    refine zz_callVi (rest := []) hx hb hml C hP hS (c_X0_all l hDA (h := h) hh hzu15.symm) zw_X2_134 ⟨Nat.le_trans (Nat.le_of_ble_eq_true rfl) hRf, Nat.le_trans (Nat.le_of_ble_eq_true rfl) hRl⟩ (lth hh 1 (by decide)) (lay_h1 hh) rfl rfl hl.1 (Nat.le_of_ble_eq_true rfl) ⟨Nat.zero_le _, Nat.zero_le _⟩ rfl dX2_best_28 (fun H locs hP hS => ?_)
    exact hJ31 _ hf _ _ _ (lv_sub hl [3, 4, 5, 2, 1, 0] rfl) hP hS
  · have hf := ifF hb13 hf
    refine lv_iconst (v := 0) hx hb dX2_best_20 (by decide) ?_
    refine lv_goto (tgt := 31) hx hb dX2_best_21 (by decide) ?_
    exact hJ31 _ hf _ _ _ (lv_sub hl [3, 4, 5, 2, 1, 0] rfl) hP hS
set_option maxHeartbeats 4000000 in
set_option maxRecDepth 100000 in
theorem c_X7_lowBy (l : Launch) {D : va_G} {a : Nat → Nat} {cA : Nat → ClassId} {A : Nat → Prop} {sa : Nat → Nat} (hDA : DA a A) {σ : PH} {d : PD} {h : Nat} (hh : isHall h) (p1 : Int32) (p2 : Int32) (p3 : Int64) {u : Int64 × PH} (hf : f_X7_lowBy σ h p1 p2 p3 = some u) : CTl l yX7_lowBy cX7_lowBy 7 (some .long) 3 76 D a cA A sa [.ref (a (h + 7)), .int p1, .int p2, .long p3] σ d u.1 u.2 d := by
  refine zz_metL zpl_X7 hDA (Nat.le_of_ble_eq_true rfl) ?_
  intro p e R s m args below meth c Q ls hx hb hml C hRf hRl hQ hP hS hl
  have hl : lv_has ls 7 [(0, .ref (a (h + 7))), (1, .int p1), (2, .int p2), (3, .long p3)] := hl
  unfold f_X7_lowBy at hf
  refine lv_aload_n hx hb dX7_lowBy_0 rfl (lv_at hl 0 rfl) ?_
  refine zg_X7_31 hx hb C hP (lth hh 7 (by decide)) (lay_h7 hh) rfl dX7_lowBy_1 ?_
  refine lv_aload_n hx hb dX7_lowBy_4 rfl (lv_at hl 0 rfl) ?_
  refine lv_iload_n hx hb dX7_lowBy_5 rfl (lv_at hl 1 rfl) ?_
  obtain ⟨u1, hzu1, hf⟩ := obd_some hf
  refine zz_callVi (rest := [.ref (a (h + 12))]) hx hb hml C hP hS (c_X7_slot l hDA (h := h) hh p1 hzu1) zw_X7_91 ⟨Nat.le_trans (Nat.le_of_ble_eq_true rfl) hRf, Nat.le_trans (Nat.le_of_ble_eq_true rfl) hRl⟩ (lth hh 7 (by decide)) (lay_h7 hh) rfl rfl hl.1 (Nat.le_of_ble_eq_true rfl) ⟨Nat.zero_le _, Nat.zero_le _⟩ rfl dX7_lowBy_6 (fun H locs hP hS => ?_)
  obtain ⟨hc1, hf⟩ := chk_some hf
  refine zz_lald hx hb C hP (lth hh 12 (by decide)) (lay_h12 hh) (inb_vp hc1) dX7_lowBy_9 ?_
  refine lv_topl (fun v3 ev3 => ?_)
  have hf := bnd_at v3 ev3 hf
  refine lv_lstore (lv' := [(5, .long v3), (0, .ref (a (h + 7))), (1, .int p1), (2, .int p2), (3, .long p3)]) hx hb dX7_lowBy_10 hl (by decide) rfl (fun ls hl => ?_)
  refine lv_iload_n hx hb dX7_lowBy_12 rfl (lv_at hl 3 rfl) ?_
  refine lv_iconst (v := 1) hx hb dX7_lowBy_13 (by decide) ?_
  refine lv_icmp_ne (tgt := 24) hx hb dX7_lowBy_14 (by decide) (fun hb3 => ?_) (fun hb3 => ?_)
  · have hf := ifF hb3 hf
    refine lv_lload_n hx hb dX7_lowBy_24 rfl (lv_at hl 4 rfl) ?_
    refine lv_lload hx hb dX7_lowBy_25 (lv_at hl 0 rfl) ?_
    refine lv_ldc2 (v := (-1)) hx hb C.1 (C.2.1 _ kk_X7_81) dX7_lowBy_27 ?_
    refine lv_lxor hx hb dX7_lowBy_30 ?_
    refine lv_land hx hb dX7_lowBy_31 ?_
    have hf := Option.some.inj hf
    subst hf
    exact hQ _ _ _ _ dX7_lowBy_32 hP hS
  · have hf := ifT hb3 hf
    refine lv_lload_n hx hb dX7_lowBy_17 rfl (lv_at hl 4 rfl) ?_
    refine lv_lload hx hb dX7_lowBy_18 (lv_at hl 0 rfl) ?_
    refine lv_land hx hb dX7_lowBy_20 ?_
    refine lv_goto (tgt := 32) hx hb dX7_lowBy_21 (by decide) ?_
    have hf := Option.some.inj hf
    subst hf
    exact hQ _ _ _ _ dX7_lowBy_32 hP hS
set_option maxHeartbeats 4000000 in
set_option maxRecDepth 100000 in
theorem c_X7_highBy (l : Launch) {D : va_G} {a : Nat → Nat} {cA : Nat → ClassId} {A : Nat → Prop} {sa : Nat → Nat} (hDA : DA a A) {σ : PH} {d : PD} {h : Nat} (hh : isHall h) (p1 : Int32) (p2 : Int32) (p3 : Int64) {u : Int64 × PH} (hf : f_X7_highBy σ h p1 p2 p3 = some u) : CTl l yX7_highBy cX7_highBy 7 (some .long) 3 76 D a cA A sa [.ref (a (h + 7)), .int p1, .int p2, .long p3] σ d u.1 u.2 d := by
  refine zz_metL zpl_X7 hDA (Nat.le_of_ble_eq_true rfl) ?_
  intro p e R s m args below meth c Q ls hx hb hml C hRf hRl hQ hP hS hl
  have hl : lv_has ls 7 [(0, .ref (a (h + 7))), (1, .int p1), (2, .int p2), (3, .long p3)] := hl
  unfold f_X7_highBy at hf
  refine lv_aload_n hx hb dX7_highBy_0 rfl (lv_at hl 0 rfl) ?_
  refine zg_X7_34 hx hb C hP (lth hh 7 (by decide)) (lay_h7 hh) rfl dX7_highBy_1 ?_
  refine lv_aload_n hx hb dX7_highBy_4 rfl (lv_at hl 0 rfl) ?_
  refine lv_iload_n hx hb dX7_highBy_5 rfl (lv_at hl 1 rfl) ?_
  obtain ⟨u1, hzu1, hf⟩ := obd_some hf
  refine zz_callVi (rest := [.ref (a (h + 13))]) hx hb hml C hP hS (c_X7_slot l hDA (h := h) hh p1 hzu1) zw_X7_91 ⟨Nat.le_trans (Nat.le_of_ble_eq_true rfl) hRf, Nat.le_trans (Nat.le_of_ble_eq_true rfl) hRl⟩ (lth hh 7 (by decide)) (lay_h7 hh) rfl rfl hl.1 (Nat.le_of_ble_eq_true rfl) ⟨Nat.zero_le _, Nat.zero_le _⟩ rfl dX7_highBy_6 (fun H locs hP hS => ?_)
  obtain ⟨hc1, hf⟩ := chk_some hf
  refine zz_lald hx hb C hP (lth hh 13 (by decide)) (lay_h13 hh) (inb_vp hc1) dX7_highBy_9 ?_
  refine lv_topl (fun v3 ev3 => ?_)
  have hf := bnd_at v3 ev3 hf
  refine lv_lstore (lv' := [(5, .long v3), (0, .ref (a (h + 7))), (1, .int p1), (2, .int p2), (3, .long p3)]) hx hb dX7_highBy_10 hl (by decide) rfl (fun ls hl => ?_)
  refine lv_iload_n hx hb dX7_highBy_12 rfl (lv_at hl 3 rfl) ?_
  refine lv_iconst (v := 1) hx hb dX7_highBy_13 (by decide) ?_
  refine lv_icmp_ne (tgt := 24) hx hb dX7_highBy_14 (by decide) (fun hb3 => ?_) (fun hb3 => ?_)
  · have hf := ifF hb3 hf
    refine lv_lload_n hx hb dX7_highBy_24 rfl (lv_at hl 4 rfl) ?_
    refine lv_lload hx hb dX7_highBy_25 (lv_at hl 0 rfl) ?_
    refine lv_ldc2 (v := (-1)) hx hb C.1 (C.2.1 _ kk_X7_81) dX7_highBy_27 ?_
    refine lv_lxor hx hb dX7_highBy_30 ?_
    refine lv_land hx hb dX7_highBy_31 ?_
    have hf := Option.some.inj hf
    subst hf
    exact hQ _ _ _ _ dX7_highBy_32 hP hS
  · have hf := ifT hb3 hf
    refine lv_lload_n hx hb dX7_highBy_17 rfl (lv_at hl 4 rfl) ?_
    refine lv_lload hx hb dX7_highBy_18 (lv_at hl 0 rfl) ?_
    refine lv_land hx hb dX7_highBy_20 ?_
    refine lv_goto (tgt := 32) hx hb dX7_highBy_21 (by decide) ?_
    have hf := Option.some.inj hf
    subst hf
    exact hQ _ _ _ _ dX7_highBy_32 hP hS
set_option maxHeartbeats 4000000 in
set_option maxRecDepth 100000 in
theorem c_X1_follow (l : Launch) {D : va_G} {a : Nat → Nat} {cA : Nat → ClassId} {A : Nat → Prop} {sa : Nat → Nat} (hDA : DA a A) {σ : PH} {d : PD} {h : Nat} (hh : isHall h) {u : PH} (hf : f_X1_follow σ h = some u) : CTv l yX1_follow cX1_follow 9 none 5 133 D a cA A sa [.ref (a 7), .ref (a h)] σ d u d := by
  refine zz_metV zpl_X1 hDA (Nat.le_of_ble_eq_true rfl) ?_
  intro p e R s m args below meth c Q ls hx hb hml C hRf hRl hQ hP hS hl
  have hl : lv_has ls 9 [(0, .ref (a 7)), (1, .ref (a h))] := hl
  unfold f_X1_follow at hf
  refine lv_aload_n hx hb dX1_follow_0 rfl (lv_at hl 0 rfl) ?_
  refine lv_iconst (v := 0) hx hb dX1_follow_1 (by decide) ?_
  refine zp_X1_35 hx hb C hP hS (by decide) lay_7 rfl dX1_follow_2 (fun σ1 eσ1 H locs hP hS => ?_)
  have hf := bnd_at σ1 eσ1 hf
  refine lv_aload_n hx hb dX1_follow_5 rfl (lv_at hl 0 rfl) ?_
  refine lv_iconst (v := 0) hx hb dX1_follow_6 (by decide) ?_
  refine zp_X1_38 hx hb C hP hS (by decide) lay_7 rfl dX1_follow_7 (fun σ2 eσ2 H locs hP hS => ?_)
  have hf := bnd_at σ2 eσ2 hf
  refine lv_aload_n hx hb dX1_follow_10 rfl (lv_at hl 0 rfl) ?_
  refine lv_lconst (v := 0) hx hb dX1_follow_11 (by decide) ?_
  refine zp_X1_28 hx hb C hP hS (by decide) lay_7 rfl dX1_follow_12 (fun σ3 eσ3 H locs hP hS => ?_)
  have hf := bnd_at σ3 eσ3 hf
  refine lv_aload_n hx hb dX1_follow_15 rfl (lv_at hl 0 rfl) ?_
  refine lv_aload_n hx hb dX1_follow_16 rfl (lv_at hl 1 rfl) ?_
  refine zg_X1_41 hx hb C hP (lth0 hh) (lay_h0 hh) rfl dX1_follow_17 ?_
  refine lv_aload_n hx hb dX1_follow_20 rfl (lv_at hl 1 rfl) ?_
  refine zg_X1_47 hx hb C hP (lth0 hh) (lay_h0 hh) rfl dX1_follow_21 ?_
  refine lv_aload_n hx hb dX1_follow_24 rfl (lv_at hl 1 rfl) ?_
  refine zg_X1_50 hx hb C hP (lth0 hh) (lay_h0 hh) rfl dX1_follow_25 ?_
  obtain ⟨u4, hzu4, hf⟩ := obd_some hf
  refine zz_callVl (rest := [.ref (a 7)]) hx hb hml C hP hS (c_X7_weightIn l hDA (h := h) hh (gJ σ3 h 7) (gJ σ3 h 8) hzu4) zw_X1_53 ⟨Nat.le_trans (Nat.le_of_ble_eq_true rfl) hRf, Nat.le_trans (Nat.le_of_ble_eq_true rfl) hRl⟩ (lth hh 7 (by decide)) (lay_h7 hh) rfl rfl hl.1 (Nat.le_of_ble_eq_true rfl) ⟨Nat.zero_le _, Nat.zero_le _⟩ rfl dX1_follow_28 (fun H locs hP hS => ?_)
  refine zp_X1_32 hx hb C hP hS (by decide) lay_7 rfl dX1_follow_31 (fun σ5 eσ5 H locs hP hS => ?_)
  have hf := bnd_at σ5 eσ5 hf
  refine lv_aload_n hx hb dX1_follow_34 rfl (lv_at hl 0 rfl) ?_
  refine lv_iconst (v := 0) hx hb dX1_follow_35 (by decide) ?_
  refine zp_X1_24 hx hb C hP hS (by decide) lay_7 rfl dX1_follow_36 (fun σ6 eσ6 H locs hP hS => ?_)
  have hf := bnd_at σ6 eσ6 hf
  refine lv_aload_n hx hb dX1_follow_39 rfl (lv_at hl 0 rfl) ?_
  refine lv_aload_n hx hb dX1_follow_40 rfl (lv_at hl 1 rfl) ?_
  refine zg_X1_47 hx hb C hP (lth0 hh) (lay_h0 hh) rfl dX1_follow_41 ?_
  refine lv_aload_n hx hb dX1_follow_44 rfl (lv_at hl 1 rfl) ?_
  refine zg_X1_50 hx hb C hP (lth0 hh) (lay_h0 hh) rfl dX1_follow_45 ?_
  refine lv_iconst (v := 0) hx hb dX1_follow_48 (by decide) ?_
  obtain ⟨u7, hzu7, hf⟩ := obd_some hf
  refine zz_callVv (rest := []) hx hb hml C hP hS (c_X1_lay l hDA (gJ σ6 h 7) (gJ σ6 h 8) 0 hzu7) zw_X1_57 ⟨Nat.le_trans (Nat.le_of_ble_eq_true rfl) hRf, Nat.le_trans (Nat.le_of_ble_eq_true rfl) hRl⟩ (by decide) lay_7 rfl rfl hl.1 (Nat.le_of_ble_eq_true rfl) ⟨Nat.zero_le _, Nat.zero_le _⟩ rfl dX1_follow_49 (fun H locs hP hS => ?_)
  refine lv_iconst (v := 0) hx hb dX1_follow_52 (by decide) ?_
  refine lv_istore_n (lv' := [(2, .int 0), (0, .ref (a 7)), (1, .ref (a h))]) hx hb dX1_follow_53 rfl hl (by decide) rfl (fun ls hl => ?_)
  refine loopN_ind (P := fun (q8 : Int32 × PH) => ∀ (H : Heap) (locs : List Loc) (ls : Array Slot), lv_has ls 9 [(0, .ref (a 7)), (1, .ref (a h)), (2, .int q8.1)] → va_P D vwCl (wl a cA q8.2 d) H → va_S A s.heap H locs → W p l e R s m args below meth c H locs 0 0 Q (F0 m 54 ls [])) ?_ _ _ hf _ _ _ (lv_sub hl [1, 2, 0] rfl) hP hS
  intro k9 ihk9 q8 hf H locs ls hl hP hS
  unfold b_X1_follow_54 at hf
  refine lv_iload_n hx hb dX1_follow_54 rfl (lv_at hl 2 rfl) ?_
  refine lv_ldc (v := 1000000) hx hb C.1 (C.2.1 _ kk_X1_61) dX1_follow_55 ?_
  refine lv_icmp_ge (tgt := 248) hx hb dX1_follow_57 (by decide) (fun hb9 => ?_) (fun hb9 => ?_)
  · have hf := ifT hb9 hf
    have hf := Option.some.inj hf
    subst hf
    exact hQ _ _ _ _ dX1_follow_248 hP hS
  · have hf := ifF hb9 hf
    refine lv_aload_n hx hb dX1_follow_60 rfl (lv_at hl 0 rfl) ?_
    refine zg_X1_24 hx hb C hP (by decide) lay_7 rfl dX1_follow_61 ?_
    refine lv_if_le (tgt := 248) hx hb dX1_follow_64 (by decide) (fun hb10 => ?_) (fun hb10 => ?_)
    · have hf := ifT hb10 hf
      have hf := Option.some.inj hf
      subst hf
      exact hQ _ _ _ _ dX1_follow_248 hP hS
    · have hf := ifF hb10 hf
      refine lv_aload_n hx hb dX1_follow_67 rfl (lv_at hl 0 rfl) ?_
      refine lv_dup hx hb dX1_follow_68 rfl ?_
      refine zg_X1_24 hx hb C hP (by decide) lay_7 rfl dX1_follow_69 ?_
      refine lv_iconst (v := 1) hx hb dX1_follow_72 (by decide) ?_
      refine lv_isub hx hb dX1_follow_73 ?_
      refine zp_X1_24 hx hb C hP hS (by decide) lay_7 rfl dX1_follow_74 (fun σ12 eσ12 H locs hP hS => ?_)
      have hf := bnd_at σ12 eσ12 hf
      refine lv_aload_n hx hb dX1_follow_77 rfl (lv_at hl 0 rfl) ?_
      refine zg_X1_13 hx hb C hP (by decide) lay_7 rfl dX1_follow_78 ?_
      refine lv_aload_n hx hb dX1_follow_81 rfl (lv_at hl 0 rfl) ?_
      refine zg_X1_24 hx hb C hP (by decide) lay_7 rfl dX1_follow_82 ?_
      obtain ⟨hc12, hf⟩ := chk_some hf
      refine zz_lald hx hb C hP (by decide) lay_8 (inb_vp hc12) dX1_follow_85 ?_
      refine lv_topl (fun v14 ev14 => ?_)
      have hf := bnd_at v14 ev14 hf
      refine lv_lstore_n (lv' := [(3, .long v14), (0, .ref (a 7)), (1, .ref (a h)), (2, .int q8.1)]) hx hb dX1_follow_86 rfl hl (by decide) rfl (fun ls hl => ?_)
      refine lv_aload_n hx hb dX1_follow_87 rfl (lv_at hl 1 rfl) ?_
      refine zg_X1_17 hx hb C hP (by decide) lay_7 rfl dX1_follow_88 ?_
      refine lv_aload_n hx hb dX1_follow_91 rfl (lv_at hl 1 rfl) ?_
      refine zg_X1_24 hx hb C hP (by decide) lay_7 rfl dX1_follow_92 ?_
      obtain ⟨hc14, hf⟩ := chk_some hf
      refine zz_lald hx hb C hP (by decide) lay_9 (inb_vp hc14) dX1_follow_95 ?_
      refine lv_topl (fun v16 ev16 => ?_)
      have hf := bnd_at v16 ev16 hf
      refine lv_lstore (lv' := [(5, .long v16), (3, .long v14), (0, .ref (a 7)), (1, .ref (a h)), (2, .int q8.1)]) hx hb dX1_follow_96 hl (by decide) rfl (fun ls hl => ?_)
      refine lv_aload_n hx hb dX1_follow_98 rfl (lv_at hl 2 rfl) ?_
      refine zg_X1_20 hx hb C hP (by decide) lay_7 rfl dX1_follow_99 ?_
      refine lv_aload_n hx hb dX1_follow_102 rfl (lv_at hl 2 rfl) ?_
      refine zg_X1_24 hx hb C hP (by decide) lay_7 rfl dX1_follow_103 ?_
      obtain ⟨hc16, hf⟩ := chk_some hf
      refine zz_iald hx hb C hP (by decide) lay_10 (inb_vp hc16) dX1_follow_106 ?_
      refine lv_topi (fun v18 ev18 => ?_)
      have hf := bnd_at v18 ev18 hf
      refine lv_istore (lv' := [(7, .int v18), (5, .long v16), (3, .long v14), (0, .ref (a 7)), (1, .ref (a h)), (2, .int q8.1)]) hx hb dX1_follow_107 hl (by decide) rfl (fun ls hl => ?_)
      refine lv_aload_n hx hb dX1_follow_109 rfl (lv_at hl 4 rfl) ?_
      refine lv_lload_n hx hb dX1_follow_110 rfl (lv_at hl 2 rfl) ?_
      refine lv_lload hx hb dX1_follow_111 (lv_at hl 1 rfl) ?_
      obtain ⟨u19, hzu19, hf⟩ := obd_some hf
      refine zz_callVi (rest := []) hx hb hml C hP hS (c_X2_best l hDA (h := h) hh v14 v16 hzu19) zw_X1_62 ⟨Nat.le_trans (Nat.le_of_ble_eq_true rfl) hRf, Nat.le_trans (Nat.le_of_ble_eq_true rfl) hRl⟩ (lth0 hh) (lay_h0 hh) rfl rfl hl.1 (Nat.le_of_ble_eq_true rfl) ⟨Nat.zero_le _, Nat.zero_le _⟩ rfl dX1_follow_113 (fun H locs hP hS => ?_)
      refine lv_istore (lv' := [(8, .int u19.1), (7, .int v18), (5, .long v16), (3, .long v14), (0, .ref (a 7)), (1, .ref (a h)), (2, .int q8.1)]) hx hb dX1_follow_116 hl (by decide) rfl (fun ls hl => ?_)
      refine lv_iload hx hb dX1_follow_118 (lv_at hl 0 rfl) ?_
      refine lv_iconst (v := (-1)) hx hb dX1_follow_120 (by decide) ?_
      refine lv_icmp_ne (tgt := 180) hx hb dX1_follow_121 (by decide) (fun hb19 => ?_) (fun hb19 => ?_)
      · have hf := ifF hb19 hf
        refine lv_aload_n hx hb dX1_follow_180 rfl (lv_at hl 4 rfl) ?_
        refine lv_aload_n hx hb dX1_follow_181 rfl (lv_at hl 5 rfl) ?_
        refine zg_X1_41 hx hb C hP (lth0 hh) (lay_h0 hh) rfl dX1_follow_182 ?_
        refine lv_iload hx hb dX1_follow_185 (lv_at hl 0 rfl) ?_
        refine lv_iconst (v := 1) hx hb dX1_follow_187 (by decide) ?_
        refine lv_lload_n hx hb dX1_follow_188 rfl (lv_at hl 3 rfl) ?_
        obtain ⟨u21, hzu21, hf⟩ := obd_some hf
        refine zz_callVl (rest := [.ref (a 7)]) hx hb hml C hP hS (c_X7_lowBy l hDA (h := h) hh u19.1 1 v14 hzu21) zw_X1_75 ⟨Nat.le_trans (Nat.le_of_ble_eq_true rfl) hRf, Nat.le_trans (Nat.le_of_ble_eq_true rfl) hRl⟩ (lth hh 7 (by decide)) (lay_h7 hh) rfl rfl hl.1 (Nat.le_of_ble_eq_true rfl) ⟨Nat.zero_le _, Nat.zero_le _⟩ rfl dX1_follow_189 (fun H locs hP hS => ?_)
        refine lv_aload_n hx hb dX1_follow_192 rfl (lv_at hl 5 rfl) ?_
        refine zg_X1_41 hx hb C hP (lth0 hh) (lay_h0 hh) rfl dX1_follow_193 ?_
        refine lv_iload hx hb dX1_follow_196 (lv_at hl 0 rfl) ?_
        refine lv_iconst (v := 1) hx hb dX1_follow_198 (by decide) ?_
        refine lv_lload hx hb dX1_follow_199 (lv_at hl 2 rfl) ?_
        obtain ⟨u22, hzu22, hf⟩ := obd_some hf
        refine zz_callVl (rest := [.long u21.1, .ref (a 7)]) hx hb hml C hP hS (c_X7_highBy l hDA (h := h) hh u19.1 1 v16 hzu22) zw_X1_79 ⟨Nat.le_trans (Nat.le_of_ble_eq_true rfl) hRf, Nat.le_trans (Nat.le_of_ble_eq_true rfl) hRl⟩ (lth hh 7 (by decide)) (lay_h7 hh) rfl rfl hl.1 (Nat.le_of_ble_eq_true rfl) ⟨Nat.zero_le _, Nat.zero_le _⟩ rfl dX1_follow_201 (fun H locs hP hS => ?_)
        refine lv_iload hx hb dX1_follow_204 (lv_at hl 1 rfl) ?_
        refine lv_iconst (v := 1) hx hb dX1_follow_206 (by decide) ?_
        refine lv_iadd hx hb dX1_follow_207 ?_
        obtain ⟨u23, hzu23, hf⟩ := obd_some hf
        refine zz_callVv (rest := []) hx hb hml C hP hS (c_X1_lay l hDA u21.1 u22.1 (v18 + 1) hzu23) zw_X1_57 ⟨Nat.le_trans (Nat.le_of_ble_eq_true rfl) hRf, Nat.le_trans (Nat.le_of_ble_eq_true rfl) hRl⟩ (by decide) lay_7 rfl rfl hl.1 (Nat.le_of_ble_eq_true rfl) ⟨Nat.zero_le _, Nat.zero_le _⟩ rfl dX1_follow_208 (fun H locs hP hS => ?_)
        refine lv_aload_n hx hb dX1_follow_211 rfl (lv_at hl 4 rfl) ?_
        refine lv_aload_n hx hb dX1_follow_212 rfl (lv_at hl 5 rfl) ?_
        refine zg_X1_41 hx hb C hP (lth0 hh) (lay_h0 hh) rfl dX1_follow_213 ?_
        refine lv_iload hx hb dX1_follow_216 (lv_at hl 0 rfl) ?_
        refine lv_iconst (v := 0) hx hb dX1_follow_218 (by decide) ?_
        refine lv_lload_n hx hb dX1_follow_219 rfl (lv_at hl 3 rfl) ?_
        obtain ⟨u24, hzu24, hf⟩ := obd_some hf
        refine zz_callVl (rest := [.ref (a 7)]) hx hb hml C hP hS (c_X7_lowBy l hDA (h := h) hh u19.1 0 v14 hzu24) zw_X1_75 ⟨Nat.le_trans (Nat.le_of_ble_eq_true rfl) hRf, Nat.le_trans (Nat.le_of_ble_eq_true rfl) hRl⟩ (lth hh 7 (by decide)) (lay_h7 hh) rfl rfl hl.1 (Nat.le_of_ble_eq_true rfl) ⟨Nat.zero_le _, Nat.zero_le _⟩ rfl dX1_follow_220 (fun H locs hP hS => ?_)
        refine lv_aload_n hx hb dX1_follow_223 rfl (lv_at hl 5 rfl) ?_
        refine zg_X1_41 hx hb C hP (lth0 hh) (lay_h0 hh) rfl dX1_follow_224 ?_
        refine lv_iload hx hb dX1_follow_227 (lv_at hl 0 rfl) ?_
        refine lv_iconst (v := 0) hx hb dX1_follow_229 (by decide) ?_
        refine lv_lload hx hb dX1_follow_230 (lv_at hl 2 rfl) ?_
        obtain ⟨u25, hzu25, hf⟩ := obd_some hf
        refine zz_callVl (rest := [.long u24.1, .ref (a 7)]) hx hb hml C hP hS (c_X7_highBy l hDA (h := h) hh u19.1 0 v16 hzu25) zw_X1_79 ⟨Nat.le_trans (Nat.le_of_ble_eq_true rfl) hRf, Nat.le_trans (Nat.le_of_ble_eq_true rfl) hRl⟩ (lth hh 7 (by decide)) (lay_h7 hh) rfl rfl hl.1 (Nat.le_of_ble_eq_true rfl) ⟨Nat.zero_le _, Nat.zero_le _⟩ rfl dX1_follow_232 (fun H locs hP hS => ?_)
        refine lv_iload hx hb dX1_follow_235 (lv_at hl 1 rfl) ?_
        refine lv_iconst (v := 1) hx hb dX1_follow_237 (by decide) ?_
        refine lv_iadd hx hb dX1_follow_238 ?_
        obtain ⟨u26, hzu26, hf⟩ := obd_some hf
        refine zz_callVv (rest := []) hx hb hml C hP hS (c_X1_lay l hDA u24.1 u25.1 (v18 + 1) hzu26) zw_X1_57 ⟨Nat.le_trans (Nat.le_of_ble_eq_true rfl) hRf, Nat.le_trans (Nat.le_of_ble_eq_true rfl) hRl⟩ (by decide) lay_7 rfl rfl hl.1 (Nat.le_of_ble_eq_true rfl) ⟨Nat.zero_le _, Nat.zero_le _⟩ rfl dX1_follow_239 (fun H locs hP hS => ?_)
        obtain ⟨v27, ev27⟩ : ∃ z : Int32, z = q8.1 + 1 := ⟨_, rfl⟩
        have hf := bnd_at v27 ev27 hf
        refine lv_iinc (v := v27) (lv' := [(2, .int v27), (8, .int u19.1), (7, .int v18), (5, .long v16), (3, .long v14), (0, .ref (a 7)), (1, .ref (a h))]) hx hb dX1_follow_242 hl (k := 6) rfl (by rw [ev27]; rfl) (by decide) rfl (fun ls hl => ?_)
        refine lv_goto (tgt := 54) hx hb dX1_follow_245 (by decide) ?_
        exact ihk9 _ hf _ _ _ (lv_sub hl [5, 6, 0] rfl) hP hS
      · have hf := ifT hb19 hf
        refine lv_aload_n hx hb dX1_follow_124 rfl (lv_at hl 4 rfl) ?_
        refine lv_aload_n hx hb dX1_follow_125 rfl (lv_at hl 4 rfl) ?_
        refine zg_X1_35 hx hb C hP (by decide) lay_7 rfl dX1_follow_126 ?_
        refine lv_iload hx hb dX1_follow_129 (lv_at hl 1 rfl) ?_
        refine zz_max hx hb (hml.trans hl.1.symm) C km_X1_66 kt_Lib_Math_max_name kn_J9 kc_Lib_Math_max_name (Nat.le_trans (by decide) hRf) (Nat.le_trans (Nat.le_of_ble_eq_true rfl) hRl) ⟨Nat.zero_le _, Nat.zero_le _⟩ dX1_follow_131 ?_
        refine zp_X1_35 hx hb C hP hS (by decide) lay_7 rfl dX1_follow_134 (fun σ28 eσ28 H locs hP hS => ?_)
        have hf := bnd_at σ28 eσ28 hf
        refine lv_aload_n hx hb dX1_follow_137 rfl (lv_at hl 4 rfl) ?_
        refine lv_aload_n hx hb dX1_follow_138 rfl (lv_at hl 4 rfl) ?_
        refine zg_X1_38 hx hb C hP (by decide) lay_7 rfl dX1_follow_139 ?_
        refine lv_lload_n hx hb dX1_follow_142 rfl (lv_at hl 3 rfl) ?_
        refine lv_lload hx hb dX1_follow_143 (lv_at hl 2 rfl) ?_
        obtain ⟨u29, hzu29⟩ : ∃ z, z = f_X7_countIn v14 v16 := ⟨_, rfl⟩
        have hf := bnd_at u29 hzu29 hf
        refine zz_callSi (rest := [.int (gI σ28 7 7), .ref (a 7)]) hx hb hml C hP hS (c_X7_countIn l hDA v14 v16 hzu29.symm) zw_X1_72 ⟨Nat.le_trans (Nat.le_of_ble_eq_true rfl) hRf, Nat.le_trans (Nat.le_of_ble_eq_true rfl) hRl⟩  rfl hl.1 (Nat.le_of_ble_eq_true rfl) ⟨Nat.zero_le _, Nat.zero_le _⟩ rfl dX1_follow_145 (fun H locs hP hS => ?_)
        refine zz_max hx hb (hml.trans hl.1.symm) C km_X1_66 kt_Lib_Math_max_name kn_J9 kc_Lib_Math_max_name (Nat.le_trans (by decide) hRf) (Nat.le_trans (Nat.le_of_ble_eq_true rfl) hRl) ⟨Nat.zero_le _, Nat.zero_le _⟩ dX1_follow_148 ?_
        refine zp_X1_38 hx hb C hP hS (by decide) lay_7 rfl dX1_follow_151 (fun σ30 eσ30 H locs hP hS => ?_)
        have hf := bnd_at σ30 eσ30 hf
        refine lv_aload_n hx hb dX1_follow_154 rfl (lv_at hl 4 rfl) ?_
        refine lv_dup hx hb dX1_follow_155 rfl ?_
        refine zg_X1_28 hx hb C hP (by decide) lay_7 rfl dX1_follow_156 ?_
        refine lv_iload hx hb dX1_follow_159 (lv_at hl 1 rfl) ?_
        refine lv_i2l (v := v18.toInt64) hx hb dX1_follow_161 rfl ?_
        refine lv_aload_n hx hb dX1_follow_162 rfl (lv_at hl 5 rfl) ?_
        refine zg_X1_41 hx hb C hP (lth0 hh) (lay_h0 hh) rfl dX1_follow_163 ?_
        refine lv_lload_n hx hb dX1_follow_166 rfl (lv_at hl 3 rfl) ?_
        refine lv_lload hx hb dX1_follow_167 (lv_at hl 2 rfl) ?_
        obtain ⟨u31, hzu31, hf⟩ := obd_some hf
        refine zz_callVl (rest := [.long v18.toInt64, .long (gJ σ30 7 4), .ref (a 7)]) hx hb hml C hP hS (c_X7_weightIn l hDA (h := h) hh v14 v16 hzu31) zw_X1_53 ⟨Nat.le_trans (Nat.le_of_ble_eq_true rfl) hRf, Nat.le_trans (Nat.le_of_ble_eq_true rfl) hRl⟩ (lth hh 7 (by decide)) (lay_h7 hh) rfl rfl hl.1 (Nat.le_of_ble_eq_true rfl) ⟨Nat.zero_le _, Nat.zero_le _⟩ rfl dX1_follow_169 (fun H locs hP hS => ?_)
        refine lv_lmul hx hb dX1_follow_172 ?_
        refine lv_ladd hx hb dX1_follow_173 ?_
        refine zp_X1_28 hx hb C hP hS (by decide) lay_7 rfl dX1_follow_174 (fun σ32 eσ32 H locs hP hS => ?_)
        have hf := bnd_at σ32 eσ32 hf
        refine lv_goto (tgt := 242) hx hb dX1_follow_177 (by decide) ?_
        obtain ⟨v33, ev33⟩ : ∃ z : Int32, z = q8.1 + 1 := ⟨_, rfl⟩
        have hf := bnd_at v33 ev33 hf
        refine lv_iinc (v := v33) (lv' := [(2, .int v33), (8, .int u19.1), (7, .int v18), (5, .long v16), (3, .long v14), (0, .ref (a 7)), (1, .ref (a h))]) hx hb dX1_follow_242 hl (k := 6) rfl (by rw [ev33]; rfl) (by decide) rfl (fun ls hl => ?_)
        refine lv_goto (tgt := 54) hx hb dX1_follow_245 (by decide) ?_
        exact ihk9 _ hf _ _ _ (lv_sub hl [5, 6, 0] rfl) hP hS
set_option maxHeartbeats 4000000 in
set_option maxRecDepth 100000 in
theorem c_X1_mean (l : Launch) {D : va_G} {a : Nat → Nat} {cA : Nat → ClassId} {A : Nat → Prop} {sa : Nat → Nat} (hDA : DA a A) {σ : PH} {d : PD}  {u : Int32} (hf : f_X1_mean σ = some u) : CTi l yX1_mean cX1_mean 1 (some .int) 0 0 D a cA A sa [.ref (a 7)] σ d u σ d := by
  refine zz_metI zpl_X1 hDA (Nat.le_of_ble_eq_true rfl) ?_
  intro p e R s m args below meth c Q ls hx hb hml C hRf hRl hQ hP hS hl
  have hl : lv_has ls 1 [(0, .ref (a 7))] := hl
  unfold f_X1_mean at hf
  refine lv_aload_n hx hb dX1_mean_0 rfl (lv_at hl 0 rfl) ?_
  refine zg_X1_32 hx hb C hP (by decide) lay_7 rfl dX1_mean_1 ?_
  refine lv_lconst (v := 0) hx hb dX1_mean_4 (by decide) ?_
  refine W.lcmp hx hb dX1_mean_5 ?_
  refine lv_if_ne (tgt := 13) hx hb dX1_mean_6 (by decide) (fun hb0 => ?_) (fun hb0 => ?_)
  · have hf := ifF hb0 hf
    refine lv_ldc2 (v := 1000) hx hb C.1 (C.2.1 _ kk_X1_82) dX1_mean_13 ?_
    refine lv_aload_n hx hb dX1_mean_16 rfl (lv_at hl 0 rfl) ?_
    refine zg_X1_28 hx hb C hP (by decide) lay_7 rfl dX1_mean_17 ?_
    refine lv_lmul hx hb dX1_mean_20 ?_
    refine lv_aload_n hx hb dX1_mean_21 rfl (lv_at hl 0 rfl) ?_
    refine zg_X1_32 hx hb C hP (by decide) lay_7 rfl dX1_mean_22 ?_
    obtain ⟨hc2, hf⟩ := chk_some hf
    refine lv_ldiv hx hb dX1_mean_25 hc2 ?_
    refine lv_l2i (v := ((1000 * (gJ σ 7 4)) / (gJ σ 7 5)).toInt32) hx hb dX1_mean_26 rfl ?_
    have hf := Option.some.inj hf
    subst hf
    exact hQ _ _ _ _ dX1_mean_27 hP hS
  · have hf := ifT hb0 hf
    refine lv_iconst (v := 0) hx hb dX1_mean_9 (by decide) ?_
    refine lv_goto (tgt := 27) hx hb dX1_mean_10 (by decide) ?_
    have hf := Option.some.inj hf
    subst hf
    exact hQ _ _ _ _ dX1_mean_27 hP hS
set_option maxHeartbeats 4000000 in
set_option maxRecDepth 100000 in
theorem c_X2_suits (l : Launch) {D : va_G} {a : Nat → Nat} {cA : Nat → ClassId} {A : Nat → Prop} {sa : Nat → Nat} (hDA : DA a A) {σ : PH} {d : PD} (p1 : Int32) (p2 : Int32) {u : Int32} (hf : f_X2_suits p1 p2 = some u) : CTi l yX2_suits cX2_suits 2 (some .boolean) 0 0 D a cA A sa [.int p1, .int p2] σ d u σ d := by
  refine zz_metZ zpl_X2 hDA (Nat.le_of_ble_eq_true rfl) ?_
  intro p e R s m args below meth c Q ls hx hb hml C hRf hRl hQ hP hS hl
  have hl : lv_has ls 2 [(0, .int p1), (1, .int p2)] := hl
  unfold f_X2_suits at hf
  refine lv_iload_n hx hb dX2_suits_0 rfl (lv_at hl 0 rfl) ?_
  refine lv_if_lt (tgt := 31) hx hb dX2_suits_1 (by decide) (fun hb0 => ?_) (fun hb0 => ?_)
  · have hf := ifT hb0 hf
    refine lv_iconst (v := 0) hx hb dX2_suits_31 (by decide) ?_
    have hf := Option.some.inj hf
    subst hf
    exact hQ _ _ _ _ dX2_suits_32 (show narrow .boolean (.int 0) = .int 0 from rfl) hP hS
  · have hf := ifF hb0 hf
    refine lv_iload_n hx hb dX2_suits_4 rfl (lv_at hl 0 rfl) ?_
    refine lv_iconst (v := 4) hx hb dX2_suits_5 (by decide) ?_
    refine lv_icmp_ge (tgt := 31) hx hb dX2_suits_6 (by decide) (fun hb1 => ?_) (fun hb1 => ?_)
    · have hf := ifT hb1 hf
      refine lv_iconst (v := 0) hx hb dX2_suits_31 (by decide) ?_
      have hf := Option.some.inj hf
      subst hf
      exact hQ _ _ _ _ dX2_suits_32 (show narrow .boolean (.int 0) = .int 0 from rfl) hP hS
    · have hf := ifF hb1 hf
      refine lv_iload_n hx hb dX2_suits_9 rfl (lv_at hl 1 rfl) ?_
      refine zz_sget hx hb C hS C.2.2.2.1.2.1 kf_X2_51 dX2_suits_10 ?_
      refine lv_iload_n hx hb dX2_suits_13 rfl (lv_at hl 0 rfl) ?_
      obtain ⟨hc2, hf⟩ := chk_some hf
      refine zz_sald hx hb hS C.2.2.2.1.2.1 (inb_vp hc2) dX2_suits_14 ?_
      refine lv_icmp_lt (tgt := 31) hx hb dX2_suits_15 (by decide) (fun hb3 => ?_) (fun hb3 => ?_)
      · have hf := ifT hb3 hf
        refine lv_iconst (v := 0) hx hb dX2_suits_31 (by decide) ?_
        have hf := Option.some.inj hf
        subst hf
        exact hQ _ _ _ _ dX2_suits_32 (show narrow .boolean (.int 0) = .int 0 from rfl) hP hS
      · have hf := ifF hb3 hf
        refine lv_iload_n hx hb dX2_suits_18 rfl (lv_at hl 1 rfl) ?_
        refine zz_sget hx hb C hS C.2.2.2.1.2.2.1 kf_X2_54 dX2_suits_19 ?_
        refine lv_iload_n hx hb dX2_suits_22 rfl (lv_at hl 0 rfl) ?_
        obtain ⟨hc4, hf⟩ := chk_some hf
        refine zz_sald hx hb hS C.2.2.2.1.2.2.1 (inb_vp hc4) dX2_suits_23 ?_
        refine lv_icmp_gt (tgt := 31) hx hb dX2_suits_24 (by decide) (fun hb5 => ?_) (fun hb5 => ?_)
        · have hf := ifT hb5 hf
          refine lv_iconst (v := 0) hx hb dX2_suits_31 (by decide) ?_
          have hf := Option.some.inj hf
          subst hf
          exact hQ _ _ _ _ dX2_suits_32 (show narrow .boolean (.int 0) = .int 0 from rfl) hP hS
        · have hf := ifF hb5 hf
          refine lv_iconst (v := 1) hx hb dX2_suits_27 (by decide) ?_
          refine lv_goto (tgt := 32) hx hb dX2_suits_28 (by decide) ?_
          have hf := Option.some.inj hf
          subst hf
          exact hQ _ _ _ _ dX2_suits_32 (show narrow .boolean (.int 1) = .int 1 from rfl) hP hS
set_option maxHeartbeats 4000000 in
set_option maxRecDepth 100000 in
theorem c_X2_rule (l : Launch) {D : va_G} {a : Nat → Nat} {cA : Nat → ClassId} {A : Nat → Prop} {sa : Nat → Nat} (hDA : DA a A) {σ : PH} {d : PD} {h : Nat} (hh : isHall h) (p1 : Int32) {u : Int32} (hf : f_X2_rule σ h p1 = some u) : CTi l yX2_rule cX2_rule 2 (some .int) 0 0 D a cA A sa [.ref (a h), .int p1] σ d u σ d := by
  refine zz_metI zpl_X2 hDA (Nat.le_of_ble_eq_true rfl) ?_
  intro p e R s m args below meth c Q ls hx hb hml C hRf hRl hQ hP hS hl
  have hl : lv_has ls 2 [(0, .ref (a h)), (1, .int p1)] := hl
  unfold f_X2_rule at hf
  refine lv_iload_n hx hb dX2_rule_0 rfl (lv_at hl 1 rfl) ?_
  refine lv_if_lt (tgt := 18) hx hb dX2_rule_1 (by decide) (fun hb0 => ?_) (fun hb0 => ?_)
  · have hf := ifT hb0 hf
    refine lv_iconst (v := (-1)) hx hb dX2_rule_18 (by decide) ?_
    have hf := Option.some.inj hf
    subst hf
    exact hQ _ _ _ _ dX2_rule_19 hP hS
  · have hf := ifF hb0 hf
    refine lv_iload_n hx hb dX2_rule_4 rfl (lv_at hl 1 rfl) ?_
    refine lv_iconst (v := 4) hx hb dX2_rule_5 (by decide) ?_
    refine lv_icmp_ge (tgt := 18) hx hb dX2_rule_6 (by decide) (fun hb1 => ?_) (fun hb1 => ?_)
    · have hf := ifT hb1 hf
      refine lv_iconst (v := (-1)) hx hb dX2_rule_18 (by decide) ?_
      have hf := Option.some.inj hf
      subst hf
      exact hQ _ _ _ _ dX2_rule_19 hP hS
    · have hf := ifF hb1 hf
      refine lv_aload_n hx hb dX2_rule_9 rfl (lv_at hl 0 rfl) ?_
      refine zg_X2_27 hx hb C hP (lth0 hh) (lay_h0 hh) rfl dX2_rule_10 ?_
      refine lv_iload_n hx hb dX2_rule_13 rfl (lv_at hl 1 rfl) ?_
      obtain ⟨hc2, hf⟩ := chk_some hf
      refine zz_iald hx hb C hP (lth hh 15 (by decide)) (lay_h15 hh) (inb_vp hc2) dX2_rule_14 ?_
      refine lv_goto (tgt := 19) hx hb dX2_rule_15 (by decide) ?_
      have hf := Option.some.inj hf
      subst hf
      exact hQ _ _ _ _ dX2_rule_19 hP hS
set_option maxHeartbeats 4000000 in
set_option maxRecDepth 100000 in
theorem c_X7_add (l : Launch) {D : va_G} {a : Nat → Nat} {cA : Nat → ClassId} {A : Nat → Prop} {sa : Nat → Nat} (hDA : DA a A) {σ : PH} {d : PD} {h : Nat} (hh : isHall h) (p1 : Int32) {u : PH} (hf : f_X7_add σ h p1 = some u) : CTv l yX7_add cX7_add 8 none 1 20 D a cA A sa [.ref (a (h + 7)), .int p1] σ d u d := by
  refine zz_metV zpl_X7 hDA (Nat.le_of_ble_eq_true rfl) ?_
  intro p e R s m args below meth c Q ls hx hb hml C hRf hRl hQ hP hS hl
  have hl : lv_has ls 8 [(0, .ref (a (h + 7))), (1, .int p1)] := hl
  unfold f_X7_add at hf
  refine lv_iconst (v := 1) hx hb dX7_add_0 (by decide) ?_
  refine lv_istore_n (lv' := [(2, .int 1), (0, .ref (a (h + 7))), (1, .int p1)]) hx hb dX7_add_1 rfl hl (by decide) rfl (fun ls hl => ?_)
  refine lv_aload_n hx hb dX7_add_2 rfl (lv_at hl 1 rfl) ?_
  refine zg_X7_20 hx hb C hP (lth hh 7 (by decide)) (lay_h7 hh) rfl dX7_add_3 ?_
  obtain ⟨u1, hzu1⟩ : ∃ z, z = f_X7_lowBit (gI σ (h + 7) 3) := ⟨_, rfl⟩
  have hf := bnd_at u1 hzu1 hf
  refine zz_callSl (rest := []) hx hb hml C hP hS (c_X7_lowBit l hDA (gI σ (h + 7) 3) hzu1.symm) zw_X7_65 ⟨Nat.le_trans (Nat.le_of_ble_eq_true rfl) hRf, Nat.le_trans (Nat.le_of_ble_eq_true rfl) hRl⟩  rfl hl.1 (Nat.le_of_ble_eq_true rfl) ⟨Nat.zero_le _, Nat.zero_le _⟩ rfl dX7_add_6 (fun H locs hP hS => ?_)
  refine lv_lstore_n (lv' := [(3, .long u1), (2, .int 1), (0, .ref (a (h + 7))), (1, .int p1)]) hx hb dX7_add_9 rfl hl (by decide) rfl (fun ls hl => ?_)
  refine lv_aload_n hx hb dX7_add_10 rfl (lv_at hl 2 rfl) ?_
  refine zg_X7_20 hx hb C hP (lth hh 7 (by decide)) (lay_h7 hh) rfl dX7_add_11 ?_
  obtain ⟨u2, hzu2⟩ : ∃ z, z = f_X7_highBit (gI σ (h + 7) 3) := ⟨_, rfl⟩
  have hf := bnd_at u2 hzu2 hf
  refine zz_callSl (rest := []) hx hb hml C hP hS (c_X7_highBit l hDA (gI σ (h + 7) 3) hzu2.symm) zw_X7_69 ⟨Nat.le_trans (Nat.le_of_ble_eq_true rfl) hRf, Nat.le_trans (Nat.le_of_ble_eq_true rfl) hRl⟩  rfl hl.1 (Nat.le_of_ble_eq_true rfl) ⟨Nat.zero_le _, Nat.zero_le _⟩ rfl dX7_add_14 (fun H locs hP hS => ?_)
  refine lv_lstore (lv' := [(5, .long u2), (3, .long u1), (2, .int 1), (0, .ref (a (h + 7))), (1, .int p1)]) hx hb dX7_add_17 hl (by decide) rfl (fun ls hl => ?_)
  refine lv_iconst (v := 0) hx hb dX7_add_19 (by decide) ?_
  refine lv_istore (lv' := [(7, .int 0), (5, .long u2), (3, .long u1), (2, .int 1), (0, .ref (a (h + 7))), (1, .int p1)]) hx hb dX7_add_20 hl (by decide) rfl (fun ls hl => ?_)
  have hJ85 : ∀ (v3 : Int32) (σ4 : PH), j_X7_add_85 h p1 v3 σ4 = some u → ∀ (H : Heap) (locs : List Loc) (ls : Array Slot), lv_has ls 8 [(0, .ref (a (h + 7))), (1, .int p1), (2, .int v3)] → va_P D vwCl (wl a cA σ4 d) H → va_S A s.heap H locs → W p l e R s m args below meth c H locs 0 0 Q (F0 m 85 ls []) := by
    intro v3 σ4 hf H locs ls hl hP hS
    unfold j_X7_add_85 at hf
    refine lv_aload_n hx hb dX7_add_85 rfl (lv_at hl 0 rfl) ?_
    refine zg_X7_13 hx hb C hP (lth hh 7 (by decide)) (lay_h7 hh) rfl dX7_add_86 ?_
    refine lv_aload_n hx hb dX7_add_89 rfl (lv_at hl 0 rfl) ?_
    refine zg_X7_20 hx hb C hP (lth hh 7 (by decide)) (lay_h7 hh) rfl dX7_add_90 ?_
    refine lv_iload_n hx hb dX7_add_93 rfl (lv_at hl 1 rfl) ?_
    obtain ⟨hc4, hf⟩ := chk_some hf
    refine zz_iast hx hb C hP hS (lth hh 8 (by decide)) (lay_h8 hh) (inb_vp hc4) dX7_add_94 (fun σ6 eσ6 H locs hP hS => ?_)
    have hf := bnd_at σ6 eσ6 hf
    refine lv_aload_n hx hb dX7_add_95 rfl (lv_at hl 0 rfl) ?_
    refine zg_X7_17 hx hb C hP (lth hh 7 (by decide)) (lay_h7 hh) rfl dX7_add_96 ?_
    refine lv_aload_n hx hb dX7_add_99 rfl (lv_at hl 0 rfl) ?_
    refine zg_X7_20 hx hb C hP (lth hh 7 (by decide)) (lay_h7 hh) rfl dX7_add_100 ?_
    refine lv_iload_n hx hb dX7_add_103 rfl (lv_at hl 2 rfl) ?_
    obtain ⟨hc6, hf⟩ := chk_some hf
    refine zz_iast hx hb C hP hS (lth hh 9 (by decide)) (lay_h9 hh) (inb_vp hc6) dX7_add_104 (fun σ8 eσ8 H locs hP hS => ?_)
    have hf := bnd_at σ8 eσ8 hf
    refine lv_aload_n hx hb dX7_add_105 rfl (lv_at hl 0 rfl) ?_
    refine lv_dup hx hb dX7_add_106 rfl ?_
    refine zg_X7_20 hx hb C hP (lth hh 7 (by decide)) (lay_h7 hh) rfl dX7_add_107 ?_
    refine lv_iconst (v := 1) hx hb dX7_add_110 (by decide) ?_
    refine lv_iadd hx hb dX7_add_111 ?_
    refine zp_X7_20 hx hb C hP hS (lth hh 7 (by decide)) (lay_h7 hh) rfl dX7_add_112 (fun σ9 eσ9 H locs hP hS => ?_)
    have hf := bnd_at σ9 eσ9 hf
    have hf := Option.some.inj hf
    subst hf
    exact hQ _ _ _ _ dX7_add_115 hP hS
  refine loopN_ind (P := fun (q10 : Int32 × Int32 × PH) => ∀ (H : Heap) (locs : List Loc) (ls : Array Slot), lv_has ls 8 [(0, .ref (a (h + 7))), (1, .int p1), (2, .int q10.1), (3, .long u1), (5, .long u2), (7, .int q10.2.1)] → va_P D vwCl (wl a cA q10.2.2 d) H → va_S A s.heap H locs → W p l e R s m args below meth c H locs 0 0 Q (F0 m 22 ls [])) ?_ _ _ hf _ _ _ (lv_sub hl [4, 5, 3, 2, 1, 0] rfl) hP hS
  intro k11 ihk11 q10 hf H locs ls hl hP hS
  unfold b_X7_add_22 at hf
  refine lv_iload hx hb dX7_add_22 (lv_at hl 5 rfl) ?_
  refine lv_aload_n hx hb dX7_add_24 rfl (lv_at hl 0 rfl) ?_
  refine zg_X7_41 hx hb C hP (lth hh 7 (by decide)) (lay_h7 hh) rfl dX7_add_25 ?_
  refine zg_X7_72 hx hb C hP (lth hh 1 (by decide)) (lay_h1 hh) rfl dX7_add_28 ?_
  refine lv_icmp_ge (tgt := 85) hx hb dX7_add_31 (by decide) (fun hb11 => ?_) (fun hb11 => ?_)
  · have hf := ifT hb11 hf
    exact hJ85 _ _ hf _ _ _ (lv_sub hl [0, 1, 2] rfl) hP hS
  · have hf := ifF hb11 hf
    refine lv_iload_n hx hb dX7_add_34 rfl (lv_at hl 1 rfl) ?_
    refine lv_iload hx hb dX7_add_35 (lv_at hl 5 rfl) ?_
    refine lv_ishr hx hb dX7_add_37 ?_
    refine lv_iconst (v := 1) hx hb dX7_add_38 (by decide) ?_
    refine lv_iand hx hb dX7_add_39 ?_
    refine lv_if_eq (tgt := 79) hx hb dX7_add_40 (by decide) (fun hb12 => ?_) (fun hb12 => ?_)
    · have hf := ifT hb12 hf
      obtain ⟨v14, ev14⟩ : ∃ z : Int32, z = q10.2.1 + 1 := ⟨_, rfl⟩
      have hf := bnd_at v14 ev14 hf
      refine lv_iinc (v := v14) (lv' := [(7, .int v14), (0, .ref (a (h + 7))), (1, .int p1), (2, .int q10.1), (3, .long u1), (5, .long u2)]) hx hb dX7_add_79 hl (k := 5) rfl (by rw [ev14]; rfl) (by decide) rfl (fun ls hl => ?_)
      refine lv_goto (tgt := 22) hx hb dX7_add_82 (by decide) ?_
      exact ihk11 _ hf _ _ _ (lv_sub hl [1, 2, 3, 4, 5, 0] rfl) hP hS
    · have hf := ifF hb12 hf
      refine lv_iload_n hx hb dX7_add_43 rfl (lv_at hl 2 rfl) ?_
      refine lv_aload_n hx hb dX7_add_44 rfl (lv_at hl 0 rfl) ?_
      refine zg_X7_41 hx hb C hP (lth hh 7 (by decide)) (lay_h7 hh) rfl dX7_add_45 ?_
      refine zg_X7_73 hx hb C hP (lth hh 1 (by decide)) (lay_h1 hh) rfl dX7_add_48 ?_
      refine lv_iload hx hb dX7_add_51 (lv_at hl 5 rfl) ?_
      obtain ⟨hc14, hf⟩ := chk_some hf
      refine zz_iald hx hb C hP (lth hh 4 (by decide)) (lay_h4 hh) (inb_vp hc14) dX7_add_53 ?_
      refine lv_imul hx hb dX7_add_54 ?_
      refine lv_topi (fun v16 ev16 => ?_)
      have hf := bnd_at v16 ev16 hf
      refine lv_istore_n (lv' := [(2, .int v16), (0, .ref (a (h + 7))), (1, .int p1), (3, .long u1), (5, .long u2), (7, .int q10.2.1)]) hx hb dX7_add_55 rfl hl (by decide) rfl (fun ls hl => ?_)
      refine lv_aload_n hx hb dX7_add_56 rfl (lv_at hl 1 rfl) ?_
      refine zg_X7_24 hx hb C hP (lth hh 7 (by decide)) (lay_h7 hh) rfl dX7_add_57 ?_
      refine lv_iload hx hb dX7_add_60 (lv_at hl 5 rfl) ?_
      refine lv_dup2_11 hx hb dX7_add_62 rfl rfl ?_
      obtain ⟨hc16, hf⟩ := chk_some hf
      refine zz_lald hx hb C hP (lth hh 10 (by decide)) (lay_h10 hh) (inb_vp hc16) dX7_add_63 ?_
      refine lv_lload_n hx hb dX7_add_64 rfl (lv_at hl 3 rfl) ?_
      refine lv_lor hx hb dX7_add_65 ?_
      obtain ⟨hc17, hf⟩ := chk_some hf
      refine zz_last hx hb C hP hS (lth hh 10 (by decide)) (lay_h10 hh) (inb_vp hc17) dX7_add_66 (fun σ19 eσ19 H locs hP hS => ?_)
      have hf := bnd_at σ19 eσ19 hf
      refine lv_aload_n hx hb dX7_add_67 rfl (lv_at hl 1 rfl) ?_
      refine zg_X7_28 hx hb C hP (lth hh 7 (by decide)) (lay_h7 hh) rfl dX7_add_68 ?_
      refine lv_iload hx hb dX7_add_71 (lv_at hl 5 rfl) ?_
      refine lv_dup2_11 hx hb dX7_add_73 rfl rfl ?_
      obtain ⟨hc19, hf⟩ := chk_some hf
      refine zz_lald hx hb C hP (lth hh 11 (by decide)) (lay_h11 hh) (inb_vp hc19) dX7_add_74 ?_
      refine lv_lload hx hb dX7_add_75 (lv_at hl 4 rfl) ?_
      refine lv_lor hx hb dX7_add_77 ?_
      obtain ⟨hc20, hf⟩ := chk_some hf
      refine zz_last hx hb C hP hS (lth hh 11 (by decide)) (lay_h11 hh) (inb_vp hc20) dX7_add_78 (fun σ22 eσ22 H locs hP hS => ?_)
      have hf := bnd_at σ22 eσ22 hf
      obtain ⟨v23, ev23⟩ : ∃ z : Int32, z = q10.2.1 + 1 := ⟨_, rfl⟩
      have hf := bnd_at v23 ev23 hf
      refine lv_iinc (v := v23) (lv' := [(7, .int v23), (2, .int v16), (0, .ref (a (h + 7))), (1, .int p1), (3, .long u1), (5, .long u2)]) hx hb dX7_add_79 hl (k := 5) rfl (by rw [ev23]; rfl) (by decide) rfl (fun ls hl => ?_)
      refine lv_goto (tgt := 22) hx hb dX7_add_82 (by decide) ?_
      exact ihk11 _ hf _ _ _ (lv_sub hl [2, 3, 1, 4, 5, 0] rfl) hP hS
set_option maxHeartbeats 4000000 in
set_option maxRecDepth 100000 in
theorem c_X7_build (l : Launch) {D : va_G} {a : Nat → Nat} {cA : Nat → ClassId} {A : Nat → Prop} {sa : Nat → Nat} (hDA : DA a A) {σ : PH} {d : PD} {h : Nat} (hh : isHall h) (p1 : Int32) {u : PH} (hf : f_X7_build σ h p1 = some u) : CTv l yX7_build cX7_build 5 none 2 47 D a cA A sa [.ref (a (h + 7)), .int p1] σ d u d := by
  refine zz_metV zpl_X7 hDA (Nat.le_of_ble_eq_true rfl) ?_
  intro p e R s m args below meth c Q ls hx hb hml C hRf hRl hQ hP hS hl
  have hl : lv_has ls 5 [(0, .ref (a (h + 7))), (1, .int p1)] := hl
  unfold f_X7_build at hf
  refine lv_aload_n hx hb dX7_build_0 rfl (lv_at hl 0 rfl) ?_
  refine lv_iconst (v := 0) hx hb dX7_build_1 (by decide) ?_
  refine zp_X7_20 hx hb C hP hS (lth hh 7 (by decide)) (lay_h7 hh) rfl dX7_build_2 (fun σ1 eσ1 H locs hP hS => ?_)
  have hf := bnd_at σ1 eσ1 hf
  refine lv_iconst (v := 0) hx hb dX7_build_5 (by decide) ?_
  refine lv_istore_n (lv' := [(2, .int 0), (0, .ref (a (h + 7))), (1, .int p1)]) hx hb dX7_build_6 rfl hl (by decide) rfl (fun ls hl => ?_)
  have hJ33 : ∀ (σ2 : PH), j_X7_build_33 h p1 σ2 = some u → ∀ (H : Heap) (locs : List Loc) (ls : Array Slot), lv_has ls 5 [(0, .ref (a (h + 7))), (1, .int p1)] → va_P D vwCl (wl a cA σ2 d) H → va_S A s.heap H locs → W p l e R s m args below meth c H locs 0 0 Q (F0 m 33 ls []) := by
    intro σ2 hf H locs ls hl hP hS
    unfold j_X7_build_33 at hf
    refine lv_aload_n hx hb dX7_build_33 rfl (lv_at hl 0 rfl) ?_
    refine zg_X7_41 hx hb C hP (lth hh 7 (by decide)) (lay_h7 hh) rfl dX7_build_34 ?_
    obtain ⟨u3, hzu3⟩ : ∃ z, z = f_X0_all σ2 h := ⟨_, rfl⟩
    have hf := bnd_at u3 hzu3 hf
    refine zz_callVi (rest := []) hx hb hml C hP hS (c_X0_all l hDA (h := h) hh hzu3.symm) zw_X7_51 ⟨Nat.le_trans (Nat.le_of_ble_eq_true rfl) hRf, Nat.le_trans (Nat.le_of_ble_eq_true rfl) hRl⟩ (lth hh 1 (by decide)) (lay_h1 hh) rfl rfl hl.1 (Nat.le_of_ble_eq_true rfl) ⟨Nat.zero_le _, Nat.zero_le _⟩ rfl dX7_build_37 (fun H locs hP hS => ?_)
    refine lv_istore_n (lv' := [(2, .int u3), (0, .ref (a (h + 7))), (1, .int p1)]) hx hb dX7_build_40 rfl hl (by decide) rfl (fun ls hl => ?_)
    refine lv_iconst (v := 1) hx hb dX7_build_41 (by decide) ?_
    refine lv_istore_n (lv' := [(3, .int 1), (2, .int u3), (0, .ref (a (h + 7))), (1, .int p1)]) hx hb dX7_build_42 rfl hl (by decide) rfl (fun ls hl => ?_)
    have hJ93 : ∀ (σ4 : PH), j_X7_build_93 h σ4 = some u → ∀ (H : Heap) (locs : List Loc) (ls : Array Slot), lv_has ls 5 [(0, .ref (a (h + 7)))] → va_P D vwCl (wl a cA σ4 d) H → va_S A s.heap H locs → W p l e R s m args below meth c H locs 0 0 Q (F0 m 93 ls []) := by
      intro σ4 hf H locs ls hl hP hS
      unfold j_X7_build_93 at hf
      refine lv_iconst (v := 0) hx hb dX7_build_93 (by decide) ?_
      refine lv_istore_n (lv' := [(3, .int 0), (0, .ref (a (h + 7)))]) hx hb dX7_build_94 rfl hl (by decide) rfl (fun ls hl => ?_)
      refine loopN_ind (P := fun (q5 : Int32 × PH) => ∀ (H : Heap) (locs : List Loc) (ls : Array Slot), lv_has ls 5 [(0, .ref (a (h + 7))), (3, .int q5.1)] → va_P D vwCl (wl a cA q5.2 d) H → va_S A s.heap H locs → W p l e R s m args below meth c H locs 0 0 Q (F0 m 95 ls [])) ?_ _ _ hf _ _ _ (lv_sub hl [1, 0] rfl) hP hS
      intro k6 ihk6 q5 hf H locs ls hl hP hS
      unfold b_X7_build_95 at hf
      refine lv_iload_n hx hb dX7_build_95 rfl (lv_at hl 1 rfl) ?_
      refine lv_sipush (v := 256) hx hb dX7_build_96 (by decide) ?_
      refine lv_icmp_ge (tgt := 115) hx hb dX7_build_99 (by decide) (fun hb6 => ?_) (fun hb6 => ?_)
      · have hf := ifT hb6 hf
        have hf := Option.some.inj hf
        subst hf
        exact hQ _ _ _ _ dX7_build_115 hP hS
      · have hf := ifF hb6 hf
        refine lv_aload_n hx hb dX7_build_102 rfl (lv_at hl 0 rfl) ?_
        refine zg_X7_37 hx hb C hP (lth hh 7 (by decide)) (lay_h7 hh) rfl dX7_build_103 ?_
        refine lv_iload_n hx hb dX7_build_106 rfl (lv_at hl 1 rfl) ?_
        refine lv_iconst (v := 0) hx hb dX7_build_107 (by decide) ?_
        obtain ⟨hc7, hf⟩ := chk_some hf
        refine zz_zast hx hb C hP hS (lth hh 14 (by decide)) (lay_h14 hh) (inb_vp hc7) dX7_build_108 (fun σ9 eσ9 H locs hP hS => ?_)
        have hf := bnd_at σ9 eσ9 hf
        obtain ⟨v10, ev10⟩ : ∃ z : Int32, z = q5.1 + 1 := ⟨_, rfl⟩
        have hf := bnd_at v10 ev10 hf
        refine lv_iinc (v := v10) (lv' := [(3, .int v10), (0, .ref (a (h + 7)))]) hx hb dX7_build_109 hl (k := 1) rfl (by rw [ev10]; rfl) (by decide) rfl (fun ls hl => ?_)
        refine lv_goto (tgt := 95) hx hb dX7_build_112 (by decide) ?_
        exact ihk6 _ hf _ _ _ (lv_sub hl [1, 0] rfl) hP hS
    refine loopN_ind (P := fun (q11 : Int32 × PH) => ∀ (H : Heap) (locs : List Loc) (ls : Array Slot), lv_has ls 5 [(0, .ref (a (h + 7))), (1, .int p1), (2, .int u3), (3, .int q11.1)] → va_P D vwCl (wl a cA q11.2 d) H → va_S A s.heap H locs → W p l e R s m args below meth c H locs 0 0 Q (F0 m 43 ls [])) ?_ _ _ hf _ _ _ (lv_sub hl [2, 3, 1, 0] rfl) hP hS
    intro k12 ihk12 q11 hf H locs ls hl hP hS
    unfold b_X7_build_43 at hf
    refine lv_iload_n hx hb dX7_build_43 rfl (lv_at hl 3 rfl) ?_
    refine lv_iload_n hx hb dX7_build_44 rfl (lv_at hl 1 rfl) ?_
    refine lv_icmp_gt (tgt := 93) hx hb dX7_build_45 (by decide) (fun hb12 => ?_) (fun hb12 => ?_)
    · have hf := ifT hb12 hf
      exact hJ93 _ hf _ _ _ (lv_sub hl [0] rfl) hP hS
    · have hf := ifF hb12 hf
      refine lv_iconst (v := 1) hx hb dX7_build_48 (by decide) ?_
      refine lv_istore (lv' := [(4, .int 1), (0, .ref (a (h + 7))), (1, .int p1), (2, .int u3), (3, .int q11.1)]) hx hb dX7_build_49 hl (by decide) rfl (fun ls hl => ?_)
      refine loopN_ind (P := fun (q14 : Int32 × PH) => ∀ (H : Heap) (locs : List Loc) (ls : Array Slot), lv_has ls 5 [(0, .ref (a (h + 7))), (1, .int p1), (2, .int u3), (3, .int q11.1), (4, .int q14.1)] → va_P D vwCl (wl a cA q14.2 d) H → va_S A s.heap H locs → W p l e R s m args below meth c H locs 0 0 Q (F0 m 51 ls [])) ?_ _ _ hf _ _ _ (lv_sub hl [1, 2, 3, 4, 0] rfl) hP hS
      intro k15 ihk15 q14 hf H locs ls hl hP hS
      unfold b_X7_build_51 at hf
      refine lv_iload hx hb dX7_build_51 (lv_at hl 4 rfl) ?_
      refine lv_iload_n hx hb dX7_build_53 rfl (lv_at hl 2 rfl) ?_
      refine lv_icmp_gt (tgt := 87) hx hb dX7_build_54 (by decide) (fun hb15 => ?_) (fun hb15 => ?_)
      · have hf := ifT hb15 hf
        obtain ⟨v17, ev17⟩ : ∃ z : Int32, z = q11.1 + 1 := ⟨_, rfl⟩
        have hf := bnd_at v17 ev17 hf
        refine lv_iinc (v := v17) (lv' := [(3, .int v17), (0, .ref (a (h + 7))), (1, .int p1), (2, .int u3), (4, .int q14.1)]) hx hb dX7_build_87 hl (k := 3) rfl (by rw [ev17]; rfl) (by decide) rfl (fun ls hl => ?_)
        refine lv_goto (tgt := 43) hx hb dX7_build_90 (by decide) ?_
        exact ihk12 _ hf _ _ _ (lv_sub hl [1, 2, 3, 0] rfl) hP hS
      · have hf := ifF hb15 hf
        refine lv_iload hx hb dX7_build_57 (lv_at hl 4 rfl) ?_
        obtain ⟨u18, hzu18⟩ : ∃ z, z = f_J6_bitCount_0f7a4 q14.1 := ⟨_, rfl⟩
        have hf := bnd_at u18 hzu18 hf
        refine zz_callSi (rest := []) hx hb hml C hP hS (c_J6_bitCount_0f7a4 l hDA q14.1 hzu18.symm) zw_X7_55 ⟨Nat.le_trans (Nat.le_of_ble_eq_true rfl) hRf, Nat.le_trans (Nat.le_of_ble_eq_true rfl) hRl⟩  rfl hl.1 (Nat.le_of_ble_eq_true rfl) ⟨Nat.zero_le _, Nat.zero_le _⟩ rfl dX7_build_59 (fun H locs hP hS => ?_)
        refine lv_iload_n hx hb dX7_build_62 rfl (lv_at hl 3 rfl) ?_
        refine lv_icmp_ne (tgt := 81) hx hb dX7_build_63 (by decide) (fun hb18 => ?_) (fun hb18 => ?_)
        · have hf := ifF hb18 hf
          obtain ⟨v20, ev20⟩ : ∃ z : Int32, z = q14.1 + 1 := ⟨_, rfl⟩
          have hf := bnd_at v20 ev20 hf
          refine lv_iinc (v := v20) (lv' := [(4, .int v20), (0, .ref (a (h + 7))), (1, .int p1), (2, .int u3), (3, .int q11.1)]) hx hb dX7_build_81 hl (k := 4) rfl (by rw [ev20]; rfl) (by decide) rfl (fun ls hl => ?_)
          refine lv_goto (tgt := 51) hx hb dX7_build_84 (by decide) ?_
          exact ihk15 _ hf _ _ _ (lv_sub hl [1, 2, 3, 4, 0] rfl) hP hS
        · have hf := ifT hb18 hf
          refine lv_aload_n hx hb dX7_build_66 rfl (lv_at hl 0 rfl) ?_
          refine zg_X7_20 hx hb C hP (lth hh 7 (by decide)) (lay_h7 hh) rfl dX7_build_67 ?_
          refine lv_bipush (v := 92) hx hb dX7_build_70 (by decide) ?_
          refine lv_icmp_ge (tgt := 81) hx hb dX7_build_72 (by decide) (fun hb20 => ?_) (fun hb20 => ?_)
          · have hf := ifT hb20 hf
            obtain ⟨v22, ev22⟩ : ∃ z : Int32, z = q14.1 + 1 := ⟨_, rfl⟩
            have hf := bnd_at v22 ev22 hf
            refine lv_iinc (v := v22) (lv' := [(4, .int v22), (0, .ref (a (h + 7))), (1, .int p1), (2, .int u3), (3, .int q11.1)]) hx hb dX7_build_81 hl (k := 4) rfl (by rw [ev22]; rfl) (by decide) rfl (fun ls hl => ?_)
            refine lv_goto (tgt := 51) hx hb dX7_build_84 (by decide) ?_
            exact ihk15 _ hf _ _ _ (lv_sub hl [1, 2, 3, 4, 0] rfl) hP hS
          · have hf := ifF hb20 hf
            refine lv_aload_n hx hb dX7_build_75 rfl (lv_at hl 0 rfl) ?_
            refine lv_iload hx hb dX7_build_76 (lv_at hl 4 rfl) ?_
            obtain ⟨u23, hzu23, hf⟩ := obd_some hf
            refine zz_callVv (rest := []) hx hb hml C hP hS (c_X7_add l hDA (h := h) hh q14.1 hzu23) zw_X7_61 ⟨Nat.le_trans (Nat.le_of_ble_eq_true rfl) hRf, Nat.le_trans (Nat.le_of_ble_eq_true rfl) hRl⟩ (lth hh 7 (by decide)) (lay_h7 hh) rfl rfl hl.1 (Nat.le_of_ble_eq_true rfl) ⟨Nat.zero_le _, Nat.zero_le _⟩ rfl dX7_build_78 (fun H locs hP hS => ?_)
            obtain ⟨v24, ev24⟩ : ∃ z : Int32, z = q14.1 + 1 := ⟨_, rfl⟩
            have hf := bnd_at v24 ev24 hf
            refine lv_iinc (v := v24) (lv' := [(4, .int v24), (0, .ref (a (h + 7))), (1, .int p1), (2, .int u3), (3, .int q11.1)]) hx hb dX7_build_81 hl (k := 4) rfl (by rw [ev24]; rfl) (by decide) rfl (fun ls hl => ?_)
            refine lv_goto (tgt := 51) hx hb dX7_build_84 (by decide) ?_
            exact ihk15 _ hf _ _ _ (lv_sub hl [1, 2, 3, 4, 0] rfl) hP hS
  refine loopN_ind (P := fun (q25 : Int32 × PH) => ∀ (H : Heap) (locs : List Loc) (ls : Array Slot), lv_has ls 5 [(0, .ref (a (h + 7))), (1, .int p1), (2, .int q25.1)] → va_P D vwCl (wl a cA q25.2 d) H → va_S A s.heap H locs → W p l e R s m args below meth c H locs 0 0 Q (F0 m 7 ls [])) ?_ _ _ hf _ _ _ (lv_sub hl [1, 2, 0] rfl) hP hS
  intro k26 ihk26 q25 hf H locs ls hl hP hS
  unfold b_X7_build_7 at hf
  refine lv_iload_n hx hb dX7_build_7 rfl (lv_at hl 2 rfl) ?_
  refine lv_bipush (v := 8) hx hb dX7_build_8 (by decide) ?_
  refine lv_icmp_ge (tgt := 33) hx hb dX7_build_10 (by decide) (fun hb26 => ?_) (fun hb26 => ?_)
  · have hf := ifT hb26 hf
    exact hJ33 _ hf _ _ _ (lv_sub hl [0, 1] rfl) hP hS
  · have hf := ifF hb26 hf
    refine lv_aload_n hx hb dX7_build_13 rfl (lv_at hl 0 rfl) ?_
    refine zg_X7_24 hx hb C hP (lth hh 7 (by decide)) (lay_h7 hh) rfl dX7_build_14 ?_
    refine lv_iload_n hx hb dX7_build_17 rfl (lv_at hl 2 rfl) ?_
    refine lv_lconst (v := 0) hx hb dX7_build_18 (by decide) ?_
    obtain ⟨hc27, hf⟩ := chk_some hf
    refine zz_last hx hb C hP hS (lth hh 10 (by decide)) (lay_h10 hh) (inb_vp hc27) dX7_build_19 (fun σ29 eσ29 H locs hP hS => ?_)
    have hf := bnd_at σ29 eσ29 hf
    refine lv_aload_n hx hb dX7_build_20 rfl (lv_at hl 0 rfl) ?_
    refine zg_X7_28 hx hb C hP (lth hh 7 (by decide)) (lay_h7 hh) rfl dX7_build_21 ?_
    refine lv_iload_n hx hb dX7_build_24 rfl (lv_at hl 2 rfl) ?_
    refine lv_lconst (v := 0) hx hb dX7_build_25 (by decide) ?_
    obtain ⟨hc29, hf⟩ := chk_some hf
    refine zz_last hx hb C hP hS (lth hh 11 (by decide)) (lay_h11 hh) (inb_vp hc29) dX7_build_26 (fun σ31 eσ31 H locs hP hS => ?_)
    have hf := bnd_at σ31 eσ31 hf
    obtain ⟨v32, ev32⟩ : ∃ z : Int32, z = q25.1 + 1 := ⟨_, rfl⟩
    have hf := bnd_at v32 ev32 hf
    refine lv_iinc (v := v32) (lv' := [(2, .int v32), (0, .ref (a (h + 7))), (1, .int p1)]) hx hb dX7_build_27 hl (k := 2) rfl (by rw [ev32]; rfl) (by decide) rfl (fun ls hl => ?_)
    refine lv_goto (tgt := 7) hx hb dX7_build_30 (by decide) ?_
    exact ihk26 _ hf _ _ _ (lv_sub hl [1, 2, 0] rfl) hP hS
set_option maxHeartbeats 4000000 in
set_option maxRecDepth 100000 in
theorem c_X7_allLow (l : Launch) {D : va_G} {a : Nat → Nat} {cA : Nat → ClassId} {A : Nat → Prop} {sa : Nat → Nat} (hDA : DA a A) {σ : PH} {d : PD} {h : Nat} (hh : isHall h) {u : Int64} (hf : f_X7_allLow σ h = u) : CTl l yX7_allLow cX7_allLow 1 (some .long) 0 0 D a cA A sa [.ref (a (h + 7))] σ d u σ d := by
  refine zz_metL zpl_X7 hDA (Nat.le_of_ble_eq_true rfl) ?_
  intro p e R s m args below meth c Q ls hx hb hml C hRf hRl hQ hP hS hl
  have hl : lv_has ls 1 [(0, .ref (a (h + 7)))] := hl
  unfold f_X7_allLow at hf
  refine lv_aload_n hx hb dX7_allLow_0 rfl (lv_at hl 0 rfl) ?_
  refine zg_X7_20 hx hb C hP (lth hh 7 (by decide)) (lay_h7 hh) rfl dX7_allLow_1 ?_
  refine lv_bipush (v := 64) hx hb dX7_allLow_4 (by decide) ?_
  refine lv_icmp_lt (tgt := 15) hx hb dX7_allLow_6 (by decide) (fun hb0 => ?_) (fun hb0 => ?_)
  · have hf := ifT hb0 hf
    refine lv_lconst (v := 1) hx hb dX7_allLow_15 (by decide) ?_
    refine lv_aload_n hx hb dX7_allLow_16 rfl (lv_at hl 0 rfl) ?_
    refine zg_X7_20 hx hb C hP (lth hh 7 (by decide)) (lay_h7 hh) rfl dX7_allLow_17 ?_
    refine lv_lshl (v := (1 : Int64) <<< ((gI σ (h + 7) 3).toInt64 &&& 63)) hx hb dX7_allLow_20 rfl ?_
    refine lv_lconst (v := 1) hx hb dX7_allLow_21 (by decide) ?_
    refine lv_lsub hx hb dX7_allLow_22 ?_
    subst hf
    exact hQ _ _ _ _ dX7_allLow_23 hP hS
  · have hf := ifF hb0 hf
    refine lv_ldc2 (v := (-1)) hx hb C.1 (C.2.1 _ kk_X7_81) dX7_allLow_9 ?_
    refine lv_goto (tgt := 23) hx hb dX7_allLow_12 (by decide) ?_
    subst hf
    exact hQ _ _ _ _ dX7_allLow_23 hP hS
set_option maxHeartbeats 4000000 in
set_option maxRecDepth 100000 in
theorem c_X7_allHigh (l : Launch) {D : va_G} {a : Nat → Nat} {cA : Nat → ClassId} {A : Nat → Prop} {sa : Nat → Nat} (hDA : DA a A) {σ : PH} {d : PD} {h : Nat} (hh : isHall h) {u : Int64} (hf : f_X7_allHigh σ h = u) : CTl l yX7_allHigh cX7_allHigh 1 (some .long) 0 0 D a cA A sa [.ref (a (h + 7))] σ d u σ d := by
  refine zz_metL zpl_X7 hDA (Nat.le_of_ble_eq_true rfl) ?_
  intro p e R s m args below meth c Q ls hx hb hml C hRf hRl hQ hP hS hl
  have hl : lv_has ls 1 [(0, .ref (a (h + 7)))] := hl
  unfold f_X7_allHigh at hf
  refine lv_aload_n hx hb dX7_allHigh_0 rfl (lv_at hl 0 rfl) ?_
  refine zg_X7_20 hx hb C hP (lth hh 7 (by decide)) (lay_h7 hh) rfl dX7_allHigh_1 ?_
  refine lv_bipush (v := 64) hx hb dX7_allHigh_4 (by decide) ?_
  refine lv_icmp_le (tgt := 23) hx hb dX7_allHigh_6 (by decide) (fun hb0 => ?_) (fun hb0 => ?_)
  · have hf := ifT hb0 hf
    refine lv_lconst (v := 0) hx hb dX7_allHigh_23 (by decide) ?_
    subst hf
    exact hQ _ _ _ _ dX7_allHigh_24 hP hS
  · have hf := ifF hb0 hf
    refine lv_lconst (v := 1) hx hb dX7_allHigh_9 (by decide) ?_
    refine lv_aload_n hx hb dX7_allHigh_10 rfl (lv_at hl 0 rfl) ?_
    refine zg_X7_20 hx hb C hP (lth hh 7 (by decide)) (lay_h7 hh) rfl dX7_allHigh_11 ?_
    refine lv_bipush (v := 64) hx hb dX7_allHigh_14 (by decide) ?_
    refine lv_isub hx hb dX7_allHigh_16 ?_
    refine lv_lshl (v := (1 : Int64) <<< (((gI σ (h + 7) 3) - 64).toInt64 &&& 63)) hx hb dX7_allHigh_17 rfl ?_
    refine lv_lconst (v := 1) hx hb dX7_allHigh_18 (by decide) ?_
    refine lv_lsub hx hb dX7_allHigh_19 ?_
    refine lv_goto (tgt := 24) hx hb dX7_allHigh_20 (by decide) ?_
    subst hf
    exact hQ _ _ _ _ dX7_allHigh_24 hP hS
set_option maxHeartbeats 4000000 in
set_option maxRecDepth 100000 in
theorem c_X2_forgetAll (l : Launch) {D : va_G} {a : Nat → Nat} {cA : Nat → ClassId} {A : Nat → Prop} {sa : Nat → Nat} (hDA : DA a A) {σ : PH} {d : PD} {h : Nat} (hh : isHall h) {u : PH} (hf : f_X2_forgetAll σ h = u) : CTv l yX2_forgetAll cX2_forgetAll 1 none 1 20 D a cA A sa [.ref (a h)] σ d u d := by
  refine zz_metV zpl_X2 hDA (Nat.le_of_ble_eq_true rfl) ?_
  intro p e R s m args below meth c Q ls hx hb hml C hRf hRl hQ hP hS hl
  have hl : lv_has ls 1 [(0, .ref (a h))] := hl
  unfold f_X2_forgetAll at hf
  refine lv_aload_n hx hb dX2_forgetAll_0 rfl (lv_at hl 0 rfl) ?_
  refine lv_iconst (v := 0) hx hb dX2_forgetAll_1 (by decide) ?_
  refine zp_X2_34 hx hb C hP hS (lth0 hh) (lay_h0 hh) rfl dX2_forgetAll_2 (fun σ1 eσ1 H locs hP hS => ?_)
  have hf := bnd_at σ1 eσ1 hf
  refine lv_aload_n hx hb dX2_forgetAll_5 rfl (lv_at hl 0 rfl) ?_
  refine lv_aload_n hx hb dX2_forgetAll_6 rfl (lv_at hl 0 rfl) ?_
  refine zg_X2_23 hx hb C hP (lth0 hh) (lay_h0 hh) rfl dX2_forgetAll_7 ?_
  obtain ⟨u2, hzu2⟩ : ∃ z, z = f_X7_allLow σ1 h := ⟨_, rfl⟩
  have hf := bnd_at u2 hzu2 hf
  refine zz_callVl (rest := [.ref (a h)]) hx hb hml C hP hS (c_X7_allLow l hDA (h := h) hh hzu2.symm) zw_X2_101 ⟨Nat.le_trans (Nat.le_of_ble_eq_true rfl) hRf, Nat.le_trans (Nat.le_of_ble_eq_true rfl) hRl⟩ (lth hh 7 (by decide)) (lay_h7 hh) rfl rfl hl.1 (Nat.le_of_ble_eq_true rfl) ⟨Nat.zero_le _, Nat.zero_le _⟩ rfl dX2_forgetAll_10 (fun H locs hP hS => ?_)
  refine zp_X2_44 hx hb C hP hS (lth0 hh) (lay_h0 hh) rfl dX2_forgetAll_13 (fun σ3 eσ3 H locs hP hS => ?_)
  have hf := bnd_at σ3 eσ3 hf
  refine lv_aload_n hx hb dX2_forgetAll_16 rfl (lv_at hl 0 rfl) ?_
  refine lv_aload_n hx hb dX2_forgetAll_17 rfl (lv_at hl 0 rfl) ?_
  refine zg_X2_23 hx hb C hP (lth0 hh) (lay_h0 hh) rfl dX2_forgetAll_18 ?_
  obtain ⟨u4, hzu4⟩ : ∃ z, z = f_X7_allHigh σ3 h := ⟨_, rfl⟩
  have hf := bnd_at u4 hzu4 hf
  refine zz_callVl (rest := [.ref (a h)]) hx hb hml C hP hS (c_X7_allHigh l hDA (h := h) hh hzu4.symm) zw_X2_105 ⟨Nat.le_trans (Nat.le_of_ble_eq_true rfl) hRf, Nat.le_trans (Nat.le_of_ble_eq_true rfl) hRl⟩ (lth hh 7 (by decide)) (lay_h7 hh) rfl rfl hl.1 (Nat.le_of_ble_eq_true rfl) ⟨Nat.zero_le _, Nat.zero_le _⟩ rfl dX2_forgetAll_21 (fun H locs hP hS => ?_)
  refine zp_X2_48 hx hb C hP hS (lth0 hh) (lay_h0 hh) rfl dX2_forgetAll_24 (fun σ5 eσ5 H locs hP hS => ?_)
  have hf := bnd_at σ5 eσ5 hf
  subst hf
  exact hQ _ _ _ _ dX2_forgetAll_27 hP hS
set_option maxHeartbeats 4000000 in
set_option maxRecDepth 100000 in
theorem c_X2_beginAnew (l : Launch) {D : va_G} {a : Nat → Nat} {cA : Nat → ClassId} {A : Nat → Prop} {sa : Nat → Nat} (hDA : DA a A) {σ : PH} {d : PD} {h : Nat} (hh : isHall h) {u : PH} (hf : f_X2_beginAnew σ h = some u) : CTv l yX2_beginAnew cX2_beginAnew 1 none 3 71 D a cA A sa [.ref (a h)] σ d u d := by
  refine zz_metV zpl_X2 hDA (Nat.le_of_ble_eq_true rfl) ?_
  intro p e R s m args below meth c Q ls hx hb hml C hRf hRl hQ hP hS hl
  have hl : lv_has ls 1 [(0, .ref (a h))] := hl
  unfold f_X2_beginAnew at hf
  refine lv_aload_n hx hb dX2_beginAnew_0 rfl (lv_at hl 0 rfl) ?_
  refine zg_X2_23 hx hb C hP (lth0 hh) (lay_h0 hh) rfl dX2_beginAnew_1 ?_
  refine lv_aload_n hx hb dX2_beginAnew_4 rfl (lv_at hl 0 rfl) ?_
  refine zg_X2_27 hx hb C hP (lth0 hh) (lay_h0 hh) rfl dX2_beginAnew_5 ?_
  refine lv_iconst (v := 0) hx hb dX2_beginAnew_8 (by decide) ?_
  refine zz_iald hx hb C hP (lth hh 15 (by decide)) (lay_h15 hh) (inb_vp (by decide)) dX2_beginAnew_9 ?_
  obtain ⟨u1, hzu1, hf⟩ := obd_some hf
  refine zz_callVv (rest := []) hx hb hml C hP hS (c_X7_build l hDA (h := h) hh (gI σ (h + 15) (0 : Int32).toNatClampNeg) hzu1) zw_X2_76 ⟨Nat.le_trans (Nat.le_of_ble_eq_true rfl) hRf, Nat.le_trans (Nat.le_of_ble_eq_true rfl) hRl⟩ (lth hh 7 (by decide)) (lay_h7 hh) rfl rfl hl.1 (Nat.le_of_ble_eq_true rfl) ⟨Nat.zero_le _, Nat.zero_le _⟩ rfl dX2_beginAnew_10 (fun H locs hP hS => ?_)
  refine lv_aload_n hx hb dX2_beginAnew_13 rfl (lv_at hl 0 rfl) ?_
  refine lv_iconst (v := 0) hx hb dX2_beginAnew_14 (by decide) ?_
  refine zp_X2_41 hx hb C hP hS (lth0 hh) (lay_h0 hh) rfl dX2_beginAnew_15 (fun σ2 eσ2 H locs hP hS => ?_)
  have hf := bnd_at σ2 eσ2 hf
  refine lv_aload_n hx hb dX2_beginAnew_18 rfl (lv_at hl 0 rfl) ?_
  obtain ⟨u3, hzu3⟩ : ∃ z, z = f_X2_forgetAll σ2 h := ⟨_, rfl⟩
  have hf := bnd_at u3 hzu3 hf
  refine zz_callVv (rest := []) hx hb hml C hP hS (c_X2_forgetAll l hDA (h := h) hh hzu3.symm) zw_X2_80 ⟨Nat.le_trans (Nat.le_of_ble_eq_true rfl) hRf, Nat.le_trans (Nat.le_of_ble_eq_true rfl) hRl⟩ (lth0 hh) (lay_h0 hh) rfl rfl hl.1 (Nat.le_of_ble_eq_true rfl) ⟨Nat.zero_le _, Nat.zero_le _⟩ rfl dX2_beginAnew_19 (fun H locs hP hS => ?_)
  have hf := Option.some.inj hf
  subst hf
  exact hQ _ _ _ _ dX2_beginAnew_22 hP hS
set_option maxHeartbeats 4000000 in
set_option maxRecDepth 100000 in
theorem c_X2_put (l : Launch) {D : va_G} {a : Nat → Nat} {cA : Nat → ClassId} {A : Nat → Prop} {sa : Nat → Nat} (hDA : DA a A) {σ : PH} {d : PD} {h : Nat} (hh : isHall h) (p1 : Int32) (p2 : Int32) {u : PH} (hf : f_X2_put σ h p1 p2 = some u) : CTv l yX2_put cX2_put 3 none 4 91 D a cA A sa [.ref (a h), .int p1, .int p2] σ d u d := by
  refine zz_metV zpl_X2 hDA (Nat.le_of_ble_eq_true rfl) ?_
  intro p e R s m args below meth c Q ls hx hb hml C hRf hRl hQ hP hS hl
  have hl : lv_has ls 3 [(0, .ref (a h)), (1, .int p1), (2, .int p2)] := hl
  unfold f_X2_put at hf
  refine lv_iload_n hx hb dX2_put_0 rfl (lv_at hl 1 rfl) ?_
  refine lv_iload_n hx hb dX2_put_1 rfl (lv_at hl 2 rfl) ?_
  obtain ⟨u1, hzu1, hf⟩ := obd_some hf
  refine zz_callSi (rest := []) hx hb hml C hP hS (c_X2_suits l hDA p1 p2 hzu1) zw_X2_57 ⟨Nat.le_trans (Nat.le_of_ble_eq_true rfl) hRf, Nat.le_trans (Nat.le_of_ble_eq_true rfl) hRl⟩  rfl hl.1 (Nat.le_of_ble_eq_true rfl) ⟨Nat.zero_le _, Nat.zero_le _⟩ rfl dX2_put_2 (fun H locs hP hS => ?_)
  refine lv_if_ne (tgt := 9) hx hb dX2_put_5 (by decide) (fun hb1 => ?_) (fun hb1 => ?_)
  · have hf := ifF hb1 hf
    refine lv_aload_n hx hb dX2_put_9 rfl (lv_at hl 0 rfl) ?_
    refine zg_X2_27 hx hb C hP (lth0 hh) (lay_h0 hh) rfl dX2_put_10 ?_
    refine lv_iload_n hx hb dX2_put_13 rfl (lv_at hl 1 rfl) ?_
    refine lv_iload_n hx hb dX2_put_14 rfl (lv_at hl 2 rfl) ?_
    obtain ⟨hc2, hf⟩ := chk_some hf
    refine zz_iast hx hb C hP hS (lth hh 15 (by decide)) (lay_h15 hh) (inb_vp hc2) dX2_put_15 (fun σ4 eσ4 H locs hP hS => ?_)
    have hf := bnd_at σ4 eσ4 hf
    refine lv_iload_n hx hb dX2_put_16 rfl (lv_at hl 1 rfl) ?_
    refine lv_if_ne (tgt := 24) hx hb dX2_put_17 (by decide) (fun hb4 => ?_) (fun hb4 => ?_)
    · have hf := ifF hb4 hf
      have hf := Option.some.inj hf
      subst hf
      exact hQ _ _ _ _ dX2_put_24 hP hS
    · have hf := ifT hb4 hf
      refine lv_aload_n hx hb dX2_put_20 rfl (lv_at hl 0 rfl) ?_
      obtain ⟨u6, hzu6, hf⟩ := obd_some hf
      refine zz_callVv (rest := []) hx hb hml C hP hS (c_X2_beginAnew l hDA (h := h) hh hzu6) zw_X2_61 ⟨Nat.le_trans (Nat.le_of_ble_eq_true rfl) hRf, Nat.le_trans (Nat.le_of_ble_eq_true rfl) hRl⟩ (lth0 hh) (lay_h0 hh) rfl rfl hl.1 (Nat.le_of_ble_eq_true rfl) ⟨Nat.zero_le _, Nat.zero_le _⟩ rfl dX2_put_21 (fun H locs hP hS => ?_)
      have hf := Option.some.inj hf
      subst hf
      exact hQ _ _ _ _ dX2_put_24 hP hS
  · have hf := ifT hb1 hf
    have hf := Option.some.inj hf
    subst hf
    exact hQ _ _ _ _ dX2_put_8 hP hS
set_option maxHeartbeats 4000000 in
set_option maxRecDepth 100000 in
theorem c_X7_copyOf (l : Launch) {D : va_G} {a : Nat → Nat} {cA : Nat → ClassId} {A : Nat → Prop} {sa : Nat → Nat} (hDA : DA a A) {σ : PH} {d : PD} {h : Nat} (hh : isHall h) {h2 : Nat} (hh2 : isHall h2) {u : PH} (hf : f_X7_copyOf σ h h2 = u) : CTv l yX7_copyOf cX7_copyOf 2 none 1 26 D a cA A sa [.ref (a (h + 7)), .ref (a (h2 + 7))] σ d u d := by
  refine zz_metV zpl_X7 hDA (Nat.le_of_ble_eq_true rfl) ?_
  intro p e R s m args below meth c Q ls hx hb hml C hRf hRl hQ hP hS hl
  have hl : lv_has ls 2 [(0, .ref (a (h + 7))), (1, .ref (a (h2 + 7)))] := hl
  unfold f_X7_copyOf at hf
  refine lv_aload_n hx hb dX7_copyOf_0 rfl (lv_at hl 1 rfl) ?_
  refine zg_X7_13 hx hb C hP (lth hh2 7 (by decide)) (lay_h7 hh2) rfl dX7_copyOf_1 ?_
  refine lv_iconst (v := 0) hx hb dX7_copyOf_4 (by decide) ?_
  refine lv_aload_n hx hb dX7_copyOf_5 rfl (lv_at hl 0 rfl) ?_
  refine zg_X7_13 hx hb C hP (lth hh 7 (by decide)) (lay_h7 hh) rfl dX7_copyOf_6 ?_
  refine lv_iconst (v := 0) hx hb dX7_copyOf_9 (by decide) ?_
  refine lv_bipush (v := 92) hx hb dX7_copyOf_10 (by decide) ?_
  refine zz_cpyI hx hb (hml.trans hl.1.symm) C hP hS (lth hh2 8 (by decide)) (lay_h8 hh2) (lth hh 8 (by decide)) (lay_h8 hh) (by decide) (by decide) (by decide) (by decide) (by decide) km_X7_45 kv_arraycopyName kt_arraycopyName kn_J10 (Nat.le_trans (by decide) hRf) (Nat.le_trans (by decide +kernel) hRl) dX7_copyOf_12 (fun σ1 eσ1 H locs hP hS => ?_)
  have hf := bnd_at σ1 eσ1 hf
  refine lv_aload_n hx hb dX7_copyOf_15 rfl (lv_at hl 1 rfl) ?_
  refine zg_X7_17 hx hb C hP (lth hh2 7 (by decide)) (lay_h7 hh2) rfl dX7_copyOf_16 ?_
  refine lv_iconst (v := 0) hx hb dX7_copyOf_19 (by decide) ?_
  refine lv_aload_n hx hb dX7_copyOf_20 rfl (lv_at hl 0 rfl) ?_
  refine zg_X7_17 hx hb C hP (lth hh 7 (by decide)) (lay_h7 hh) rfl dX7_copyOf_21 ?_
  refine lv_iconst (v := 0) hx hb dX7_copyOf_24 (by decide) ?_
  refine lv_bipush (v := 92) hx hb dX7_copyOf_25 (by decide) ?_
  refine zz_cpyI hx hb (hml.trans hl.1.symm) C hP hS (lth hh2 9 (by decide)) (lay_h9 hh2) (lth hh 9 (by decide)) (lay_h9 hh) (by decide) (by decide) (by decide) (by decide) (by decide) km_X7_45 kv_arraycopyName kt_arraycopyName kn_J10 (Nat.le_trans (by decide) hRf) (Nat.le_trans (by decide +kernel) hRl) dX7_copyOf_27 (fun σ2 eσ2 H locs hP hS => ?_)
  have hf := bnd_at σ2 eσ2 hf
  refine lv_aload_n hx hb dX7_copyOf_30 rfl (lv_at hl 0 rfl) ?_
  refine lv_aload_n hx hb dX7_copyOf_31 rfl (lv_at hl 1 rfl) ?_
  refine zg_X7_20 hx hb C hP (lth hh2 7 (by decide)) (lay_h7 hh2) rfl dX7_copyOf_32 ?_
  refine zp_X7_20 hx hb C hP hS (lth hh 7 (by decide)) (lay_h7 hh) rfl dX7_copyOf_35 (fun σ3 eσ3 H locs hP hS => ?_)
  have hf := bnd_at σ3 eσ3 hf
  refine lv_aload_n hx hb dX7_copyOf_38 rfl (lv_at hl 1 rfl) ?_
  refine zg_X7_24 hx hb C hP (lth hh2 7 (by decide)) (lay_h7 hh2) rfl dX7_copyOf_39 ?_
  refine lv_iconst (v := 0) hx hb dX7_copyOf_42 (by decide) ?_
  refine lv_aload_n hx hb dX7_copyOf_43 rfl (lv_at hl 0 rfl) ?_
  refine zg_X7_24 hx hb C hP (lth hh 7 (by decide)) (lay_h7 hh) rfl dX7_copyOf_44 ?_
  refine lv_iconst (v := 0) hx hb dX7_copyOf_47 (by decide) ?_
  refine lv_bipush (v := 8) hx hb dX7_copyOf_48 (by decide) ?_
  refine zz_cpyJ hx hb (hml.trans hl.1.symm) C hP hS (lth hh2 10 (by decide)) (lay_h10 hh2) (lth hh 10 (by decide)) (lay_h10 hh) (by decide) (by decide) (by decide) (by decide) (by decide) km_X7_45 kv_arraycopyName kt_arraycopyName kn_J10 (Nat.le_trans (by decide) hRf) (Nat.le_trans (by decide +kernel) hRl) dX7_copyOf_50 (fun σ4 eσ4 H locs hP hS => ?_)
  have hf := bnd_at σ4 eσ4 hf
  refine lv_aload_n hx hb dX7_copyOf_53 rfl (lv_at hl 1 rfl) ?_
  refine zg_X7_28 hx hb C hP (lth hh2 7 (by decide)) (lay_h7 hh2) rfl dX7_copyOf_54 ?_
  refine lv_iconst (v := 0) hx hb dX7_copyOf_57 (by decide) ?_
  refine lv_aload_n hx hb dX7_copyOf_58 rfl (lv_at hl 0 rfl) ?_
  refine zg_X7_28 hx hb C hP (lth hh 7 (by decide)) (lay_h7 hh) rfl dX7_copyOf_59 ?_
  refine lv_iconst (v := 0) hx hb dX7_copyOf_62 (by decide) ?_
  refine lv_bipush (v := 8) hx hb dX7_copyOf_63 (by decide) ?_
  refine zz_cpyJ hx hb (hml.trans hl.1.symm) C hP hS (lth hh2 11 (by decide)) (lay_h11 hh2) (lth hh 11 (by decide)) (lay_h11 hh) (by decide) (by decide) (by decide) (by decide) (by decide) km_X7_45 kv_arraycopyName kt_arraycopyName kn_J10 (Nat.le_trans (by decide) hRf) (Nat.le_trans (by decide +kernel) hRl) dX7_copyOf_65 (fun σ5 eσ5 H locs hP hS => ?_)
  have hf := bnd_at σ5 eσ5 hf
  refine lv_aload_n hx hb dX7_copyOf_68 rfl (lv_at hl 1 rfl) ?_
  refine zg_X7_31 hx hb C hP (lth hh2 7 (by decide)) (lay_h7 hh2) rfl dX7_copyOf_69 ?_
  refine lv_iconst (v := 0) hx hb dX7_copyOf_72 (by decide) ?_
  refine lv_aload_n hx hb dX7_copyOf_73 rfl (lv_at hl 0 rfl) ?_
  refine zg_X7_31 hx hb C hP (lth hh 7 (by decide)) (lay_h7 hh) rfl dX7_copyOf_74 ?_
  refine lv_iconst (v := 0) hx hb dX7_copyOf_77 (by decide) ?_
  refine lv_sipush (v := 256) hx hb dX7_copyOf_78 (by decide) ?_
  refine zz_cpyJ hx hb (hml.trans hl.1.symm) C hP hS (lth hh2 12 (by decide)) (lay_h12 hh2) (lth hh 12 (by decide)) (lay_h12 hh) (by decide) (by decide) (by decide) (by decide) (by decide) km_X7_45 kv_arraycopyName kt_arraycopyName kn_J10 (Nat.le_trans (by decide) hRf) (Nat.le_trans (by decide +kernel) hRl) dX7_copyOf_81 (fun σ6 eσ6 H locs hP hS => ?_)
  have hf := bnd_at σ6 eσ6 hf
  refine lv_aload_n hx hb dX7_copyOf_84 rfl (lv_at hl 1 rfl) ?_
  refine zg_X7_34 hx hb C hP (lth hh2 7 (by decide)) (lay_h7 hh2) rfl dX7_copyOf_85 ?_
  refine lv_iconst (v := 0) hx hb dX7_copyOf_88 (by decide) ?_
  refine lv_aload_n hx hb dX7_copyOf_89 rfl (lv_at hl 0 rfl) ?_
  refine zg_X7_34 hx hb C hP (lth hh 7 (by decide)) (lay_h7 hh) rfl dX7_copyOf_90 ?_
  refine lv_iconst (v := 0) hx hb dX7_copyOf_93 (by decide) ?_
  refine lv_sipush (v := 256) hx hb dX7_copyOf_94 (by decide) ?_
  refine zz_cpyJ hx hb (hml.trans hl.1.symm) C hP hS (lth hh2 13 (by decide)) (lay_h13 hh2) (lth hh 13 (by decide)) (lay_h13 hh) (by decide) (by decide) (by decide) (by decide) (by decide) km_X7_45 kv_arraycopyName kt_arraycopyName kn_J10 (Nat.le_trans (by decide) hRf) (Nat.le_trans (by decide +kernel) hRl) dX7_copyOf_97 (fun σ7 eσ7 H locs hP hS => ?_)
  have hf := bnd_at σ7 eσ7 hf
  refine lv_aload_n hx hb dX7_copyOf_100 rfl (lv_at hl 1 rfl) ?_
  refine zg_X7_37 hx hb C hP (lth hh2 7 (by decide)) (lay_h7 hh2) rfl dX7_copyOf_101 ?_
  refine lv_iconst (v := 0) hx hb dX7_copyOf_104 (by decide) ?_
  refine lv_aload_n hx hb dX7_copyOf_105 rfl (lv_at hl 0 rfl) ?_
  refine zg_X7_37 hx hb C hP (lth hh 7 (by decide)) (lay_h7 hh) rfl dX7_copyOf_106 ?_
  refine lv_iconst (v := 0) hx hb dX7_copyOf_109 (by decide) ?_
  refine lv_sipush (v := 256) hx hb dX7_copyOf_110 (by decide) ?_
  refine zz_cpyZ hx hb (hml.trans hl.1.symm) C hP hS (lth hh2 14 (by decide)) (lay_h14 hh2) (lth hh 14 (by decide)) (lay_h14 hh) (by decide) (by decide) (by decide) (by decide) (by decide) km_X7_45 kv_arraycopyName kt_arraycopyName kn_J10 (Nat.le_trans (by decide) hRf) (Nat.le_trans (by decide +kernel) hRl) dX7_copyOf_113 (fun σ8 eσ8 H locs hP hS => ?_)
  have hf := bnd_at σ8 eσ8 hf
  subst hf
  exact hQ _ _ _ _ dX7_copyOf_116 hP hS
