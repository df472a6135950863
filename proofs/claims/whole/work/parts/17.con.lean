set_option maxHeartbeats 4000000 in
set_option maxRecDepth 100000 in
theorem c_X9_status (l : Launch) {D : va_G} {a : Nat → Nat} {cA : Nat → ClassId} {A : Nat → Prop} {sa : Nat → Nat} (hDA : DA a A) {σ : PH} {d : PD} (p1 : Int32) {u : Int32} (hf : f_X9_status σ p1 = some u) : CTi l yX9_status cX9_status 2 (some .int) 0 0 D a cA A sa [.ref (a 81), .int p1] σ d u σ d := by
  refine zz_metI zpl_X9 hDA (Nat.le_of_ble_eq_true rfl) ?_
  intro p e R s m args below meth c Q ls hx hb hml C hRf hRl hQ hP hS hl
  have hl : lv_has ls 2 [(0, .ref (a 81)), (1, .int p1)] := hl
  unfold f_X9_status at hf
  refine lv_iload_n hx hb dX9_status_0 rfl (lv_at hl 1 rfl) ?_
  refine lv_bipush (v := 11) hx hb dX9_status_1 (by decide) ?_
  have hJ22 : j_X9_status_22 σ p1 = some u → ∀ (H : Heap) (locs : List Loc) (ls : Array Slot), lv_has ls 2 [(0, .ref (a 81)), (1, .int p1)] → va_P D vwCl (wl a cA σ d) H → va_S A s.heap H locs → W p l e R s m args below meth c H locs 0 0 Q (F0 m 22 ls []) := by
    intro  hf H locs ls hl hP hS
    unfold j_X9_status_22 at hf
    refine lv_iload_n hx hb dX9_status_22 rfl (lv_at hl 1 rfl) ?_
    by_cases hb0 : p1 = 0
    · have hf := ifT hb0 hf
      refine lv_tableIn (tgt := 72) hx hb dX9_status_23 (by rw [hb0]; decide) (by rw [hb0]; decide) (by rw [hb0]; rfl) (by decide) ?_
      refine lv_aload_n hx hb dX9_status_72 rfl (lv_at hl 0 rfl) ?_
      refine zg_X9_96 hx hb C hP (by decide) lay_81 rfl dX9_status_73 ?_
      have hf := Option.some.inj hf
      subst hf
      exact hQ _ _ _ _ dX9_status_76 hP hS
    have hf := ifF hb0 hf
    by_cases hb1 : p1 = 1
    · have hf := ifT hb1 hf
      refine lv_tableIn (tgt := 77) hx hb dX9_status_23 (by rw [hb1]; decide) (by rw [hb1]; decide) (by rw [hb1]; rfl) (by decide) ?_
      refine lv_aload_n hx hb dX9_status_77 rfl (lv_at hl 0 rfl) ?_
      refine zg_X9_7 hx hb C hP (by decide) lay_81 rfl dX9_status_78 ?_
      have hf := Option.some.inj hf
      subst hf
      exact hQ _ _ _ _ dX9_status_81 hP hS
    have hf := ifF hb1 hf
    by_cases hb2 : p1 = 2
    · have hf := ifT hb2 hf
      refine lv_tableIn (tgt := 82) hx hb dX9_status_23 (by rw [hb2]; decide) (by rw [hb2]; decide) (by rw [hb2]; rfl) (by decide) ?_
      refine lv_aload_n hx hb dX9_status_82 rfl (lv_at hl 0 rfl) ?_
      refine zg_X9_13 hx hb C hP (by decide) lay_81 rfl dX9_status_83 ?_
      have hf := Option.some.inj hf
      subst hf
      exact hQ _ _ _ _ dX9_status_86 hP hS
    have hf := ifF hb2 hf
    by_cases hb3 : p1 = 3
    · have hf := ifT hb3 hf
      refine lv_tableIn (tgt := 87) hx hb dX9_status_23 (by rw [hb3]; decide) (by rw [hb3]; decide) (by rw [hb3]; rfl) (by decide) ?_
      refine lv_aload_n hx hb dX9_status_87 rfl (lv_at hl 0 rfl) ?_
      refine zg_X9_136 hx hb C hP (by decide) lay_81 rfl dX9_status_88 ?_
      have hf := Option.some.inj hf
      subst hf
      exact hQ _ _ _ _ dX9_status_91 hP hS
    have hf := ifF hb3 hf
    by_cases hb4 : p1 = 4
    · have hf := ifT hb4 hf
      refine lv_tableIn (tgt := 92) hx hb dX9_status_23 (by rw [hb4]; decide) (by rw [hb4]; decide) (by rw [hb4]; rfl) (by decide) ?_
      refine lv_aload_n hx hb dX9_status_92 rfl (lv_at hl 0 rfl) ?_
      refine zg_X9_139 hx hb C hP (by decide) lay_81 rfl dX9_status_93 ?_
      have hf := Option.some.inj hf
      subst hf
      exact hQ _ _ _ _ dX9_status_96 hP hS
    have hf := ifF hb4 hf
    by_cases hb5 : p1 = 5
    · have hf := ifT hb5 hf
      refine lv_tableIn (tgt := 97) hx hb dX9_status_23 (by rw [hb5]; decide) (by rw [hb5]; decide) (by rw [hb5]; rfl) (by decide) ?_
      refine lv_aload_n hx hb dX9_status_97 rfl (lv_at hl 0 rfl) ?_
      refine zg_X9_123 hx hb C hP (by decide) lay_81 rfl dX9_status_98 ?_
      have hf := Option.some.inj hf
      subst hf
      exact hQ _ _ _ _ dX9_status_101 hP hS
    have hf := ifF hb5 hf
    by_cases hb6 : p1 = 6
    · have hf := ifT hb6 hf
      refine lv_tableIn (tgt := 102) hx hb dX9_status_23 (by rw [hb6]; decide) (by rw [hb6]; decide) (by rw [hb6]; rfl) (by decide) ?_
      refine lv_aload_n hx hb dX9_status_102 rfl (lv_at hl 0 rfl) ?_
      refine zg_X9_120 hx hb C hP (by decide) lay_81 rfl dX9_status_103 ?_
      have hf := Option.some.inj hf
      subst hf
      exact hQ _ _ _ _ dX9_status_106 hP hS
    have hf := ifF hb6 hf
    by_cases hb7 : p1 = 7
    · have hf := ifT hb7 hf
      refine lv_tableIn (tgt := 107) hx hb dX9_status_23 (by rw [hb7]; decide) (by rw [hb7]; decide) (by rw [hb7]; rfl) (by decide) ?_
      refine lv_aload_n hx hb dX9_status_107 rfl (lv_at hl 0 rfl) ?_
      refine zg_X9_16 hx hb C hP (by decide) lay_81 rfl dX9_status_108 ?_
      have hf := Option.some.inj hf
      subst hf
      exact hQ _ _ _ _ dX9_status_111 hP hS
    have hf := ifF hb7 hf
    by_cases hb8 : p1 = 8
    · have hf := ifT hb8 hf
      refine lv_tableIn (tgt := 112) hx hb dX9_status_23 (by rw [hb8]; decide) (by rw [hb8]; decide) (by rw [hb8]; rfl) (by decide) ?_
      refine lv_aload_n hx hb dX9_status_112 rfl (lv_at hl 0 rfl) ?_
      refine zg_X9_310 hx hb C hP (by decide) lay_81 rfl dX9_status_113 ?_
      have hf := Option.some.inj hf
      subst hf
      exact hQ _ _ _ _ dX9_status_116 hP hS
    have hf := ifF hb8 hf
    refine lv_tableOut (tgt := 117) hx hb dX9_status_23 (sw_0_8 hb0 hb1 hb2 hb3 hb4 hb5 hb6 hb7 hb8) (by decide) ?_
    refine lv_iconst (v := (-1)) hx hb dX9_status_117 (by decide) ?_
    have hf := Option.some.inj hf
    subst hf
    exact hQ _ _ _ _ dX9_status_118 hP hS
  refine lv_icmp_lt (tgt := 22) hx hb dX9_status_3 (by decide) (fun hb9 => ?_) (fun hb9 => ?_)
  · have hf := ifT hb9 hf
    exact hJ22  hf _ _ _ (lv_sub hl [0, 1] rfl) hP hS
  · have hf := ifF hb9 hf
    refine lv_iload_n hx hb dX9_status_6 rfl (lv_at hl 1 rfl) ?_
    refine lv_bipush (v := 17) hx hb dX9_status_7 (by decide) ?_
    refine lv_icmp_gt (tgt := 22) hx hb dX9_status_9 (by decide) (fun hb10 => ?_) (fun hb10 => ?_)
    · have hf := ifT hb10 hf
      exact hJ22  hf _ _ _ (lv_sub hl [0, 1] rfl) hP hS
    · have hf := ifF hb10 hf
      refine lv_aload_n hx hb dX9_status_12 rfl (lv_at hl 0 rfl) ?_
      refine zg_X9_22 hx hb C hP (by decide) lay_81 rfl dX9_status_13 ?_
      refine lv_iload_n hx hb dX9_status_16 rfl (lv_at hl 1 rfl) ?_
      refine lv_bipush (v := 10) hx hb dX9_status_17 (by decide) ?_
      refine lv_isub hx hb dX9_status_19 ?_
      obtain ⟨hc11, hf⟩ := chk_some hf
      refine zz_iald hx hb C hP (by decide) lay_82 (inb_vp hc11) dX9_status_20 ?_
      have hf := Option.some.inj hf
      subst hf
      exact hQ _ _ _ _ dX9_status_21 hP hS
