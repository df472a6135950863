/-! which numbers an item may have -/
def okN (c : CV) (m : Nat) (hs : HS) (u x v v0 : Nat) : Bool :=
  if u = 0 then (if x = 0 then decide (v ≤ 6) else if x = 1 then decide (v ≤ 9) else decide (1 ≤ v ∧ v ≤ 9))
  else if u = 5 then (if x = 0 then stI c (nI v) else decide (v < 2) && decide (0 < ((psC c m hs).filter (soC c v0 v)).length))
  else if u = 6 then (if x = 0 then decide (v < cN c) else decide (v < cN c) && decide (v ≠ v0))
  else decide (f_X9_isAsked (nI (u - 1)) (nI v) = 1)
theorem oI_1a (b : Bool) : oI b &&& 1 = oI b := by cases b <;> decide
theorem isKind_b {y : Nat} (hy : y ≤ 999) : f_X0_isKind (nI y) = oI (decide (y ≤ 6)) := by
  unfold f_X0_isKind
  rw [if_neg (nI_nlt0 (by omega))]
  by_cases e : y ≤ 6
  · rw [decide_eq_true e, if_neg (by rw [i_6, nI_ltI (by decide) (by omega)]; omega)]; rfl
  · rw [decide_eq_false e, if_pos (by rw [i_6]; exact nI_lt (by omega) (by omega))]; rfl
theorem isA_b {y : Nat} (hy : y ≤ 999) : f_X0_isA (nI y) = oI (decide (y ≤ 9)) := by
  unfold f_X0_isA
  rw [if_neg (nI_nlt0 (by omega))]
  by_cases e : y ≤ 9
  · rw [decide_eq_true e, if_neg (by rw [i_9, nI_ltI (by decide) (by omega)]; omega)]; rfl
  · rw [decide_eq_false e, if_pos (by rw [i_9]; exact nI_lt (by omega) (by omega))]; rfl
theorem isOdds_b {y : Nat} (hy : y ≤ 999) : f_X0_isOdds (nI y) = oI (decide (1 ≤ y ∧ y ≤ 9)) := by
  unfold f_X0_isOdds
  by_cases e1 : 1 ≤ y
  · rw [if_neg (by rw [i_1, nI_ltI (by omega) (by decide)]; omega)]
    by_cases e : y ≤ 9
    · rw [decide_eq_true ⟨e1, e⟩, if_neg (by rw [i_9, nI_ltI (by decide) (by omega)]; omega)]; rfl
    · rw [decide_eq_false (fun z => e z.2), if_pos (by rw [i_9]; exact nI_lt (by omega) (by omega))]; rfl
  · rw [decide_eq_false (fun z => e1 z.1), if_pos (by rw [i_1]; exact nI_lt (by omega) (by decide))]; rfl
section FITS
variable {j : Nat} {c : CV} {r : Nat → Nat} {hs : HS} {tr : Nat} {sd : Int32} {σ σ' : PH} {h : Nat} {d : PD}
theorem isAsked_01 (w v : Nat) (hw : w < 4) (hv : v ≤ 999) : f_X2_suits (nI w) (nI v) = some (oI (decide (f_X9_isAsked (nI w) (nI v) = 1))) ∧ f_X9_isAsked (nI w) (nI v) = oI (decide (f_X9_isAsked (nI w) (nI v) = 1)) := by
  rcases suits_spec (nI w) (nI v) with ⟨a, b⟩ | ⟨w', v', -, -, -, -, a, b⟩
  · have b0 : f_X9_isAsked (nI w) (nI v) = 0 := by
      rcases b with b | ⟨-, b⟩ | ⟨-, -, b⟩
      · exact absurd b (nI_nlt0 (by omega))
      · rw [i_3, nI_ltI (by decide) (by omega)] at b; omega
      · exact b
    rw [b0, a]; exact ⟨rfl, rfl⟩
  · rw [b, a]; exact ⟨rfl, rfl⟩
theorem has_8 {v : Nat} (hX : XC c σ h) (n8 : cN c ≤ 8) (hv : v ≤ 999) : f_X0_has σ h (nI v) = oI (decide (v < cN c)) := by
  unfold f_X0_has
  rw [if_neg (nI_nlt0 (by omega)), show gI σ (h + 1) 5 = nI (cN c) from hX.1]
  by_cases e : v < cN c
  · rw [decide_eq_true e, if_neg (by rw [nI_leI (by omega) (by omega)]; omega)]; rfl
  · rw [decide_eq_false e, if_pos (nI_le (by omega) (by omega))]; rfl
theorem fits_ok (v : HV c r hs) (hX : XH c r hs tr sd σ h) {u x y y0 : Nat} (hu : u < 7) (hx : x < nmL.getD u 0) (hy : y ≤ 999) (hy0 : y0 ≤ 999) (h6 : gI σ 6 x = nI y) (h60 : 1 ≤ x → gI σ 6 0 = nI y0 ∧ okN c (r 0) hs u 0 y0 0 = true) : Rt (f_X3_fits σ h (nI u) (nI x)) (fun t => t.1 = oI (okN c (r 0) hs u x y y0) ∧ XH c r hs tr sd t.2 h ∧ Fr (WK h) σ t.2) := by
  obtain ⟨ok, hr, hok⟩ := v
  have n8 := ok.1
  have h9 := p2_9 n8
  have x3 : x < 3 := by
    have : ∀ u, u < 7 → nmL.getD u 0 ≤ 3 := by decide
    have := this u hu
    omega
  have ret : ∀ {b : Bool} {w : Int32}, w = oI b → Rt (chk (w &&& 1 = w) (some (w, σ))) (fun t => t.1 = oI b ∧ XH c r hs tr sd t.2 h ∧ Fr (WK h) σ t.2) := fun {b w} e => by
    subst e
    exact Rt.c (oI_1a b) (Rt.s ⟨rfl, hX, Fr.rf⟩)
  have ret2 : ∀ {b : Bool} {w : Int32}, w = oI b → Rt (some (w, σ)) (fun t => t.1 = oI b ∧ XH c r hs tr sd t.2 h ∧ Fr (WK h) σ t.2) := fun e => Rt.s ⟨e, hX, Fr.rf⟩
  unfold f_X3_fits
  refine Rt.f (nI_nlt0 (by omega)) (Rt.f (by rw [i_3, nI_leI (by decide) (by omega)]; omega) (Rt.c (inb_nI x3 (by decide)) ?_))
  rw [nI_clamp (by omega), h6]
  unfold j_X3_fits_23
  have ux : ∀ {k : Nat}, k < 100 → (nI u = nI k ↔ u = k) := fun {k} hk => nI_eq (by omega) (by omega)
  have xx : ∀ {k : Nat}, k < 100 → (nI x = nI k ↔ x = k) := fun {k} hk => nI_eq (by omega) (by omega)
  by_cases u0 : u = 0
  · subst u0
    refine Rt.t rfl ?_
    rw [bnd_d, bnd_d, bnd_d]
    by_cases a0 : x = 0
    · subst a0
      exact Rt.t rfl (ret (isKind_b hy))
    · refine Rt.f (by rw [i_0, xx (by decide)]; exact a0) ?_
      by_cases a1 : x = 1
      · subst a1
        exact Rt.t rfl (ret (isA_b hy))
      · have a2 : x = 2 := by omega
        subst a2
        exact Rt.f (by decide) (ret (isOdds_b hy))
  refine Rt.f (by rw [i_0, ux (by decide)]; exact u0) ?_
  by_cases u4 : 4 < u
  · refine Rt.t (by rw [i_4]; exact nI_lt u4 (by omega)) ?_
    by_cases u5 : u = 5
    · subst u5
      refine Rt.t rfl ?_
      by_cases a0 : x = 0
      · subst a0
        refine Rt.t rfl ?_
        rw [bnd_d]
        refine ret ?_
        rw [set_8 ok hX.1.1]; rfl
      · refine Rt.f (by rw [i_0, xx (by decide)]; exact a0) ?_
        obtain ⟨g0, g1⟩ := h60 (by omega)
        obtain ⟨s, e1, s0, s1, -⟩ := stI_t n8 (show stI c (nI y0) = true from g1)
        rw [show (0 : Int32).toNatClampNeg = 0 from rfl, g0, e1]
        have es : y0 = s := (nI_eq (by omega) (by omega)).mp e1
        subst es
        have x1 : x = 1 := by
          have : nmL.getD 5 0 = 2 := rfl
          omega
        subst x1
        have eo : okN c (r 0) hs 5 1 y y0 = (decide (y < 2) && decide (0 < ((psC c (r 0) hs).filter (soC c y0 y)).length)) := rfl
        rw [eo]
        by_cases y2 : y < 2
        · rw [decide_eq_true y2, Bool.true_and]
          refine Rt.o (f2_canSound ok hX.1 s0 s1 y2 hX.2.2.2) ?_
          rintro ⟨w, σ1⟩ ⟨k1, k2, k3⟩
          dsimp only at k1 k2 k3
          rw [show (WL (cN c) (r 0)).filter (okH c hs) = psC c (r 0) hs from rfl] at k1
          subst k1
          exact Rt.c (oI_1a _) (Rt.s ⟨rfl, hX.k k3 k2, k3⟩)
        · rw [decide_eq_false y2, Bool.false_and]
          have e : f_X2_canSound σ h (nI y0) (nI y) = some (0, σ) := by
            unfold f_X2_canSound
            rw [if_neg (nI_nlt0 (by omega)), if_neg (by rw [i_1, nI_leI (by omega) (by decide)]; omega)]
          rw [e, obd_s]
          exact Rt.c (show (0 : Int32) &&& 1 = 0 by decide) (Rt.s ⟨rfl, hX, Fr.rf⟩)
    · have u6 : u = 6 := by omega
      subst u6
      refine Rt.f (by decide) ?_
      rw [bnd_d, has_8 hX.1.1 n8 hy]
      by_cases e : y < cN c
      · rw [decide_eq_true e]
        refine Rt.f (by decide) ?_
        by_cases a0 : x = 0
        · subst a0
          refine Rt.t rfl (ret2 ?_)
          rw [show okN c (r 0) hs 6 0 y y0 = decide (y < cN c) from rfl, decide_eq_true e]; rfl
        · have x1 : x = 1 := by
            have : nmL.getD 6 0 = 2 := rfl
            omega
          subst x1
          obtain ⟨g0, g1⟩ := h60 (by omega)
          have eo : okN c (r 0) hs 6 1 y y0 = (decide (y < cN c) && decide (y ≠ y0)) := rfl
          rw [eo, decide_eq_true e, Bool.true_and]
          refine Rt.f (by decide) ?_
          rw [show (0 : Int32).toNatClampNeg = 0 from rfl, g0]
          by_cases z : y = y0
          · refine Rt.t (by rw [z]) (ret2 ?_)
            rw [decide_eq_false (fun w => w z)]; rfl
          · refine Rt.f (by rw [nI_eq (by omega) (by omega)]; exact z) (ret2 ?_)
            rw [decide_eq_true z]; rfl
      · rw [decide_eq_false e]
        refine Rt.t rfl (ret2 ?_)
        unfold okN
        rw [if_neg (show ¬ 6 = 0 by decide), if_neg (show ¬ 6 = 5 by decide), if_pos (show 6 = 6 from rfl), decide_eq_false e, Bool.false_and, ite_self]; rfl
  · refine Rt.f (by rw [i_4, nI_ltI (by decide) (by omega)]; omega) ?_
    rw [i_1, pk_sub (by omega), (isAsked_01 (u - 1) y (by omega) hy).1, obd_s]
    refine ret ?_
    unfold okN
    rw [if_neg u0, if_neg (by omega), if_neg (by omega)]
theorem isSo_ok (v : HV c r hs) (hM : MHl c r hs tr sd σ) {u x y y0 : Nat} (hu : u < 7) (hx : x < nmL.getD u 0) (hy : y ≤ 999) (hy0 : y0 ≤ 999) (h28 : gI σ 81 28 = nI y) (h97 : 1 ≤ x → gI σ 97 0 = nI y0 ∧ okN c (r 0) hs u 0 y0 0 = true) : Rt (f_X9_isSo σ (nI u) (nI x)) (fun t => t.1 = oI (okN c (r 0) hs u x y y0) ∧ Fr SP σ t.2) := by
  obtain ⟨ok, hr, hok⟩ := v
  have n8 := ok.1
  have h9 := p2_9 n8
  have x3 : x < 3 := by
    have : ∀ u, u < 7 → nmL.getD u 0 ≤ 3 := by decide
    have := this u hu
    omega
  have ret2 : ∀ {b : Bool} {w : Int32}, w = oI b → Rt (some (w, σ)) (fun t => t.1 = oI b ∧ Fr SP σ t.2) := fun e => Rt.s ⟨e, Fr.rf⟩
  have ux : ∀ {k : Nat}, k < 100 → (nI u = nI k ↔ u = k) := fun {k} hk => nI_eq (by omega) (by omega)
  have xx : ∀ {k : Nat}, k < 100 → (nI x = nI k ↔ x = k) := fun {k} hk => nI_eq (by omega) (by omega)
  unfold f_X9_isSo
  rw [h28]
  by_cases u0 : u = 0
  · subst u0
    refine Rt.t rfl ?_
    by_cases a0 : x = 0
    · subst a0
      refine Rt.t rfl ?_
      rw [show okN c (r 0) hs 0 0 y y0 = decide (y ≤ 6) from rfl]
      by_cases e : y ≤ 6
      · exact Rt.f (by rw [i_6, nI_ltI (by decide) (by omega)]; omega) (ret2 (by rw [decide_eq_true e]; rfl))
      · exact Rt.t (by rw [i_6]; exact nI_lt (by omega) (by omega)) (ret2 (by rw [decide_eq_false e]; rfl))
    · refine Rt.f (by rw [i_0, xx (by decide)]; exact a0) ?_
      by_cases a1 : x = 1
      · subst a1
        refine Rt.t rfl ?_
        rw [show okN c (r 0) hs 0 1 y y0 = decide (y ≤ 9) from rfl]
        by_cases e : y ≤ 9
        · exact Rt.f (by rw [i_9, nI_ltI (by decide) (by omega)]; omega) (ret2 (by rw [decide_eq_true e]; rfl))
        · exact Rt.t (by rw [i_9]; exact nI_lt (by omega) (by omega)) (ret2 (by rw [decide_eq_false e]; rfl))
      · have a2 : x = 2 := by omega
        subst a2
        refine Rt.f (by decide) ?_
        rw [show okN c (r 0) hs 0 2 y y0 = decide (1 ≤ y ∧ y ≤ 9) from rfl]
        by_cases e1 : 1 ≤ y
        · refine Rt.f (by rw [i_1, nI_ltI (by omega) (by decide)]; omega) ?_
          by_cases e : y ≤ 9
          · exact Rt.f (by rw [i_9, nI_ltI (by decide) (by omega)]; omega) (ret2 (by rw [decide_eq_true ⟨e1, e⟩]; rfl))
          · exact Rt.t (by rw [i_9]; exact nI_lt (by omega) (by omega)) (ret2 (by rw [decide_eq_false (fun z => e z.2)]; rfl))
        · exact Rt.t (by rw [i_1]; exact nI_lt (by omega) (by decide)) (ret2 (by rw [decide_eq_false (fun z => e1 z.1)]; rfl))
  refine Rt.f (by rw [i_0, ux (by decide)]; exact u0) ?_
  by_cases u5 : u = 5
  · subst u5
    refine Rt.t rfl ?_
    by_cases a0 : x = 0
    · subst a0
      refine Rt.t rfl ?_
      rw [bnd_d, set_9 ok hM.1]
      exact Rt.c (oI_1a _) (ret2 rfl)
    · have x1 : x = 1 := by
        have : nmL.getD 5 0 = 2 := rfl
        omega
      subst x1
      obtain ⟨g0, g1⟩ := h97 (by omega)
      obtain ⟨s, e1, s0, s1, -⟩ := stI_t n8 (show stI c (nI y0) = true from g1)
      have es : y0 = s := (nI_eq (by omega) (by omega)).mp e1
      subst es
      refine Rt.f (by decide) ?_
      rw [bnd_d, show (0 : Int32).toNatClampNeg = 0 from rfl, g0]
      have eo : okN c (r 0) hs 5 1 y y0 = (decide (y < 2) && decide (0 < ((psC c (r 0) hs).filter (soC c y0 y)).length)) := rfl
      rw [eo]
      by_cases y2 : y < 2
      · have o1 : f_X9_isOne (nI y) = 1 := by
          rcases (show y = 0 ∨ y = 1 by omega) with rfl | rfl <;> rfl
        rw [decide_eq_true y2, Bool.true_and, o1]
        refine Rt.f (by decide) ?_
        have MB : Rt (f_X9_mayBe σ (nI y0) (nI y)) (fun t => t.1 = oI (decide (0 < ((psC c (r 0) hs).filter (soC c y0 y)).length)) ∧ Fr SP σ t.2) := by
          unfold f_X9_mayBe
          refine Rt.o (f9_possible ok hM.1 (hM.2.1 0 (by decide)) hr.2.1 hM.2.2.1 hok) ?_
          rintro ⟨w, σ1⟩ ⟨k1, k2, k3, k4, k5⟩
          dsimp only at k1 k2 k5
          subst k1
          have h92 := psC_len ok hr.2.1 hs
          refine Rt.o (f9_stays ok (hM.1.fr k5 (fun r k z => by unfold SP at z; omega)) h92 (fun w hw => (psC_lt ok hw).2.1) (by omega) y2 k2) ?_
          rintro ⟨w, σ2⟩ ⟨q1, -, q3⟩
          dsimp only at q1 q3
          subst q1
          have lf := List.length_filter_le (soC c y0 y) (psC c (r 0) hs)
          have FF : Fr SP σ σ2 := k5.tr (q3.mono (fun r k z => by unfold SP; omega))
          by_cases e : 0 < ((psC c (r 0) hs).filter (soC c y0 y)).length
          · rw [decide_eq_true e]
            exact Rt.f (by rw [i_0, nI_leI (by omega) (by decide)]; omega) (Rt.s ⟨rfl, FF⟩)
          · rw [decide_eq_false e]
            exact Rt.t (by rw [i_0, nI_leI (by omega) (by decide)]; omega) (Rt.s ⟨rfl, FF⟩)
        refine Rt.o MB ?_
        rintro ⟨w, σ1⟩ ⟨k1, k2⟩
        dsimp only at k1 k2
        subst k1
        cases decide (0 < ((psC c (r 0) hs).filter (soC c y0 y)).length) with
        | false => exact Rt.t rfl (Rt.s ⟨rfl, k2⟩)
        | true => exact Rt.f (show ¬ oI true = 0 by decide) (Rt.s ⟨rfl, k2⟩)
      · rw [decide_eq_false y2, Bool.false_and]
        have o0 : f_X9_isOne (nI y) = 0 := by
          rcases one_i (nI y) with ⟨z, -⟩ | ⟨z, -⟩ | ⟨-, -, z⟩
          · rw [i_0, nI_eq (by omega) (by decide)] at z; omega
          · rw [i_1, nI_eq (by omega) (by decide)] at z; omega
          · exact z
        rw [o0]
        exact Rt.t rfl (ret2 rfl)
  refine Rt.f (by rw [i_5, ux (by decide)]; exact u5) ?_
  by_cases u6 : u = 6
  · subst u6
    refine Rt.t rfl ?_
    rw [hM.1.1]
    by_cases e : y < cN c
    · refine Rt.f (by rw [nI_leI (by omega) (by omega)]; omega) ?_
      by_cases a0 : x = 0
      · subst a0
        exact Rt.t rfl (ret2 (by rw [show okN c (r 0) hs 6 0 y y0 = decide (y < cN c) from rfl, decide_eq_true e]; rfl))
      · have x1 : x = 1 := by
          have : nmL.getD 6 0 = 2 := rfl
          omega
        subst x1
        obtain ⟨g0, g1⟩ := h97 (by omega)
        have eo : okN c (r 0) hs 6 1 y y0 = (decide (y < cN c) && decide (y ≠ y0)) := rfl
        rw [eo, decide_eq_true e, Bool.true_and, show (0 : Int32).toNatClampNeg = 0 from rfl, g0]
        refine Rt.f (by decide) ?_
        by_cases z : y = y0
        · exact Rt.t (by rw [z]) (ret2 (by rw [decide_eq_false (fun w => w z)]; rfl))
        · exact Rt.f (by rw [nI_eq (by omega) (by omega)]; exact z) (ret2 (by rw [decide_eq_true z]; rfl))
    · refine Rt.t (nI_le (by omega) (by omega)) (ret2 ?_)
      unfold okN
      rw [if_neg (show ¬ 6 = 0 by decide), if_neg (show ¬ 6 = 5 by decide), if_pos (show 6 = 6 from rfl), decide_eq_false e, Bool.false_and, ite_self]; rfl
  · refine Rt.f (by rw [i_6, ux (by decide)]; exact u6) ?_
    rw [i_1, pk_sub (by omega), bnd_d]
    have ia := (isAsked_01 (u - 1) y (by omega) hy).2
    have eo : okN c (r 0) hs u x y y0 = decide (f_X9_isAsked (nI (u - 1)) (nI y) = 1) := by
      unfold okN
      rw [if_neg u0, if_neg u5, if_neg u6]
    rw [eo]
    generalize decide (f_X9_isAsked (nI (u - 1)) (nI y) = 1) = b at *
    rw [ia]
    exact Rt.c (oI_1a b) (ret2 rfl)
end FITS
