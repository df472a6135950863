/-! an item's deed -/
abbrev LST : Type := CV × (Nat → Nat) × HS × Nat
def XS (S : LST) (sd : Int32) (σ : PH) (h : Nat) : Prop := XH S.1 S.2.1 S.2.2.1 S.2.2.2 sd σ h
def MS (S : LST) (sd : Int32) (σ : PH) : Prop := MHl S.1 S.2.1 S.2.2.1 S.2.2.2 sd σ
def VS (S : LST) : Prop := HV S.1 S.2.1 S.2.2.1
def updL (u v0 v1 v2 : Nat) (S : LST) : LST :=
  if u = 0 then (adC S.1 v0 v1 v2, S.2.1, [], tr0 (cN S.1 + 1))
  else if u = 5 then (S.1, S.2.1, lrC S.2.2.1 v0 v1, S.2.2.2)
  else if u = 6 then (swC S.1 v0 v1, S.2.1, [], tr0 (cN S.1))
  else if u = 1 then (S.1, rsR S.2.1 0 v0, [], tr0 (cN S.1)) else (S.1, rsR S.2.1 (u - 1) v0, S.2.2.1, S.2.2.2)
def pick (v0 v1 v2 x : Nat) : Nat := if x = 0 then v0 else if x = 1 then v1 else v2
def okA (S : LST) (u v0 v1 v2 : Nat) : Prop := u < 7 ∧ (∀ x, x < nmL.getD u 0 → okN S.1 (S.2.1 0) S.2.2.1 u x (pick v0 v1 v2 x) v0 = true) ∧ (u = 0 → cN S.1 < 8) ∧ (u = 5 → S.2.2.1.length < 16) ∧ v0 ≤ 999 ∧ v1 ≤ 999 ∧ v2 ≤ 999
section TELL
variable {S : LST} {sd : Int32} {σ : PH} {h u v0 v1 v2 : Nat}
theorem okA_0 (h : okA S 0 v0 v1 v2) : cN S.1 < 8 ∧ v0 ≤ 6 ∧ v1 ≤ 9 ∧ 1 ≤ v2 ∧ v2 ≤ 9 := by
  obtain ⟨-, a, b, -⟩ := h
  have a0 : decide (v0 ≤ 6) = true := a 0 (by decide)
  have a1 : decide (v1 ≤ 9) = true := a 1 (by decide)
  have a2 : decide (1 ≤ v2 ∧ v2 ≤ 9) = true := a 2 (by decide)
  have a2 := of_decide_eq_true a2
  exact ⟨b rfl, of_decide_eq_true a0, of_decide_eq_true a1, a2.1, a2.2⟩
theorem okA_5 (v : VS S) (h : okA S 5 v0 v1 v2) : 0 < v0 ∧ v0 < 2 ^ cN S.1 ∧ v1 < 2 ∧ S.2.2.1.length < 16 := by
  obtain ⟨-, a, -, b, c, d, e⟩ := h
  have n8 := v.1.1
  have h9 := p2_9 n8
  have a0 : stI S.1 (nI v0) = true := a 0 (by decide)
  have a1 : (decide (v1 < 2) && decide (0 < ((psC S.1 (S.2.1 0) S.2.2.1).filter (soC S.1 v0 v1)).length)) = true := a 1 (by decide)
  obtain ⟨s, e1, s0, s1, -⟩ := stI_t n8 a0
  have es : v0 = s := (nI_eq (by omega) (by omega)).mp e1
  subst es
  rw [Bool.and_eq_true] at a1
  exact ⟨s0, s1, of_decide_eq_true a1.1, b rfl⟩
theorem okA_6 (h : okA S 6 v0 v1 v2) : v0 < cN S.1 ∧ v1 < cN S.1 := by
  obtain ⟨-, a, -⟩ := h
  have a0 : decide (v0 < cN S.1) = true := a 0 (by decide)
  have a1 : (decide (v1 < cN S.1) && decide (v1 ≠ v0)) = true := a 1 (by decide)
  rw [Bool.and_eq_true] at a1
  exact ⟨of_decide_eq_true a0, of_decide_eq_true a1.1⟩
theorem okA_w (h : okA S u v0 v1 v2) (h0 : u ≠ 0) (h4 : u ≤ 4) : okW (u - 1) v0 ∧ f_X2_suits (nI (u - 1)) (nI v0) = some 1 := by
  obtain ⟨-, a, -, -, c, -⟩ := h
  have a0 := a 0 (by
    have : ∀ u, u < 5 → 0 < nmL.getD u 0 := by decide
    exact this u (by omega))
  have eo : okN S.1 (S.2.1 0) S.2.2.1 u 0 (pick v0 v1 v2 0) v0 = decide (f_X9_isAsked (nI (u - 1)) (nI v0) = 1) := by
    unfold okN
    rw [if_neg h0, if_neg (by omega), if_neg (by omega)]; rfl
  rw [eo] at a0
  have a1 := of_decide_eq_true a0
  rcases suits_spec (nI (u - 1)) (nI v0) with ⟨-, b⟩ | ⟨w, v, e1, e2, w4, w5, e3, -⟩
  · exfalso
    rcases b with b | ⟨-, b⟩ | ⟨-, -, b⟩
    · exact absurd b (nI_nlt0 (by omega))
    · rw [i_3, nI_ltI (by decide) (by omega)] at b; omega
    · rw [b] at a1; exact absurd a1 (by decide)
  · have v50 : v ≤ 50 := by unfold okW at w5; omega
    have x1 : u - 1 = w := (nI_eq (by omega) (by omega)).mp e1
    have x2 : v0 = v := (nI_eq (by omega) (by omega)).mp e2
    subst x1; subst x2
    exact ⟨w5, e3⟩
theorem updL_ok (v : VS S) (h : okA S u v0 v1 v2) : VS (updL u v0 v1 v2 S) ∧ cN S.1 ≤ cN (updL u v0 v1 v2 S).1 := by
  have hu := h.1
  unfold updL
  by_cases u0 : u = 0
  · subst u0
    obtain ⟨a, b, c, d, e⟩ := okA_0 h
    rw [if_pos rfl]
    exact ⟨HV.nil (adC_ok v.1 a b c d e) v.2.1, Nat.le_succ _⟩
  rw [if_neg u0]
  by_cases u5 : u = 5
  · subst u5
    obtain ⟨a, b, c, d⟩ := okA_5 v h
    rw [if_pos rfl]
    exact ⟨HV.lr v a b c, Nat.le_refl _⟩
  rw [if_neg u5]
  by_cases u6 : u = 6
  · subst u6
    obtain ⟨a, b⟩ := okA_6 h
    rw [if_pos rfl]
    exact ⟨HV.nil (swC_ok v.1 a b) v.2.1, Nat.le_refl _⟩
  rw [if_neg u6]
  obtain ⟨a, b⟩ := okA_w h u0 (by omega)
  by_cases u1 : u = 1
  · subst u1
    rw [if_pos rfl]
    exact ⟨HV.nil v.1 (rsR_ok v.2.1 a), Nat.le_refl _⟩
  · rw [if_neg u1]
    exact ⟨⟨v.1, rsR_ok v.2.1 a, v.2.2⟩, Nat.le_refl _⟩
theorem tell_ok (v : VS S) (hX : XS S sd σ h) (ha : okA S u v0 v1 v2) (g : ∀ x, x < nmL.getD u 0 → gI σ 6 x = nI (pick v0 v1 v2 x)) : Rt (f_X3_tell σ h (nI u)) (fun t => XS (updL u v0 v1 v2 S) sd t h ∧ Fr (WH h) σ t) := by
  have hu := ha.1
  have ux : ∀ {k : Nat}, k < 100 → (nI u = nI k ↔ u = k) := fun {k} hk => nI_eq (by omega) (by omega)
  have c0 : (0 : Int32).toNatClampNeg = 0 := rfl
  have c1 : (1 : Int32).toNatClampNeg = 1 := rfl
  have c2 : (2 : Int32).toNatClampNeg = 2 := rfl
  have g0 : gI σ 6 0 = nI v0 := g 0 ((by decide : ∀ u, u < 7 → 0 < nmL.getD u 0) u hu)
  unfold f_X3_tell
  rw [c0, c1, c2, g0]
  have fin : ∀ {x : Option PH} {S' : LST}, S' = updL u v0 v1 v2 S → Rt x (fun t => XS S' sd t h ∧ Fr (WH h) σ t) → Rt (obd x fun t => some t) (fun t => XS (updL u v0 v1 v2 S) sd t h ∧ Fr (WH h) σ t) := fun e hx => Rt.o hx (fun t ht => Rt.s (by rw [← e]; exact ht))
  by_cases u0 : u = 0
  · subst u0
    obtain ⟨a, b, c, d, e⟩ := okA_0 ha
    have g1 : gI σ 6 1 = nI v1 := g 1 (by decide)
    have g2 : gI σ 6 2 = nI v2 := g 2 (by decide)
    rw [g1, g2]
    exact Rt.t rfl (fin (S' := (adC S.1 v0 v1 v2, S.2.1, [], tr0 (cN S.1 + 1))) rfl (f2_join v hX a b c d e))
  refine Rt.f (by rw [i_0, ux (by decide)]; exact u0) ?_
  by_cases u4 : 4 < u
  · refine Rt.t (by rw [i_4]; exact nI_lt u4 (by omega)) ?_
    by_cases u5 : u = 5
    · subst u5
      obtain ⟨a, b, c, d⟩ := okA_5 v ha
      have g1 : gI σ 6 1 = nI v1 := g 1 (by decide)
      rw [g1]
      exact Rt.t rfl (fin (S' := (S.1, S.2.1, lrC S.2.2.1 v0 v1, S.2.2.2)) rfl (f2_learn v hX a b c))
    · have u6 : u = 6 := by omega
      subst u6
      obtain ⟨a, b⟩ := okA_6 ha
      have g1 : gI σ 6 1 = nI v1 := g 1 (by decide)
      rw [g1]
      exact Rt.f (by decide) (fin (S' := (swC S.1 v0 v1, S.2.1, [], tr0 (cN S.1))) rfl (f2_changePlaces v hX a b))
  · refine Rt.f (by rw [i_4, nI_ltI (by decide) (by omega)]; omega) ?_
    obtain ⟨a, b⟩ := okA_w ha u0 (by omega)
    rw [i_1, pk_sub (by omega)]
    refine Rt.o (f2_put v hX (by omega) a b) ?_
    intro t ⟨t1, t2, t3⟩
    refine Rt.s ⟨?_, t3⟩
    by_cases u1 : u = 1
    · subst u1
      exact t1 rfl
    · have := t2 (by omega)
      unfold updL
      rw [if_neg u0, if_neg (by omega), if_neg (by omega), if_neg u1]
      exact this
theorem deed_ok (v : VS S) (hM : MS S sd σ) (ha : okA S u v0 v1 v2) (g : ∀ x, x < nmL.getD u 0 → gI σ 97 x = nI (pick v0 v1 v2 x)) (σ' : PH) : Rt (j_X9_item_166 (nI u, σ') σ) (fun t => t.1 = 1 ∧ MS (updL u v0 v1 v2 S) sd t.2 ∧ Fr WM σ t.2) := by
  have hu := ha.1
  have ux : ∀ {k : Nat}, k < 100 → (nI u = nI k ↔ u = k) := fun {k} hk => nI_eq (by omega) (by omega)
  have c0 : (0 : Int32).toNatClampNeg = 0 := rfl
  have c1 : (1 : Int32).toNatClampNeg = 1 := rfl
  have c2 : (2 : Int32).toNatClampNeg = 2 := rfl
  have g0 : gI σ 97 0 = nI v0 := g 0 ((by decide : ∀ u, u < 7 → 0 < nmL.getD u 0) u hu)
  unfold j_X9_item_166
  dsimp only
  rw [c0, c1, c2, g0]
  by_cases u0 : u = 0
  · subst u0
    obtain ⟨a, b, c, d, e⟩ := okA_0 ha
    have g1 : gI σ 97 1 = nI v1 := g 1 (by decide)
    have g2 : gI σ 97 2 = nI v2 := g 2 (by decide)
    rw [g1, g2]
    refine Rt.t rfl (Rt.o (f9_adds v.1 hM a b c d e) ?_)
    rintro ⟨w, t⟩ ⟨-, t2, t3⟩
    exact Rt.s ⟨rfl, t2, t3⟩
  refine Rt.f (by rw [i_0, ux (by decide)]; exact u0) ?_
  by_cases u5 : u = 5
  · subst u5
    obtain ⟨a, b, c, d⟩ := okA_5 v ha
    have h9 := p2_9 v.1.1
    have g1 : gI σ 97 1 = nI v1 := g 1 (by decide)
    rw [g1]
    refine Rt.t rfl ?_
    rw [f9_isKnown v.2.2 v.1.1 hM.2.2.1 (by omega) c, obd_s]
    have eu : updL 5 v0 v1 v2 S = (S.1, S.2.1, lrC S.2.2.1 v0 v1, S.2.2.2) := rfl
    rw [eu]
    cases hk : knC S.2.2.1 v0 v1 with
    | false =>
      refine Rt.t rfl (Rt.o (f9_knows hM d v0 v1) ?_)
      intro t ⟨t1, t2⟩
      refine Rt.s ⟨rfl, ?_, t2.mono (fun r k z => by unfold WM; omega)⟩
      rw [learn_yes hk d]
      exact t1
    | true =>
      refine Rt.f (by decide) (Rt.s ⟨rfl, ?_, Fr.rf⟩)
      rw [learn_no hk]
      exact hM
  refine Rt.f (by rw [i_5, ux (by decide)]; exact u5) ?_
  by_cases u6 : u = 6
  · subst u6
    obtain ⟨a, b⟩ := okA_6 ha
    have g1 : gI σ 97 1 = nI v1 := g 1 (by decide)
    rw [g1]
    refine Rt.t rfl (Rt.o (f9_changes v.1 hM.1 a b) ?_)
    intro t ⟨t1, t2⟩
    rw [bnd_d]
    obtain ⟨M3, F3⟩ := f9_anew (r := S.2.1) (sd := sd) (swC_ok v.1 a b) t1 (fun k hk => by rw [t2.I (by omega)]; exact hM.2.1 k hk) (by rw [t2.I (by omega)]; exact hM.2.2.2.2)
    exact Rt.s ⟨rfl, M3, (t2.mono (fun r k z => by unfold WM; omega)).tr (F3.mono (fun r k z => by unfold WM; omega))⟩
  · refine Rt.f (by rw [i_6, ux (by decide)]; exact u6) ?_
    obtain ⟨a, b⟩ := okA_w ha u0 (by omega)
    rw [i_1, pk_sub (by omega), bnd_d]
    obtain ⟨-, q1, q2, q3⟩ := f9_asks (w := u - 1) (v := v0) v.1 hM (by omega)
    refine Rt.s ⟨rfl, ?_, q3⟩
    by_cases u1 : u = 1
    · subst u1
      exact q1 rfl
    · have := q2 (by omega)
      unfold updL
      rw [if_neg u0, if_neg (by omega), if_neg (by omega), if_neg u1]
      exact this
end TELL
