/-! one item -/
def fullI (S : LST) (w : Nat) : Prop := (w = 0 ∧ ¬ cN S.1 < 8) ∨ (w = 5 ∧ ¬ S.2.2.1.length < 16)
def numI (f : Nat → Int32) (S : LST) (p w : Nat) : Bool × Nat × (Nat → Nat) := numS f S.1 (S.2.1 0) S.2.2.1 w (nmL.getD w 0) 0 (p + (wd w).length) (fun _ => 0)
def Itm (f : Nat → Int32) (S : LST) (p : Nat) (ok : Bool) (e : Nat) (S' : LST) : Prop :=
  (∃ b, wrS (fun u => mpx f p (wd u)) (fun u => (wd u).length) 7 0 0 = (none, b) ∧ ok = false ∧ e = p + b) ∨
  (∃ w b, wrS (fun u => mpx f p (wd u)) (fun u => (wd u).length) 7 0 0 = (some w, b) ∧ w < 7 ∧ ((fullI S w ∧ ok = false ∧ e = p) ∨ (¬ fullI S w ∧ (numI f S p w).1 = ok ∧ e = (numI f S p w).2.1 ∧ (ok = true → okA S w ((numI f S p w).2.2 0) ((numI f S p w).2.2 1) ((numI f S p w).2.2 2) ∧ S' = updL w ((numI f S p w).2.2 0) ((numI f S p w).2.2 1) ((numI f S p w).2.2 2) S))))
section IT8
variable {S : LST} {sd : Int32} {σ : PH} {h : Nat} {T : Nat → Int32} {s z : Nat}
theorem item_8 (hs8 : s < 8) (hh : h = 30 ∨ h = 47) (hT : TX σ s z T) (v : VS S) (hX : XS S sd σ h) {p : Nat} (hp : p ≤ 162) (h2 : gI σ 5 2 = nI p) : Rt (f_X3_readItem σ (14 + 2 * s) h) (fun t => ∃ ok e S', Itm (sg T z) S p ok e S' ∧ (ok = true → t.1 = 1 ∧ XS S' sd t.2 h ∧ gI t.2 5 2 = nI e ∧ gI t.2 5 3 = gI σ 5 3 ∧ e ≤ 170) ∧ (ok = false → t.1 = 0 ∧ gI t.2 5 3 = nI e) ∧ Fr (W56 h) σ t.2) := by
  have n8 := v.1.1
  have h16 := v.2.2.1
  unfold f_X3_readItem
  rw [bnd_d, h2]
  refine Rt.o (readWord_ok hT (by omega) h2) ?_
  rintro ⟨a, σ1⟩ ⟨k1, k0⟩
  dsimp only at k1 k0
  rcases wrd_cases (sg T z) p with ⟨b, -, q1, -, -⟩ | ⟨w, b, hw, q1, -, q3, -⟩
  · obtain ⟨a0, a1⟩ := k0 b q1
    subst a0; subst a1
    exact Rt.t rfl (Rt.s ⟨false, p + b, S, Or.inl ⟨b, q1, rfl, rfl⟩, fun z => absurd z (by decide), fun _ => ⟨rfl, gI_put_eq⟩, Fr.pI (Or.inl rfl)⟩)
  · obtain ⟨a0, -, a2, a1⟩ := k1 w b q3
    subst a0; subst a1
    refine Rt.f (nI_nm1 (by omega)) ?_
    dsimp only
    have l6 : (wd w).length ≤ 6 := (wd_f w hw).2.2.2.1
    have F1 : Fr (fun r k => r = 5 ∧ k = 2) σ (putI σ 5 2 (nI (p + (wd w).length))) := Fr.pI ⟨rfl, rfl⟩
    have g2 : gI (putI σ 5 2 (nI (p + (wd w).length))) 5 2 = nI (p + (wd w).length) := gI_put_eq
    have g3 : gI (putI σ 5 2 (nI (p + (wd w).length))) 5 3 = gI σ 5 3 := gI_put_ne (Or.inr (by decide))
    generalize putI σ 5 2 (nI (p + (wd w).length)) = σ1 at *
    have F1' : Fr (W56 h) σ σ1 := F1.mono (fun r k z => Or.inl z.1)
    have X1 : XS S sd σ1 h := XH.fr hX F1 (fun r k z => by omega)
    have T1 : TX σ1 s z T := hT.fr hs8 F1 (fun r k z => by omega)
    have room2 : f_X2_hasRoom σ1 h = oI (decide (S.2.2.1.length < 16)) := by
      unfold f_X2_hasRoom
      rw [show gI σ1 h 4 = nI S.2.2.1.length from X1.2.1.2.1.1]
      by_cases y : S.2.2.1.length < 16
      · rw [decide_eq_true y]
        exact if_neg (by rw [i_16, nI_leI (by decide) (by omega)]; omega)
      · rw [decide_eq_false y]
        exact if_pos (by rw [i_16]; exact nI_le (by omega) (by omega))
    have room0 : f_X0_hasRoom σ1 h = oI (decide (cN S.1 < 8)) := by
      unfold f_X0_hasRoom
      rw [show gI σ1 (h + 1) 5 = nI (cN S.1) from X1.1.1.1]
      by_cases y : cN S.1 < 8
      · rw [decide_eq_true y]
        exact if_neg (by rw [i_8, nI_leI (by decide) (by omega)]; omega)
      · rw [decide_eq_false y]
        exact if_pos (by rw [i_8]; exact nI_le (by omega) (by omega))
    have full : fullI S w → Rt (bnd (f_X3_fails σ1 (nI p)) fun u30 => chk (u30.1 &&& 1 = u30.1) (some (u30.1, u30.2))) (fun t => ∃ ok e S', Itm (sg T z) S p ok e S' ∧ (ok = true → t.1 = 1 ∧ XS S' sd t.2 h ∧ gI t.2 5 2 = nI e ∧ gI t.2 5 3 = gI σ 5 3 ∧ e ≤ 170) ∧ (ok = false → t.1 = 0 ∧ gI t.2 5 3 = nI e) ∧ Fr (W56 h) σ t.2) := fun hf => by
      unfold f_X3_fails
      rw [bnd_d, bnd_d]
      exact Rt.c (show (0 : Int32) &&& 1 = 0 by decide) (Rt.s ⟨false, p, S, Or.inr ⟨w, b, q3, hw, Or.inl ⟨hf, rfl, rfl⟩⟩, fun z => absurd z (by decide), fun _ => ⟨rfl, gI_put_eq⟩, F1'.tr (Fr.pI (Or.inl rfl))⟩)
    have go : ¬ fullI S w → Rt (j_X3_readItem_49 (14 + 2 * s) h (nI w, σ1)) (fun t => ∃ ok e S', Itm (sg T z) S p ok e S' ∧ (ok = true → t.1 = 1 ∧ XS S' sd t.2 h ∧ gI t.2 5 2 = nI e ∧ gI t.2 5 3 = gI σ 5 3 ∧ e ≤ 170) ∧ (ok = false → t.1 = 0 ∧ gI t.2 5 3 = nI e) ∧ Fr (W56 h) σ t.2) := fun hf => by
      refine (nums_8 hs8 hh T1 v X1 hw (fun e => ?_) (fun e => ?_) (q0 := p + (wd w).length) (by omega) g2).m ?_
      · rcases Nat.lt_or_ge (cN S.1) 8 with y | y
        · exact y
        · exact absurd (Or.inl ⟨e, by omega⟩) hf
      · rcases Nat.lt_or_ge S.2.2.1.length 16 with y | y
        · exact y
        · exact absurd (Or.inr ⟨e, by omega⟩) hf
      · intro t ⟨t1, t2, t3⟩
        refine ⟨(numI (sg T z) S p w).1, (numI (sg T z) S p w).2.1, updL w ((numI (sg T z) S p w).2.2 0) ((numI (sg T z) S p w).2.2 1) ((numI (sg T z) S p w).2.2 2) S, Or.inr ⟨w, b, q3, hw, Or.inr ⟨hf, rfl, rfl, fun y => ⟨(t1 y).2.1, rfl⟩⟩⟩, fun y => ?_, t2, F1'.tr t3⟩
        obtain ⟨y1, y2, y3, y4, y5, y6⟩ := t1 y
        exact ⟨y1, y3, y4, by rw [y5, g3], y6⟩
    have r31 : ¬ (w = 0 ∧ ¬ cN S.1 < 8) → Rt (j_X3_readItem_31 (14 + 2 * s) h (nI p) (nI w, σ1)) (fun t => ∃ ok e S', Itm (sg T z) S p ok e S' ∧ (ok = true → t.1 = 1 ∧ XS S' sd t.2 h ∧ gI t.2 5 2 = nI e ∧ gI t.2 5 3 = gI σ 5 3 ∧ e ≤ 170) ∧ (ok = false → t.1 = 0 ∧ gI t.2 5 3 = nI e) ∧ Fr (W56 h) σ t.2) := fun hn => by
      unfold j_X3_readItem_31
      dsimp only
      by_cases w5 : w = 5
      · refine Rt.t (by rw [w5]; rfl) ?_
        rw [bnd_d]
        rw [room2]
        by_cases y : S.2.2.1.length < 16
        · rw [decide_eq_true y]
          exact Rt.f (by decide) (go (fun z => z.elim hn (fun z => z.2 y)))
        · rw [decide_eq_false y]
          exact Rt.t rfl (full (Or.inr ⟨w5, y⟩))
      · exact Rt.f (by rw [i_5, nI_eq (by omega) (by decide)]; exact w5) (go (fun z => z.elim hn (fun z => w5 z.1)))
    by_cases w0 : w = 0
    · refine Rt.t (by rw [w0]; rfl) ?_
      rw [bnd_d]
      rw [room0]
      by_cases y : cN S.1 < 8
      · rw [decide_eq_true y]
        exact Rt.f (by decide) (r31 (fun z => z.2 y))
      · rw [decide_eq_false y]
        exact Rt.t rfl (full (Or.inl ⟨w0, y⟩))
    · exact Rt.f (by rw [i_0, nI_eq (by omega) (by decide)]; exact w0) (r31 (fun z => w0 z.1))
end IT8
theorem numS_no {f : Nat → Int32} {c : CV} {m : Nat} {hs : HS} {w k x q : Nat} {v : Nat → Nat} (hk : 0 < k) (h : ¬ f q = 32) : numS f c m hs w k x q v = (false, q, v) := by
  obtain ⟨k', rfl⟩ : ∃ k', k = k' + 1 := ⟨k - 1, by omega⟩
  unfold numS
  rw [if_neg h]
section IT9
variable {S : LST} {sd : Int32} {σ : PH} {T : Nat → Int32} {s z : Nat}
theorem item_9 (hs8 : s < 8) (hT : TX σ s z T) (hC : cnst σ) (v : VS S) (hX : MS S sd σ) {p : Nat} (hp : p ≤ 162) (h2 : MT σ s z p) {ok : Bool} {e : Nat} {S' : LST} (hi : Itm (sg T z) S p ok e S') : Rt (f_X9_item σ) (fun t => (ok = true → t.1 = 1 ∧ MS S' sd t.2 ∧ gI t.2 81 26 = nI e) ∧ (ok = false → t.1 = 0 ∧ gI t.2 81 29 = nI e) ∧ Fr (fun r k => W9 r k ∨ WM r k) σ t.2) := by
  have n8 := v.1.1
  have h16 := v.2.2.1
  have wrong : ok = false → ∀ x, x = nI e → Rt (bnd (f_X9_wrong σ x) fun u => chk (u.1 &&& 1 = u.1) (some (u.1, u.2))) (fun t => (ok = true → t.1 = 1 ∧ MS S' sd t.2 ∧ gI t.2 81 26 = nI e) ∧ (ok = false → t.1 = 0 ∧ gI t.2 81 29 = nI e) ∧ Fr (fun r k => W9 r k ∨ WM r k) σ t.2) := fun ho x hx => by
    unfold f_X9_wrong
    rw [bnd_d, bnd_d, hx]
    exact Rt.c (show (0 : Int32) &&& 1 = 0 by decide) (Rt.s ⟨fun y => (by rw [ho] at y; cases y), fun _ => ⟨rfl, gI_put_eq⟩, Fr.pI (Or.inl (by unfold W9; omega))⟩)
  have fail29 : ∀ x : Nat, ok = false → x = e → Rt (some ((0 : Int32), putI σ 81 29 (nI x))) (fun t => (ok = true → t.1 = 1 ∧ MS S' sd t.2 ∧ gI t.2 81 26 = nI e) ∧ (ok = false → t.1 = 0 ∧ gI t.2 81 29 = nI e) ∧ Fr (fun r k => W9 r k ∨ WM r k) σ t.2) := fun x ho hx => Rt.s ⟨fun y => (by rw [ho] at y; cases y), fun _ => ⟨rfl, by rw [← hx]; exact gI_put_eq⟩, Fr.pI (Or.inl (by unfold W9; omega))⟩
  have W := word_ok hs8 hT hC (by omega) h2
  have c0 := isWordAt_ok hs8 hT hC (by omega) h2 (u := 0) (Or.inl rfl)
  have c5 := isWordAt_ok hs8 hT hC (by omega) h2 (u := 5) (Or.inr rfl)
  unfold f_X9_item
  rw [show (0 : Int32) = nI 0 from rfl, c0, obd_s]
  have g0 : gI σ 81 0 = nI (cN S.1) := hX.1.1
  have g5 : gI σ 81 5 = nI S.2.2.1.length := hX.2.2.1.1
  rcases wrd_cases (sg T z) p with ⟨b, -, q1, q2, q3⟩ | ⟨w, b, hw, q1, q2, q3, q4⟩
  · have hi' : ok = false ∧ e = p + b := by
      rcases hi with ⟨b', i1, i2, i3⟩ | ⟨w, b', i1, -⟩
      · rw [q1] at i1
        have : b = b' := (Prod.mk.inj i1).2
        subst this
        exact ⟨i2, i3⟩
      · rw [q1] at i1; cases i1
    rw [decide_eq_false (q3 0 (by decide))]
    refine Rt.t rfl ?_
    unfold j_X9_item_17
    rw [show (5 : Int32) = nI 5 from rfl, c5, obd_s, decide_eq_false (q3 5 (by decide))]
    refine Rt.t rfl ?_
    unfold j_X9_item_43
    refine Rt.o W ?_
    rintro ⟨a, t⟩ ⟨-, k0⟩
    dsimp only at k0
    obtain ⟨a0, a1⟩ := k0 b q2
    subst a0; subst a1
    exact Rt.t rfl (fail29 _ hi'.1 hi'.2.symm)
  · have l6 : (wd w).length ≤ 6 := (wd_f w hw).2.2.2.1
    have hi' : (fullI S w ∧ ok = false ∧ e = p) ∨ (¬ fullI S w ∧ (numI (sg T z) S p w).1 = ok ∧ e = (numI (sg T z) S p w).2.1 ∧ (ok = true → okA S w ((numI (sg T z) S p w).2.2 0) ((numI (sg T z) S p w).2.2 1) ((numI (sg T z) S p w).2.2 2) ∧ S' = updL w ((numI (sg T z) S p w).2.2 0) ((numI (sg T z) S p w).2.2 1) ((numI (sg T z) S p w).2.2 2) S)) := by
      rcases hi with ⟨b', i1, -⟩ | ⟨w', b', i1, -, i2⟩
      · rw [q3] at i1; cases i1
      · rw [q3] at i1
        have : w = w' := Option.some.inj (Prod.mk.inj i1).1
        subst this
        exact i2
    have d43 : ¬ fullI S w → Rt (j_X9_item_43 σ) (fun t => (ok = true → t.1 = 1 ∧ MS S' sd t.2 ∧ gI t.2 81 26 = nI e) ∧ (ok = false → t.1 = 0 ∧ gI t.2 81 29 = nI e) ∧ Fr (fun r k => W9 r k ∨ WM r k) σ t.2) := fun hf => by
      rcases hi' with ⟨y, -⟩ | ⟨-, i1, i2, i3⟩
      · exact absurd y hf
      unfold j_X9_item_43
      refine Rt.o W ?_
      rintro ⟨a, t⟩ ⟨k1, k0⟩
      dsimp only at k0 k1
      rcases q4 with ⟨sp, b', q5⟩ | ⟨sp, q5⟩
      · obtain ⟨a0, -, -, a1⟩ := k1 w b' q5
        subst a0; subst a1
        refine Rt.f (nI_nm1 (by omega)) ?_
        have lw : (wd' w).length = (wd w).length + 1 := (wd'_f w hw).2.2.1
        have F1 : Fr W9 σ (putI σ 81 26 (nI (p + (wd' w).length))) := Fr.pI (by unfold W9; omega)
        have M1 : MT (putI σ 81 26 (nI (p + (wd' w).length))) s z (p + (wd w).length + 1) := h2.fr F1 (fun k y => by unfold W9 at y; omega) (by rw [gI_put_eq, lw]; rfl)
        generalize putI σ 81 26 (nI (p + (wd' w).length)) = σ1 at *
        refine (nums_9 hs8 (hT.fr hs8 F1 (fun r k y => by unfold W9 at y; omega)) ⟨fun k hk => by rw [F1.I (by unfold W9; omega)]; exact hC.1 k hk, fun k hk => by rw [F1.I (by unfold W9; omega)]; exact hC.2 k hk⟩ v (MHl.fr hX F1 (fun r k y => by unfold W9 at y; unfold WM; omega)) hw (fun y => ?_) (fun y => ?_) (q0 := p + (wd w).length) (by omega) sp M1 σ1).m ?_
        · rcases Nat.lt_or_ge (cN S.1) 8 with x | x
          · exact x
          · exact absurd (Or.inl ⟨y, by omega⟩) hf
        · rcases Nat.lt_or_ge S.2.2.1.length 16 with x | x
          · exact x
          · exact absurd (Or.inr ⟨y, by omega⟩) hf
        · intro t ⟨t1, t2, t3⟩
          refine ⟨fun y => ?_, fun y => ?_, (F1.mono (fun r k z => Or.inl z)).tr t3⟩
          · obtain ⟨y1, y2, y3⟩ := t1 (i1.trans y)
            rw [(i3 y).2, i2]
            exact ⟨y1, y2, y3⟩
          · rw [i2]; exact t2 (i1.trans y)
      · obtain ⟨a0, a1⟩ := k0 _ q5
        subst a0; subst a1
        have hn : numI (sg T z) S p w = (false, p + (wd w).length, fun _ => 0) := numS_no (nm_f w hw).2.2 sp
        rw [hn] at i1 i2
        exact Rt.t rfl (fail29 _ i1.symm i2.symm)
    have d17 : ¬ (w = 0 ∧ ¬ cN S.1 < 8) → Rt (j_X9_item_17 σ) (fun t => (ok = true → t.1 = 1 ∧ MS S' sd t.2 ∧ gI t.2 81 26 = nI e) ∧ (ok = false → t.1 = 0 ∧ gI t.2 81 29 = nI e) ∧ Fr (fun r k => W9 r k ∨ WM r k) σ t.2) := fun hn => by
      unfold j_X9_item_17
      rw [show (5 : Int32) = nI 5 from rfl, c5, obd_s]
      by_cases w5 : w = 5
      · subst w5
        rw [decide_eq_true q1, g5]
        refine Rt.f (by decide) ?_
        by_cases y : S.2.2.1.length < 16
        · exact Rt.f (by rw [i_16, nI_eq (by omega) (by decide)]; omega) (d43 (fun x => x.elim hn (fun x => x.2 y)))
        · refine Rt.t (by rw [show S.2.2.1.length = 16 by omega]; rfl) ?_
          rcases hi' with ⟨-, i1, i2⟩ | ⟨x, -⟩
          · exact wrong i1 _ (by rw [h2.2.2, i2])
          · exact absurd (Or.inr ⟨rfl, y⟩) x
      · rw [decide_eq_false (q2 5 (by decide) (fun x => w5 x.symm))]
        exact Rt.t rfl (d43 (fun x => x.elim hn (fun x => w5 x.1)))
    by_cases w0 : w = 0
    · subst w0
      rw [decide_eq_true q1, g0]
      refine Rt.f (by decide) ?_
      by_cases y : cN S.1 < 8
      · exact Rt.f (by rw [i_8, nI_eq (by omega) (by decide)]; omega) (d17 (fun x => x.2 y))
      · refine Rt.t (by rw [show cN S.1 = 8 by omega]; rfl) ?_
        rcases hi' with ⟨-, i1, i2⟩ | ⟨x, -⟩
        · exact wrong i1 _ (by rw [h2.2.2, i2])
        · exact absurd (Or.inl ⟨rfl, y⟩) x
    · rw [decide_eq_false (q2 0 (by decide) (fun x => w0 x.symm))]
      exact Rt.t rfl (d17 (fun x => w0 x.1))
end IT9
