/-! the class's hall: what changes it -/
def tr0 (n : Nat) : Nat := if n = 0 then 0 else 1
def XB (c : CV) (r : Nat → Nat) (sd : Int32) (σ : PH) (h : Nat) : Prop := (∀ k, k < 4 → gI σ (h + 15) k = nI (r k)) ∧ gI σ h 5 = sd
theorem f2_forgetAll {c : CV} {r : Nat → Nat} {tr t : Nat} {sd : Int32} {σ : PH} {h : Nat} (hQ : XQ c (WL (cN c) (r 0)) σ h) (hB : XB c r sd σ h) (ht : gI σ h 6 = nI t) (hT : TR (WL (cN c) (r 0)) tr t) : XH c r [] tr sd (f_X2_forgetAll σ h) h ∧ Fr (fun r k => r = h ∧ (k = 4 ∨ k = 7 ∨ k = 8)) σ (f_X2_forgetAll σ h) := by
  have h92 := hQ.2.2.2
  unfold f_X2_forgetAll
  dsimp only [bnd]
  have F1 : Fr (fun r k => r = h ∧ (k = 4 ∨ k = 7 ∨ k = 8)) σ (putI σ h 4 0) := Fr.pI (by omega)
  have a4 : gI (putI σ h 4 0) h 4 = 0 := gI_put_eq
  generalize putI σ h 4 0 = σ1 at *
  have g2 : ∀ r k, gI (putJ σ1 h 7 (f_X7_allLow σ1 h)) r k = gI σ1 r k := fun _ _ => rfl
  have b7 : gJ (putJ σ1 h 7 (f_X7_allLow σ1 h)) h 7 = f_X7_allLow σ1 h := gJ_put_eq
  have F2 : Fr (fun r k => r = h ∧ (k = 4 ∨ k = 7 ∨ k = 8)) σ1 (putJ σ1 h 7 (f_X7_allLow σ1 h)) := Fr.pJ (by omega)
  generalize putJ σ1 h 7 (f_X7_allLow σ1 h) = σ2 at *
  have g3 : ∀ r k, gI (putJ σ2 h 8 (f_X7_allHigh σ2 h)) r k = gI σ2 r k := fun _ _ => rfl
  have b8 : gJ (putJ σ2 h 8 (f_X7_allHigh σ2 h)) h 8 = f_X7_allHigh σ2 h := gJ_put_eq
  have c7 : gJ (putJ σ2 h 8 (f_X7_allHigh σ2 h)) h 7 = gJ σ2 h 7 := gJ_put_ne (Or.inr (by omega))
  have F3 : Fr (fun r k => r = h ∧ (k = 4 ∨ k = 7 ∨ k = 8)) σ2 (putJ σ2 h 8 (f_X7_allHigh σ2 h)) := Fr.pJ (by omega)
  generalize putJ σ2 h 8 (f_X7_allHigh σ2 h) = σ3 at *
  have F : Fr (fun r k => r = h ∧ (k = 4 ∨ k = 7 ∨ k = 8)) σ σ3 := (F1.tr F2).tr F3
  have hc : gI σ1 (h + 7) 3 = nI (WL (cN c) (r 0)).length := by rw [F1.I (by omega)]; exact hQ.2.1.1
  have e8 : f_X7_allHigh σ2 h = f_X7_allHigh σ1 h := by unfold f_X7_allHigh; rw [g2]
  have R := f7_all hc (by omega)
  refine ⟨⟨hQ.fr F (fun r k z => by omega), ⟨fun k hk => ?_, ⟨?_, fun k hk => absurd hk (Nat.not_lt_zero k)⟩, ?_⟩, ⟨t, ?_, hT⟩, ?_⟩, F⟩
  · rw [F.I (by omega)]; exact hB.1 k hk
  · rw [g3, g2, a4]; rfl
  · rw [F.I (by omega)]; exact hB.2
  · rw [F.I (by omega)]; exact ht
  · rw [b8, c7, b7, e8]
    exact R.cong (fun t _ => by unfold rp okH; simp)
theorem f2_makeTrue {c : CV} {r : Nat → Nat} {tr t : Nat} {sd : Int32} {σ : PH} {h : Nat} (hQ : XQ c (WL (cN c) (r 0)) σ h) (hB : XB c r sd σ h) (hT : TR (WL (cN c) (r 0)) tr t) : XH c r [] tr sd (f_X2_makeTrue σ h (nI t)) h ∧ Fr (fun r k => r = h ∧ (k = 4 ∨ k = 6 ∨ k = 7 ∨ k = 8)) σ (f_X2_makeTrue σ h (nI t)) := by
  unfold f_X2_makeTrue
  dsimp only [bnd]
  have F1 : Fr (fun r k => r = h ∧ (k = 4 ∨ k = 6 ∨ k = 7 ∨ k = 8)) σ (putI σ h 6 (nI t)) := Fr.pI (by omega)
  have a6 : gI (putI σ h 6 (nI t)) h 6 = nI t := gI_put_eq
  generalize putI σ h 6 (nI t) = σ1 at *
  have hB1 : XB c r sd σ1 h := ⟨fun k hk => by rw [F1.I (by omega)]; exact hB.1 k hk, by rw [F1.I (by omega)]; exact hB.2⟩
  obtain ⟨g1, g2⟩ := f2_forgetAll (hQ.fr F1 (fun r k z => by omega)) hB1 a6 hT
  exact ⟨g1, F1.tr (g2.mono (fun r k z => by omega))⟩
theorem TR_first {n m : Nat} (hn : n ≤ 8) (hm0 : 1 ≤ m) (hm : m ≤ 3) : TR (WL n m) (tr0 n) 0 := by
  by_cases h : n = 0
  · subst h
    exact Or.inl ⟨List.eq_nil_of_length_eq_zero (WL_0 m (by omega)), rfl, rfl⟩
  · obtain ⟨h1, h2⟩ := WL_first n (by omega) (by omega) m (by omega) hm0
    refine Or.inr ⟨h1, ?_⟩
    rw [h2]; unfold tr0; rw [if_neg h]
theorem f2_beginAnew {c : CV} {r : Nat → Nat} {sd : Int32} {σ : PH} {h : Nat} (ok : CVok c) (hm0 : 1 ≤ r 0) (hm : r 0 ≤ 3) (hX : XC c σ h) (hB : XB c r sd σ h) (z1 : gJ σ (h + 12) 0 = 0) (z2 : gJ σ (h + 13) 0 = 0) : Rt (f_X2_beginAnew σ h) (fun u => XH c r [] (tr0 (cN c)) sd u h ∧ Fr (WH h) σ u) := by
  unfold f_X2_beginAnew
  rw [show (0 : Int32).toNatClampNeg = 0 from rfl, hB.1 0 (by decide)]
  refine Rt.o (f7_build ok hX hm) ?_
  rintro σ1 ⟨hL, hz, hF⟩
  dsimp only [bnd]
  have F2 : Fr (fun r k => r = h ∧ k = 6) σ1 (putI σ1 h 6 0) := Fr.pI (by omega)
  have a6 : gI (putI σ1 h 6 0) h 6 = nI 0 := gI_put_eq
  generalize putI σ1 h 6 0 = σ2 at *
  have hX2 : XC c σ2 h := (hX.fr hF (fun r k z => by unfold WB at z; omega)).fr F2 (fun r k z => by omega)
  have hL2 : XL c (WL (cN c) (r 0)) σ2 h := hL.fr F2 (fun r k z => by omega)
  have h8 := ok.1
  have h9 := p2_9 h8
  have hK : XK c (WL (cN c) (r 0)) σ2 h := by
    refine ⟨?_, ?_, fun s _ hs => Or.inl ?_⟩
    · rw [F2.J (by omega), hF.J (by unfold WB; omega)]; exact z1
    · rw [F2.J (by omega), hF.J (by unfold WB; omega)]; exact z2
    · rw [F2.I (by omega), hz s (by omega)]; decide
  have hQ : XQ c (WL (cN c) (r 0)) σ2 h := ⟨hX2, hL2, hK, WL_len _ (by omega) _ (by omega)⟩
  have hB2 : XB c r sd σ2 h := ⟨fun k hk => by rw [F2.I (by omega), hF.I (by unfold WB; omega)]; exact hB.1 k hk, by rw [F2.I (by omega), hF.I (by unfold WB; omega)]; exact hB.2⟩
  obtain ⟨g1, g2⟩ := f2_forgetAll hQ hB2 a6 (TR_first h8 hm0 hm)
  refine Rt.s ⟨g1, ((hF.mono (fun r k z => by unfold WB at z; unfold WH; omega)).tr (F2.mono (fun r k z => by unfold WH; omega))).tr (g2.mono (fun r k z => by unfold WH; omega))⟩
/-- one more singer -/
def adC (c : CV) (k a o : Nat) : CV := (cN c + 1, (fun i => if i = cN c then k else cK c i), (fun i => if i = cN c then a else cA_ c i), (fun i => if i = cN c then o else cO c i), (fun i => if i = cN c then cN c else cP c i))
theorem adC_ok {c : CV} (ok : CVok c) (h7 : cN c < 8) {k a o : Nat} (hk : k ≤ 6) (ha : a ≤ 9) (ho : 1 ≤ o) (ho2 : o ≤ 9) : CVok (adC c k a o) := by
  refine ⟨h7, fun i hi => ?_, fun i j hi hj e => ?_⟩
  · have hi' : i < cN c + 1 := hi
    show (if i = cN c then k else cK c i) ≤ 6 ∧ (if i = cN c then a else cA_ c i) ≤ 9 ∧ 1 ≤ (if i = cN c then o else cO c i) ∧ (if i = cN c then o else cO c i) ≤ 9 ∧ (if i = cN c then cN c else cP c i) < cN c + 1
    by_cases e : i = cN c
    · rw [if_pos e, if_pos e, if_pos e, if_pos e]
      exact ⟨hk, ha, ho, ho2, by omega⟩
    · rw [if_neg e, if_neg e, if_neg e, if_neg e]
      obtain ⟨a1, a2, a3, a4, a5⟩ := ok.2.1 i (by omega)
      exact ⟨a1, a2, a3, a4, by omega⟩
  · have hi' : i < cN c + 1 := hi
    have hj' : j < cN c + 1 := hj
    have e' : (if i = cN c then cN c else cP c i) = (if j = cN c then cN c else cP c j) := e
    by_cases ei : i = cN c
    · by_cases ej : j = cN c
      · omega
      · rw [if_pos ei, if_neg ej] at e'
        have := (ok.2.1 j (by omega)).2.2.2.2
        omega
    · by_cases ej : j = cN c
      · rw [if_neg ei, if_pos ej] at e'
        have := (ok.2.1 i (by omega)).2.2.2.2
        omega
      · rw [if_neg ei, if_neg ej] at e'
        exact ok.2.2 i j (by omega) (by omega) e'
theorem f0_add {c : CV} {σ : PH} {h : Nat} (ok : CVok c) (hX : XC c σ h) (h7 : cN c < 8) (k a o : Nat) : Rt (f_X0_add σ h (nI k) (nI a) (nI o)) (fun u => XC (adC c k a o) u h ∧ Fr (fun r _ => h + 1 ≤ r ∧ r ≤ h + 6) σ u) := by
  unfold f_X0_add f_X0_hasRoom
  dsimp only [bnd]
  have ne : ∀ (σ : PH) (i j : Nat) (v : Int32), i ≠ 1 → gI (putI σ (h + i) j v) (h + 1) 5 = gI σ (h + 1) 5 := fun σ i j v hi => gI_put_ne (Or.inl (by omega))
  have e8 : inb (nI (cN c)) 8 = true := inb_nI h7 (by decide)
  have e10 : inb (nI (cN c) + 1) 10 = true := inb_in (cN c + 1) (nI_1 _) (by omega) (by decide)
  have cl : (nI (cN c) + 1).toNatClampNeg = cN c + 1 := by rw [nI_1]; exact nI_clamp (by omega)
  rw [hX.1, if_neg (show ¬ (8 : Int32) ≤ nI (cN c) by rw [i_8, nI_leI (by omega) (by omega)]; omega)]
  refine Rt.f (by decide) (Rt.c e8 ?_)
  rw [ne _ 2 _ _ (by decide), hX.1, nI_clamp (by omega)]
  refine Rt.c e8 ?_
  rw [ne _ 3 _ _ (by decide), ne _ 2 _ _ (by decide), hX.1]
  refine Rt.c e8 ?_
  rw [nI_clamp (by omega), ne _ 4 _ _ (by decide), ne _ 3 _ _ (by decide), ne _ 2 _ _ (by decide), hX.1]
  refine Rt.c e8 ?_
  rw [nI_clamp (by omega), ne _ 5 _ _ (by decide), ne _ 4 _ _ (by decide), ne _ 3 _ _ (by decide), ne _ 2 _ _ (by decide), hX.1]
  refine Rt.c e10 ?_
  rw [cl, ne _ 6 _ _ (by decide), ne _ 5 _ _ (by decide), ne _ 4 _ _ (by decide), ne _ 3 _ _ (by decide), ne _ 2 _ _ (by decide), hX.1, nI_shl1 _ (by omega), nI_1]
  refine Rt.s ⟨⟨gI_put_eq, fun i hi => ?_, fun p hp => ?_⟩, ?_⟩
  · have hi' : i < cN c + 1 := hi
    show gI _ (h + 2) i = nI (if i = cN c then k else cK c i) ∧ gI _ (h + 3) i = nI (if i = cN c then a else cA_ c i) ∧ gI _ (h + 4) i = nI (if i = cN c then o else cO c i) ∧ gI _ (h + 5) i = nI (if i = cN c then cN c else cP c i)
    have d2 : ¬ h + 2 = h + 1 := by omega
    by_cases e : i = cN c
    · subst e
      rw [if_pos rfl, if_pos rfl, if_pos rfl, if_pos rfl]
      refine ⟨?_, ?_, ?_, ?_⟩
      · rw [gI_put_ne (Or.inl (by omega)), gI_put_ne (Or.inl (by omega)), gI_put_ne (Or.inl (by omega)), gI_put_ne (Or.inl (by omega)), gI_put_ne (Or.inl (by omega)), gI_put_eq]
      · rw [gI_put_ne (Or.inl (by omega)), gI_put_ne (Or.inl (by omega)), gI_put_ne (Or.inl (by omega)), gI_put_ne (Or.inl (by omega)), gI_put_eq]
      · rw [gI_put_ne (Or.inl (by omega)), gI_put_ne (Or.inl (by omega)), gI_put_ne (Or.inl (by omega)), gI_put_eq]
      · rw [gI_put_ne (Or.inl (by omega)), gI_put_ne (Or.inl (by omega)), gI_put_eq]
    · rw [if_neg e, if_neg e, if_neg e, if_neg e]
      obtain ⟨q1, q2, q3, q4⟩ := hX.2.1 i (by omega)
      refine ⟨?_, ?_, ?_, ?_⟩
      · rw [gI_put_ne (by omega), gI_put_ne (by omega), gI_put_ne (by omega), gI_put_ne (by omega), gI_put_ne (by omega), gI_put_ne (by omega)]; exact q1
      · rw [gI_put_ne (by omega), gI_put_ne (by omega), gI_put_ne (by omega), gI_put_ne (by omega), gI_put_ne (by omega), gI_put_ne (by omega)]; exact q2
      · rw [gI_put_ne (by omega), gI_put_ne (by omega), gI_put_ne (by omega), gI_put_ne (by omega), gI_put_ne (by omega), gI_put_ne (by omega)]; exact q3
      · rw [gI_put_ne (by omega), gI_put_ne (by omega), gI_put_ne (by omega), gI_put_ne (by omega), gI_put_ne (by omega), gI_put_ne (by omega)]; exact q4
  · show ∃ m, m < 256 ∧ gI _ (h + 6) p = nI m ∧ ∀ j, m.testBit j = decide (j < cN c + 1 ∧ (if j = cN c then cN c else cP c j) + 1 = p)
    by_cases e : p = cN c + 1
    · subst e
      refine ⟨2 ^ cN c, Nat.lt_of_lt_of_le (Nat.pow_lt_pow_right (by decide) h7) (by decide), ?_, fun j => ?_⟩
      · rw [gI_put_ne (by omega), gI_put_eq]
      · rw [Nat.testBit_two_pow]
        by_cases ej : j = cN c
        · subst ej
          rw [if_pos rfl, decide_eq_true rfl, decide_eq_true ⟨by omega, rfl⟩]
        · rw [if_neg ej, decide_eq_false (fun z => ej z.symm), decide_eq_false]
          rintro ⟨z1, z2⟩
          have := (ok.2.1 j (by omega)).2.2.2.2
          omega
    · obtain ⟨m, hm, g, b⟩ := hX.2.2 p hp
      refine ⟨m, hm, ?_, fun j => ?_⟩
      · rw [gI_put_ne (by omega), gI_put_ne (by omega), gI_put_ne (by omega), gI_put_ne (by omega), gI_put_ne (by omega), gI_put_ne (by omega)]; exact g
      · rw [b]
        congr 1
        rw [eq_iff_iff]
        by_cases ej : j = cN c
        · rw [if_pos ej]; omega
        · rw [if_neg ej]; omega
  · exact (((((Fr.pI (by omega)).tr (Fr.pI (by omega))).tr (Fr.pI (by omega))).tr (Fr.pI (by omega))).tr (Fr.pI (by omega))).tr (Fr.pI (by omega))
/-- two change places -/
def swC (c : CV) (x y : Nat) : CV := (cN c, cK c, cA_ c, cO c, (fun i => if i = x then cP c y else if i = y then cP c x else cP c i))
theorem swC_P (c : CV) (x y i : Nat) : cP (swC c x y) i = if i = x then cP c y else if i = y then cP c x else cP c i := rfl
theorem swC_ok {c : CV} (ok : CVok c) {x y : Nat} (hx : x < cN c) (hy : y < cN c) : CVok (swC c x y) := by
  have px := (ok.2.1 x hx).2.2.2.2
  have py := (ok.2.1 y hy).2.2.2.2
  refine ⟨ok.1, fun i hi => ?_, fun i j hi hj e => ?_⟩
  · have hi' : i < cN c := hi
    obtain ⟨a1, a2, a3, a4, a5⟩ := ok.2.1 i hi'
    refine ⟨a1, a2, a3, a4, ?_⟩
    rw [swC_P]
    show _ < cN c
    split
    · exact py
    · split
      · exact px
      · exact a5
  · have hi' : i < cN c := hi
    have hj' : j < cN c := hj
    rw [swC_P, swC_P] at e
    have I := ok.2.2
    by_cases i1 : i = x
    · by_cases j1 : j = x
      · omega
      · rw [if_pos i1, if_neg j1] at e
        by_cases j2 : j = y
        · rw [if_pos j2] at e
          have := I y x hy hx e
          omega
        · rw [if_neg j2] at e
          have := I y j hy hj' e
          omega
    · rw [if_neg i1] at e
      by_cases i2 : i = y
      · rw [if_pos i2] at e
        by_cases j1 : j = x
        · rw [if_pos j1] at e
          have := I x y hx hy e
          omega
        · rw [if_neg j1] at e
          by_cases j2 : j = y
          · omega
          · rw [if_neg j2] at e
            have := I x j hx hj' e
            omega
      · rw [if_neg i2] at e
        by_cases j1 : j = x
        · rw [if_pos j1] at e
          have := I i y hi' hy e
          omega
        · rw [if_neg j1] at e
          by_cases j2 : j = y
          · rw [if_pos j2] at e
            have := I i x hi' hx e
            omega
          · rw [if_neg j2] at e
            exact I i j hi' hj' e
theorem swC_2 (c : CV) (x y : Nat) : swC (swC c x y) x y = c := by
  show (cN c, cK c, cA_ c, cO c, (fun i => if i = x then cP (swC c x y) y else if i = y then cP (swC c x y) x else cP (swC c x y) i)) = c
  have e : (fun i => if i = x then cP (swC c x y) y else if i = y then cP (swC c x y) x else cP (swC c x y) i) = cP c := by
    funext i
    rw [swC_P, swC_P, swC_P]
    by_cases i1 : i = x
    · subst i1
      rw [if_pos rfl]
      by_cases j1 : y = i
      · rw [if_pos j1, j1]
      · rw [if_neg j1, if_pos rfl]
    · rw [if_neg i1]
      by_cases i2 : i = y
      · subst i2
        rw [if_pos rfl, if_pos rfl]
      · rw [if_neg i2, if_neg i1, if_neg i2]
  rw [e]
  rfl
theorem f0_exchange {c : CV} {σ : PH} {h : Nat} (ok : CVok c) (hX : XC c σ h) {x y : Nat} (hx : x < cN c) (hy : y < cN c) : Rt (f_X0_exchange σ h (nI x) (nI y)) (fun u => XC (swC c x y) u h ∧ Fr (fun r _ => r = h + 5 ∨ r = h + 6) σ u) := by
  have h8 := ok.1
  have px := (ok.2.1 x hx).2.2.2.2
  have py := (ok.2.1 y hy).2.2.2.2
  have ex : inb (nI x) 8 = true := inb_nI (by omega) (by decide)
  have ey : inb (nI y) 8 = true := inb_nI (by omega) (by decide)
  unfold f_X0_exchange
  dsimp only [bnd]
  rw [f0_has1 ok hX hx, f0_has1 ok hX hy]
  refine Rt.f (by decide) (Rt.f (by decide) (Rt.c ex (Rt.c ey (Rt.c ex (Rt.c ey (Rt.c ex ?_))))))
  rw [nI_clamp (by omega), nI_clamp (by omega), (hX.2.1 x hx).2.2.2, (hX.2.1 y hy).2.2.2]
  have A5 : ∀ i, i < cN c → gI (putI (putI σ (h + 5) x (nI (cP c y))) (h + 5) y (nI (cP c x))) (h + 5) i = nI (cP (swC c x y) i) := fun i hi => by
    rw [swC_P]
    by_cases i2 : i = y
    · subst i2
      rw [gI_put_eq]
      by_cases i1 : i = x
      · subst i1; rw [if_pos rfl]
      · rw [if_neg i1, if_pos rfl]
    · rw [gI_put_ne (Or.inr i2)]
      by_cases i1 : i = x
      · subst i1; rw [gI_put_eq, if_pos rfl]
      · rw [gI_put_ne (Or.inr i1), if_neg i1, if_neg i2]; exact (hX.2.1 i hi).2.2.2
  have F1 : Fr (fun r _ => r = h + 5 ∨ r = h + 6) σ (putI (putI σ (h + 5) x (nI (cP c y))) (h + 5) y (nI (cP c x))) := (Fr.pI (Or.inl rfl)).tr (Fr.pI (Or.inl rfl))
  have g6 : ∀ p, gI (putI (putI σ (h + 5) x (nI (cP c y))) (h + 5) y (nI (cP c x))) (h + 6) p = gI σ (h + 6) p := fun p => by
    rw [gI_put_ne (Or.inl (by omega)), gI_put_ne (Or.inl (by omega))]
  generalize putI (putI σ (h + 5) x (nI (cP c y))) (h + 5) y (nI (cP c x)) = σ1 at *
  have sx : cP (swC c x y) x = cP c y := by rw [swC_P, if_pos rfl]
  have sy : cP (swC c x y) y = cP c x := by
    rw [swC_P]
    by_cases e : y = x
    · rw [if_pos e, e]
    · rw [if_neg e, if_pos rfl]
  rw [A5 x hx, sx]
  refine Rt.c (inb_in (cP c y + 1) (nI_1 _) (by omega) (by decide)) (Rt.c ey ?_)
  rw [nI_1, nI_clamp (by omega), nI_shl1 _ (by omega), gI_put_ne (r := h + 6) (q := h + 5) (Or.inl (by omega)), A5 y hy, sy]
  refine Rt.c (inb_in (cP c x + 1) (nI_1 _) (by omega) (by decide)) ?_
  rw [nI_1, nI_clamp (by omega), nI_shl1 _ (by omega)]
  have lt2 : ∀ i, i < cN c → 2 ^ i < 256 := fun i hi => Nat.lt_of_lt_of_le (Nat.pow_lt_pow_right (by decide) (show i < 8 by omega)) (by decide)
  have I := (swC_ok ok hx hy).2.2
  have one : ∀ (i p : Nat), i < cN c → p = cP (swC c x y) i + 1 → ∀ j, (2 ^ i).testBit j = decide (j < cN c ∧ cP (swC c x y) j + 1 = p) := fun i p hi hp j => by
    rw [Nat.testBit_two_pow]
    by_cases e : i = j
    · subst e; rw [decide_eq_true rfl, decide_eq_true ⟨hi, hp.symm⟩]
    · rw [decide_eq_false e, decide_eq_false]
      rintro ⟨z1, z2⟩
      exact e (I i j hi z1 (by omega))
  refine Rt.s ⟨⟨?_, fun i hi => ?_, fun p hp => ?_⟩, ?_⟩
  · rw [gI_put_ne (Or.inl (by omega)), gI_put_ne (Or.inl (by omega)), F1.I (by omega)]; exact hX.1
  · have hi' : i < cN c := hi
    obtain ⟨q1, q2, q3, q4⟩ := hX.2.1 i hi'
    refine ⟨?_, ?_, ?_, ?_⟩
    · rw [gI_put_ne (Or.inl (by omega)), gI_put_ne (Or.inl (by omega)), F1.I (by omega)]; exact q1
    · rw [gI_put_ne (Or.inl (by omega)), gI_put_ne (Or.inl (by omega)), F1.I (by omega)]; exact q2
    · rw [gI_put_ne (Or.inl (by omega)), gI_put_ne (Or.inl (by omega)), F1.I (by omega)]; exact q3
    · rw [gI_put_ne (Or.inl (by omega)), gI_put_ne (Or.inl (by omega))]; exact A5 i hi'
  · show ∃ m, m < 256 ∧ gI _ (h + 6) p = nI m ∧ ∀ j, m.testBit j = decide (j < cN c ∧ cP (swC c x y) j + 1 = p)
    by_cases p1 : p = cP c x + 1
    · subst p1
      exact ⟨2 ^ y, lt2 y hy, gI_put_eq, one y _ hy (by rw [sy])⟩
    · by_cases p2 : p = cP c y + 1
      · subst p2
        exact ⟨2 ^ x, lt2 x hx, by rw [gI_put_ne (Or.inr p1), gI_put_eq], one x _ hx (by rw [sx])⟩
      · obtain ⟨m, hm, g, b⟩ := hX.2.2 p hp
        refine ⟨m, hm, by rw [gI_put_ne (Or.inr p1), gI_put_ne (Or.inr p2), g6]; exact g, fun j => ?_⟩
        rw [b, swC_P]
        congr 1
        rw [eq_iff_iff]
        by_cases i1 : j = x
        · subst i1; rw [if_pos rfl]; omega
        · rw [if_neg i1]
          by_cases i2 : j = y
          · subst i2; rw [if_pos rfl]; omega
          · rw [if_neg i2]
  · exact (F1.tr (Fr.pI (Or.inr rfl))).tr (Fr.pI (Or.inr rfl))
