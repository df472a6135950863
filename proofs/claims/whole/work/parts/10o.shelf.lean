/-! the calls on shelves -/
theorem two {x : Option (Int32 × PH)} {y : PH → Option (Int32 × PH)} {d : PD} (h : Rt x (fun u => Rt (y u.2) (fun v => u.1 = v.1 ∧ Inv v.2 d))) : ∃ (u v : Int32 × PH), x = some u ∧ y u.2 = some v ∧ u.1 = v.1 ∧ Inv v.2 d := by
  obtain ⟨u, hu, v, hv, h1, h2⟩ := h
  exact ⟨u, v, hu, hv, h1, h2⟩
section SH
variable {j : Nat} {c : CV} {r : Nat → Nat} {hs : HS} {tr : Nat} {sd : Int32} {σ σ' : PH} {d : PD}
theorem InA.inv (h : InA 0 c r hs tr sd σ d) : Inv σ d := ⟨c, r, hs, tr, sd, h⟩
theorem ref2 (I : InA 0 c r hs tr sd σ d) {k : Nat} (h1 : 1 ≤ k) (h7 : k ≤ 7) {p : Int32} (hp : p = -nI k) {Y : PH → Option (Int32 × PH)} (hY : ∀ σ1, InA k c r hs tr sd σ1 d → Fr (fun r _ => r = 2) σ σ1 → Y σ1 = obd (f_X9_no σ1 p) (fun v => some (v.1, v.2))) : Rt (obd (f_X8_refuse σ p) (fun u => some (u.1, u.2))) (fun u => Rt (Y u.2) (fun v => u.1 = v.1 ∧ Inv v.2 d)) := by
  refine Rt.o (refuse_ok I h1 h7 hp) ?_
  rintro ⟨v, σ1⟩ ⟨e1, I1, F1⟩
  refine Rt.s ?_
  dsimp only at e1 I1 F1 ⊢
  rw [hY σ1 I1 F1]
  refine Rt.o (no_ok I1 h1 h7 hp) ?_
  rintro ⟨w, σ2⟩ ⟨e2, I2⟩
  exact Rt.s ⟨e1.trans e2.symm, I2.inv⟩
theorem rf1 (I : InA 0 c r hs tr sd σ d) (Y : PH → Option (Int32 × PH)) (hY : ∀ σ1, InA 1 c r hs tr sd σ1 d → Fr (fun r _ => r = 2) σ σ1 → Y σ1 = obd (f_X9_no σ1 (-1)) (fun v => some (v.1, v.2))) : Rt (obd (f_X8_refuse σ (-1)) (fun u => some (u.1, u.2))) (fun u => Rt (Y u.2) (fun v => u.1 = v.1 ∧ Inv v.2 d)) := ref2 I (k := 1) (by decide) (by decide) (by decide) hY
theorem rf2 (I : InA 0 c r hs tr sd σ d) (Y : PH → Option (Int32 × PH)) (hY : ∀ σ1, InA 2 c r hs tr sd σ1 d → Fr (fun r _ => r = 2) σ σ1 → Y σ1 = obd (f_X9_no σ1 (-2)) (fun v => some (v.1, v.2))) : Rt (obd (f_X8_refuse σ (-2)) (fun u => some (u.1, u.2))) (fun u => Rt (Y u.2) (fun v => u.1 = v.1 ∧ Inv v.2 d)) := ref2 I (k := 2) (by decide) (by decide) (by decide) hY
theorem rf3 (I : InA 0 c r hs tr sd σ d) (Y : PH → Option (Int32 × PH)) (hY : ∀ σ1, InA 3 c r hs tr sd σ1 d → Fr (fun r _ => r = 2) σ σ1 → Y σ1 = obd (f_X9_no σ1 (-3)) (fun v => some (v.1, v.2))) : Rt (obd (f_X8_refuse σ (-3)) (fun u => some (u.1, u.2))) (fun u => Rt (Y u.2) (fun v => u.1 = v.1 ∧ Inv v.2 d)) := ref2 I (k := 3) (by decide) (by decide) (by decide) hY
theorem rf4 (I : InA 0 c r hs tr sd σ d) (Y : PH → Option (Int32 × PH)) (hY : ∀ σ1, InA 4 c r hs tr sd σ1 d → Fr (fun r _ => r = 2) σ σ1 → Y σ1 = obd (f_X9_no σ1 (-4)) (fun v => some (v.1, v.2))) : Rt (obd (f_X8_refuse σ (-4)) (fun u => some (u.1, u.2))) (fun u => Rt (Y u.2) (fun v => u.1 = v.1 ∧ Inv v.2 d)) := ref2 I (k := 4) (by decide) (by decide) (by decide) hY
theorem rf5 (I : InA 0 c r hs tr sd σ d) (Y : PH → Option (Int32 × PH)) (hY : ∀ σ1, InA 5 c r hs tr sd σ1 d → Fr (fun r _ => r = 2) σ σ1 → Y σ1 = obd (f_X9_no σ1 (-5)) (fun v => some (v.1, v.2))) : Rt (obd (f_X8_refuse σ (-5)) (fun u => some (u.1, u.2))) (fun u => Rt (Y u.2) (fun v => u.1 = v.1 ∧ Inv v.2 d)) := ref2 I (k := 5) (by decide) (by decide) (by decide) hY
theorem rf6 (I : InA 0 c r hs tr sd σ d) (Y : PH → Option (Int32 × PH)) (hY : ∀ σ1, InA 6 c r hs tr sd σ1 d → Fr (fun r _ => r = 2) σ σ1 → Y σ1 = obd (f_X9_no σ1 (-6)) (fun v => some (v.1, v.2))) : Rt (obd (f_X8_refuse σ (-6)) (fun u => some (u.1, u.2))) (fun u => Rt (Y u.2) (fun v => u.1 = v.1 ∧ Inv v.2 d)) := ref2 I (k := 6) (by decide) (by decide) (by decide) hY
theorem rf7 (I : InA 0 c r hs tr sd σ d) (Y : PH → Option (Int32 × PH)) (hY : ∀ σ1, InA 7 c r hs tr sd σ1 d → Fr (fun r _ => r = 2) σ σ1 → Y σ1 = obd (f_X9_no σ1 (-7)) (fun v => some (v.1, v.2))) : Rt (obd (f_X8_refuse σ (-7)) (fun u => some (u.1, u.2))) (fun u => Rt (Y u.2) (fun v => u.1 = v.1 ∧ Inv v.2 d)) := ref2 I (k := 7) (by decide) (by decide) (by decide) hY
theorem shelf_i (p : Int32) : (f_X8_isShelf p = 0 ∧ f_X9_isShelf p = 0 ∧ ∀ s, s < 8 → p ≠ nI s) ∨ ∃ s, s < 8 ∧ p = nI s ∧ f_X8_isShelf p = 1 ∧ f_X9_isShelf p = 1 := by
  unfold f_X8_isShelf f_X9_isShelf
  rcases i_range p 8 (by decide) with h | h | ⟨s, hs, rfl⟩
  · refine Or.inl ⟨if_pos h, if_pos h, fun s hs e => ?_⟩
    subst e; exact nI_nlt0 (by omega) h
  · refine Or.inl ⟨?_, ?_, fun s hs e => ?_⟩
    · by_cases h0 : p < 0
      · rw [if_pos h0]
      · rw [if_neg h0, if_pos (show (8 : Int32) ≤ p from h)]
    · by_cases h0 : p < 0
      · rw [if_pos h0]
      · rw [if_neg h0, if_pos (show (8 : Int32) ≤ p from h)]
    · subst e
      rw [nI_leI (by decide) (by omega)] at h
      omega
  · refine Or.inr ⟨s, hs, rfl, ?_, ?_⟩
    · rw [if_neg (nI_nlt0 (by omega)), if_neg (by rw [i_8, nI_leI (by decide) (by omega)]; omega)]
    · rw [if_neg (nI_nlt0 (by omega)), if_neg (by rw [i_8, nI_leI (by decide) (by omega)]; omega)]
/-- what a call on shelf s may change -/
def WS (s : Nat) : Nat → Nat → Prop := fun r k => (r = 14 + 2 * s ∨ r = 15 + 2 * s) ∨ (89 ≤ r ∧ r ≤ 92 ∧ k = s) ∨ (r = 93 ∧ 160 * s ≤ k ∧ k < 160 * s + 160) ∨ r = 94
theorem Shl.other {n s s' : Nat} (f : Fr (WS s) σ σ') (hs : s < 8) (hs' : s' < 8) (hne : s' ≠ s) (h : Shl n σ s') : Shl n σ' s' := by
  unfold Shl
  rw [f.I (r := 89) (by unfold WS; omega), f.I (r := 90) (by unfold WS; omega), f.I (r := 91) (by unfold WS; omega), f.I (r := 92) (by unfold WS; omega), f.I (r := 14 + 2 * s') (k := 0) (by unfold WS; omega), f.I (r := 14 + 2 * s') (k := 1) (by unfold WS; omega)]
  rcases h with h | ⟨h1, o, z, a1, a2, a3, a4, a5, a6, a7⟩ | h
  · exact Or.inl h
  · refine Or.inr (Or.inl ⟨h1, o, z, a1, a2, a3, a4, a5, a6, fun i hi => ?_⟩)
    rw [f.J (by unfold WS; omega), f.J (by unfold WS; omega)]
    exact a7 i hi
  · exact Or.inr (Or.inr h)
theorem InA.shl {s : Nat} (I : InA j c r hs tr sd σ d) (hs8 : s < 8) (f : Fr (WS s) σ σ') (hS : Shl (cN c) σ' s) : InA j c r hs tr sd σ' d := by
  obtain ⟨⟨hd, hR, hF, hV, hC, hI⟩, v, X, M, hSh⟩ := I
  refine ⟨⟨hd, fun k h1 h7 => ?_, ?_, ⟨?_, fun i hi => ?_⟩, ⟨fun k hk => ?_, fun k hk => ?_⟩, hI.fr f (fun r k z => by unfold WS at z; omega)⟩, v, X.fr f (fun r k z => by unfold WS at z; unfold Hls at hd; omega), M.fr f (fun r k z => by unfold WS at z; unfold WM; omega), fun s' hs' => ?_⟩
  · rw [f.I (by unfold WS; omega), f.I (by unfold WS; omega)]; exact hR k h1 h7
  · rw [f.I (by unfold WS; omega), f.I (by unfold WS; omega)]; exact hF
  · rw [f.I (by unfold WS; omega), f.I (by unfold WS; omega)]; exact hV.1
  · rw [f.I (by unfold WS; omega), f.I (by unfold WS; omega)]; exact hV.2 i hi
  · rw [f.I (by unfold WS; omega)]; exact hC.1 k hk
  · rw [f.I (by unfold WS; omega)]; exact hC.2 k hk
  · by_cases e : s' = s
    · subst e; exact hS
    · exact (hSh s' hs').other f hs8 hs' e
theorem cl8 {s : Nat} (hs : s < 8) : 14 + 2 * (nI s).toNatClampNeg = 14 + 2 * s := by rw [nI_clamp (by omega)]
theorem f4_begin {s o z : Nat} (hs : s < 8) (hz : z ≤ 160) : Rt (f_X4_begin σ (14 + 2 * s) (nI o) (nI z)) (fun u => gI u (14 + 2 * s) 0 = nI (100 + o) ∧ gI u (14 + 2 * s) 1 = nI z ∧ (∀ i, i < z → gJ u (15 + 2 * s) i = 0) ∧ Fr (fun r _ => r = 14 + 2 * s ∨ r = 15 + 2 * s) σ u) := by
  unfold f_X4_begin
  rw [bnd_d, bnd_d]
  have em : mxI 0 (mnI (nI z) 160) = nI z := by
    have e1 : mnI (nI z) 160 = nI z := by
      unfold mnI
      by_cases e : (160 : Int32) < nI z
      · rw [i_160, nI_ltI (by decide) (by omega)] at e; omega
      · rw [if_neg e]
    rw [e1]
    unfold mxI
    by_cases e : (0 : Int32) < nI z
    · rw [if_pos e]
    · rw [if_neg e]
      rw [i_0, nI_ltI (by decide) (by omega)] at e
      have : z = 0 := by omega
      subst this; rfl
  rw [em, i_100, nI_add]
  have F0 : Fr (fun r _ => r = 14 + 2 * s ∨ r = 15 + 2 * s) σ (putI (putI σ (14 + 2 * s) 0 (nI (100 + o))) (14 + 2 * s) 1 (nI z)) := (Fr.pI (Or.inl rfl)).tr (Fr.pI (Or.inl rfl))
  have a0 : gI (putI (putI σ (14 + 2 * s) 0 (nI (100 + o))) (14 + 2 * s) 1 (nI z)) (14 + 2 * s) 0 = nI (100 + o) := by rw [gI_put_ne (Or.inr (by decide)), gI_put_eq]
  have a1 : gI (putI (putI σ (14 + 2 * s) 0 (nI (100 + o))) (14 + 2 * s) 1 (nI z)) (14 + 2 * s) 1 = nI z := gI_put_eq
  generalize putI (putI σ (14 + 2 * s) 0 (nI (100 + o))) (14 + 2 * s) 1 (nI z) = σ1 at *
  refine lp_acc (enc := fun (a : PH) (i : Nat) => ((nI i, a) : Int32 × PH)) z (fun a i => gI a (14 + 2 * s) 0 = nI (100 + o) ∧ gI a (14 + 2 * s) 1 = nI z ∧ (∀ k, k < i → gJ a (15 + 2 * s) k = 0) ∧ Fr (fun r _ => r = 14 + 2 * s ∨ r = 15 + 2 * s) σ a) _ ?_ ?_ FU σ1 0 (Nat.zero_le _) (FU_big (by omega)) ⟨a0, a1, fun k hk => absurd hk (Nat.not_lt_zero k), F0⟩
  · rintro rec a i hi ⟨h0, h1, hk, hF⟩ hrec
    dsimp only [b_X4_begin_25, bnd]
    rw [h1, nI_clamp (by omega), nI_1, show 14 + 2 * s + 1 = 15 + 2 * s by omega]
    refine Rt.f (by rw [nI_leI (by omega) (by omega)]; omega) (Rt.c (inb_nI (by omega) (by decide)) (hrec _ ⟨h0, h1, fun k hk' => ?_, hF.tr (Fr.pJ (Or.inr rfl))⟩))
    rcases Nat.lt_or_eq_of_le (Nat.le_of_lt_succ hk') with hlt | rfl
    · rw [gJ_put_ne (Or.inr (by omega))]; exact hk k hlt
    · exact gJ_put_eq
  · rintro rec a ⟨h0, h1, hk, hF⟩
    dsimp only [b_X4_begin_25, bnd]
    rw [h1]
    exact Rt.t (nI_le (Nat.le_refl _) (by omega)) (Rt.s ⟨h0, h1, hk, hF⟩)
theorem st_row (σ : PH) (d : PD) (p1 p2 p3 : Int32) (hI : Inv σ d) : ∃ (u v : Int32 × PH), f_X8_row σ p1 p2 p3 = some u ∧ f_X9_row u.2 p1 p2 p3 = some v ∧ u.1 = v.1 ∧ Inv v.2 d := by
  obtain ⟨c, r, hs, tr, sd, I⟩ := hI
  refine two (y := fun s => f_X9_row s p1 p2 p3) ?_
  unfold f_X8_row
  dsimp only [bnd]
  rcases shelf_i p1 with ⟨e1, e2, -⟩ | ⟨s, hs8, rfl, e1, e2⟩
  · rw [e1, if_pos rfl]
    refine rf1 I (fun s => f_X9_row s _ _ _) (fun σ1 _ _ => ?_)
    unfold f_X9_row
    rw [bnd_d, e2, if_pos rfl]
  · rw [e1, if_neg (by decide)]
    have hY : ∀ σ1, f_X9_row σ1 (nI s) p2 p3 = (if 0 ≤ p3 then (if p2 < 0 then (obd (f_X9_no σ1 (-6)) fun u5 => some (u5.1, u5.2)) else (if p2 ≤ 3 then (if p3 ≤ 160 then (chk (inb (nI s) 8 = true) <| bnd (putI σ1 89 (nI s).toNatClampNeg 1) fun σ9 =>  chk (inb (nI s) 8 = true) <| bnd (putI σ9 90 (nI s).toNatClampNeg p2) fun σ11 =>  chk (inb (nI s) 8 = true) <| bnd (putI σ11 91 (nI s).toNatClampNeg p3) fun σ13 => loopN (b_X9_row_79 (nI s)) FU (0, σ13)) else (obd (f_X9_no σ1 (-7)) fun u20 => some (u20.1, u20.2))) else (obd (f_X9_no σ1 (-6)) fun u21 => some (u21.1, u21.2)))) else (obd (f_X9_no σ1 (-4)) fun u22 => some (u22.1, u22.2))) := fun σ1 => by
      unfold f_X9_row
      rw [bnd_d, e2, if_neg (by decide)]
    by_cases n0 : 0 ≤ p3
    · rw [if_pos n0]
      rcases i_range p2 4 (by decide) with q | q | ⟨o, ho, rfl⟩
      · rw [if_pos q]
        refine rf6 I (fun s => f_X9_row s _ _ _) (fun σ1 _ _ => ?_)
        rw [hY, if_pos n0, if_pos q]
      · have h0 : ¬ p2 < 0 := by
          rw [Int32.le_iff_toInt_le, nI_toInt (by decide)] at q
          rw [Int32.lt_iff_toInt_lt, i_0, nI_toInt (by decide)]; omega
        have h4 : ¬ p2 < 4 := by
          rw [Int32.le_iff_toInt_le, nI_toInt (by decide)] at q
          rw [Int32.lt_iff_toInt_lt, i_4, nI_toInt (by decide)]; omega
        have h3 : ¬ p2 ≤ 3 := by
          rw [Int32.le_iff_toInt_le, nI_toInt (by decide)] at q
          rw [Int32.le_iff_toInt_le, i_3, nI_toInt (by decide)]; omega
        rw [if_neg h0, if_neg h4]
        refine rf6 I (fun s => f_X9_row s _ _ _) (fun σ1 _ _ => ?_)
        rw [hY, if_pos n0, if_neg h0, if_neg h3]
      · have h0 : ¬ nI o < 0 := nI_nlt0 (by omega)
        have h4 : nI o < 4 := by rw [i_4]; exact nI_lt ho (by decide)
        have h3 : nI o ≤ 3 := by rw [i_3]; exact nI_le (by omega) (by decide)
        rw [if_neg h0, if_pos h4]
        by_cases n1 : p3 ≤ 160
        · obtain ⟨z, hz, rfl⟩ := nI_of2 (M := 160) (n := 160) rfl (fun z => by
            rw [Int32.lt_iff_toInt_lt] at z
            rw [Int32.le_iff_toInt_le] at n0
            omega) n1
          rw [if_pos n1, cl8 hs8]
          refine Rt.c (inb_nI hs8 (by decide)) (Rt.o (f4_begin hs8 hz) ?_)
          rintro σ1 ⟨g0, g1, gz, F1⟩
          refine Rt.s ?_
          dsimp only
          rw [hY, if_pos n0, if_neg h0, if_pos h3, if_pos n1, chk_t (inb_nI hs8 (by decide)), bnd_d, chk_t (inb_nI hs8 (by decide)), bnd_d, chk_t (inb_nI hs8 (by decide)), bnd_d, nI_clamp (by omega)]
          have F2 : Fr (WS s) σ (putI (putI (putI σ1 89 s 1) 90 s (nI o)) 91 s (nI z)) := (((F1.mono (fun r k z => by unfold WS; omega)).tr (Fr.pI (by unfold WS; omega))).tr (Fr.pI (by unfold WS; omega))).tr (Fr.pI (by unfold WS; omega))
          have a89 : gI (putI (putI (putI σ1 89 s 1) 90 s (nI o)) 91 s (nI z)) 89 s = 1 := by rw [gI_put_ne (by omega), gI_put_ne (by omega), gI_put_eq]
          have a90 : gI (putI (putI (putI σ1 89 s 1) 90 s (nI o)) 91 s (nI z)) 90 s = nI o := by rw [gI_put_ne (by omega), gI_put_eq]
          have a91 : gI (putI (putI (putI σ1 89 s 1) 90 s (nI o)) 91 s (nI z)) 91 s = nI z := gI_put_eq
          have b0 : gI (putI (putI (putI σ1 89 s 1) 90 s (nI o)) 91 s (nI z)) (14 + 2 * s) 0 = nI (100 + o) := by rw [gI_put_ne (by omega), gI_put_ne (by omega), gI_put_ne (by omega)]; exact g0
          have b1 : gI (putI (putI (putI σ1 89 s 1) 90 s (nI o)) 91 s (nI z)) (14 + 2 * s) 1 = nI z := by rw [gI_put_ne (by omega), gI_put_ne (by omega), gI_put_ne (by omega)]; exact g1
          have bz : ∀ i, i < z → gJ (putI (putI (putI σ1 89 s 1) 90 s (nI o)) 91 s (nI z)) (15 + 2 * s) i = 0 := fun i hi => gz i hi
          generalize putI (putI (putI σ1 89 s 1) 90 s (nI o)) 91 s (nI z) = σ2 at *
          refine lp_acc (enc := fun (a : PH) (i : Nat) => ((nI i, a) : Int32 × PH)) 160 (fun a i => (∀ k, k < i → gJ a 93 (160 * s + k) = 0) ∧ Fr (fun r k => r = 93 ∧ 160 * s ≤ k ∧ k < 160 * s + 160) σ2 a) _ ?_ ?_ FU σ2 0 (Nat.zero_le _) (FU_big (by decide)) ⟨fun k hk => absurd hk (Nat.not_lt_zero k), Fr.rf⟩
          · rintro rec a i hi ⟨hk, hF⟩ hrec
            dsimp only [b_X9_row_79, bnd]
            have ei : 160 * nI s + nI i = nI (160 * s + i) := by rw [i_160, pk_mul, nI_add]
            rw [ei, nI_1, nI_clamp (by omega)]
            refine Rt.f (by rw [i_160, nI_leI (by omega) (by omega)]; omega) (Rt.c (inb_nI (by omega) (by decide)) (hrec _ ⟨fun k hk' => ?_, hF.tr (Fr.pJ (by omega))⟩))
            rcases Nat.lt_or_eq_of_le (Nat.le_of_lt_succ hk') with hlt | rfl
            · rw [gJ_put_ne (Or.inr (by omega))]; exact hk k hlt
            · exact gJ_put_eq
          · rintro rec a ⟨hk, hF⟩
            dsimp only [b_X9_row_79, bnd]
            refine Rt.t (by rw [i_160]; exact nI_le (Nat.le_refl _) (by decide)) (Rt.s ⟨rfl, ?_⟩)
            refine (I.shl hs8 (F2.tr (hF.mono (fun r k z => by unfold WS; omega))) (Or.inr (Or.inl ⟨?_, o, z, ho, hz, ?_, ?_, ?_, ?_, fun i hi => ?_⟩))).inv
            · rw [hF.I (by omega)]; exact a89
            · rw [hF.I (by omega)]; exact a90
            · rw [hF.I (by omega)]; exact a91
            · rw [hF.I (by omega)]; exact b0
            · rw [hF.I (by omega)]; exact b1
            · rw [hF.J (by omega), hk i (by omega)]; exact bz i hi
        · rw [if_neg n1]
          refine rf7 I (fun s => f_X9_row s _ _ _) (fun σ1 _ _ => ?_)
          rw [hY, if_pos n0, if_neg h0, if_pos h3, if_neg n1]
    · rw [if_neg n0]
      refine rf4 I (fun s => f_X9_row s _ _ _) (fun σ1 _ _ => ?_)
      rw [hY, if_neg n0]
theorem lack0 {s : Nat} (hs8 : s < 8) (h : gI σ (14 + 2 * s) 0 = -1) : f_X8_lackOfRow σ (nI s) = some (-3) := by
  unfold f_X8_lackOfRow f_X8_isShelf f_X4_holdsRow
  rw [if_neg (nI_nlt0 (by omega)), if_neg (show ¬ (8 : Int32) ≤ nI s by rw [i_8, nI_leI (by decide) (by omega)]; omega), bnd_d, if_neg (by decide), chk_t (inb_nI hs8 (by decide)), bnd_d, bnd_d, cl8 hs8, h, if_pos (by decide), chk_t (inb_nI hs8 (by decide)), bnd_d, h, if_pos rfl]
theorem lack1 {s o : Nat} (hs8 : s < 8) (ho : o < 4) (h : gI σ (14 + 2 * s) 0 = nI (100 + o)) : f_X8_lackOfRow σ (nI s) = some 0 := by
  unfold f_X8_lackOfRow f_X8_isShelf f_X4_holdsRow
  rw [if_neg (nI_nlt0 (by omega)), if_neg (show ¬ (8 : Int32) ≤ nI s by rw [i_8, nI_leI (by decide) (by omega)]; omega), bnd_d, if_neg (by decide), chk_t (inb_nI hs8 (by decide)), bnd_d, bnd_d, cl8 hs8, h, if_neg (show ¬ nI (100 + o) < 100 by rw [i_100, nI_ltI (by omega) (by decide)]; omega), if_neg (by decide)]
theorem lack2 {s x : Nat} (hs8 : s < 8) (hx : x < 100) (h : gI σ (14 + 2 * s) 0 = nI x) : f_X8_lackOfRow σ (nI s) = some (-2) := by
  unfold f_X8_lackOfRow f_X8_isShelf f_X4_holdsRow
  rw [if_neg (nI_nlt0 (by omega)), if_neg (show ¬ (8 : Int32) ≤ nI s by rw [i_8, nI_leI (by decide) (by omega)]; omega), bnd_d, if_neg (by decide), chk_t (inb_nI hs8 (by decide)), bnd_d, bnd_d, cl8 hs8, h, if_pos (show nI x < 100 by rw [i_100]; exact nI_lt hx (by decide)), if_pos rfl, chk_t (inb_nI hs8 (by decide)), bnd_d, h, if_neg (nI_nm1 (by omega))]
theorem lackN {p : Int32} (h : f_X8_isShelf p = 0) : f_X8_lackOfRow σ p = some (-1) := by
  unfold f_X8_lackOfRow
  rw [bnd_d, h, if_pos rfl]
theorem want0 {s : Nat} (hs8 : s < 8) (h : gI σ 89 s = 0) : f_X9_wanted σ (nI s) = some (-3) := by
  unfold f_X9_wanted f_X9_isShelf
  rw [if_neg (nI_nlt0 (by omega)), if_neg (show ¬ (8 : Int32) ≤ nI s by rw [i_8, nI_leI (by decide) (by omega)]; omega), bnd_d, if_neg (by decide), chk_t (inb_nI hs8 (by decide)), nI_clamp (by omega), h, if_neg (by decide), chk_t (inb_nI hs8 (by decide)), if_pos rfl]
theorem want1 {s : Nat} (hs8 : s < 8) (h : gI σ 89 s = 1) : f_X9_wanted σ (nI s) = some 0 := by
  unfold f_X9_wanted f_X9_isShelf
  rw [if_neg (nI_nlt0 (by omega)), if_neg (show ¬ (8 : Int32) ≤ nI s by rw [i_8, nI_leI (by decide) (by omega)]; omega), bnd_d, if_neg (by decide), chk_t (inb_nI hs8 (by decide)), nI_clamp (by omega), h, if_neg (by decide), chk_t (inb_nI hs8 (by decide)), if_neg (by decide)]
theorem want2 {s : Nat} (hs8 : s < 8) (h : gI σ 89 s = 2) : f_X9_wanted σ (nI s) = some (-2) := by
  unfold f_X9_wanted f_X9_isShelf
  rw [if_neg (nI_nlt0 (by omega)), if_neg (show ¬ (8 : Int32) ≤ nI s by rw [i_8, nI_leI (by decide) (by omega)]; omega), bnd_d, if_neg (by decide), chk_t (inb_nI hs8 (by decide)), nI_clamp (by omega), h, if_pos rfl]
theorem wantN {p : Int32} (h : f_X9_isShelf p = 0) : f_X9_wanted σ p = some (-1) := by
  unfold f_X9_wanted
  rw [bnd_d, h, if_pos rfl]
/-- has a row the element -/
theorem elem_i (z : Nat) (hz : z ≤ 160) (p : Int32) {q : Nat} (h1 : gI σ q 1 = nI z) : (f_X4_hasElement σ q p = 0 ∧ (p < 0 ∨ (¬ p < 0 ∧ ¬ p < nI z ∧ nI z ≤ p))) ∨ ∃ i, i < z ∧ p = nI i ∧ f_X4_hasElement σ q p = 1 := by
  unfold f_X4_hasElement
  rw [h1]
  rcases i_range p z (by omega) with h | h | ⟨i, hi, rfl⟩
  · exact Or.inl ⟨if_pos h, Or.inl h⟩
  · have h0 : ¬ p < 0 := by
      rw [Int32.le_iff_toInt_le, nI_toInt (by omega)] at h
      rw [Int32.lt_iff_toInt_lt, i_0, nI_toInt (by decide)]; omega
    have h2 : ¬ p < nI z := by
      rw [Int32.le_iff_toInt_le] at h
      rw [Int32.lt_iff_toInt_lt]; omega
    exact Or.inl ⟨by rw [if_neg h0, if_pos h], Or.inr ⟨h0, h2, h⟩⟩
  · exact Or.inr ⟨i, hi, rfl, by rw [if_neg (nI_nlt0 (by omega)), if_neg (by rw [nI_leI (by omega) (by omega)]; omega)]⟩
theorem st_element (σ : PH) (d : PD) (p1 p2 : Int32) (hI : Inv σ d) : ∃ (u v : Int64), f_X8_element σ p1 p2 = some u ∧ f_X9_element σ p1 p2 = some v ∧ u = v ∧ Inv σ d := by
  obtain ⟨c, r, hs, tr, sd, I⟩ := id hI
  have fin : ∀ w, f_X8_element σ p1 p2 = some w → f_X9_element σ p1 p2 = some w → ∃ (u v : Int64), f_X8_element σ p1 p2 = some u ∧ f_X9_element σ p1 p2 = some v ∧ u = v ∧ Inv σ d := fun w h1 h2 => ⟨w, w, h1, h2, rfl, hI⟩
  rcases shelf_i p1 with ⟨e1, e2, -⟩ | ⟨s, hs8, rfl, e1, e2⟩
  · refine fin 0 ?_ ?_
    · unfold f_X8_element
      rw [lackN e1, obd_s, if_neg (by decide)]
    · unfold f_X9_element
      rw [bnd_d, e2, if_pos rfl]
  · have c8 := inb_nI (k := s) (N := 8) hs8 (by decide)
    rcases I.2.2.2.2 s hs8 with ⟨h0, h1⟩ | ⟨h0, o, z, ho, hz, h2, h3, h4, h5, h6⟩ | ⟨h0, x, hx, h1, h2⟩
    · refine fin 0 ?_ ?_
      · unfold f_X8_element
        rw [lack0 hs8 h1, obd_s, if_neg (by decide)]
      · unfold f_X9_element
        rw [bnd_d, e2, if_neg (by decide), chk_t c8, nI_clamp (by omega), h0, if_neg (by decide)]
    · rcases elem_i z hz p2 h5 with ⟨q1, q2⟩ | ⟨i, hi, rfl, q1⟩
      · refine fin 0 ?_ ?_
        · unfold f_X8_element
          rw [lack1 hs8 ho h4, obd_s, if_pos rfl, chk_t c8, bnd_d, bnd_d, cl8 hs8, q1, if_pos rfl]
        · unfold f_X9_element
          rw [bnd_d, e2, if_neg (by decide), chk_t c8, nI_clamp (by omega), h0, if_pos rfl, h3]
          rcases q2 with q | ⟨qa, qb, qc⟩
          · rw [if_pos q]
          · rw [if_neg qa, chk_t c8, if_pos qc]
      · refine fin (gJ σ (15 + 2 * s) i) ?_ ?_
        · unfold f_X8_element
          rw [lack1 hs8 ho h4, obd_s, if_pos rfl, chk_t c8, bnd_d, bnd_d, cl8 hs8, q1, if_neg (by decide), chk_t c8, bnd_d, chk_t (inb_nI (by omega) (by decide)), nI_clamp (by omega), show 14 + 2 * s + 1 = 15 + 2 * s by omega]
        · unfold f_X9_element
          rw [bnd_d, e2, if_neg (by decide), chk_t c8, nI_clamp (by omega), h0, if_pos rfl, h3, if_neg (nI_nlt0 (by omega)), chk_t c8, if_neg (by rw [nI_leI (by omega) (by omega)]; omega), i_160, pk_mul, nI_add, chk_t (inb_nI (by omega) (by decide)), nI_clamp (by omega), h6 i hi]
    · refine fin 0 ?_ ?_
      · unfold f_X8_element
        have := I.2.1.1.1
        rw [lack2 hs8 (by omega) h2, obd_s, if_neg (by decide)]
      · unfold f_X9_element
        rw [bnd_d, e2, if_neg (by decide), chk_t c8, nI_clamp (by omega), h0, if_neg (by decide)]
theorem st_holds (σ : PH) (d : PD) (p1 : Int32) (hI : Inv σ d) : ∃ (u v : Int32), f_X8_holds σ p1 = some u ∧ f_X9_holds σ p1 = some v ∧ u = v ∧ Inv σ d := by
  obtain ⟨c, r, hs, tr, sd, I⟩ := id hI
  have fin : ∀ w, f_X8_holds σ p1 = some w → f_X9_holds σ p1 = some w → ∃ (u v : Int32), f_X8_holds σ p1 = some u ∧ f_X9_holds σ p1 = some v ∧ u = v ∧ Inv σ d := fun w h1 h2 => ⟨w, w, h1, h2, rfl, hI⟩
  rcases shelf_i p1 with ⟨e1, e2, -⟩ | ⟨s, hs8, rfl, e1, e2⟩
  · refine fin (-1) ?_ ?_
    · unfold f_X8_holds
      rw [bnd_d, e1, if_pos rfl]
    · unfold f_X9_holds
      rw [bnd_d, e2, if_pos rfl]
  · have c8 := inb_nI (k := s) (N := 8) hs8 (by decide)
    refine fin (gI σ (14 + 2 * s) 0) ?_ ?_
    · unfold f_X8_holds
      rw [bnd_d, e1, if_neg (by decide), chk_t c8, bnd_d, cl8 hs8]
    · unfold f_X9_holds
      rw [bnd_d, e2, if_neg (by decide), chk_t c8, nI_clamp (by omega)]
      rcases I.2.2.2.2 s hs8 with ⟨h0, h1⟩ | ⟨h0, o, z, ho, hz, h2, h3, h4, h5, h6⟩ | ⟨h0, x, hx, h1, h2⟩
      · rw [h0, if_pos rfl, h1]
      · rw [h0, if_neg (by decide), chk_t c8, if_pos rfl, chk_t c8, h2, h4, i_100, nI_add]
      · rw [h0, if_neg (by decide), chk_t c8, if_neg (by decide), chk_t c8, h1, h2]
theorem st_show (σ : PH) (d : PD) (p1 p2 : Int32) (hI : Inv σ d) : ∃ (u v : Int32 × PH), f_X8_show σ d p1 p2 = some u ∧ f_X9_show u.2 p1 p2 = some v ∧ u.1 = v.1 ∧ Inv v.2 d := by
  obtain ⟨c, r, hs, tr, sd, I⟩ := hI
  have ok := I.2.1.1
  refine two (y := fun s => f_X9_show s p1 p2) ?_
  unfold f_X8_show
  dsimp only [bnd]
  rcases shelf_i p1 with ⟨e1, e2, -⟩ | ⟨s, hs8, rfl, e1, e2⟩
  · rw [e1, if_pos rfl]
    refine rf1 I (fun s => f_X9_show s p1 p2) (fun σ1 _ _ => ?_)
    unfold f_X9_show
    rw [bnd_d, e2, if_pos rfl]
  · have c8 := inb_nI (k := s) (N := 8) hs8 (by decide)
    rw [e1, if_neg (by decide)]
    -- the shelf takes what it may
    have put : ∀ (v : Int32) (w : Int32) (b : Int32), (p2 = -1 → b = 0) → (p2 ≠ -1 → b = 1) → (∀ σ' : PH, gI σ' 89 s = v → gI σ' 92 s = p2 → gI σ' (14 + 2 * s) 0 = p2 → Shl (cN c) σ' s) → (∀ σ1, f_X9_show σ1 (nI s) p2 = j_X9_show_42 σ1 (nI s) p2 v ∨ Fr (fun r _ => r = 14 + 2 * s) σ σ1 → f_X9_show σ1 (nI s) p2 = j_X9_show_42 σ1 (nI s) p2 v) → Rt (j_X8_show_32 σ (nI s) p2) (fun u => Rt (f_X9_show u.2 (nI s) p2) (fun v => u.1 = v.1 ∧ Inv v.2 d)) := by
      intro v w b b0 b1 hS hY
      unfold j_X8_show_32
      rw [chk_t c8, bnd_d, bnd_d, cl8 hs8]
      have F1 : Fr (fun r _ => r = 14 + 2 * s) σ (putI σ (14 + 2 * s) 0 p2) := Fr.pI rfl
      have a1 : gI (putI σ (14 + 2 * s) 0 p2) (14 + 2 * s) 0 = p2 := gI_put_eq
      generalize putI σ (14 + 2 * s) 0 p2 = σ1 at *
      have F3 : Fr (WS s) σ (putI (putI σ1 89 s v) 92 s p2) := ((F1.mono (fun r k z => by unfold WS; omega)).tr (Fr.pI (by unfold WS; omega))).tr (Fr.pI (by unfold WS; omega))
      have I2 : InA 0 c r hs tr sd (putI (putI σ1 89 s v) 92 s p2) d := I.shl hs8 F3 (hS _ (by rw [gI_put_ne (by omega), gI_put_eq]) gI_put_eq (by rw [gI_put_ne (by omega), gI_put_ne (by omega)]; exact a1))
      have e : f_X9_show σ1 (nI s) p2 = if p2 = (-1) then (some (0, putI (putI σ1 89 s v) 92 s p2)) else (some (1, putI (putI σ1 89 s v) 92 s p2)) := by
        rw [hY σ1 (Or.inr F1)]
        unfold j_X9_show_42
        rw [chk_t c8, bnd_d, chk_t c8, bnd_d, nI_clamp (by omega)]
      by_cases q : p2 = -1
      · rw [if_pos q]
        refine Rt.s ?_
        dsimp only
        rw [e, if_pos q]
        exact Rt.s ⟨rfl, I2.inv⟩
      · rw [if_neg q]
        refine Rt.s ?_
        dsimp only
        rw [e, if_neg q]
        exact Rt.s ⟨rfl, I2.inv⟩
    by_cases q : p2 = -1
    · rw [if_pos q]
      refine put 0 0 0 (fun _ => rfl) (fun z => absurd q z) (fun σ' g1 g2 g3 => Or.inl ⟨g1, by rw [g3, q]⟩) (fun σ1 _ => ?_)
      unfold f_X9_show j_X9_show_27
      rw [bnd_d, e2, if_neg (by decide), if_pos q, if_pos q]
    · rw [if_neg q]
      rcases f0_has ok I.2.2.1.1.1 p2 with ⟨q1, q2⟩ | ⟨q1, x, hx, rfl⟩
      · rw [q1, if_pos rfl]
        refine rf1 I (fun s => f_X9_show s _ _) (fun σ1 I1 _ => ?_)
        unfold f_X9_show
        rw [bnd_d, e2, if_neg (by decide), if_neg q, bnd_d]
        rcases f9_isSinger ok I1.2.2.2.1.1 p2 with ⟨q3, -⟩ | ⟨-, x, hx, e⟩
        · rw [q3, if_pos rfl]
        · exact absurd e (q2 x hx)
      · rw [q1, if_neg (by decide)]
        refine put 2 0 1 (fun z => absurd z q) (fun _ => rfl) (fun σ' g1 g2 g3 => Or.inr (Or.inr ⟨g1, x, hx, g2, g3⟩)) (fun σ1 hF => ?_)
        rcases hF with h | F1
        · exact h
        · have hM : MC c σ1 := I.2.2.2.1.1.fr F1 (fun r k z => by omega)
          unfold f_X9_show j_X9_show_27
          rw [bnd_d, e2, if_neg (by decide), if_neg q, bnd_d]
          rcases f9_isSinger ok hM (nI x) with ⟨-, q3⟩ | ⟨q3, -⟩
          · exact absurd rfl (q3 x hx)
          · rw [q3, if_neg (by decide), if_neg q]
end SH
