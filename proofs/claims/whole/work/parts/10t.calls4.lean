section U1
variable {j : Nat} {c : CV} {r : Nat → Nat} {hs : HS} {tr : Nat} {sd : Int32} {σ σ' : PH} {d : PD}
theorem st_image (σ : PH) (d : PD) (hI : Inv σ d) : ∃ (u v : Int32 × PH), f_X8_image σ d = u ∧ f_X9_image u.2 = some v ∧ u.1 = v.1 ∧ Inv v.2 d := by
  obtain ⟨c, r, hs, tr, sd, I⟩ := hI
  have hd := I.1.1
  have n8 := I.n8
  obtain ⟨X64, F1⟩ := f2_copyOf (h := 64) (h2 := d.1) (by unfold Hls at hd; omega) I.2.1 I.2.2.1
  have e : f_X8_image σ d = (gI (putI (f_X2_copyOf σ 64 d.1) 0 9 1) (d.1 + 1) 5, putI (f_X2_copyOf σ 64 d.1) 0 9 1) := by
    unfold f_X8_image
    rw [bnd_d, bnd_d]
  have F2 : Fr (fun r k => r = 0 ∧ k = 9) (f_X2_copyOf σ 64 d.1) (putI (f_X2_copyOf σ 64 d.1) 0 9 1) := Fr.pI ⟨rfl, rfl⟩
  have a9 : gI (putI (f_X2_copyOf σ 64 d.1) 0 9 1) 0 9 = 1 := gI_put_eq
  generalize putI (f_X2_copyOf σ 64 d.1) 0 9 1 = σ1 at *
  generalize f_X2_copyOf σ 64 d.1 = σ0 at *
  have F3 : Fr (fun r k => r = 81 ∧ k = 44) σ1 (putI σ1 81 44 1) := Fr.pI ⟨rfl, rfl⟩
  have a44 : gI (putI σ1 81 44 1) 81 44 = 1 := gI_put_eq
  have hF : Fr (fun r k => (64 ≤ r ∧ r ≤ 80) ∨ (r = 0 ∧ k = 9) ∨ (r = 81 ∧ k = 44)) σ (putI σ1 81 44 1) := ((F1.mono (fun r k z => by unfold WH at z; omega)).tr (F2.mono (fun r k z => by omega))).tr (F3.mono (fun r k z => by omega))
  have M2 : MHl c r hs tr sd (putI σ1 81 44 1) := I.2.2.2.1.fr hF (fun r k z => by unfold WM; omega)
  have n5 : gI σ1 (d.1 + 1) 5 = nI (cN c) := by
    rw [F2.I (by omega), F1.I (by unfold WH; unfold Hls at hd; omega)]; exact I.xc.1
  obtain ⟨σ3, h3, K3, F4⟩ := f9_all_s (A := 99) (Or.inr rfl) n8 I.2.1.2.2.1 M2
  refine ⟨_, (gI σ3 81 0, σ3), e, ?_, ?_, ?_⟩
  · unfold f_X9_image
    dsimp only
    rw [bnd_d, h3, obd_s]
  · dsimp only
    rw [F4.I (by omega), n5, M2.1.1]
  · dsimp only
    have FF : Fr (fun r k => (64 ≤ r ∧ r ≤ 80) ∨ (r = 0 ∧ k = 9) ∨ (r = 81 ∧ k = 44) ∨ r = 99) σ σ3 := (hF.mono (fun r k z => by omega)).tr (F4.mono (fun r k z => by omega))
    obtain ⟨⟨-, hR, hFt, hV, hC, -⟩, v, X, M, hS⟩ := I
    refine InA.inv (c := c) (r := r) (hs := hs) (tr := tr) (sd := sd) ⟨⟨hd, fun k h1 h7 => ?_, ?_, ⟨?_, fun i hi => ?_⟩, ⟨fun k hk => ?_, fun k hk => ?_⟩, Or.inr ⟨?_, ?_, c, r, hs, tr, sd, v, ?_, K3⟩⟩, v, X.fr FF (fun r k z => by unfold Hls at hd; omega), M.fr FF (fun r k z => by unfold WM; omega), fun s hs => (hS s hs).fr hs (Nat.le_refl _) FF (fun r k z => by omega)⟩
    · rw [FF.I (by omega), FF.I (by omega)]; exact hR k h1 h7
    · rw [FF.I (by omega), FF.I (by omega)]; exact hFt
    · rw [FF.I (by omega), FF.I (by omega)]; exact hV.1
    · rw [FF.I (by omega), FF.I (by omega)]; exact hV.2 i hi
    · rw [FF.I (by omega)]; exact hC.1 k hk
    · rw [FF.I (by omega)]; exact hC.2 k hk
    · rw [F4.I (by omega), F3.I (by omega), a9]; decide
    · rw [F4.I (by omega), a44]; decide
    · exact ((X64.fr F2 (fun r k z => by omega)).fr F3 (fun r k z => by omega)).fr F4 (fun r k z => by omega)
theorem has_neg {h : Nat} (σ : PH) {p : Int32} (hp : p < 0) : f_X0_has σ h p = 0 := by
  unfold f_X0_has
  rw [if_pos hp]
/-- a shelf behind a change of the number of singers, on each side -/
theorem st_restore (σ : PH) (d : PD) (hI : Inv σ d) : ∃ (u v : Int32 × PH), f_X8_restore σ d = some u ∧ f_X9_restore u.2 = some v ∧ u.1 = v.1 ∧ Inv v.2 d := by
  obtain ⟨c0, r0, hs0, tr0', sd0, I⟩ := hI
  have hd := I.1.1
  have n80 := I.n8
  refine two (y := fun s => f_X9_restore s) ?_
  unfold f_X8_restore
  rcases I.1.2.2.2.2.2 with ⟨h1, h2⟩ | ⟨h1, h2, c, r, hs, tr, sd, v, X64, K99⟩
  · rw [if_pos h1]
    refine rf6 I (fun s => f_X9_restore s) (fun σ1 _ F => ?_)
    unfold f_X9_restore
    rw [F.I (by omega), if_pos h2]
  · rw [if_neg h1, bnd_d]
    have n8 := v.1.1
    obtain ⟨X1, F1⟩ := f2_copyOf (h := d.1) (h2 := 64) (by unfold Hls at hd; omega) v X64
    generalize f_X2_copyOf σ d.1 64 = σ1 at *
    -- the class's shelves
    refine lp_acc (enc := fun (a : PH) (i : Nat) => ((nI i, a) : Int32 × PH)) 8 (fun a i => Fr (fun r k => 14 ≤ r ∧ r ≤ 28 ∧ r % 2 = 0 ∧ k = 0) σ1 a ∧ (∀ s, s < i → gI a (14 + 2 * s) 0 = if gI σ 89 s = 2 then (if gI σ 92 s < nI (cN c) then gI σ (14 + 2 * s) 0 else -1) else gI σ (14 + 2 * s) 0) ∧ (∀ s, i ≤ s → s < 8 → gI a (14 + 2 * s) 0 = gI σ (14 + 2 * s) 0)) _ ?_ ?_ FU σ1 0 (Nat.zero_le _) (FU_big (by decide)) ⟨Fr.rf, fun s hs => absurd hs (Nat.not_lt_zero s), fun s _ hs => F1.I (by unfold WH; unfold Hls at hd; omega)⟩
    · rintro rec a i hi ⟨hF, hA, hB⟩ hrec
      have c8 := inb_nI (k := i) (N := 8) hi (by decide)
      dsimp only [b_X8_restore_27, bnd]
      have Xa : XC c a d.1 := X1.1.1.fr hF (fun r k z => by unfold Hls at hd; omega)
      rw [nI_1, cl8 hi]
      have keep : gI a (14 + 2 * i) 0 = (if gI σ 89 i = 2 then (if gI σ 92 i < nI (cN c) then gI σ (14 + 2 * i) 0 else -1) else gI σ (14 + 2 * i) 0) → Rt (rec (nI (i + 1), a)) _ := fun e => hrec a ⟨hF, fun s hs => by
          rcases Nat.lt_or_eq_of_le (Nat.le_of_lt_succ hs) with hlt | rfl
          · exact hA s hlt
          · exact e, fun s hs hs8 => hB s (by omega) hs8⟩
      have put : (-1 : Int32) = (if gI σ 89 i = 2 then (if gI σ 92 i < nI (cN c) then gI σ (14 + 2 * i) 0 else -1) else gI σ (14 + 2 * i) 0) → Rt (rec (nI (i + 1), putI a (14 + 2 * i) 0 (-1))) _ := fun e => hrec _ ⟨hF.tr (Fr.pI (by omega)), fun s hs => by
          rcases Nat.lt_or_eq_of_le (Nat.le_of_lt_succ hs) with hlt | rfl
          · rw [gI_put_ne (by omega)]; exact hA s hlt
          · rw [gI_put_eq]; exact e, fun s hs hs8 => by rw [gI_put_ne (by omega)]; exact hB s (by omega) hs8⟩
      refine Rt.f (by rw [i_8, nI_leI (by decide) (by omega)]; omega) (Rt.c c8 ?_)
      have e0 : gI a (14 + 2 * i) 0 = gI σ (14 + 2 * i) 0 := hB i (Nat.le_refl _) hi
      unfold f_X4_holdsRow
      rw [e0] at keep ⊢
      rcases I.2.2.2.2 i hi with ⟨g0, g1⟩ | ⟨g0, o, z, ho, hz, g2, g3, g4, g5, g6⟩ | ⟨g0, x, hx, g1, g2⟩
      · rw [g1, if_pos (by decide)]
        refine Rt.c c8 ?_
        rw [has_neg a (by decide)]
        refine Rt.t rfl (Rt.c c8 (put ?_))
        rw [g0, if_neg (by decide), g1]
      · rw [g4, if_neg (show ¬ nI (100 + o) < 100 by rw [i_100, nI_ltI (by omega) (by decide)]; omega)]
        refine Rt.f (by decide) (keep ?_)
        rw [g0, if_neg (by decide), g4]
      · have hx0 := I.n8
        rw [g2, if_pos (show nI x < 100 by rw [i_100]; exact nI_lt (by omega) (by decide))]
        refine Rt.t rfl (Rt.c c8 ?_)
        rcases f0_has v.1 Xa (nI x) with ⟨q, hn⟩ | ⟨q, x', hx', e⟩
        · rw [q]
          refine Rt.t rfl (Rt.c c8 (put ?_))
          rw [g0, if_pos rfl, g1, if_neg]
          rw [nI_ltI (by omega) (by omega)]
          intro z
          exact hn x z rfl
        · rw [nI_eq (by omega) (by omega)] at e
          subst e
          rw [q]
          refine Rt.f (by decide) (keep ?_)
          rw [g0, if_pos rfl, g1, if_pos (nI_lt hx' (by omega)), g2]
    · rintro rec a ⟨hF, hA, -⟩
      dsimp only [b_X8_restore_27, bnd, j_X8_restore_83]
      refine Rt.t (by rw [i_8]; exact nI_le (Nat.le_refl _) (by decide)) (Rt.s ?_)
      have Xa : XH c r hs tr sd a d.1 := X1.fr hF (fun r k z => by unfold Hls at hd; omega)
      have FA : Fr (fun r k => WH d.1 r k ∨ (14 ≤ r ∧ r ≤ 28 ∧ r % 2 = 0 ∧ k = 0)) σ a := (F1.mono (fun r k z => Or.inl z)).tr (hF.mono (fun r k z => Or.inr z))
      have K1 : MK 99 c r hs tr sd a := K99.fr FA (fun k z => by unfold WH at z; unfold Hls at hd; omega)
      dsimp only
      rw [Xa.1.1.1]
      unfold f_X9_restore
      rw [FA.I (r := 81) (k := 44) (by unfold WH; unfold Hls at hd; omega), if_neg h2]
      refine Rt.o (f9_all_b (A := 99) (Or.inr rfl) n8 v.2.2.1 K1) ?_
      rintro σ3 ⟨M3, F3⟩
      have FB : Fr (fun r k => WH d.1 r k ∨ (14 ≤ r ∧ r ≤ 28 ∧ r % 2 = 0 ∧ k = 0) ∨ WM r k) σ σ3 := (FA.mono (fun r k z => z.elim Or.inl (fun q => Or.inr (Or.inl q)))).tr (F3.mono (fun r k z => Or.inr (Or.inr z)))
      refine lp_acc (enc := fun (b : PH) (i : Nat) => ((nI i, b) : Int32 × PH)) 8 (fun b i => Fr (fun r _ => r = 89) σ3 b ∧ (∀ s, s < i → gI b 89 s = if gI σ 89 s = 2 then (if gI σ 92 s < nI (cN c) then 2 else 0) else gI σ 89 s) ∧ (∀ s, i ≤ s → s < 8 → gI b 89 s = gI σ 89 s)) _ ?_ ?_ FU σ3 0 (Nat.zero_le _) (FU_big (by decide)) ⟨Fr.rf, fun s hs => absurd hs (Nat.not_lt_zero s), fun s _ hs => FB.I (by unfold WH WM; unfold Hls at hd; omega)⟩
      · rintro rec b i hi ⟨gF, gA, gB⟩ hrec
        have c8 := inb_nI (k := i) (N := 8) hi (by decide)
        dsimp only [b_X9_restore_25, bnd]
        rw [nI_1, nI_clamp (by omega), gB i (Nat.le_refl _) hi, gF.I (r := 92) (by omega), gF.I (r := 81) (by omega), M3.1.1, FB.I (r := 92) (by unfold WH WM; unfold Hls at hd; omega)]
        have keep : gI σ 89 i = (if gI σ 89 i = 2 then (if gI σ 92 i < nI (cN c) then 2 else 0) else gI σ 89 i) → Rt (rec (nI (i + 1), b)) _ := fun e => hrec b ⟨gF, fun s hs => by
          rcases Nat.lt_or_eq_of_le (Nat.le_of_lt_succ hs) with hlt | rfl
          · exact gA s hlt
          · rw [gB s (Nat.le_refl _) hi]; exact e, fun s hs hs8 => gB s (by omega) hs8⟩
        refine Rt.f (by rw [i_8, nI_leI (by decide) (by omega)]; omega) (Rt.c c8 (Rt.i (fun e2 => Rt.c c8 (Rt.i (fun e3 => keep ?_) (fun e3 => Rt.c c8 (hrec _ ⟨gF.tr (Fr.pI rfl), fun s hs => ?_, fun s hs hs8 => ?_⟩)))) (fun e2 => keep ?_)))
        · rw [if_pos e2, if_pos e3]; exact e2
        · rcases Nat.lt_or_eq_of_le (Nat.le_of_lt_succ hs) with hlt | rfl
          · rw [gI_put_ne (by omega)]; exact gA s hlt
          · rw [gI_put_eq, if_pos e2, if_neg e3]
        · rw [gI_put_ne (by omega)]; exact gB s (by omega) hs8
        · rw [if_neg e2]
      · rintro rec b ⟨gF, gA, -⟩
        dsimp only [b_X9_restore_25, bnd]
        refine Rt.t (by rw [i_8]; exact nI_le (Nat.le_refl _) (by decide)) (Rt.s ⟨?_, ?_⟩)
        · dsimp only
          rw [gF.I (by omega), M3.1.1]
        · dsimp only
          have FC : Fr (fun r k => WH d.1 r k ∨ (14 ≤ r ∧ r ≤ 28 ∧ r % 2 = 0 ∧ k = 0) ∨ WM r k ∨ r = 89) σ b := (FB.mono (fun r k z => by rcases z with z | z | z; exact Or.inl z; exact Or.inr (Or.inl z); exact Or.inr (Or.inr (Or.inl z)))).tr (gF.mono (fun r k z => Or.inr (Or.inr (Or.inr z))))
          have N : ∀ r k, (r ≤ 13 ∨ (r = 81 ∧ 8 ≤ k) ∨ r = 82 ∨ 90 ≤ r ∨ (14 ≤ r ∧ r ≤ 29 ∧ (k ≠ 0 ∨ r % 2 = 1)) ∨ (64 ≤ r ∧ r ≤ 80)) → ¬ (WH d.1 r k ∨ (14 ≤ r ∧ r ≤ 28 ∧ r % 2 = 0 ∧ k = 0) ∨ WM r k ∨ r = 89) := fun r k z => by
            unfold WH WM; unfold Hls at hd; omega
          obtain ⟨⟨-, hR, hFt, hV, hC, -⟩, -, -, -, hS⟩ := I
          refine InA.inv (c := c) (r := r) (hs := hs) (tr := tr) (sd := sd) ⟨⟨hd, fun k h1 h7 => ?_, ?_, ⟨?_, fun i hi => ?_⟩, ⟨fun k hk => ?_, fun k hk => ?_⟩, Or.inr ⟨?_, ?_, c, r, hs, tr, sd, v, ?_, ?_⟩⟩, v, ?_, ?_, fun s hs8 => ?_⟩
          · rw [FC.I (N _ _ (by omega)), FC.I (N _ _ (by omega))]; exact hR k h1 h7
          · rw [FC.I (N _ _ (by omega)), FC.I (N _ _ (by omega))]; exact hFt
          · rw [FC.I (N _ _ (by omega)), FC.I (N _ _ (by omega))]; exact hV.1
          · rw [FC.I (N _ _ (by omega)), FC.I (N _ _ (by omega))]; exact hV.2 i hi
          · rw [FC.I (N _ _ (by omega))]; exact hC.1 k hk
          · rw [FC.I (N _ _ (by omega))]; exact hC.2 k hk
          · rw [FC.I (N _ _ (by omega))]; exact h1
          · rw [FC.I (N _ _ (by omega))]; exact h2
          · exact X64.fr FC (fun r k z hz => N r k (by omega) z)
          · exact K99.fr FC (fun k => N _ _ (by omega))
          · exact (Xa.fr F3 (fun r k z => by unfold WM at z; unfold Hls at hd; omega)).fr gF (fun r k z => by unfold Hls at hd; omega)
          · exact M3.fr gF (fun r k z => by unfold WM; omega)
          · have b14 : gI b (14 + 2 * s) 0 = gI a (14 + 2 * s) 0 := by rw [gF.I (by omega), F3.I (by unfold WM; omega)]
            have h89 := gA s hs8
            have h14 := hA s hs8
            unfold Shl
            rw [h89, b14, h14, FC.I (r := 90) (N _ _ (by omega)), FC.I (r := 91) (N _ _ (by omega)), FC.I (r := 92) (N _ _ (by omega)), FC.I (r := 14 + 2 * s) (k := 1) (N _ _ (by omega))]
            rcases hS s hs8 with ⟨g0, g1⟩ | ⟨g0, o, z, ho, hz, g2, g3, g4, g5, g6⟩ | ⟨g0, x, hx, g1, g2⟩
            · refine Or.inl ⟨?_, ?_⟩
              · rw [g0, if_neg (by decide)]
              · rw [g0, if_neg (by decide)]; exact g1
            · refine Or.inr (Or.inl ⟨?_, o, z, ho, hz, g2, g3, ?_, g5, fun i hi => ?_⟩)
              · rw [g0, if_neg (by decide)]
              · rw [g0, if_neg (by decide)]; exact g4
              · rw [FC.J (N _ _ (by omega)), FC.J (N _ _ (by omega))]; exact g6 i hi
            · rw [g0, if_pos rfl, if_pos rfl, g1]
              by_cases hl : nI x < nI (cN c)
              · rw [if_pos hl, if_pos hl]
                refine Or.inr (Or.inr ⟨rfl, x, ?_, rfl, g2⟩)
                by_cases hx2 : x < cN c
                · exact hx2
                · exfalso
                  rw [nI_ltI (by omega) (by omega)] at hl
                  exact hx2 hl
              · rw [if_neg hl, if_neg hl]
                exact Or.inl ⟨rfl, rfl⟩
end U1
