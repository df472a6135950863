/-! the reference's state -/
def MHl (c : CV) (r : Nat → Nat) (hs : HS) (tr : Nat) (sd : Int32) (σ : PH) : Prop := MC c σ ∧ (∀ k, k < 4 → gI σ 81 (1 + k) = nI (r k)) ∧ MH hs σ ∧ gI σ 81 6 = nI tr ∧ gI σ 81 7 = sd
def WM : Nat → Nat → Prop := fun r k => (r = 81 ∧ k < 8) ∨ (83 ≤ r ∧ r ≤ 88)
theorem MHl.fr {c : CV} {r : Nat → Nat} {hs : HS} {tr : Nat} {sd : Int32} {σ σ' : PH} {W : Nat → Nat → Prop} (hM : MHl c r hs tr sd σ) (f : Fr W σ σ') (hW : ∀ r k, W r k → ¬ WM r k) : MHl c r hs tr sd σ' := by
  have N : ∀ r k, WM r k → ¬ W r k := fun r k h z => hW r k z h
  refine ⟨hM.1.fr f (fun r k z => by have := hW r k z; unfold WM at this; omega), fun k hk => ?_, ⟨?_, fun k hk => ⟨?_, ?_⟩⟩, ?_, ?_⟩
  · rw [f.I (N _ _ (by unfold WM; omega))]; exact hM.2.1 k hk
  · rw [f.I (N _ _ (by unfold WM; omega))]; exact hM.2.2.1.1
  · rw [f.I (N _ _ (by unfold WM; omega))]; exact (hM.2.2.1.2 k hk).1
  · rw [f.I (N _ _ (by unfold WM; omega))]; exact (hM.2.2.1.2 k hk).2
  · rw [f.I (N _ _ (by unfold WM; omega))]; exact hM.2.2.2.1
  · rw [f.I (N _ _ (by unfold WM; omega))]; exact hM.2.2.2.2
section M9
variable {c : CV} {r : Nat → Nat} {hs : HS} {tr : Nat} {sd : Int32} {σ : PH}
theorem f9_anew (ok : CVok c) (hC : MC c σ) (hR : ∀ k, k < 4 → gI σ 81 (1 + k) = nI (r k)) (h7 : gI σ 81 7 = sd) : MHl c r [] (tr0 (cN c)) sd (f_X9_anew σ) ∧ Fr (fun r k => r = 81 ∧ (k = 5 ∨ k = 6)) σ (f_X9_anew σ) := by
  have h8 := ok.1
  unfold f_X9_anew
  dsimp only [bnd]
  rw [hC.1]
  have fin : ∀ (v : Int32), v = nI (tr0 (cN c)) → MHl c r [] (tr0 (cN c)) sd (putI (putI σ 81 6 v) 81 5 0) ∧ Fr (fun r k => r = 81 ∧ (k = 5 ∨ k = 6)) σ (putI (putI σ 81 6 v) 81 5 0) := by
    intro v hv
    have F : Fr (fun r k => r = 81 ∧ (k = 5 ∨ k = 6)) σ (putI (putI σ 81 6 v) 81 5 0) := (Fr.pI (by omega)).tr (Fr.pI (by omega))
    refine ⟨⟨hC.fr F (fun r k z => by omega), fun k hk => ?_, ⟨gI_put_eq, fun k hk => absurd hk (Nat.not_lt_zero k)⟩, ?_, ?_⟩, F⟩
    · rw [F.I (by omega)]; exact hR k hk
    · rw [gI_put_ne (Or.inr (by decide)), gI_put_eq]; exact hv
    · rw [F.I (by omega)]; exact h7
  by_cases e : cN c = 0
  · rw [if_pos (by rw [e]; rfl)]
    exact fin 0 (by unfold tr0; rw [if_pos e]; rfl)
  · rw [if_neg (by rw [i_0, nI_eq (by omega) (by omega)]; exact e)]
    exact fin 1 (by unfold tr0; rw [if_neg e]; rfl)
theorem f9_adds (ok : CVok c) (hM : MHl c r hs tr sd σ) (h7 : cN c < 8) {k a o : Nat} (hk : k ≤ 6) (ha : a ≤ 9) (ho : 1 ≤ o) (ho2 : o ≤ 9) : Rt (f_X9_adds σ (nI k) (nI a) (nI o)) (fun u => u.1 = nI (cN c) ∧ MHl (adC c k a o) r [] (tr0 (cN c + 1)) sd u.2 ∧ Fr WM σ u.2) := by
  obtain ⟨hC, hR, -, -, hsd⟩ := hM
  have e8 : inb (nI (cN c)) 8 = true := inb_nI h7 (by decide)
  have ne : ∀ (σ : PH) (i j : Nat) (v : Int32), i ≠ 81 → gI (putI σ i j v) 81 0 = gI σ 81 0 := fun σ i j v hi => gI_put_ne (Or.inl (fun z => hi z.symm))
  unfold f_X9_adds
  dsimp only [bnd]
  rw [hC.1, nI_clamp (by omega), ne _ 83 _ _ (by decide), hC.1, nI_clamp (by omega), ne _ 84 _ _ (by decide), ne _ 83 _ _ (by decide), hC.1, nI_clamp (by omega), ne _ 85 _ _ (by decide), ne _ 84 _ _ (by decide), ne _ 83 _ _ (by decide), hC.1, nI_clamp (by omega), ne _ 86 _ _ (by decide), ne _ 85 _ _ (by decide), ne _ 84 _ _ (by decide), ne _ 83 _ _ (by decide), hC.1, nI_1]
  refine Rt.c e8 (Rt.c e8 (Rt.c e8 (Rt.c e8 ?_)))
  have F1 : Fr WM σ (putI (putI (putI (putI (putI σ 83 (cN c) (nI k)) 84 (cN c) (nI a)) 85 (cN c) (nI o)) 86 (cN c) (nI (cN c))) 81 0 (nI (cN c + 1))) := ((((Fr.pI (by unfold WM; omega)).tr (Fr.pI (by unfold WM; omega))).tr (Fr.pI (by unfold WM; omega))).tr (Fr.pI (by unfold WM; omega))).tr (Fr.pI (by unfold WM; omega))
  have hC1 : MC (adC c k a o) (putI (putI (putI (putI (putI σ 83 (cN c) (nI k)) 84 (cN c) (nI a)) 85 (cN c) (nI o)) 86 (cN c) (nI (cN c))) 81 0 (nI (cN c + 1))) := by
    refine ⟨gI_put_eq, fun i hi => ?_⟩
    have hi' : i < cN c + 1 := hi
    show gI _ 83 i = nI (if i = cN c then k else cK c i) ∧ gI _ 84 i = nI (if i = cN c then a else cA_ c i) ∧ gI _ 85 i = nI (if i = cN c then o else cO c i) ∧ gI _ 86 i = nI (if i = cN c then cN c else cP c i)
    by_cases e : i = cN c
    · subst e
      rw [if_pos rfl, if_pos rfl, if_pos rfl, if_pos rfl]
      refine ⟨?_, ?_, ?_, ?_⟩
      · rw [gI_put_ne (by omega), gI_put_ne (by omega), gI_put_ne (by omega), gI_put_ne (by omega), gI_put_eq]
      · rw [gI_put_ne (by omega), gI_put_ne (by omega), gI_put_ne (by omega), gI_put_eq]
      · rw [gI_put_ne (by omega), gI_put_ne (by omega), gI_put_eq]
      · rw [gI_put_ne (by omega), gI_put_eq]
    · rw [if_neg e, if_neg e, if_neg e, if_neg e]
      obtain ⟨q1, q2, q3, q4⟩ := hC.2 i (by omega)
      refine ⟨?_, ?_, ?_, ?_⟩
      · rw [gI_put_ne (by omega), gI_put_ne (by omega), gI_put_ne (by omega), gI_put_ne (by omega), gI_put_ne (by omega)]; exact q1
      · rw [gI_put_ne (by omega), gI_put_ne (by omega), gI_put_ne (by omega), gI_put_ne (by omega), gI_put_ne (by omega)]; exact q2
      · rw [gI_put_ne (by omega), gI_put_ne (by omega), gI_put_ne (by omega), gI_put_ne (by omega), gI_put_ne (by omega)]; exact q3
      · rw [gI_put_ne (by omega), gI_put_ne (by omega), gI_put_ne (by omega), gI_put_ne (by omega), gI_put_ne (by omega)]; exact q4
  have g : ∀ k, 0 < k → gI (putI (putI (putI (putI (putI σ 83 (cN c) (nI k)) 84 (cN c) (nI a)) 85 (cN c) (nI o)) 86 (cN c) (nI (cN c))) 81 0 (nI (cN c + 1))) 81 k = gI σ 81 k := fun k hk => by
    rw [gI_put_ne (by omega), gI_put_ne (by omega), gI_put_ne (by omega), gI_put_ne (by omega), gI_put_ne (by omega)]
  have gR : ∀ j, j < 4 → gI (putI (putI (putI (putI (putI σ 83 (cN c) (nI k)) 84 (cN c) (nI a)) 85 (cN c) (nI o)) 86 (cN c) (nI (cN c))) 81 0 (nI (cN c + 1))) 81 (1 + j) = nI (r j) := fun j hj => by
    rw [gI_put_ne (by omega), gI_put_ne (by omega), gI_put_ne (by omega), gI_put_ne (by omega), gI_put_ne (by omega)]; exact hR j hj
  have g7 : gI (putI (putI (putI (putI (putI σ 83 (cN c) (nI k)) 84 (cN c) (nI a)) 85 (cN c) (nI o)) 86 (cN c) (nI (cN c))) 81 0 (nI (cN c + 1))) 81 7 = sd := by
    rw [gI_put_ne (by omega), gI_put_ne (by omega), gI_put_ne (by omega), gI_put_ne (by omega), gI_put_ne (by omega)]; exact hsd
  generalize putI (putI (putI (putI (putI σ 83 (cN c) (nI k)) 84 (cN c) (nI a)) 85 (cN c) (nI o)) 86 (cN c) (nI (cN c))) 81 0 (nI (cN c + 1)) = σ1 at *
  obtain ⟨m1, m2⟩ := f9_anew (adC_ok ok h7 hk ha ho ho2) hC1 gR g7
  refine Rt.s ⟨?_, m1, F1.tr (m2.mono (fun r k z => by unfold WM; omega))⟩
  dsimp only
  rw [m2.I (by omega), hC1.1]
  exact nI_pred (cN c)
theorem f9_changes (ok : CVok c) (hC : MC c σ) {x y : Nat} (hx : x < cN c) (hy : y < cN c) : Rt (f_X9_changes σ (nI x) (nI y)) (fun u => MC (swC c x y) u ∧ Fr (fun r _ => r = 86) σ u) := by
  have h8 := ok.1
  have ex : inb (nI x) 8 = true := inb_nI (by omega) (by decide)
  have ey : inb (nI y) 8 = true := inb_nI (by omega) (by decide)
  unfold f_X9_changes
  dsimp only [bnd]
  rw [nI_clamp (by omega), nI_clamp (by omega), (hC.2 x hx).2.2.2, (hC.2 y hy).2.2.2]
  refine Rt.c ex (Rt.c ey (Rt.c ex (Rt.c ey (Rt.s ⟨⟨?_, fun i hi => ?_⟩, (Fr.pI (W := fun r _ => r = 86) rfl).tr (Fr.pI rfl)⟩))))
  · rw [gI_put_ne (Or.inl (by decide)), gI_put_ne (Or.inl (by decide))]; exact hC.1
  · have hi' : i < cN c := hi
    obtain ⟨q1, q2, q3, q4⟩ := hC.2 i hi'
    refine ⟨?_, ?_, ?_, ?_⟩
    · rw [gI_put_ne (Or.inl (by decide)), gI_put_ne (Or.inl (by decide))]; exact q1
    · rw [gI_put_ne (Or.inl (by decide)), gI_put_ne (Or.inl (by decide))]; exact q2
    · rw [gI_put_ne (Or.inl (by decide)), gI_put_ne (Or.inl (by decide))]; exact q3
    · rw [swC_P]
      by_cases i2 : i = y
      · subst i2
        rw [gI_put_eq]
        by_cases i1 : i = x
        · subst i1; rw [if_pos rfl]
        · rw [if_neg i1, if_pos rfl]
      · rw [gI_put_ne (Or.inr i2)]
        by_cases i1 : i = x
        · subst i1; rw [gI_put_eq, if_pos rfl]
        · rw [gI_put_ne (Or.inr i1), if_neg i1, if_neg i2]; exact q4
theorem f9_isKnown (hok : HSok (cN c) hs) (h8 : cN c ≤ 8) (hH : MH hs σ) {s y : Nat} (hs' : s < 256) (hy : y < 2) : f_X9_isKnown σ (nI s) (nI y) = some (oI (knC hs s y)) := by
  have h16 := hok.1
  have h9 := p2_9 h8
  unfold f_X9_isKnown
  apply Rt.q
  refine lp_acc (enc := fun (_ : Unit) (i : Nat) => nI i) hs.length (fun _ i => ∀ k, k < i → decide ((hsD hs k).1 = s ∧ (hsD hs k).2 = y) = false) _ ?_ ?_ FU () 0 (Nat.zero_le _) (FU_big (by omega)) (fun k hk => absurd hk (Nat.not_lt_zero k))
  · intro rec a i hi hJ hrec
    obtain ⟨q0, q1, q2⟩ := hok.2 _ (hsD_mem hi)
    have e16 : inb (nI i) 16 = true := inb_nI (by omega) (by decide)
    dsimp only [b_X9_isKnown_2, bnd]
    rw [hH.1, nI_clamp (by omega), (hH.2 i hi).1, (hH.2 i hi).2, nI_1]
    have next : decide ((hsD hs i).1 = s ∧ (hsD hs i).2 = y) = false → Rt (rec (nI (i + 1))) (fun u => u = oI (knC hs s y)) := fun e => hrec () (fun k hk => by
      rcases Nat.lt_or_eq_of_le (Nat.le_of_lt_succ hk) with hlt | rfl
      · exact hJ k hlt
      · exact e)
    refine Rt.f (by rw [nI_leI (by omega) (by omega)]; omega) (Rt.c e16 (Rt.i (fun e => ?_) (fun e => next (decide_eq_false (fun z => e (by rw [z.1]))))))
    rw [nI_eq (by omega) (by omega)] at e
    refine Rt.c e16 (Rt.i (fun e2 => ?_) (fun e2 => next (decide_eq_false (fun z => e2 (by rw [z.2])))))
    rw [nI_eq (by omega) (by omega)] at e2
    have : knC hs s y = true := List.any_eq_true.mpr ⟨_, hsD_mem hi, decide_eq_true ⟨e, e2⟩⟩
    rw [this]
    exact Rt.s rfl
  · intro rec a hJ
    dsimp only [b_X9_isKnown_2, bnd]
    rw [hH.1]
    refine Rt.t (nI_le (Nat.le_refl _) (by omega)) (Rt.s ?_)
    have : knC hs s y = false := hs_any.mpr hJ
    rw [this]; rfl
theorem f9_knows (hM : MHl c r hs tr sd σ) (hl : hs.length < 16) (s y : Nat) : Rt (f_X9_knows σ (nI s) (nI y)) (fun u => MHl c r (hs ++ [(s, y)]) tr sd u ∧ Fr (fun r k => (r = 81 ∧ k = 5) ∨ (r = 87 ∨ r = 88)) σ u) := by
  obtain ⟨hC, hR, hH, hT, hsd⟩ := hM
  have e16 : inb (nI hs.length) 16 = true := inb_nI hl (by decide)
  unfold f_X9_knows
  dsimp only [bnd]
  rw [hH.1, nI_clamp (by omega), gI_put_ne (r := 87) (q := 81) (Or.inl (by decide)), hH.1, nI_clamp (by omega), gI_put_ne (r := 88) (q := 81) (Or.inl (by decide)), gI_put_ne (r := 87) (q := 81) (Or.inl (by decide)), hH.1, nI_1]
  have F : Fr (fun r k => (r = 81 ∧ k = 5) ∨ (r = 87 ∨ r = 88)) σ (putI (putI (putI σ 87 hs.length (nI s)) 88 hs.length (nI y)) 81 5 (nI (hs.length + 1))) := ((Fr.pI (by omega)).tr (Fr.pI (by omega))).tr (Fr.pI (by omega))
  refine Rt.c e16 (Rt.c e16 (Rt.s ⟨⟨hC.fr F (fun r k z => by omega), fun k hk => ?_, ⟨?_, fun k hk => ?_⟩, ?_, ?_⟩, F⟩))
  · rw [F.I (by omega)]; exact hR k hk
  · rw [gI_put_eq, List.length_append]; rfl
  · rw [List.length_append, List.length_singleton] at hk
    rcases Nat.lt_or_eq_of_le (Nat.le_of_lt_succ hk) with hlt | rfl
    · rw [hsD_l hlt]
      refine ⟨?_, ?_⟩
      · rw [gI_put_ne (by omega), gI_put_ne (by omega), gI_put_ne (by omega)]; exact (hH.2 k hlt).1
      · rw [gI_put_ne (by omega), gI_put_ne (by omega), gI_put_ne (by omega)]; exact (hH.2 k hlt).2
    · rw [hsD_r]
      refine ⟨?_, ?_⟩
      · rw [gI_put_ne (by omega), gI_put_ne (by omega), gI_put_eq]
      · rw [gI_put_ne (by omega), gI_put_eq]
  · rw [F.I (by omega)]; exact hT
  · rw [F.I (by omega)]; exact hsd
/-- a rule becomes v -/
def rsR (r : Nat → Nat) (w v : Nat) : Nat → Nat := fun k => if k = w then v else r k
theorem f9_asks (ok : CVok c) (hM : MHl c r hs tr sd σ) {w v : Nat} (hw : w < 4) : (f_X9_asks σ (nI w) (nI v)).1 = nI (r w) ∧ (w = 0 → MHl c (rsR r 0 v) [] (tr0 (cN c)) sd (f_X9_asks σ (nI w) (nI v)).2) ∧ (w ≠ 0 → MHl c (rsR r w v) hs tr sd (f_X9_asks σ (nI w) (nI v)).2) ∧ Fr WM σ (f_X9_asks σ (nI w) (nI v)).2 := by
  obtain ⟨hC, hR, hH, hT, hsd⟩ := hM
  have R1 : ∀ w, w < 4 → ∀ v : Nat, ∀ k, k < 4 → gI (putI σ 81 (1 + w) (nI v)) 81 (1 + k) = nI (rsR r w v k) := fun w _ v k hk => by
    unfold rsR
    by_cases e : k = w
    · subst e; rw [gI_put_eq, if_pos rfl]
    · rw [gI_put_ne (Or.inr (by omega)), if_neg e]; exact hR k hk
  have one : ∀ w, w < 4 → MHl c (rsR r w v) hs tr sd (putI σ 81 (1 + w) (nI v)) := fun w hw => by
    have F : Fr (fun r k => r = 81 ∧ k = 1 + w) σ (putI σ 81 (1 + w) (nI v)) := Fr.pI ⟨rfl, rfl⟩
    refine ⟨hC.fr F (fun r k z => by omega), R1 w hw v, ⟨?_, fun k hk => ⟨?_, ?_⟩⟩, ?_, ?_⟩
    · rw [F.I (by omega)]; exact hH.1
    · rw [F.I (by omega)]; exact (hH.2 k hk).1
    · rw [F.I (by omega)]; exact (hH.2 k hk).2
    · rw [F.I (by omega)]; exact hT
    · rw [F.I (by omega)]; exact hsd
  have FW : ∀ w, w < 4 → Fr WM σ (putI σ 81 (1 + w) (nI v)) := fun w hw => Fr.pI (by unfold WM; omega)
  unfold f_X9_asks j_X9_asks_39
  dsimp only [bnd]
  rcases (show w = 0 ∨ w = 1 ∨ w = 2 ∨ w = 3 by omega) with rfl | rfl | rfl | rfl
  · rw [if_pos (show nI 0 = 0 from rfl), if_pos (show nI 0 = 0 from rfl)]
    have h0 := one 0 (by decide)
    obtain ⟨a1, a2⟩ := f9_anew (r := rsR r 0 v) ok h0.1 h0.2.1 h0.2.2.2.2
    exact ⟨hR 0 (by decide), fun _ => a1, fun z => absurd rfl z, (FW 0 (by decide)).tr (a2.mono (fun r k z => by unfold WM; omega))⟩
  · rw [if_neg (show ¬ nI 1 = 0 by decide), if_pos (show nI 1 = 1 from rfl), if_neg (show ¬ nI 1 = 0 by decide), if_pos (show nI 1 = 1 from rfl)]
    exact ⟨hR 1 (by decide), fun z => absurd z (by decide), fun _ => one 1 (by decide), FW 1 (by decide)⟩
  · rw [if_neg (show ¬ nI 2 = 0 by decide), if_neg (show ¬ nI 2 = 1 by decide), if_pos (show nI 2 = 2 from rfl), if_neg (show ¬ nI 2 = 0 by decide), if_neg (show ¬ nI 2 = 1 by decide), if_pos (show nI 2 = 2 from rfl)]
    exact ⟨hR 2 (by decide), fun z => absurd z (by decide), fun _ => one 2 (by decide), FW 2 (by decide)⟩
  · rw [if_neg (show ¬ nI 3 = 0 by decide), if_neg (show ¬ nI 3 = 1 by decide), if_neg (show ¬ nI 3 = 2 by decide), if_neg (show ¬ nI 3 = 0 by decide), if_neg (show ¬ nI 3 = 1 by decide), if_neg (show ¬ nI 3 = 2 by decide)]
    exact ⟨hR 3 (by decide), fun z => absurd z (by decide), fun _ => one 3 (by decide), FW 3 (by decide)⟩
end M9
/-! the reference's copies -/
def MK (A : Nat) (c : CV) (r : Nat → Nat) (hs : HS) (tr : Nat) (sd : Int32) (σ : PH) : Prop := (∀ i, i < cN c → gI σ A i = nI (cK c i) ∧ gI σ A (8 + i) = nI (cA_ c i) ∧ gI σ A (16 + i) = nI (cO c i) ∧ gI σ A (24 + i) = nI (cP c i)) ∧ (∀ k, k < hs.length → gI σ A (32 + k) = nI (hsD hs k).1 ∧ gI σ A (48 + k) = nI (hsD hs k).2) ∧ gI σ A 64 = nI (cN c) ∧ (∀ k, k < 4 → gI σ A (65 + k) = nI (r k)) ∧ gI σ A 69 = nI hs.length ∧ gI σ A 70 = nI tr ∧ gI σ A 71 = sd
theorem MK.fr {A : Nat} {c : CV} {r : Nat → Nat} {hs : HS} {tr : Nat} {sd : Int32} {σ σ' : PH} {W : Nat → Nat → Prop} (hM : MK A c r hs tr sd σ) (f : Fr W σ σ') (hW : ∀ k, ¬ W A k) : MK A c r hs tr sd σ' := by
  have e : ∀ k, gI σ' A k = gI σ A k := fun k => f.I (hW k)
  unfold MK
  simp only [e]
  exact hM
theorem f9_carries_s {σ : PH} {o A n f : Nat} (hn : n ≤ 80) (hf : f + n ≤ 80) (hne : o ≠ A) : Rt (f_X9_carries σ o n (nI n) A 80 (nI f) 0) (fun u => u.1 = nI (f + n) ∧ (∀ i, i < n → gI u.2 A (f + i) = gI σ o i) ∧ Fr (fun r k => r = A ∧ f ≤ k ∧ k < f + n) σ u.2) := by
  unfold f_X9_carries
  refine lp_acc (enc := fun (a : PH) (i : Nat) => ((nI i, a) : Int32 × PH)) n (fun a i => (∀ j, j < i → gI a A (f + j) = gI σ o j) ∧ Fr (fun r k => r = A ∧ f ≤ k ∧ k < f + n) σ a) _ ?_ ?_ FU σ 0 (Nat.zero_le _) (FU_big (by omega)) ⟨fun j hj => absurd hj (Nat.not_lt_zero j), Fr.rf⟩
  · rintro rec a i hi ⟨hJ, hF⟩ hrec
    dsimp only [b_X9_carries_3, bnd]
    rw [nI_add, nI_1, nI_clamp (by omega), nI_clamp (by omega)]
    refine Rt.f (by rw [nI_leI (by omega) (by omega)]; omega) (Rt.t rfl (Rt.c (inb_nI hi (by omega)) (Rt.c (inb_nI (by omega) (by decide)) (hrec _ ⟨fun j hj => ?_, hF.tr (Fr.pI (by omega))⟩))))
    rcases Nat.lt_or_eq_of_le (Nat.le_of_lt_succ hj) with hlt | rfl
    · rw [gI_put_ne (Or.inr (by omega))]; exact hJ j hlt
    · rw [gI_put_eq, hF.I (by omega)]
  · rintro rec a ⟨hJ, hF⟩
    dsimp only [b_X9_carries_3, bnd, j_X9_carries_45]
    exact Rt.t (nI_le (Nat.le_refl _) (by omega)) (Rt.s ⟨nI_add f n, hJ, hF⟩)
theorem f9_carries_b {σ : PH} {o A n f : Nat} (hn : n ≤ 80) (hf : f + n ≤ 80) (hne : o ≠ A) : Rt (f_X9_carries σ o n (nI n) A 80 (nI f) 1) (fun u => u.1 = nI (f + n) ∧ (∀ i, i < n → gI u.2 o i = gI σ A (f + i)) ∧ Fr (fun r _ => r = o) σ u.2) := by
  unfold f_X9_carries
  refine lp_acc (enc := fun (a : PH) (i : Nat) => ((nI i, a) : Int32 × PH)) n (fun a i => (∀ j, j < i → gI a o j = gI σ A (f + j)) ∧ Fr (fun r _ => r = o) σ a) _ ?_ ?_ FU σ 0 (Nat.zero_le _) (FU_big (by omega)) ⟨fun j hj => absurd hj (Nat.not_lt_zero j), Fr.rf⟩
  · rintro rec a i hi ⟨hJ, hF⟩ hrec
    dsimp only [b_X9_carries_3, bnd]
    rw [nI_add, nI_1, nI_clamp (by omega), nI_clamp (by omega)]
    refine Rt.f (by rw [nI_leI (by omega) (by omega)]; omega) (Rt.f (by decide) (Rt.c (inb_nI (by omega) (by decide)) (Rt.c (inb_nI hi (by omega)) (hrec _ ⟨fun j hj => ?_, hF.tr (Fr.pI rfl)⟩))))
    rcases Nat.lt_or_eq_of_le (Nat.le_of_lt_succ hj) with hlt | rfl
    · rw [gI_put_ne (Or.inr (by omega))]; exact hJ j hlt
    · rw [gI_put_eq, hF.I (fun z => hne z.symm)]
  · rintro rec a ⟨hJ, hF⟩
    dsimp only [b_X9_carries_3, bnd, j_X9_carries_45]
    exact Rt.t (nI_le (Nat.le_refl _) (by omega)) (Rt.s ⟨nI_add f n, hJ, hF⟩)
theorem f9_all_s {A : Nat} (hA : A = 98 ∨ A = 99) {c : CV} {r : Nat → Nat} {hs : HS} {tr : Nat} {sd : Int32} {σ : PH} (h8 : cN c ≤ 8) (h16 : hs.length ≤ 16) (hM : MHl c r hs tr sd σ) : Rt (f_X9_all σ A 80 0) (fun u => MK A c r hs tr sd u ∧ Fr (fun r _ => r = A) σ u) := by
  obtain ⟨hC, hR, hH, hT, hsd⟩ := hM
  unfold f_X9_all
  refine Rt.o (f9_carries_s (n := 8) (f := 0) (by decide) (by decide) (by omega)) ?_
  rintro ⟨v, σ1⟩ ⟨hv, c1, F1⟩
  dsimp only at hv c1 F1
  subst hv
  refine Rt.o (f9_carries_s (n := 8) (f := 8) (by decide) (by decide) (by omega)) ?_
  rintro ⟨v, σ2⟩ ⟨hv, c2, F2⟩
  dsimp only at hv c2 F2
  subst hv
  refine Rt.o (f9_carries_s (n := 8) (f := 16) (by decide) (by decide) (by omega)) ?_
  rintro ⟨v, σ3⟩ ⟨hv, c3, F3⟩
  dsimp only at hv c3 F3
  subst hv
  refine Rt.o (f9_carries_s (n := 8) (f := 24) (by decide) (by decide) (by omega)) ?_
  rintro ⟨v, σ4⟩ ⟨hv, c4, F4⟩
  dsimp only at hv c4 F4
  subst hv
  refine Rt.o (f9_carries_s (n := 16) (f := 32) (by decide) (by decide) (by omega)) ?_
  rintro ⟨v, σ5⟩ ⟨hv, c5, F5⟩
  dsimp only at hv c5 F5
  subst hv
  refine Rt.o (f9_carries_s (n := 16) (f := 48) (by decide) (by decide) (by omega)) ?_
  rintro ⟨v, σ6⟩ ⟨hv, c6, F6⟩
  dsimp only at hv c6 F6
  subst hv
  dsimp only [bnd]
  refine Rt.t rfl ?_
  have cl : ∀ j, j < 8 → (nI (48 + 16) + nI j).toNatClampNeg = 64 + j := fun j hj => by rw [nI_add]; exact nI_clamp (by omega)
  have G1 : ∀ k, gI σ6 81 k = gI σ 81 k := fun k => by rw [F6.I (by omega), F5.I (by omega), F4.I (by omega), F3.I (by omega), F2.I (by omega), F1.I (by omega)]
  rw [show (nI (48 + 16)).toNatClampNeg = 64 from rfl, show (nI (48 + 16) + 1).toNatClampNeg = 65 from rfl, show (nI (48 + 16) + 2).toNatClampNeg = 66 from rfl, show (nI (48 + 16) + 3).toNatClampNeg = 67 from rfl, show (nI (48 + 16) + 4).toNatClampNeg = 68 from rfl, show (nI (48 + 16) + 5).toNatClampNeg = 69 from rfl, show (nI (48 + 16) + 6).toNatClampNeg = 70 from rfl, show (nI (48 + 16) + 7).toNatClampNeg = 71 from rfl]
  refine Rt.c (by decide) (Rt.c (by decide) (Rt.c (by decide) (Rt.c (by decide) (Rt.c (by decide) (Rt.c (by decide) (Rt.c (by decide) (Rt.c (by decide) ?_)))))))
  have ne81 : ∀ (σ : PH) (k j : Nat) (v : Int32), gI (putI σ A k v) 81 j = gI σ 81 j := fun σ k j v => gI_put_ne (Or.inl (by omega))
  simp only [ne81, G1]
  have FA : ∀ (σ : PH) (k : Nat) (v : Int32), Fr (fun r _ => r = A) σ (putI σ A k v) := fun σ k v => Fr.pI rfl
  refine Rt.s ⟨⟨fun i hi => ?_, fun k hk => ?_, ?_, fun k hk => ?_, ?_, ?_, ?_⟩, ?_⟩
  · obtain ⟨q1, q2, q3, q4⟩ := hC.2 i hi
    have low : ∀ j, j < 64 → gI (putI (putI (putI (putI (putI (putI (putI (putI σ6 A 64 (gI σ 81 0)) A 65 (gI σ 81 1)) A 66 (gI σ 81 2)) A 67 (gI σ 81 3)) A 68 (gI σ 81 4)) A 69 (gI σ 81 5)) A 70 (gI σ 81 6)) A 71 (gI σ 81 7)) A j = gI σ6 A j := fun j hj => by
      rw [gI_put_ne (by omega), gI_put_ne (by omega), gI_put_ne (by omega), gI_put_ne (by omega), gI_put_ne (by omega), gI_put_ne (by omega), gI_put_ne (by omega), gI_put_ne (by omega)]
    refine ⟨?_, ?_, ?_, ?_⟩
    · rw [low _ (by omega), F6.I (by omega), F5.I (by omega), F4.I (by omega), F3.I (by omega), F2.I (by omega)]
      have := c1 i (by omega)
      rw [Nat.zero_add] at this
      rw [this]; exact q1
    · rw [low _ (by omega), F6.I (by omega), F5.I (by omega), F4.I (by omega), F3.I (by omega), c2 i (by omega), F1.I (by omega)]; exact q2
    · rw [low _ (by omega), F6.I (by omega), F5.I (by omega), F4.I (by omega), c3 i (by omega), F2.I (by omega), F1.I (by omega)]; exact q3
    · rw [low _ (by omega), F6.I (by omega), F5.I (by omega), c4 i (by omega), F3.I (by omega), F2.I (by omega), F1.I (by omega)]; exact q4
  · obtain ⟨q1, q2⟩ := hH.2 k hk
    refine ⟨?_, ?_⟩
    · rw [gI_put_ne (by omega), gI_put_ne (by omega), gI_put_ne (by omega), gI_put_ne (by omega), gI_put_ne (by omega), gI_put_ne (by omega), gI_put_ne (by omega), gI_put_ne (by omega), F6.I (by omega), c5 k (by omega), F4.I (by omega), F3.I (by omega), F2.I (by omega), F1.I (by omega)]; exact q1
    · rw [gI_put_ne (by omega), gI_put_ne (by omega), gI_put_ne (by omega), gI_put_ne (by omega), gI_put_ne (by omega), gI_put_ne (by omega), gI_put_ne (by omega), gI_put_ne (by omega), c6 k (by omega), F5.I (by omega), F4.I (by omega), F3.I (by omega), F2.I (by omega), F1.I (by omega)]; exact q2
  · rw [gI_put_ne (by omega), gI_put_ne (by omega), gI_put_ne (by omega), gI_put_ne (by omega), gI_put_ne (by omega), gI_put_ne (by omega), gI_put_ne (by omega), gI_put_eq]; exact hC.1
  · rcases (show k = 0 ∨ k = 1 ∨ k = 2 ∨ k = 3 by omega) with rfl | rfl | rfl | rfl
    · rw [gI_put_ne (by omega), gI_put_ne (by omega), gI_put_ne (by omega), gI_put_ne (by omega), gI_put_ne (by omega), gI_put_ne (by omega), gI_put_eq]; exact hR 0 (by decide)
    · rw [gI_put_ne (by omega), gI_put_ne (by omega), gI_put_ne (by omega), gI_put_ne (by omega), gI_put_ne (by omega), gI_put_eq]; exact hR 1 (by decide)
    · rw [gI_put_ne (by omega), gI_put_ne (by omega), gI_put_ne (by omega), gI_put_ne (by omega), gI_put_eq]; exact hR 2 (by decide)
    · rw [gI_put_ne (by omega), gI_put_ne (by omega), gI_put_ne (by omega), gI_put_eq]; exact hR 3 (by decide)
  · rw [gI_put_ne (by omega), gI_put_ne (by omega), gI_put_eq]; exact hH.1
  · rw [gI_put_ne (by omega), gI_put_eq]; exact hT
  · rw [gI_put_eq]; exact hsd
  · exact (((((((((((((F1.mono (fun r k z => z.1)).tr (F2.mono (fun r k z => z.1))).tr (F3.mono (fun r k z => z.1))).tr (F4.mono (fun r k z => z.1))).tr (F5.mono (fun r k z => z.1))).tr (F6.mono (fun r k z => z.1))).tr (FA _ _ _)).tr (FA _ _ _)).tr (FA _ _ _)).tr (FA _ _ _)).tr (FA _ _ _)).tr (FA _ _ _)).tr (FA _ _ _)).tr (FA _ _ _)
theorem f9_all_b {A : Nat} (hA : A = 98 ∨ A = 99) {c : CV} {r : Nat → Nat} {hs : HS} {tr : Nat} {sd : Int32} {σ : PH} (h8 : cN c ≤ 8) (h16 : hs.length ≤ 16) (hM : MK A c r hs tr sd σ) : Rt (f_X9_all σ A 80 1) (fun u => MHl c r hs tr sd u ∧ Fr WM σ u) := by
  obtain ⟨hC, hH, h64, hR, h69, h70, h71⟩ := hM
  unfold f_X9_all
  refine Rt.o (f9_carries_b (n := 8) (f := 0) (by decide) (by decide) (by omega)) ?_
  rintro ⟨v, σ1⟩ ⟨hv, c1, F1⟩
  dsimp only at hv c1 F1
  subst hv
  refine Rt.o (f9_carries_b (n := 8) (f := 8) (by decide) (by decide) (by omega)) ?_
  rintro ⟨v, σ2⟩ ⟨hv, c2, F2⟩
  dsimp only at hv c2 F2
  subst hv
  refine Rt.o (f9_carries_b (n := 8) (f := 16) (by decide) (by decide) (by omega)) ?_
  rintro ⟨v, σ3⟩ ⟨hv, c3, F3⟩
  dsimp only at hv c3 F3
  subst hv
  refine Rt.o (f9_carries_b (n := 8) (f := 24) (by decide) (by decide) (by omega)) ?_
  rintro ⟨v, σ4⟩ ⟨hv, c4, F4⟩
  dsimp only at hv c4 F4
  subst hv
  refine Rt.o (f9_carries_b (n := 16) (f := 32) (by decide) (by decide) (by omega)) ?_
  rintro ⟨v, σ5⟩ ⟨hv, c5, F5⟩
  dsimp only at hv c5 F5
  subst hv
  refine Rt.o (f9_carries_b (n := 16) (f := 48) (by decide) (by decide) (by omega)) ?_
  rintro ⟨v, σ6⟩ ⟨hv, c6, F6⟩
  dsimp only at hv c6 F6
  subst hv
  dsimp only [bnd]
  refine Rt.f (by decide) ?_
  have G1 : ∀ k, gI σ6 A k = gI σ A k := fun k => by rw [F6.I (by omega), F5.I (by omega), F4.I (by omega), F3.I (by omega), F2.I (by omega), F1.I (by omega)]
  rw [show (nI (48 + 16)).toNatClampNeg = 64 from rfl, show (nI (48 + 16) + 1).toNatClampNeg = 65 from rfl, show (nI (48 + 16) + 2).toNatClampNeg = 66 from rfl, show (nI (48 + 16) + 3).toNatClampNeg = 67 from rfl, show (nI (48 + 16) + 4).toNatClampNeg = 68 from rfl, show (nI (48 + 16) + 5).toNatClampNeg = 69 from rfl, show (nI (48 + 16) + 6).toNatClampNeg = 70 from rfl, show (nI (48 + 16) + 7).toNatClampNeg = 71 from rfl]
  refine Rt.c (by decide) (Rt.c (by decide) (Rt.c (by decide) (Rt.c (by decide) (Rt.c (by decide) (Rt.c (by decide) (Rt.c (by decide) (Rt.c (by decide) ?_)))))))
  have neA : ∀ (σ : PH) (k j : Nat) (v : Int32), gI (putI σ 81 k v) A j = gI σ A j := fun σ k j v => gI_put_ne (Or.inl (by omega))
  simp only [neA, G1]
  have FA : ∀ (σ : PH) (k : Nat) (v : Int32), k < 8 → Fr WM σ (putI σ 81 k v) := fun σ k v hk => Fr.pI (by unfold WM; omega)
  have low : ∀ q j, q ≠ 81 → gI (putI (putI (putI (putI (putI (putI (putI (putI σ6 81 0 (gI σ A 64)) 81 1 (gI σ A 65)) 81 2 (gI σ A 66)) 81 3 (gI σ A 67)) 81 4 (gI σ A 68)) 81 5 (gI σ A 69)) 81 6 (gI σ A 70)) 81 7 (gI σ A 71)) q j = gI σ6 q j := fun q j hq => by
    rw [gI_put_ne (Or.inl hq), gI_put_ne (Or.inl hq), gI_put_ne (Or.inl hq), gI_put_ne (Or.inl hq), gI_put_ne (Or.inl hq), gI_put_ne (Or.inl hq), gI_put_ne (Or.inl hq), gI_put_ne (Or.inl hq)]
  refine Rt.s ⟨⟨⟨?_, fun i hi => ?_⟩, fun k hk => ?_, ⟨?_, fun k hk => ?_⟩, ?_, ?_⟩, ?_⟩
  · rw [gI_put_ne (by omega), gI_put_ne (by omega), gI_put_ne (by omega), gI_put_ne (by omega), gI_put_ne (by omega), gI_put_ne (by omega), gI_put_ne (by omega), gI_put_eq]; exact h64
  · obtain ⟨q1, q2, q3, q4⟩ := hC i hi
    refine ⟨?_, ?_, ?_, ?_⟩
    · rw [low _ _ (by decide), F6.I (by omega), F5.I (by omega), F4.I (by omega), F3.I (by omega), F2.I (by omega), c1 i (by omega), Nat.zero_add]; exact q1
    · rw [low _ _ (by decide), F6.I (by omega), F5.I (by omega), F4.I (by omega), F3.I (by omega), c2 i (by omega), F1.I (by omega)]; exact q2
    · rw [low _ _ (by decide), F6.I (by omega), F5.I (by omega), F4.I (by omega), c3 i (by omega), F2.I (by omega), F1.I (by omega)]; exact q3
    · rw [low _ _ (by decide), F6.I (by omega), F5.I (by omega), c4 i (by omega), F3.I (by omega), F2.I (by omega), F1.I (by omega)]; exact q4
  · rcases (show k = 0 ∨ k = 1 ∨ k = 2 ∨ k = 3 by omega) with rfl | rfl | rfl | rfl
    · rw [gI_put_ne (by omega), gI_put_ne (by omega), gI_put_ne (by omega), gI_put_ne (by omega), gI_put_ne (by omega), gI_put_ne (by omega), gI_put_eq]; exact hR 0 (by decide)
    · rw [gI_put_ne (by omega), gI_put_ne (by omega), gI_put_ne (by omega), gI_put_ne (by omega), gI_put_ne (by omega), gI_put_eq]; exact hR 1 (by decide)
    · rw [gI_put_ne (by omega), gI_put_ne (by omega), gI_put_ne (by omega), gI_put_ne (by omega), gI_put_eq]; exact hR 2 (by decide)
    · rw [gI_put_ne (by omega), gI_put_ne (by omega), gI_put_ne (by omega), gI_put_eq]; exact hR 3 (by decide)
  · rw [gI_put_ne (by omega), gI_put_ne (by omega), gI_put_eq]; exact h69
  · obtain ⟨q1, q2⟩ := hH k hk
    refine ⟨?_, ?_⟩
    · rw [low _ _ (by decide), F6.I (by omega), c5 k (by omega), F4.I (by omega), F3.I (by omega), F2.I (by omega), F1.I (by omega)]; exact q1
    · rw [low _ _ (by decide), c6 k (by omega), F5.I (by omega), F4.I (by omega), F3.I (by omega), F2.I (by omega), F1.I (by omega)]; exact q2
  · rw [gI_put_ne (by omega), gI_put_eq]; exact h70
  · rw [gI_put_eq]; exact h71
  · exact (((((((((((((F1.mono (fun r k z => by unfold WM; omega)).tr (F2.mono (fun r k z => by unfold WM; omega))).tr (F3.mono (fun r k z => by unfold WM; omega))).tr (F4.mono (fun r k z => by unfold WM; omega))).tr (F5.mono (fun r k z => by unfold WM; omega))).tr (F6.mono (fun r k z => by unfold WM; omega))).tr (FA _ _ _ (by decide))).tr (FA _ _ _ (by decide))).tr (FA _ _ _ (by decide))).tr (FA _ _ _ (by decide))).tr (FA _ _ _ (by decide))).tr (FA _ _ _ (by decide))).tr (FA _ _ _ (by decide))).tr (FA _ _ _ (by decide))
