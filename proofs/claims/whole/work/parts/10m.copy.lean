/-! the class's copies of halls -/
def hvI (j k : Nat) : Prop := (j = 0 ∧ (k = 4 ∨ k = 5 ∨ k = 6)) ∨ (j = 1 ∧ k = 5) ∨ (2 ≤ j ∧ j ≤ 5 ∧ k < 8) ∨ (j = 6 ∧ k < 10) ∨ (j = 7 ∧ k = 3) ∨ (j = 8 ∧ k < 92) ∨ (j = 9 ∧ k < 92) ∨ (j = 14 ∧ k < 256) ∨ (j = 15 ∧ k < 4) ∨ (j = 16 ∧ k < 16)
def hvJ (j k : Nat) : Prop := (j = 0 ∧ (k = 7 ∨ k = 8)) ∨ (j = 10 ∧ k < 8) ∨ (j = 11 ∧ k < 8) ∨ (j = 12 ∧ k < 256) ∨ (j = 13 ∧ k < 256)
theorem XH.view {c : CV} {r : Nat → Nat} {hs : HS} {tr : Nat} {sd : Int32} {σ σ' : PH} {h h2 : Nat} (v : HV c r hs) (hX : XH c r hs tr sd σ h2) (eI : ∀ j k, hvI j k → gI σ' (h + j) k = gI σ (h2 + j) k) (eJ : ∀ j k, hvJ j k → gJ σ' (h + j) k = gJ σ (h2 + j) k) : XH c r hs tr sd σ' h := by
  obtain ⟨ok, hr, hok⟩ := v
  have h8 := ok.1
  have h9 := p2_9 h8
  have h16 := hok.1
  obtain ⟨⟨hC, hL, hK, h92⟩, hT, ⟨t, ht, hTr⟩, hR⟩ := hX
  have e0 : ∀ k, (k = 4 ∨ k = 5 ∨ k = 6) → gI σ' h k = gI σ h2 k := fun k hk => eI 0 k (Or.inl ⟨rfl, hk⟩)
  refine ⟨⟨⟨?_, fun i hi => ?_, fun p hp => ?_⟩, ⟨?_, fun t ht => ?_, fun t ht => ?_, fun x hx => ?_⟩, ⟨?_, ?_, fun s h0 hs => ?_⟩, h92⟩, ⟨fun k hk => ?_, ⟨?_, fun k hk => ?_⟩, ?_⟩, ⟨t, ?_, hTr⟩, ?_⟩
  · rw [eI 1 5 (by unfold hvI; omega)]; exact hC.1
  · rw [eI 2 i (by unfold hvI; omega), eI 3 i (by unfold hvI; omega), eI 4 i (by unfold hvI; omega), eI 5 i (by unfold hvI; omega)]
    exact hC.2.1 i hi
  · rw [eI 6 p (by unfold hvI; omega)]; exact hC.2.2 p hp
  · rw [eI 7 3 (by unfold hvI; omega)]; exact hL.1
  · rw [eI 8 t (by unfold hvI; omega)]; exact hL.2.1 t ht
  · rw [eI 9 t (by unfold hvI; omega)]; exact hL.2.2.1 t ht
  · rw [eJ 10 x (by unfold hvJ; omega), eJ 11 x (by unfold hvJ; omega)]; exact hL.2.2.2 x hx
  · rw [eJ 12 0 (by unfold hvJ; omega)]; exact hK.1
  · rw [eJ 13 0 (by unfold hvJ; omega)]; exact hK.2.1
  · unfold K1
    rw [eI 14 s (by unfold hvI; omega), eJ 12 s (by unfold hvJ; omega), eJ 13 s (by unfold hvJ; omega)]
    exact hK.2.2 s h0 hs
  · rw [eI 15 k (by unfold hvI; omega)]; exact hT.1 k hk
  · rw [e0 4 (by omega)]; exact hT.2.1.1
  · rw [eI 16 k (by unfold hvI; omega)]; exact hT.2.1.2 k hk
  · rw [e0 5 (by omega)]; exact hT.2.2
  · rw [e0 6 (by omega)]; exact ht
  · have e7 := eJ 0 7 (by unfold hvJ; omega)
    have e8 := eJ 0 8 (by unfold hvJ; omega)
    rw [Nat.add_zero, Nat.add_zero] at e7 e8
    rw [e7, e8]; exact hR
theorem gI_arrI' (σ : PH) (r q k : Nat) (f : Nat → Int32) : gI (arrI σ r f) q k = if q = r then f k else gI σ q k := by
  by_cases h : q = r
  · subst h; rw [gI_arrI, if_pos rfl]
  · rw [gI_arrI_ne h, if_neg h]
theorem gJ_arrJ' (σ : PH) (r q k : Nat) (f : Nat → Int64) : gJ (arrJ σ r f) q k = if q = r then f k else gJ σ q k := by
  by_cases h : q = r
  · subst h; rw [gJ_arrJ, if_pos rfl]
  · rw [gJ_arrJ_ne h, if_neg h]
/-- a row taken over -/
theorem Fr.aI {W : Nat → Nat → Prop} {σ : PH} {r : Nat} {f : Nat → Int32} (h : ∀ k, W r k) : Fr W σ (arrI σ r f) := fun q j hn => ⟨gI_arrI_ne (fun e => hn (e ▸ h j)), rfl⟩
theorem Fr.aJ {W : Nat → Nat → Prop} {σ : PH} {r : Nat} {f : Nat → Int64} (h : ∀ k, W r k) : Fr W σ (arrJ σ r f) := fun q j hn => ⟨rfl, gJ_arrJ_ne (fun e => hn (e ▸ h j))⟩
theorem cpy0 {α : Type} (f g : Nat → α) (n k : Nat) (hk : k < n) : va_cpy f g 0 0 n k = f k := by
  rw [pk_cpy_in (Nat.zero_le k) (by omega)]; congr 1; omega
theorem bnd_i {α β : Type} (P : β → Prop) {x : α} {k : α → β} (h : ∀ y, y = x → P (k y)) : P (bnd x k) := h x rfl
section CP
variable {σ σ1 σ2 : PH} {h h2 : Nat}
theorem cpI {j n : Nat} (hne : h + 17 ≤ h2 ∨ h2 + 17 ≤ h) (hj : j ≤ 16) (hF : Fr (WH h) σ σ1) (e : σ2 = arrI σ1 (h + j) (va_cpy (gI σ1 (h2 + j)) (gI σ1 (h + j)) 0 0 n)) : Fr (WH h) σ σ2 ∧ (∀ k, k < n → gI σ2 (h + j) k = gI σ (h2 + j) k) ∧ (∀ q k, q ≠ h + j → gI σ2 q k = gI σ1 q k) ∧ (∀ q k, gJ σ2 q k = gJ σ1 q k) := by
  subst e
  exact ⟨hF.tr (Fr.aI (fun k => by unfold WH; omega)), fun k hk => by rw [gI_arrI, cpy0 _ _ _ _ hk, hF.I (by unfold WH; omega)], fun q k hq => gI_arrI_ne hq, fun q k => rfl⟩
theorem cpJ {j n : Nat} (hne : h + 17 ≤ h2 ∨ h2 + 17 ≤ h) (hj : j ≤ 16) (hF : Fr (WH h) σ σ1) (e : σ2 = arrJ σ1 (h + j) (va_cpy (gJ σ1 (h2 + j)) (gJ σ1 (h + j)) 0 0 n)) : Fr (WH h) σ σ2 ∧ (∀ k, k < n → gJ σ2 (h + j) k = gJ σ (h2 + j) k) ∧ (∀ q k, q ≠ h + j → gJ σ2 q k = gJ σ1 q k) ∧ (∀ q k, gI σ2 q k = gI σ1 q k) := by
  subst e
  exact ⟨hF.tr (Fr.aJ (fun k => by unfold WH; omega)), fun k hk => by rw [gJ_arrJ, cpy0 _ _ _ _ hk, hF.J (by unfold WH; omega)], fun q k hq => gJ_arrJ_ne hq, fun q k => rfl⟩
theorem cpPI {r q i : Nat} (hne : h + 17 ≤ h2 ∨ h2 + 17 ≤ h) (j : Nat) (hr : r = h + j) (hq : q = h2 + j) (hj : j ≤ 16) (hF : Fr (WH h) σ σ1) (e : σ2 = putI σ1 r i (gI σ1 q i)) : Fr (WH h) σ σ2 ∧ gI σ2 r i = gI σ q i ∧ (∀ q k, (q ≠ r ∨ k ≠ i) → gI σ2 q k = gI σ1 q k) ∧ (∀ q k, gJ σ2 q k = gJ σ1 q k) := by
  subst e
  exact ⟨hF.tr (Fr.pI (by unfold WH; omega)), by rw [gI_put_eq, hF.I (by unfold WH; omega)], fun q k hq => gI_put_ne hq, fun q k => rfl⟩
theorem cpPJ {r q i : Nat} (hne : h + 17 ≤ h2 ∨ h2 + 17 ≤ h) (j : Nat) (hr : r = h + j) (hq : q = h2 + j) (hj : j ≤ 16) (hF : Fr (WH h) σ σ1) (e : σ2 = putJ σ1 r i (gJ σ1 q i)) : Fr (WH h) σ σ2 ∧ gJ σ2 r i = gJ σ q i ∧ (∀ q k, (q ≠ r ∨ k ≠ i) → gJ σ2 q k = gJ σ1 q k) ∧ (∀ q k, gI σ2 q k = gI σ1 q k) := by
  subst e
  exact ⟨hF.tr (Fr.pJ (by unfold WH; omega)), by rw [gJ_put_eq, hF.J (by unfold WH; omega)], fun q k hq => gJ_put_ne hq, fun q k => rfl⟩
def CpG (σ : PH) (h h2 : Nat) (u : PH) : Prop := (∀ j k, hvI j k → gI u (h + j) k = gI σ (h2 + j) k) ∧ (∀ j k, hvJ j k → gJ u (h + j) k = gJ σ (h2 + j) k) ∧ Fr (WH h) σ u
theorem f0_copyOf (hne : h + 17 ≤ h2 ∨ h2 + 17 ≤ h) (P : PH → Prop) (kk : ∀ u, Fr (WH h) σ u → (∀ j k, j ≤ 6 → 1 ≤ j → hvI j k → gI u (h + j) k = gI σ (h2 + j) k) → P u) : P (f_X0_copyOf σ h h2) := by
  unfold f_X0_copyOf
  refine bnd_i P (fun σ1 e1 => ?_)
  obtain ⟨F1, c1, d1, k1⟩ := cpI (n := 8) hne (by decide) Fr.rf e1
  clear e1
  refine bnd_i P (fun σ2 e2 => ?_)
  obtain ⟨F2, c2, d2, k2⟩ := cpI (n := 8) hne (by decide) F1 e2
  clear e2
  refine bnd_i P (fun σ3 e3 => ?_)
  obtain ⟨F3, c3, d3, k3⟩ := cpI (n := 8) hne (by decide) F2 e3
  clear e3
  refine bnd_i P (fun σ4 e4 => ?_)
  obtain ⟨F4, c4, d4, k4⟩ := cpI (n := 8) hne (by decide) F3 e4
  clear e4
  refine bnd_i P (fun σ5 e5 => ?_)
  obtain ⟨F5, c5, d5, k5⟩ := cpI (n := 10) hne (by decide) F4 e5
  clear e5
  refine bnd_i P (fun σ6 e6 => ?_)
  obtain ⟨F6, c6, d6, k6⟩ := cpPI hne 1 rfl rfl (by decide) F5 e6
  clear e6
  refine kk σ6 F6 (fun j k j6 j1 hj => ?_)
  unfold hvI at hj
  rcases (show j = 1 ∨ j = 2 ∨ j = 3 ∨ j = 4 ∨ j = 5 ∨ j = 6 by omega) with rfl | rfl | rfl | rfl | rfl | rfl
  · have : k = 5 := by omega
    subst this
    exact c6
  · rw [d6 _ _ (by omega), d5 _ _ (by omega), d4 _ _ (by omega), d3 _ _ (by omega), d2 _ _ (by omega)]; exact c1 k (by omega)
  · rw [d6 _ _ (by omega), d5 _ _ (by omega), d4 _ _ (by omega), d3 _ _ (by omega)]; exact c2 k (by omega)
  · rw [d6 _ _ (by omega), d5 _ _ (by omega), d4 _ _ (by omega)]; exact c3 k (by omega)
  · rw [d6 _ _ (by omega), d5 _ _ (by omega)]; exact c4 k (by omega)
  · rw [d6 _ _ (by omega)]; exact c5 k (by omega)
theorem f7_copyOf (hne : h + 17 ≤ h2 ∨ h2 + 17 ≤ h) (hF0 : Fr (WH h) σ σ1) (P : PH → Prop) (kk : ∀ u, Fr (WH h) σ u → (∀ q k, (q < h + 7 ∨ h + 14 < q) → gI u q k = gI σ1 q k) → (∀ j k, 7 ≤ j → j ≤ 14 → hvI j k → gI u (h + j) k = gI σ (h2 + j) k) → (∀ j k, 7 ≤ j → hvJ j k → gJ u (h + j) k = gJ σ (h2 + j) k) → P u) : P (f_X7_copyOf σ1 h h2) := by
  unfold f_X7_copyOf
  refine bnd_i P (fun σ2 e2 => ?_)
  obtain ⟨F2, c2, d2, k2⟩ := cpI (n := 92) hne (by decide) hF0 e2
  clear e2
  refine bnd_i P (fun σ3 e3 => ?_)
  obtain ⟨F3, c3, d3, k3⟩ := cpI (n := 92) hne (by decide) F2 e3
  clear e3
  refine bnd_i P (fun σ4 e4 => ?_)
  obtain ⟨F4, c4, d4, k4⟩ := cpPI hne 7 rfl rfl (by decide) F3 e4
  clear e4
  refine bnd_i P (fun σ5 e5 => ?_)
  obtain ⟨F5, c5, d5, k5⟩ := cpJ (n := 8) hne (by decide) F4 e5
  clear e5
  refine bnd_i P (fun σ6 e6 => ?_)
  obtain ⟨F6, c6, d6, k6⟩ := cpJ (n := 8) hne (by decide) F5 e6
  clear e6
  refine bnd_i P (fun σ7 e7 => ?_)
  obtain ⟨F7, c7, d7, k7⟩ := cpJ (n := 256) hne (by decide) F6 e7
  clear e7
  refine bnd_i P (fun σ8 e8 => ?_)
  obtain ⟨F8, c8, d8, k8⟩ := cpJ (n := 256) hne (by decide) F7 e8
  clear e8
  refine bnd_i P (fun σ9 e9 => ?_)
  obtain ⟨F9, c9, d9, k9⟩ := cpI (n := 256) hne (by decide) F8 e9
  clear e9
  refine kk σ9 F9 (fun q k hq => ?_) (fun j k j7 j14 hj => ?_) (fun j k j7 hj => ?_)
  · rw [d9 _ _ (by omega), k8, k7, k6, k5, d4 _ _ (by omega), d3 _ _ (by omega), d2 _ _ (by omega)]
  · unfold hvI at hj
    rcases (show (j = 7 ∧ k = 3) ∨ (j = 8 ∧ k < 92) ∨ (j = 9 ∧ k < 92) ∨ (j = 14 ∧ k < 256) by omega) with ⟨rfl, rfl⟩ | ⟨rfl, hk⟩ | ⟨rfl, hk⟩ | ⟨rfl, hk⟩
    · rw [d9 _ _ (by omega), k8, k7, k6, k5]; exact c4
    · rw [d9 _ _ (by omega), k8, k7, k6, k5, d4 _ _ (by omega), d3 _ _ (by omega)]; exact c2 k hk
    · rw [d9 _ _ (by omega), k8, k7, k6, k5, d4 _ _ (by omega)]; exact c3 k hk
    · exact c9 k hk
  · unfold hvJ at hj
    rcases (show (j = 10 ∧ k < 8) ∨ (j = 11 ∧ k < 8) ∨ (j = 12 ∧ k < 256) ∨ (j = 13 ∧ k < 256) by omega) with ⟨rfl, hk⟩ | ⟨rfl, hk⟩ | ⟨rfl, hk⟩ | ⟨rfl, hk⟩
    · rw [k9, d8 _ _ (by omega), d7 _ _ (by omega), d6 _ _ (by omega)]; exact c5 k hk
    · rw [k9, d8 _ _ (by omega), d7 _ _ (by omega)]; exact c6 k hk
    · rw [k9, d8 _ _ (by omega)]; exact c7 k hk
    · rw [k9]; exact c8 k hk
theorem f2_copy (hne : h + 17 ≤ h2 ∨ h2 + 17 ≤ h) : CpG σ h h2 (f_X2_copyOf σ h h2) := by
  unfold f_X2_copyOf
  refine bnd_i (CpG σ h h2) (fun u1 e1 => ?_)
  subst e1
  refine f0_copyOf hne (fun u => CpG σ h h2 (bnd (f_X7_copyOf u h h2) _)) (fun u1 G1 a1 => ?_)
  refine bnd_i (CpG σ h h2) (fun u2 e2 => ?_)
  obtain ⟨G2, a2, b2, x2⟩ := f7_copyOf hne G1 (fun u => Fr (WH h) σ u ∧ (∀ q k, (q < h + 7 ∨ h + 14 < q) → gI u q k = gI u1 q k) ∧ (∀ j k, 7 ≤ j → j ≤ 14 → hvI j k → gI u (h + j) k = gI σ (h2 + j) k) ∧ (∀ j k, 7 ≤ j → hvJ j k → gJ u (h + j) k = gJ σ (h2 + j) k)) (fun u a b x y => ⟨a, b, x, y⟩)
  rw [← e2] at G2 a2 b2 x2
  clear e2
  refine bnd_i (CpG σ h h2) (fun σ3 e3 => ?_)
  obtain ⟨F3, c3, d3, k3⟩ := cpI (n := 4) hne (by decide) G2 e3
  clear e3
  refine bnd_i (CpG σ h h2) (fun σ4 e4 => ?_)
  obtain ⟨F4, c4, d4, k4⟩ := cpI (n := 16) hne (by decide) F3 e4
  clear e4
  refine bnd_i (CpG σ h h2) (fun σ5 e5 => ?_)
  obtain ⟨F5, c5, d5, k5⟩ := cpPI hne 0 rfl rfl (by decide) F4 e5
  clear e5
  refine bnd_i (CpG σ h h2) (fun σ6 e6 => ?_)
  obtain ⟨F6, c6, d6, k6⟩ := cpPI hne 0 rfl rfl (by decide) F5 e6
  clear e6
  refine bnd_i (CpG σ h h2) (fun σ7 e7 => ?_)
  obtain ⟨F7, c7, d7, k7⟩ := cpPI hne 0 rfl rfl (by decide) F6 e7
  clear e7
  refine bnd_i (CpG σ h h2) (fun σ8 e8 => ?_)
  obtain ⟨F8, c8, d8, k8⟩ := cpPJ hne 0 rfl rfl (by decide) F7 e8
  clear e8
  refine bnd_i (CpG σ h h2) (fun σ9 e9 => ?_)
  obtain ⟨F9, c9, d9, k9⟩ := cpPJ hne 0 rfl rfl (by decide) F8 e9
  clear e9
  refine ⟨fun j k hj => ?_, fun j k hj => ?_, F9⟩
  · rw [k9, k8]
    have hj' := hj
    unfold hvI at hj
    rcases (show (j = 0 ∧ k = 4) ∨ (j = 0 ∧ k = 5) ∨ (j = 0 ∧ k = 6) ∨ (1 ≤ j ∧ j ≤ 6) ∨ (7 ≤ j ∧ j ≤ 14) ∨ (j = 15 ∧ k < 4) ∨ (j = 16 ∧ k < 16) by omega) with ⟨rfl, rfl⟩ | ⟨rfl, rfl⟩ | ⟨rfl, rfl⟩ | ⟨j1, j6⟩ | ⟨j7, j14⟩ | ⟨rfl, hk⟩ | ⟨rfl, hk⟩
    · rw [Nat.add_zero, Nat.add_zero, d7 _ _ (by omega), d6 _ _ (by omega)]; exact c5
    · rw [Nat.add_zero, Nat.add_zero, d7 _ _ (by omega)]; exact c6
    · rw [Nat.add_zero, Nat.add_zero]; exact c7
    · rw [d7 _ _ (by omega), d6 _ _ (by omega), d5 _ _ (by omega), d4 _ _ (by omega), d3 _ _ (by omega), a2 _ _ (by omega)]; exact a1 j k j6 j1 hj'
    · rw [d7 _ _ (by omega), d6 _ _ (by omega), d5 _ _ (by omega), d4 _ _ (by omega), d3 _ _ (by omega)]; exact b2 j k j7 j14 hj'
    · rw [d7 _ _ (by omega), d6 _ _ (by omega), d5 _ _ (by omega), d4 _ _ (by omega)]; exact c3 k hk
    · rw [d7 _ _ (by omega), d6 _ _ (by omega), d5 _ _ (by omega)]; exact c4 k hk
  · have hj' := hj
    unfold hvJ at hj
    rcases (show (j = 0 ∧ k = 7) ∨ (j = 0 ∧ k = 8) ∨ 7 ≤ j by omega) with ⟨rfl, rfl⟩ | ⟨rfl, rfl⟩ | j7
    · rw [Nat.add_zero, Nat.add_zero, d9 _ _ (by omega)]; exact c8
    · rw [Nat.add_zero, Nat.add_zero]; exact c9
    · rw [d9 _ _ (by omega), d8 _ _ (by omega), k7, k6, k5, k4, k3]; exact x2 j k j7 hj'
end CP
theorem f2_copyOf {c : CV} {r : Nat → Nat} {hs : HS} {tr : Nat} {sd : Int32} {σ : PH} {h h2 : Nat} (hne : h + 17 ≤ h2 ∨ h2 + 17 ≤ h) (v : HV c r hs) (hX : XH c r hs tr sd σ h2) : XH c r hs tr sd (f_X2_copyOf σ h h2) h ∧ Fr (WH h) σ (f_X2_copyOf σ h h2) := by
  obtain ⟨k1, k2, k3⟩ := f2_copy (σ := σ) hne
  exact ⟨hX.view v k1 k2, k3⟩
