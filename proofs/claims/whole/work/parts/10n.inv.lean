/-! both sides hold one state -/
def okW (w v : Nat) : Prop := (w = 0 ∧ 1 ≤ v ∧ v ≤ 3) ∨ (w = 1 ∧ 1 ≤ v ∧ v ≤ 8) ∨ (w = 2 ∧ v ≤ 1) ∨ (w = 3 ∧ v ≤ 50)
theorem i_between (x : Int32) (lo hi : Nat) (h : lo ≤ hi) (hh : hi < 2 ^ 31) : (∃ v, lo ≤ v ∧ v ≤ hi ∧ x = nI v ∧ ¬ x < nI lo ∧ ¬ nI hi < x) ∨ ((x < nI lo ∨ (¬ x < nI lo ∧ nI hi < x)) ∧ ∀ v, lo ≤ v → v ≤ hi → x ≠ nI v) := by
  by_cases h1 : x < nI lo
  · refine Or.inr ⟨Or.inl h1, fun v a b e => ?_⟩
    subst e
    rw [nI_ltI (by omega) (by omega)] at h1
    omega
  · by_cases h2 : nI hi < x
    · refine Or.inr ⟨Or.inr ⟨h1, h2⟩, fun v a b e => ?_⟩
      subst e
      rw [nI_ltI (by omega) (by omega)] at h2
      omega
    · refine Or.inl ?_
      have h1' := h1
      have h2' := h2
      rw [Int32.lt_iff_toInt_lt, nI_toInt (by omega)] at h1 h2
      refine ⟨x.toInt.toNat, by omega, by omega, Int32.toInt_inj.mp ?_, h1', h2'⟩
      rw [nI_toInt (by omega)]
      omega
theorem suits_w {w lo hi : Nat} (hw : w < 4) (h1 : sf 1 w = nI lo) (h2 : sf 2 w = nI hi) (p2 : Int32) : f_X2_suits (nI w) p2 = some (if p2 < nI lo then 0 else if nI hi < p2 then 0 else 1) := by
  unfold f_X2_suits
  rw [if_neg (nI_nlt0 (by omega)), if_neg (show ¬ (4 : Int32) ≤ nI w by rw [i_4, nI_leI (by omega) (by omega)]; omega), chk_t (inb_nI hw (by decide)), nI_clamp (by omega), h1, h2, chk_t (inb_nI hw (by decide))]
  split
  · rfl
  · split <;> rfl
theorem suits_spec (p1 p2 : Int32) : (f_X2_suits p1 p2 = some 0 ∧ (p1 < 0 ∨ (¬ p1 < 0 ∧ 3 < p1) ∨ (¬ p1 < 0 ∧ ¬ 3 < p1 ∧ f_X9_isAsked p1 p2 = 0))) ∨ ∃ w v, p1 = nI w ∧ p2 = nI v ∧ w < 4 ∧ okW w v ∧ f_X2_suits p1 p2 = some 1 ∧ f_X9_isAsked p1 p2 = 1 := by
  rcases i_range p1 4 (by decide) with h | h | ⟨w, hw, rfl⟩
  · refine Or.inl ⟨?_, Or.inl h⟩
    unfold f_X2_suits
    rw [if_pos h]
  · have h3 : (3 : Int32) < p1 := by
      rw [Int32.le_iff_toInt_le, nI_toInt (by decide)] at h
      rw [Int32.lt_iff_toInt_lt, i_3, nI_toInt (by decide)]; omega
    have h0 : ¬ p1 < 0 := by
      rw [Int32.le_iff_toInt_le, nI_toInt (by decide)] at h
      rw [Int32.lt_iff_toInt_lt, i_0, nI_toInt (by decide)]; omega
    refine Or.inl ⟨?_, Or.inr (Or.inl ⟨h0, h3⟩)⟩
    unfold f_X2_suits
    rw [if_neg h0, if_pos (show (4 : Int32) ≤ p1 from h)]
  · have n0 : ¬ nI w < 0 := nI_nlt0 (by omega)
    have n3 : ¬ (3 : Int32) < nI w := by rw [i_3, nI_ltI (by omega) (by omega)]; omega
    rcases (show w = 0 ∨ w = 1 ∨ w = 2 ∨ w = 3 by omega) with rfl | rfl | rfl | rfl
    · rw [suits_w (lo := 1) (hi := 3) (by decide) rfl rfl]
      have e9 : f_X9_isAsked (nI 0) p2 = if p2 < nI 1 then 0 else if nI 3 < p2 then 0 else 1 := rfl
      rw [e9]
      rcases i_between p2 1 3 (by decide) (by decide) with ⟨v, a, b, rfl, e1, e2⟩ | ⟨e | ⟨e1, e2⟩, -⟩
      · exact Or.inr ⟨0, v, rfl, rfl, by decide, Or.inl ⟨rfl, a, b⟩, by rw [if_neg e1, if_neg e2], by rw [if_neg e1, if_neg e2]⟩
      · exact Or.inl ⟨by rw [if_pos e], Or.inr (Or.inr ⟨n0, n3, by rw [if_pos e]⟩)⟩
      · exact Or.inl ⟨by rw [if_neg e1, if_pos e2], Or.inr (Or.inr ⟨n0, n3, by rw [if_neg e1, if_pos e2]⟩)⟩
    · rw [suits_w (lo := 1) (hi := 8) (by decide) rfl rfl]
      have e9 : f_X9_isAsked (nI 1) p2 = if p2 < nI 1 then 0 else if nI 8 < p2 then 0 else 1 := by
        unfold f_X9_isAsked
        rw [if_neg (by decide), if_pos (show nI 1 = 1 from rfl)]; rfl
      rw [e9]
      rcases i_between p2 1 8 (by decide) (by decide) with ⟨v, a, b, rfl, e1, e2⟩ | ⟨e | ⟨e1, e2⟩, -⟩
      · exact Or.inr ⟨1, v, rfl, rfl, by decide, Or.inr (Or.inl ⟨rfl, a, b⟩), by rw [if_neg e1, if_neg e2], by rw [if_neg e1, if_neg e2]⟩
      · exact Or.inl ⟨by rw [if_pos e], Or.inr (Or.inr ⟨n0, n3, by rw [if_pos e]⟩)⟩
      · exact Or.inl ⟨by rw [if_neg e1, if_pos e2], Or.inr (Or.inr ⟨n0, n3, by rw [if_neg e1, if_pos e2]⟩)⟩
    · rw [suits_w (lo := 0) (hi := 1) (by decide) rfl rfl]
      have e9 : f_X9_isAsked (nI 2) p2 = if p2 < nI 0 then 0 else if nI 1 < p2 then 0 else 1 := by
        unfold f_X9_isAsked
        rw [if_neg (by decide), if_neg (by decide), if_pos (show nI 2 = 2 from rfl)]; rfl
      rw [e9]
      rcases i_between p2 0 1 (by decide) (by decide) with ⟨v, a, b, rfl, e1, e2⟩ | ⟨e | ⟨e1, e2⟩, -⟩
      · exact Or.inr ⟨2, v, rfl, rfl, by decide, Or.inr (Or.inr (Or.inl ⟨rfl, b⟩)), by rw [if_neg e1, if_neg e2], by rw [if_neg e1, if_neg e2]⟩
      · exact Or.inl ⟨by rw [if_pos e], Or.inr (Or.inr ⟨n0, n3, by rw [if_pos e]⟩)⟩
      · exact Or.inl ⟨by rw [if_neg e1, if_pos e2], Or.inr (Or.inr ⟨n0, n3, by rw [if_neg e1, if_pos e2]⟩)⟩
    · rw [suits_w (lo := 0) (hi := 50) (by decide) rfl rfl]
      have e9 : f_X9_isAsked (nI 3) p2 = if p2 < nI 0 then 0 else if nI 50 < p2 then 0 else 1 := by
        unfold f_X9_isAsked
        rw [if_neg (show ¬ nI 3 = 0 by decide), if_neg (show ¬ nI 3 = 1 by decide), if_neg (show ¬ nI 3 = 2 by decide)]; rfl
      rw [e9]
      rcases i_between p2 0 50 (by decide) (by decide) with ⟨v, a, b, rfl, e1, e2⟩ | ⟨e | ⟨e1, e2⟩, -⟩
      · exact Or.inr ⟨3, v, rfl, rfl, by decide, Or.inr (Or.inr (Or.inr ⟨rfl, b⟩)), by rw [if_neg e1, if_neg e2], by rw [if_neg e1, if_neg e2]⟩
      · exact Or.inl ⟨by rw [if_pos e], Or.inr (Or.inr ⟨n0, n3, by rw [if_pos e]⟩)⟩
      · exact Or.inl ⟨by rw [if_neg e1, if_pos e2], Or.inr (Or.inr ⟨n0, n3, by rw [if_neg e1, if_pos e2]⟩)⟩
section J2
variable {c : CV} {r : Nat → Nat} {hs : HS} {tr : Nat} {sd : Int32} {σ : PH} {h : Nat}
theorem HV.nil {c : CV} {r : Nat → Nat} (ok : CVok c) (hr : 1 ≤ r 0 ∧ r 0 ≤ 3 ∧ 1 ≤ r 1 ∧ r 1 ≤ 8 ∧ r 2 ≤ 1 ∧ r 3 ≤ 50) : HV c r [] := ⟨ok, hr, ⟨Nat.zero_le _, fun q hq => absurd hq List.not_mem_nil⟩⟩
theorem f2_join (v : HV c r hs) (hX : XH c r hs tr sd σ h) (h7 : cN c < 8) {k a o : Nat} (hk : k ≤ 6) (ha : a ≤ 9) (ho : 1 ≤ o) (ho2 : o ≤ 9) : Rt (f_X2_join σ h (nI k) (nI a) (nI o)) (fun u => XH (adC c k a o) r [] (tr0 (cN c + 1)) sd u h ∧ Fr (WH h) σ u) := by
  obtain ⟨ok, hr, hok⟩ := v
  obtain ⟨hQ, hT, -, -⟩ := hX
  unfold f_X2_join
  refine Rt.o (f0_add ok hQ.1 h7 k a o) ?_
  rintro σ1 ⟨hX1, F1⟩
  refine Rt.o (f2_beginAnew (adC_ok ok h7 hk ha ho ho2) hr.1 hr.2.1 hX1 (sd := sd) ⟨fun j hj => ?_, ?_⟩ ?_ ?_) ?_
  · rw [F1.I (by omega)]; exact hT.1 j hj
  · rw [F1.I (by omega)]; exact hT.2.2
  · rw [F1.J (by omega)]; exact hQ.2.2.1.1
  · rw [F1.J (by omega)]; exact hQ.2.2.1.2.1
  · rintro σ2 ⟨hX2, F2⟩
    exact Rt.s ⟨hX2, (F1.mono (fun r k z => by unfold WH; omega)).tr F2⟩
theorem f2_changePlaces (v : HV c r hs) (hX : XH c r hs tr sd σ h) {x y : Nat} (hx : x < cN c) (hy : y < cN c) : Rt (f_X2_changePlaces σ h (nI x) (nI y)) (fun u => XH (swC c x y) r [] (tr0 (cN c)) sd u h ∧ Fr (WH h) σ u) := by
  obtain ⟨ok, hr, hok⟩ := v
  obtain ⟨hQ, hT, -, -⟩ := hX
  unfold f_X2_changePlaces
  refine Rt.o (f0_exchange ok hQ.1 hx hy) ?_
  rintro σ1 ⟨hX1, F1⟩
  refine Rt.o (f2_beginAnew (swC_ok ok hx hy) hr.1 hr.2.1 hX1 (sd := sd) ⟨fun j hj => ?_, ?_⟩ ?_ ?_) ?_
  · rw [F1.I (by omega)]; exact hT.1 j hj
  · rw [F1.I (by omega)]; exact hT.2.2
  · rw [F1.J (by omega)]; exact hQ.2.2.1.1
  · rw [F1.J (by omega)]; exact hQ.2.2.1.2.1
  · rintro σ2 ⟨hX2, F2⟩
    exact Rt.s ⟨hX2, (F1.mono (fun r k z => by unfold WH; omega)).tr F2⟩
theorem rsR_ok {w u : Nat} (hr : 1 ≤ r 0 ∧ r 0 ≤ 3 ∧ 1 ≤ r 1 ∧ r 1 ≤ 8 ∧ r 2 ≤ 1 ∧ r 3 ≤ 50) (hw : okW w u) : 1 ≤ rsR r w u 0 ∧ rsR r w u 0 ≤ 3 ∧ 1 ≤ rsR r w u 1 ∧ rsR r w u 1 ≤ 8 ∧ rsR r w u 2 ≤ 1 ∧ rsR r w u 3 ≤ 50 := by
  unfold rsR
  rcases hw with ⟨rfl, a, b⟩ | ⟨rfl, a, b⟩ | ⟨rfl, a⟩ | ⟨rfl, a⟩
  · rw [if_pos rfl, if_neg (by decide), if_neg (by decide), if_neg (by decide)]; omega
  · rw [if_neg (by decide), if_pos rfl, if_neg (by decide), if_neg (by decide)]; omega
  · rw [if_neg (by decide), if_neg (by decide), if_pos rfl, if_neg (by decide)]; omega
  · rw [if_neg (by decide), if_neg (by decide), if_neg (by decide), if_pos rfl]; omega
theorem f2_put (v : HV c r hs) (hX : XH c r hs tr sd σ h) {w u : Nat} (hw4 : w < 4) (hw : okW w u) (hsu : f_X2_suits (nI w) (nI u) = some 1) : Rt (f_X2_put σ h (nI w) (nI u)) (fun t => (w = 0 → XH c (rsR r 0 u) [] (tr0 (cN c)) sd t h) ∧ (w ≠ 0 → XH c (rsR r w u) hs tr sd t h) ∧ Fr (WH h) σ t) := by
  obtain ⟨ok, hr, hok⟩ := v
  obtain ⟨hQ, hT, hTr, hR⟩ := hX
  unfold f_X2_put
  rw [hsu, obd_s]
  refine Rt.f (by decide) (Rt.c (inb_nI hw4 (by decide)) ?_)
  dsimp only [bnd]
  rw [nI_clamp (by omega)]
  have F1 : Fr (fun r k => r = h + 15 ∧ k = w) σ (putI σ (h + 15) w (nI u)) := Fr.pI ⟨rfl, rfl⟩
  have R1 : ∀ k, k < 4 → gI (putI σ (h + 15) w (nI u)) (h + 15) k = nI (rsR r w u k) := fun k hk => by
    unfold rsR
    by_cases e : k = w
    · subst e; rw [gI_put_eq, if_pos rfl]
    · rw [gI_put_ne (Or.inr e), if_neg e]; exact hT.1 k hk
  generalize putI σ (h + 15) w (nI u) = σ1 at *
  by_cases e : w = 0
  · subst e
    refine Rt.t rfl (Rt.o (f2_beginAnew (r := rsR r 0 u) (sd := sd) ok (rsR_ok hr hw).1 (rsR_ok hr hw).2.1 (hQ.1.fr F1 (fun r k z => by omega)) ⟨R1, ?_⟩ ?_ ?_) ?_)
    · rw [F1.I (by omega)]; exact hT.2.2
    · rw [F1.J (by omega)]; exact hQ.2.2.1.1
    · rw [F1.J (by omega)]; exact hQ.2.2.1.2.1
    · rintro σ2 ⟨hX2, F2⟩
      exact Rt.s ⟨fun _ => hX2, fun z => absurd rfl z, (F1.mono (fun r k z => by unfold WH; omega)).tr F2⟩
  · refine Rt.f (by rw [i_0, nI_eq (by omega) (by omega)]; exact e) (Rt.s ⟨fun z => absurd z e, fun _ => ?_, F1.mono (fun r k z => by unfold WH; omega)⟩)
    have e0 : rsR r w u 0 = r 0 := if_neg (fun z => e z.symm)
    unfold XH
    rw [e0]
    refine ⟨hQ.fr F1 (fun r k z => by omega), ⟨R1, ⟨?_, fun k hk => ?_⟩, ?_⟩, ?_, ?_⟩
    · rw [F1.I (by omega)]; exact hT.2.1.1
    · rw [F1.I (by omega)]; exact hT.2.1.2 k hk
    · rw [F1.I (by omega)]; exact hT.2.2
    · rw [F1.I (by omega)]; exact hTr
    · rw [F1.J (by omega), F1.J (by omega)]; exact hR
end J2
/-! the invariant -/
def Shl (n : Nat) (σ : PH) (s : Nat) : Prop :=
  (gI σ 89 s = 0 ∧ gI σ (14 + 2 * s) 0 = -1) ∨
  (gI σ 89 s = 1 ∧ ∃ o z, o < 4 ∧ z ≤ 160 ∧ gI σ 90 s = nI o ∧ gI σ 91 s = nI z ∧ gI σ (14 + 2 * s) 0 = nI (100 + o) ∧ gI σ (14 + 2 * s) 1 = nI z ∧ ∀ i, i < z → gJ σ (15 + 2 * s) i = gJ σ 93 (160 * s + i)) ∨
  (gI σ 89 s = 2 ∧ ∃ x, x < n ∧ gI σ 92 s = nI x ∧ gI σ (14 + 2 * s) 0 = nI x)
def wdL : List Nat := [115, 105, 110, 103, 101, 114, 32, 0, 109, 111, 115, 116, 32, 0, 108, 101, 97, 115, 116, 32, 0, 110, 101, 97, 114, 32, 0, 101, 97, 114, 32, 0, 104, 101, 97, 114, 100, 32, 0, 115, 119, 97, 112, 32, 0]
def nmL : List Nat := [3, 1, 1, 1, 1, 2, 2]
def cnst (σ : PH) : Prop := (∀ k, k < 45 → gI σ 95 k = nI (wdL.getD k 0)) ∧ ∀ k, k < 7 → gI σ 96 k = nI (nmL.getD k 0)
def Rfs (j : Nat) (σ : PH) : Prop := ∀ k, 1 ≤ k → k ≤ 7 → gI σ 2 k = gI σ 82 k + (if k = j then 1 else 0)
def Vcs (σ : PH) : Prop := gI σ 3 1 = gI σ 81 43 ∧ ∀ i, i < 20 → gI σ 4 i = gI σ 105 i
def Img (σ : PH) : Prop := (gI σ 0 9 = 0 ∧ gI σ 81 44 = 0) ∨ (gI σ 0 9 ≠ 0 ∧ gI σ 81 44 ≠ 0 ∧ ∃ c r hs tr sd, HV c r hs ∧ XH c r hs tr sd σ 64 ∧ MK 99 c r hs tr sd σ)
def Hls (d : PD) : Prop := (d.1 = 30 ∧ d.2.1 = 47) ∨ (d.1 = 47 ∧ d.2.1 = 30)
/-- all but the two halls and the shelves -/
def InR (j : Nat) (σ : PH) (d : PD) : Prop := Hls d ∧ Rfs j σ ∧ gI σ 0 10 = gI σ 81 8 ∧ Vcs σ ∧ cnst σ ∧ Img σ
def InA (j : Nat) (c : CV) (r : Nat → Nat) (hs : HS) (tr : Nat) (sd : Int32) (σ : PH) (d : PD) : Prop := InR j σ d ∧ HV c r hs ∧ XH c r hs tr sd σ d.1 ∧ MHl c r hs tr sd σ ∧ ∀ s, s < 8 → Shl (cN c) σ s
def Inv (σ : PH) (d : PD) : Prop := ∃ c r hs tr sd, InA 0 c r hs tr sd σ d
/-- what is nobody's state -/
def SCR (d : PD) (r k : Nat) : Prop := (5 ≤ r ∧ r ≤ 13) ∨ (d.2.1 ≤ r ∧ r ≤ d.2.1 + 16) ∨ (r = 81 ∧ ((25 ≤ k ∧ k ≤ 29) ∨ k = 34 ∨ (37 ≤ k ∧ k ≤ 39) ∨ k = 41)) ∨ r = 94 ∨ r = 97 ∨ r = 98 ∨ (100 ≤ r ∧ r ≤ 104)
theorem Inv.halls {σ : PH} {d : PD} (h : Inv σ d) : isHall d.1 ∧ isHall d.2.1 := by
  obtain ⟨c, r, hs, tr, sd, ⟨hd, -⟩, -⟩ := h
  rcases hd with ⟨a, b⟩ | ⟨a, b⟩
  · rw [a, b]; exact ⟨Or.inl rfl, Or.inr (Or.inl rfl)⟩
  · rw [a, b]; exact ⟨Or.inr (Or.inl rfl), Or.inl rfl⟩
theorem Shl.fr {n n' : Nat} {σ σ' : PH} {s : Nat} {W : Nat → Nat → Prop} (h : Shl n σ s) (hs : s < 8) (hn : n ≤ n') (f : Fr W σ σ') (hW : ∀ r k, W r k → ¬ ((14 ≤ r ∧ r ≤ 29) ∨ (89 ≤ r ∧ r ≤ 93))) : Shl n' σ' s := by
  have N : ∀ r k, ((14 ≤ r ∧ r ≤ 29) ∨ (89 ≤ r ∧ r ≤ 93)) → ¬ W r k := fun r k h z => hW r k z h
  unfold Shl
  rw [f.I (N 89 _ (by omega)), f.I (N 90 _ (by omega)), f.I (N 91 _ (by omega)), f.I (N 92 _ (by omega)), f.I (N (14 + 2 * s) 0 (by omega)), f.I (N (14 + 2 * s) 1 (by omega))]
  rcases h with h | ⟨h1, o, z, a1, a2, a3, a4, a5, a6, a7⟩ | ⟨h1, x, a1, a2, a3⟩
  · exact Or.inl h
  · refine Or.inr (Or.inl ⟨h1, o, z, a1, a2, a3, a4, a5, a6, fun i hi => ?_⟩)
    rw [f.J (N _ _ (by omega)), f.J (N _ _ (by omega))]
    exact a7 i hi
  · exact Or.inr (Or.inr ⟨h1, x, by omega, a2, a3⟩)
theorem Img.fr {σ σ' : PH} {W : Nat → Nat → Prop} (h : Img σ) (f : Fr W σ σ') (hW : ∀ r k, W r k → ¬ ((r = 0 ∧ k = 9) ∨ (r = 81 ∧ k = 44) ∨ (64 ≤ r ∧ r ≤ 80) ∨ r = 99)) : Img σ' := by
  have N : ∀ r k, ((r = 0 ∧ k = 9) ∨ (r = 81 ∧ k = 44) ∨ (64 ≤ r ∧ r ≤ 80) ∨ r = 99) → ¬ W r k := fun r k h z => hW r k z h
  unfold Img
  rw [f.I (N 0 9 (by omega)), f.I (N 81 44 (by omega))]
  rcases h with h | ⟨h1, h2, c, r, hs, tr, sd, v, X, M⟩
  · exact Or.inl h
  · exact Or.inr ⟨h1, h2, c, r, hs, tr, sd, v, X.fr f (fun r k z => by have := hW r k z; omega), M.fr f (fun k => N _ _ (by omega))⟩
theorem InR.fr {j : Nat} {σ σ' : PH} {d : PD} {W : Nat → Nat → Prop} (h : InR j σ d) (f : Fr W σ σ') (hW : ∀ r k, W r k → SCR d r k ∨ WH d.1 r k ∨ WM r k) : InR j σ' d := by
  obtain ⟨hd, hR, hF, hV, hC, hI⟩ := h
  have N : ∀ r k, ((r = 0 ∧ (k = 9 ∨ k = 10)) ∨ (1 ≤ r ∧ r ≤ 4) ∨ (r = 81 ∧ (k = 8 ∨ k = 43 ∨ k = 44)) ∨ (64 ≤ r ∧ r ≤ 80) ∨ r = 82 ∨ r = 95 ∨ r = 96 ∨ r = 99 ∨ r = 105) → ¬ W r k := fun r k h z => by
    rcases hW r k z with h1 | h1 | h1
    · unfold SCR at h1
      unfold Hls at hd
      omega
    · unfold WH at h1
      unfold Hls at hd
      omega
    · unfold WM at h1
      omega
  refine ⟨hd, fun k h1 h7 => ?_, ?_, ⟨?_, fun i hi => ?_⟩, ⟨fun k hk => ?_, fun k hk => ?_⟩, ?_⟩
  · rw [f.I (N 2 k (by omega)), f.I (N 82 k (by omega))]; exact hR k h1 h7
  · rw [f.I (N 0 10 (by omega)), f.I (N 81 8 (by omega))]; exact hF
  · rw [f.I (N 3 1 (by omega)), f.I (N 81 43 (by omega))]; exact hV.1
  · rw [f.I (N 4 i (by omega)), f.I (N 105 i (by omega))]; exact hV.2 i hi
  · rw [f.I (N 95 k (by omega))]; exact hC.1 k hk
  · rw [f.I (N 96 k (by omega))]; exact hC.2 k hk
  · exact hI.fr f (fun r k z hz => N r k (by omega) z)
theorem InA.mk' {j : Nat} {c : CV} {r : Nat → Nat} {hs : HS} {tr : Nat} {sd : Int32} {c' : CV} {r' : Nat → Nat} {hs' : HS} {tr' : Nat} {sd' : Int32} {σ σ' : PH} {d : PD} {W : Nat → Nat → Prop} (h : InA j c r hs tr sd σ d) (f : Fr W σ σ') (hW : ∀ r k, W r k → SCR d r k ∨ WH d.1 r k ∨ WM r k) (v : HV c' r' hs') (hn : cN c ≤ cN c') (X : XH c' r' hs' tr' sd' σ' d.1) (M : MHl c' r' hs' tr' sd' σ') : InA j c' r' hs' tr' sd' σ' d := by
  obtain ⟨hR, -, -, -, hS⟩ := h
  have hd := hR.1
  refine ⟨hR.fr f hW, v, X, M, fun s hs => (hS s hs).fr hs hn f (fun r k z => ?_)⟩
  rcases hW r k z with h1 | h1 | h1
  · unfold SCR at h1; unfold Hls at hd; omega
  · unfold WH at h1; unfold Hls at hd; omega
  · unfold WM at h1; omega
/-- only scratch -/
theorem InA.scr {j : Nat} {c : CV} {r : Nat → Nat} {hs : HS} {tr : Nat} {sd : Int32} {σ σ' : PH} {d : PD} {W : Nat → Nat → Prop} (h : InA j c r hs tr sd σ d) (f : Fr W σ σ') (hW : ∀ r k, W r k → SCR d r k) : InA j c r hs tr sd σ' d := by
  obtain ⟨hR, v, X, M, hS⟩ := id h
  have hd := hR.1
  refine h.mk' f (fun r k z => Or.inl (hW r k z)) v (Nat.le_refl _) (X.fr f (fun r k z => ?_)) (M.fr f (fun r k z => ?_))
  · have := hW r k z; unfold SCR at this; unfold Hls at hd; omega
  · have := hW r k z; unfold SCR at this; unfold WM; unfold Hls at hd; omega
/-- the class's cache, and scratch -/
theorem InA.ca {j : Nat} {c : CV} {r : Nat → Nat} {hs : HS} {tr : Nat} {sd : Int32} {σ σ' : PH} {d : PD} (h : InA j c r hs tr sd σ d) (f : Fr (WK d.1) σ σ') (hQ : XQ c (WL (cN c) (r 0)) σ' d.1) : InA j c r hs tr sd σ' d := by
  obtain ⟨hR, v, X, M, hS⟩ := id h
  have hd := hR.1
  refine h.mk' f (fun r k z => Or.inr (Or.inl (WK_WH _ _ _ z))) v (Nat.le_refl _) (X.k f hQ) (M.fr f (fun r k z => ?_))
  unfold WK at z; unfold WM; unfold Hls at hd; omega
theorem refuse_ok {c : CV} {r : Nat → Nat} {hs : HS} {tr : Nat} {sd : Int32} {σ : PH} {d : PD} (h : InA 0 c r hs tr sd σ d) {k : Nat} (h1 : 1 ≤ k) (h7 : k ≤ 7) {p : Int32} (hp : p = -nI k) : Rt (f_X8_refuse σ p) (fun u => u.1 = p ∧ InA k c r hs tr sd u.2 d ∧ Fr (fun r _ => r = 2) σ u.2) := by
  have facts : ∀ k, k < 8 → 1 ≤ k → ¬ (-1 : Int32) < -nI k ∧ ¬ (-nI k) < (-7 : Int32) ∧ inb (-(-nI k)) 8 = true ∧ (-(-nI k)).toNatClampNeg = k := by decide
  obtain ⟨f1, f2, f3, f4⟩ := facts k (by omega) h1
  subst hp
  unfold f_X8_refuse
  refine Rt.f f1 (Rt.f f2 (Rt.c f3 (Rt.c f3 ?_)))
  dsimp only [bnd]
  rw [f4]
  obtain ⟨⟨hd, hR, hF, hV, hC, hI⟩, v, X, M, hS⟩ := h
  have F : Fr (fun r k => r = 2) σ (putI σ 2 k (gI σ 2 k + 1)) := Fr.pI rfl
  have g : ∀ j, gI (putI σ 2 k (gI σ 2 k + 1)) 2 j = if j = k then gI σ 2 k + 1 else gI σ 2 j := fun j => by
    by_cases e : j = k
    · subst e; rw [gI_put_eq, if_pos rfl]
    · rw [gI_put_ne (Or.inr e), if_neg e]
  generalize putI σ 2 k (gI σ 2 k + 1) = σ1 at *
  refine Rt.s ⟨rfl, ⟨⟨hd, fun j j1 j7 => ?_, ?_, ⟨?_, fun i hi => ?_⟩, ⟨fun k hk => ?_, fun k hk => ?_⟩, hI.fr F (fun r k z => by omega)⟩, v, X.fr F (fun r k z => by unfold Hls at hd; omega), M.fr F (fun r k z => by unfold WM; omega), fun s hs => (hS s hs).fr hs (Nat.le_refl _) F (fun r k z => by omega)⟩, F⟩
  · dsimp only
    rw [g, F.I (by omega)]
    have := hR j j1 j7
    rw [if_neg (by omega), Int32.add_zero] at this
    by_cases e : j = k
    · subst e; rw [if_pos rfl, if_pos rfl, this]
    · rw [if_neg e, if_neg e, Int32.add_zero, this]
  · dsimp only; rw [F.I (by omega), F.I (by omega)]; exact hF
  · dsimp only; rw [F.I (by omega), F.I (by omega)]; exact hV.1
  · dsimp only; rw [F.I (by omega), F.I (by omega)]; exact hV.2 i hi
  · dsimp only; rw [F.I (by omega)]; exact hC.1 k hk
  · dsimp only; rw [F.I (by omega)]; exact hC.2 k hk
theorem no_ok {c : CV} {r : Nat → Nat} {hs : HS} {tr : Nat} {sd : Int32} {σ : PH} {d : PD} {k : Nat} (h : InA k c r hs tr sd σ d) (h1 : 1 ≤ k) (h7 : k ≤ 7) {p : Int32} (hp : p = -nI k) : Rt (f_X9_no σ p) (fun u => u.1 = p ∧ InA 0 c r hs tr sd u.2 d) := by
  have facts : ∀ k, k < 8 → 1 ≤ k → inb (-(-nI k)) 8 = true ∧ (-(-nI k)).toNatClampNeg = k := by decide
  obtain ⟨f3, f4⟩ := facts k (by omega) h1
  subst hp
  unfold f_X9_no
  refine Rt.c f3 (Rt.c f3 ?_)
  dsimp only [bnd]
  rw [f4]
  obtain ⟨⟨hd, hR, hF, hV, hC, hI⟩, v, X, M, hS⟩ := h
  have F : Fr (fun r k => r = 82) σ (putI σ 82 k (gI σ 82 k + 1)) := Fr.pI rfl
  have g : ∀ j, gI (putI σ 82 k (gI σ 82 k + 1)) 82 j = if j = k then gI σ 82 k + 1 else gI σ 82 j := fun j => by
    by_cases e : j = k
    · subst e; rw [gI_put_eq, if_pos rfl]
    · rw [gI_put_ne (Or.inr e), if_neg e]
  generalize putI σ 82 k (gI σ 82 k + 1) = σ1 at *
  refine Rt.s ⟨rfl, ⟨hd, fun j j1 j7 => ?_, ?_, ⟨?_, fun i hi => ?_⟩, ⟨fun k hk => ?_, fun k hk => ?_⟩, hI.fr F (fun r k z => by omega)⟩, v, X.fr F (fun r k z => by unfold Hls at hd; omega), M.fr F (fun r k z => by unfold WM; omega), fun s hs => (hS s hs).fr hs (Nat.le_refl _) F (fun r k z => by omega)⟩
  · dsimp only
    rw [g, F.I (by omega)]
    have := hR j j1 j7
    rw [if_neg (show ¬ j = 0 by omega), Int32.add_zero]
    by_cases e : j = k
    · subst e; rw [if_pos rfl] at this ⊢; exact this
    · rw [if_neg e, Int32.add_zero] at this; rw [if_neg e]; exact this
  · dsimp only; rw [F.I (by omega), F.I (by omega)]; exact hF
  · dsimp only; rw [F.I (by omega), F.I (by omega)]; exact hV.1
  · dsimp only; rw [F.I (by omega), F.I (by omega)]; exact hV.2 i hi
  · dsimp only; rw [F.I (by omega)]; exact hC.1 k hk
  · dsimp only; rw [F.I (by omega)]; exact hC.2 k hk
