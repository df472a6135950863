/-! the loft: items one after another -/
theorem numS_ge (f : Nat → Int32) (c : CV) (m : Nat) (hs : HS) (w : Nat) : ∀ (k x q : Nat) (v : Nat → Nat), q ≤ (numS f c m hs w k x q v).2.1 ∧ (numS f c m hs w k x q v).2.1 ≤ q + 4 * k
  | 0, _, q, _ => ⟨Nat.le_refl q, Nat.le_refl q⟩
  | k + 1, x, q, v => by
    have l3 := ndS_3 f (q + 1)
    unfold numS
    by_cases h : f q = 32
    · rw [if_pos h]
      by_cases h1 : (ndS f (q + 1) 3 0 0).1 = 0
      · rw [if_pos h1]
        exact ⟨Nat.le_succ q, by show q + 1 ≤ q + 4 * (k + 1); omega⟩
      · rw [if_neg h1]
        by_cases h2 : okN c m hs w x (ndS f (q + 1) 3 0 0).2 (v 0) = true
        · rw [if_pos h2]
          have := numS_ge f c m hs w k (x + 1) (q + 1 + (ndS f (q + 1) 3 0 0).1) (setV v x (ndS f (q + 1) 3 0 0).2)
          omega
        · rw [if_neg h2]
          exact ⟨Nat.le_succ q, by show q + 1 ≤ q + 4 * (k + 1); omega⟩
    · rw [if_neg h]
      exact ⟨Nat.le_refl q, by show q ≤ q + 4 * (k + 1); omega⟩
section LOFT
variable {f : Nat → Int32} {S S' : LST} {p e : Nat} {ok : Bool}
theorem Itm_le (hi : Itm f S p ok e S') : e ≤ p + 20 := by
  rcases hi with ⟨b, h1, -, h3⟩ | ⟨w, b, -, hw, ⟨-, -, h3⟩ | ⟨-, -, h3, -⟩⟩
  · rcases wrd_cases f p with ⟨b', b6, q1, -, -⟩ | ⟨w, b', -, -, -, q1, -⟩
    · rw [q1] at h1
      have : b' = b := (Prod.mk.inj h1).2
      omega
    · rw [q1] at h1; cases h1
  · omega
  · have l6 : (wd w).length ≤ 6 := (wd_f w hw).2.2.2.1
    obtain ⟨-, n2, -⟩ := nm_f w hw
    have := (numS_ge f S.1 (S.2.1 0) S.2.2.1 w (nmL.getD w 0) 0 (p + (wd w).length) (fun _ => 0)).2
    unfold numI at h3
    omega
theorem Itm_ge (hi : Itm f S p true e S') : p + 3 ≤ e := by
  rcases hi with ⟨b, -, h, -⟩ | ⟨w, b, -, hw, ⟨-, h, -⟩ | ⟨-, -, h3, -⟩⟩
  · cases h
  · cases h
  · have l3 : 3 ≤ (wd w).length := (wd_f w hw).2.2.1
    have := (numS_ge f S.1 (S.2.1 0) S.2.2.1 w (nmL.getD w 0) 0 (p + (wd w).length) (fun _ => 0)).1
    unfold numI at h3
    omega
theorem Itm_upd (v : VS S) (hi : Itm f S p true e S') : VS S' ∧ cN S.1 ≤ cN S'.1 := by
  rcases hi with ⟨b, -, h, -⟩ | ⟨w, b, -, hw, ⟨-, h, -⟩ | ⟨-, -, -, h3⟩⟩
  · cases h
  · cases h
  · obtain ⟨a, b⟩ := h3 rfl
    rw [b]
    exact updL_ok v a
end LOFT
/-- n items that go on, and a last one -/
def Ln (f : Nat → Int32) (z : Nat) : Nat → LST → Nat → Bool → Nat → LST → Prop
  | 0, S, p, ok, e, S' => ∃ k e1 S1, Itm f S p k e1 S1 ∧ ((k = false ∧ ok = false ∧ e = e1) ∨ (k = true ∧ z ≤ e1 ∧ ok = true ∧ e = e1 ∧ S' = S1) ∨ (k = true ∧ e1 < z ∧ f e1 ≠ nI 59 ∧ ok = false ∧ e = e1))
  | n + 1, S, p, ok, e, S' => ∃ e1 S1, Itm f S p true e1 S1 ∧ e1 < z ∧ f e1 = nI 59 ∧ Ln f z n S1 (e1 + 1) ok e S'
section LF
variable {sd : Int32} {T : Nat → Int32} {s z : Nat}
theorem goesOn_ok {σ : PH} (hT : TX σ s z T) {q : Nat} (hq : q ≤ 200) (h2 : gI σ 5 2 = nI q) : f_X3_goesOn σ (14 + 2 * s) = some (if z ≤ q then (0, σ) else if sg T z q = nI 59 then (1, putI σ 5 2 (nI (q + 1))) else (0, putI σ 5 3 (nI q))) := by
  have h160 := hT.2.1
  unfold f_X3_goesOn
  rw [hT.2.2.2.2.1, h2]
  by_cases y : z ≤ q
  · rw [if_pos y, if_pos (nI_le y (by omega))]
  · rw [if_neg y, if_neg (by rw [nI_leI (by omega) (by omega)]; exact y), stands_ok hT hq h2 (b := 59) (x := 59) (by decide) rfl, obd_s]
    by_cases y2 : sg T z q = nI 59
    · rw [if_pos y2]
      exact if_neg (show ¬ (1 : Int32) = 0 by decide)
    · rw [if_neg y2]
      exact if_pos (show (0 : Int32) = 0 from rfl)
theorem loft_8 {S0 : LST} {σ : PH} {d : PD} (hs8 : s < 8) (hh : d.2.1 = 30 ∨ d.2.1 = 47) (hT : TX σ s z T) (v : VS S0) (hX : XS S0 sd σ d.2.1) (h2 : gI σ 5 2 = nI 0) (h3 : gI σ 5 3 = -1) (P : (Int32 × PH × PD) → Prop) (yes : ∀ n S' e τ, Ln (sg T z) z n S0 0 true e S' → VS S' → cN S0.1 ≤ cN S'.1 → XS S' sd τ d.2.1 → gI τ 5 3 = -1 → Fr (W56 d.2.1) σ τ → n ≤ 160 → Rt (j_X8_loft_94 d (14 + 2 * s) (nI (n + 1)) τ) P) (no : ∀ n S' e c τ, Ln (sg T z) z n S0 0 false e S' → gI τ 5 3 = nI e → e ≤ 200 → Fr (W56 d.2.1) σ τ → n ≤ 160 → Rt (j_X8_loft_94 d (14 + 2 * s) c τ) P) : Rt (loopN (b_X8_loft_45 d (14 + 2 * s)) FU (0, 1, σ)) P := by
  have h160 := hT.2.1
  refine lp_rule (I := fun m q => (∃ i p S τ, q = (nI i, 1, τ) ∧ i ≤ p ∧ p ≤ 160 ∧ m + p = 162 ∧ VS S ∧ cN S0.1 ≤ cN S.1 ∧ XS S sd τ d.2.1 ∧ gI τ 5 2 = nI p ∧ gI τ 5 3 = -1 ∧ Fr (W56 d.2.1) σ τ ∧ ∀ n ok e S', Ln (sg T z) z n S p ok e S' → Ln (sg T z) z (i + n) S0 0 ok e S') ∨ (∃ c τ, q = (c, 0, τ) ∧ Rt (j_X8_loft_94 d (14 + 2 * s) c τ) P)) _ ?_ FU 162 (0, 1, σ) (FU_big (by decide)) (Or.inl ⟨0, 0, S0, σ, rfl, Nat.le_refl _, by decide, rfl, v, Nat.le_refl _, hX, h2, h3, Fr.rf, fun n ok e S' y => by rw [Nat.zero_add]; exact y⟩)
  rintro m rec _ hI hrec
  unfold b_X8_loft_45
  rcases hI with ⟨i, p, S, τ, rfl, e1, e2, e3, e4, e5, e6, e7, e8, e9, e10⟩ | ⟨c, τ, rfl, hc⟩
  · refine Rt.f (show ¬ (1 : Int32) = 0 by decide) (Rt.f (by dsimp only; rw [i_160, nI_ltI (by decide) (by omega)]; omega) ?_)
    dsimp only
    refine Rt.o (item_8 hs8 hh (hT.fr hs8 e9 (fun r k z => by unfold W56 WH at z; omega)) e4 e6 (p := p) (by omega) e7) ?_
    rintro ⟨a, τ1⟩ ⟨ok, e, S', hi, k1, k0, F⟩
    dsimp only at k1 k0 F
    have F' : Fr (W56 d.2.1) σ τ1 := e9.tr F
    cases ok with
    | false =>
      obtain ⟨a0, g3⟩ := k0 rfl
      subst a0
      have le := Itm_le hi
      refine Rt.t rfl ?_
      rw [bnd_d]
      exact hrec 0 _ (by omega) (Or.inr ⟨_, _, rfl, no i S' e _ τ1 (e10 0 false e S' ⟨false, e, S', hi, Or.inl ⟨rfl, rfl, rfl⟩⟩) g3 (by omega) F' (by omega)⟩)
    | true =>
      obtain ⟨a0, X1, g2, g3, le⟩ := k1 rfl
      subst a0
      have ge := Itm_ge hi
      obtain ⟨v1, n1⟩ := Itm_upd e4 hi
      refine Rt.f (show ¬ (1 : Int32) = 0 by decide) ?_
      dsimp only
      rw [goesOn_ok (hT.fr hs8 F' (fun r k z => by unfold W56 WH at z; omega)) (by omega) g2, obd_s, nI_1]
      by_cases y : z ≤ e
      · rw [if_pos y]
        refine Rt.t rfl ?_
        rw [bnd_d]
        exact hrec 0 _ (by omega) (Or.inr ⟨_, _, rfl, yes i S' e τ1 (e10 0 true e S' ⟨true, e, S', hi, Or.inr (Or.inl ⟨rfl, y, rfl, rfl, rfl⟩)⟩) v1 (by omega) X1 (by rw [g3]; exact e8) F' (by omega)⟩)
      · rw [if_neg y]
        by_cases y2 : sg T z e = nI 59
        · rw [if_pos y2]
          refine Rt.f (show ¬ (1 : Int32) = 0 by decide) ?_
          rw [bnd_d]
          have F2 : Fr (fun r k => r = 5 ∧ k = 2) τ1 (putI τ1 5 2 (nI (e + 1))) := Fr.pI ⟨rfl, rfl⟩
          have q2 : gI (putI τ1 5 2 (nI (e + 1))) 5 2 = nI (e + 1) := gI_put_eq
          dsimp only
          generalize putI τ1 5 2 (nI (e + 1)) = τ2 at *
          refine hrec (162 - (e + 1)) _ (by omega) (Or.inl ⟨i + 1, e + 1, S', τ2, rfl, by omega, by omega, by omega, v1, by omega, XH.fr X1 F2 (fun r k z => by omega), q2, by rw [F2.I (by omega), g3]; exact e8, F'.tr (F2.mono (fun r k z => Or.inl z.1)), fun n ok e' S'' y3 => ?_⟩)
          have := e10 (n + 1) ok e' S'' ⟨e, S', hi, by omega, y2, y3⟩
          rw [show i + 1 + n = i + (n + 1) by omega]
          exact this
        · rw [if_neg y2]
          refine Rt.t rfl ?_
          rw [bnd_d]
          exact hrec 0 _ (by omega) (Or.inr ⟨_, _, rfl, no i S' e _ _ (e10 0 false e S' ⟨true, e, S', hi, Or.inr (Or.inr ⟨rfl, by omega, y2, rfl, rfl⟩)⟩) gI_put_eq (by omega) (F'.tr (Fr.pI (Or.inl rfl))) (by omega)⟩)
  · exact Rt.t rfl hc
theorem loft_9 {S' : LST} {ok : Bool} {e : Nat} {σ0 : PH} (hs8 : s < 8) (hT : TX σ0 s z T) (hC : cnst σ0) (P : (Int32 × PH) → Prop) : ∀ n fuel S p i σ, n + 3 ≤ fuel → Ln (sg T z) z n S p ok e S' → VS S → MS S sd σ → MT σ s z p → p ≤ 162 → Fr (fun r k => W9 r k ∨ WM r k) σ0 σ → (ok = true → ∀ τ, MS S' sd τ → Fr (fun r k => W9 r k ∨ WM r k) σ0 τ → P (nI (i + n), τ)) → (ok = false → ∀ c τ, gI τ 81 29 = nI e → Fr (fun r k => W9 r k ∨ WM r k) σ0 τ → Rt (j_X9_loft_133 c 0 τ) P) → Rt (obd (f_X9_item σ) fun u => loopN b_X9_loft_62 fuel (nI i, u.1, u.2)) P := by
  have h160 := hT.2.1
  have W25 : ∀ r k, (W9 r k ∨ WM r k) → ¬ (r = 81 ∧ (k = 25 ∨ k = 27)) := fun r k z => by unfold W9 WM at z; omega
  have Wt : ∀ r k, (W9 r k ∨ WM r k) → ¬ ((14 ≤ r ∧ r ≤ 29) ∨ (89 ≤ r ∧ r ≤ 93)) := fun r k z => by unfold W9 WM at z; omega
  have Wc : ∀ k, ¬ (W9 95 k ∨ WM 95 k) ∧ ¬ (W9 96 k ∨ WM 96 k) := fun k => by unfold W9 WM; omega
  have Cf : ∀ {σ : PH}, Fr (fun r k => W9 r k ∨ WM r k) σ0 σ → cnst σ := fun F => ⟨fun k hk => by rw [F.I (Wc k).1]; exact hC.1 k hk, fun k hk => by rw [F.I (Wc k).2]; exact hC.2 k hk⟩
  intro n
  induction n with
  | zero =>
    intro fuel S p i σ hf hL v hM hMT hp F yes no
    obtain ⟨fu, rfl⟩ : ∃ fu, fuel = fu + 2 := ⟨fuel - 2, by omega⟩
    obtain ⟨k, e1, S1, hi, hc⟩ := hL
    refine Rt.o (item_9 hs8 (hT.fr hs8 F Wt) (Cf F) v hM hp hMT hi) ?_
    rintro ⟨a, τ⟩ ⟨t1, t0, F1⟩
    dsimp only at t1 t0 F1
    have F' : Fr (fun r k => W9 r k ∨ WM r k) σ0 τ := F.tr F1
    show Rt (b_X9_loft_62 (loopN b_X9_loft_62 (fu + 1)) (nI i, a, τ)) P
    unfold b_X9_loft_62
    dsimp only
    rcases hc with ⟨rfl, rfl, rfl⟩ | ⟨rfl, y, rfl, rfl, rfl⟩ | ⟨rfl, y, y2, rfl, rfl⟩
    · obtain ⟨a0, g29⟩ := t0 rfl
      subst a0
      exact Rt.t rfl (no rfl _ τ g29 F')
    · obtain ⟨a0, M1, g26⟩ := t1 rfl
      subst a0
      have le := Itm_le hi
      refine Rt.f (by decide) (Rt.t ?_ ?_)
      · rw [g26, F1.I (fun z => W25 _ _ z ⟨rfl, Or.inr rfl⟩), hMT.2.1]
        exact nI_le y (by omega)
      · unfold j_X9_loft_133
        exact Rt.f (by decide) (Rt.s (yes rfl τ M1 F'))
    · obtain ⟨a0, M1, g26⟩ := t1 rfl
      subst a0
      have T1 : TX τ s z T := hT.fr hs8 F' Wt
      obtain ⟨b1, b2⟩ := txt_ok hs8 T1 y
      have eS : sg T z e = T e := if_pos y
      rw [eS] at y2
      rw [F1.I (fun z => W25 _ _ z ⟨rfl, Or.inr rfl⟩), hMT.2.1, F1.I (fun z => W25 _ _ z ⟨rfl, Or.inl rfl⟩), hMT.1, g26]
      refine Rt.f (by decide) (Rt.f (by rw [nI_leI (by omega) (by omega)]; omega) (Rt.c b1 ?_))
      rw [b2]
      refine Rt.f y2 ?_
      unfold f_X9_wrong
      rw [bnd_d, bnd_d]
      show Rt (b_X9_loft_62 (loopN b_X9_loft_62 fu) (nI i, 0, putI τ 81 29 (nI e))) P
      unfold b_X9_loft_62
      dsimp only
      exact Rt.t rfl (no rfl _ _ gI_put_eq (F'.tr (Fr.pI (Or.inl (by unfold W9; omega)))))
  | succ n ih =>
    intro fuel S p i σ hf hL v hM hMT hp F yes no
    obtain ⟨fu, rfl⟩ : ∃ fu, fuel = fu + 1 := ⟨fuel - 1, by omega⟩
    obtain ⟨e1, S1, hi, y, y2, hL1⟩ := hL
    refine Rt.o (item_9 hs8 (hT.fr hs8 F Wt) (Cf F) v hM hp hMT hi) ?_
    rintro ⟨a, τ⟩ ⟨t1, -, F1⟩
    dsimp only at t1 F1
    have F' : Fr (fun r k => W9 r k ∨ WM r k) σ0 τ := F.tr F1
    obtain ⟨a0, M1, g26⟩ := t1 rfl
    subst a0
    have T1 : TX τ s z T := hT.fr hs8 F' Wt
    obtain ⟨b1, b2⟩ := txt_ok hs8 T1 y
    have eS : sg T z e1 = T e1 := if_pos y
    rw [eS] at y2
    have g25 : gI τ 81 25 = nI (160 * s) := by rw [F1.I (fun z => W25 _ _ z ⟨rfl, Or.inl rfl⟩)]; exact hMT.1
    have g27 : gI τ 81 27 = nI z := by rw [F1.I (fun z => W25 _ _ z ⟨rfl, Or.inr rfl⟩)]; exact hMT.2.1
    show Rt (b_X9_loft_62 (loopN b_X9_loft_62 fu) (nI i, 1, τ)) P
    unfold b_X9_loft_62
    dsimp only
    rw [g25, g27, g26]
    refine Rt.f (by decide) (Rt.f (by rw [nI_leI (by omega) (by omega)]; omega) (Rt.c b1 ?_))
    rw [b2]
    refine Rt.t y2 ?_
    rw [bnd_d, bnd_d, nI_1, nI_1]
    have F2 : Fr (fun r k => r = 81 ∧ k = 26) τ (putI τ 81 26 (nI (e1 + 1))) := Fr.pI ⟨rfl, rfl⟩
    have q2 : gI (putI τ 81 26 (nI (e1 + 1))) 81 26 = nI (e1 + 1) := gI_put_eq
    generalize putI τ 81 26 (nI (e1 + 1)) = τ2 at *
    have F3 : Fr (fun r k => W9 r k ∨ WM r k) σ0 τ2 := F'.tr (F2.mono (fun r k z => Or.inl (by unfold W9; omega)))
    obtain ⟨v1, -⟩ := Itm_upd v hi
    refine ih fu S1 (e1 + 1) (i + 1) τ2 (by omega) hL1 v1 (MHl.fr M1 F2 (fun r k z => by unfold WM; omega)) ⟨by rw [F2.I (by omega)]; exact g25, by rw [F2.I (by omega)]; exact g27, q2⟩ (by omega) F3 (fun h τ h1 h2 => ?_) no
    rw [show i + 1 + n = i + (n + 1) by omega]
    exact yes h τ h1 h2
end LF
