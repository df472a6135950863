/-! the numbers of an item, read in their order -/
def setV (v : Nat → Nat) (x y : Nat) : Nat → Nat := fun k => if k = x then y else v k
def numS (f : Nat → Int32) (c : CV) (m : Nat) (hs : HS) (w : Nat) : Nat → Nat → Nat → (Nat → Nat) → Bool × Nat × (Nat → Nat)
  | 0, _, q, v => (true, q, v)
  | k + 1, x, q, v => if f q = 32 then (if (ndS f (q + 1) 3 0 0).1 = 0 then (false, q + 1, v) else if okN c m hs w x (ndS f (q + 1) 3 0 0).2 (v 0) then numS f c m hs w k (x + 1) (q + 1 + (ndS f (q + 1) 3 0 0).1) (setV v x (ndS f (q + 1) 3 0 0).2) else (false, q + 1, v)) else (false, q, v)
theorem nm_f : ∀ w, w < 7 → sf 3 w = nI (nmL.getD w 0) ∧ nmL.getD w 0 ≤ 3 ∧ 0 < nmL.getD w 0 := by decide
theorem okN_0 (c : CV) (m : Nat) (hs : HS) (u v a b : Nat) : okN c m hs u 0 v a = okN c m hs u 0 v b := rfl
section ITEM
variable {S : LST} {sd : Int32} {σ : PH} {h : Nat} {T : Nat → Int32} {s z w : Nat}
theorem pick_v (v : Nat → Nat) {x : Nat} (hx : x < 3) : pick (v 0) (v 1) (v 2) x = v x := by
  unfold pick
  rcases (show x = 0 ∨ x = 1 ∨ x = 2 by omega) with rfl | rfl | rfl
  · rfl
  · rfl
  · rfl
def W56 (h : Nat) (r k : Nat) : Prop := r = 5 ∨ r = 6 ∨ WH h r k
theorem nums_8 (hs8 : s < 8) (hh : h = 30 ∨ h = 47) (hT : TX σ s z T) (v : VS S) (hX : XS S sd σ h) (hw : w < 7) (r0 : w = 0 → cN S.1 < 8) (r5 : w = 5 → S.2.2.1.length < 16) {q0 : Nat} (hq : q0 ≤ 170) (h2 : gI σ 5 2 = nI q0) : Rt (j_X3_readItem_49 (14 + 2 * s) h (nI w, σ)) (fun t => ((numS (sg T z) S.1 (S.2.1 0) S.2.2.1 w (nmL.getD w 0) 0 q0 (fun _ => 0)).1 = true → t.1 = 1 ∧ okA S w ((numS (sg T z) S.1 (S.2.1 0) S.2.2.1 w (nmL.getD w 0) 0 q0 (fun _ => 0)).2.2 0) ((numS (sg T z) S.1 (S.2.1 0) S.2.2.1 w (nmL.getD w 0) 0 q0 (fun _ => 0)).2.2 1) ((numS (sg T z) S.1 (S.2.1 0) S.2.2.1 w (nmL.getD w 0) 0 q0 (fun _ => 0)).2.2 2) ∧ XS (updL w ((numS (sg T z) S.1 (S.2.1 0) S.2.2.1 w (nmL.getD w 0) 0 q0 (fun _ => 0)).2.2 0) ((numS (sg T z) S.1 (S.2.1 0) S.2.2.1 w (nmL.getD w 0) 0 q0 (fun _ => 0)).2.2 1) ((numS (sg T z) S.1 (S.2.1 0) S.2.2.1 w (nmL.getD w 0) 0 q0 (fun _ => 0)).2.2 2) S) sd t.2 h ∧ gI t.2 5 2 = nI (numS (sg T z) S.1 (S.2.1 0) S.2.2.1 w (nmL.getD w 0) 0 q0 (fun _ => 0)).2.1 ∧ gI t.2 5 3 = gI σ 5 3 ∧ (numS (sg T z) S.1 (S.2.1 0) S.2.2.1 w (nmL.getD w 0) 0 q0 (fun _ => 0)).2.1 ≤ 170) ∧ ((numS (sg T z) S.1 (S.2.1 0) S.2.2.1 w (nmL.getD w 0) 0 q0 (fun _ => 0)).1 = false → t.1 = 0 ∧ gI t.2 5 3 = nI (numS (sg T z) S.1 (S.2.1 0) S.2.2.1 w (nmL.getD w 0) 0 q0 (fun _ => 0)).2.1) ∧ Fr (W56 h) σ t.2) := by
  obtain ⟨n1, n2, n3⟩ := nm_f w hw
  have h160 := hT.2.1
  unfold j_X3_readItem_49
  dsimp only
  generalize hH : numS (sg T z) S.1 (S.2.1 0) S.2.2.1 w (nmL.getD w 0) 0 q0 (fun _ => 0) = H
  refine lp_rule (I := fun m p => ∃ x q vv τ, p = (nI x, τ) ∧ m + x = nmL.getD w 0 ∧ q ≤ 170 ∧ numS (sg T z) S.1 (S.2.1 0) S.2.2.1 w m x q vv = H ∧ (∀ y, vv y ≤ 999) ∧ (∀ y, y < x → gI τ 6 y = nI (vv y) ∧ okN S.1 (S.2.1 0) S.2.2.1 w y (vv y) (vv 0) = true) ∧ gI τ 5 2 = nI q ∧ gI τ 5 3 = gI σ 5 3 ∧ XS S sd τ h ∧ Fr (W56 h) σ τ) _ ?_ FU (nmL.getD w 0) (0, σ) (FU_big (by omega)) ⟨0, q0, fun _ => 0, σ, rfl, rfl, hq, hH, fun _ => by show (0 : Nat) ≤ 999; decide, fun y hy => absurd hy (Nat.not_lt_zero y), h2, rfl, hX, Fr.rf⟩
  rintro m rec _ ⟨x, q, vv, τ, rfl, e1, e2, e3, e4, e5, e6, e7, e8, e9⟩ hrec
  have ci : inb (nI w) 7 = true := inb_nI hw (by decide)
  have Tτ : ∀ {τ' : PH}, Fr (W56 h) σ τ' → TX τ' s z T := fun f => hT.fr hs8 f (fun r k z => by unfold W56 WH at z; omega)
  unfold b_X3_readItem_52
  dsimp only
  refine Rt.c ci ?_
  rw [nI_clamp (by omega), n1]
  by_cases hx : nmL.getD w 0 ≤ x
  · have em : m = 0 := by omega
    subst em
    have e3' : (true, q, vv) = H := e3
    subst e3'
    refine Rt.t (nI_le hx (by omega)) ?_
    unfold j_X3_readItem_114
    dsimp only
    have oa : okA S w (vv 0) (vv 1) (vv 2) := ⟨hw, fun y hy => by rw [pick_v vv (by omega)]; exact (e5 y (by omega)).2, r0, r5, e4 0, e4 1, e4 2⟩
    refine Rt.o (tell_ok v e8 oa (fun y hy => by rw [pick_v vv (by omega)]; exact (e5 y (by omega)).1)) ?_
    intro t ⟨t1, t2⟩
    refine Rt.s ⟨fun _ => ⟨rfl, oa, t1, ?_, ?_, e2⟩, fun z => absurd z (by decide), e9.tr (t2.mono (fun r k z => Or.inr (Or.inr z)))⟩
    · dsimp only; rw [t2.I (by unfold WH; omega)]; exact e6
    · dsimp only; rw [t2.I (by unfold WH; omega)]; exact e7
  obtain ⟨m', rfl⟩ : ∃ m', m = m' + 1 := ⟨m - 1, by omega⟩
  refine Rt.f (by rw [nI_leI (by omega) (by omega)]; exact hx) ?_
  unfold numS at e3
  rw [stands_ok (x := (32 : Int32)) (b := 32) (Tτ e9) (by omega) e6 (by decide) rfl, obd_s]
  have i32 : nI 32 = (32 : Int32) := rfl
  rw [i32]
  have failed : ∀ {τ' : PH} {e : Nat}, (false, e, vv) = H → gI τ' 5 3 = nI e → Fr (W56 h) σ τ' → Rt (some ((0 : Int32), τ')) (fun t => (H.1 = true → t.1 = 1 ∧ okA S w (H.2.2 0) (H.2.2 1) (H.2.2 2) ∧ XS (updL w (H.2.2 0) (H.2.2 1) (H.2.2 2) S) sd t.2 h ∧ gI t.2 5 2 = nI H.2.1 ∧ gI t.2 5 3 = gI σ 5 3 ∧ H.2.1 ≤ 170) ∧ (H.1 = false → t.1 = 0 ∧ gI t.2 5 3 = nI H.2.1) ∧ Fr (W56 h) σ t.2) := fun {τ' e} eH g f => by
    subst eH
    exact Rt.s ⟨fun z => absurd (show false = true from z) (by decide), fun _ => ⟨rfl, g⟩, f⟩
  by_cases sp : sg T z q = 32
  · rw [if_pos sp] at e3 ⊢
    have hqz : q < z := (sg_in (b := 32) sp (by decide)).1
    refine Rt.f (show ¬ (1 : Int32) = 0 by decide) ?_
    dsimp only
    have F1 : Fr (W56 h) τ (putI τ 5 2 (nI (q + 1))) := Fr.pI (Or.inl rfl)
    have g2 : gI (putI τ 5 2 (nI (q + 1))) 5 2 = nI (q + 1) := gI_put_eq
    have g3 : gI (putI τ 5 2 (nI (q + 1))) 5 3 = gI σ 5 3 := by rw [gI_put_ne (Or.inr (by decide))]; exact e7
    have g6 : ∀ y, gI (putI τ 5 2 (nI (q + 1))) 6 y = gI τ 6 y := fun y => gI_put_ne (Or.inl (by decide))
    have X1 : XS S sd (putI τ 5 2 (nI (q + 1))) h := XH.fr e8 (W := fun r k => r = 5 ∧ k = 2) (Fr.pI ⟨rfl, rfl⟩) (fun r k z => by omega)
    generalize putI τ 5 2 (nI (q + 1)) = σ1 at *
    rw [bnd_d, g2]
    refine Rt.o (readNumber_ok (Tτ (e9.tr F1)) hs8 (q := q + 1) (x := x) (by omega) (by omega) g2) ?_
    rintro ⟨a, σ2⟩ ⟨k0, k1⟩
    dsimp only at k0 k1
    by_cases c0 : (ndS (sg T z) (q + 1) 3 0 0).1 = 0
    · obtain ⟨a0, a1⟩ := k0 c0
      rw [if_pos c0] at e3
      subst a0; subst a1
      exact Rt.t rfl (failed e3 gI_put_eq ((e9.tr F1).tr (Fr.pI (Or.inl rfl))))
    · obtain ⟨a0, a1, a2, a3, a4, a5⟩ := k1 c0
      rw [if_neg c0] at e3
      subst a0
      refine Rt.f (show ¬ (1 : Int32) = 0 by decide) ?_
      dsimp only
      generalize ndS (sg T z) (q + 1) 3 0 0 = N at *
      have X2 : XS S sd σ2 h := XH.fr X1 a5 (fun r k z => by omega)
      have F2 : Fr (W56 h) σ σ2 := (e9.tr F1).tr (a5.mono (fun r k z => by unfold W56; omega))
      refine Rt.o (fits_ok (u := w) (x := x) (y := N.2) (y0 := vv 0) v X2 hw (by omega) a3 (e4 0) a2 (fun hx1 => ?_)) ?_
      · obtain ⟨b1, b2⟩ := e5 0 (by omega)
        exact ⟨by rw [a5.I (by omega), g6]; exact b1, b2⟩
      rintro ⟨b, σ3⟩ ⟨b1, b2, b3⟩
      dsimp only at b1 b2 b3
      subst b1
      have F3 : Fr (W56 h) σ σ3 := F2.tr (b3.mono (fun r k z => Or.inr (Or.inr (WK_WH _ _ _ z))))
      cases ob : okN S.1 (S.2.1 0) S.2.2.1 w x N.2 (vv 0) with
      | false =>
        rw [ob, if_neg (by decide)] at e3
        refine Rt.t rfl ?_
        unfold j_X3_readItem_101 f_X3_fails
        rw [bnd_d, bnd_d]
        exact Rt.c (show (0 : Int32) &&& 1 = 0 by decide) (failed e3 gI_put_eq (F3.tr (Fr.pI (Or.inl rfl))))
      | true =>
        rw [ob, if_pos rfl] at e3
        refine Rt.f (show ¬ oI true = 0 by decide) ?_
        rw [bnd_d, nI_1]
        refine hrec m' _ (by omega) ⟨x + 1, _, _, σ3, rfl, by omega, by omega, e3, fun y => ?_, fun y hy => ?_, ?_, ?_, b2, F3⟩
        · unfold setV; split
          · exact a3
          · exact e4 y
        · by_cases y0 : y = x
          · subst y0
            have s1 : setV vv y N.2 y = N.2 := if_pos rfl
            rw [s1, b3.I (by unfold WK; omega)]
            refine ⟨a2, ?_⟩
            by_cases yz : y = 0
            · subst yz; rw [okN_0 _ _ _ _ _ _ (vv 0)]; exact ob
            · rw [show setV vv y N.2 0 = vv 0 from if_neg (fun z => yz z.symm)]; exact ob
          · obtain ⟨c1, c2⟩ := e5 y (by omega)
            rw [show setV vv x N.2 y = vv y from if_neg y0, b3.I (by unfold WK; omega), a5.I (by omega), g6]
            refine ⟨c1, ?_⟩
            by_cases xz : x = 0
            · omega
            · rw [show setV vv x N.2 0 = vv 0 from if_neg (fun z => xz z.symm)]; exact c2
        · rw [b3.I (by unfold WK; omega)]; exact a1
        · rw [b3.I (by unfold WK; omega), a5.I (by omega)]; exact g3
  · rw [if_neg sp] at e3 ⊢
    refine Rt.t rfl ?_
    exact failed e3 gI_put_eq (e9.tr (Fr.pI (Or.inl rfl)))
end ITEM
