/-! the reference reads an item's numbers -/
def W9 (r k : Nat) : Prop := (r = 81 ∧ (k = 26 ∨ k = 28 ∨ k = 29 ∨ k = 34)) ∨ r = 97 ∨ r = 100 ∨ r = 101
theorem ndS_b (f : Nat → Int32) (q : Nat) : ∀ m k v, k + m = 3 → v + 1 ≤ 10 ^ k → (ndS f q m k v).1 ≤ 3 ∧ (ndS f q m k v).2 ≤ 999
  | 0, k, v, h, hv => by
    have : 10 ^ k ≤ 10 ^ 3 := Nat.pow_le_pow_right (by decide) (by omega)
    exact ⟨by show k ≤ 3; omega, by show v ≤ 999; omega⟩
  | m + 1, k, v, h, hv => by
    have p3 : 10 ^ k ≤ 10 ^ 3 := Nat.pow_le_pow_right (by decide) (by omega)
    have p10 : 10 ^ (k + 1) = 10 ^ k * 10 := Nat.pow_succ ..
    show (if dg f (q + k) then ndS f q m (k + 1) (10 * v + ((f (q + k)).toNatClampNeg - 48)) else (k, v)).1 ≤ 3 ∧ (if dg f (q + k) then ndS f q m (k + 1) (10 * v + ((f (q + k)).toNatClampNeg - 48)) else (k, v)).2 ≤ 999
    cases hd : dg f (q + k) with
    | false => exact ⟨by show k ≤ 3; omega, by show v ≤ 999; omega⟩
    | true =>
      obtain ⟨c, c1, c2, c3⟩ := dg_t hd
      rw [if_pos rfl, c1, nI_clamp (by omega)]
      exact ndS_b f q m (k + 1) _ (by omega) (by omega)
theorem ndS_999 (f : Nat → Int32) (q : Nat) : (ndS f q 3 0 0).2 ≤ 999 := (ndS_b f q 3 0 0 rfl (by decide)).2
theorem ndS_3 (f : Nat → Int32) (q : Nat) : (ndS f q 3 0 0).1 ≤ 3 := (ndS_b f q 3 0 0 rfl (by decide)).1
section ITEM9
variable {S : LST} {sd : Int32} {σ : PH} {T : Nat → Int32} {s z w : Nat}
theorem MT.fr {σ' : PH} {p p' : Nat} {W : Nat → Nat → Prop} (h : MT σ s z p) (f : Fr W σ σ') (hW : ∀ k, W 81 k → k ≠ 25 ∧ k ≠ 27) (g : gI σ' 81 26 = nI p') : MT σ' s z p' := ⟨by rw [f.I (fun y => (hW _ y).1 rfl)]; exact h.1, by rw [f.I (fun y => (hW _ y).2 rfl)]; exact h.2.1, g⟩
theorem nums_9 (hs8 : s < 8) (hT : TX σ s z T) (hC : cnst σ) (v : VS S) (hX : MS S sd σ) (hw : w < 7) (r0 : w = 0 → cN S.1 < 8) (r5 : w = 5 → S.2.2.1.length < 16) {q0 : Nat} (hq : q0 ≤ 170) (hsp : sg T z q0 = 32) (h2 : MT σ s z (q0 + 1)) (σ' : PH) : Rt (loopN (b_X9_item_57 (nI w, σ')) FU (0, σ)) (fun t => ((numS (sg T z) S.1 (S.2.1 0) S.2.2.1 w (nmL.getD w 0) 0 q0 (fun _ => 0)).1 = true → t.1 = 1 ∧ MS (updL w ((numS (sg T z) S.1 (S.2.1 0) S.2.2.1 w (nmL.getD w 0) 0 q0 (fun _ => 0)).2.2 0) ((numS (sg T z) S.1 (S.2.1 0) S.2.2.1 w (nmL.getD w 0) 0 q0 (fun _ => 0)).2.2 1) ((numS (sg T z) S.1 (S.2.1 0) S.2.2.1 w (nmL.getD w 0) 0 q0 (fun _ => 0)).2.2 2) S) sd t.2 ∧ gI t.2 81 26 = nI (numS (sg T z) S.1 (S.2.1 0) S.2.2.1 w (nmL.getD w 0) 0 q0 (fun _ => 0)).2.1) ∧ ((numS (sg T z) S.1 (S.2.1 0) S.2.2.1 w (nmL.getD w 0) 0 q0 (fun _ => 0)).1 = false → t.1 = 0 ∧ gI t.2 81 29 = nI (numS (sg T z) S.1 (S.2.1 0) S.2.2.1 w (nmL.getD w 0) 0 q0 (fun _ => 0)).2.1) ∧ Fr (fun r k => W9 r k ∨ WM r k) σ t.2) := by
  obtain ⟨n1, n2, n3⟩ := nm_f w hw
  have h160 := hT.2.1
  have c96 : gI σ 96 w = nI (nmL.getD w 0) := hC.2 w hw
  generalize hH : numS (sg T z) S.1 (S.2.1 0) S.2.2.1 w (nmL.getD w 0) 0 q0 (fun _ => 0) = H
  refine lp_rule (I := fun m p => ∃ x q vv τ, p = (nI x, τ) ∧ m + x = nmL.getD w 0 ∧ q ≤ 170 ∧ numS (sg T z) S.1 (S.2.1 0) S.2.2.1 w m x q vv = H ∧ (∀ y, vv y ≤ 999) ∧ (∀ y, y < x → gI τ 97 y = nI (vv y) ∧ okN S.1 (S.2.1 0) S.2.2.1 w y (vv y) (vv 0) = true) ∧ (x = 0 → sg T z q = 32) ∧ MT τ s z (if x = 0 then q + 1 else q) ∧ Fr W9 σ τ) _ ?_ FU (nmL.getD w 0) (0, σ) (FU_big (by omega)) ⟨0, q0, fun _ => 0, σ, rfl, rfl, hq, hH, fun _ => by show (0 : Nat) ≤ 999; decide, fun y hy => absurd hy (Nat.not_lt_zero y), fun _ => hsp, h2, Fr.rf⟩
  rintro m rec _ ⟨x, q, vv, τ, rfl, e1, e2, e3, e4, e5, e6, e7, e9⟩ hrec
  have ci : inb (nI w) 7 = true := inb_nI hw (by decide)
  have Tτ : ∀ {τ' : PH}, Fr W9 σ τ' → TX τ' s z T := fun f => hT.fr hs8 f (fun r k z => by unfold W9 at z; omega)
  have Mτ : ∀ {τ' : PH}, Fr W9 σ τ' → MS S sd τ' := fun f => MHl.fr hX f (fun r k z => by unfold W9 at z; unfold WM; omega)
  unfold b_X9_item_57
  dsimp only
  refine Rt.c ci ?_
  rw [nI_clamp (by omega), e9.I (r := 96) (by unfold W9; omega), c96]
  by_cases hx : nmL.getD w 0 ≤ x
  · have em : m = 0 := by omega
    subst em
    have e3' : (true, q, vv) = H := e3
    subst e3'
    refine Rt.t (nI_le hx (by omega)) ?_
    have oa : okA S w (vv 0) (vv 1) (vv 2) := ⟨hw, fun y hy => by rw [pick_v vv (by omega)]; exact (e5 y (by omega)).2, r0, r5, e4 0, e4 1, e4 2⟩
    refine (deed_ok v (Mτ e9) oa (fun y hy => by rw [pick_v vv (by omega)]; exact (e5 y (by omega)).1) σ').m ?_
    rintro ⟨a, t⟩ ⟨t1, t2, t3⟩
    refine ⟨fun _ => ⟨t1, t2, ?_⟩, fun z => absurd (show true = false from z) (by decide), (e9.mono (fun r k z => Or.inl z)).tr (t3.mono (fun r k z => Or.inr z))⟩
    have := e7.2.2
    rw [if_neg (by omega)] at this
    dsimp only
    rw [t3.I (by unfold WM; omega)]; exact this
  obtain ⟨m', rfl⟩ : ∃ m', m = m' + 1 := ⟨m - 1, by omega⟩
  refine Rt.f (by rw [nI_leI (by omega) (by omega)]; exact hx) ?_
  unfold numS at e3
  have failed : ∀ {τ' : PH} {e : Nat}, (false, e, vv) = H → gI τ' 81 29 = nI e → Fr W9 σ τ' → Rt (some ((0 : Int32), τ')) (fun t => (H.1 = true → t.1 = 1 ∧ MS (updL w (H.2.2 0) (H.2.2 1) (H.2.2 2) S) sd t.2 ∧ gI t.2 81 26 = nI H.2.1) ∧ (H.1 = false → t.1 = 0 ∧ gI t.2 81 29 = nI H.2.1) ∧ Fr (fun r k => W9 r k ∨ WM r k) σ t.2) := fun {τ' e} eH g f => by
    subst eH
    exact Rt.s ⟨fun z => absurd (show false = true from z) (by decide), fun _ => ⟨rfl, g⟩, f.mono (fun r k z => Or.inl z)⟩
  have body : sg T z q = 32 → ∀ (τ1 : PH), MT τ1 s z (q + 1) → Fr W9 σ τ1 → (∀ y, gI τ1 97 y = gI τ 97 y) → Rt (j_X9_item_121 (nI w, σ') (nI x, τ) rec τ1) (fun t => (H.1 = true → t.1 = 1 ∧ MS (updL w (H.2.2 0) (H.2.2 1) (H.2.2 2) S) sd t.2 ∧ gI t.2 81 26 = nI H.2.1) ∧ (H.1 = false → t.1 = 0 ∧ gI t.2 81 29 = nI H.2.1) ∧ Fr (fun r k => W9 r k ∨ WM r k) σ t.2) := by
    intro sp τ1 M1 F1 g97
    have hqz : q < z := (sg_in (b := 32) sp (by decide)).1
    rw [if_pos sp] at e3
    unfold j_X9_item_121
    dsimp only
    rw [bnd_d, M1.2.2]
    refine Rt.o (reads_ok (Tτ F1) hs8 (q := q + 1) (by omega) M1) ?_
    rintro ⟨a, σ2⟩ ⟨k0, k1⟩
    dsimp only at k0 k1
    by_cases c0 : (ndS (sg T z) (q + 1) 3 0 0).1 = 0
    · obtain ⟨a0, a1, a2⟩ := k0 c0
      rw [if_pos c0] at e3
      subst a0
      exact Rt.t rfl (failed e3 a1 (F1.tr (a2.mono (fun r k z => by unfold W9; omega))))
    · obtain ⟨a0, a1, a2, a5⟩ := k1 c0
      rw [if_neg c0] at e3
      subst a0
      refine Rt.f (show ¬ (1 : Int32) = 0 by decide) ?_
      dsimp only
      have a3 : (ndS (sg T z) (q + 1) 3 0 0).2 ≤ 999 := ndS_999 _ _
      have a4 : (ndS (sg T z) (q + 1) 3 0 0).1 ≤ 3 := ndS_3 _ _
      generalize ndS (sg T z) (q + 1) 3 0 0 = N at *
      have F2 : Fr W9 σ σ2 := F1.tr (a5.mono (fun r k z => by unfold W9; omega))
      refine Rt.o (isSo_ok (u := w) (x := x) (y := N.2) (y0 := vv 0) v (Mτ F2) hw (by omega) a3 (e4 0) a2 (fun hx1 => ?_)) ?_
      · obtain ⟨b1, b2⟩ := e5 0 (by omega)
        exact ⟨by rw [a5.I (by omega), g97]; exact b1, b2⟩
      rintro ⟨b, σ3⟩ ⟨b1, b3⟩
      dsimp only at b1 b3
      subst b1
      have F3 : Fr W9 σ σ3 := F2.tr (b3.mono (fun r k z => by unfold SP at z; unfold W9; omega))
      cases ob : okN S.1 (S.2.1 0) S.2.2.1 w x N.2 (vv 0) with
      | false =>
        rw [ob, if_neg (by decide)] at e3
        refine Rt.t rfl ?_
        unfold j_X9_item_144 f_X9_wrong
        rw [bnd_d, bnd_d]
        exact Rt.c (show (0 : Int32) &&& 1 = 0 by decide) (failed e3 gI_put_eq (F3.tr (Fr.pI (by unfold W9; omega))))
      | true =>
        rw [ob, if_pos rfl] at e3
        refine Rt.f (show ¬ oI true = 0 by decide) (Rt.c (inb_nI (by omega) (by decide)) ?_)
        rw [bnd_d, bnd_d, nI_1, nI_clamp (by omega), b3.I (r := 81) (k := 28) (by unfold SP; omega), a2]
        have F4 : Fr W9 σ (putI σ3 97 x (nI N.2)) := F3.tr (Fr.pI (by unfold W9; omega))
        refine hrec m' _ (by omega) ⟨x + 1, _, _, _, rfl, by omega, by omega, e3, fun y => ?_, fun y hy => ?_, fun z => absurd z (by omega), ?_, F4⟩
        · unfold setV; split
          · exact a3
          · exact e4 y
        · by_cases y0 : y = x
          · subst y0
            have s1 : setV vv y N.2 y = N.2 := if_pos rfl
            rw [s1, gI_put_eq]
            refine ⟨rfl, ?_⟩
            by_cases yz : y = 0
            · subst yz; rw [okN_0 _ _ _ _ _ _ (vv 0)]; exact ob
            · rw [show setV vv y N.2 0 = vv 0 from if_neg (fun z => yz z.symm)]; exact ob
          · obtain ⟨c1, c2⟩ := e5 y (by omega)
            rw [show setV vv x N.2 y = vv y from if_neg y0, gI_put_ne (Or.inr y0), b3.I (by unfold SP; omega), a5.I (by omega), g97]
            refine ⟨c1, ?_⟩
            by_cases xz : x = 0
            · omega
            · rw [show setV vv x N.2 0 = vv 0 from if_neg (fun z => xz z.symm)]; exact c2
        · rw [if_neg (by omega)]
          refine h2.fr F4 (fun k z => by unfold W9 at z; omega) ?_
          rw [gI_put_ne (Or.inl (by decide)), b3.I (by unfold SP; omega)]; exact a1
  by_cases x0 : x = 0
  · have sp := e6 x0
    rw [if_pos x0] at e7
    refine Rt.t (by rw [x0]; decide) ?_
    exact body sp τ e7 e9 (fun y => rfl)
  · rw [if_neg x0] at e7
    refine Rt.f (by rw [i_0, nI_leI (by omega) (by decide)]; omega) ?_
    rw [e7.1, e7.2.1, e7.2.2]
    have out : (false, q, vv) = H → Rt (j_X9_item_102 τ) (fun t => (H.1 = true → t.1 = 1 ∧ MS (updL w (H.2.2 0) (H.2.2 1) (H.2.2 2) S) sd t.2 ∧ gI t.2 81 26 = nI H.2.1) ∧ (H.1 = false → t.1 = 0 ∧ gI t.2 81 29 = nI H.2.1) ∧ Fr (fun r k => W9 r k ∨ WM r k) σ t.2) := fun eH => by
      unfold j_X9_item_102 f_X9_wrong
      rw [bnd_d, bnd_d, e7.2.2]
      exact Rt.c (show (0 : Int32) &&& 1 = 0 by decide) (failed eH gI_put_eq (e9.tr (Fr.pI (by unfold W9; omega))))
    by_cases qz : z ≤ q
    · have sp : ¬ sg T z q = 32 := by
        unfold sg; rw [if_neg (by omega)]; decide
      rw [if_neg sp] at e3
      exact Rt.t (nI_le qz (by omega)) (out e3)
    · obtain ⟨t1, t2⟩ := txt_ok hs8 (Tτ e9) (i := q) (by omega)
      refine Rt.f (by rw [nI_leI (by omega) (by omega)]; exact qz) (Rt.c t1 ?_)
      rw [t2]
      have es : sg T z q = T q := if_pos (by omega)
      by_cases sp : T q = 32
      · refine Rt.t sp ?_
        rw [bnd_d, nI_1]
        have F1 : Fr W9 τ (putI τ 81 26 (nI (q + 1))) := Fr.pI (by unfold W9; omega)
        exact body (es.trans sp) _ (e7.fr F1 (fun k z => by unfold W9 at z; omega) gI_put_eq) (e9.tr F1) (fun y => gI_put_ne (Or.inl (by decide)))
      · rw [if_neg (by rw [es]; exact sp)] at e3
        exact Rt.f sp (out e3)
end ITEM9
