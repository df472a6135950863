section A1
variable {j : Nat} {c : CV} {r : Nat → Nat} {hs : HS} {tr : Nat} {sd : Int32} {σ σ' : PH} {d : PD}
theorem VM.mc {N : VL} {σ0 : PH} (h : VM N σ0 σ) (hM : MC c σ0) : MC c σ := hM.fr h.2.2.2 (fun r k z => by omega)
theorem app1 {N : VL} {b : Int32} : (N ++ [b]).length = N.length + 1 := by rw [List.length_append]; rfl
theorem sing9 {N : VL} {σ0 : PH} (ok : CVok c) (hM : MC c σ0) (h : VM N σ0 σ) (hN : N.length < 17) {x : Nat} (hx : x < cN c) (v : Int32) : Rt (f_X9_singing σ (nI x) v) (fun u => u.1 = sgV (cK c x) (nI x) (nI (cA_ c x)) v ∧ VM (N ++ sgN (cK c x)) σ0 u.2) := by
  have n8 := ok.1
  obtain ⟨ok1, -⟩ := ok.2.1 x hx
  have x8 : inb (nI x) 8 = true := inb_nI (by omega) (by decide)
  unfold f_X9_singing
  rw [chk_t x8, bnd_d, nI_clamp (by omega), ((h.mc hM).2 x hx).1]
  have l1 : ∀ b : Int32, (N ++ [b]).length < 18 := fun b => by rw [app1]; omega
  have l2 : ∀ a b : Int32, (N ++ [a] ++ [b]).length < 19 := fun a b => by rw [app1, app1]; omega
  have last : ∀ (N' : VL) (σ1 : PH), VM N' σ0 σ1 → N'.length < 20 → ∀ (P : Int32 × PH → Prop), (∀ u, VM (N' ++ [10]) σ0 u → Rt (bnd (v + nI x) fun v7 => if nI (cK c x) = 1 then (j_X9_singing_73 (nI x) (nI (cK c x)) u v7) else (if nI (cK c x) = 3 then (j_X9_singing_73 (nI x) (nI (cK c x)) u v7) else (j_X9_singing_84 (nI x) (nI (cK c x)) u v7))) P) → Rt (j_X9_singing_52 (nI x) v (nI (cK c x)) σ1) P := fun N' σ1 h1 hl P kk => by
    unfold j_X9_singing_52
    exact Rt.o (body_ok h1 hl 10) kk
  have h73 : ∀ (u : PH) (v7 : Int32) (P : Int32 × PH → Prop), MC c u → Rt (j_X9_singing_84 (nI x) (nI (cK c x)) u (v7 + nI (cA_ c x))) P → Rt (j_X9_singing_73 (nI x) (nI (cK c x)) u v7) P := fun u v7 P hMu hh => by
    unfold j_X9_singing_73
    rw [chk_t x8, bnd_d, nI_clamp (by omega), (hMu.2 x hx).2.1]
    exact hh
  rcases (show cK c x = 0 ∨ cK c x = 1 ∨ cK c x = 2 ∨ cK c x = 3 ∨ cK c x = 4 ∨ cK c x = 5 ∨ cK c x = 6 by omega) with e | e | e | e | e | e | e <;> rw [e] at last h73 ⊢
  · refine Rt.f (by decide) ?_
    unfold j_X9_singing_19 j_X9_singing_36
    refine Rt.f (by decide) (Rt.f (by decide) (Rt.f (by decide) (Rt.f (by decide) (last N σ h (by omega) _ (fun u hu => ?_)))))
    rw [bnd_d]
    unfold j_X9_singing_84 j_X9_singing_101
    exact Rt.f (by decide) (Rt.f (by decide) (Rt.f (by decide) (Rt.f (by decide) (Rt.f (by decide) (Rt.s ⟨rfl, hu⟩)))))
  · refine Rt.f (by decide) ?_
    unfold j_X9_singing_19 j_X9_singing_36
    refine Rt.f (by decide) (Rt.f (by decide) (Rt.t rfl ?_))
    unfold j_X9_singing_46
    refine Rt.o (body_ok h (by omega) 20) ?_
    intro u1 hu1
    refine last _ u1 hu1 (Nat.lt_trans (l1 _) (by decide)) _ (fun u hu => ?_)
    rw [bnd_d]
    refine Rt.t rfl (h73 _ _ _ (hu.mc hM) ?_)
    unfold j_X9_singing_84 j_X9_singing_101
    rw [List.append_assoc] at hu
    exact Rt.f (by decide) (Rt.f (by decide) (Rt.f (by decide) (Rt.s ⟨rfl, hu⟩)))
  · refine Rt.f (by decide) ?_
    unfold j_X9_singing_19 j_X9_singing_36
    refine Rt.f (by decide) (Rt.f (by decide) (Rt.f (by decide) (Rt.f (by decide) (last N σ h (by omega) _ (fun u hu => ?_)))))
    rw [bnd_d]
    unfold j_X9_singing_84 j_X9_singing_101
    exact Rt.f (by decide) (Rt.f (by decide) (Rt.f (by decide) (Rt.f (by decide) (Rt.f (by decide) (Rt.s ⟨rfl, hu⟩)))))
  · refine Rt.f (by decide) ?_
    unfold j_X9_singing_19 j_X9_singing_36
    refine Rt.f (by decide) (Rt.f (by decide) (Rt.f (by decide) (Rt.t rfl ?_)))
    unfold j_X9_singing_46
    refine Rt.o (body_ok h (by omega) 20) ?_
    intro u1 hu1
    refine last _ u1 hu1 (Nat.lt_trans (l1 _) (by decide)) _ (fun u hu => ?_)
    rw [bnd_d]
    refine Rt.f (by decide) (Rt.t rfl (h73 _ _ _ (hu.mc hM) ?_))
    unfold j_X9_singing_84 j_X9_singing_101
    rw [List.append_assoc] at hu
    exact Rt.f (by decide) (Rt.f (by decide) (Rt.f (by decide) (Rt.s ⟨rfl, hu⟩)))
  · refine Rt.f (by decide) ?_
    unfold j_X9_singing_19 j_X9_singing_30
    refine Rt.t rfl (Rt.o (body_ok h (by omega) 51) ?_)
    intro u1 hu1
    unfold j_X9_singing_36
    refine Rt.f (by decide) (Rt.f (by decide) (last _ u1 hu1 (Nat.lt_trans (l1 _) (by decide)) _ (fun u hu => ?_)))
    rw [bnd_d]
    unfold j_X9_singing_84 j_X9_singing_95 j_X9_singing_101
    rw [bnd_d]
    rw [List.append_assoc] at hu
    exact Rt.f (by decide) (Rt.f (by decide) (Rt.t rfl (Rt.f (by decide) (Rt.s ⟨rfl, hu⟩))))
  · refine Rt.f (by decide) ?_
    unfold j_X9_singing_19 j_X9_singing_36
    refine Rt.f (by decide) (Rt.f (by decide) (Rt.f (by decide) (Rt.f (by decide) (last N σ h (by omega) _ (fun u hu => ?_)))))
    rw [bnd_d]
    unfold j_X9_singing_84 j_X9_singing_101
    exact Rt.f (by decide) (Rt.f (by decide) (Rt.f (by decide) (Rt.f (by decide) (Rt.f (by decide) (Rt.s ⟨rfl, hu⟩)))))
  · refine Rt.t rfl (Rt.o (body_ok h (by omega) 70) ?_)
    intro u0 hu0
    unfold j_X9_singing_19 j_X9_singing_30
    refine Rt.f (by decide) (Rt.t rfl (Rt.o (body_ok hu0 (Nat.lt_trans (l1 _) (by decide)) 51) ?_))
    intro u1 hu1
    unfold j_X9_singing_36
    refine Rt.f (by decide) (Rt.f (by decide) (last _ u1 hu1 (Nat.lt_trans (l2 _ _) (by decide)) _ (fun u hu => ?_)))
    rw [bnd_d]
    unfold j_X9_singing_84 j_X9_singing_95 j_X9_singing_101
    rw [bnd_d]
    rw [List.append_assoc, List.append_assoc] at hu
    exact Rt.f (by decide) (Rt.f (by decide) (Rt.f (by decide) (Rt.t rfl (Rt.t rfl (Rt.s ⟨rfl, hu⟩)))))
theorem hear9 {N : VL} {σ0 : PH} (ok : CVok c) (hM : MC c σ0) (h : VM N σ0 σ) (hN : N.length < 15) {x : Nat} (hx : x < cN c) (v : Int32) : Rt (f_X9_hearing σ (nI x) v) (fun u => u.1 = hrV (cK c x) (cK c x) (nI x) (nI (cA_ c x)) v ∧ VM (N ++ hrN (cK c x) (cK c x)) σ0 u.2) := by
  have n8 := ok.1
  obtain ⟨ok1, -⟩ := ok.2.1 x hx
  have x8 : inb (nI x) 8 = true := inb_nI (by omega) (by decide)
  unfold f_X9_hearing
  rw [chk_t x8, bnd_d, nI_clamp (by omega), ((h.mc hM).2 x hx).1]
  have l1 : ∀ b : Int32, (N ++ [b]).length < 16 := fun b => by rw [app1]; omega
  have l2 : ∀ a b : Int32, (N ++ [a] ++ [b]).length < 17 := fun a b => by rw [app1, app1]; omega
  have last : ∀ (N' : VL) (σ1 : PH) (w : Int32) (z : Int32), VM N' σ0 σ1 → N'.length < 16 → Rt (j_X9_hearing_76 (nI x) w z σ1) (fun u => u.1 = (if z = 0 then sgV (cK c x) (nI x) (nI (cA_ c x)) w * 2 else sgV (cK c x) (nI x) (nI (cA_ c x)) w * 2 * 3) ∧ VM (N' ++ 11 :: sgN (cK c x)) σ0 u.2) := fun N' σ1 w z h1 hl => by
    unfold j_X9_hearing_76
    refine Rt.o (body_ok h1 (by omega) 11) ?_
    intro u1 hu1
    refine Rt.o (sing9 ok hM hu1 (by rw [app1]; omega) hx w) ?_
    rintro ⟨v2, u2⟩ ⟨e2, h2⟩
    rw [bnd_d]
    dsimp only at e2 h2 ⊢
    rw [List.append_assoc] at h2
    by_cases hz : z = 0
    · exact Rt.t hz (Rt.s ⟨by dsimp only; rw [if_pos hz, e2], h2⟩)
    · exact Rt.f hz (Rt.s ⟨by dsimp only; rw [if_neg hz, e2], h2⟩)
  rcases (show cK c x = 0 ∨ cK c x = 1 ∨ cK c x = 2 ∨ cK c x = 3 ∨ cK c x = 4 ∨ cK c x = 5 ∨ cK c x = 6 by omega) with e | e | e | e | e | e | e <;> rw [e] at last ⊢
  · refine Rt.f (by decide) ?_
    unfold j_X9_hearing_32 j_X9_hearing_48 j_X9_hearing_63
    refine Rt.f (by decide) (Rt.f (by decide) (Rt.f (by decide) (Rt.t rfl ?_)))
    exact last N σ v 0 h (by omega)
  · refine Rt.f (by decide) ?_
    unfold j_X9_hearing_32 j_X9_hearing_48 j_X9_hearing_63
    refine Rt.f (by decide) (Rt.f (by decide) (Rt.f (by decide) (Rt.t rfl ?_)))
    exact last N σ v 0 h (by omega)
  · refine Rt.f (by decide) ?_
    unfold j_X9_hearing_32 j_X9_hearing_48 j_X9_hearing_58 j_X9_hearing_63
    refine Rt.f (by decide) (Rt.t rfl (Rt.f (by decide) (Rt.o (body_ok h (by omega) 30) ?_)))
    intro u1 hu1
    refine (last _ u1 v 1 hu1 (l1 _)).m ?_
    rintro u ⟨a, b⟩
    rw [List.append_assoc] at b
    exact ⟨a, b⟩
  · refine Rt.f (by decide) ?_
    unfold j_X9_hearing_32
    refine Rt.t rfl (Rt.o (body_ok h (by omega) 40) ?_)
    intro u1 hu1
    rw [bnd_d]
    unfold j_X9_hearing_48 j_X9_hearing_63
    refine Rt.f (by decide) (Rt.f (by decide) (Rt.t rfl ?_))
    refine (last _ u1 (v + 1) 0 hu1 (l1 _)).m ?_
    rintro u ⟨a, b⟩
    rw [List.append_assoc] at b
    exact ⟨a, b⟩
  · refine Rt.f (by decide) ?_
    unfold j_X9_hearing_32 j_X9_hearing_48 j_X9_hearing_63
    refine Rt.f (by decide) (Rt.f (by decide) (Rt.f (by decide) (Rt.t rfl ?_)))
    exact last N σ v 0 h (by omega)
  · refine Rt.f (by decide) ?_
    unfold j_X9_hearing_32 j_X9_hearing_48 j_X9_hearing_58 j_X9_hearing_63
    refine Rt.f (by decide) (Rt.f (by decide) (Rt.t rfl (Rt.f (by decide) (Rt.o (body_ok h (by omega) 30) ?_))))
    intro u1 hu1
    refine (last _ u1 v 1 hu1 (l1 _)).m ?_
    rintro u ⟨a, b⟩
    rw [List.append_assoc] at b
    exact ⟨a, b⟩
  · refine Rt.t rfl (Rt.o (body_ok h (by omega) 71) ?_)
    intro u1 hu1
    rw [chk_t x8, bnd_d, ((hu1.mc hM).2 x hx).2.1]
    unfold j_X9_hearing_32 j_X9_hearing_48 j_X9_hearing_63
    refine Rt.f (by decide) (Rt.f (by decide) (Rt.f (by decide) (Rt.t rfl ?_)))
    refine (last _ u1 (v - nI (cA_ c x)) 0 hu1 (l1 _)).m ?_
    rintro u ⟨a, b⟩
    rw [List.append_assoc] at b
    exact ⟨a, b⟩
theorem lean9 {N : VL} {σ0 : PH} (ok : CVok c) (hM : MC c σ0) (h : VM N σ0 σ) (hN : N.length < 7) {x : Nat} (hx : x < cN c) (v : Int32) : Rt (f_X9_leaning σ (nI x) v) (fun u => u.1 = lnV (cK c x) (nI x) (nI (cA_ c x)) v ∧ VM (N ++ lnN (cK c x)) σ0 u.2) := by
  have n8 := ok.1
  obtain ⟨ok1, -⟩ := ok.2.1 x hx
  have x8 : inb (nI x) 8 = true := inb_nI (by omega) (by decide)
  have lh := hrN_le (cK c x) (cK c x)
  unfold f_X9_leaning
  rw [chk_t x8, bnd_d, nI_clamp (by omega), ((h.mc hM).2 x hx).1]
  have l1 : ∀ b : Int32, (N ++ [b]).length < 8 := fun b => by rw [app1]; omega
  have last : ∀ (N' : VL) (σ1 : PH), VM N' σ0 σ1 → N'.length < 8 → Rt (j_X9_leaning_35 (nI x) v (nI (cK c x)) σ1) (fun u => u.1 = lnV (cK c x) (nI x) (nI (cA_ c x)) v ∧ VM (N' ++ (12 :: (hrN (cK c x) (cK c x) ++ sgN (cK c x)))) σ0 u.2) := fun N' σ1 h1 hl => by
    unfold j_X9_leaning_35
    refine Rt.o (body_ok h1 (by omega) 12) ?_
    intro u1 hu1
    refine Rt.o (hear9 ok hM hu1 (by rw [app1]; omega) hx v) ?_
    rintro ⟨v2, u2⟩ ⟨e2, h2⟩
    dsimp only at e2 h2 ⊢
    rw [chk_t x8, nI_clamp (by omega), ((h2.mc hM).2 x hx).2.1]
    refine Rt.o (sing9 ok hM h2 (by rw [List.length_append, app1]; omega) hx (v - nI (cA_ c x))) ?_
    rintro ⟨v3, u3⟩ ⟨e3, h3⟩
    rw [bnd_d]
    dsimp only at e3 h3 ⊢
    rw [List.append_assoc, List.append_assoc] at h3
    rw [e2, e3]
    unfold lnV lnB
    by_cases q4 : cK c x = 4
    · exact Rt.t (by rw [q4]; rfl) (Rt.s ⟨by dsimp only; rw [if_pos (Or.inl q4)], h3⟩)
    · refine Rt.f (by rw [i_4, nI_eq (by omega) (by decide)]; exact q4) ?_
      by_cases q6 : cK c x = 6
      · exact Rt.t (by rw [q6]; rfl) (Rt.s ⟨by dsimp only; rw [if_pos (Or.inr q6)], h3⟩)
      · refine Rt.f (by rw [i_6, nI_eq (by omega) (by decide)]; exact q6) ?_
        by_cases q5 : cK c x = 5
        · exact Rt.t (by rw [q5]; rfl) (Rt.s ⟨by dsimp only; rw [if_neg (by omega), if_pos q5], h3⟩)
        · exact Rt.f (by rw [i_5, nI_eq (by omega) (by decide)]; exact q5) (Rt.s ⟨by dsimp only; rw [if_neg (by omega), if_neg q5], h3⟩)
  rcases (show cK c x = 4 ∨ cK c x = 6 ∨ cK c x = 5 ∨ (cK c x ≠ 4 ∧ cK c x ≠ 6 ∧ cK c x ≠ 5) by omega) with e | e | e | ⟨e4, e6, e5⟩
  · refine Rt.t (by rw [e]; rfl) ?_
    unfold j_X9_leaning_18 j_X9_leaning_24
    refine Rt.o (body_ok h (by omega) 50) ?_
    intro u1 hu1
    refine Rt.f (by rw [e]; decide) ((last _ u1 hu1 (l1 _)).m ?_)
    rintro u ⟨a, b⟩
    refine ⟨a, ?_⟩
    unfold lnN
    rw [if_pos (Or.inl e)]
    rw [List.append_assoc] at b
    exact b
  · refine Rt.f (by rw [e]; decide) (Rt.t (by rw [e]; rfl) ?_)
    unfold j_X9_leaning_18 j_X9_leaning_24
    refine Rt.o (body_ok h (by omega) 50) ?_
    intro u1 hu1
    refine Rt.f (by rw [e]; decide) ((last _ u1 hu1 (l1 _)).m ?_)
    rintro u ⟨a, b⟩
    refine ⟨a, ?_⟩
    unfold lnN
    rw [if_pos (Or.inr e)]
    rw [List.append_assoc] at b
    exact b
  · refine Rt.f (by rw [e]; decide) (Rt.f (by rw [e]; decide) ?_)
    unfold j_X9_leaning_24
    refine Rt.t (by rw [e]; rfl) (Rt.o (body_ok h (by omega) 60) ?_)
    intro u1 hu1
    refine (last _ u1 hu1 (l1 _)).m ?_
    rintro u ⟨a, b⟩
    refine ⟨a, ?_⟩
    unfold lnN
    rw [if_neg (by omega), if_pos e]
    rw [List.append_assoc] at b
    exact b
  · refine Rt.f (by rw [i_4, nI_eq (by omega) (by decide)]; exact e4) (Rt.f (by rw [i_6, nI_eq (by omega) (by decide)]; exact e6) ?_)
    unfold j_X9_leaning_24
    refine Rt.f (by rw [i_5, nI_eq (by omega) (by decide)]; exact e5) ((last _ σ h (by omega)).m ?_)
    rintro u ⟨a, b⟩
    refine ⟨a, ?_⟩
    unfold lnN
    rw [if_neg (by omega), if_neg e5]
    exact b
/-- a voice's change on both sides -/
theorem InA.voice (I : InA 0 c r hs tr sd σ d) {σ2 : PH} (F : Fr (fun r k => r = 3 ∨ r = 4 ∨ (r = 81 ∧ k = 43) ∨ r = 105) σ σ2) (hV : Vcs σ2) : InA 0 c r hs tr sd σ2 d := by
  obtain ⟨⟨hd, hR, hFt, -, hC, hI⟩, v, X, M, hS⟩ := I
  refine ⟨⟨hd, fun k h1 h7 => ?_, ?_, hV, ⟨fun k hk => ?_, fun k hk => ?_⟩, hI.fr F (fun r k z => by omega)⟩, v, X.fr F (fun r k z => by unfold Hls at hd; omega), M.fr F (fun r k z => by unfold WM; omega), fun s hs => (hS s hs).fr hs (Nat.le_refl _) F (fun r k z => by omega)⟩
  · rw [F.I (by omega), F.I (by omega)]; exact hR k h1 h7
  · rw [F.I (by omega), F.I (by omega)]; exact hFt
  · rw [F.I (by omega)]; exact hC.1 k hk
  · rw [F.I (by omega)]; exact hC.2 k hk
theorem st_act (σ : PH) (d : PD) (p1 p2 p3 : Int32) (hI : Inv σ d) : ∃ (u v : Int32 × PH), f_X8_act σ d p1 p2 p3 = some u ∧ f_X9_act u.2 p1 p2 p3 = some v ∧ u.1 = v.1 ∧ Inv v.2 d := by
  obtain ⟨c, r, hs, tr, sd, I⟩ := hI
  have hd := I.1.1
  have n8 := I.n8
  have V0 := I.1.2.2.2.1
  refine two (y := fun s => f_X9_act s p1 p2 p3) ?_
  unfold f_X8_act f_X6_silence
  rw [bnd_d, bnd_d, bnd_d]
  have F1 : Fr (fun r k => r = 3 ∧ k = 1) σ (putI σ 3 1 0) := Fr.pI ⟨rfl, rfl⟩
  have a31 : gI (putI σ 3 1 0) 3 1 = nI 0 := gI_put_eq
  generalize putI σ 3 1 0 = σ1 at *
  have X1 : XC c σ1 d.1 := I.xc.fr F1 (fun r k z => by unfold Hls at hd; omega)
  have s9 : ∀ (σ2 : PH), MC c σ2 → ∀ {x : Nat}, x < cN c → f_X9_isSinger σ2 (nI x) = 1 := fun σ2 hM {x} hx => by
    rcases f9_isSinger I.ok hM (nI x) with ⟨-, q⟩ | ⟨q, -⟩
    · exact absurd rfl (q x hx)
    · exact q
  -- nothing is done
  have none : (∀ (σ2 : PH), MC c σ2 → f_X9_isSinger σ2 p1 = 0 ∨ p2 < 0 ∨ ¬ p2 ≤ 2) → Rt (some ((0 : Int32), σ1)) (fun u => Rt (f_X9_act u.2 p1 p2 p3) (fun v => u.1 = v.1 ∧ Inv v.2 d)) := fun h => by
    refine Rt.s ?_
    dsimp only
    unfold f_X9_act
    rw [bnd_d, bnd_d]
    have F2 : Fr (fun r k => r = 81 ∧ k = 43) σ1 (putI σ1 81 43 0) := Fr.pI ⟨rfl, rfl⟩
    have a43 : gI (putI σ1 81 43 0) 81 43 = nI 0 := gI_put_eq
    generalize putI σ1 81 43 0 = σ2 at *
    have FF : Fr (fun r k => r = 3 ∨ r = 4 ∨ (r = 81 ∧ k = 43) ∨ r = 105) σ σ2 := (F1.mono (fun r k z => by omega)).tr (F2.mono (fun r k z => by omega))
    have I2 : InA 0 c r hs tr sd σ2 d := I.voice FF ⟨by rw [F2.I (by omega), a31, a43], fun i hi => by rw [F2.I (by omega), F1.I (by omega), F2.I (by omega), F1.I (by omega)]; exact V0.2 i hi⟩
    by_cases q : f_X9_isSinger σ2 p1 = 0
    · exact Rt.t q (Rt.s ⟨rfl, I2.inv⟩)
    · refine Rt.f q ?_
      by_cases q2 : p2 < 0
      · exact Rt.t q2 (Rt.s ⟨rfl, I2.inv⟩)
      · refine Rt.f q2 (Rt.f ?_ (Rt.s ⟨rfl, I2.inv⟩))
        rcases h σ2 I2.mc with h | h | h
        · exact absurd h q
        · exact absurd h q2
        · exact h
  rcases f0_has I.ok X1 p1 with ⟨q, hn⟩ | ⟨q, x, hx, rfl⟩
  · rw [q, if_pos rfl]
    refine none (fun σ2 hM => Or.inl ?_)
    rcases f9_isSinger I.ok hM p1 with ⟨q, -⟩ | ⟨-, x, hx, e⟩
    · exact q
    · exact absurd e (hn x hx)
  · rw [q, if_neg (by decide)]
    by_cases z0 : p2 < 0
    · rw [if_pos z0]
      exact none (fun _ _ => Or.inr (Or.inl z0))
    · rw [if_neg z0]
      by_cases z3 : p2 < 3
      · rw [if_pos z3]
        obtain ⟨a, ha, rfl⟩ := nI_of z0
        have a3 : a < 3 := by rw [i_3, nI_ltI ha (by decide)] at z3; exact z3
        have x8 : inb (nI x) 8 = true := inb_nI (by omega) (by decide)
        obtain ⟨ok1, -⟩ := I.ok.2.1 x hx
        -- the class's act
        have K : ∃ (v : Int32) (N : VL), N.length < 20 ∧ Rt (f_X6_perform σ1 d.1 (nI x) (nI a) p3) (fun u => u.1 = v ∧ gI u.2 3 1 = nI N.length ∧ (∀ i, i < N.length → gI u.2 4 i = N.getD i 0) ∧ (∀ i, N.length ≤ i → gI u.2 4 i = gI σ1 4 i) ∧ Fr (fun r _ => r = 3 ∨ r = 4) σ1 u.2) ∧ ∀ (σ2 : PH), MC c σ2 → gI σ2 81 43 = nI 0 → Rt (if nI a = 0 then (obd (f_X9_singing σ2 (nI x) p3) fun u10 => some (u10.1, u10.2)) else (if nI a = 1 then (obd (f_X9_hearing σ2 (nI x) p3) fun u9 => some (u9.1, u9.2)) else (obd (f_X9_leaning σ2 (nI x) p3) fun u8 => some (u8.1, u8.2)))) (fun u => u.1 = v ∧ VM N σ2 u.2) := by
          obtain ⟨b1, b2, b3, b4⟩ := X1.2.1 x hx
          have perf : ∀ (P : Int32 × PH → Prop), (∀ σ3, VC (cK c x) (nI x) (nI (cA_ c x)) [] σ1 σ3 → Rt (f_X6_run 22 σ3 (nI (cK c x)) (nI a) p3 (nI 0)) P) → Rt (f_X6_perform σ1 d.1 (nI x) (nI a) p3) P := fun P kk => by
            unfold f_X6_perform
            have ne : ∀ (σ : PH) (k : Nat) (v : Int32) (q i : Nat), q ≠ 3 → gI (putI σ 3 k v) q i = gI σ q i := fun σ k v q i hq => gI_put_ne (Or.inl hq)
            rw [bnd_d, q, if_neg (by decide), chk_t x8, bnd_d, nI_clamp (by omega), b1, bnd_d, chk_t x8, bnd_d, ne _ _ _ _ _ (by unfold Hls at hd; omega), ne _ _ _ _ _ (by unfold Hls at hd; omega), b2]
            have e2 : gI (putI (putI (putI σ1 3 2 (nI (cK c x))) 3 3 (nI x)) 3 4 (nI (cA_ c x))) 3 2 = nI (cK c x) := by rw [gI_put_ne (by omega), gI_put_ne (by omega), gI_put_eq]
            rw [e2]
            refine Rt.o (kk _ ⟨?_, fun i hi => absurd hi (Nat.not_lt_zero i), fun i _ => ?_, e2, ?_, gI_put_eq, ((Fr.pI (Or.inl rfl)).tr (Fr.pI (Or.inl rfl))).tr (Fr.pI (Or.inl rfl))⟩) (fun u hu => Rt.s hu)
            · rw [gI_put_ne (by omega), gI_put_ne (by omega), gI_put_ne (by omega)]; exact a31
            · rw [gI_put_ne (by omega), gI_put_ne (by omega), gI_put_ne (by omega)]
            · rw [gI_put_ne (by omega), gI_put_eq]
          have vm0 : ∀ σ2, gI σ2 81 43 = nI 0 → VM [] σ2 σ2 := fun σ2 h => ⟨h, fun i hi => absurd hi (Nat.not_lt_zero i), fun i _ => rfl, Fr.rf⟩
          have vcx : ∀ {N : VL} {u : PH}, VC (cK c x) (nI x) (nI (cA_ c x)) N σ1 u → gI u 3 1 = nI N.length ∧ (∀ i, i < N.length → gI u 4 i = N.getD i 0) ∧ (∀ i, N.length ≤ i → gI u 4 i = gI σ1 4 i) ∧ Fr (fun r _ => r = 3 ∨ r = 4) σ1 u := fun {N u} h => ⟨h.1, h.2.1, h.2.2.1, h.2.2.2.2.2.2⟩
          rcases (show a = 0 ∨ a = 1 ∨ a = 2 by omega) with rfl | rfl | rfl
          · refine ⟨sgV (cK c x) (nI x) (nI (cA_ c x)) p3, sgN (cK c x), Nat.lt_of_le_of_lt (sgN_le _) (by decide), ?_, fun σ2 hM h0 => ?_⟩
            · refine perf _ (fun σ3 h3 => (run_s (n := 19) h3 (by decide) (by omega) (by decide) p3).m ?_)
              rintro u ⟨e, hu⟩
              exact ⟨e, vcx hu⟩
            · refine Rt.t rfl (Rt.o (sing9 I.ok hM (vm0 σ2 h0) (by decide) hx p3) (fun u hu => Rt.s hu))
          · refine ⟨hrV (cK c x) (cK c x) (nI x) (nI (cA_ c x)) p3, hrN (cK c x) (cK c x), Nat.lt_of_le_of_lt (hrN_le _ _) (by decide), ?_, fun σ2 hM h0 => ?_⟩
            · refine perf _ (fun σ3 h3 => (run_h (by omega) (n := 17) h3 (by decide) (by omega) (by decide) p3).m ?_)
              rintro u ⟨e, hu⟩
              exact ⟨e, vcx hu⟩
            · refine Rt.f (by decide) (Rt.t rfl (Rt.o (hear9 I.ok hM (vm0 σ2 h0) (by decide) hx p3) (fun u hu => Rt.s hu)))
          · refine ⟨lnV (cK c x) (nI x) (nI (cA_ c x)) p3, lnN (cK c x), ?_, ?_, fun σ2 hM h0 => ?_⟩
            · have h1 := sgN_le (cK c x)
              have h2 := hrN_le (cK c x) (cK c x)
              have h3 : (if cK c x = 4 ∨ cK c x = 6 then ([50] : VL) else if cK c x = 5 then [60] else []).length ≤ 1 := by
                split
                · exact Nat.le_refl _
                · split <;> decide
              unfold lnN
              rw [List.length_append, List.length_cons, List.length_append]
              omega
            · refine perf _ (fun σ3 h3 => (run_l (by omega) (n := 15) h3 (by decide) (by decide) p3).m ?_)
              rintro u ⟨e, hu⟩
              exact ⟨e, vcx hu⟩
            · refine Rt.f (by decide) (Rt.f (by decide) (Rt.o (lean9 I.ok hM (vm0 σ2 h0) (by decide) hx p3) (fun u hu => Rt.s hu)))
        obtain ⟨v, N, hN, k8, k9⟩ := K
        refine Rt.o k8 ?_
        rintro ⟨v1, σ3⟩ ⟨e1, g1, g2, g3, F3⟩
        dsimp only at e1 g1 g2 g3 F3
        refine Rt.s ?_
        dsimp only
        unfold f_X9_act
        rw [bnd_d, bnd_d]
        have F4 : Fr (fun r k => r = 81 ∧ k = 43) σ3 (putI σ3 81 43 0) := Fr.pI ⟨rfl, rfl⟩
        have a43 : gI (putI σ3 81 43 0) 81 43 = nI 0 := gI_put_eq
        generalize putI σ3 81 43 0 = σ4 at *
        have FA : Fr (fun r k => r = 3 ∨ r = 4 ∨ (r = 81 ∧ k = 43)) σ σ4 := ((F1.mono (fun r k z => by omega)).tr (F3.mono (fun r k z => by omega))).tr (F4.mono (fun r k z => by omega))
        have M4 : MC c σ4 := I.mc.fr FA (fun r k z => by omega)
        rw [s9 σ4 M4 hx]
        refine Rt.f (by decide) (Rt.f z0 (Rt.t (by rw [i_2, nI_leI (by omega) (by decide)]; omega) ((k9 σ4 M4 a43).m ?_)))
        rintro ⟨v2, σ5⟩ ⟨e2, w1, w2, w3, F5⟩
        dsimp only at e2 w1 w2 w3 F5
        refine ⟨by dsimp only; rw [e1, e2], (I.voice ((FA.mono (fun r k z => by omega)).tr (F5.mono (fun r k z => by omega))) ⟨?_, fun i hi => ?_⟩).inv⟩
        · rw [F5.I (by omega), F4.I (by omega), g1, w1]
        · rw [F5.I (by omega), F4.I (by omega)]
          by_cases hi2 : i < N.length
          · rw [g2 i hi2, w2 i hi2]
          · rw [g3 i (by omega), F1.I (by omega), w3 i (by omega), FA.I (by omega)]; exact V0.2 i hi
      · rw [if_neg z3]
        refine none (fun _ _ => Or.inr (Or.inr ?_))
        rw [Int32.lt_iff_toInt_lt] at z3
        rw [Int32.le_iff_toInt_le]
        have : (3 : Int32).toInt = 3 := by decide
        have : (2 : Int32).toInt = 2 := by decide
        omega
end A1
