/-! the class's way: a heap of parts -/
abbrev EN : Type := (Nat → Bool) × Nat
def Stk (L : List Nat) (S : List EN) (σ : PH) : Prop := gI σ 7 3 = nI S.length ∧ ∀ i e, S[i]? = some e → Rep (gJ σ 8 i) (gJ σ 9 i) (rp L e.1) ∧ gI σ 10 i = nI e.2
def eL (L : List Nat) (e : EN) : List Nat := L.filter e.1
def lS (L : List Nat) : List EN → Nat
  | [] => 0
  | e :: S => (eL L e).length + lS L S
def vS (c : CV) (le ne : Nat) (L : List Nat) : List EN → Nat × Nat × Nat
  | [] => (0, 0, 0)
  | e :: S => cm3 (gV c le ne (eL L e) e.2) (vS c le ne L S)
theorem lS_app (L : List Nat) (e : EN) : ∀ S, lS L (S ++ [e]) = lS L S + (eL L e).length
  | [] => by
    show (eL L e).length + 0 = 0 + (eL L e).length
    omega
  | a :: S => by
    show (eL L a).length + lS L (S ++ [e]) = (eL L a).length + lS L S + (eL L e).length
    rw [lS_app L e S]; omega
theorem cm3_0 (v : Nat × Nat × Nat) : cm3 (0, 0, 0) v = v := by
  unfold cm3
  have h : ∀ k, mx2 0 k = k := fun k => by unfold mx2; split <;> omega
  dsimp only
  rw [h, h, Nat.zero_add]
theorem cm3_0r (v : Nat × Nat × Nat) : cm3 v (0, 0, 0) = v := by rw [cm3_c, cm3_0]
theorem vS_app (c : CV) (le ne : Nat) (L : List Nat) (e : EN) : ∀ S, vS c le ne L (S ++ [e]) = cm3 (vS c le ne L S) (gV c le ne (eL L e) e.2)
  | [] => by
    show cm3 (gV c le ne (eL L e) e.2) (0, 0, 0) = cm3 (0, 0, 0) (gV c le ne (eL L e) e.2)
    rw [cm3_c]
  | a :: S => by
    show cm3 (gV c le ne (eL L a) a.2) (vS c le ne L (S ++ [e])) = cm3 (cm3 (gV c le ne (eL L a) a.2) (vS c le ne L S)) (gV c le ne (eL L e) e.2)
    rw [vS_app c le ne L e S, cm3_a]
def EOk (L : List Nat) (e : EN) : Prop := 0 < (eL L e).length ∧ e.2 + (eL L e).length ≤ 93
theorem lS_len {L : List Nat} : ∀ {S : List EN}, (∀ e ∈ S, EOk L e) → S.length ≤ lS L S
  | [], _ => Nat.le_refl _
  | a :: S, h => by
    have h1 := (h a List.mem_cons_self).1
    have h2 := lS_len (L := L) (S := S) (fun e he => h e (List.mem_cons_of_mem _ he))
    show S.length + 1 ≤ (eL L a).length + lS L S
    omega
theorem nI_1s (k : Nat) : nI (k + 1) - 1 = nI k := pk_sub (a := k + 1) (b := 1) (by omega)
def FW (r k : Nat) : Prop := (r = 7 ∧ (k = 3 ∨ k = 4 ∨ k = 6 ∨ k = 7)) ∨ r = 8 ∨ r = 9 ∨ r = 10
section F1
variable {c : CV} {σ : PH} {h : Nat} {L : List Nat}
theorem Stk.fr {S : List EN} {σ' : PH} {W : Nat → Nat → Prop} (hS : Stk L S σ) (f : Fr W σ σ') (hW : ∀ r k, W r k → ¬ ((r = 7 ∧ k = 3) ∨ r = 8 ∨ r = 9 ∨ r = 10)) : Stk L S σ' := by
  refine ⟨by rw [f.I (fun z => hW _ _ z (by omega))]; exact hS.1, fun i e he => ?_⟩
  rw [f.J (fun z => hW _ _ z (by omega)), f.J (fun z => hW _ _ z (by omega)), f.I (fun z => hW _ _ z (by omega))]
  exact hS.2 i e he
theorem f1_lay {S : List EN} (hS : Stk L S σ) (hl : S.length < 94) {lo hi : Int64} {P : Nat → Bool} (R : Rep lo hi (rp L P)) {x : Int32} {dp : Nat} (hx : x = nI dp) : Rt (f_X1_lay σ lo hi x) (fun u => Stk L (S ++ [(P, dp)]) u ∧ Fr (fun r k => (r = 7 ∧ k = 3) ∨ r = 8 ∨ r = 9 ∨ r = 10) σ u) := by
  subst hx
  unfold f_X1_lay
  refine Rt.f (by rw [hS.1, i_94, nI_leI (by decide) (by omega)]; omega) ?_
  have e7 : ∀ r k v, gI (putJ σ r k v) 7 3 = nI S.length := fun _ _ _ => hS.1
  have c7 := inb_nI (k := S.length) (N := 94) hl (by decide)
  refine Rt.c (by rw [hS.1]; exact c7) ?_
  rw [bnd_d, hS.1, nI_clamp (by omega)]
  refine Rt.c (by rw [e7]; exact c7) ?_
  rw [bnd_d, e7, nI_clamp (by omega)]
  have e8 : ∀ r k v r' k' v', gI (putJ (putJ σ r k v) r' k' v') 7 3 = nI S.length := fun _ _ _ _ _ _ => hS.1
  refine Rt.c (by rw [e8]; exact c7) ?_
  rw [bnd_d, e8, nI_clamp (by omega), bnd_d, gI_put_ne (r := 10) (q := 7) (Or.inl (by decide)), e8, nI_1]
  refine Rt.s ⟨⟨?_, fun i e he => ?_⟩, ?_⟩
  · rw [gI_put_eq, List.length_append]; rfl
  · rw [gJ_putI, gJ_putI, gJ_putI, gJ_putI, gI_put_ne (r := 7) (q := 10) (Or.inl (by decide))]
    by_cases hi' : i < S.length
    · rw [List.getElem?_append_left hi'] at he
      rw [gJ_put_ne (r := 9) (q := 8) (Or.inl (by decide)), gJ_put_ne (Or.inr (by omega)), gJ_put_ne (r := 9) (Or.inr (by omega)), gJ_put_ne (Or.inl (by decide)), gI_put_ne (Or.inr (by omega))]
      exact hS.2 i e he
    · by_cases e0 : i = S.length
      · subst e0
        rw [List.getElem?_append_right (Nat.le_refl _), Nat.sub_self] at he
        cases he
        rw [gJ_put_ne (r := 9) (q := 8) (Or.inl (by decide)), gJ_put_eq, gJ_put_eq, gI_put_eq]
        exact ⟨R, rfl⟩
      · rw [List.getElem?_eq_none (by rw [List.length_append, List.length_singleton]; omega)] at he
        cases he
  · exact ((((Fr.pJ (by omega)).tr (Fr.pJ (by omega))).tr (Fr.pI (by omega))).tr (Fr.pI (by omega)))
theorem f7_weightIn (ok : CVok c) (hL : XL c L σ h) (hl : L.length ≤ 92) {lo hi : Int64} {P : Nat → Bool} (R : Rep lo hi (rp L P)) : f_X7_weightIn σ h lo hi = some (lN (sumW c (L.filter P))) := by
  unfold f_X7_weightIn
  apply Rt.q
  have e3 : gI σ (h + 7) 3 = nI L.length := hL.1
  refine lp_acc (enc := fun (a : Nat) (i : Nat) => ((lN a, nI i) : Int64 × Int32)) L.length (fun a i => a = it (fun i x => if P (L.getD i 0) then x + wtC c (L.getD i 0) else x) 0 i) _ ?_ ?_ FU 0 0 (Nat.zero_le _) (FU_big (by omega)) rfl
  · intro rec a i hi' hJ hrec
    dsimp only [b_X7_weightIn_6, bnd]
    rw [e3, isIn_rp R hi' hl, nI_clamp (by omega), hL.2.2.1 i hi', nI_l (wtC_big ok _), lN_add, nI_1]
    refine Rt.f (by rw [nI_leI (by omega) (by omega)]; omega) ?_
    cases hb : P (L.getD i 0) with
    | false => exact Rt.t rfl (hrec a (by rw [it_s, ← hJ, hb]; rfl))
    | true => exact Rt.f (by decide) (Rt.c (inb_nI (by omega) (by decide)) (hrec _ (by rw [it_s, ← hJ, hb]; rfl)))
  · intro rec a hJ
    dsimp only [b_X7_weightIn_6, bnd]
    rw [e3]
    refine Rt.t (nI_le (Nat.le_refl _) (by omega)) (Rt.s ?_)
    rw [it_filter P (fun w x => x + wtC c w)] at hJ
    rw [hJ]; rfl
theorem el_so {P : Nat → Bool} {s y d : Nat} : eL L (fun w => P w && soC c s y w, d) = (L.filter P).filter (soC c s y) := by
  unfold eL
  rw [List.filter_filter]
  exact List.filter_congr (fun w _ => Bool.and_comm _ _)
theorem snoc_or : ∀ S : List EN, S = [] ∨ ∃ S' e, S = S' ++ [e]
  | [] => Or.inl rfl
  | a :: S => by
    rcases snoc_or S with h | ⟨S', e, h⟩
    · exact Or.inr ⟨[], a, by rw [h]; rfl⟩
    · exact Or.inr ⟨a :: S', e, by rw [h]; rfl⟩
def FK (h r k : Nat) : Prop := FW r k ∨ WK h r k
theorem f1_loop (ok : CVok c) (hh : 30 ≤ h) {le ne : Nat} (hle : le < 100) (hne : ne < 100) (h1 : gI σ (h + 15) 1 = nI le) (h2 : gI σ (h + 15) 2 = nI ne) (hQ : XQ c L σ h) {V a0 : Nat × Nat × Nat} {S0 : List EN} (hS0 : Stk L S0 σ) (hE : ∀ e ∈ S0, EOk L e) (hl : lS L S0 ≤ 92) (hG : G3 σ 7 6 7 4 a0) (hV : cm3 a0 (vS c le ne L S0) = V) (hV1 : V.1 ≤ 92) (hV2 : V.2.1 ≤ 93) : Rt (loopN (b_X1_follow_54 h) FU (0, σ)) (fun u => G3 u 7 6 7 4 V ∧ XQ c L u h ∧ Fr (FK h) σ u) := by
  have h92 := hQ.2.2.2
  have h9 := p2_9 ok.1
  refine lp_rule (I := fun m q => ∃ S a st, q.1 = nI st ∧ st + m ≤ 400 ∧ m + S.length = 2 * lS L S ∧ Stk L S q.2 ∧ (∀ e ∈ S, EOk L e) ∧ lS L S ≤ 92 ∧ G3 q.2 7 6 7 4 a ∧ cm3 a (vS c le ne L S) = V ∧ XQ c L q.2 h ∧ Fr (FK h) σ q.2) _ ?_ FU (2 * lS L S0 - S0.length) (0, σ) (FU_big (by omega)) ⟨S0, a0, 0, rfl, by omega, by have := lS_len hE; omega, hS0, hE, hl, hG, hV, hQ, Fr.rf⟩
  rintro m rec ⟨q, τ⟩ ⟨S, a, st, e1, e2, e3, e4, e5, e6, e7, e8, e9, e10⟩ hrec
  dsimp only at e1 e4 e7 e9 e10
  subst e1
  unfold b_X1_follow_54
  refine Rt.f (by rw [i_M, nI_leI (by decide) (by omega)]; omega) ?_
  dsimp only
  rw [e4.1]
  rcases snoc_or S with rfl | ⟨S', e, rfl⟩
  · refine Rt.t (by decide) (Rt.s ?_)
    rw [show vS c le ne L [] = (0, 0, 0) from rfl, cm3_0r] at e8
    rw [← e8]
    exact ⟨e7, e9, e10⟩
  · have eE := e5 e (List.mem_append.mpr (Or.inr (List.mem_singleton.mpr rfl)))
    have eS : ∀ e' ∈ S', EOk L e' := fun e' he => e5 e' (List.mem_append.mpr (Or.inl he))
    have sl := lS_len eS
    rw [lS_app] at e3 e6
    rw [vS_app] at e8
    rw [List.length_append, List.length_singleton] at e3 ⊢
    obtain ⟨P, dp⟩ := e
    refine Rt.f (by rw [i_0, nI_leI (by omega) (by decide)]; omega) ?_
    rw [bnd_d, nI_1s]
    obtain ⟨hR, hd⟩ := e4.2 S'.length (P, dp) (by rw [List.getElem?_append_right (Nat.le_refl _), Nat.sub_self]; rfl)
    have F1 : Fr (fun r k => r = 7 ∧ k = 3) τ (putI τ 7 3 (nI S'.length)) := Fr.pI ⟨rfl, rfl⟩
    have K1 : Stk L S' (putI τ 7 3 (nI S'.length)) := by
      refine ⟨gI_put_eq, fun i e he => ?_⟩
      rw [gJ_putI, gJ_putI, gI_put_ne (Or.inl (by decide))]
      have hi : i < S'.length := by
        rcases Nat.lt_or_ge i S'.length with z | z
        · exact z
        · rw [List.getElem?_eq_none z] at he; cases he
      exact e4.2 i e (by rw [List.getElem?_append_left hi]; exact he)
    have R1 : Rep (gJ (putI τ 7 3 (nI S'.length)) 8 S'.length) (gJ (putI τ 7 3 (nI S'.length)) 9 S'.length) (rp L P) := hR
    have D1 : gI (putI τ 7 3 (nI S'.length)) 10 S'.length = nI dp := by rw [gI_put_ne (Or.inl (by decide))]; exact hd
    have G1 : G3 (putI τ 7 3 (nI S'.length)) 7 6 7 4 a := e7.fr F1 (by omega) (by omega) (by omega)
    generalize putI τ 7 3 (nI S'.length) = σ1 at *
    have ci : inb (gI σ1 7 3) 94 = true := by rw [K1.1]; exact inb_nI (by omega) (by decide)
    refine Rt.c ci (Rt.c ci (Rt.c ci ?_))
    rw [K1.1, nI_clamp (by omega), D1]
    generalize gJ σ1 8 S'.length = lo at *
    generalize gJ σ1 9 S'.length = hi at *
    have FF1 : Fr (FK h) σ σ1 := e10.tr (F1.mono (fun r k z => by unfold FK FW; omega))
    have Q1 : XQ c L σ1 h := e9.fr F1 (fun r k z => by omega)
    refine Rt.o (f2_best ok Q1 (le := le) (by rw [FF1.I (by unfold FK FW WK; omega)]; exact h1) hle (ne := ne) (by rw [FF1.I (by unfold FK FW WK; omega)]; exact h2) hne R1) ?_
    rintro ⟨w, σ2⟩ ⟨b1, b2, b3⟩
    dsimp only at b1 b2 b3
    subst b1
    have K2 : Stk L S' σ2 := K1.fr b3 (fun r k z => by unfold WK at z; omega)
    have G2 : G3 σ2 7 6 7 4 a := G1.fr b3 (by unfold WK; omega) (by unfold WK; omega) (by unfold WK; omega)
    have FF2 : Fr (FK h) σ σ2 := FF1.tr (b3.mono (fun r k z => Or.inr z))
    have eP : eL L (P, dp) = L.filter P := rfl
    rw [eP] at e3 e6
    unfold EOk at eE
    rw [eP] at eE
    dsimp only at eE e8
    rw [eP] at e8
    have av1 : a.1 ≤ 92 := by
      have := mx2_l a.1 (cm3 (vS c le ne L S') (gV c le ne (L.filter P) dp)).1
      have e : V.1 = mx2 a.1 (cm3 (vS c le ne L S') (gV c le ne (L.filter P) dp)).1 := by rw [← e8]; rfl
      omega
    have av2 : a.2.1 ≤ 93 := by
      have := mx2_l a.2.1 (cm3 (vS c le ne L S') (gV c le ne (L.filter P) dp)).2.1
      have e : V.2.1 = mx2 a.2.1 (cm3 (vS c le ne L S') (gV c le ne (L.filter P) dp)).2.1 := by rw [← e8]; rfl
      omega
    dsimp only
    by_cases hn : nxC c le ne (L.filter P) = 0
    · rw [hn]
      refine Rt.t rfl ?_
      have hc : L.countP P = (L.filter P).length := List.countP_eq_length_filter ..
      rw [bnd_d, G2.1, mxI_nI (by omega) (by omega)]
      have F3 : Fr (FK h) σ2 (putI σ2 7 6 (nI (mx2 a.1 dp))) := Fr.pI (by unfold FK FW; omega)
      have g6 : gI (putI σ2 7 6 (nI (mx2 a.1 dp))) 7 6 = nI (mx2 a.1 dp) := gI_put_eq
      have g7 : gI (putI σ2 7 6 (nI (mx2 a.1 dp))) 7 7 = nI a.2.1 := by rw [gI_put_ne (Or.inr (by decide))]; exact G2.2.1
      have g4 : gJ (putI σ2 7 6 (nI (mx2 a.1 dp))) 7 4 = lN a.2.2 := G2.2.2
      have K3 : Stk L S' (putI σ2 7 6 (nI (mx2 a.1 dp))) := K2.fr (W := fun r k => r = 7 ∧ k = 6) (Fr.pI ⟨rfl, rfl⟩) (fun r k z => by omega)
      have Q3 : XQ c L (putI σ2 7 6 (nI (mx2 a.1 dp))) h := b2.fr (W := fun r k => r = 7 ∧ k = 6) (Fr.pI ⟨rfl, rfl⟩) (fun r k z => by omega)
      generalize putI σ2 7 6 (nI (mx2 a.1 dp)) = σ3 at *
      rw [bnd_d, f7_countIn R1, rp_cnt h92, hc, bnd_d, g7, mxI_nI (by omega) (by omega)]
      have F4 : Fr (FK h) σ3 (putI σ3 7 7 (nI (mx2 a.2.1 (L.filter P).length))) := Fr.pI (by unfold FK FW; omega)
      have k6 : gI (putI σ3 7 7 (nI (mx2 a.2.1 (L.filter P).length))) 7 6 = nI (mx2 a.1 dp) := by rw [gI_put_ne (Or.inr (by decide))]; exact g6
      have k7 : gI (putI σ3 7 7 (nI (mx2 a.2.1 (L.filter P).length))) 7 7 = nI (mx2 a.2.1 (L.filter P).length) := gI_put_eq
      have k4 : gJ (putI σ3 7 7 (nI (mx2 a.2.1 (L.filter P).length))) 7 4 = lN a.2.2 := g4
      have K4 : Stk L S' (putI σ3 7 7 (nI (mx2 a.2.1 (L.filter P).length))) := K3.fr (W := fun r k => r = 7 ∧ k = 7) (Fr.pI ⟨rfl, rfl⟩) (fun r k z => by omega)
      have Q4 : XQ c L (putI σ3 7 7 (nI (mx2 a.2.1 (L.filter P).length))) h := Q3.fr (W := fun r k => r = 7 ∧ k = 7) (Fr.pI ⟨rfl, rfl⟩) (fun r k z => by omega)
      generalize putI σ3 7 7 (nI (mx2 a.2.1 (L.filter P).length)) = σ4 at *
      rw [f7_weightIn ok Q4.2.1 h92 R1, obd_s, bnd_d, bnd_d, k4, nI_l (by omega), lN_mul, lN_add, nI_1]
      refine hrec (2 * lS L S' - S'.length) _ (by omega) ⟨S', cm3 a (dp, (L.filter P).length, dp * sumW c (L.filter P)), st + 1, rfl, by omega, by omega, K4.fr (W := fun r k => r = 7 ∧ k = 4) (Fr.pJ ⟨rfl, rfl⟩) (fun r k z => by omega), eS, by omega, ⟨k6, k7, gJ_put_eq⟩, ?_, Q4.fr (W := fun r k => r = 7 ∧ k = 4) (Fr.pJ ⟨rfl, rfl⟩) (fun r k z => by omega), ((FF2.tr F3).tr F4).tr (Fr.pJ (by unfold FK FW; omega))⟩
      rw [← e8, gV_lf hn, cm3_a, cm3_c (dp, (L.filter P).length, dp * sumW c (L.filter P))]
    · obtain ⟨d0, d1, d2⟩ := nx_split hn
      obtain ⟨s0, s1⟩ := lwC_set (nxC_ok hn).1
      rw [nN_p hn]
      rw [gV_nd hn] at e8
      generalize nxC c le ne (L.filter P) = s at *
      refine Rt.f (nI_nm1 (by omega)) ?_
      have lay : ∀ (σ5 : PH) (y : Nat), y < 2 → XQ c L σ5 h → ∀ (T : List EN), Stk L T σ5 → T.length < 94 → ∀ {Q : PH → Prop} {k : PH → Option PH} {X : PH → Prop}, (∀ σ8, XQ c L σ8 h → Stk L (T ++ [(fun w => P w && soC c s y w, dp + 1)]) σ8 → Fr (fun r k => WK h r k ∨ (r = 7 ∧ k = 3) ∨ r = 8 ∨ r = 9 ∨ r = 10) σ5 σ8 → Rt (k σ8) X) → Rt (obd (f_X7_lowBy σ5 h (nI s) (nI y) lo) fun u21 => obd (f_X7_highBy u21.2 h (nI s) (nI y) hi) fun u22 => obd (f_X1_lay u22.2 u21.1 u22.1 (nI dp + 1)) k) X := by
        intro σ5 y hy q5 T t5 tl Q k X hk
        refine Rt.o (f7_lowBy ok q5 s0 s1 lo) ?_
        rintro ⟨lo', σ6⟩ ⟨⟨A, B, RA, x1⟩, q6, f6⟩
        refine Rt.o (f7_highBy ok q6 s0 s1 hi) ?_
        rintro ⟨hi', σ7⟩ ⟨⟨A2, B2, RB, x2⟩, q7, f7⟩
        dsimp only at x1 x2 q6 q7 f6 f7
        have R2 := by_rep hy R1 RA RB x1 x2
        refine Rt.o (f1_lay (dp := dp + 1) ((t5.fr f6 (fun r k z => by unfold WK at z; omega)).fr f7 (fun r k z => by unfold WK at z; omega)) tl R2 (by rw [nI_1])) ?_
        intro σ8 ⟨t8, f8⟩
        exact hk σ8 (q7.fr f8 (fun r k z => by omega)) t8 (((f6.tr f7).mono (fun r k z => Or.inl z)).tr (f8.mono (fun r k z => Or.inr z)))
      refine lay σ2 1 (by decide) b2 S' K2 (by omega) (Q := fun _ => True) ?_
      intro σ8 q8 t8 f8
      refine lay σ8 0 (by decide) q8 _ t8 (by rw [List.length_append, List.length_singleton]; omega) (Q := fun _ => True) ?_
      intro σ9 q9 t9 f9
      rw [bnd_d, nI_1]
      have FF9 : Fr (fun r k => WK h r k ∨ (r = 7 ∧ k = 3) ∨ r = 8 ∨ r = 9 ∨ r = 10) σ2 σ9 := f8.tr f9
      have l2 : lS L (S' ++ [(fun w => P w && soC c s 1 w, dp + 1)] ++ [(fun w => P w && soC c s 0 w, dp + 1)]) = lS L S' + (L.filter P).length := by
        rw [lS_app, lS_app, el_so, el_so]; omega
      refine hrec (2 * (lS L S' + (L.filter P).length) - (S'.length + 2)) _ (by omega) ⟨_, a, st + 1, rfl, by omega, ?_, t9, ?_, by rw [l2]; omega, G2.fr FF9 (by unfold WK; omega) (by unfold WK; omega) (by unfold WK; omega), ?_, q9, FF2.tr (FF9.mono (fun r k z => by unfold WK at z; unfold FK FW WK; omega))⟩
      · rw [l2, List.length_append, List.length_append, List.length_singleton, List.length_singleton]; omega
      · intro e' he
        rw [List.mem_append, List.mem_append, List.mem_singleton, List.mem_singleton] at he
        rcases he with (he | rfl) | rfl
        · exact eS e' he
        · unfold EOk; rw [el_so]; dsimp only; omega
        · unfold EOk; rw [el_so]; dsimp only; omega
      · rw [vS_app, vS_app, el_so, el_so]
        dsimp only
        rw [← e8, cm3_a (vS c le ne L S'), cm3_c (gV c le ne ((L.filter P).filter (soC c s 1)) (dp + 1))]
end F1
section F2
variable {j : Nat} {c : CV} {r : Nat → Nat} {hs : HS} {tr : Nat} {sd : Int32} {σ σ' : PH} {d : PD}
/-- the class's cache, and its scratch -/
theorem InA.cs (I : InA j c r hs tr sd σ d) (f : Fr (fun r k => WK d.1 r k ∨ (5 ≤ r ∧ r ≤ 13)) σ σ') (hQ : XQ c (WL (cN c) (r 0)) σ' d.1) : InA j c r hs tr sd σ' d := by
  obtain ⟨hR, v, X, M, hS⟩ := id I
  have hd := hR.1
  refine I.mk' f (fun r k z => ?_) v (Nat.le_refl _) ⟨hQ, X.2.1.k f (fun r k z => by unfold WK at z; unfold Hls at hd; omega), ?_, ?_⟩ (M.fr f (fun r k z => ?_))
  · rcases z with z | z
    · exact Or.inr (Or.inl (WK_WH _ _ _ z))
    · exact Or.inl (by unfold SCR; omega)
  · rw [f.I (by unfold WK; unfold Hls at hd; omega)]; exact X.2.2.1
  · rw [f.J (by unfold WK; unfold Hls at hd; omega), f.J (by unfold WK; unfold Hls at hd; omega)]; exact X.2.2.2
  · unfold WK at z; unfold WM; unfold Hls at hd; omega
theorem follow_ok (I : InA j c r hs tr sd σ d) (hne : 0 < (psC c (r 0) hs).length) : Rt (f_X1_follow σ d.1) (fun u => G3 u 7 6 7 4 (gV c (r 1) (r 2) (psC c (r 0) hs) 0) ∧ gJ u 7 5 = lN (sumW c (psC c (r 0) hs)) ∧ InA j c r hs tr sd u d) := by
  have hd := I.1.1
  have hr := I.2.1.2.1
  have h92 := ps92 I
  have hh : 30 ≤ d.1 := by unfold Hls at hd; omega
  unfold f_X1_follow
  rw [bnd_d, bnd_d, bnd_d]
  have F3 : Fr (fun r k => r = 7) σ (putJ (putI (putI σ 7 6 0) 7 7 0) 7 4 0) := ((Fr.pI (by omega)).tr (Fr.pI (by omega))).tr (Fr.pJ (by omega))
  have g6 : gI (putJ (putI (putI σ 7 6 0) 7 7 0) 7 4 0) 7 6 = nI 0 := by rw [gI_putJ, gI_put_ne (Or.inr (by decide)), gI_put_eq]; rfl
  have g7 : gI (putJ (putI (putI σ 7 6 0) 7 7 0) 7 4 0) 7 7 = nI 0 := by rw [gI_putJ, gI_put_eq]; rfl
  have g4 : gJ (putJ (putI (putI σ 7 6 0) 7 7 0) 7 4 0) 7 4 = lN 0 := gJ_put_eq
  generalize putJ (putI (putI σ 7 6 0) 7 7 0) 7 4 0 = σ3 at *
  have I3 := I.scr F3 (fun r k z => by unfold SCR; omega)
  rw [f7_weightIn I3.ok I3.xq.2.1 I3.xq.2.2.2 I3.rep, obd_s, bnd_d, bnd_d]
  have F5 : Fr (fun r k => r = 7 ∧ (k = 5 ∨ k = 3)) σ3 (putI (putJ σ3 7 5 (lN (sumW c ((WL (cN c) (r 0)).filter (okH c hs))))) 7 3 0) := (Fr.pJ (by omega)).tr (Fr.pI (by omega))
  have g5 : gJ (putI (putJ σ3 7 5 (lN (sumW c ((WL (cN c) (r 0)).filter (okH c hs))))) 7 3 0) 7 5 = lN (sumW c (psC c (r 0) hs)) := by rw [gJ_putI, gJ_put_eq]; rfl
  have g3 : gI (putI (putJ σ3 7 5 (lN (sumW c ((WL (cN c) (r 0)).filter (okH c hs))))) 7 3 0) 7 3 = nI 0 := gI_put_eq
  generalize putI (putJ σ3 7 5 (lN (sumW c ((WL (cN c) (r 0)).filter (okH c hs))))) 7 3 0 = σ5 at *
  have I5 := I3.scr F5 (fun r k z => by unfold SCR; omega)
  refine Rt.o (f1_lay (L := WL (cN c) (r 0)) (S := []) (dp := 0) ⟨g3, fun i e he => by simp at he⟩ (by decide) I5.rep rfl) ?_
  intro σ6 ⟨t6, F6⟩
  have I6 := I5.scr F6 (fun r k z => by unfold SCR; omega)
  have vl := gV_le c (r 1) (r 2) 92 _ (psC c (r 0) hs) 0 (Nat.le_refl _) hne (by omega)
  refine (f1_loop I6.ok hh (le := r 1) (ne := r 2) (by omega) (by omega) (I6.2.2.1.2.1.1 1 (by decide)) (I6.2.2.1.2.1.1 2 (by decide)) I6.xq (V := gV c (r 1) (r 2) (psC c (r 0) hs) 0) (a0 := (0, 0, 0)) t6 ?_ ?_ ?_ ?_ vl.1 vl.2.1).m ?_
  · intro e he
    rw [List.nil_append, List.mem_singleton] at he
    subst he
    exact ⟨hne, by show 0 + (psC c (r 0) hs).length ≤ 93; omega⟩
  · show (psC c (r 0) hs).length + 0 ≤ 92
    omega
  · exact ⟨by rw [F6.I (by omega), F5.I (by omega)]; exact g6, by rw [F6.I (by omega), F5.I (by omega)]; exact g7, by rw [F6.J (by omega), F5.J (by omega)]; exact g4⟩
  · show cm3 (0, 0, 0) (cm3 (gV c (r 1) (r 2) (psC c (r 0) hs) 0) (0, 0, 0)) = _
    rw [cm3_0, cm3_0r]
  · intro u ⟨x1, x2, x3⟩
    refine ⟨x1, ?_, I6.cs (x3.mono (fun r k z => ?_)) x2⟩
    · rw [x3.J (by unfold FK FW WK; omega), F6.J (by omega)]; exact g5
    · rcases z with z | z
      · unfold FW at z; omega
      · exact Or.inl z
theorem st_by (σ : PH) (d : PD) (p1 : Int32) (hI : Inv σ d) : ∃ (u v : Int32 × PH), f_X8_by σ d p1 = some u ∧ f_X9_by u.2 p1 = some v ∧ u.1 = v.1 ∧ Inv v.2 d := by
  obtain ⟨c, r, hs, tr, sd, I⟩ := hI
  refine two (y := fun s => f_X9_by s p1) ?_
  have h92 := ps92 I
  unfold f_X8_by
  by_cases n0 : p1 < 0
  · rw [if_pos n0]
    refine rf5 I (fun s => f_X9_by s p1) (fun σ1 _ _ => ?_)
    unfold f_X9_by
    rw [if_pos n0]
  rw [if_neg n0]
  by_cases n2 : 2 < p1
  · rw [if_pos n2]
    refine rf5 I (fun s => f_X9_by s p1) (fun σ1 _ _ => ?_)
    unfold f_X9_by
    rw [if_neg n0, if_neg (fun z => ?_)]
    rw [Int32.le_iff_toInt_le] at z
    rw [Int32.lt_iff_toInt_lt] at n2
    omega
  rw [if_neg n2]
  have n2' : p1 ≤ 2 := by
    rw [Int32.lt_iff_toInt_lt] at n2
    rw [Int32.le_iff_toInt_le]; omega
  rw [bnd_d, I.poss]
  by_cases e0 : (psC c (r 0) hs).length = 0
  · rw [if_pos (by rw [e0]; rfl)]
    refine Rt.o (refuse_ok I (k := 5) (by decide) (by decide) (p := -5) (by decide)) ?_
    rintro ⟨v, σ1⟩ ⟨e1, I1, -⟩
    refine Rt.s ?_
    dsimp only at e1 I1 ⊢
    unfold f_X9_by
    refine Rt.f n0 (Rt.t n2' (Rt.o (f9_begins I1.2.1 I1.2.2.2.1) ?_))
    rintro ⟨w, σ2⟩ ⟨b1, b2, b3, b4, b5, b6, b7⟩
    dsimp only at b1 b7
    subst b1
    refine Rt.t (by rw [e0]; rfl) (Rt.o (no_ok (I1.scr b7 (SB_SCR d)) (by decide) (by decide) (by decide)) ?_)
    rintro ⟨w, σ3⟩ ⟨e2, I2⟩
    exact Rt.s ⟨e1.trans e2.symm, I2.inv⟩
  have ne : ¬ nI (psC c (r 0) hs).length = 0 := by rw [i_0, nI_eq (by omega) (by decide)]; exact e0
  have hpos : 0 < (psC c (r 0) hs).length := by omega
  rw [if_neg ne]
  refine Rt.o (follow_ok I hpos) ?_
  intro σ1 ⟨⟨x1, x2, x3⟩, x4, I1⟩
  have hmem : ∀ w ∈ psC c (r 0) hs, w ∈ WL (cN c) (r 0) := fun w hw => (List.mem_filter.mp hw).1
  have sp := sumW_pos I.ok I.m3 hmem hpos
  have sl := sumW_le I.ok I.m3 hmem h92
  have hlt : ∀ w ∈ psC c (r 0) hs, w < 256 := fun w hw => (psC_lt I.ok hw).2.1
  have M : ∀ A : Int32, (p1 = 0 → A = nI (gV c (r 1) (r 2) (psC c (r 0) hs) 0).1) → (p1 = 1 → A = ((1000 * lN (gV c (r 1) (r 2) (psC c (r 0) hs) 0).2.2) / lN (sumW c (psC c (r 0) hs))).toInt32) → (p1 ≠ 0 → p1 ≠ 1 → A = nI (gV c (r 1) (r 2) (psC c (r 0) hs) 0).2.1) → Rt (f_X9_by σ1 p1) (fun v => A = v.1 ∧ Inv v.2 d) := by
    intro A A0 A1 A2
    unfold f_X9_by
    refine Rt.f n0 (Rt.t n2' (Rt.o (f9_begins I1.2.1 I1.2.2.2.1) ?_))
    rintro ⟨w, σ2⟩ ⟨b1, b2, b3, b4, b5, b6, b7⟩
    dsimp only at b1 b2 b3 b4 b5 b6 b7
    subst b1
    have I2 := I1.scr b7 (SB_SCR d)
    refine Rt.f ne ?_
    dsimp only
    rw [bnd_d, bnd_d, bnd_d]
    have F3 : Fr (fun r k => r = 81 ∧ 37 ≤ k ∧ k ≤ 39) σ2 (putJ (putI (putI σ2 81 37 0) 81 38 0) 81 39 0) := ((Fr.pI (by omega)).tr (Fr.pI (by omega))).tr (Fr.pJ (by omega))
    have g6 : G3 (putJ (putI (putI σ2 81 37 0) 81 38 0) 81 39 0) 81 37 38 39 (0, 0, 0) := ⟨by rw [gI_putJ, gI_put_ne (Or.inr (by decide)), gI_put_eq]; rfl, by rw [gI_putJ, gI_put_eq]; rfl, gJ_put_eq⟩
    generalize putJ (putI (putI σ2 81 37 0) 81 38 0) 81 39 0 = σ3 at *
    have I3 := I2.scr F3 (fun r k z => by unfold SCR; omega)
    have lr : (List.range (psC c (r 0) hs).length).length = (psC c (r 0) hs).length := List.length_range
    have gb := f9_goesBy I3.ok h92 hlt 100 (List.range (psC c (r 0) hs).length) σ3 0 0 (0, 0, 0) I3.mc (b3.fr F3 (fun k z => by omega)) (fun t ht => by rw [F3.I (by omega)]; exact b2 t ht) (b4.fr F3 (fun k z1 z2 z => by omega)) (by omega) (by omega) (by omega) (by omega) (by omega) g6 (by decide) (by decide)
    rw [lr, bsL_range, cm3_0] at gb
    refine Rt.o gb ?_
    intro σ4 ⟨⟨y1, y2, y3⟩, F4⟩
    have I4 := I3.scr F4 (fun r k z => by unfold GW at z; unfold SCR; omega)
    have b24 : LsI σ4 101 (psC c (r 0) hs) := fun t ht => by rw [F4.I (by unfold GW; omega), F3.I (by omega)]; exact b2 t ht
    generalize hl : psC c (r 0) hs = l at *
    refine lp_acc (enc := fun (a : Nat) (i : Nat) => ((lN a, nI i) : Int64 × Int32)) l.length (fun a i => a = sumW c (l.take i)) _ ?_ ?_ FU 0 0 (Nat.zero_le _) (FU_big (by omega)) rfl
    · intro rec a i hi hJ hrec
      unfold b_X9_by_59
      dsimp only
      rw [nI_clamp (by omega), b24 i hi, f9_weight I4.ok I4.mc (hlt _ (getD_mem hi)), obd_s, bnd_d, bnd_d, nI_l (wtC_big I.ok _), lN_add, nI_1]
      refine Rt.f (by rw [nI_leI (by omega) (by omega)]; omega) (Rt.c (inb_nI (by omega) (by decide)) (hrec _ ?_))
      rw [sumW_snoc hi, ← hJ]
    · intro rec a hJ
      rw [List.take_length] at hJ
      unfold b_X9_by_59
      refine Rt.t (nI_le (Nat.le_refl _) (by omega)) ?_
      unfold j_X9_by_86
      dsimp only
      by_cases z0 : p1 = 0
      · exact Rt.t z0 (Rt.s ⟨by rw [A0 z0]; exact y1.symm, I4.inv⟩)
      · refine Rt.f z0 ?_
        by_cases z1 : p1 = 1
        · refine Rt.t z1 (Rt.c ?_ (Rt.s ⟨by rw [A1 z1, y3, hJ], I4.inv⟩))
          rw [hJ, show (0 : Int64) = lN 0 from rfl, lN_eq (by omega) (by decide)]; omega
        · exact Rt.f z1 (Rt.s ⟨by rw [A2 z0 z1]; exact y2.symm, I4.inv⟩)
  by_cases z0 : p1 = 0
  · rw [if_pos z0]
    exact Rt.s (M _ (fun _ => x1) (fun z => by rw [z0] at z; exact absurd z (by decide)) (fun z => absurd z0 z))
  rw [if_neg z0]
  by_cases z1 : p1 = 1
  · rw [if_pos z1]
    unfold f_X1_mean
    have nz : ¬ lN (sumW c (psC c (r 0) hs)) = 0 := by rw [show (0 : Int64) = lN 0 from rfl, lN_eq (by omega) (by decide)]; omega
    rw [x4, if_neg (fun z => nz ((lg_cmp_0 _).mp z)), chk_t nz, obd_s]
    exact Rt.s (M _ (fun z => absurd z z0) (fun _ => by dsimp only; rw [x3]) (fun _ z => absurd z1 z))
  · rw [if_neg z1]
    exact Rt.s (M _ (fun z => absurd z z0) (fun z => absurd z z1) (fun _ _ => x2))
end F2
