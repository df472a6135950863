/-! the class's way: a heap of parts -/
abbrev EN : Type := (Nat → Bool) × Nat
def Stk (L : List Nat) (S : List EN) (σ : PH) : Prop := gI σ 7 3 = nI S.length ∧ ∀ i e, S[i]? = some e → Rep (gJ σ 8 i) (gJ σ 9 i) (rp L e.1) ∧ gI σ 10 i = nI e.2
def eL (L : List Nat) (e : EN) : List Nat := L.filter e.1
def lS (L : List Nat) : List EN → Nat
  | [] => 0
  | e :: S => (eL L e).length + lS L S
def vS (c : CV) (le ne : Nat) (L : List Nat) : List EN → Nat × Nat × Nat
  | [] => (0, 0, 0)
  | e :: S => cm3 (gV c le ne (eL L e) e.2) (vS c le ne L S)
theorem lS_app (L : List Nat) (e : EN) : ∀ S, lS L (S ++ [e]) = lS L S + (eL L e).length
  | [] => by unfold lS lS; omega
  | a :: S => by
    show (eL L a).length + lS L (S ++ [e]) = (eL L a).length + lS L S + (eL L e).length
    rw [lS_app L e S]; omega
theorem cm3_0 (v : Nat × Nat × Nat) : cm3 (0, 0, 0) v = v := by
  unfold cm3
  have h : ∀ k, mx2 0 k = k := fun k => by unfold mx2; split <;> omega
  dsimp only
  rw [h, h, Nat.zero_add]
theorem cm3_0r (v : Nat × Nat × Nat) : cm3 v (0, 0, 0) = v := by rw [cm3_c, cm3_0]
theorem vS_app (c : CV) (le ne : Nat) (L : List Nat) (e : EN) : ∀ S, vS c le ne L (S ++ [e]) = cm3 (vS c le ne L S) (gV c le ne (eL L e) e.2)
  | [] => by
    show cm3 (gV c le ne (eL L e) e.2) (0, 0, 0) = cm3 (0, 0, 0) (gV c le ne (eL L e) e.2)
    rw [cm3_c]
  | a :: S => by
    show cm3 (gV c le ne (eL L a) a.2) (vS c le ne L (S ++ [e])) = cm3 (cm3 (gV c le ne (eL L a) a.2) (vS c le ne L S)) (gV c le ne (eL L e) e.2)
    rw [vS_app c le ne L e S, cm3_a]
def EOk (L : List Nat) (e : EN) : Prop := 0 < (eL L e).length ∧ e.2 + (eL L e).length ≤ 93
theorem lS_len {L : List Nat} : ∀ {S : List EN}, (∀ e ∈ S, EOk L e) → S.length ≤ lS L S
  | [], _ => Nat.le_refl _
  | a :: S, h => by
    have h1 := (h a List.mem_cons_self).1
    have h2 := lS_len (L := L) (S := S) (fun e he => h e (List.mem_cons_of_mem _ he))
    show S.length + 1 ≤ (eL L a).length + lS L S
    omega
def FW (r k : Nat) : Prop := (r = 7 ∧ (k = 3 ∨ k = 4 ∨ k = 6 ∨ k = 7)) ∨ r = 8 ∨ r = 9 ∨ r = 10
section F1
variable {c : CV} {σ : PH} {h : Nat} {L : List Nat}
theorem Stk.fr {S : List EN} {σ' : PH} {W : Nat → Nat → Prop} (hS : Stk L S σ) (f : Fr W σ σ') (hW : ∀ r k, W r k → ¬ ((r = 7 ∧ k = 3) ∨ r = 8 ∨ r = 9 ∨ r = 10)) : Stk L S σ' := by
  refine ⟨by rw [f.I (fun z => hW _ _ z (by omega))]; exact hS.1, fun i e he => ?_⟩
  rw [f.J (fun z => hW _ _ z (by omega)), f.J (fun z => hW _ _ z (by omega)), f.I (fun z => hW _ _ z (by omega))]
  exact hS.2 i e he
theorem f1_lay {S : List EN} (hS : Stk L S σ) (hl : S.length < 94) {lo hi : Int64} {P : Nat → Bool} (R : Rep lo hi (rp L P)) {x : Int32} {dp : Nat} (hx : x = nI dp) : Rt (f_X1_lay σ lo hi x) (fun u => Stk L (S ++ [(P, dp)]) u ∧ Fr (fun r k => (r = 7 ∧ k = 3) ∨ r = 8 ∨ r = 9 ∨ r = 10) σ u) := by
  subst hx
  unfold f_X1_lay
  refine Rt.f (by rw [hS.1, i_94, nI_leI (by decide) (by omega)]; omega) ?_
  have e7 : ∀ r k v, gI (putJ σ r k v) 7 3 = nI S.length := fun _ _ _ => hS.1
  have c7 := inb_nI (k := S.length) (N := 94) hl (by decide)
  refine Rt.c (by rw [hS.1]; exact c7) ?_
  rw [bnd_d, hS.1, nI_clamp (by omega)]
  refine Rt.c (by rw [e7]; exact c7) ?_
  rw [bnd_d, e7, nI_clamp (by omega)]
  have e8 : ∀ r k v r' k' v', gI (putJ (putJ σ r k v) r' k' v') 7 3 = nI S.length := fun _ _ _ _ _ _ => hS.1
  refine Rt.c (by rw [e8]; exact c7) ?_
  rw [bnd_d, e8, nI_clamp (by omega), bnd_d, gI_put_ne (r := 10) (q := 7) (Or.inl (by decide)), e8, nI_1]
  refine Rt.s ⟨⟨?_, fun i e he => ?_⟩, ?_⟩
  · rw [gI_put_eq, List.length_append]; rfl
  · rw [gJ_putI, gJ_putI, gJ_putI, gJ_putI, gI_put_ne (r := 7) (q := 10) (Or.inl (by decide))]
    by_cases hi' : i < S.length
    · rw [List.getElem?_append_left hi'] at he
      rw [gJ_put_ne (r := 9) (q := 8) (Or.inl (by decide)), gJ_put_ne (Or.inr (by omega)), gJ_put_ne (r := 9) (Or.inr (by omega)), gJ_put_ne (Or.inl (by decide)), gI_put_ne (Or.inr (by omega))]
      exact hS.2 i e he
    · by_cases e0 : i = S.length
      · subst e0
        rw [List.getElem?_append_right (Nat.le_refl _), Nat.sub_self] at he
        cases he
        rw [gJ_put_ne (r := 9) (q := 8) (Or.inl (by decide)), gJ_put_eq, gJ_put_eq, gI_put_eq]
        exact ⟨R, rfl⟩
      · rw [List.getElem?_eq_none (by rw [List.length_append, List.length_singleton]; omega)] at he
        cases he
  · exact ((((Fr.pJ (by omega)).tr (Fr.pJ (by omega))).tr (Fr.pI (by omega))).tr (Fr.pI (by omega)))
theorem f7_weightIn (ok : CVok c) (hL : XL c L σ h) (hl : L.length ≤ 92) {lo hi : Int64} {P : Nat → Bool} (R : Rep lo hi (rp L P)) : f_X7_weightIn σ h lo hi = some (lN (sumW c (L.filter P))) := by
  unfold f_X7_weightIn
  apply Rt.q
  have e3 : gI σ (h + 7) 3 = nI L.length := hL.1
  refine lp_acc (enc := fun (a : Nat) (i : Nat) => ((lN a, nI i) : Int64 × Int32)) L.length (fun a i => a = it (fun i x => if P (L.getD i 0) then x + wtC c (L.getD i 0) else x) 0 i) _ ?_ ?_ FU 0 0 (Nat.zero_le _) (FU_big (by omega)) rfl
  · intro rec a i hi' hJ hrec
    dsimp only [b_X7_weightIn_6, bnd]
    rw [e3, isIn_rp R hi' hl, nI_clamp (by omega), hL.2.2.1 i hi', nI_l (wtC_big ok _), lN_add, nI_1]
    refine Rt.f (by rw [nI_leI (by omega) (by omega)]; omega) ?_
    cases hb : P (L.getD i 0) with
    | false => exact Rt.t rfl (hrec a (by rw [it_s, ← hJ, hb]; rfl))
    | true => exact Rt.f (by decide) (Rt.c (inb_nI (by omega) (by decide)) (hrec _ (by rw [it_s, ← hJ, hb]; rfl)))
  · intro rec a hJ
    dsimp only [b_X7_weightIn_6, bnd]
    rw [e3]
    refine Rt.t (nI_le (Nat.le_refl _) (by omega)) (Rt.s ?_)
    rw [it_filter P (fun w x => x + wtC c w)] at hJ
    rw [hJ]; rfl
theorem el_so {P : Nat → Bool} {s y d : Nat} : eL L (fun w => P w && soC c s y w, d) = (L.filter P).filter (soC c s y) := by
  unfold eL
  rw [List.filter_filter]
  exact List.filter_congr (fun w _ => Bool.and_comm _ _)
theorem f1_step (ok : CVok c) (hh : 30 ≤ h) {le ne : Nat} (hle : le < 100) (hne : ne < 100) {α : Type} : True := trivial
end F1
