/-! the class's worlds -/
def XL (c : CV) (L : List Nat) (σ : PH) (h : Nat) : Prop := gI σ (h + 7) 3 = nI L.length ∧ LsI σ (h + 8) L ∧ (∀ t, t < L.length → gI σ (h + 9) t = nI (wtC c (L.getD t 0))) ∧ ∀ x, x < cN c → Rep (gJ σ (h + 10) x) (gJ σ (h + 11) x) (fun t => decide (t < L.length) && (L.getD t 0).testBit x)
def WA (h : Nat) : Nat → Nat → Prop := fun r k => (r = h + 7 ∧ k = 3) ∨ r = h + 8 ∨ r = h + 9 ∨ r = h + 10 ∨ r = h + 11
def WB (h : Nat) : Nat → Nat → Prop := fun r k => (r = h + 7 ∧ k = 3) ∨ r = h + 8 ∨ r = h + 9 ∨ r = h + 10 ∨ r = h + 11 ∨ r = h + 14
theorem XC.fr {c : CV} {σ σ' : PH} {h : Nat} {W : Nat → Nat → Prop} (hX : XC c σ h) (f : Fr W σ σ') (hW : ∀ r k, W r k → ¬ (h + 1 ≤ r ∧ r ≤ h + 6)) : XC c σ' h := by
  refine ⟨?_, fun i hi => ?_, fun p hp => ?_⟩
  · rw [f.I (fun z => hW _ _ z (by omega))]; exact hX.1
  · obtain ⟨a, b, d, e⟩ := hX.2.1 i hi
    rw [f.I (fun z => hW _ _ z (by omega)), f.I (fun z => hW _ _ z (by omega)), f.I (fun z => hW _ _ z (by omega)), f.I (fun z => hW _ _ z (by omega))]
    exact ⟨a, b, d, e⟩
  · rw [f.I (fun z => hW _ _ z (by omega))]; exact hX.2.2 p hp
theorem XL.fr {c : CV} {L : List Nat} {σ σ' : PH} {h : Nat} {W : Nat → Nat → Prop} (hX : XL c L σ h) (f : Fr W σ σ') (hW : ∀ r k, W r k → ¬ ((r = h + 7 ∧ k = 3) ∨ r = h + 8 ∨ r = h + 9 ∨ r = h + 10 ∨ r = h + 11)) : XL c L σ' h := by
  refine ⟨?_, hX.2.1.of (fun t ht => f.I (fun z => hW _ _ z (by omega))), fun t ht => ?_, fun x hx => ?_⟩
  · rw [f.I (fun z => hW _ _ z (by omega))]; exact hX.1
  · rw [f.I (fun z => hW _ _ z (by omega))]; exact hX.2.2.1 t ht
  · rw [f.J (fun z => hW _ _ z (by omega)), f.J (fun z => hW _ _ z (by omega))]; exact hX.2.2.2 x hx
section B7
variable {c : CV} {σ : PH} {h : Nat}
theorem f7_add (ok : CVok c) (hX : XC c σ h) {L : List Nat} {w : Nat} (hL : XL c L σ h) (hlen : L.length < 92) (hw : w < 256) : Rt (f_X7_add σ h (nI w)) (fun u => XL c (L ++ [w]) u h ∧ Fr (WA h) σ u) := by
  have h8 := ok.1
  unfold f_X7_add
  dsimp only [bnd]
  rw [hL.1]
  have RB := Bt_bit (k := L.length) (by omega)
  refine lp_acc (enc := fun (a : PH) (i : Nat) => ((nI (it (fun x a => if w.testBit x then a * cO c x else a) 1 i), nI i, a) : Int32 × Int32 × PH)) (cN c) (fun a i => (∀ x, x < i → Rep (gJ a (h + 10) x) (gJ a (h + 11) x) (fun t => (decide (t < L.length) && (L.getD t 0).testBit x) || (w.testBit x && decide (t = L.length)))) ∧ (∀ x, i ≤ x → gJ a (h + 10) x = gJ σ (h + 10) x ∧ gJ a (h + 11) x = gJ σ (h + 11) x) ∧ Fr (fun r _ => r = h + 10 ∨ r = h + 11) σ a) _ ?_ ?_ FU σ 0 (Nat.zero_le _) (FU_big (by omega)) ⟨fun x hx => absurd hx (Nat.not_lt_zero x), fun x _ => ⟨rfl, rfl⟩, Fr.rf⟩
  · rintro rec a i hi ⟨hA, hB, hF⟩ hrec
    dsimp only [b_X7_add_22, bnd]
    have hXa : XC c a h := hX.fr hF (fun r k z => by omega)
    rw [hXa.1, nI_bit (by omega) (by omega), nI_clamp (by omega), (hXa.2.1 i hi).2.2.1, pk_mul, nI_1]
    refine Rt.f (by rw [nI_leI (by omega) (by omega)]; omega) ?_
    have e8 : inb (nI i) 8 = true := inb_nI (by omega) (by decide)
    cases hb : w.testBit i with
    | false =>
      refine Rt.t rfl ?_
      have e : it (fun x a => if w.testBit x then a * cO c x else a) 1 i = it (fun x a => if w.testBit x then a * cO c x else a) 1 (i + 1) := by rw [it_s, hb]; rfl
      rw [e]
      refine hrec a ⟨fun x hx => ?_, fun x hx => hB x (by omega), hF⟩
      rcases Nat.lt_or_eq_of_le (Nat.le_of_lt_succ hx) with hlt | rfl
      · exact hA x hlt
      · rw [(hB x (Nat.le_refl _)).1, (hB x (Nat.le_refl _)).2]
        exact (hL.2.2.2 x hi).cong (fun t _ => by rw [hb, Bool.false_and, Bool.or_false])
    | true =>
      refine Rt.f (by decide) (Rt.c e8 (Rt.c e8 (Rt.c e8 (Rt.c e8 (Rt.c e8 ?_)))))
      have e : it (fun x a => if w.testBit x then a * cO c x else a) 1 i * cO c i = it (fun x a => if w.testBit x then a * cO c x else a) 1 (i + 1) := by rw [it_s, hb]; rfl
      rw [e, gJ_put_ne (r := h + 10) (q := h + 11) (Or.inl (by omega))]
      refine hrec _ ⟨fun x hx => ?_, fun x hx => ?_, ?_⟩
      · rcases Nat.lt_or_eq_of_le (Nat.le_of_lt_succ hx) with hlt | rfl
        · rw [gJ_put_ne (r := h + 11) (q := h + 10) (Or.inl (by omega)), gJ_put_ne (Or.inr (by omega)), gJ_put_ne (Or.inr (by omega)), gJ_put_ne (Or.inl (by omega))]
          exact hA x hlt
        · rw [gJ_put_ne (r := h + 11) (q := h + 10) (Or.inl (by omega)), gJ_put_eq, gJ_put_eq, (hB x (Nat.le_refl _)).1, (hB x (Nat.le_refl _)).2]
          exact ((hL.2.2.2 x hi).or RB).cong (fun t _ => by rw [hb, Bool.true_and])
      · rw [gJ_put_ne (r := h + 11) (q := h + 10) (Or.inl (by omega)), gJ_put_ne (Or.inr (by omega)), gJ_put_ne (Or.inr (by omega)), gJ_put_ne (Or.inl (by omega))]
        exact hB x (by omega)
      · exact (hF.tr (Fr.pJ (Or.inl rfl))).tr (Fr.pJ (Or.inr rfl))
  · rintro rec a ⟨hA, hB, hF⟩
    dsimp only [b_X7_add_22, bnd, j_X7_add_85]
    have hXa : XC c a h := hX.fr hF (fun r k z => by omega)
    have hc : gI a (h + 7) 3 = nI L.length := by rw [hF.I (by omega)]; exact hL.1
    have e92 : inb (nI L.length) 92 = true := inb_nI hlen (by decide)
    rw [hXa.1]
    refine Rt.t (nI_le (Nat.le_refl _) (by omega)) ?_
    rw [hc, nI_clamp (by omega), gI_put_ne (r := h + 8) (q := h + 7) (Or.inl (by omega)), hc, nI_clamp (by omega), gI_put_ne (r := h + 9) (q := h + 7) (Or.inl (by omega)), gI_put_ne (r := h + 8) (q := h + 7) (Or.inl (by omega)), hc, nI_1]
    refine Rt.c e92 (Rt.c e92 (Rt.s ⟨⟨?_, ?_, ?_, ?_⟩, ?_⟩))
    · rw [gI_put_eq, List.length_append]; rfl
    · refine LsI.push hL.2.1 ?_ (fun t ht => ?_)
      · rw [gI_put_ne (Or.inl (by omega)), gI_put_ne (Or.inl (by omega)), gI_put_eq]
      · rw [gI_put_ne (Or.inl (by omega)), gI_put_ne (Or.inl (by omega)), gI_put_ne (Or.inr (by omega)), hF.I (by omega)]
    · intro t ht
      rw [List.length_append, List.length_singleton] at ht
      rw [gI_put_ne (Or.inl (by omega))]
      rcases Nat.lt_or_eq_of_le (Nat.le_of_lt_succ ht) with hlt | rfl
      · rw [gI_put_ne (Or.inr (by omega)), gI_put_ne (Or.inl (by omega)), hF.I (by omega), getD_app_l hlt]
        exact hL.2.2.1 t hlt
      · rw [gI_put_eq, getD_snoc]; rfl
    · intro x hx
      rw [gJ_putI, gJ_putI, gJ_putI, gJ_putI, gJ_putI, gJ_putI]
      refine (hA x hx).cong (fun t _ => ?_)
      rw [List.length_append, List.length_singleton]
      by_cases e1 : t < L.length
      · rw [decide_eq_true e1, decide_eq_true (show t < L.length + 1 by omega), getD_app_l e1, decide_eq_false (show ¬ t = L.length by omega), Bool.and_false, Bool.or_false]
      · by_cases e2 : t = L.length
        · subst e2
          rw [decide_eq_false e1, decide_eq_true (show L.length = L.length from rfl), decide_eq_true (show L.length < L.length + 1 by omega), getD_snoc, Bool.and_true]; rfl
        · rw [decide_eq_false e1, decide_eq_false e2, decide_eq_false (show ¬ t < L.length + 1 by omega), Bool.and_false]; rfl
    · exact ((((hF.mono (fun r k z => by unfold WA; omega)).tr (Fr.pI (by unfold WA; omega))).tr (Fr.pI (by unfold WA; omega))).tr (Fr.pI (by unfold WA; omega)))
theorem f7_build_t {m : Nat} : ∀ a : PH, XL c (WL (cN c) m) a h → Fr (WB h) σ a → Rt (j_X7_build_93 h a) (fun u => XL c (WL (cN c) m) u h ∧ (∀ s, s < 256 → gI u (h + 14) s = 0) ∧ Fr (WB h) σ u) := by
  intro a hL hF
  unfold j_X7_build_93
  refine lp_acc (enc := fun (a : PH) (i : Nat) => ((nI i, a) : Int32 × PH)) 256 (fun a i => XL c (WL (cN c) m) a h ∧ (∀ s, s < i → gI a (h + 14) s = 0) ∧ Fr (WB h) σ a) _ ?_ ?_ FU a 0 (Nat.zero_le _) (FU_big (by decide)) ⟨hL, fun s hs => absurd hs (Nat.not_lt_zero s), hF⟩
  · rintro rec a i hi ⟨hL, hz, hF⟩ hrec
    dsimp only [b_X7_build_95, bnd]
    refine Rt.f (by rw [i_256, nI_leI (by omega) (by omega)]; omega) (Rt.c (inb_nI hi (by decide)) ?_)
    rw [nI_clamp (by omega), nI_1]
    refine hrec _ ⟨hL.fr (W := fun r k => r = h + 14) (Fr.pI rfl) (fun r k z => by omega), fun s hs => ?_, hF.tr (Fr.pI (by unfold WB; omega))⟩
    rcases Nat.lt_or_eq_of_le (Nat.le_of_lt_succ hs) with hlt | rfl
    · rw [gI_put_ne (Or.inr (by omega))]; exact hz s hlt
    · exact gI_put_eq
  · rintro rec a ⟨hL, hz, hF⟩
    dsimp only [b_X7_build_95, bnd]
    exact Rt.t (by rw [i_256]; exact nI_le (Nat.le_refl _) (by decide)) (Rt.s ⟨hL, hz, hF⟩)
theorem f7_build_i (ok : CVok c) (hX : XC c σ h) {m A : Nat} (hm3 : m ≤ 3) (hA : 2 ^ cN c - 1 = A) : ∀ (s : Nat), 0 < s → s ≤ m → ∀ (k3 : (Int32 × PH) → Option PH) (P : PH → Prop) (q2 : PH), (∀ σ1 : PH, XL c (pfW A (s + 1) 1) σ1 h → Fr (WB h) σ σ1 → Rt (k3 (nI (s + 1), σ1)) P) →
    ∀ (fuel : Nat) (σ1 : PH) (w : Nat), w ≤ A + 1 → A + 1 - w < fuel → (0 < w ∧ XL c (pfW A s w) σ1 h ∧ Fr (WB h) σ σ1) → Rt (loopN (b_X7_build_51 h (nI A) (nI s, q2) k3) fuel (nI w, σ1)) P := by
  have h8 := ok.1
  have h2 := p2_9 h8
  have hA2 : A < 256 := by omega
  intro s hs hsm k3 P q2 hk fuel σ1 w
  refine lp_acc (enc := fun (a : PH) (i : Nat) => ((nI i, a) : Int32 × PH)) (A + 1) (fun a i => 0 < i ∧ XL c (pfW A s i) a h ∧ Fr (WB h) σ a) P ?_ ?_ fuel σ1 w
  · rintro rec a i hi ⟨hi0, hL, hF⟩ hrec
    dsimp only [b_X7_build_51, bnd]
    have hXa : XC c a h := hX.fr hF (fun r k z => by unfold WB at z; omega)
    rw [pc_J i (by omega), nI_1 i]
    refine Rt.f (by rw [nI_ltI (by omega) (by omega)]; omega) ?_
    by_cases hp : pc i = s
    · have hroom : (pfW A s i).length < 92 := by rw [← hA]; exact pfW_room h8 hm3 hs hsm hi0 (by omega) hp
      refine Rt.t (by rw [hp]) ?_
      rw [hL.1]
      refine Rt.f (by rw [i_92, nI_leI (by omega) (by omega)]; omega) ?_
      refine Rt.o (f7_add ok hXa hL hroom (by omega)) ?_
      rintro σ2 ⟨hL2, hF2⟩
      refine hrec σ2 ⟨by omega, ?_, hF.tr (hF2.mono (fun r k z => by unfold WA at z; unfold WB; omega))⟩
      rw [pfW_step hi0, if_pos hp]; exact hL2
    · refine Rt.f (by rw [nI_eq (by have := pc_le i; omega) (by omega)]; exact hp) ?_
      refine hrec a ⟨by omega, ?_, hF⟩
      rw [pfW_step hi0, if_neg hp, List.append_nil]; exact hL
  · rintro rec a ⟨hi0, hL, hF⟩
    dsimp only [b_X7_build_51, bnd]
    refine Rt.t (nI_lt (by omega) (by omega)) ?_
    rw [nI_1]
    rw [pfW_end hs] at hL
    exact hk a hL hF
theorem f7_build_o (ok : CVok c) (hX : XC c σ h) {m : Nat} (hm3 : m ≤ 3) : ∀ a : PH, XL c [] a h → Fr (WB h) σ a → Rt (j_X7_build_33 h (nI m) a) (fun u => XL c (WL (cN c) m) u h ∧ (∀ s, s < 256 → gI u (h + 14) s = 0) ∧ Fr (WB h) σ u) := by
  have h8 := ok.1
  have h2 := p2_9 h8
  have h1 := p2_1 (cN c)
  generalize hA : 2 ^ cN c - 1 = A at *
  have hA2 : A < 256 := by omega
  intro a hL hF
  unfold j_X7_build_33
  dsimp only [bnd]
  have hXa : XC c a h := hX.fr hF (fun r k z => by unfold WB at z; omega)
  rw [f0_all ok hXa, hA]
  refine lp_acc (enc := fun (a : PH) (i : Nat) => ((nI i, a) : Int32 × PH)) (m + 1) (fun a i => 0 < i ∧ XL c (pfW A i 1) a h ∧ Fr (WB h) σ a) _ ?_ ?_ FU a 1 (by omega) (FU_big (by omega)) ⟨by decide, hL, hF⟩
  · rintro rec a i hi ⟨hi0, hL, hF⟩ hrec
    dsimp only [b_X7_build_43, bnd]
    refine Rt.f (by rw [nI_ltI (by omega) (by omega)]; omega) ?_
    exact f7_build_i ok hX hm3 hA i hi0 (by omega) rec _ a (fun σ1 h1 h2 => hrec σ1 ⟨by omega, h1, h2⟩) FU a 1 (by omega) (FU_big (by omega)) ⟨by decide, hL, hF⟩
  · rintro rec a ⟨hi0, hL, hF⟩
    dsimp only [b_X7_build_43, bnd]
    refine Rt.t (nI_lt (by omega) (by omega)) ?_
    have e : pfW A (m + 1) 1 = WL (cN c) m := by rw [← hA]; exact pfW_all
    rw [e] at hL
    exact f7_build_t a hL hF
theorem f7_build (ok : CVok c) (hX : XC c σ h) {m : Nat} (hm3 : m ≤ 3) : Rt (f_X7_build σ h (nI m)) (fun u => XL c (WL (cN c) m) u h ∧ (∀ s, s < 256 → gI u (h + 14) s = 0) ∧ Fr (WB h) σ u) := by
  have h8 := ok.1
  unfold f_X7_build
  rw [bnd_d]
  refine lp_acc (enc := fun (a : PH) (i : Nat) => ((nI i, a) : Int32 × PH)) 8 (fun a i => gI a (h + 7) 3 = nI 0 ∧ (∀ x, x < i → gJ a (h + 10) x = 0 ∧ gJ a (h + 11) x = 0) ∧ Fr (WB h) σ a) _ ?_ ?_ FU (putI σ (h + 7) 3 0) 0 (Nat.zero_le _) (FU_big (by decide)) ⟨(gI_put_eq (σ := σ) (r := h + 7) (k := 3) (v := 0)).trans i_0, fun x hx => absurd hx (Nat.not_lt_zero x), Fr.pI (Or.inl ⟨rfl, rfl⟩)⟩
  · rintro rec a i hi ⟨h7, hz, hF⟩ hrec
    dsimp only [b_X7_build_7, bnd]
    have e8 : inb (nI i) 8 = true := inb_nI hi (by decide)
    refine Rt.f (by rw [i_8, nI_leI (by omega) (by omega)]; omega) (Rt.c e8 (Rt.c e8 ?_))
    rw [nI_clamp (by omega), nI_1]
    refine hrec _ ⟨h7, fun x hx => ?_, (hF.tr (Fr.pJ (by unfold WB; omega))).tr (Fr.pJ (by unfold WB; omega))⟩
    rcases Nat.lt_or_eq_of_le (Nat.le_of_lt_succ hx) with hlt | rfl
    · rw [gJ_put_ne (Or.inr (by omega)), gJ_put_ne (Or.inr (by omega)), gJ_put_ne (Or.inr (by omega)), gJ_put_ne (Or.inr (by omega))]
      exact hz x hlt
    · rw [gJ_put_ne (r := h + 11) (q := h + 10) (Or.inl (by omega)), gJ_put_eq, gJ_put_eq]
      exact ⟨rfl, rfl⟩
  · rintro rec a ⟨h7, hz, hF⟩
    dsimp only [b_X7_build_7, bnd]
    refine Rt.t (by rw [i_8]; exact nI_le (Nat.le_refl _) (by decide)) ?_
    refine f7_build_o ok hX hm3 a ⟨h7, fun t ht => absurd ht (Nat.not_lt_zero t), fun t ht => absurd ht (Nat.not_lt_zero t), fun x hx => ?_⟩ hF
    obtain ⟨z1, z2⟩ := hz x (by omega)
    rw [z1, z2]
    exact Rep.zero.cong (fun t _ => by simp)
end B7
