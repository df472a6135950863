/-! by which sets the worlds sound wrong: the class's cache -/
def wrW (c : CV) (L : List Nat) (s t : Nat) : Bool := decide (t < L.length) && sndC c s (L.getD t 0)
def K1 (c : CV) (L : List Nat) (σ : PH) (h s : Nat) : Prop := gI σ (h + 14) s &&& 1 = 0 ∨ Rep (gJ σ (h + 12) s) (gJ σ (h + 13) s) (wrW c L s)
def XK (c : CV) (L : List Nat) (σ : PH) (h : Nat) : Prop := gJ σ (h + 12) 0 = 0 ∧ gJ σ (h + 13) 0 = 0 ∧ ∀ s, 0 < s → s < 2 ^ cN c → K1 c L σ h s
def WK (h : Nat) : Nat → Nat → Prop := fun r _ => r = h + 12 ∨ r = h + 13 ∨ r = h + 14
def W1 (h s : Nat) : Nat → Nat → Prop := fun r k => k = s ∧ (r = h + 12 ∨ r = h + 13 ∨ r = h + 14)
def XQ (c : CV) (L : List Nat) (σ : PH) (h : Nat) : Prop := XC c σ h ∧ XL c L σ h ∧ XK c L σ h ∧ L.length ≤ 92
def rp (L : List Nat) (P : Nat → Bool) (t : Nat) : Bool := decide (t < L.length) && P (L.getD t 0)
theorem K1.fr {c : CV} {L : List Nat} {σ σ' : PH} {h s : Nat} {W : Nat → Nat → Prop} (hK : K1 c L σ h s) (f : Fr W σ σ') (hW : ∀ r, W r s → ¬ (r = h + 12 ∨ r = h + 13 ∨ r = h + 14)) : K1 c L σ' h s := by
  unfold K1
  rw [f.I (fun z => hW _ z (by omega)), f.J (fun z => hW _ z (by omega)), f.J (fun z => hW _ z (by omega))]
  exact hK
theorem XK.fr {c : CV} {L : List Nat} {σ σ' : PH} {h : Nat} {W : Nat → Nat → Prop} (hK : XK c L σ h) (f : Fr W σ σ') (hW : ∀ r k, W r k → ¬ (r = h + 12 ∨ r = h + 13 ∨ r = h + 14)) : XK c L σ' h := by
  refine ⟨?_, ?_, fun s h0 hs => (hK.2.2 s h0 hs).fr f (fun r z => hW r s z)⟩
  · rw [f.J (fun z => hW _ _ z (by omega))]; exact hK.1
  · rw [f.J (fun z => hW _ _ z (by omega))]; exact hK.2.1
theorem XQ.fr {c : CV} {L : List Nat} {σ σ' : PH} {h : Nat} {W : Nat → Nat → Prop} (hQ : XQ c L σ h) (f : Fr W σ σ') (hW : ∀ r k, W r k → ¬ ((h + 1 ≤ r ∧ r ≤ h + 6) ∨ (r = h + 7 ∧ k = 3) ∨ (h + 8 ≤ r ∧ r ≤ h + 14))) : XQ c L σ' h :=
  ⟨hQ.1.fr f (fun r k z => by have := hW r k z; omega), hQ.2.1.fr f (fun r k z => by have := hW r k z; omega), hQ.2.2.1.fr f (fun r k z => by have := hW r k z; omega), hQ.2.2.2⟩
theorem XQ.k {c : CV} {L : List Nat} {σ σ' : PH} {h : Nat} (hQ : XQ c L σ h) (f : Fr (WK h) σ σ') (hK : XK c L σ' h) : XQ c L σ' h :=
  ⟨hQ.1.fr f (fun r k z => by unfold WK at z; omega), hQ.2.1.fr f (fun r k z => by unfold WK at z; omega), hK, hQ.2.2.2⟩
theorem Rep.mix {a b x y : Int64} {f : Nat → Bool} (h : Rep a b f) (h2 : Rep x y f) : Rep a y f := fun t ht => by
  have e1 := h t ht
  have e2 := h2 t ht
  unfold Bt at *
  by_cases z : t < 64
  · rw [if_pos z] at *; exact e1
  · rw [if_neg z] at *; exact e2
section S7
variable {c : CV} {σ : PH} {h : Nat} {L : List Nat}
theorem f7_slot1 (ok : CVok c) (hX : XC c σ h) (hL : XL c L σ h) {s : Nat} (hs0 : 0 < s) (hs : s < 2 ^ cN c) (hK : K1 c L σ h s) : Rt (f_X7_slot σ h (nI s)) (fun u => u.1 = nI s ∧ Rep (gJ u.2 (h + 12) s) (gJ u.2 (h + 13) s) (wrW c L s) ∧ Fr (W1 h s) σ u.2) := by
  have h8 := ok.1
  have h9 := p2_9 h8
  have e256 : inb (nI s) 256 = true := inb_nI (by omega) (by decide)
  have e8 : ∀ i, i < cN c → inb (nI i) 8 = true := fun i hi => inb_nI (by omega) (by decide)
  unfold f_X7_slot
  dsimp only [bnd]
  rw [f0_all ok hX, nI_clamp (by omega)]
  refine Rt.f (by rw [i_0, nI_leI (by omega) (by omega)]; omega) (Rt.f (by rw [i_256, nI_leI (by omega) (by omega)]; omega) (Rt.t (nI_le (by omega) (by omega)) (Rt.c e256 (Rt.i (fun hz => ?_) (fun hz => ?_)))))
  · -- figured out now
    refine lp_rule (b := b_X7_slot_43 σ h (nI s)) (fun k (q : Int64 × Int64 × Int32) => ∃ i, i + k = cN c ∧ q.2.2 = nI i ∧ Rep q.1 q.2.1 (fun t => decide (t < L.length) && (List.range i).any fun x => (s.testBit x && (L.getD t 0).testBit x) && heC c x s (L.getD t 0))) _ ?_ FU (cN c) _ (FU_big (by omega)) ⟨0, by omega, rfl, Rep.zero.cong (fun t _ => by simp)⟩
    rintro k rec ⟨lo, hi, x⟩ ⟨i, hik, hx, hR⟩ hrec
    dsimp only at hx hR
    subst hx
    dsimp only [b_X7_slot_43, bnd]
    rw [hX.1]
    by_cases hi2 : i < cN c
    · refine Rt.f (by rw [nI_leI (by omega) (by omega)]; omega) ?_
      have next : ∀ (lo2 hi2' : Int64), Rep lo2 hi2' (fun t => decide (t < L.length) && (List.range (i + 1)).any fun x => (s.testBit x && (L.getD t 0).testBit x) && heC c x s (L.getD t 0)) → Rt (rec (lo2, hi2', nI i + 1)) (fun u => u.1 = nI s ∧ Rep (gJ u.2 (h + 12) s) (gJ u.2 (h + 13) s) (wrW c L s) ∧ Fr (W1 h s) σ u.2) :=
        fun lo2 hi2' hR2 => hrec (k - 1) _ (by omega) ⟨i + 1, by omega, nI_1 i, hR2⟩
      have anyS : ∀ w, ((List.range (i + 1)).any fun x => (s.testBit x && w.testBit x) && heC c x s w) = (((List.range i).any fun x => (s.testBit x && w.testBit x) && heC c x s w) || ((s.testBit i && w.testBit i) && heC c i s w)) := fun w => by
        rw [List.range_succ, List.any_append]; simp
      have same : (∀ t, t < 128 → t < L.length → ((s.testBit i && (L.getD t 0).testBit i) && heC c i s (L.getD t 0)) = false) → Rt (rec (lo, hi, nI i + 1)) (fun u => u.1 = nI s ∧ Rep (gJ u.2 (h + 12) s) (gJ u.2 (h + 13) s) (wrW c L s) ∧ Fr (W1 h s) σ u.2) := fun hf => next lo hi (hR.cong (fun t ht => by
        by_cases hl : t < L.length
        · rw [anyS, hf t ht hl, Bool.or_false]
        · rw [decide_eq_false hl]; rfl))
      rw [nI_bit (by omega) (by omega)]
      cases hb : s.testBit i with
      | false =>
        refine Rt.t rfl ?_
        dsimp only [j_X7_slot_78, bnd]
        exact Rt.t rfl (same (fun t _ _ => by rw [hb]; rfl))
      | true =>
        refine Rt.f (by decide) (Rt.o (f0_wrongWith ok hX hi2 (by omega)) ?_)
        rintro u (⟨rfl, hw⟩ | ⟨m, hm, rfl, hw⟩)
        · dsimp only [j_X7_slot_78, bnd]
          exact Rt.t rfl (same (fun t _ _ => by rw [hw, Bool.and_false]))
        · dsimp only [j_X7_slot_78, bnd]
          rw [nI_clamp (by omega)]
          refine Rt.f (nI_nm1 (by omega)) (Rt.c (e8 i hi2) (Rt.c (e8 i hi2) ?_))
          refine lp_rule (b := b_X7_slot_107 σ h (lo, hi, nI i) rec (nI m)) (fun k2 (q : Int64 × Int64 × Int32) => ∃ j, j + k2 = cN c ∧ q.2.2 = nI j ∧ Rep q.1 q.2.1 (fun t => (decide (t < L.length) && (L.getD t 0).testBit i) && !lkC j m (L.getD t 0))) _ ?_ FU (cN c) _ (FU_big (by omega)) ⟨0, by omega, rfl, (hL.2.2.2 i hi2).cong (fun t _ => by simp [lkC])⟩
          rintro k2 rec2 ⟨lo2, hi2', x2⟩ ⟨j, hjk, hx2, hR2⟩ hrec2
          dsimp only at hx2 hR2
          subst hx2
          dsimp only [b_X7_slot_107, bnd]
          rw [hX.1]
          have lkS : ∀ w, lkC (j + 1) m w = (lkC j m w || (m.testBit j && !w.testBit j)) := fun w => by
            unfold lkC
            rw [List.range_succ, List.any_append]; simp
          by_cases hj : j < cN c
          · refine Rt.f (by rw [nI_leI (by omega) (by omega)]; omega) ?_
            rw [nI_bit (by omega) (by omega), nI_clamp (by omega)]
            cases hmb : m.testBit j with
            | false =>
              refine Rt.t rfl (hrec2 (k2 - 1) _ (by omega) ⟨j + 1, by omega, nI_1 j, hR2.cong (fun t _ => by rw [lkS, hmb, Bool.false_and, Bool.or_false])⟩)
            | true =>
              refine Rt.f (by decide) (Rt.c (e8 j hj) (Rt.c (e8 j hj) (hrec2 (k2 - 1) _ (by omega) ⟨j + 1, by omega, nI_1 j, (hR2.and (hL.2.2.2 j hj)).cong (fun t _ => ?_)⟩)))
              rw [lkS, hmb]
              cases decide (t < L.length) <;> cases (L.getD t 0).testBit i <;> cases lkC j m (L.getD t 0) <;> cases (L.getD t 0).testBit j <;> rfl
          · refine Rt.t (nI_le (by omega) (by omega)) ?_
            have ej : j = cN c := by omega
            subst ej
            dsimp only [j_X7_slot_159, bnd]
            refine next _ _ ((hR.or hR2).cong (fun t _ => ?_))
            rw [anyS, hb, hw]
            cases decide (t < L.length) <;> cases (L.getD t 0).testBit i <;> cases lkC (cN c) m (L.getD t 0) <;> simp
    · have ei : i = cN c := by omega
      subst ei
      refine Rt.t (nI_le (Nat.le_refl _) (by omega)) ?_
      dsimp only [j_X7_slot_177, bnd]
      refine Rt.c e256 (Rt.c e256 (Rt.c e256 (Rt.s ⟨rfl, ?_, ?_⟩)))
      · dsimp only
        rw [nI_clamp (by omega), gJ_putI, gJ_putI, gJ_put_eq, gJ_put_ne (r := h + 13) (q := h + 12) (Or.inl (by omega)), gJ_put_eq]
        exact hR
      · dsimp only
        rw [nI_clamp (by omega)]
        exact ((Fr.pJ (by unfold W1; omega)).tr (Fr.pJ (by unfold W1; omega))).tr (Fr.pI (by unfold W1; omega))
  · refine Rt.s ⟨rfl, ?_, Fr.rf⟩
    rcases hK with h0 | hR
    · exact absurd h0 hz
    · exact hR
theorem f7_slot (ok : CVok c) (hQ : XQ c L σ h) {s : Nat} (hs0 : 0 < s) (hs : s < 2 ^ cN c) : Rt (f_X7_slot σ h (nI s)) (fun u => u.1 = nI s ∧ Rep (gJ u.2 (h + 12) s) (gJ u.2 (h + 13) s) (wrW c L s) ∧ XQ c L u.2 h ∧ Fr (WK h) σ u.2) := by
  refine (f7_slot1 ok hQ.1 hQ.2.1 hs0 hs (hQ.2.2.1.2.2 s hs0 hs)).m ?_
  rintro ⟨v, σ'⟩ ⟨h1, h2, h3⟩
  have hF : Fr (WK h) σ σ' := h3.mono (fun r k z => z.2)
  refine ⟨h1, h2, hQ.k hF ⟨?_, ?_, fun s' h0 hs' => ?_⟩, hF⟩
  · rw [h3.J (by unfold W1; omega)]; exact hQ.2.2.1.1
  · rw [h3.J (by unfold W1; omega)]; exact hQ.2.2.1.2.1
  · by_cases e : s' = s
    · subst e; exact Or.inr h2
    · exact (hQ.2.2.1.2.2 s' h0 hs').fr h3 (fun r z => absurd z.1 e)
theorem f7_lowBy (ok : CVok c) (hQ : XQ c L σ h) {s y : Nat} (hs0 : 0 < s) (hs : s < 2 ^ cN c) (lo : Int64) : Rt (f_X7_lowBy σ h (nI s) (nI y) lo) (fun u => (∃ A B, Rep A B (wrW c L s) ∧ u.1 = if nI y = 1 then lo &&& A else lo &&& (A ^^^ (-1))) ∧ XQ c L u.2 h ∧ Fr (WK h) σ u.2) := by
  have h9 := p2_9 ok.1
  unfold f_X7_lowBy
  refine Rt.o (f7_slot ok hQ hs0 hs) ?_
  rintro ⟨v, σ'⟩ ⟨h1, h2, h3, h4⟩
  dsimp only at h1 h2 h3 h4
  subst h1
  dsimp only [bnd]
  rw [nI_clamp (by omega)]
  exact Rt.c (inb_nI (by omega) (by decide)) (Rt.i (fun e => Rt.s ⟨⟨_, _, h2, by rw [if_pos e]⟩, h3, h4⟩) (fun e => Rt.s ⟨⟨_, _, h2, by rw [if_neg e]⟩, h3, h4⟩))
theorem f7_highBy (ok : CVok c) (hQ : XQ c L σ h) {s y : Nat} (hs0 : 0 < s) (hs : s < 2 ^ cN c) (hi : Int64) : Rt (f_X7_highBy σ h (nI s) (nI y) hi) (fun u => (∃ A B, Rep A B (wrW c L s) ∧ u.1 = if nI y = 1 then hi &&& B else hi &&& (B ^^^ (-1))) ∧ XQ c L u.2 h ∧ Fr (WK h) σ u.2) := by
  have h9 := p2_9 ok.1
  unfold f_X7_highBy
  refine Rt.o (f7_slot ok hQ hs0 hs) ?_
  rintro ⟨v, σ'⟩ ⟨h1, h2, h3, h4⟩
  dsimp only at h1 h2 h3 h4
  subst h1
  dsimp only [bnd]
  rw [nI_clamp (by omega)]
  exact Rt.c (inb_nI (by omega) (by decide)) (Rt.i (fun e => Rt.s ⟨⟨_, _, h2, by rw [if_pos e]⟩, h3, h4⟩) (fun e => Rt.s ⟨⟨_, _, h2, by rw [if_neg e]⟩, h3, h4⟩))
theorem by_rep {P : Nat → Bool} {s y : Nat} (hy : y < 2) {A B A' B' lo hi lo' hi' : Int64} (R : Rep lo hi (rp L P)) (RA : Rep A B (wrW c L s)) (RB : Rep A' B' (wrW c L s)) (e1 : lo' = if nI y = 1 then lo &&& A else lo &&& (A ^^^ (-1))) (e2 : hi' = if nI y = 1 then hi &&& B' else hi &&& (B' ^^^ (-1))) : Rep lo' hi' (rp L (fun w => P w && soC c s y w)) := by
  have M := RA.mix RB
  rcases (show y = 0 ∨ y = 1 by omega) with rfl | rfl
  · rw [if_neg (by decide)] at e1 e2
    subst e1; subst e2
    refine (R.and M.not).cong (fun t _ => ?_)
    unfold rp wrW soC
    dsimp only
    cases decide (t < L.length) <;> cases P (L.getD t 0) <;> cases sndC c s (L.getD t 0) <;> rfl
  · rw [if_pos (by rfl)] at e1 e2
    subst e1; subst e2
    refine (R.and M).cong (fun t _ => ?_)
    unfold rp wrW soC
    dsimp only
    cases decide (t < L.length) <;> cases P (L.getD t 0) <;> cases sndC c s (L.getD t 0) <;> rfl
theorem rp_cnt {P : Nat → Bool} (hl : L.length ≤ 92) : (List.range 128).countP (rp L P) = L.countP P := cnt_list P L 128 (by omega)
theorem f7_wrongAmong (ok : CVok c) (hQ : XQ c L σ h) {s : Nat} (hs0 : 0 < s) (hs : s < 2 ^ cN c) {lo hi : Int64} {P : Nat → Bool} (R : Rep lo hi (rp L P)) : Rt (f_X7_wrongAmong σ h (nI s) lo hi) (fun u => u.1 = nI (L.countP (fun w => P w && sndC c s w)) ∧ XQ c L u.2 h ∧ Fr (WK h) σ u.2) := by
  have h9 := p2_9 ok.1
  unfold f_X7_wrongAmong
  refine Rt.o (f7_slot ok hQ hs0 hs) ?_
  rintro ⟨v, σ'⟩ ⟨h1, h2, h3, h4⟩
  dsimp only at h1 h2 h3 h4
  subst h1
  dsimp only [bnd]
  rw [nI_clamp (by omega)]
  have e := inb_nI (k := s) (N := 256) (by omega) (by decide)
  refine Rt.c e (Rt.c e (Rt.s ⟨?_, h3, h4⟩))
  have R2 : Rep (lo &&& gJ σ' (h + 12) s) (hi &&& gJ σ' (h + 13) s) (rp L (fun w => P w && sndC c s w)) := (R.and h2).cong (fun t _ => by
    unfold rp wrW
    dsimp only
    cases decide (t < L.length) <;> cases P (L.getD t 0) <;> rfl)
  have := f7_countIn R2
  rw [rp_cnt hQ.2.2.2] at this
  exact this
theorem f7_soundOf (ok : CVok c) (hQ : XQ c L σ h) {s t : Nat} (hs0 : 0 < s) (hs : s < 2 ^ cN c) (ht : t < 128) : Rt (f_X7_soundOf σ h (nI s) (nI t)) (fun u => u.1 = oI (wrW c L s t) ∧ XQ c L u.2 h ∧ Fr (WK h) σ u.2) := by
  have h9 := p2_9 ok.1
  unfold f_X7_soundOf
  refine Rt.o (f7_slot ok hQ hs0 hs) ?_
  rintro ⟨v, σ'⟩ ⟨h1, h2, h3, h4⟩
  dsimp only at h1 h2 h3 h4
  subst h1
  dsimp only [bnd]
  rw [nI_clamp (by omega), f7_isIn ht, h2 t ht]
  have e := inb_nI (k := s) (N := 256) (by omega) (by decide)
  refine Rt.c e (Rt.c e ?_)
  cases wrW c L s t with
  | false => exact Rt.t rfl (Rt.s ⟨rfl, h3, h4⟩)
  | true => exact Rt.f (by decide) (Rt.s ⟨rfl, h3, h4⟩)
end S7
