/-! exchanges for trial -/
def TW (h A : Nat) : Nat → Nat → Prop := fun r k => r = h + 5 ∨ r = h + 6 ∨ W1 h A r k
def Qx (c0 c' : CV) (A : Nat) (L : List Nat) (σ : PH) (h : Nat) : Prop := XC c' σ h ∧ XL c0 L σ h ∧ (gJ σ (h + 12) 0 = 0 ∧ gJ σ (h + 13) 0 = 0) ∧ (∀ s, 0 < s → s < 2 ^ cN c0 → s ≠ A → K1 c0 L σ h s) ∧ K1 c' L σ h A
def bI (Q : Nat → Nat → Bool) (x : Nat) : Nat → Nat → Option Nat
  | 0, _ => none
  | m + 1, y => if Q x y then some (100 * x + y) else bI Q x m (y + 1)
def bO (Q : Nat → Nat → Bool) (n : Nat) : Nat → Nat → Option Nat
  | 0, _ => none
  | m + 1, x => if (bI Q x (n - (x + 1)) (x + 1)).isSome then bI Q x (n - (x + 1)) (x + 1) else bO Q n m (x + 1)
def oN : Option Nat → Int32
  | none => -1
  | some v => nI v
def mIx (R : Nat → Nat → Nat) (x : Nat) : Nat → Nat → Nat → Nat
  | 0, _, a => a
  | m + 1, y, a => mIx R x m (y + 1) (mx2 a (R x y))
def mOx (R : Nat → Nat → Nat) (n : Nat) : Nat → Nat → Nat → Nat
  | 0, _, a => a
  | m + 1, x, a => mOx R n m (x + 1) (mIx R x (n - (x + 1)) (x + 1) a)
section TR
variable {c c' : CV} {σ : PH} {h A : Nat} {L : List Nat}
theorem XQ.qx (q : XQ c L σ h) (A0 : 0 < A) (A1 : A < 2 ^ cN c) : Qx c c A L σ h := ⟨q.1, q.2.1, ⟨q.2.2.1.1, q.2.2.1.2.1⟩, fun s a b _ => q.2.2.1.2.2 s a b, q.2.2.1.2.2 A A0 A1⟩
theorem Qx.xq (q : Qx c c A L σ h) (hl : L.length ≤ 92) : XQ c L σ h := ⟨q.1, q.2.1, ⟨q.2.2.1.1, q.2.2.1.2, fun s a b => by
  by_cases e : s = A
  · subst e; exact q.2.2.2.2
  · exact q.2.2.2.1 s a b e⟩, hl⟩
theorem Qx_slot (ok : CVok c') (q : Qx c c' A L σ h) (hXL : XL c' L σ h) (A0 : 0 < A) (A1 : A < 2 ^ cN c') : Rt (f_X7_slot σ h (nI A)) (fun u => u.1 = nI A ∧ Rep (gJ u.2 (h + 12) A) (gJ u.2 (h + 13) A) (wrW c' L A) ∧ Qx c c' A L u.2 h ∧ Fr (TW h A) σ u.2) := by
  refine (f7_slot1 ok q.1 hXL A0 A1 q.2.2.2.2).m ?_
  rintro ⟨v, σ'⟩ ⟨h1, h2, h3⟩
  refine ⟨h1, h2, ⟨q.1.fr h3 (fun r k z => by unfold W1 at z; omega), q.2.1.fr h3 (fun r k z => by unfold W1 at z; omega), ⟨?_, ?_⟩, fun s a b e => (q.2.2.2.1 s a b e).fr h3 (fun r z => absurd z.1 e), Or.inr h2⟩, h3.mono (fun r k z => Or.inr (Or.inr z))⟩
  · rw [h3.J (by unfold W1; omega)]; exact q.2.2.1.1
  · rw [h3.J (by unfold W1; omega)]; exact q.2.2.1.2
theorem isRight_q (ok : CVok c') (q : Qx c c' A L σ h) (hXL : XL c' L σ h) (eA : A = 2 ^ cN c' - 1) (n1 : 1 ≤ cN c') {t : Nat} (ht : t < L.length) (hl : L.length ≤ 92) : Rt (f_X7_isRightWhenAllSing σ h (nI t)) (fun u => u.1 = oI (!sndC c' A (L.getD t 0)) ∧ Qx c c' A L u.2 h ∧ Fr (TW h A) σ u.2) := by
  have h9 := p2_9 ok.1
  have p1 : 2 ≤ 2 ^ cN c' := Nat.pow_le_pow_right (n := 2) (by decide) n1
  unfold f_X7_isRightWhenAllSing
  rw [bnd_d, f0_all ok q.1, ← eA]
  have S : Rt (f_X7_soundOf σ h (nI A) (nI t)) (fun u => u.1 = oI (wrW c' L A t) ∧ Qx c c' A L u.2 h ∧ Fr (TW h A) σ u.2) := by
    unfold f_X7_soundOf
    refine Rt.o (Qx_slot ok q hXL (by omega) (by omega)) ?_
    rintro ⟨v, σ'⟩ ⟨h1, h2, h3, h4⟩
    dsimp only at h1 h2 h3 h4
    subst h1
    dsimp only [bnd]
    rw [nI_clamp (by omega), f7_isIn (by omega), h2 t (by omega)]
    have e := inb_nI (k := A) (N := 256) (by omega) (by decide)
    refine Rt.c e (Rt.c e ?_)
    cases wrW c' L A t with
    | false => exact Rt.t rfl (Rt.s ⟨rfl, h3, h4⟩)
    | true => exact Rt.f (by decide) (Rt.s ⟨rfl, h3, h4⟩)
  refine Rt.o S ?_
  rintro ⟨v, σ'⟩ ⟨h1, h2, h3⟩
  dsimp only at h1 h2 h3
  rw [wrW_at ht] at h1
  subst h1
  cases sndC c' A (L.getD t 0) with
  | false => exact Rt.t rfl (Rt.s ⟨rfl, h2, h3⟩)
  | true => exact Rt.f (show ¬ oI true = 0 by decide) (Rt.s ⟨rfl, h2, h3⟩)
theorem right_q (ok : CVok c') (q : Qx c c' A L σ h) (hXL : XL c' L σ h) (eA : A = 2 ^ cN c' - 1) (n1 : 1 ≤ cN c') (hl : L.length ≤ 92) : Rt (f_X7_rightWhenAllSing σ h) (fun u => u.1 = nI (L.length - L.countP (sndC c' A)) ∧ Qx c c' A L u.2 h ∧ Fr (TW h A) σ u.2) := by
  have h9 := p2_9 ok.1
  have p1 : 2 ≤ 2 ^ cN c' := Nat.pow_le_pow_right (n := 2) (by decide) n1
  have R : Rep (f_X7_allLow σ h) (f_X7_allHigh σ h) (rp L (fun _ => true)) := (f7_all q.2.1.1 (by omega)).cong (fun t _ => by unfold rp; rw [Bool.and_true])
  unfold f_X7_rightWhenAllSing
  rw [bnd_d, bnd_d, bnd_d, f0_all ok q.1, ← eA]
  have S : Rt (f_X7_wrongAmong σ h (nI A) (f_X7_allLow σ h) (f_X7_allHigh σ h)) (fun u => u.1 = nI (L.countP (sndC c' A)) ∧ Qx c c' A L u.2 h ∧ Fr (TW h A) σ u.2) := by
    unfold f_X7_wrongAmong
    refine Rt.o (Qx_slot ok q hXL (by omega) (by omega)) ?_
    rintro ⟨v, σ'⟩ ⟨h1, h2, h3, h4⟩
    dsimp only at h1 h2 h3 h4
    subst h1
    dsimp only [bnd]
    rw [nI_clamp (by omega)]
    have e := inb_nI (k := A) (N := 256) (by omega) (by decide)
    refine Rt.c e (Rt.c e (Rt.s ⟨?_, h3, h4⟩))
    have R2 : Rep (f_X7_allLow σ h &&& gJ σ' (h + 12) A) (f_X7_allHigh σ h &&& gJ σ' (h + 13) A) (rp L (sndC c' A)) := (R.and h2).cong (fun t _ => by
      unfold rp wrW
      dsimp only
      cases decide (t < L.length) <;> cases sndC c' A (L.getD t 0) <;> rfl)
    have := f7_countIn R2
    rw [rp_cnt hl] at this
    exact this
  refine Rt.o S ?_
  rintro ⟨v, σ'⟩ ⟨h1, h2, h3⟩
  dsimp only at h1 h2 h3
  subst h1
  refine Rt.s ⟨?_, h2, h3⟩
  dsimp only
  rw [show gI σ (h + 7) 3 = nI L.length from q.2.1.1, pk_sub (List.countP_le_length)]
theorem trial_q (ok : CVok c') (q : Qx c c' A L σ h) (eA : A = 2 ^ cN c' - 1) {x y : Nat} (hx : x < cN c') (hy : y < cN c') : Rt (f_X2_exchangeForTrial σ h (nI x) (nI y)) (fun u => Qx c (swC c' x y) A L u h ∧ Fr (TW h A) σ u) := by
  have h9 := p2_9 ok.1
  have p1 := p2_1 (cN c')
  unfold f_X2_exchangeForTrial
  refine Rt.o (f0_exchange ok q.1 hx hy) ?_
  rintro σ1 ⟨hX, F1⟩
  have D : Rt (f_X7_doubtAll σ1 h) (fun u => u = putI σ1 (h + 14) A 0) := by
    unfold f_X7_doubtAll
    have e : f_X0_all σ1 h = nI A := by rw [f0_all (swC_ok ok hx hy) hX, eA]; rfl
    rw [bnd_d, bnd_d, e, nI_clamp (by omega)]
    exact Rt.f (by rw [i_256, nI_leI (by omega) (by omega)]; omega) (Rt.c (inb_nI (by omega) (by decide)) (Rt.s rfl))
  refine Rt.o D ?_
  rintro _ rfl
  have F2 : Fr (W1 h A) σ1 (putI σ1 (h + 14) A 0) := Fr.pI (by unfold W1; omega)
  have F : Fr (TW h A) σ (putI σ1 (h + 14) A 0) := (F1.mono (fun r k z => by unfold TW; omega)).tr (F2.mono (fun r k z => Or.inr (Or.inr z)))
  have k0 : gI (putI σ1 (h + 14) A 0) (h + 14) A = 0 := gI_put_eq
  refine Rt.s ⟨⟨hX.fr F2 (fun r k z => by unfold W1 at z; omega), q.2.1.fr F (fun r k z => by unfold TW W1 at z; omega), ⟨?_, ?_⟩, fun s a b e => (q.2.2.2.1 s a b e).fr F (fun r z => by unfold TW W1 at z; omega), Or.inl (by rw [k0]; rfl)⟩, F⟩
  · rw [gJ_putI, F1.J (by omega)]; exact q.2.2.1.1
  · rw [gJ_putI, F1.J (by omega)]; exact q.2.2.1.2
theorem f2_ftc (ok : CVok c) (q0 : XQ c L σ h) (n1 : 1 ≤ cN c) {t : Nat} (h6 : gI σ h 6 = nI t) (ht : t < L.length) (Q : Nat → Nat → Bool) (hQ : ∀ x y, Q x y = !sndC (swC c x y) (2 ^ cN c - 1) (L.getD t 0)) : Rt (f_X2_firstToChange σ h) (fun u => u.1 = (if sndC c (2 ^ cN c - 1) (L.getD t 0) then oN (bO Q (cN c) (cN c) 0) else -1) ∧ XQ c L u.2 h ∧ Fr (TW h (2 ^ cN c - 1)) σ u.2) := by
  have hl := q0.2.2.2
  have h8 := ok.1
  have h9 := p2_9 ok.1
  have p1 : 2 ≤ 2 ^ cN c := Nat.pow_le_pow_right (n := 2) (by decide) n1
  generalize hA : 2 ^ cN c - 1 = A at *
  have q := q0.qx (A := A) (by omega) (by omega)
  unfold f_X2_firstToChange
  rw [h6]
  refine Rt.o (isRight_q ok q q.2.1 hA.symm n1 ht hl) ?_
  rintro ⟨v, σ1⟩ ⟨e1, q1, F1⟩
  dsimp only at e1 q1 F1
  subst e1
  generalize hH : (if sndC c A (L.getD t 0) then oN (bO Q (cN c) (cN c) 0) else -1) = H
  have ini : (oI (!sndC c A (L.getD t 0)) = 0 ∧ (-1 : Int32) = -1 ∧ oN (bO Q (cN c) (cN c) 0) = H) ∨ (oI (!sndC c A (L.getD t 0)) = 1 ∧ (-1 : Int32) = H) := by
    cases e : sndC c A (L.getD t 0) with
    | true => rw [e, if_pos rfl] at hH; exact Or.inl ⟨rfl, rfl, hH⟩
    | false => rw [e, if_neg (by decide)] at hH; exact Or.inr ⟨rfl, hH⟩
  refine lp_rule (I := fun m p => ∃ x f v τ, p = (f, v, nI x, τ) ∧ m + x = cN c ∧ ((f = 0 ∧ v = -1 ∧ oN (bO Q (cN c) m x) = H) ∨ (f = 1 ∧ v = H)) ∧ Qx c c A L τ h ∧ Fr (TW h A) σ τ) _ ?_ FU (cN c) _ (FU_big (by omega)) ⟨0, _, _, σ1, rfl, rfl, ini, q1, F1⟩
  rintro m rec _ ⟨x, f, v, τ, rfl, e1, e2, e3, e4⟩ hrec
  have g5 : gI τ (h + 1) 5 = nI (cN c) := e3.1.1
  unfold b_X2_firstToChange_16
  dsimp only
  rw [g5]
  by_cases hx : cN c ≤ x
  · have em : m = 0 := by omega
    subst em
    refine Rt.t (nI_le hx (by omega)) (Rt.s ⟨?_, e3.xq hl, e4⟩)
    rcases e2 with ⟨-, b, d⟩ | ⟨-, b⟩
    · dsimp only; rw [b, ← d]; rfl
    · exact b
  obtain ⟨m', rfl⟩ : ∃ m', m = m' + 1 := ⟨m - 1, by omega⟩
  refine Rt.f (by rw [nI_leI (by omega) (by omega)]; exact hx) ?_
  rcases e2 with ⟨rfl, rfl, e2⟩ | ⟨rfl, rfl⟩
  · refine Rt.t rfl ?_
    rw [bnd_d, nI_1]
    refine lp_rule (I := fun m2 p => ∃ y f v τ, p = (f, v, nI y, τ) ∧ m2 + y = cN c ∧ ((f = 0 ∧ v = -1 ∧ oN (if (bI Q x m2 y).isSome then bI Q x m2 y else bO Q (cN c) m' (x + 1)) = H) ∨ (f = 1 ∧ v = H)) ∧ Qx c c A L τ h ∧ Fr (TW h A) σ τ) _ ?_ FU (cN c - (x + 1)) _ (FU_big (by omega)) ⟨x + 1, 0, -1, τ, rfl, by omega, Or.inl ⟨rfl, rfl, e2⟩, e3, e4⟩
    rintro m2 rec2 _ ⟨y, f, v, τ, rfl, w1, w2, w3, w4⟩ hrec2
    have g5 : gI τ (h + 1) 5 = nI (cN c) := w3.1.1
    unfold b_X2_firstToChange_36
    dsimp only
    rw [g5, bnd_d, nI_1]
    by_cases hy : cN c ≤ y
    · have em : m2 = 0 := by omega
      subst em
      refine Rt.t (nI_le hy (by omega)) (hrec m' _ (by omega) ⟨x + 1, f, v, τ, rfl, by omega, ?_, w3, w4⟩)
      rcases w2 with ⟨a, b, d⟩ | w
      · exact Or.inl ⟨a, b, d⟩
      · exact Or.inr w
    obtain ⟨m2', rfl⟩ : ∃ m', m2 = m' + 1 := ⟨m2 - 1, by omega⟩
    refine Rt.f (by rw [nI_leI (by omega) (by omega)]; exact hy) ?_
    rcases w2 with ⟨rfl, rfl, w2⟩ | ⟨rfl, rfl⟩
    · refine Rt.t rfl (Rt.o (trial_q ok w3 hA.symm (by omega) (by omega)) ?_)
      rintro τ1 ⟨z1, G1⟩
      have h61 : gI τ1 h 6 = nI t := by rw [G1.I (by unfold TW W1; omega), w4.I (by unfold TW W1; omega)]; exact h6
      rw [h61]
      have oks := swC_ok ok (x := x) (y := y) (by omega) (by omega)
      refine Rt.o (isRight_q oks z1 z1.2.1 hA.symm n1 ht hl) ?_
      rintro ⟨b, τ2⟩ ⟨k1, z2, G2⟩
      dsimp only at k1 z2 G2
      rw [← hQ] at k1
      subst k1
      refine Rt.o (trial_q oks z2 hA.symm (x := x) (y := y) (by show x < cN c; omega) (by show y < cN c; omega)) ?_
      rintro τ3 ⟨z3, G3⟩
      rw [swC_2] at z3
      have FF := ((w4.tr G1).tr G2).tr G3
      cases hq : Q x y with
      | false =>
        have eb : bI Q x (m2' + 1) y = bI Q x m2' (y + 1) := by
          show (if Q x y then _ else _) = _
          rw [hq]; rfl
        rw [eb] at w2
        refine Rt.t rfl ?_
        rw [bnd_d, nI_1]
        exact hrec2 m2' _ (by omega) ⟨y + 1, _, _, τ3, rfl, by omega, Or.inl ⟨rfl, rfl, w2⟩, z3, FF⟩
      | true =>
        have eb : bI Q x (m2' + 1) y = some (100 * x + y) := by
          show (if Q x y then _ else _) = _
          rw [hq]; rfl
        rw [eb, if_pos (show (some (100 * x + y)).isSome = true from rfl)] at w2
        refine Rt.f (show ¬ oI true = 0 by decide) ?_
        rw [bnd_d, bnd_d, nI_1, i_100, pk_mul, nI_add]
        exact hrec2 m2' _ (by omega) ⟨y + 1, _, _, τ3, rfl, by omega, Or.inr ⟨rfl, w2⟩, z3, FF⟩
    · refine Rt.f (by decide) ?_
      exact hrec m' _ (by omega) ⟨x + 1, _, _, τ, rfl, by omega, Or.inr ⟨rfl, rfl⟩, w3, w4⟩
  · exact Rt.f (by decide) (Rt.s ⟨rfl, e3.xq hl, e4⟩)
theorem f2_mq (ok : CVok c) (q0 : XQ c L σ h) (n1 : 1 ≤ cN c) (R : Nat → Nat → Nat) (hR : ∀ x y, R x y = L.length - L.countP (sndC (swC c x y) (2 ^ cN c - 1))) : Rt (f_X2_mostQuiet σ h) (fun u => u.1 = nI (mOx R (cN c) (cN c) 0 (L.length - L.countP (sndC c (2 ^ cN c - 1)))) ∧ XQ c L u.2 h ∧ Fr (TW h (2 ^ cN c - 1)) σ u.2) := by
  have hl := q0.2.2.2
  have h8 := ok.1
  have h9 := p2_9 ok.1
  have p1 : 2 ≤ 2 ^ cN c := Nat.pow_le_pow_right (n := 2) (by decide) n1
  have R92 : ∀ x y, R x y ≤ 92 := fun x y => by rw [hR]; omega
  generalize hA : 2 ^ cN c - 1 = A at *
  have q := q0.qx (A := A) (by omega) (by omega)
  unfold f_X2_mostQuiet
  refine Rt.o (right_q ok q q.2.1 hA.symm n1 hl) ?_
  rintro ⟨v, σ1⟩ ⟨e1, q1, F1⟩
  dsimp only at e1 q1 F1
  subst e1
  generalize hH : mOx R (cN c) (cN c) 0 (L.length - L.countP (sndC c A)) = H
  refine lp_rule (I := fun m p => ∃ x a τ, p = (nI a, nI x, τ) ∧ a ≤ 92 ∧ m + x = cN c ∧ mOx R (cN c) m x a = H ∧ Qx c c A L τ h ∧ Fr (TW h A) σ τ) _ ?_ FU (cN c) _ (FU_big (by omega)) ⟨0, _, σ1, rfl, by omega, rfl, hH, q1, F1⟩
  rintro m rec _ ⟨x, a, τ, rfl, e0, e1, e2, e3, e4⟩ hrec
  have g5 : gI τ (h + 1) 5 = nI (cN c) := e3.1.1
  unfold b_X2_mostQuiet_10
  dsimp only
  rw [g5]
  by_cases hx : cN c ≤ x
  · have em : m = 0 := by omega
    subst em
    refine Rt.t (nI_le hx (by omega)) (Rt.s ⟨?_, e3.xq hl, e4⟩)
    rw [← e2]; rfl
  obtain ⟨m', rfl⟩ : ∃ m', m = m' + 1 := ⟨m - 1, by omega⟩
  refine Rt.f (by rw [nI_leI (by omega) (by omega)]; exact hx) ?_
  rw [bnd_d, nI_1]
  have e2' : mOx R (cN c) m' (x + 1) (mIx R x (cN c - (x + 1)) (x + 1) a) = H := e2
  refine lp_rule (I := fun m2 p => ∃ y a τ, p = (nI a, nI y, τ) ∧ a ≤ 92 ∧ m2 + y = cN c ∧ mOx R (cN c) m' (x + 1) (mIx R x m2 y a) = H ∧ Qx c c A L τ h ∧ Fr (TW h A) σ τ) _ ?_ FU (cN c - (x + 1)) _ (FU_big (by omega)) ⟨x + 1, a, τ, rfl, e0, by omega, e2', e3, e4⟩
  rintro m2 rec2 _ ⟨y, b, τ, rfl, w0, w1, w2, w3, w4⟩ hrec2
  have g5 : gI τ (h + 1) 5 = nI (cN c) := w3.1.1
  unfold b_X2_mostQuiet_25
  dsimp only
  rw [g5, bnd_d, nI_1]
  by_cases hy : cN c ≤ y
  · have em : m2 = 0 := by omega
    subst em
    exact Rt.t (nI_le hy (by omega)) (hrec m' _ (by omega) ⟨x + 1, b, τ, rfl, w0, by omega, w2, w3, w4⟩)
  obtain ⟨m2', rfl⟩ : ∃ m', m2 = m' + 1 := ⟨m2 - 1, by omega⟩
  refine Rt.f (by rw [nI_leI (by omega) (by omega)]; exact hy) (Rt.o (trial_q ok w3 hA.symm (by omega) (by omega)) ?_)
  rintro τ1 ⟨z1, G1⟩
  have oks := swC_ok ok (x := x) (y := y) (by omega) (by omega)
  refine Rt.o (right_q oks z1 z1.2.1 hA.symm n1 hl) ?_
  rintro ⟨v, τ2⟩ ⟨k1, z2, G2⟩
  dsimp only at k1 z2 G2
  rw [← hR] at k1
  subst k1
  have r92 := R92 x y
  rw [bnd_d]
  dsimp only
  rw [mxI_nI (by omega) (by omega)]
  refine Rt.o (trial_q oks z2 hA.symm (x := x) (y := y) (by show x < cN c; omega) (by show y < cN c; omega)) ?_
  rintro τ3 ⟨z3, G3⟩
  rw [swC_2] at z3
  rw [bnd_d, nI_1]
  exact hrec2 m2' _ (by omega) ⟨y + 1, _, τ3, rfl, mx2_le w0 r92, by omega, w2, z3, ((w4.tr G1).tr G2).tr G3⟩
/-- the reference's -/
theorem f9_bes (ok : CVok c) (hM : MC c σ) {tr : Nat} (htr : tr < 256) (h6 : gI σ 81 6 = nI tr) (Q : Nat → Nat → Bool) (hQ : ∀ x y, Q x y = !sndC (swC c x y) (2 ^ cN c - 1) tr) : Rt (loopN b_X9_beside_26 FU (0, σ)) (fun u => u.1 = oN (bO Q (cN c) (cN c) 0) ∧ MC c u.2 ∧ Fr (fun r _ => r = 86) σ u.2) := by
  have h8 := ok.1
  have h9 := p2_9 ok.1
  generalize hH : bO Q (cN c) (cN c) 0 = H
  refine lp_rule (I := fun m p => ∃ x τ, p = (nI x, τ) ∧ m + x = cN c ∧ bO Q (cN c) m x = H ∧ MC c τ ∧ Fr (fun r _ => r = 86) σ τ) _ ?_ FU (cN c) _ (FU_big (by omega)) ⟨0, σ, rfl, rfl, hH, hM, Fr.rf⟩
  rintro m rec _ ⟨x, τ, rfl, e1, e2, e3, e4⟩ hrec
  unfold b_X9_beside_26
  dsimp only
  rw [e3.1]
  by_cases hx : cN c ≤ x
  · have em : m = 0 := by omega
    subst em
    refine Rt.t (nI_le hx (by omega)) (Rt.s ⟨?_, e3, e4⟩)
    rw [← e2]; rfl
  obtain ⟨m', rfl⟩ : ∃ m', m = m' + 1 := ⟨m - 1, by omega⟩
  refine Rt.f (by rw [nI_leI (by omega) (by omega)]; exact hx) ?_
  rw [bnd_d, nI_1]
  have e2' : (if (bI Q x (cN c - (x + 1)) (x + 1)).isSome then bI Q x (cN c - (x + 1)) (x + 1) else bO Q (cN c) m' (x + 1)) = H := e2
  refine lp_rule (I := fun m2 p => ∃ y τ, p = (nI y, τ) ∧ m2 + y = cN c ∧ (if (bI Q x m2 y).isSome then bI Q x m2 y else bO Q (cN c) m' (x + 1)) = H ∧ MC c τ ∧ Fr (fun r _ => r = 86) σ τ) _ ?_ FU (cN c - (x + 1)) _ (FU_big (by omega)) ⟨x + 1, τ, rfl, by omega, e2', e3, e4⟩
  rintro m2 rec2 _ ⟨y, τ, rfl, w1, w2, w3, w4⟩ hrec2
  unfold b_X9_beside_38
  dsimp only
  rw [w3.1]
  by_cases hy : cN c ≤ y
  · have em : m2 = 0 := by omega
    subst em
    refine Rt.t (nI_le hy (by omega)) ?_
    rw [bnd_d, nI_1]
    exact hrec m' _ (by omega) ⟨x + 1, τ, rfl, by omega, w2, w3, w4⟩
  obtain ⟨m2', rfl⟩ : ∃ m', m2 = m' + 1 := ⟨m2 - 1, by omega⟩
  refine Rt.f (by rw [nI_leI (by omega) (by omega)]; exact hy) (Rt.o (f9_changes ok w3 (x := x) (y := y) (by omega) (by omega)) ?_)
  rintro τ1 ⟨z1, G1⟩
  have oks := swC_ok ok (x := x) (y := y) (by omega) (by omega)
  rw [bnd_d, f9_everybody oks z1, show cN (swC c x y) = cN c from rfl, G1.I (r := 81) (by omega), w4.I (r := 81) (by omega), h6, f9_soundOf oks z1 (by have := p2_1 (cN c); omega) htr, obd_s]
  refine Rt.o (f9_changes oks z1 (x := x) (y := y) (by show x < cN c; omega) (by show y < cN c; omega)) ?_
  rintro τ2 ⟨z2, G2⟩
  rw [swC_2] at z2
  have FF := (w4.tr G1).tr G2
  have hq := hQ x y
  cases hs : sndC (swC c x y) (2 ^ cN c - 1) tr with
  | false =>
    rw [hs] at hq
    have eb : bI Q x (m2' + 1) y = some (100 * x + y) := by
      show (if Q x y then _ else _) = _
      rw [hq]; rfl
    rw [eb, if_pos (show (some (100 * x + y)).isSome = true from rfl)] at w2
    refine Rt.t rfl ?_
    unfold j_X9_beside_75
    rw [i_100, pk_mul, nI_add, ← w2]
    exact Rt.s ⟨rfl, z2, FF⟩
  | true =>
    rw [hs] at hq
    have eb : bI Q x (m2' + 1) y = bI Q x m2' (y + 1) := by
      show (if Q x y then _ else _) = _
      rw [hq]; rfl
    rw [eb] at w2
    refine Rt.f (by decide) ?_
    rw [bnd_d, nI_1]
    exact hrec2 m2' _ (by omega) ⟨y + 1, τ2, rfl, by omega, w2, z2, FF⟩
theorem f9_right (ok : CVok c) (hM : MC c σ) {m : Nat} (hm : gI σ 81 1 = nI m) (hm3 : m ≤ 3) : Rt (f_X9_right σ) (fun u => u.1 = nI ((WL (cN c) m).length - (WL (cN c) m).countP (sndC c (2 ^ cN c - 1))) ∧ Fr SL σ u.2) := by
  have h8 := ok.1
  have h9 := p2_9 ok.1
  have p1 := p2_1 (cN c)
  have h92 := WL_len (cN c) (by omega) m (by omega)
  have hw : ∀ w ∈ WL (cN c) m, w < 256 := fun w hw => (WL_lt ok.1 hw).2.1
  unfold f_X9_right
  refine Rt.o (f9_lists ok hM hm hm3) ?_
  rintro ⟨v, σ1⟩ ⟨h1, -, h3, F1⟩
  dsimp only at h1 h3 F1
  subst h1
  have M1 : MC c σ1 := hM.fr F1 (fun r k z => by unfold SL at z; omega)
  generalize WL (cN c) m = l at *
  refine lp_acc (enc := fun (a : Nat) (i : Nat) => ((nI a, nI i) : Int32 × Int32)) l.length (fun a i => a + (l.take i).countP (sndC c (2 ^ cN c - 1)) = i) _ ?_ ?_ FU 0 0 (Nat.zero_le _) (FU_big (by omega)) rfl
  · intro rec a i hi hJ hrec
    unfold b_X9_right_9
    dsimp only
    rw [bnd_d, f9_everybody ok M1, nI_clamp (by omega), h3 i hi, f9_soundOf ok M1 (by omega) (hw _ (getD_mem hi)), obd_s, bnd_d, bnd_d, nI_1]
    refine Rt.f (by rw [nI_leI (by omega) (by omega)]; omega) (Rt.c (inb_nI (by omega) (by decide)) ?_)
    have tk : (l.take (i + 1)).countP (sndC c (2 ^ cN c - 1)) = (l.take i).countP (sndC c (2 ^ cN c - 1)) + (sndC c (2 ^ cN c - 1) (l.getD i 0)).toNat := by
      rw [take_snoc hi, List.countP_append, List.countP_singleton]
      cases sndC c (2 ^ cN c - 1) (l.getD i 0) <;> rfl
    cases hs : sndC c (2 ^ cN c - 1) (l.getD i 0) with
    | false =>
      rw [hs, show (false : Bool).toNat = 0 from rfl] at tk
      rw [show nI a + (1 - oI false) = nI (a + 1) from nI_add a 1]
      exact hrec (a + 1) (by omega)
    | true =>
      rw [hs, show (true : Bool).toNat = 1 from rfl] at tk
      rw [show nI a + (1 - oI true) = nI (a + 0) from nI_add a 0]
      exact hrec (a + 0) (by omega)
  · intro rec a hJ
    rw [List.take_length] at hJ
    unfold b_X9_right_9
    refine Rt.t (nI_le (Nat.le_refl _) (by omega)) (Rt.s ⟨?_, F1⟩)
    dsimp only
    rw [show a = l.length - l.countP (sndC c (2 ^ cN c - 1)) by omega]
theorem f9_qui (ok : CVok c) (hM : MC c σ) {m : Nat} (hm : gI σ 81 1 = nI m) (hm3 : m ≤ 3) (R : Nat → Nat → Nat) (hR : ∀ x y, R x y = (WL (cN c) m).length - (WL (cN c) m).countP (sndC (swC c x y) (2 ^ cN c - 1))) : Rt (obd (f_X9_right σ) fun u2 => loopN b_X9_quiet_21 FU (u2.1, 0, u2.2)) (fun u => u.1 = nI (mOx R (cN c) (cN c) 0 ((WL (cN c) m).length - (WL (cN c) m).countP (sndC c (2 ^ cN c - 1)))) ∧ MC c u.2 ∧ Fr (fun r k => r = 86 ∨ SL r k) σ u.2) := by
  have h8 := ok.1
  have h9 := p2_9 ok.1
  have h92 := WL_len (cN c) (by omega) m (by omega)
  have R92 : ∀ x y, R x y ≤ 92 := fun x y => by rw [hR]; omega
  refine Rt.o (f9_right ok hM hm hm3) ?_
  rintro ⟨v, σ1⟩ ⟨e1, F1⟩
  dsimp only at e1 F1
  subst e1
  have M1 : MC c σ1 := hM.fr F1 (fun r k z => by unfold SL at z; omega)
  have F1' : Fr (fun r k => r = 86 ∨ SL r k) σ σ1 := F1.mono (fun r k z => Or.inr z)
  dsimp only
  generalize hH : mOx R (cN c) (cN c) 0 ((WL (cN c) m).length - (WL (cN c) m).countP (sndC c (2 ^ cN c - 1))) = H
  refine lp_rule (I := fun k p => ∃ x a τ, p = (nI a, nI x, τ) ∧ a ≤ 92 ∧ k + x = cN c ∧ mOx R (cN c) k x a = H ∧ MC c τ ∧ Fr (fun r k => r = 86 ∨ SL r k) σ τ) _ ?_ FU (cN c) _ (FU_big (by omega)) ⟨0, _, σ1, rfl, by omega, rfl, hH, M1, F1'⟩
  rintro k rec _ ⟨x, a, τ, rfl, e0, e1, e2, e3, e4⟩ hrec
  unfold b_X9_quiet_21
  dsimp only
  rw [e3.1]
  by_cases hx : cN c ≤ x
  · have em : k = 0 := by omega
    subst em
    refine Rt.t (nI_le hx (by omega)) (Rt.s ⟨?_, e3, e4⟩)
    rw [← e2]; rfl
  obtain ⟨k', rfl⟩ : ∃ m', k = m' + 1 := ⟨k - 1, by omega⟩
  refine Rt.f (by rw [nI_leI (by omega) (by omega)]; exact hx) ?_
  rw [bnd_d, nI_1]
  have e2' : mOx R (cN c) k' (x + 1) (mIx R x (cN c - (x + 1)) (x + 1) a) = H := e2
  refine lp_rule (I := fun m2 p => ∃ y a τ, p = (nI a, nI y, τ) ∧ a ≤ 92 ∧ m2 + y = cN c ∧ mOx R (cN c) k' (x + 1) (mIx R x m2 y a) = H ∧ MC c τ ∧ Fr (fun r k => r = 86 ∨ SL r k) σ τ) _ ?_ FU (cN c - (x + 1)) _ (FU_big (by omega)) ⟨x + 1, a, τ, rfl, e0, by omega, e2', e3, e4⟩
  rintro m2 rec2 _ ⟨y, b, τ, rfl, w0, w1, w2, w3, w4⟩ hrec2
  unfold b_X9_quiet_33
  dsimp only
  rw [w3.1]
  by_cases hy : cN c ≤ y
  · have em : m2 = 0 := by omega
    subst em
    refine Rt.t (nI_le hy (by omega)) ?_
    rw [bnd_d, nI_1]
    exact hrec k' _ (by omega) ⟨x + 1, b, τ, rfl, w0, by omega, w2, w3, w4⟩
  obtain ⟨m2', rfl⟩ : ∃ m', m2 = m' + 1 := ⟨m2 - 1, by omega⟩
  refine Rt.f (by rw [nI_leI (by omega) (by omega)]; exact hy) (Rt.o (f9_changes ok w3 (x := x) (y := y) (by omega) (by omega)) ?_)
  rintro τ1 ⟨z1, G1⟩
  have oks := swC_ok ok (x := x) (y := y) (by omega) (by omega)
  refine Rt.o (f9_right oks z1 (m := m) (by rw [G1.I (by omega), w4.I (by unfold SL; omega)]; exact hm) hm3) ?_
  rintro ⟨v, τ2⟩ ⟨k1, G2⟩
  dsimp only at k1 G2
  have k1' : v = nI (R x y) := by rw [k1, hR]; rfl
  subst k1'
  have r92 := R92 x y
  refine Rt.o (f9_changes oks (z1.fr G2 (fun r k z => by unfold SL at z; omega)) (x := x) (y := y) (by show x < cN c; omega) (by show y < cN c; omega)) ?_
  rintro τ3 ⟨z3, G3⟩
  rw [swC_2] at z3
  have FF := ((w4.tr (G1.mono (fun r k z => Or.inl z))).tr (G2.mono (fun r k z => Or.inr z))).tr (G3.mono (fun r k z => Or.inl z))
  have w2' : mOx R (cN c) k' (x + 1) (mIx R x m2' (y + 1) (mx2 b (R x y))) = H := w2
  dsimp only
  rw [bnd_d, bnd_d, nI_1]
  unfold mx2 at w2'
  by_cases e : b < R x y
  · rw [if_pos e] at w2'
    exact Rt.f (by rw [nI_leI (by omega) (by omega)]; omega) (hrec2 m2' _ (by omega) ⟨y + 1, _, τ3, rfl, r92, by omega, w2', z3, FF⟩)
  · rw [if_neg e] at w2'
    exact Rt.t (nI_le (by omega) (by omega)) (hrec2 m2' _ (by omega) ⟨y + 1, _, τ3, rfl, w0, by omega, w2', z3, FF⟩)
end TR
section TR2
variable {j : Nat} {c : CV} {r : Nat → Nat} {hs : HS} {tr : Nat} {sd : Int32} {σ σ' : PH} {d : PD}
theorem InA.tw {A : Nat} (I : InA j c r hs tr sd σ d) (f : Fr (TW d.1 A) σ σ') (hQ : XQ c (WL (cN c) (r 0)) σ' d.1) : InA j c r hs tr sd σ' d := by
  obtain ⟨hR, v, X, M, hS⟩ := id I
  have hd := hR.1
  refine I.mk' f (fun r k z => Or.inr (Or.inl (by unfold TW W1 at z; unfold WH; omega))) v (Nat.le_refl _) ⟨hQ, X.2.1.k f (fun r k z => by unfold TW W1 at z; omega), ?_, ?_⟩ (M.fr f (fun r k z => by unfold TW W1 at z; unfold WM; unfold Hls at hd; omega))
  · rw [f.I (by unfold TW W1; omega)]; exact X.2.2.1
  · rw [f.J (by unfold TW W1; omega), f.J (by unfold TW W1; omega)]; exact X.2.2.2
theorem InA.m86 {W : Nat → Nat → Prop} (I : InA j c r hs tr sd σ d) (f : Fr W σ σ') (hW : ∀ r k, W r k → r = 86 ∨ SL r k) (hM : MC c σ') : InA j c r hs tr sd σ' d := by
  obtain ⟨hR, v, X, M, hS⟩ := id I
  have hd := hR.1
  have N : ∀ r k, ¬ (r = 86 ∨ SL r k) → ¬ W r k := fun r k h z => h (hW r k z)
  refine I.mk' f (fun r k z => ?_) v (Nat.le_refl _) (X.fr f (fun r k z => ?_)) ⟨hM, fun k hk => ?_, ⟨?_, fun k hk => ?_⟩, ?_, ?_⟩
  · rcases hW r k z with z | z
    · exact Or.inr (Or.inr (by unfold WM; omega))
    · exact Or.inl (by unfold SL at z; unfold SCR; omega)
  · have := hW r k z; unfold SL at this; unfold Hls at hd; omega
  · rw [f.I (N _ _ (by unfold SL; omega))]; exact M.2.1 k hk
  · rw [f.I (N _ _ (by unfold SL; omega))]; exact M.2.2.1.1
  · rw [f.I (N _ _ (by unfold SL; omega)), f.I (N _ _ (by unfold SL; omega))]; exact M.2.2.1.2 k hk
  · rw [f.I (N _ _ (by unfold SL; omega))]; exact M.2.2.2.1
  · rw [f.I (N _ _ (by unfold SL; omega))]; exact M.2.2.2.2
theorem st_beside (σ : PH) (d : PD) (hI : Inv σ d) : ∃ (u v : Int32 × PH), f_X8_beside σ d = some u ∧ f_X9_beside u.2 = some v ∧ u.1 = v.1 ∧ Inv v.2 d := by
  obtain ⟨c, r, hs, tr, sd, I⟩ := hI
  refine two (y := fun s => f_X9_beside s) ?_
  have n8 := I.n8
  have h9 := p2_9 n8
  unfold f_X8_beside
  obtain ⟨t, ht, hT⟩ := I.2.2.1.2.2.1
  by_cases hn : cN c = 0
  · have p0 : 2 ^ cN c - 1 = 0 := by rw [hn]
    have K := I.xq.2.2.1
    have t0 : t < 128 := by
      have := I.xq.2.2.2
      rcases hT with ⟨-, e, -⟩ | ⟨e, -⟩ <;> omega
    have S : f_X2_firstToChange σ d.1 = some (-1, σ) := by
      unfold f_X2_firstToChange f_X7_isRightWhenAllSing
      rw [bnd_d, f0_all I.ok I.xc, p0]
      unfold f_X7_soundOf f_X7_slot
      rw [if_pos (by decide), obd_s]
      dsimp only
      rw [chk_t (by decide), chk_t (by decide), bnd_d, show (0 : Int32).toNatClampNeg = 0 from rfl, K.1, K.2.1, ht, f7_isIn t0, Bt_0, if_pos (show oI false = 0 from rfl), obd_s, if_pos rfl, obd_s]
      have e1 : FU = 1048575 + 1 := rfl
      rw [e1]
      show b_X2_firstToChange_16 d.1 (loopN (b_X2_firstToChange_16 d.1) 1048575) (1, -1, 0, σ) = _
      unfold b_X2_firstToChange_16
      dsimp only
      rw [show gI σ (d.1 + 1) 5 = nI (cN c) from I.xc.1, hn, if_pos (by decide)]
    rw [S, obd_s]
    refine Rt.s ?_
    unfold f_X9_beside
    dsimp only
    rw [I.mc.1, hn, if_pos (by decide)]
    exact Rt.s ⟨rfl, I.inv⟩
  have hL : 0 < (WL (cN c) (r 0)).length := WL_pos I (s := 1) (by decide) (by have := Nat.pow_le_pow_right (n := 2) (by decide) (show 1 ≤ cN c by omega); omega)
  obtain ⟨t1, t2⟩ := TR_pos hT hL
  have tr2 := tr_256 I hL
  have p1 := p2_1 (cN c)
  have F := f2_ftc I.ok I.xq (by omega) ht t1 (fun x y => !sndC (swC c x y) (2 ^ cN c - 1) tr) (fun x y => by rw [t2])
  rw [t2] at F
  refine Rt.o F ?_
  rintro ⟨v, σ1⟩ ⟨e1, q1, F1⟩
  dsimp only at e1 q1 F1
  have I1 := I.tw F1 q1
  refine Rt.s ?_
  unfold f_X9_beside
  dsimp only
  refine Rt.f (by rw [I1.mc.1, i_0, nI_eq (by omega) (by decide)]; exact hn) ?_
  rw [bnd_d, f9_everybody I1.ok I1.mc, I1.2.2.2.1.2.2.2.1, f9_soundOf I1.ok I1.mc (by omega) tr2, obd_s]
  cases hs' : sndC c (2 ^ cN c - 1) tr with
  | false =>
    rw [hs', if_neg (by decide)] at e1
    exact Rt.t rfl (Rt.s ⟨e1, I1.inv⟩)
  | true =>
    rw [hs', if_pos rfl] at e1
    refine Rt.f (by decide) ?_
    refine (f9_bes I1.ok I1.mc tr2 I1.2.2.2.1.2.2.2.1 (fun x y => !sndC (swC c x y) (2 ^ cN c - 1) tr) (fun x y => rfl)).m ?_
    rintro ⟨w, σ2⟩ ⟨k1, k2, k3⟩
    exact ⟨e1.trans k1.symm, (I1.m86 k3 (fun r k z => Or.inl z) k2).inv⟩
theorem st_quiet (σ : PH) (d : PD) (hI : Inv σ d) : ∃ (u v : Int32 × PH), f_X8_quiet σ d = some u ∧ f_X9_quiet u.2 = some v ∧ u.1 = v.1 ∧ Inv v.2 d := by
  obtain ⟨c, r, hs, tr, sd, I⟩ := hI
  refine two (y := fun s => f_X9_quiet s) ?_
  have n8 := I.n8
  unfold f_X8_quiet
  rw [show gI σ (d.1 + 1) 5 = nI (cN c) from I.xc.1]
  by_cases hn : cN c = 0
  · rw [if_pos (by rw [hn]; rfl)]
    refine rf5 I (fun s => f_X9_quiet s) (fun σ1 I1 _ => ?_)
    unfold f_X9_quiet
    rw [I1.mc.1, if_pos (by rw [hn]; rfl)]
  have nn : ¬ nI (cN c) = 0 := by rw [i_0, nI_eq (by omega) (by decide)]; exact hn
  rw [if_neg nn]
  refine Rt.o (f2_mq I.ok I.xq (by omega) (fun x y => (WL (cN c) (r 0)).length - (WL (cN c) (r 0)).countP (sndC (swC c x y) (2 ^ cN c - 1))) (fun x y => rfl)) ?_
  rintro ⟨v, σ1⟩ ⟨e1, q1, F1⟩
  dsimp only at e1 q1 F1
  have I1 := I.tw F1 q1
  refine Rt.s ?_
  unfold f_X9_quiet
  dsimp only
  refine Rt.f (by rw [I1.mc.1]; exact nn) ?_
  refine (f9_qui I1.ok I1.mc (m := r 0) (I1.2.2.2.1.2.1 0 (by decide)) I1.m3 (fun x y => (WL (cN c) (r 0)).length - (WL (cN c) (r 0)).countP (sndC (swC c x y) (2 ^ cN c - 1))) (fun x y => rfl)).m ?_
  rintro ⟨w, σ2⟩ ⟨k1, k2, k3⟩
  exact ⟨e1.trans k1.symm, (I1.m86 k3 (fun r k z => z) k2).inv⟩
end TR2
