/-! the loft's numbers -/
def cz (i : Nat) : Nat := (List.range i).countP fun k => decide (wdL.getD k 0 = 0)
theorem cz_f : ∀ i, i < 33 → (i < 32 → cz i < 5 ∧ cz (i + 1) = cz i + (if wdL.getD i 0 = 0 then 1 else 0)) ∧ cz 32 = 5 := by decide +kernel
def dg (f : Nat → Int32) (i : Nat) : Bool := !decide (f i < 48) && !decide (57 < f i)
theorem dg_t {f : Nat → Int32} {i : Nat} (h : dg f i = true) : ∃ d, f i = nI d ∧ 48 ≤ d ∧ d ≤ 57 := by
  unfold dg at h
  rw [Bool.and_eq_true, Bool.not_eq_true', Bool.not_eq_true', decide_eq_false_iff_not, decide_eq_false_iff_not] at h
  rcases i_between (f i) 48 57 (by decide) (by decide) with ⟨v, a, b, e, -, -⟩ | ⟨z, -⟩
  · exact ⟨v, e, a, b⟩
  · exfalso
    rcases z with z | ⟨-, z⟩
    · exact h.1 z
    · exact h.2 z
theorem dg_f {f : Nat → Int32} {i : Nat} (h : dg f i = false) : f i < 48 ∨ (¬ f i < 48 ∧ 57 < f i) := by
  unfold dg at h
  by_cases a : f i < 48
  · exact Or.inl a
  · refine Or.inr ⟨a, ?_⟩
    rw [decide_eq_false a] at h
    by_cases b : 57 < f i
    · exact b
    · rw [decide_eq_false b] at h; exact absurd h (by decide)
def ndS (f : Nat → Int32) (q : Nat) : Nat → Nat → Nat → Nat × Nat
  | 0, k, v => (k, v)
  | m + 1, k, v => if dg f (q + k) then ndS f q m (k + 1) (10 * v + ((f (q + k)).toNatClampNeg - 48)) else (k, v)
theorem ndS_0 {f : Nat → Int32} {q : Nat} : (ndS f q 3 0 0).1 = 0 ↔ dg f q = false := by
  have mono : ∀ m k v, k ≤ (ndS f q m k v).1 := by
    intro m
    induction m with
    | zero => intro k v; exact Nat.le_refl _
    | succ m ih =>
      intro k v
      show k ≤ (if dg f (q + k) then ndS f q m (k + 1) (10 * v + ((f (q + k)).toNatClampNeg - 48)) else (k, v)).1
      split
      · exact Nat.le_trans (by omega) (ih (k + 1) _)
      · exact Nat.le_refl _
  show (if dg f (q + 0) then ndS f q 2 (0 + 1) (10 * 0 + ((f (q + 0)).toNatClampNeg - 48)) else (0, 0)).1 = 0 ↔ _
  rw [Nat.add_zero]
  cases h : dg f q with
  | false => exact ⟨fun _ => rfl, fun _ => rfl⟩
  | true =>
    rw [if_pos rfl]
    have := mono 2 (0 + 1) (10 * 0 + ((f q).toNatClampNeg - 48))
    constructor
    · intro z; omega
    · intro z; cases z
section NUM
variable {σ σ' : PH}
theorem isWordAt_ok {s z p u : Nat} {T : Nat → Int32} (hs : s < 8) (h : TX σ s z T) (hC : cnst σ) (hp : p ≤ 200) (hM : MT σ s z p) (hu : u = 0 ∨ u = 5) : f_X9_isWordAt σ (nI u) = some (oI (decide (mpx (sg T z) p (wd u) = (wd u).length))) := by
  obtain ⟨m25, m27, m26⟩ := hM
  have h160 := h.2.1
  have c95 : ∀ k, k < 45 → gI σ 95 k = nI (wdL.getD k 0) := hC.1
  have hw0 : wof 0 = 0 := rfl
  have hw5 : wof 5 = 32 := rfl
  obtain ⟨-, -, f3, f4, f5, f6, -, -⟩ := wd_f u (by omega)
  have wu : wof u + (wd u).length < 45 := by
    have := (wd_f u (by omega)).2.2.2.2.2.2.2
    omega
  have ml := mpx_le (sg T z) (wd u) p
  unfold f_X9_isWordAt
  apply Rt.q
  have fin : Rt (j_X9_isWordAt_32 σ (nI (wof u))) (fun v => v = oI (decide (mpx (sg T z) p (wd u) = (wd u).length))) := by
    unfold j_X9_isWordAt_32
    rw [bnd_d, m26]
    have out : Rt (j_X9_isWordAt_86 σ (nI (wof u + mpx (sg T z) p (wd u)))) (fun v => v = oI (decide (mpx (sg T z) p (wd u) = (wd u).length))) := by
      unfold j_X9_isWordAt_86
      rw [nI_clamp (by omega), c95 _ (by omega)]
      refine Rt.c (inb_nI (by omega) (by decide)) ?_
      by_cases e : mpx (sg T z) p (wd u) = (wd u).length
      · rw [decide_eq_true e, e, f6]
        exact Rt.f (by decide) (Rt.s rfl)
      · obtain ⟨-, g1, g2, g3⟩ := f5 (mpx (sg T z) p (wd u)) (by omega)
        rw [decide_eq_false e, g1]
        exact Rt.t (by rw [i_32]; exact nI_lt (by omega) (by omega)) (Rt.s rfl)
    refine Rt.e (y := loopN (b_X9_isWordAt_37 σ) FU (nI (wof u + 0), nI (p + 0))) rfl ?_
    refine lp_acc (enc := fun (_ : Unit) (i : Nat) => ((nI (wof u + i), nI (p + i)) : Int32 × Int32)) (mpx (sg T z) p (wd u)) (fun _ _ => True) _ ?_ ?_ FU () 0 (Nat.zero_le _) (FU_big (by omega)) trivial
    · intro rec2 _ i hi _ hrec2
      obtain ⟨-, g1, g2, g3⟩ := f5 i (by omega)
      have gi := mpx_in _ _ _ _ hi
      obtain ⟨q1, q2⟩ := sg_in gi (by omega)
      obtain ⟨t1, t2⟩ := txt_ok hs h q1
      unfold b_X9_isWordAt_37
      dsimp only
      rw [m27, m25, nI_clamp (n := wof u + i) (by omega), c95 _ (by omega), g1, t2, q2]
      refine Rt.c (inb_nI (by omega) (by decide)) (Rt.f (by rw [i_32, nI_leI (by omega) (by omega)]; omega) (Rt.f (by rw [nI_leI (by omega) (by omega)]; omega) (Rt.c t1 (Rt.c (inb_nI (by omega) (by decide)) (Rt.t rfl ?_)))))
      rw [bnd_d, bnd_d, nI_1, nI_1]
      exact hrec2 () trivial
    · intro rec2 _ _
      unfold b_X9_isWordAt_37
      dsimp only
      rw [m27, m25, nI_clamp (n := wof u + mpx (sg T z) p (wd u)) (by omega), c95 _ (by omega)]
      refine Rt.c (inb_nI (by omega) (by decide)) ?_
      by_cases e : mpx (sg T z) p (wd u) = (wd u).length
      · exact Rt.t (by rw [e, f6]; decide) out
      · obtain ⟨-, g1, g2, g3⟩ := f5 (mpx (sg T z) p (wd u)) (by omega)
        have ma := mpx_at (sg T z) (wd u) p (by omega)
        refine Rt.f (by rw [g1, i_32, nI_leI (by omega) (by omega)]; omega) ?_
        by_cases y : z ≤ p + mpx (sg T z) p (wd u)
        · exact Rt.t (nI_le y (by omega)) out
        · obtain ⟨t1, t2⟩ := txt_ok hs h (i := p + mpx (sg T z) p (wd u)) (by omega)
          refine Rt.f (by rw [nI_leI (by omega) (by omega)]; exact y) (Rt.c t1 (Rt.c (inb_nI (by omega) (by decide)) (Rt.f ?_ out)))
          rw [t2, g1]
          rw [show sg T z (p + mpx (sg T z) p (wd u)) = T (p + mpx (sg T z) p (wd u)) from if_pos (by omega)] at ma
          exact ma
  refine Rt.e (y := loopN (b_X9_isWordAt_4 σ (nI u)) FU (nI 0, nI (cz 0))) rfl ?_
  refine lp_acc (enc := fun (_ : Unit) (i : Nat) => ((nI i, nI (cz i)) : Int32 × Int32)) (wof u) (fun _ _ => True) _ ?_ ?_ FU () 0 (Nat.zero_le _) (FU_big (by omega)) trivial
  · intro rec2 _ i hi _ hrec2
    have u5 : u = 5 := by
      rcases hu with rfl | rfl
      · omega
      · rfl
    subst u5
    obtain ⟨c1, c2⟩ := (cz_f i (by omega)).1 (by omega)
    have nx := hrec2 () trivial
    rw [c2] at nx
    unfold b_X9_isWordAt_4
    dsimp only
    rw [nI_clamp (by omega), c95 _ (by omega)]
    refine Rt.f (by rw [nI_leI (by omega) (by omega)]; omega) (Rt.c (inb_nI (by omega) (by decide)) ?_)
    have wl : wdL.getD i 0 < 2 ^ 31 := (by decide +kernel : ∀ i, i < 45 → wdL.getD i 0 < 2 ^ 31) i (by omega)
    by_cases e : wdL.getD i 0 = 0
    · rw [if_pos e] at nx
      refine Rt.t (by rw [e]; rfl) ?_
      rw [bnd_d, bnd_d, nI_1, nI_1]
      exact nx
    · rw [if_neg e] at nx
      refine Rt.f (by rw [i_0, nI_eq wl (by decide)]; exact e) ?_
      rw [bnd_d, bnd_d, nI_1, Int32.add_zero]
      exact nx
  · intro rec2 _ _
    unfold b_X9_isWordAt_4
    refine Rt.t ?_ fin
    rcases hu with rfl | rfl
    · decide
    · dsimp only; rw [hw5, (cz_f 0 (by decide)).2]; decide
theorem readNumber_ok {s z q x : Nat} {T : Nat → Int32} (h : TX σ s z T) (hs : s < 8) (hq : q ≤ 200) (hx : x < 3) (h2 : gI σ 5 2 = nI q) : Rt (f_X3_readNumber σ (14 + 2 * s) (nI x)) (fun u => ((ndS (sg T z) q 3 0 0).1 = 0 → u.1 = 0 ∧ u.2 = putI σ 5 3 (nI q)) ∧ ((ndS (sg T z) q 3 0 0).1 ≠ 0 → u.1 = 1 ∧ gI u.2 5 2 = nI (q + (ndS (sg T z) q 3 0 0).1) ∧ gI u.2 6 x = nI (ndS (sg T z) q 3 0 0).2 ∧ (ndS (sg T z) q 3 0 0).2 ≤ 999 ∧ (ndS (sg T z) q 3 0 0).1 ≤ 3 ∧ Fr (fun r k => (r = 5 ∧ k = 2) ∨ (r = 6 ∧ k = x)) σ u.2)) := by
  unfold f_X3_readNumber
  rw [bnd_d, h2]
  generalize hH : ndS (sg T z) q 3 0 0 = H
  refine lp_rule (I := fun m p => ∃ k v τ, p = (nI v, τ) ∧ m + k = 3 ∧ v ≤ 999 ∧ v + 1 ≤ 10 ^ k ∧ ndS (sg T z) q m k v = H ∧ gI τ 5 2 = nI (q + k) ∧ Fr (fun r k => r = 5 ∧ k = 2) σ τ ∧ (k = 0 → τ = σ)) _ ?_ FU 3 (0, σ) (FU_big (by omega)) ⟨0, 0, σ, rfl, rfl, by decide, by decide, hH, h2, Fr.rf, fun _ => rfl⟩
  rintro m rec _ ⟨k, v, τ, rfl, e1, e2, e2b, e3, e4, e5, e6⟩ hrec
  have Tτ : TX τ s z T := h.fr hs e5 (fun r k z => by omega)
  have done : H = (k, v) → Rt (j_X3_readNumber_73 (nI x) (nI q) (nI v) τ) (fun u => (H.1 = 0 → u.1 = 0 ∧ u.2 = putI σ 5 3 (nI q)) ∧ (H.1 ≠ 0 → u.1 = 1 ∧ gI u.2 5 2 = nI (q + H.1) ∧ gI u.2 6 x = nI H.2 ∧ H.2 ≤ 999 ∧ H.1 ≤ 3 ∧ Fr (fun r k => (r = 5 ∧ k = 2) ∨ (r = 6 ∧ k = x)) σ u.2)) := fun hd => by
    unfold j_X3_readNumber_73
    rw [e4, hd]
    by_cases k0 : k = 0
    · have := e6 k0
      subst this
      subst k0
      refine Rt.t rfl ?_
      unfold f_X3_fails
      rw [bnd_d, bnd_d]
      exact Rt.c (show (0 : Int32) &&& 1 = 0 by decide) (Rt.s ⟨fun _ => ⟨rfl, rfl⟩, fun z => absurd rfl z⟩)
    · refine Rt.f (by rw [nI_eq (by omega) (by omega)]; omega) (Rt.f (nI_nlt0 (by omega)) (Rt.t (by rw [i_3]; exact nI_lt hx (by decide)) (Rt.c (inb_nI hx (by decide)) ?_)))
      rw [bnd_d, nI_clamp (by omega)]
      refine Rt.s ⟨fun z => absurd z k0, fun _ => ⟨rfl, ?_, gI_put_eq, e2, by omega, (e5.mono (fun r k z => Or.inl z)).tr (Fr.pI (Or.inr ⟨rfl, rfl⟩))⟩⟩
      dsimp only
      rw [gI_put_ne (Or.inl (by decide))]; exact e4
  unfold b_X3_readNumber_7
  dsimp only
  rw [e4, show nI (q + k) - nI q = nI k by rw [pk_sub (by omega)]; exact congrArg nI (by omega), sign_ok Tτ (by omega), obd_s, obd_s, obd_s]
  by_cases k3 : 3 ≤ k
  · have em : m = 0 := by omega
    subst em
    exact Rt.t (by rw [i_3]; exact nI_le k3 (by omega)) (done e3.symm)
  obtain ⟨m', rfl⟩ : ∃ m', m = m' + 1 := ⟨m - 1, by omega⟩
  have e3' : (if dg (sg T z) (q + k) then ndS (sg T z) q m' (k + 1) (10 * v + ((sg T z (q + k)).toNatClampNeg - 48)) else (k, v)) = H := e3
  refine Rt.f (by rw [i_3, nI_leI (by decide) (by omega)]; exact k3) ?_
  cases hd : dg (sg T z) (q + k) with
  | false =>
    rw [hd, if_neg (by decide)] at e3'
    rcases dg_f hd with a | ⟨a, b⟩
    · exact Rt.t a (done e3'.symm)
    · exact Rt.f a (Rt.t b (done e3'.symm))
  | true =>
    rw [hd, if_pos rfl] at e3'
    obtain ⟨c, c1, c2, c3⟩ := dg_t hd
    rw [c1, nI_clamp (by omega)] at e3'
    rw [c1]
    have p10 : 10 ^ (k + 1) = 10 ^ k * 10 := Nat.pow_succ ..
    have p3 : 10 ^ (k + 1) ≤ 10 ^ 3 := Nat.pow_le_pow_right (by decide) (by omega)
    refine Rt.f (by rw [show (48 : Int32) = nI 48 from rfl, nI_ltI (by omega) (by decide)]; omega) (Rt.f (by rw [show (57 : Int32) = nI 57 from rfl, nI_ltI (by decide) (by omega)]; omega) ?_)
    rw [bnd_d, bnd_d, nI_1, show (48 : Int32) = nI 48 from rfl, pk_sub c2, i_10, pk_mul, nI_add]
    exact hrec m' _ (by omega) ⟨k + 1, _, _, rfl, by omega, by omega, by omega, e3', gI_put_eq, e5.tr (Fr.pI ⟨rfl, rfl⟩), fun z => absurd z (by omega)⟩
theorem isDigit_ok {s z q : Nat} {T : Nat → Int32} (h : TX σ s z T) (hs : s < 8) (hq : q ≤ 210) (hM : MT σ s z q) : f_X9_isDigit σ = some (oI (dg (sg T z) q)) := by
  obtain ⟨m25, m27, m26⟩ := hM
  have h160 := h.2.1
  unfold f_X9_isDigit
  rw [m25, m27, m26]
  apply Rt.q
  by_cases y : z ≤ q
  · have : dg (sg T z) q = false := by
      unfold dg sg
      rw [if_neg (by omega)]; rfl
    rw [this]
    exact Rt.t (nI_le y (by omega)) (Rt.s rfl)
  · obtain ⟨t1, t2⟩ := txt_ok hs h (i := q) (by omega)
    refine Rt.f (by rw [nI_leI (by omega) (by omega)]; exact y) (Rt.c t1 ?_)
    rw [t2]
    have e : sg T z q = T q := if_pos (by omega)
    unfold dg
    rw [e]
    by_cases a : T q < 48
    · rw [decide_eq_true a]
      exact Rt.t a (Rt.s rfl)
    · refine Rt.f a (Rt.c t1 ?_)
      rw [decide_eq_false a]
      by_cases b : 57 < T q
      · rw [decide_eq_true b]
        exact Rt.t b (Rt.s rfl)
      · rw [decide_eq_false b]
        exact Rt.f b (Rt.s rfl)
theorem reads_ok {s z q : Nat} {T : Nat → Int32} (h : TX σ s z T) (hs : s < 8) (hq : q ≤ 200) (hM : MT σ s z q) : Rt (f_X9_reads σ) (fun u => ((ndS (sg T z) q 3 0 0).1 = 0 → u.1 = 0 ∧ gI u.2 81 29 = nI q ∧ Fr (fun r k => r = 81 ∧ (k = 28 ∨ k = 29)) σ u.2) ∧ ((ndS (sg T z) q 3 0 0).1 ≠ 0 → u.1 = 1 ∧ gI u.2 81 26 = nI (q + (ndS (sg T z) q 3 0 0).1) ∧ gI u.2 81 28 = nI (ndS (sg T z) q 3 0 0).2 ∧ Fr (fun r k => r = 81 ∧ (k = 26 ∨ k = 28)) σ u.2)) := by
  unfold f_X9_reads
  rw [bnd_d]
  have F1 : Fr (fun r k => r = 81 ∧ k = 28) σ (putI σ 81 28 0) := Fr.pI ⟨rfl, rfl⟩
  have g28 : gI (putI σ 81 28 0) 81 28 = nI 0 := gI_put_eq
  generalize putI σ 81 28 0 = σ1 at *
  have T1 : TX σ1 s z T := h.fr hs F1 (fun r k z => by omega)
  have M1 : MT σ1 s z q := ⟨by rw [F1.I (by omega)]; exact hM.1, by rw [F1.I (by omega)]; exact hM.2.1, by rw [F1.I (by omega)]; exact hM.2.2⟩
  rw [isDigit_ok T1 hs (by omega) M1, obd_s]
  have n0 := ndS_0 (f := sg T z) (q := q)
  cases hd : dg (sg T z) q with
  | false =>
    have k0 := n0.mpr hd
    refine Rt.t rfl ?_
    unfold f_X9_wrong
    rw [bnd_d, bnd_d, M1.2.2]
    exact Rt.c (show (0 : Int32) &&& 1 = 0 by decide) (Rt.s ⟨fun _ => ⟨rfl, gI_put_eq, (F1.mono (fun r k z => by omega)).tr (Fr.pI (by omega))⟩, fun z => absurd k0 z⟩)
  | true =>
    have k0 : (ndS (sg T z) q 3 0 0).1 ≠ 0 := fun e => by rw [n0.mp e] at hd; cases hd
    refine Rt.f (by decide) ?_
    have F1' : Fr (fun r k => r = 81 ∧ (k = 26 ∨ k = 28)) σ σ1 := F1.mono (fun r k z => by omega)
    generalize hH : ndS (sg T z) q 3 0 0 = H at *
    refine lp_rule (I := fun m p => ∃ k v τ, p = (nI k, τ) ∧ m + k = 3 ∧ ndS (sg T z) q m k v = H ∧ gI τ 81 26 = nI (q + k) ∧ gI τ 81 28 = nI v ∧ v + 1 ≤ 10 ^ k ∧ Fr (fun r k => r = 81 ∧ (k = 26 ∨ k = 28)) σ τ) _ ?_ FU 3 (0, σ1) (FU_big (by omega)) ⟨0, 0, σ1, rfl, rfl, hH, M1.2.2, g28, by decide, F1'⟩
    rintro m rec _ ⟨k, v, τ, rfl, e1, e3, e4, e5, e5b, e6⟩ hrec
    have Tτ : TX τ s z T := h.fr hs e6 (fun r k z => by omega)
    have Mτ : MT τ s z (q + k) := ⟨by rw [e6.I (by omega)]; exact hM.1, by rw [e6.I (by omega)]; exact hM.2.1, e4⟩
    have done : H = (k, v) → Rt (some ((1 : Int32), τ)) (fun u => (H.1 = 0 → u.1 = 0 ∧ gI u.2 81 29 = nI q ∧ Fr (fun r k => r = 81 ∧ (k = 28 ∨ k = 29)) σ u.2) ∧ (H.1 ≠ 0 → u.1 = 1 ∧ gI u.2 81 26 = nI (q + H.1) ∧ gI u.2 81 28 = nI H.2 ∧ Fr (fun r k => r = 81 ∧ (k = 26 ∨ k = 28)) σ u.2)) := fun hd => by
      refine Rt.s ⟨fun z => absurd z k0, fun _ => ?_⟩
      rw [hd]
      exact ⟨rfl, e4, e5, e6⟩
    unfold b_X9_reads_23
    dsimp only
    by_cases k3 : 3 ≤ k
    · have em : m = 0 := by omega
      subst em
      exact Rt.t (by rw [i_3]; exact nI_le k3 (by omega)) (done e3.symm)
    obtain ⟨m', rfl⟩ : ∃ m', m = m' + 1 := ⟨m - 1, by omega⟩
    have e3' : (if dg (sg T z) (q + k) then ndS (sg T z) q m' (k + 1) (10 * v + ((sg T z (q + k)).toNatClampNeg - 48)) else (k, v)) = H := e3
    refine Rt.f (by rw [i_3, nI_leI (by decide) (by omega)]; exact k3) ?_
    rw [isDigit_ok Tτ hs (by omega) Mτ, obd_s]
    cases hd2 : dg (sg T z) (q + k) with
    | false =>
      rw [hd2, if_neg (by decide)] at e3'
      exact Rt.t rfl (done e3'.symm)
    | true =>
      rw [hd2, if_pos rfl] at e3'
      obtain ⟨c, c1, c2, c3⟩ := dg_t hd2
      rw [c1, nI_clamp (by omega)] at e3'
      obtain ⟨q1, q2⟩ := sg_in c1 (by omega)
      obtain ⟨t1, t2⟩ := txt_ok hs Tτ q1
      have p10 : 10 ^ (k + 1) = 10 ^ k * 10 := Nat.pow_succ ..
      refine Rt.f (by decide) ?_
      rw [Mτ.1, e4]
      refine Rt.c t1 ?_
      rw [bnd_d, t2, q2, e5, i_10, pk_mul, nI_add, show (48 : Int32) = nI 48 from rfl, pk_sub (by omega), show 10 * v + c - 48 = 10 * v + (c - 48) by omega, bnd_d, gI_put_ne (r := 81) (k := 28) (j := 26) (Or.inr (by decide)), e4, bnd_d, nI_1, nI_1]
      exact hrec m' _ (by omega) ⟨k + 1, _, _, rfl, by omega, e3', gI_put_eq, by rw [gI_put_ne (Or.inr (by decide)), gI_put_eq], by omega, (e6.tr (Fr.pI (by omega))).tr (Fr.pI (by omega))⟩
theorem stands_ok {s z q b : Nat} {T : Nat → Int32} (h : TX σ s z T) (hq : q ≤ 200) (h2 : gI σ 5 2 = nI q) (hb : b < 2 ^ 31) {x : Int32} (hx : x = nI b) : f_X3_stands σ (14 + 2 * s) x = some (if sg T z q = nI b then (1, putI σ 5 2 (nI (q + 1))) else (0, putI σ 5 3 (nI q))) := by
  subst hx
  unfold f_X3_stands
  rw [h2, sign_ok h (by omega), obd_s]
  by_cases e : sg T z q = nI b
  · rw [if_pos e, if_pos e, bnd_d, nI_1]
  · rw [if_neg e, if_neg e]
    unfold f_X3_fails
    rw [bnd_d, bnd_d, chk_t (show (0 : Int32) &&& 1 = 0 by decide)]
end NUM
