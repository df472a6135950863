/-! the loft's words -/
def wds : List (List Nat) := [[115, 105, 110, 103, 101, 114], [109, 111, 115, 116], [108, 101, 97, 115, 116], [110, 101, 97, 114], [101, 97, 114], [104, 101, 97, 114, 100], [115, 119, 97, 112]]
def wd (u : Nat) : List Nat := wds.getD u []
def ofL : List Nat := [0, 8, 14, 21, 27, 32, 39, 45]
def wof (u : Nat) : Nat := ofL.getD u 0
def mpx (f : Nat → Int32) : Nat → List Nat → Nat
  | _, [] => 0
  | i, b :: l => if f i = nI b then mpx f (i + 1) l + 1 else 0
theorem mpx_le (f : Nat → Int32) : ∀ (l : List Nat) (i : Nat), mpx f i l ≤ l.length
  | [], _ => Nat.le_refl _
  | b :: l, i => by
    have := mpx_le f l (i + 1)
    show (if f i = nI b then mpx f (i + 1) l + 1 else 0) ≤ l.length + 1
    split <;> omega
theorem mpx_in (f : Nat → Int32) : ∀ (l : List Nat) (i j : Nat), j < mpx f i l → f (i + j) = nI (l.getD j 0)
  | [], _, _, h => absurd h (Nat.not_lt_zero _)
  | b :: l, i, j, h => by
    have h' : j < (if f i = nI b then mpx f (i + 1) l + 1 else 0) := h
    by_cases e : f i = nI b
    · rw [if_pos e] at h'
      cases j with
      | zero => exact e
      | succ j =>
        have := mpx_in f l (i + 1) j (by omega)
        rw [show i + (j + 1) = i + 1 + j by omega, this]
        simp [List.getD]
    · rw [if_neg e] at h'; omega
theorem mpx_at (f : Nat → Int32) : ∀ (l : List Nat) (i : Nat), mpx f i l < l.length → f (i + mpx f i l) ≠ nI (l.getD (mpx f i l) 0)
  | [], _, h => absurd h (Nat.not_lt_zero _)
  | b :: l, i, h => by
    have e0 : mpx f i (b :: l) = (if f i = nI b then mpx f (i + 1) l + 1 else 0) := rfl
    by_cases e : f i = nI b
    · rw [if_pos e] at e0
      rw [e0] at h ⊢
      have := mpx_at f l (i + 1) (by rw [List.length_cons] at h; omega)
      rw [show i + (mpx f (i + 1) l + 1) = i + 1 + mpx f (i + 1) l by omega]
      simpa [List.getD] using this
    · rw [if_neg e] at e0
      rw [e0]
      exact e
theorem mpx_c (f : Nat → Int32) (i b : Nat) (l : List Nat) : mpx f i (b :: l) = if f i = nI b then mpx f (i + 1) l + 1 else 0 := rfl
theorem mpx_app (f : Nat → Int32) : ∀ (l : List Nat) (i b : Nat), mpx f i (l ++ [b]) = if mpx f i l = l.length then (if f (i + l.length) = nI b then l.length + 1 else l.length) else mpx f i l
  | [], i, b => by
    rw [List.nil_append, mpx_c, show mpx f (i + 1) [] = 0 from rfl, show mpx f i [] = 0 from rfl, List.length_nil, if_pos (show (0 : Nat) = 0 from rfl)]
    rfl
  | a :: l, i, b => by
    have ih := mpx_app f l (i + 1) b
    rw [List.cons_append, mpx_c, mpx_c, List.length_cons, show i + (l.length + 1) = i + 1 + l.length by omega, ih]
    by_cases e : f i = nI a
    · rw [if_pos e, if_pos e]
      by_cases z : mpx f (i + 1) l = l.length
      · rw [z, if_pos (show l.length = l.length from rfl), if_pos (show l.length + 1 = l.length + 1 from rfl)]
        by_cases y : f (i + 1 + l.length) = nI b
        · rw [if_pos y, if_pos y]
        · rw [if_neg y, if_neg y]
      · rw [if_neg z, if_neg (fun y => z (by omega))]
    · rw [if_neg e, if_neg e, if_neg (by omega)]
/-- the words in their order: the first that stands whole, or the longest beginning -/
def wrS (g : Nat → Nat) (len : Nat → Nat) : Nat → Nat → Nat → Option Nat × Nat
  | 0, _, b => (none, b)
  | m + 1, u, b => if g u = len u then (some u, b) else wrS g len m (u + 1) (mx2 b (g u))
theorem wd_f : ∀ u, u < 7 → strLen u = nI (wd u).length ∧ lenJ.getD u 0 = (wd u).length ∧ 3 ≤ (wd u).length ∧ (wd u).length ≤ 6 ∧ (∀ i, i < (wd u).length → strAt u (nI i) = nI ((wd u).getD i 0) ∧ wdL.getD (wof u + i) 0 = (wd u).getD i 0 ∧ 32 < (wd u).getD i 0 ∧ (wd u).getD i 0 < 128) ∧ wdL.getD (wof u + (wd u).length) 0 = 32 ∧ wdL.getD (wof u + (wd u).length + 1) 0 = 0 ∧ wof (u + 1) = wof u + (wd u).length + 2 ∧ wof (u + 1) ≤ 45 ∧ f_X3_spelled (nI u) = u := by decide +kernel
theorem wd_2 : ∀ u, u < 7 → ∀ v, v < 7 → u ≠ v → (wd v).getD 0 0 ≠ (wd u).getD 0 0 ∨ (wd v).getD 1 0 ≠ (wd u).getD 1 0 := by decide +kernel
/-- a row as a text -/
def TX (σ : PH) (s z : Nat) (T : Nat → Int32) : Prop := gI σ 89 s = 1 ∧ z ≤ 160 ∧ (∃ o, o < 4 ∧ gI σ (14 + 2 * s) 0 = nI (100 + o)) ∧ gI σ 91 s = nI z ∧ gI σ (14 + 2 * s) 1 = nI z ∧ ∀ i, i < z → (gJ σ (15 + 2 * s) i).toInt32 = T i ∧ (gJ σ 93 (160 * s + i)).toInt32 = T i
def sg (T : Nat → Int32) (z i : Nat) : Int32 := if i < z then T i else -1
section WRD
variable {σ σ' : PH}
theorem TX.fr {s z : Nat} {T : Nat → Int32} {W : Nat → Nat → Prop} (h : TX σ s z T) (hs : s < 8) (f : Fr W σ σ') (hW : ∀ r k, W r k → ¬ ((14 ≤ r ∧ r ≤ 29) ∨ (89 ≤ r ∧ r ≤ 93))) : TX σ' s z T := by
  obtain ⟨h1, a3, ⟨o, a1, a2⟩, a4, a6, a7⟩ := h
  have N : ∀ r k, ((14 ≤ r ∧ r ≤ 29) ∨ (89 ≤ r ∧ r ≤ 93)) → ¬ W r k := fun r k h z => hW r k z h
  refine ⟨by rw [f.I (N _ _ (by omega))]; exact h1, a3, ⟨o, a1, by rw [f.I (N _ _ (by omega))]; exact a2⟩, by rw [f.I (N _ _ (by omega))]; exact a4, by rw [f.I (N _ _ (by omega))]; exact a6, fun i hi => ?_⟩
  rw [f.J (N _ _ (by omega)), f.J (N _ _ (by omega))]
  exact a7 i hi
theorem sign_ok {s z : Nat} {T : Nat → Int32} (h : TX σ s z T) {p : Nat} (hp : p < 2 ^ 30) : f_X3_sign σ (14 + 2 * s) (nI p) = some (sg T z p) := by
  obtain ⟨h1, a3, -, a4, a6, a7⟩ := h
  unfold f_X3_sign f_X4_asInt sg
  rw [bnd_d]
  by_cases z1 : p < z
  · have e : f_X4_hasElement σ (14 + 2 * s) (nI p) = 1 := by
      unfold f_X4_hasElement
      rw [if_neg (nI_nlt0 (by omega)), a6, if_neg (by rw [nI_leI (by omega) (by omega)]; omega)]
    rw [if_pos z1, e, if_neg (by decide), chk_t (inb_nI (by omega) (by decide)), nI_clamp (by omega), show 14 + 2 * s + 1 = 15 + 2 * s by omega, (a7 p z1).1, obd_s]
  · have e : f_X4_hasElement σ (14 + 2 * s) (nI p) = 0 := by
      unfold f_X4_hasElement
      rw [if_neg (nI_nlt0 (by omega)), a6, if_pos (nI_le (by omega) (by omega))]
    rw [if_neg z1, e, if_pos rfl, obd_s]
theorem readWord_ok {s z p : Nat} {T : Nat → Int32} (h : TX σ s z T) (hp : p ≤ 200) (h2 : gI σ 5 2 = nI p) : Rt (f_X3_readWord σ (14 + 2 * s)) (fun u => (∀ w b, wrS (fun u => mpx (sg T z) p (wd u)) (fun u => (wd u).length) 7 0 0 = (some w, b) → u.1 = nI w ∧ w < 7 ∧ mpx (sg T z) p (wd w) = (wd w).length ∧ u.2 = putI σ 5 2 (nI (p + (wd w).length))) ∧ (∀ b, wrS (fun u => mpx (sg T z) p (wd u)) (fun u => (wd u).length) 7 0 0 = (none, b) → u.1 = -1 ∧ u.2 = putI σ 5 3 (nI (p + b)))) := by
  unfold f_X3_readWord
  generalize hH : wrS (fun u => mpx (sg T z) p (wd u)) (fun u => (wd u).length) 7 0 0 = H
  refine lp_rule (I := fun m q => ∃ u b, q = (nI b, nI u) ∧ m + u = 7 ∧ b ≤ 6 ∧ wrS (fun u => mpx (sg T z) p (wd u)) (fun u => (wd u).length) m u b = H) _ ?_ FU 7 (0, 0) (FU_big (by omega)) ⟨0, 0, rfl, rfl, by decide, hH⟩
  rintro m rec _ ⟨u, b, rfl, e1, e2, e3⟩ hrec
  unfold b_X3_readWord_4
  dsimp only
  by_cases hu : 7 ≤ u
  · have em : m = 0 := by omega
    subst em
    refine Rt.t (by rw [i_7]; exact nI_le hu (by omega)) ?_
    unfold j_X3_readWord_88
    rw [bnd_d, h2, nI_add]
    refine Rt.s ⟨fun w b' e => ?_, fun b' e => ?_⟩
    · rw [← e3] at e; cases e
    · rw [← e3] at e
      have : b = b' := (Prod.mk.inj e).2
      rw [this]
      exact ⟨rfl, rfl⟩
  obtain ⟨m', rfl⟩ : ∃ m', m = m' + 1 := ⟨m - 1, by omega⟩
  refine Rt.f (by rw [i_7, nI_leI (by decide) (by omega)]; exact hu) ?_
  obtain ⟨f1, f2, f3, f4, f5, -, -, -, -, f6⟩ := wd_f u (by omega)
  rw [bnd_d, f6]
  have ml := mpx_le (sg T z) (wd u) p
  have e3' : (if mpx (sg T z) p (wd u) = (wd u).length then (some u, b) else wrS (fun u => mpx (sg T z) p (wd u)) (fun u => (wd u).length) m' (u + 1) (mx2 b (mpx (sg T z) p (wd u)))) = H := e3
  have out : Rt (j_X3_readWord_53 σ (nI b, nI u) rec u (nI (mpx (sg T z) p (wd u)))) (fun u => (∀ w b, H = (some w, b) → u.1 = nI w ∧ w < 7 ∧ mpx (sg T z) p (wd w) = (wd w).length ∧ u.2 = putI σ 5 2 (nI (p + (wd w).length))) ∧ (∀ b, H = (none, b) → u.1 = -1 ∧ u.2 = putI σ 5 3 (nI (p + b)))) := by
    unfold j_X3_readWord_53
    dsimp only
    rw [f1]
    by_cases e : mpx (sg T z) p (wd u) = (wd u).length
    · rw [if_pos e] at e3'
      refine Rt.t (by rw [e]) ?_
      unfold j_X3_readWord_62
      rw [bnd_d, h2, nI_add]
      refine Rt.s ⟨fun w b' e' => ?_, fun b' e' => ?_⟩
      · rw [← e3'] at e'
        have : u = w := Option.some.inj (Prod.mk.inj e').1
        subst this
        exact ⟨rfl, by omega, e, by dsimp only; rw [e]⟩
      · rw [← e3'] at e'; cases e'
    · rw [if_neg e] at e3'
      refine Rt.f (by rw [nI_eq (by omega) (by omega)]; exact e) ?_
      rw [bnd_d, bnd_d, mxI_nI (by omega) (by omega), nI_1]
      exact hrec m' _ (by omega) ⟨u + 1, _, rfl, by omega, mx2_le e2 (by omega), e3'⟩
  refine lp_acc (enc := fun (_ : Unit) (i : Nat) => nI i) (mpx (sg T z) p (wd u)) (fun _ _ => True) _ ?_ ?_ FU () 0 (Nat.zero_le _) (FU_big (by omega)) trivial
  · intro rec2 _ i hi _ hrec2
    unfold b_X3_readWord_18
    rw [f1, h2, nI_add, sign_ok h (by omega), obd_s, mpx_in _ _ _ _ hi, (f5 i (by omega)).1]
    refine Rt.f (by rw [nI_leI (by omega) (by omega)]; omega) (Rt.c (inb_nI (by omega) (by omega)) (Rt.t rfl ?_))
    rw [bnd_d, nI_1]
    exact hrec2 () trivial
  · intro rec2 _ _
    unfold b_X3_readWord_18
    rw [f1, h2, nI_add, sign_ok h (by omega), obd_s]
    by_cases e : (wd u).length ≤ mpx (sg T z) p (wd u)
    · exact Rt.t (nI_le e (by omega)) out
    · have ma := mpx_at (sg T z) (wd u) p (by omega)
      refine Rt.f (by rw [nI_leI (by omega) (by omega)]; exact e) (Rt.c (inb_nI (by omega) (by omega)) (Rt.f ?_ out))
      rw [(f5 _ (by omega)).1]; exact ma
def wd' (u : Nat) : List Nat := wd u ++ [32]
theorem wd'_f : ∀ u, u < 7 → 4 ≤ (wd' u).length ∧ (wd' u).length ≤ 7 ∧ (wd' u).length = (wd u).length + 1 ∧ (∀ i, i < (wd' u).length → wdL.getD (wof u + i) 0 = (wd' u).getD i 0 ∧ 0 < (wd' u).getD i 0 ∧ (wd' u).getD i 0 < 128) ∧ wdL.getD (wof u + (wd' u).length) 0 = 0 ∧ wof (u + 1) = wof u + (wd' u).length + 1 ∧ wof (u + 1) ≤ 45 := by decide +kernel
def MT (σ : PH) (s z p : Nat) : Prop := gI σ 81 25 = nI (160 * s) ∧ gI σ 81 27 = nI z ∧ gI σ 81 26 = nI p
theorem sg_in {T : Nat → Int32} {z i b : Nat} (h : sg T z i = nI b) (hb : b < 2 ^ 31) : i < z ∧ T i = nI b := by
  unfold sg at h
  by_cases y : i < z
  · rw [if_pos y] at h; exact ⟨y, h⟩
  · rw [if_neg y] at h; exact absurd h.symm (nI_nm1 hb)
theorem txt_ok {s z : Nat} {T : Nat → Int32} (hs : s < 8) (h : TX σ s z T) {i : Nat} (hi : i < z) : inb (nI (160 * s) + nI i) 1280 = true ∧ (gJ σ 93 (nI (160 * s) + nI i).toNatClampNeg).toInt32 = T i := by
  have h160 := h.2.1
  rw [nI_add, nI_clamp (by omega)]
  exact ⟨inb_nI (by omega) (by decide), (h.2.2.2.2.2 i hi).2⟩
theorem word_ok {s z p : Nat} {T : Nat → Int32} (hs : s < 8) (h : TX σ s z T) (hC : cnst σ) (hp : p ≤ 200) (hM : MT σ s z p) : Rt (f_X9_word σ) (fun u => (∀ w b, wrS (fun u => mpx (sg T z) p (wd' u)) (fun u => (wd' u).length) 7 0 0 = (some w, b) → u.1 = nI w ∧ w < 7 ∧ mpx (sg T z) p (wd' w) = (wd' w).length ∧ u.2 = putI σ 81 26 (nI (p + (wd' w).length))) ∧ (∀ b, wrS (fun u => mpx (sg T z) p (wd' u)) (fun u => (wd' u).length) 7 0 0 = (none, b) → u.1 = -1 ∧ u.2 = putI σ 81 29 (nI (p + b)))) := by
  obtain ⟨m25, m27, m26⟩ := hM
  have h160 := h.2.1
  unfold f_X9_word
  rw [bnd_d, m26]
  generalize hH : wrS (fun u => mpx (sg T z) p (wd' u)) (fun u => (wd' u).length) 7 0 0 = H
  refine lp_rule (I := fun m q => ∃ u b, q = (nI (wof u), nI (p + b), nI u) ∧ m + u = 7 ∧ b ≤ 7 ∧ wrS (fun u => mpx (sg T z) p (wd' u)) (fun u => (wd' u).length) m u b = H) _ ?_ FU 7 (0, nI p, 0) (FU_big (by omega)) ⟨0, 0, rfl, rfl, by decide, hH⟩
  rintro m rec _ ⟨u, b, rfl, e1, e2, e3⟩ hrec
  unfold b_X9_word_9
  dsimp only
  by_cases hu : 7 ≤ u
  · have em : m = 0 := by omega
    subst em
    refine Rt.t (by rw [i_7]; exact nI_le hu (by omega)) ?_
    unfold j_X9_word_130
    rw [bnd_d]
    refine Rt.s ⟨fun w b' e => ?_, fun b' e => ?_⟩
    · rw [← e3] at e; cases e
    · rw [← e3] at e
      have : b = b' := (Prod.mk.inj e).2
      rw [this]
      exact ⟨rfl, rfl⟩
  obtain ⟨m', rfl⟩ : ∃ m', m = m' + 1 := ⟨m - 1, by omega⟩
  refine Rt.f (by rw [i_7, nI_leI (by decide) (by omega)]; exact hu) ?_
  obtain ⟨f1, f2, -, f4, f5, f6, f7⟩ := wd'_f u (by omega)
  have c95 : ∀ k, k < 45 → gI σ 95 k = nI (wdL.getD k 0) := hC.1
  rw [bnd_d, m26]
  have ml := mpx_le (sg T z) (wd' u) p
  have e3' : (if mpx (sg T z) p (wd' u) = (wd' u).length then (some u, b) else wrS (fun u => mpx (sg T z) p (wd' u)) (fun u => (wd' u).length) m' (u + 1) (mx2 b (mpx (sg T z) p (wd' u)))) = H := e3
  have skip : ∀ x, mpx (sg T z) p (wd' u) ≠ (wd' u).length → x = mx2 b (mpx (sg T z) p (wd' u)) → Rt (j_X9_word_105 σ (nI (wof u), nI (p + b), nI u) rec (nI (p + x))) (fun u => (∀ w b, H = (some w, b) → u.1 = nI w ∧ w < 7 ∧ mpx (sg T z) p (wd' w) = (wd' w).length ∧ u.2 = putI σ 81 26 (nI (p + (wd' w).length))) ∧ (∀ b, H = (none, b) → u.1 = -1 ∧ u.2 = putI σ 81 29 (nI (p + b)))) := by
    intro x e hx
    rw [if_neg e] at e3'
    unfold j_X9_word_105
    dsimp only
    refine Rt.e (y := loopN (b_X9_word_106 σ (nI (wof u), nI (p + b), nI u) rec (nI (p + x))) FU (nI (wof u + 0))) rfl ?_
    refine lp_acc (enc := fun (_ : Unit) (i : Nat) => nI (wof u + i)) (wd' u).length (fun _ _ => True) _ ?_ ?_ FU () 0 (Nat.zero_le _) (FU_big (by omega)) trivial
    · intro rec2 _ i hi _ hrec2
      obtain ⟨g1, g2, g3⟩ := f4 i hi
      unfold b_X9_word_106
      rw [nI_clamp (by omega), c95 _ (by omega), g1]
      refine Rt.c (inb_nI (by omega) (by decide)) (Rt.f (by rw [i_0, nI_eq (by omega) (by decide)]; omega) ?_)
      rw [bnd_d, nI_1]
      exact hrec2 () trivial
    · intro rec2 _ _
      unfold b_X9_word_106
      rw [nI_clamp (by omega), c95 _ (by omega), f5]
      refine Rt.c (inb_nI (by omega) (by decide)) (Rt.t rfl ?_)
      rw [bnd_d, bnd_d, nI_1, nI_1]
      exact hrec m' _ (by omega) ⟨u + 1, x, by rw [f6], by omega, by rw [hx]; exact mx2_le e2 (by omega), by rw [hx]; exact e3'⟩
  have out : Rt (j_X9_word_75 σ (nI (wof u), nI (p + b), nI u) rec (nI (p + mpx (sg T z) p (wd' u))) (nI (wof u + mpx (sg T z) p (wd' u)))) (fun u => (∀ w b, H = (some w, b) → u.1 = nI w ∧ w < 7 ∧ mpx (sg T z) p (wd' w) = (wd' w).length ∧ u.2 = putI σ 81 26 (nI (p + (wd' w).length))) ∧ (∀ b, H = (none, b) → u.1 = -1 ∧ u.2 = putI σ 81 29 (nI (p + b)))) := by
    unfold j_X9_word_75
    rw [nI_clamp (by omega), c95 _ (by omega)]
    refine Rt.c (inb_nI (by omega) (by decide)) ?_
    by_cases e : mpx (sg T z) p (wd' u) = (wd' u).length
    · rw [if_pos e] at e3'
      refine Rt.t (by rw [e, f5]; rfl) ?_
      unfold j_X9_word_85
      rw [bnd_d]
      refine Rt.s ⟨fun w b' e' => ?_, fun b' e' => ?_⟩
      · rw [← e3'] at e'
        have : u = w := Option.some.inj (Prod.mk.inj e').1
        subst this
        exact ⟨rfl, by omega, e, by dsimp only; rw [e]⟩
      · rw [← e3'] at e'; cases e'
    · obtain ⟨g1, g2, g3⟩ := f4 (mpx (sg T z) p (wd' u)) (by omega)
      refine Rt.f (by rw [g1, i_0, nI_eq (by omega) (by decide)]; omega) ?_
      dsimp only
      by_cases y : b < mpx (sg T z) p (wd' u)
      · exact Rt.f (by rw [nI_leI (by omega) (by omega)]; omega) (skip _ e (by unfold mx2; rw [if_pos y]))
      · exact Rt.t (nI_le (by omega) (by omega)) (skip _ e (by unfold mx2; rw [if_neg y]))
  refine Rt.e (y := loopN (b_X9_word_24 σ (nI (wof u), nI (p + b), nI u) rec) FU (nI (p + 0), nI (wof u + 0))) rfl ?_
  refine lp_acc (enc := fun (_ : Unit) (i : Nat) => ((nI (p + i), nI (wof u + i)) : Int32 × Int32)) (mpx (sg T z) p (wd' u)) (fun _ _ => True) _ ?_ ?_ FU () 0 (Nat.zero_le _) (FU_big (by omega)) trivial
  · intro rec2 _ i hi _ hrec2
    obtain ⟨g1, g2, g3⟩ := f4 i (by omega)
    have gi := mpx_in _ _ _ _ hi
    obtain ⟨q1, q2⟩ := sg_in gi (by omega)
    obtain ⟨t1, t2⟩ := txt_ok hs h q1
    unfold b_X9_word_24
    dsimp only
    rw [m27, m25, nI_clamp (n := wof u + i) (by omega), c95 _ (by omega), g1, t2, q2]
    refine Rt.c (inb_nI (by omega) (by decide)) (Rt.f (by rw [i_0, nI_eq (by omega) (by decide)]; omega) (Rt.f (by rw [nI_leI (by omega) (by omega)]; omega) (Rt.c t1 (Rt.c (inb_nI (by omega) (by decide)) (Rt.t rfl ?_)))))
    rw [bnd_d, bnd_d, nI_1, nI_1]
    exact hrec2 () trivial
  · intro rec2 _ _
    unfold b_X9_word_24
    dsimp only
    rw [m27, m25, nI_clamp (n := wof u + mpx (sg T z) p (wd' u)) (by omega), c95 _ (by omega)]
    refine Rt.c (inb_nI (by omega) (by decide)) ?_
    by_cases e : mpx (sg T z) p (wd' u) = (wd' u).length
    · exact Rt.t (by rw [e, f5]; rfl) out
    · obtain ⟨g1, g2, g3⟩ := f4 (mpx (sg T z) p (wd' u)) (by omega)
      have ma := mpx_at (sg T z) (wd' u) p (by omega)
      refine Rt.f (by rw [g1, i_0, nI_eq (by omega) (by decide)]; omega) ?_
      by_cases y : z ≤ p + mpx (sg T z) p (wd' u)
      · exact Rt.t (nI_le y (by omega)) out
      · obtain ⟨t1, t2⟩ := txt_ok hs h (i := p + mpx (sg T z) p (wd' u)) (by omega)
        refine Rt.f (by rw [nI_leI (by omega) (by omega)]; exact y) (Rt.c t1 (Rt.c (inb_nI (by omega) (by decide)) (Rt.f ?_ out)))
        rw [t2, g1]
        rw [show sg T z (p + mpx (sg T z) p (wd' u)) = T (p + mpx (sg T z) p (wd' u)) from if_pos (by omega)] at ma
        exact ma
/-- the two readings of a word -/
theorem wrS_none {g : Nat → Nat} {len : Nat → Nat} : ∀ (m u b : Nat), (∀ v, u ≤ v → v < u + m → g v ≠ len v) → wrS g len m u b = (none, (wrS g len m u b).2)
  | 0, _, _, _ => rfl
  | m + 1, u, b, h => by
    have e : wrS g len (m + 1) u b = wrS g len m (u + 1) (mx2 b (g u)) := if_neg (h u (Nat.le_refl _) (by omega))
    rw [e]
    exact wrS_none m (u + 1) _ (fun v h1 h2 => h v (by omega) (by omega))
theorem wrS_cong {g g' : Nat → Nat} {len len' : Nat → Nat} : ∀ (m u b : Nat), (∀ v, u ≤ v → v < u + m → g v ≠ len v ∧ g' v ≠ len' v ∧ g v = g' v) → wrS g len m u b = wrS g' len' m u b
  | 0, _, _, _ => rfl
  | m + 1, u, b, h => by
    obtain ⟨h1, h2, h3⟩ := h u (Nat.le_refl _) (by omega)
    have e : wrS g len (m + 1) u b = wrS g len m (u + 1) (mx2 b (g u)) := if_neg h1
    have e' : wrS g' len' (m + 1) u b = wrS g' len' m (u + 1) (mx2 b (g' u)) := if_neg h2
    rw [e, e', h3]
    exact wrS_cong m (u + 1) _ (fun v h1 h2 => h v (by omega) (by omega))
theorem wrS_some {g : Nat → Nat} {len : Nat → Nat} {w : Nat} (hw : g w = len w) : ∀ (m u b : Nat), u ≤ w → w < u + m → (∀ v, u ≤ v → v < w → g v ≠ len v) → ∃ b', wrS g len m u b = (some w, b')
  | 0, u, b, h1, h2, _ => absurd h2 (by omega)
  | m + 1, u, b, h1, h2, h3 => by
    by_cases e : u = w
    · subst e
      exact ⟨b, if_pos hw⟩
    · have e' : wrS g len (m + 1) u b = wrS g len m (u + 1) (mx2 b (g u)) := if_neg (h3 u (Nat.le_refl _) (by omega))
      rw [e']
      exact wrS_some hw m (u + 1) _ (by omega) (by omega) (fun v a b => h3 v (by omega) b)
theorem wrS_bound {g : Nat → Nat} {len : Nat → Nat} {w M : Nat} (hM : g w = M) : ∀ (m u b : Nat), (∀ v, u ≤ v → v < u + m → g v ≠ len v ∧ g v ≤ M) → b ≤ M → (u ≤ w ∧ w < u + m) ∨ b = M → wrS g len m u b = (none, M)
  | 0, u, b, _, _, h => by
    rcases h with h | h
    · omega
    · rw [h]; rfl
  | m + 1, u, b, h1, h2, h3 => by
    obtain ⟨a1, a2⟩ := h1 u (Nat.le_refl _) (by omega)
    have e' : wrS g len (m + 1) u b = wrS g len m (u + 1) (mx2 b (g u)) := if_neg a1
    rw [e']
    refine wrS_bound hM m (u + 1) _ (fun v x y => h1 v (by omega) (by omega)) (mx2_le h2 a2) ?_
    rcases h3 with h3 | h3
    · by_cases e : u = w
      · subst e
        refine Or.inr ?_
        rw [hM]; unfold mx2; split <;> omega
      · exact Or.inl (by omega)
    · refine Or.inr ?_
      rw [h3]; unfold mx2; split <;> omega
theorem wd_1 {f : Nat → Int32} {p u v : Nat} (hu : u < 7) (hv : v < 7) (hne : v ≠ u) (h : mpx f p (wd u) = (wd u).length) : mpx f p (wd v) ≤ 1 := by
  obtain ⟨-, -, l3, -, fu, -⟩ := wd_f u hu
  obtain ⟨-, -, l3', -, fv, -⟩ := wd_f v hv
  rcases Nat.lt_or_ge 1 (mpx f p (wd v)) with z | z
  · exfalso
    have a0 := mpx_in f (wd u) p 0 (by omega)
    have a1 := mpx_in f (wd u) p 1 (by omega)
    have b0 := mpx_in f (wd v) p 0 (by omega)
    have b1 := mpx_in f (wd v) p 1 z
    rw [a0] at b0
    rw [a1] at b1
    have c0 := (fu 0 (by omega)).2.2.2
    have c1 := (fu 1 (by omega)).2.2.2
    have d0 := (fv 0 (by omega)).2.2.2
    have d1 := (fv 1 (by omega)).2.2.2
    rw [nI_eq (by omega) (by omega)] at b0 b1
    rcases wd_2 u hu v hv (fun e => hne e.symm) with y | y
    · exact y b0.symm
    · exact y b1.symm
  · exact z
/-- what stands at a place: no word, or a word, with a space behind it or without -/
theorem wrd_cases (f : Nat → Int32) (p : Nat) : (∃ b, b ≤ 6 ∧ wrS (fun u => mpx f p (wd u)) (fun u => (wd u).length) 7 0 0 = (none, b) ∧ wrS (fun u => mpx f p (wd' u)) (fun u => (wd' u).length) 7 0 0 = (none, b) ∧ ∀ u, u < 7 → mpx f p (wd u) ≠ (wd u).length) ∨ (∃ w b, w < 7 ∧ mpx f p (wd w) = (wd w).length ∧ (∀ u, u < 7 → u ≠ w → mpx f p (wd u) ≠ (wd u).length) ∧ wrS (fun u => mpx f p (wd u)) (fun u => (wd u).length) 7 0 0 = (some w, b) ∧ ((f (p + (wd w).length) = 32 ∧ ∃ b', wrS (fun u => mpx f p (wd' u)) (fun u => (wd' u).length) 7 0 0 = (some w, b')) ∨ (f (p + (wd w).length) ≠ 32 ∧ wrS (fun u => mpx f p (wd' u)) (fun u => (wd' u).length) 7 0 0 = (none, (wd w).length)))) := by
  have ap : ∀ u, mpx f p (wd' u) = if mpx f p (wd u) = (wd u).length then (if f (p + (wd u).length) = 32 then (wd u).length + 1 else (wd u).length) else mpx f p (wd u) := fun u => by
    rw [i_32]
    exact mpx_app f (wd u) p 32
  have lp : ∀ u, (wd' u).length = (wd u).length + 1 := fun u => by unfold wd'; rw [List.length_append]; rfl
  have le : ∀ u, mpx f p (wd u) ≤ (wd u).length := fun u => mpx_le f (wd u) p
  by_cases h : ∃ w, w < 7 ∧ mpx f p (wd w) = (wd w).length
  · refine Or.inr ?_
    obtain ⟨w, hw, e⟩ := h
    obtain ⟨-, -, w3, w6, -⟩ := wd_f w hw
    have others : ∀ u, u < 7 → u ≠ w → mpx f p (wd u) ≤ 1 := fun u hu hne => wd_1 hw hu hne e
    have no : ∀ u, u < 7 → u ≠ w → mpx f p (wd u) ≠ (wd u).length := fun u hu hne y => by
      obtain ⟨-, -, u3, -⟩ := wd_f u hu
      have := others u hu hne
      omega
    obtain ⟨b, hb⟩ := wrS_some (g := fun u => mpx f p (wd u)) (len := fun u => (wd u).length) e 7 0 0 (Nat.zero_le _) (by omega) (fun v _ hv => no v (by omega) (by omega))
    have no' : ∀ u, u < 7 → u ≠ w → mpx f p (wd' u) = mpx f p (wd u) := fun u hu hne => by rw [ap u, if_neg (no u hu hne)]
    refine ⟨w, b, hw, e, no, hb, ?_⟩
    by_cases y : f (p + (wd w).length) = 32
    · refine Or.inl ⟨y, ?_⟩
      refine wrS_some (g := fun u => mpx f p (wd' u)) (len := fun u => (wd' u).length) (w := w) ?_ 7 0 0 (Nat.zero_le _) (by omega) (fun v _ hv => ?_)
      · rw [ap w, if_pos e, if_pos y, lp w]
      · rw [no' v (by omega) (by omega), lp v]; have := le v; omega
    · refine Or.inr ⟨y, ?_⟩
      refine wrS_bound (g := fun u => mpx f p (wd' u)) (w := w) ?_ 7 0 0 (fun v _ hv => ?_) (Nat.zero_le _) (Or.inl ⟨Nat.zero_le _, by omega⟩)
      · rw [ap w, if_pos e, if_neg y]
      · by_cases z : v = w
        · subst z
          rw [ap v, if_pos e, if_neg y, lp v]; omega
        · have := others v (by omega) z
          rw [no' v (by omega) z, lp v]
          have := le v
          omega
  · refine Or.inl ?_
    have no : ∀ u, u < 7 → mpx f p (wd u) ≠ (wd u).length := fun u hu e => h ⟨u, hu, e⟩
    have hc := wrS_cong (g := fun u => mpx f p (wd u)) (len := fun u => (wd u).length) (g' := fun u => mpx f p (wd' u)) (len' := fun u => (wd' u).length) 7 0 0 (fun v _ hv => by
      have e := ap v
      rw [if_neg (no v (by omega))] at e
      refine ⟨no v (by omega), ?_, e.symm⟩
      rw [e, lp v]
      have := le v; omega)
    have hn := wrS_none (g := fun u => mpx f p (wd u)) (len := fun u => (wd u).length) 7 0 0 (fun v _ hv => no v (by omega))
    refine ⟨_, ?_, hn, by rw [← hc]; exact hn, no⟩
    have bd : ∀ m u b, b ≤ 6 → u + m ≤ 7 → (wrS (fun u => mpx f p (wd u)) (fun u => (wd u).length) m u b).2 ≤ 6 := by
      intro m
      induction m with
      | zero => intro u b hb _; exact hb
      | succ m ih =>
        intro u b hb hu
        show (if mpx f p (wd u) = (wd u).length then (some u, b) else wrS (fun u => mpx f p (wd u)) (fun u => (wd u).length) m (u + 1) (mx2 b (mpx f p (wd u)))).2 ≤ 6
        split
        · exact hb
        · obtain ⟨-, -, -, u6, -⟩ := wd_f u (by omega)
          exact ih _ _ (mx2_le hb (by have := le u; omega)) (by omega)
    exact bd 7 0 0 (by decide) (by decide)
end WRD
