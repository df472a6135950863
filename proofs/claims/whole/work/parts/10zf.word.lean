/-! the loft's words -/
def wds : List (List Nat) := [[115, 105, 110, 103, 101, 114], [109, 111, 115, 116], [108, 101, 97, 115, 116], [110, 101, 97, 114], [101, 97, 114], [104, 101, 97, 114, 100], [115, 119, 97, 112]]
def wd (u : Nat) : List Nat := wds.getD u []
def ofL : List Nat := [0, 8, 14, 21, 27, 32, 39, 45]
def wof (u : Nat) : Nat := ofL.getD u 0
def mpx (f : Nat → Int32) : Nat → List Nat → Nat
  | _, [] => 0
  | i, b :: l => if f i = nI b then mpx f (i + 1) l + 1 else 0
theorem mpx_le (f : Nat → Int32) : ∀ (l : List Nat) (i : Nat), mpx f i l ≤ l.length
  | [], _ => Nat.le_refl _
  | b :: l, i => by
    have := mpx_le f l (i + 1)
    show (if f i = nI b then mpx f (i + 1) l + 1 else 0) ≤ l.length + 1
    split <;> omega
theorem mpx_in (f : Nat → Int32) : ∀ (l : List Nat) (i j : Nat), j < mpx f i l → f (i + j) = nI (l.getD j 0)
  | [], _, _, h => absurd h (Nat.not_lt_zero _)
  | b :: l, i, j, h => by
    have h' : j < (if f i = nI b then mpx f (i + 1) l + 1 else 0) := h
    by_cases e : f i = nI b
    · rw [if_pos e] at h'
      cases j with
      | zero => exact e
      | succ j =>
        have := mpx_in f l (i + 1) j (by omega)
        rw [show i + (j + 1) = i + 1 + j by omega, this]
        simp [List.getD]
    · rw [if_neg e] at h'; omega
theorem mpx_at (f : Nat → Int32) : ∀ (l : List Nat) (i : Nat), mpx f i l < l.length → f (i + mpx f i l) ≠ nI (l.getD (mpx f i l) 0)
  | [], _, h => absurd h (Nat.not_lt_zero _)
  | b :: l, i, h => by
    have e0 : mpx f i (b :: l) = (if f i = nI b then mpx f (i + 1) l + 1 else 0) := rfl
    by_cases e : f i = nI b
    · rw [if_pos e] at e0
      rw [e0] at h ⊢
      have := mpx_at f l (i + 1) (by rw [List.length_cons] at h; omega)
      rw [show i + (mpx f (i + 1) l + 1) = i + 1 + mpx f (i + 1) l by omega]
      simpa [List.getD] using this
    · rw [if_neg e] at e0
      rw [e0]
      exact e
theorem mpx_c (f : Nat → Int32) (i b : Nat) (l : List Nat) : mpx f i (b :: l) = if f i = nI b then mpx f (i + 1) l + 1 else 0 := rfl
theorem mpx_app (f : Nat → Int32) : ∀ (l : List Nat) (i b : Nat), mpx f i (l ++ [b]) = if mpx f i l = l.length then (if f (i + l.length) = nI b then l.length + 1 else l.length) else mpx f i l
  | [], i, b => by
    rw [List.nil_append, mpx_c, show mpx f (i + 1) [] = 0 from rfl, show mpx f i [] = 0 from rfl, List.length_nil, if_pos (show (0 : Nat) = 0 from rfl)]
    rfl
  | a :: l, i, b => by
    have ih := mpx_app f l (i + 1) b
    rw [List.cons_append, mpx_c, mpx_c, List.length_cons, show i + (l.length + 1) = i + 1 + l.length by omega, ih]
    by_cases e : f i = nI a
    · rw [if_pos e, if_pos e]
      by_cases z : mpx f (i + 1) l = l.length
      · rw [z, if_pos (show l.length = l.length from rfl), if_pos (show l.length + 1 = l.length + 1 from rfl)]
        by_cases y : f (i + 1 + l.length) = nI b
        · rw [if_pos y, if_pos y]
        · rw [if_neg y, if_neg y]
      · rw [if_neg z, if_neg (fun y => z (by omega))]
    · rw [if_neg e, if_neg e, if_neg (by omega)]
/-- the words in their order: the first that stands whole, or the longest beginning -/
def wrS (g : Nat → Nat) (len : Nat → Nat) : Nat → Nat → Nat → Option Nat × Nat
  | 0, _, b => (none, b)
  | m + 1, u, b => if g u = len u then (some u, b) else wrS g len m (u + 1) (mx2 b (g u))
theorem wd_f : ∀ u, u < 7 → strLen u = nI (wd u).length ∧ lenJ.getD u 0 = (wd u).length ∧ 3 ≤ (wd u).length ∧ (wd u).length ≤ 6 ∧ (∀ i, i < (wd u).length → strAt u (nI i) = nI ((wd u).getD i 0) ∧ wdL.getD (wof u + i) 0 = (wd u).getD i 0 ∧ 32 < (wd u).getD i 0 ∧ (wd u).getD i 0 < 128) ∧ wdL.getD (wof u + (wd u).length) 0 = 32 ∧ wdL.getD (wof u + (wd u).length + 1) 0 = 0 ∧ wof (u + 1) = wof u + (wd u).length + 2 ∧ wof (u + 1) ≤ 45 ∧ f_X3_spelled (nI u) = u := by decide +kernel
theorem wd_2 : ∀ u, u < 7 → ∀ v, v < 7 → u ≠ v → (wd v).getD 0 0 ≠ (wd u).getD 0 0 ∨ (wd v).getD 1 0 ≠ (wd u).getD 1 0 := by decide +kernel
/-- a row as a text -/
def TX (σ : PH) (s z : Nat) (T : Nat → Int32) : Prop := gI σ 89 s = 1 ∧ z ≤ 160 ∧ (∃ o, o < 4 ∧ gI σ (14 + 2 * s) 0 = nI (100 + o)) ∧ gI σ 91 s = nI z ∧ gI σ (14 + 2 * s) 1 = nI z ∧ ∀ i, i < z → (gJ σ (15 + 2 * s) i).toInt32 = T i ∧ (gJ σ 93 (160 * s + i)).toInt32 = T i
def sg (T : Nat → Int32) (z i : Nat) : Int32 := if i < z then T i else -1
section WRD
variable {σ σ' : PH}
theorem TX.fr {s z : Nat} {T : Nat → Int32} {W : Nat → Nat → Prop} (h : TX σ s z T) (hs : s < 8) (f : Fr W σ σ') (hW : ∀ r k, W r k → ¬ ((14 ≤ r ∧ r ≤ 29) ∨ (89 ≤ r ∧ r ≤ 93))) : TX σ' s z T := by
  obtain ⟨h1, a3, ⟨o, a1, a2⟩, a4, a6, a7⟩ := h
  have N : ∀ r k, ((14 ≤ r ∧ r ≤ 29) ∨ (89 ≤ r ∧ r ≤ 93)) → ¬ W r k := fun r k h z => hW r k z h
  refine ⟨by rw [f.I (N _ _ (by omega))]; exact h1, a3, ⟨o, a1, by rw [f.I (N _ _ (by omega))]; exact a2⟩, by rw [f.I (N _ _ (by omega))]; exact a4, by rw [f.I (N _ _ (by omega))]; exact a6, fun i hi => ?_⟩
  rw [f.J (N _ _ (by omega)), f.J (N _ _ (by omega))]
  exact a7 i hi
theorem sign_ok {s z : Nat} {T : Nat → Int32} (h : TX σ s z T) {p : Nat} (hp : p < 2 ^ 30) : f_X3_sign σ (14 + 2 * s) (nI p) = some (sg T z p) := by
  obtain ⟨h1, a3, -, a4, a6, a7⟩ := h
  unfold f_X3_sign f_X4_asInt sg
  rw [bnd_d]
  by_cases z1 : p < z
  · have e : f_X4_hasElement σ (14 + 2 * s) (nI p) = 1 := by
      unfold f_X4_hasElement
      rw [if_neg (nI_nlt0 (by omega)), a6, if_neg (by rw [nI_leI (by omega) (by omega)]; omega)]
    rw [if_pos z1, e, if_neg (by decide), chk_t (inb_nI (by omega) (by decide)), nI_clamp (by omega), show 14 + 2 * s + 1 = 15 + 2 * s by omega, (a7 p z1).1, obd_s]
  · have e : f_X4_hasElement σ (14 + 2 * s) (nI p) = 0 := by
      unfold f_X4_hasElement
      rw [if_neg (nI_nlt0 (by omega)), a6, if_pos (nI_le (by omega) (by omega))]
    rw [if_neg z1, e, if_pos rfl, obd_s]
theorem readWord_ok {s z p : Nat} {T : Nat → Int32} (h : TX σ s z T) (hp : p ≤ 200) (h2 : gI σ 5 2 = nI p) : Rt (f_X3_readWord σ (14 + 2 * s)) (fun u => (∀ w b, wrS (fun u => mpx (sg T z) p (wd u)) (fun u => (wd u).length) 7 0 0 = (some w, b) → u.1 = nI w ∧ w < 7 ∧ mpx (sg T z) p (wd w) = (wd w).length ∧ u.2 = putI σ 5 2 (nI (p + (wd w).length))) ∧ (∀ b, wrS (fun u => mpx (sg T z) p (wd u)) (fun u => (wd u).length) 7 0 0 = (none, b) → u.1 = -1 ∧ u.2 = putI σ 5 3 (nI (p + b)))) := by
  unfold f_X3_readWord
  generalize hH : wrS (fun u => mpx (sg T z) p (wd u)) (fun u => (wd u).length) 7 0 0 = H
  refine lp_rule (I := fun m q => ∃ u b, q = (nI b, nI u) ∧ m + u = 7 ∧ b ≤ 6 ∧ wrS (fun u => mpx (sg T z) p (wd u)) (fun u => (wd u).length) m u b = H) _ ?_ FU 7 (0, 0) (FU_big (by omega)) ⟨0, 0, rfl, rfl, by decide, hH⟩
  rintro m rec _ ⟨u, b, rfl, e1, e2, e3⟩ hrec
  unfold b_X3_readWord_4
  dsimp only
  by_cases hu : 7 ≤ u
  · have em : m = 0 := by omega
    subst em
    refine Rt.t (by rw [i_7]; exact nI_le hu (by omega)) ?_
    unfold j_X3_readWord_88
    rw [bnd_d, h2, nI_add]
    refine Rt.s ⟨fun w b' e => ?_, fun b' e => ?_⟩
    · rw [← e3] at e; cases e
    · rw [← e3] at e
      have : b = b' := (Prod.mk.inj e).2
      rw [this]
      exact ⟨rfl, rfl⟩
  obtain ⟨m', rfl⟩ : ∃ m', m = m' + 1 := ⟨m - 1, by omega⟩
  refine Rt.f (by rw [i_7, nI_leI (by decide) (by omega)]; exact hu) ?_
  obtain ⟨f1, f2, f3, f4, f5, -, -, -, -, f6⟩ := wd_f u (by omega)
  rw [bnd_d, f6]
  have ml := mpx_le (sg T z) (wd u) p
  have e3' : (if mpx (sg T z) p (wd u) = (wd u).length then (some u, b) else wrS (fun u => mpx (sg T z) p (wd u)) (fun u => (wd u).length) m' (u + 1) (mx2 b (mpx (sg T z) p (wd u)))) = H := e3
  have out : Rt (j_X3_readWord_53 σ (nI b, nI u) rec u (nI (mpx (sg T z) p (wd u)))) (fun u => (∀ w b, H = (some w, b) → u.1 = nI w ∧ w < 7 ∧ mpx (sg T z) p (wd w) = (wd w).length ∧ u.2 = putI σ 5 2 (nI (p + (wd w).length))) ∧ (∀ b, H = (none, b) → u.1 = -1 ∧ u.2 = putI σ 5 3 (nI (p + b)))) := by
    unfold j_X3_readWord_53
    dsimp only
    rw [f1]
    by_cases e : mpx (sg T z) p (wd u) = (wd u).length
    · rw [if_pos e] at e3'
      refine Rt.t (by rw [e]) ?_
      unfold j_X3_readWord_62
      rw [bnd_d, h2, nI_add]
      refine Rt.s ⟨fun w b' e' => ?_, fun b' e' => ?_⟩
      · rw [← e3'] at e'
        have : u = w := Option.some.inj (Prod.mk.inj e').1
        subst this
        exact ⟨rfl, by omega, e, by dsimp only; rw [e]⟩
      · rw [← e3'] at e'; cases e'
    · rw [if_neg e] at e3'
      refine Rt.f (by rw [nI_eq (by omega) (by omega)]; exact e) ?_
      rw [bnd_d, bnd_d, mxI_nI (by omega) (by omega), nI_1]
      exact hrec m' _ (by omega) ⟨u + 1, _, rfl, by omega, mx2_le e2 (by omega), e3'⟩
  refine lp_acc (enc := fun (_ : Unit) (i : Nat) => nI i) (mpx (sg T z) p (wd u)) (fun _ _ => True) _ ?_ ?_ FU () 0 (Nat.zero_le _) (FU_big (by omega)) trivial
  · intro rec2 _ i hi _ hrec2
    unfold b_X3_readWord_18
    rw [f1, h2, nI_add, sign_ok h (by omega), obd_s, mpx_in _ _ _ _ hi, (f5 i (by omega)).1]
    refine Rt.f (by rw [nI_leI (by omega) (by omega)]; omega) (Rt.c (inb_nI (by omega) (by omega)) (Rt.t rfl ?_))
    rw [bnd_d, nI_1]
    exact hrec2 () trivial
  · intro rec2 _ _
    unfold b_X3_readWord_18
    rw [f1, h2, nI_add, sign_ok h (by omega), obd_s]
    by_cases e : (wd u).length ≤ mpx (sg T z) p (wd u)
    · exact Rt.t (nI_le e (by omega)) out
    · have ma := mpx_at (sg T z) (wd u) p (by omega)
      refine Rt.f (by rw [nI_leI (by omega) (by omega)]; exact e) (Rt.c (inb_nI (by omega) (by omega)) (Rt.f ?_ out))
      rw [(f5 _ (by omega)).1]; exact ma
end WRD
