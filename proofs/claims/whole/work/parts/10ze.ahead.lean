/-! sorted by how the sets would sound -/
def cnt (a : Nat → Nat) (k v : Nat) : Nat := (List.range k).countP fun i => decide (a i = v)
theorem cnt_s (a : Nat → Nat) (k v : Nat) : cnt a (k + 1) v = cnt a k v + (if a k = v then 1 else 0) := by
  unfold cnt
  rw [List.range_succ, List.countP_append, List.countP_singleton]
  by_cases e : a k = v
  · rw [if_pos e, if_pos (decide_eq_true e)]
  · rw [if_neg e, if_neg (by rw [decide_eq_false e]; decide)]
theorem cnt_le (a : Nat → Nat) (k v : Nat) : cnt a k v ≤ k := by
  have := List.countP_le_length (p := fun i => decide (a i = v)) (l := List.range k)
  rwa [List.length_range] at this
theorem cnt_0 {a : Nat → Nat} {k v : Nat} : cnt a k v = 0 ↔ ∀ i, i < k → a i ≠ v := by
  unfold cnt
  rw [List.countP_eq_zero]
  constructor
  · intro h i hi e
    exact h i (List.mem_range.mpr hi) (decide_eq_true e)
  · intro h i hi e
    exact h i (List.mem_range.mp hi) (of_decide_eq_true e)
def dst (a : Nat → Nat) (k : Nat) : Nat := it (fun i x => if cnt a i (a i) = 0 then x + 1 else x) 0 k
theorem dst_s (a : Nat → Nat) (k : Nat) : dst a (k + 1) = if cnt a k (a k) = 0 then dst a k + 1 else dst a k := rfl
theorem dst_le (a : Nat → Nat) : ∀ k, dst a k ≤ k
  | 0 => Nat.le_refl _
  | k + 1 => by
    have := dst_le a k
    rw [dst_s]; split <;> omega
def IsM (a : Nat → Nat) (k M : Nat) : Prop := (∀ i, i < k → cnt a k (a i) ≤ M) ∧ ((k = 0 ∧ M = 0) ∨ ∃ i, i < k ∧ cnt a k (a i) = M)
theorem IsM_le {a : Nat → Nat} {k M : Nat} (h : IsM a k M) : M ≤ k := by
  rcases h.2 with ⟨a, b⟩ | ⟨i, -, e⟩
  · omega
  · rw [← e]; exact cnt_le _ _ _
theorem IsM_s {a : Nat → Nat} {k M : Nat} (h : IsM a k M) : IsM a (k + 1) (mx2 M (cnt a (k + 1) (a k))) := by
  obtain ⟨h1, h2⟩ := h
  refine ⟨fun i hi => ?_, Or.inr ?_⟩
  · by_cases e : a k = a i
    · rw [← e]; exact mx2_r _ _
    · have hik : i < k := by
        rcases Nat.lt_or_eq_of_le (Nat.le_of_lt_succ hi) with z | z
        · exact z
        · exact absurd (by rw [z]) e
      rw [cnt_s, if_neg e]
      exact Nat.le_trans (h1 i hik) (mx2_l _ _)
  · by_cases e : M < cnt a (k + 1) (a k)
    · exact ⟨k, by omega, by unfold mx2; rw [if_pos e]⟩
    · unfold mx2
      rw [if_neg e]
      have ek : cnt a (k + 1) (a k) = cnt a k (a k) + 1 := by rw [cnt_s, if_pos rfl]
      rcases h2 with ⟨z1, z2⟩ | ⟨i, hi, e2⟩
      · omega
      · refine ⟨i, by omega, ?_⟩
        by_cases e3 : a k = a i
        · rw [← e3] at e2; omega
        · rw [cnt_s, if_neg e3]; exact e2
theorem IsM_u {a : Nat → Nat} {k M N : Nat} (h : IsM a k M) (h' : IsM a k N) : M = N := by
  have le : ∀ {M N}, IsM a k M → IsM a k N → M ≤ N := fun {M N} x y => by
    rcases x.2 with ⟨z1, z2⟩ | ⟨i, hi, e⟩
    · omega
    · rw [← e]; exact y.1 i hi
  exact Nat.le_antisymm (le h h') (le h' h)
theorem cnt_eq {a b : Nat → Nat} {m : Nat} (h : ∀ i j, i < m → j < m → (a i = a j ↔ b i = b j)) {k i : Nat} (hk : k ≤ m) (hi : i < m) : cnt a k (a i) = cnt b k (b i) := by
  unfold cnt
  apply List.countP_congr
  intro j hj
  have := h j i (by have := List.mem_range.mp hj; omega) hi
  rw [decide_eq_true_eq, decide_eq_true_eq]
  exact this
theorem dst_eq {a b : Nat → Nat} {m : Nat} (h : ∀ i j, i < m → j < m → (a i = a j ↔ b i = b j)) : ∀ k, k ≤ m → dst a k = dst b k
  | 0, _ => rfl
  | k + 1, hk => by rw [dst_s, dst_s, dst_eq h k (by omega), cnt_eq h (k := k) (i := k) (by omega) (by omega)]
theorem IsM_eq {a b : Nat → Nat} {m M : Nat} (h : ∀ i j, i < m → j < m → (a i = a j ↔ b i = b j)) (x : IsM a m M) : IsM b m M := by
  refine ⟨fun i hi => ?_, ?_⟩
  · rw [← cnt_eq h (Nat.le_refl _) hi]; exact x.1 i hi
  · rcases x.2 with z | ⟨i, hi, e⟩
    · exact Or.inl z
    · exact Or.inr ⟨i, hi, by rw [← cnt_eq h (Nat.le_refl _) hi]; exact e⟩
/-- the two keys of a world -/
def sdT (c : CV) (T : Nat → Int32) (w j : Nat) : Bool := sndC c (T j).toNatClampNeg w
def k8 (c : CV) (T : Nat → Int32) (w n : Nat) : Nat := it (fun j x => 2 * x + (sdT c T w j).toNat) 0 n
def k9 (c : CV) (T : Nat → Int32) (w n : Nat) : Nat := it (fun j x => x ||| (if sdT c T w j then 2 ^ j else 0)) 0 n
theorem k8_lt (c : CV) (T : Nat → Int32) (w : Nat) : ∀ n, k8 c T w n < 2 ^ n
  | 0 => by
    show (0 : Nat) < 2 ^ 0
    decide
  | n + 1 => by
    have := k8_lt c T w n
    have := oI_lt2 (sdT c T w n)
    show 2 * k8 c T w n + (sdT c T w n).toNat < 2 ^ (n + 1)
    rw [Nat.pow_succ]; omega
theorem k8_eq (c : CV) (T : Nat → Int32) (w w' : Nat) : ∀ n, k8 c T w n = k8 c T w' n ↔ ∀ j, j < n → sdT c T w j = sdT c T w' j
  | 0 => ⟨fun _ j h => absurd h (Nat.not_lt_zero j), fun _ => rfl⟩
  | n + 1 => by
    have ih := k8_eq c T w w' n
    show 2 * k8 c T w n + (sdT c T w n).toNat = 2 * k8 c T w' n + (sdT c T w' n).toNat ↔ _
    have l1 := oI_lt2 (sdT c T w n)
    have l2 := oI_lt2 (sdT c T w' n)
    constructor
    · intro e j hj
      by_cases z : j = n
      · subst z
        have : (sdT c T w j).toNat = (sdT c T w' j).toNat := by omega
        revert this
        cases sdT c T w j <;> cases sdT c T w' j <;> decide
      · exact ih.mp (by omega) j (by omega)
    · intro h
      rw [ih.mpr (fun j hj => h j (by omega)), h n (by omega)]
theorem k9_bit (c : CV) (T : Nat → Int32) (w : Nat) : ∀ n j, (k9 c T w n).testBit j = (decide (j < n) && sdT c T w j)
  | 0, j => by
    show (0 : Nat).testBit j = _
    rw [Nat.zero_testBit, decide_eq_false (Nat.not_lt_zero j), Bool.false_and]
  | n + 1, j => by
    show (k9 c T w n ||| (if sdT c T w n then 2 ^ n else 0)).testBit j = _
    rw [Nat.testBit_or, k9_bit c T w n j]
    by_cases e : j = n
    · subst e
      rw [decide_eq_false (Nat.lt_irrefl j), decide_eq_true (Nat.lt_succ_self j), Bool.false_and, Bool.false_or, Bool.true_and]
      cases sdT c T w j with
      | false => rw [if_neg (by decide), Nat.zero_testBit]
      | true => rw [if_pos rfl, Nat.testBit_two_pow_self]
    · have : (if sdT c T w n then 2 ^ n else 0).testBit j = false := by
        cases sdT c T w n with
        | false => rw [if_neg (by decide), Nat.zero_testBit]
        | true => rw [if_pos rfl, Nat.testBit_two_pow_of_ne (fun z => e z.symm)]
      rw [this, Bool.or_false]
      by_cases z : j < n
      · rw [decide_eq_true z, decide_eq_true (show j < n + 1 by omega)]
      · rw [decide_eq_false z, decide_eq_false (show ¬ j < n + 1 by omega)]
theorem k9_eq (c : CV) (T : Nat → Int32) (w w' n : Nat) : k9 c T w n = k9 c T w' n ↔ ∀ j, j < n → sdT c T w j = sdT c T w' j := by
  constructor
  · intro e j hj
    have h1 := k9_bit c T w n j
    have h2 := k9_bit c T w' n j
    rw [e, h2, decide_eq_true hj, Bool.true_and, Bool.true_and] at h1
    exact h1.symm
  · intro h
    apply Nat.eq_of_testBit_eq
    intro j
    rw [k9_bit, k9_bit]
    by_cases z : j < n
    · rw [h j z]
    · rw [decide_eq_false z]; rfl
theorem k9_lt (c : CV) (T : Nat → Int32) (w n : Nat) : k9 c T w n < 2 ^ n := by
  apply Nat.lt_pow_two_of_testBit
  intro i hi
  rw [k9_bit, decide_eq_false (by omega), Bool.false_and]
theorem k89 (c : CV) (T : Nat → Int32) (w w' n : Nat) : k8 c T w n = k8 c T w' n ↔ k9 c T w n = k9 c T w' n := by rw [k8_eq, k9_eq]
/-- the class's table of the sorted -/
def SI (a : Nat → Nat) (k : Nat) (σ : PH) : Prop := ∃ (Ks : List Nat) (M : Nat), gI σ 11 2 = nI Ks.length ∧ (∀ i, i < Ks.length → gI σ 12 i = nI (Ks.getD i 0) ∧ gI σ 13 i = nI (cnt a k (Ks.getD i 0)) ∧ Ks.getD i 0 < 2 ^ 31) ∧ (∀ v, v ∈ Ks ↔ ∃ j, j < k ∧ a j = v) ∧ Ks.length = dst a k ∧ (∀ i i', i < Ks.length → i' < Ks.length → Ks.getD i 0 = Ks.getD i' 0 → i = i') ∧ gI σ 11 3 = nI M ∧ IsM a k M
section SRT
variable {j : Nat} {c : CV} {r : Nat → Nat} {hs : HS} {tr : Nat} {sd : Int32} {σ σ' : PH} {d : PD}
theorem f5_sortIn {a : Nat → Nat} {k : Nat} (h : SI a k σ) (hk : k < 92) (hv : a k < 2 ^ 31) : Rt (f_X5_sortIn σ (nI (a k))) (fun u => SI a (k + 1) u ∧ Fr (fun r _ => 11 ≤ r ∧ r ≤ 13) σ u) := by
  obtain ⟨Ks, M, s1, s2, s3, s4, s5, s6, s7⟩ := h
  have dl := dst_le a k
  have mk := IsM_le s7
  have ck := cnt_le a (k + 1) (a k)
  have m7 := IsM_s s7
  unfold f_X5_sortIn
  refine lp_acc (enc := fun (_ : Unit) (i : Nat) => nI i) Ks.length (fun _ i => ∀ i', i' < i → Ks.getD i' 0 ≠ a k) _ ?_ ?_ FU () 0 (Nat.zero_le _) (FU_big (by omega)) (fun i' h => absurd h (Nat.not_lt_zero i'))
  · intro rec _ i hi hJ hrec
    obtain ⟨t1, t2, t3⟩ := s2 i hi
    unfold b_X5_sortIn_2
    rw [s1, nI_clamp (by omega), t1]
    refine Rt.f (by rw [nI_leI (by omega) (by omega)]; omega) (Rt.c (inb_nI (by omega) (by decide)) ?_)
    by_cases e : Ks.getD i 0 = a k
    · refine Rt.t (by rw [e]) ?_
      unfold j_X5_sortIn_26
      refine Rt.f (by rw [s1, nI_eq (by omega) (by omega)]; omega) ?_
      unfold j_X5_sortIn_70
      have ci : inb (nI i) 92 = true := inb_nI (by omega) (by decide)
      have cv : cnt a k (Ks.getD i 0) + 1 = cnt a (k + 1) (a k) := by rw [cnt_s, if_pos rfl, e]
      refine Rt.f (by rw [s1, nI_leI (by omega) (by omega)]; omega) (Rt.c ci (Rt.c ci ?_))
      rw [bnd_d, nI_clamp (by omega), t2, nI_1, cv]
      refine Rt.c ci ?_
      rw [bnd_d, gI_put_ne (r := 13) (q := 11) (Or.inl (by decide)), s6, gI_put_eq, mxI_nI (by omega) (by omega)]
      refine Rt.s ⟨⟨Ks, _, ?_, fun i' hi' => ?_, fun v => ?_, ?_, s5, gI_put_eq, m7⟩, (Fr.pI (by omega)).tr (Fr.pI (by omega))⟩
      · rw [gI_put_ne (Or.inr (by decide)), gI_put_ne (Or.inl (by decide))]; exact s1
      · obtain ⟨t1', t2', t3'⟩ := s2 i' hi'
        refine ⟨?_, ?_, t3'⟩
        · rw [gI_put_ne (Or.inl (by decide)), gI_put_ne (Or.inl (by decide))]; exact t1'
        · rw [gI_put_ne (Or.inl (by decide))]
          by_cases z : i' = i
          · subst z; rw [gI_put_eq, ← cv, cnt_s, if_pos e.symm]
          · rw [gI_put_ne (Or.inr z), t2', cnt_s, if_neg (fun y => z (s5 i' i hi' hi (y.symm.trans e.symm)))]; rfl
      · rw [s3 v]
        constructor
        · rintro ⟨j, hj, e'⟩; exact ⟨j, by omega, e'⟩
        · rintro ⟨j, hj, e'⟩
          by_cases z : j = k
          · have : a k ∈ Ks := by rw [← e]; exact getD_mem hi
            obtain ⟨j', hj', e''⟩ := (s3 (a k)).mp this
            exact ⟨j', hj', by rw [e'', ← e', z]⟩
          · exact ⟨j, by omega, e'⟩
      · rw [dst_s, if_neg, s4]
        intro z
        have : a k ∈ Ks := by rw [← e]; exact getD_mem hi
        obtain ⟨j', hj', e''⟩ := (s3 (a k)).mp this
        exact cnt_0.mp z j' hj' e''
    · refine Rt.f (by rw [nI_eq t3 hv]; exact e) ?_
      rw [bnd_d, nI_1]
      refine hrec () (fun i' hi' => ?_)
      by_cases z : i' = i
      · subst z; exact e
      · exact hJ i' (by omega)
  · intro rec _ hJ
    have ci : inb (nI Ks.length) 92 = true := inb_nI (by omega) (by decide)
    have new : ∀ j, j < k → a j ≠ a k := fun j hj e => by
      have : a k ∈ Ks := (s3 (a k)).mpr ⟨j, hj, e⟩
      obtain ⟨i, hi, e2⟩ := mem_getD this
      exact hJ i hi e2
    have c0 : cnt a k (a k) = 0 := cnt_0.mpr new
    have c1 : cnt a (k + 1) (a k) = 1 := by rw [cnt_s, if_pos rfl, c0]
    unfold b_X5_sortIn_2
    rw [s1]
    refine Rt.t (nI_le (Nat.le_refl _) (by omega)) ?_
    unfold j_X5_sortIn_26
    rw [s1]
    refine Rt.t rfl (Rt.f (by rw [i_92, nI_leI (by omega) (by omega)]; omega) (Rt.c ci ?_))
    rw [bnd_d, nI_clamp (by omega)]
    refine Rt.c ci ?_
    rw [bnd_d, bnd_d, gI_put_ne (r := 13) (q := 11) (Or.inl (by decide)), gI_put_ne (r := 12) (q := 11) (Or.inl (by decide)), s1, nI_1]
    have F1 : Fr (fun r _ => 11 ≤ r ∧ r ≤ 13) σ (putI (putI (putI σ 12 Ks.length (nI (a k))) 13 Ks.length 0) 11 2 (nI (Ks.length + 1))) := ((Fr.pI (by omega)).tr (Fr.pI (by omega))).tr (Fr.pI (by omega))
    have g2 : gI (putI (putI (putI σ 12 Ks.length (nI (a k))) 13 Ks.length 0) 11 2 (nI (Ks.length + 1))) 11 2 = nI (Ks.length + 1) := gI_put_eq
    have g3 : gI (putI (putI (putI σ 12 Ks.length (nI (a k))) 13 Ks.length 0) 11 2 (nI (Ks.length + 1))) 11 3 = nI M := by
      rw [gI_put_ne (Or.inr (by decide)), gI_put_ne (Or.inl (by decide)), gI_put_ne (Or.inl (by decide))]; exact s6
    have gk : ∀ i, gI (putI (putI (putI σ 12 Ks.length (nI (a k))) 13 Ks.length 0) 11 2 (nI (Ks.length + 1))) 12 i = if i = Ks.length then nI (a k) else gI σ 12 i := fun i => by
      rw [gI_put_ne (Or.inl (by decide)), gI_put_ne (Or.inl (by decide))]
      by_cases z : i = Ks.length
      · subst z; rw [gI_put_eq, if_pos rfl]
      · rw [gI_put_ne (Or.inr z), if_neg z]
    have gc : ∀ i, gI (putI (putI (putI σ 12 Ks.length (nI (a k))) 13 Ks.length 0) 11 2 (nI (Ks.length + 1))) 13 i = if i = Ks.length then nI 0 else gI σ 13 i := fun i => by
      rw [gI_put_ne (Or.inl (by decide))]
      by_cases z : i = Ks.length
      · subst z; rw [gI_put_eq, if_pos rfl]; rfl
      · rw [gI_put_ne (Or.inr z), if_neg z, gI_put_ne (Or.inl (by decide))]
    generalize putI (putI (putI σ 12 Ks.length (nI (a k))) 13 Ks.length 0) 11 2 (nI (Ks.length + 1)) = σ1 at *
    unfold j_X5_sortIn_70
    rw [g2]
    refine Rt.f (by rw [nI_leI (by omega) (by omega)]; omega) (Rt.c ci (Rt.c ci ?_))
    rw [bnd_d, nI_clamp (by omega), gc, if_pos rfl, nI_1]
    refine Rt.c ci ?_
    rw [bnd_d, gI_put_ne (r := 13) (q := 11) (Or.inl (by decide)), g3, gI_put_eq, mxI_nI (by omega) (by omega)]
    rw [c1] at m7
    have gl : ∀ i, i < Ks.length → (Ks ++ [a k]).getD i 0 = Ks.getD i 0 := fun i hi => by
      rw [List.getD_eq_getElem?_getD, List.getElem?_append_left hi, ← List.getD_eq_getElem?_getD]
    have gr : (Ks ++ [a k]).getD Ks.length 0 = a k := by simp [List.getD]
    refine Rt.s ⟨⟨Ks ++ [a k], _, ?_, fun i hi => ?_, fun v => ?_, ?_, fun i i' hi hi' e => ?_, gI_put_eq, m7⟩, (F1.tr (Fr.pI (by omega))).tr (Fr.pI (by omega))⟩
    · rw [gI_put_ne (Or.inr (by decide)), gI_put_ne (Or.inl (by decide)), g2, List.length_append]; rfl
    · rw [List.length_append, List.length_singleton] at hi
      rw [gI_put_ne (Or.inl (by decide)), gI_put_ne (r := 13) (q := 12) (Or.inl (by decide)), gk, gI_put_ne (Or.inl (by decide))]
      by_cases z : i = Ks.length
      · subst z
        rw [if_pos rfl, gI_put_eq, gr, c1]
        exact ⟨rfl, rfl, hv⟩
      · obtain ⟨t1, t2, t3⟩ := s2 i (by omega)
        rw [if_neg z, gI_put_ne (Or.inr z), gc, if_neg z, gl i (by omega)]
        refine ⟨t1, ?_, t3⟩
        rw [t2, cnt_s, if_neg (fun y => hJ i (by omega) y.symm)]; rfl
    · rw [List.mem_append, List.mem_singleton, s3 v]
      constructor
      · rintro (⟨j, hj, e⟩ | rfl)
        · exact ⟨j, by omega, e⟩
        · exact ⟨k, by omega, rfl⟩
      · rintro ⟨j, hj, e⟩
        by_cases z : j = k
        · subst z; exact Or.inr e.symm
        · exact Or.inl ⟨j, by omega, e⟩
    · rw [List.length_append, List.length_singleton, dst_s, if_pos c0, s4]
    · rw [List.length_append, List.length_singleton] at hi hi'
      by_cases z : i = Ks.length
      · by_cases z' : i' = Ks.length
        · omega
        · subst z
          rw [gr, gl i' (by omega)] at e
          exact absurd e.symm (hJ i' (by omega))
      · by_cases z' : i' = Ks.length
        · subst z'
          rw [gr, gl i (by omega)] at e
          exact absurd e (hJ i (by omega))
        · rw [gl i (by omega), gl i' (by omega)] at e
          exact s5 i i' (by omega) (by omega) e
theorem SI.fr {a : Nat → Nat} {k : Nat} {W : Nat → Nat → Prop} (h : SI a k σ) (f : Fr W σ σ') (hW : ∀ r k, W r k → ¬ (11 ≤ r ∧ r ≤ 13)) : SI a k σ' := by
  obtain ⟨Ks, M, s1, s2, s3, s4, s5, s6, s7⟩ := h
  have N : ∀ r k, (11 ≤ r ∧ r ≤ 13) → ¬ W r k := fun r k h z => hW r k z h
  refine ⟨Ks, M, by rw [f.I (N _ _ (by omega))]; exact s1, fun i hi => ?_, s3, s4, s5, by rw [f.I (N _ _ (by omega))]; exact s6, s7⟩
  rw [f.I (N _ _ (by omega)), f.I (N _ _ (by omega))]
  exact s2 i hi
theorem areSets_ok (ok : CVok c) (hX : XC c σ d.1) {s n : Nat} {T : Nat → Int32} (hT : TL σ s n T) (hn : n ≤ 160) : f_X5_areSets σ d.1 (14 + 2 * s) (nI n) = some (oI ((List.range n).all fun i => stI c (T i))) := by
  unfold f_X5_areSets
  apply Rt.q
  refine lp_acc (enc := fun (_ : Unit) (i : Nat) => nI i) n (fun _ i => ∀ k, k < i → stI c (T k) = true) _ ?_ ?_ FU () 0 (Nat.zero_le _) (FU_big (by omega)) (fun k h => absurd h (Nat.not_lt_zero k))
  · intro rec a i hi hJ hrec
    unfold b_X5_areSets_3
    refine Rt.f (by rw [nI_leI (by omega) (by omega)]; omega) ?_
    rw [asInt_ok hT hi, obd_s, bnd_d, set_8 ok hX]
    cases hs' : stI c (T i) with
    | false => exact Rt.t rfl (Rt.s (by rw [all_no (f := fun i => stI c (T i)) hi hs']; rfl))
    | true =>
      refine Rt.f (by decide) ?_
      rw [bnd_d, nI_1]
      refine hrec () (fun k hk => ?_)
      by_cases z : k = i
      · subst z; exact hs'
      · exact hJ k (by omega)
  · intro rec a hJ
    unfold b_X5_areSets_3
    exact Rt.t (nI_le (Nat.le_refl _) (by omega)) (Rt.s (by rw [all_yes (f := fun i => stI c (T i)) hJ]; rfl))
theorem sortOut_ok (I : InA 0 c r hs tr sd σ d) {s n : Nat} {T : Nat → Int32} (hs8 : s < 8) (hT : TL σ s n T) (hn : n ≤ 16) (hp : (List.range n).all (fun i => stI c (T i)) = true) : Rt (f_X5_sortOut σ d.1 (14 + 2 * s) (nI n)) (fun u => SI (fun i => k8 c T ((psC c (r 0) hs).getD i 0) n) (psC c (r 0) hs).length u ∧ InA 0 c r hs tr sd u d ∧ Fr (fun r k => WK d.1 r k ∨ (5 ≤ r ∧ r ≤ 13)) σ u) := by
  have hd := I.1.1
  have h92 := I.xq.2.2.2
  have h9 := p2_9 I.n8
  have hR := I.rep
  obtain ⟨kf, hkf⟩ : ∃ kf, kf = (fun i => k8 c T ((psC c (r 0) hs).getD i 0) n) := ⟨_, rfl⟩
  have hki : ∀ i, kf i = k8 c T (((WL (cN c) (r 0)).filter (okH c hs)).getD i 0) n := fun i => by rw [hkf]; rfl
  rw [← hkf, show (psC c (r 0) hs).length = ((WL (cN c) (r 0)).filter (okH c hs)).length from rfl]
  clear hkf
  unfold f_X5_sortOut
  rw [bnd_d, bnd_d]
  have F1 : Fr (fun r _ => 11 ≤ r ∧ r ≤ 13) σ (putI (putI σ 11 2 0) 11 3 0) := (Fr.pI (by omega)).tr (Fr.pI (by omega))
  have S1 : SI kf 0 (putI (putI σ 11 2 0) 11 3 0) := ⟨[], 0, by rw [gI_put_ne (Or.inr (by decide)), gI_put_eq]; rfl, fun i hi => absurd hi (Nat.not_lt_zero i), fun v => ⟨fun z => absurd z List.not_mem_nil, fun ⟨j, hj, _⟩ => absurd hj (Nat.not_lt_zero j)⟩, rfl, fun i _ hi => absurd hi (Nat.not_lt_zero i), gI_put_eq, fun i hi => absurd hi (Nat.not_lt_zero i), Or.inl ⟨rfl, rfl⟩⟩
  generalize putI (putI σ 11 2 0) 11 3 0 = σ1 at *
  have Q1 : XQ c (WL (cN c) (r 0)) σ1 d.1 := I.xq.fr F1 (fun r k z => by unfold Hls at hd; omega)
  have F1' : Fr (fun r k => WK d.1 r k ∨ (5 ≤ r ∧ r ≤ 13)) σ σ1 := F1.mono (fun r k z => by omega)
  generalize hL : WL (cN c) (r 0) = L at *
  refine lp_acc (enc := fun (a : PH) (t : Nat) => ((nI t, a) : Int32 × PH)) L.length (fun a t => SI kf ((L.take t).filter (okH c hs)).length a ∧ XQ c L a d.1 ∧ Fr (fun r k => WK d.1 r k ∨ (5 ≤ r ∧ r ≤ 13)) σ a) _ ?_ ?_ FU σ1 0 (Nat.zero_le _) (FU_big (by omega)) ⟨S1, Q1, F1'⟩
  · rintro rec τ t ht ⟨j1, j2, j3⟩ hrec
    unfold b_X5_sortOut_13
    dsimp only
    rw [show gI τ (d.1 + 7) 3 = nI L.length from j2.2.1.1]
    refine Rt.f (by rw [nI_leI (by omega) (by omega)]; omega) ?_
    have R1 : Rep (gJ τ d.1 7) (gJ τ d.1 8) (rp L (okH c hs)) := by
      rw [j3.J (by unfold WK; unfold Hls at hd; omega), j3.J (by unfold WK; unfold Hls at hd; omega)]; exact hR
    rw [bnd_d, isIn_rp R1 ht h92]
    cases hb : okH c hs (L.getD t 0) with
    | false =>
      refine Rt.t rfl ?_
      rw [bnd_d, nI_1]
      refine hrec τ ⟨?_, j2, j3⟩
      have e2 : (L.take (t + 1)).filter (okH c hs) = (L.take t).filter (okH c hs) := by
        rw [take_snoc ht, List.filter_append, List.filter_cons_of_neg (by rw [hb]; decide), List.filter_nil, List.append_nil]
      rw [e2]; exact j1
    | true =>
      refine Rt.f (by decide) ?_
      obtain ⟨f1, f2⟩ := filt_at (P := okH c hs) ht hb
      have fl : ((L.take t).filter (okH c hs)).length ≤ t := Nat.le_trans (List.length_filter_le _ _) (by rw [List.length_take]; omega)
      have e2 : ((L.take (t + 1)).filter (okH c hs)).length = ((L.take t).filter (okH c hs)).length + 1 := by
        rw [take_snoc ht, List.filter_append, List.filter_cons_of_pos hb, List.filter_nil, List.length_append]; rfl
      rw [e2] at hrec
      have k16 := fun m => k8_lt c T (L.getD t 0) m
      refine Rt.e (y := loopN (b_X5_sortOut_47 d.1 (14 + 2 * s) (nI n) (nI t, τ) rec) FU (nI (k8 c T (L.getD t 0) 0), nI 0, τ)) rfl ?_
      refine lp_acc (enc := fun (b : PH) (m : Nat) => ((nI (k8 c T (L.getD t 0) m), nI m, b) : Int32 × Int32 × PH)) n (fun b m => SI kf ((L.take t).filter (okH c hs)).length b ∧ XQ c L b d.1 ∧ Fr (fun r k => WK d.1 r k ∨ (5 ≤ r ∧ r ≤ 13)) σ b) _ ?_ ?_ FU τ 0 (Nat.zero_le _) (FU_big (by omega)) ⟨j1, j2, j3⟩
      · rintro rec2 b m hm ⟨q1, q2, q3⟩ hrec2
        unfold b_X5_sortOut_47
        dsimp only
        have Tb : TL b s n T := hT.fr hs8 q3 (fun r k z => by unfold WK at z; unfold Hls at hd; omega)
        obtain ⟨w, w1, w2, w3, w4⟩ := stI_t I.n8 (all_at (f := fun i => stI c (T i)) hp hm)
        refine Rt.f (by rw [nI_leI (by omega) (by omega)]; omega) ?_
        rw [asInt_ok Tb hm, obd_s, w1]
        refine Rt.o (f7_soundOf I.ok q2 w2 w3 (t := t) (by omega)) ?_
        rintro ⟨v, σ2⟩ ⟨x1, x2, x3⟩
        dsimp only at x1 x2 x3 ⊢
        rw [wrW_at ht, oI_nI] at x1
        subst x1
        rw [bnd_d, bnd_d, i_2, pk_mul, nI_add, nI_1]
        have es : k8 c T (L.getD t 0) (m + 1) = 2 * k8 c T (L.getD t 0) m + (sndC c w (L.getD t 0)).toNat := by
          show 2 * k8 c T (L.getD t 0) m + (sndC c (T m).toNatClampNeg (L.getD t 0)).toNat = _
          rw [w4]
        rw [← es]
        exact hrec2 σ2 ⟨q1.fr x3 (fun r k z => by unfold WK at z; unfold Hls at hd; omega), x2, q3.tr (x3.mono (fun r k z => Or.inl z))⟩
      · rintro rec2 b ⟨q1, q2, q3⟩
        unfold b_X5_sortOut_47
        refine Rt.t (nI_le (Nat.le_refl _) (by omega)) ?_
        unfold j_X5_sortOut_81
        dsimp only
        have kn : kf ((L.take t).filter (okH c hs)).length = k8 c T (L.getD t 0) n := by rw [hki, f1]
        rw [← kn]
        refine Rt.o (f5_sortIn q1 (by omega) (by
          rw [kn]
          have := k16 n
          have := Nat.pow_le_pow_right (n := 2) (by decide) hn
          omega)) ?_
        intro σ2 ⟨x1, x2⟩
        rw [bnd_d, nI_1]
        exact hrec σ2 ⟨x1, q2.fr x2 (fun r k z => by unfold Hls at hd; omega), q3.tr (x2.mono (fun r k z => by omega))⟩
  · rintro rec τ ⟨j1, j2, j3⟩
    rw [List.take_length] at j1
    unfold b_X5_sortOut_13
    dsimp only
    rw [show gI τ (d.1 + 7) 3 = nI L.length from j2.2.1.1]
    exact Rt.t (nI_le (Nat.le_refl _) (by omega)) (Rt.s ⟨j1, I.cs j3 (by rw [hL]; exact j2), j3⟩)
theorem sh16 : ∀ m, m < 16 → (1 : Int32) <<< (nI m &&& 31) = nI (2 ^ m) ∧ (0 : Int32) <<< (nI m &&& 31) = nI 0 := by decide +kernel
theorem rows_ok (I : InA j c r hs tr sd σ d) {s n : Nat} {T : Nat → Int32} (hs8 : s < 8) (hT : TL σ s n T) (hn : n ≤ 16) (hp : (List.range n).all (fun i => stI c (T i)) = true) (p3 : Int32) {P : Int32 × PH → Prop} (k : ∀ (σ1 : PH) (M : Nat), InA j c r hs tr sd σ1 d → IsM (fun i => k9 c T ((psC c (r 0) hs).getD i 0) n) (psC c (r 0) hs).length M → Rt (j_X9_ahead_267 p3 σ1 (nI (dst (fun i => k9 c T ((psC c (r 0) hs).getD i 0) n) (psC c (r 0) hs).length)) (nI M)) P) : Rt (j_X9_ahead_78 σ (nI s) (nI n) p3 0) P := by
  have h92 := ps92 I
  have h9 := p2_9 I.n8
  have hw : ∀ w ∈ psC c (r 0) hs, w < 256 := fun w hw => (psC_lt I.ok hw).2.1
  unfold j_X9_ahead_78
  refine Rt.t rfl (Rt.o (mod_poss I) ?_)
  rintro ⟨v, σ1⟩ ⟨h1, h2, I1, -, -, F1⟩
  dsimp only at h1 h2 I1 F1
  subst h1
  have T1 : TL σ1 s n T := hT.fr hs8 F1 (fun r k z => by unfold SP at z; omega)
  generalize psC c (r 0) hs = l at *
  refine lp_acc (enc := fun (a : PH) (i : Nat) => ((nI i, a) : Int32 × PH)) l.length (fun a i => (∀ t, t < i → gI a 104 t = nI (k9 c T (l.getD t 0) n)) ∧ Fr (fun r _ => r = 104) σ1 a) _ ?_ ?_ FU σ1 0 (Nat.zero_le _) (FU_big (by omega)) ⟨fun t h => absurd h (Nat.not_lt_zero t), Fr.rf⟩
  · rintro rec a i hi ⟨j1, j2⟩ hrec
    have ci : inb (nI i) 92 = true := inb_nI (by omega) (by decide)
    unfold b_X9_ahead_105
    dsimp only
    refine Rt.f (by rw [nI_leI (by omega) (by omega)]; omega) (Rt.c ci ?_)
    rw [bnd_d, nI_clamp (by omega)]
    refine lp_acc (enc := fun (b : PH) (m : Nat) => ((nI m, b) : Int32 × PH)) n (fun b m => (∀ t, t < i → gI b 104 t = nI (k9 c T (l.getD t 0) n)) ∧ gI b 104 i = nI (k9 c T (l.getD i 0) m) ∧ Fr (fun r _ => r = 104) σ1 b) _ ?_ ?_ FU (putI a 104 i 0) 0 (Nat.zero_le _) (FU_big (by omega)) ⟨fun t ht => by rw [gI_put_ne (Or.inr (by omega))]; exact j1 t ht, gI_put_eq, j2.tr (Fr.pI rfl)⟩
    · rintro rec2 b m hm ⟨q1, q2, q3⟩ hrec2
      have Tb : TL b s n T := T1.fr hs8 q3 (fun r k z => by omega)
      have Mb : MC c b := I1.mc.fr q3 (fun r k z => by omega)
      obtain ⟨w, w1, w2, w3, w4⟩ := stI_t I.n8 (all_at (f := fun i => stI c (T i)) hp hm)
      unfold b_X9_ahead_123
      dsimp only
      refine Rt.f (by rw [nI_leI (by omega) (by omega)]; omega) (Rt.c ci ?_)
      rw [intAt_ok Tb hs8 hm, obd_s, w1]
      refine Rt.c ci ?_
      rw [nI_clamp (by omega), show gI b 101 i = nI (l.getD i 0) by rw [q3.I (by omega)]; exact h2 i hi, f9_soundOf I.ok Mb (by omega) (hw _ (getD_mem hi)), obd_s]
      refine Rt.c ci ?_
      rw [bnd_d, bnd_d, q2, nI_1]
      have es : k9 c T (l.getD i 0) (m + 1) = k9 c T (l.getD i 0) m ||| (if sndC c w (l.getD i 0) then 2 ^ m else 0) := by
        show k9 c T (l.getD i 0) m ||| (if sndC c (T m).toNatClampNeg (l.getD i 0) then 2 ^ m else 0) = _
        rw [w4]
      have eo : nI (k9 c T (l.getD i 0) m) ||| (oI (sndC c w (l.getD i 0)) <<< (nI m &&& 31)) = nI (k9 c T (l.getD i 0) (m + 1)) := by
        rw [es]
        obtain ⟨o1, o0⟩ := sh16 m (by omega)
        cases sndC c w (l.getD i 0) with
        | false => rw [show oI false = 0 from rfl, o0, nI_or]; rfl
        | true => rw [show oI true = 1 from rfl, o1, nI_or]; rfl
      rw [eo]
      exact hrec2 _ ⟨fun t ht => by rw [gI_put_ne (Or.inr (by omega))]; exact q1 t ht, gI_put_eq, q3.tr (Fr.pI rfl)⟩
    · rintro rec2 b ⟨q1, q2, q3⟩
      unfold b_X9_ahead_123
      refine Rt.t (nI_le (Nat.le_refl _) (by omega)) ?_
      rw [bnd_d, nI_1]
      refine hrec b ⟨fun t ht => ?_, q3⟩
      by_cases z : t = i
      · subst z; exact q2
      · exact q1 t (by omega)
  rintro rec0 σ2 ⟨j1, j2⟩
  have I2 : InA j c r hs tr sd σ2 d := I1.scr j2 (fun r k z => by unfold SCR; omega)
  unfold b_X9_ahead_105
  refine Rt.t (nI_le (Nat.le_refl _) (by omega)) ?_
  dsimp only
  unfold j_X9_ahead_172
  have b31 : ∀ i, k9 c T (l.getD i 0) n < 2 ^ 31 := fun i => by
    have := k9_lt c T (l.getD i 0) n
    have := Nat.pow_le_pow_right (n := 2) (by decide) hn
    omega
  generalize hb : (fun i => k9 c T (l.getD i 0) n) = b at *
  have j1' : ∀ t, t < l.length → gI σ2 104 t = nI (b t) := fun t ht => by rw [← hb]; exact j1 t ht
  have b31' : ∀ i, b i < 2 ^ 31 := fun i => by rw [← hb]; exact b31 i
  refine lp_acc (enc := fun (M : Nat) (i : Nat) => ((nI (dst b i), nI M, nI i) : Int32 × Int32 × Int32)) l.length (fun M i => (∀ t, t < i → cnt b l.length (b t) ≤ M) ∧ ((i = 0 ∧ M = 0) ∨ ∃ t, t < i ∧ cnt b l.length (b t) = M)) _ ?_ ?_ FU 0 0 (Nat.zero_le _) (FU_big (by omega)) ⟨fun t h => absurd h (Nat.not_lt_zero t), Or.inl ⟨rfl, rfl⟩⟩
  · rintro rec M i hi ⟨m1, m2⟩ hrec
    have ci : inb (nI i) 92 = true := inb_nI (by omega) (by decide)
    have M92 : M ≤ 92 := by
      rcases m2 with z | ⟨t, _, e⟩
      · omega
      · rw [← e]; exact Nat.le_trans (cnt_le _ _ _) h92
    unfold b_X9_ahead_175
    dsimp only
    refine Rt.f (by rw [nI_leI (by omega) (by omega)]; omega) ?_
    refine Rt.e (y := loopN (b_X9_ahead_191 (nI l.length, σ1) σ2 (nI (dst b i), nI M, nI i) rec) FU (nI (cnt b (min 0 i) (b i)), nI (cnt b 0 (b i)), nI 0)) (by rw [Nat.zero_min]; rfl) ?_
    refine lp_acc (enc := fun (_ : Unit) (t : Nat) => ((nI (cnt b (min t i) (b i)), nI (cnt b t (b i)), nI t) : Int32 × Int32 × Int32)) l.length (fun _ _ => True) _ ?_ ?_ FU () 0 (Nat.zero_le _) (FU_big (by omega)) trivial
    · rintro rec2 _ t ht - hrec2
      unfold b_X9_ahead_191
      dsimp only
      refine Rt.f (by rw [nI_leI (by omega) (by omega)]; omega) (Rt.c (inb_nI (by omega) (by decide)) (Rt.c ci ?_))
      rw [nI_clamp (by omega), nI_clamp (by omega), j1' t ht, j1' i hi]
      have nx := hrec2 () trivial
      rw [cnt_s] at nx
      by_cases e : b t = b i
      · rw [if_pos e] at nx
        refine Rt.t (by rw [e]) ?_
        rw [bnd_d, nI_1]
        by_cases z : i ≤ t
        · refine Rt.t (nI_le z (by omega)) ?_
          rw [show min (t + 1) i = i by omega] at nx
          rw [bnd_d, nI_1, show min t i = i by omega]
          exact nx
        · refine Rt.f (by rw [nI_leI (by omega) (by omega)]; exact z) ?_
          rw [show min (t + 1) i = t + 1 by omega, cnt_s, if_pos e] at nx
          rw [bnd_d, bnd_d, nI_1, nI_1, show min t i = t by omega]
          exact nx
      · rw [if_neg e] at nx
        refine Rt.f (by rw [nI_eq (b31' t) (b31' i)]; exact e) ?_
        rw [bnd_d, nI_1]
        by_cases z : i ≤ t
        · rw [show min (t + 1) i = i by omega] at nx
          rw [show min t i = i by omega]
          exact nx
        · rw [show min (t + 1) i = t + 1 by omega, cnt_s, if_neg e] at nx
          rw [show min t i = t by omega]
          exact nx
    · rintro rec2 _ -
      unfold b_X9_ahead_191
      refine Rt.t (nI_le (Nat.le_refl _) (by omega)) ?_
      dsimp only
      rw [show min l.length i = i by omega]
      have c92 := cnt_le b l.length (b i)
      have ci92 := cnt_le b i (b i)
      have fin : ∀ x, x = dst b (i + 1) → Rt (j_X9_ahead_245 (nI (dst b i), nI M, nI i) rec (nI (cnt b l.length (b i))) (nI x)) P := fun x hx => by
        subst hx
        unfold j_X9_ahead_245
        dsimp only
        rw [bnd_d, bnd_d, nI_1]
        by_cases z : cnt b l.length (b i) ≤ M
        · refine Rt.t (nI_le z (by omega)) (hrec M ⟨fun t ht => ?_, Or.inr ?_⟩)
          · by_cases y : t = i
            · subst y; exact z
            · exact m1 t (by omega)
          · rcases m2 with ⟨z1, z2⟩ | ⟨t, ht, e⟩
            · exact ⟨i, by omega, by omega⟩
            · exact ⟨t, by omega, e⟩
        · refine Rt.f (by rw [nI_leI (by omega) (by omega)]; exact z) (hrec _ ⟨fun t ht => ?_, Or.inr ⟨i, by omega, rfl⟩⟩)
          by_cases y : t = i
          · subst y; exact Nat.le_refl _
          · have := m1 t (by omega); omega
      unfold j_X9_ahead_237
      dsimp only
      by_cases z : cnt b i (b i) = 0
      · refine Rt.t (by rw [z]; rfl) ?_
        rw [bnd_d, nI_1]
        exact fin _ (by rw [dst_s, if_pos z])
      · exact Rt.f (by rw [i_0, nI_eq (by omega) (by decide)]; exact z) (fin _ (by rw [dst_s, if_neg z]))
  · rintro rec M ⟨m1, m2⟩
    unfold b_X9_ahead_175
    refine Rt.t (nI_le (Nat.le_refl _) (by omega)) ?_
    exact k σ2 M I2 ⟨m1, m2⟩
theorem ahead_43 (ok : CVok c) (hM : MC c σ) {s n : Nat} {T : Nat → Int32} (hs8 : s < 8) (hT : TL σ s n T) (hn : n ≤ 160) (p3 : Int32) {P : Int32 × PH → Prop} (k : Rt (j_X9_ahead_78 σ (nI s) (nI n) p3 (if (List.range n).all (fun i => stI c (T i)) then 0 else -6)) P) : Rt (j_X9_ahead_40 σ (nI s) (nI n) p3 0) P := by
  unfold j_X9_ahead_40
  refine lp_rule (I := fun m q => ∃ i v, q = (v, nI i) ∧ m + i = n ∧ ((v = 0 ∧ ∀ k, k < i → stI c (T k) = true) ∨ (v = -6 ∧ (List.range n).all (fun i => stI c (T i)) = false))) _ ?_ FU n (0, 0) (FU_big (by omega)) ⟨0, 0, rfl, rfl, Or.inl ⟨rfl, fun k h => absurd h (Nat.not_lt_zero k)⟩⟩
  rintro m rec _ ⟨i, v, rfl, e1, e2⟩ hrec
  unfold b_X9_ahead_43
  dsimp only
  by_cases hi : n ≤ i
  · refine Rt.t (nI_le hi (by omega)) ?_
    rcases e2 with ⟨rfl, h⟩ | ⟨rfl, h⟩
    · rw [all_yes (fun q hq => h q (by omega)), if_pos rfl] at k; exact k
    · rw [h, if_neg (by decide)] at k; exact k
  refine Rt.f (by rw [nI_leI (by omega) (by omega)]; exact hi) ?_
  rcases e2 with ⟨rfl, h⟩ | ⟨rfl, h⟩
  · refine Rt.t rfl ?_
    rw [intAt_ok hT hs8 (by omega), obd_s, bnd_d, set_9 ok hM, bnd_d, bnd_d, nI_1]
    cases hs' : stI c (T i) with
    | false => exact Rt.t rfl (hrec (m - 1) _ (by omega) ⟨i + 1, -6, rfl, by omega, Or.inr ⟨rfl, all_no (f := fun i => stI c (T i)) (by omega) hs'⟩⟩)
    | true =>
      refine Rt.f (by decide) (hrec (m - 1) _ (by omega) ⟨i + 1, 0, rfl, by omega, Or.inl ⟨rfl, fun q hq => ?_⟩⟩)
      by_cases z : q = i
      · subst z; exact hs'
      · exact h q (by omega)
  · exact Rt.f (by decide) (by rw [h, if_neg (by decide)] at k; exact k)
theorem ahead_40 (σ : PH) (p1 p2 p3 : Int32) {v : Int32} (h : ¬ v = 0) : j_X9_ahead_40 σ p1 p2 p3 v = j_X9_ahead_78 σ p1 p2 p3 v := by
  unfold j_X9_ahead_40
  have e1 : FU = 1048575 + 1 := rfl
  rw [e1]
  show b_X9_ahead_43 σ p1 p2 p3 (loopN (b_X9_ahead_43 σ p1 p2 p3) 1048575) (v, 0) = _
  unfold b_X9_ahead_43
  dsimp only
  rw [if_neg h, ite_self]
theorem st_ahead (σ : PH) (d : PD) (p1 p2 p3 : Int32) (hI : Inv σ d) : ∃ (u v : Int32 × PH), f_X8_ahead σ d p1 p2 p3 = some u ∧ f_X9_ahead u.2 p1 p2 p3 = some v ∧ u.1 = v.1 ∧ Inv v.2 d := by
  obtain ⟨c, r, hs, tr, sd, I⟩ := hI
  refine two (y := fun s => f_X9_ahead s p1 p2 p3) ?_
  have no : ∀ k, 1 ≤ k → k ≤ 7 → (∀ σ1, Fr (fun r _ => r = 2) σ σ1 → InA k c r hs tr sd σ1 d → ∀ {P : Int32 × PH → Prop}, Rt (j_X9_ahead_78 σ1 p1 p2 p3 (-nI k)) P → Rt (f_X9_ahead σ1 p1 p2 p3) P) → Rt (j_X8_ahead_62 σ d p1 p2 p3 (-nI k)) (fun u => Rt (f_X9_ahead u.2 p1 p2 p3) (fun v => u.1 = v.1 ∧ Inv v.2 d)) := by
    intro k h1 h7 hb
    unfold j_X8_ahead_62
    refine Rt.f (nI_nz h1 h7) (Rt.o (refuse_ok I h1 h7 rfl) ?_)
    rintro ⟨v, σ1⟩ ⟨e1, I1, F1⟩
    refine Rt.s ?_
    dsimp only at e1 I1 F1 ⊢
    refine hb σ1 F1 I1 ?_
    unfold j_X9_ahead_78
    refine Rt.f (nI_nz h1 h7) (Rt.o (no_ok I1 h1 h7 rfl) ?_)
    rintro ⟨w, σ2⟩ ⟨e2, I2⟩
    exact Rt.s ⟨e1.trans e2.symm, I2.inv⟩
  have m25 : ∀ (σ1 : PH) {v : Int32}, ¬ v = 0 → j_X9_ahead_25 σ1 p1 p2 p3 v = j_X9_ahead_78 σ1 p1 p2 p3 v := fun σ1 v h => by
    unfold j_X9_ahead_25
    rw [if_neg h, ahead_40 σ1 p1 p2 p3 h]
  unfold f_X8_ahead
  rcases told_ok I p1 p2 with ⟨k, k1, k5, e, eb⟩ | ⟨s, n, T, hs8, rfl, rfl, hn, e, hT⟩
  · have nz := nI_nz k1 (show k ≤ 7 by omega)
    rw [e, obd_s, if_neg nz]
    unfold j_X8_ahead_26
    rw [if_neg nz]
    refine no k k1 (by omega) (fun σ1 F I1 P h => ?_)
    unfold f_X9_ahead
    rw [eb σ1 F, obd_s, if_neg nz, m25 σ1 nz]
    exact h
  rw [e, obd_s, if_pos rfl]
  have T2 : ∀ σ1, Fr (fun r _ => r = 2) σ σ1 → TL σ1 s n T := fun σ1 F => hT.fr hs8 F (fun r k z => by omega)
  have n5 : ¬ (-5 : Int32) = 0 := by decide
  have n6 : ¬ (-6 : Int32) = 0 := by decide
  have bad3 : f_X9_isOne p3 = 0 → Rt (j_X8_ahead_22 σ d (nI s) (nI n) p3) (fun u => Rt (f_X9_ahead u.2 (nI s) (nI n) p3) (fun v => u.1 = v.1 ∧ Inv v.2 d)) := fun e3 => by
    unfold j_X8_ahead_22 j_X8_ahead_26
    rw [if_neg n5]
    refine no 5 (by decide) (by decide) (fun σ1 F I1 P h => ?_)
    unfold f_X9_ahead
    rw [bars_ok (T2 σ1 F) hs8, obd_s, if_pos rfl, bnd_d, e3, if_pos rfl, m25 σ1 n5]
    exact h
  by_cases g0 : p3 < 0
  · rw [if_pos g0]
    refine bad3 ?_
    rcases one_i p3 with ⟨rfl, -⟩ | ⟨rfl, -⟩ | ⟨-, -, e⟩
    · exact absurd g0 (by decide)
    · exact absurd g0 (by decide)
    · exact e
  rw [if_neg g0]
  by_cases g1 : ¬ p3 ≤ 1
  · rw [if_neg g1]
    refine bad3 ?_
    rcases one_i p3 with ⟨rfl, -⟩ | ⟨rfl, -⟩ | ⟨-, -, e⟩
    · exact absurd (by decide) g1
    · exact absurd (by decide) g1
    · exact e
  have g1 := Decidable.not_not.mp g1
  rw [if_pos g1]
  obtain ⟨y, hy, rfl⟩ := nI_of2 (M := 1) (n := 1) rfl g0 g1
  have o1 : f_X9_isOne (nI y) = 1 := by
    rcases (show y = 0 ∨ y = 1 by omega) with rfl | rfl <;> rfl
  have mk : ∀ (σ1 : PH), TL σ1 s n T → f_X9_ahead σ1 (nI s) (nI n) (nI y) = j_X9_ahead_25 σ1 (nI s) (nI n) (nI y) 0 := fun σ1 h => by
    unfold f_X9_ahead
    rw [bars_ok h hs8, obd_s, if_pos rfl, bnd_d, o1, if_neg (by decide)]
  unfold j_X8_ahead_26
  rw [if_pos rfl]
  by_cases z : n ≤ 16
  · rw [if_neg (show ¬ (16 : Int32) < nI n by rw [i_16, nI_ltI (by omega) (by omega)]; omega)]
    have m16 : ∀ σ1, j_X9_ahead_25 σ1 (nI s) (nI n) (nI y) 0 = j_X9_ahead_40 σ1 (nI s) (nI n) (nI y) 0 := fun σ1 => by
      unfold j_X9_ahead_25
      rw [if_pos rfl, if_pos (show nI n ≤ (16 : Int32) by rw [i_16]; exact nI_le z (by omega))]
    refine Rt.c (inb_nI hs8 (by decide)) ?_
    rw [bnd_d, cl8 hs8, areSets_ok I.ok I.xc hT hn, obd_s]
    cases hb : (List.range n).all (fun i => stI c (T i)) with
    | false =>
      refine Rt.t rfl ?_
      unfold j_X8_ahead_58
      refine no 6 (by decide) (by decide) (fun σ1 F I1 P h => ?_)
      rw [mk σ1 (T2 σ1 F), m16]
      refine ahead_43 I1.ok I1.mc hs8 (T2 σ1 F) hn _ ?_
      rw [hb, if_neg (by decide)]
      exact h
    | true =>
      refine Rt.f (by decide) ?_
      unfold j_X8_ahead_62
      refine Rt.t rfl (Rt.c (inb_nI hs8 (by decide)) ?_)
      rw [bnd_d, cl8 hs8]
      refine Rt.o (sortOut_ok I hs8 hT z hb) ?_
      intro σ1 ⟨⟨Ks, M, s1, s2, s3, s4, s5, s6, s7⟩, I1, F1⟩
      have hd := I.1.1
      have T1 : TL σ1 s n T := hT.fr hs8 F1 (fun r k z => by unfold WK at z; unfold Hls at hd; omega)
      have eqk : ∀ i j, i < (psC c (r 0) hs).length → j < (psC c (r 0) hs).length → ((fun i => k8 c T ((psC c (r 0) hs).getD i 0) n) i = (fun i => k8 c T ((psC c (r 0) hs).getD i 0) n) j ↔ (fun i => k9 c T ((psC c (r 0) hs).getD i 0) n) i = (fun i => k9 c T ((psC c (r 0) hs).getD i 0) n) j) := fun i j _ _ => k89 c T _ _ n
      have M9 : ∀ A : Int32, (y = 0 → A = nI Ks.length) → (y = 1 → A = nI M) → Rt (f_X9_ahead σ1 (nI s) (nI n) (nI y)) (fun v => A = v.1 ∧ Inv v.2 d) := fun A A0 A1 => by
        rw [mk σ1 T1, m16]
        refine ahead_43 I1.ok I1.mc hs8 T1 hn _ ?_
        rw [hb, if_pos rfl]
        refine rows_ok I1 hs8 T1 z hb _ (fun σ2 M' I2 hM' => ?_)
        have eM : M = M' := IsM_u (IsM_eq eqk s7) hM'
        have eD := dst_eq eqk _ (Nat.le_refl _)
        unfold j_X9_ahead_267
        rcases (show y = 0 ∨ y = 1 by omega) with rfl | rfl
        · exact Rt.t rfl (Rt.s ⟨by rw [A0 rfl, s4, eD], I2.inv⟩)
        · exact Rt.f (by decide) (Rt.s ⟨by rw [A1 rfl, eM], I2.inv⟩)
      rcases (show y = 0 ∨ y = 1 by omega) with rfl | rfl
      · exact Rt.t rfl (Rt.s (M9 _ (fun _ => s1) (fun z => absurd z (by decide))))
      · exact Rt.f (by decide) (Rt.s (M9 _ (fun z => absurd z (by decide)) (fun _ => s6)))
  · have zz : (16 : Int32) < nI n := by rw [i_16]; exact nI_lt (by omega) (by omega)
    rw [if_pos zz]
    unfold j_X8_ahead_58
    refine no 6 (by decide) (by decide) (fun σ1 F I1 P h => ?_)
    rw [mk σ1 (T2 σ1 F)]
    unfold j_X9_ahead_25
    rw [if_pos rfl, if_neg (show ¬ nI n ≤ (16 : Int32) by rw [i_16, nI_leI (by omega) (by omega)]; exact z), ahead_40 σ1 _ _ _ n6]
    exact h
end SRT
