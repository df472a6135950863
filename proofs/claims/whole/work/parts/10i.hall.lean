/-! the class's hall: what can be said -/
def TR (L : List Nat) (tr t : Nat) : Prop := (L = [] ∧ t = 0 ∧ tr = 0) ∨ (t < L.length ∧ L.getD t 0 = tr)
def XT (r : Nat → Nat) (hs : HS) (sd : Int32) (σ : PH) (h : Nat) : Prop := (∀ k, k < 4 → gI σ (h + 15) k = nI (r k)) ∧ (gI σ h 4 = nI hs.length ∧ ∀ k, k < hs.length → gI σ (h + 16) k = nI (2 * (hsD hs k).1 + (hsD hs k).2)) ∧ gI σ h 5 = sd
def XH (c : CV) (r : Nat → Nat) (hs : HS) (tr : Nat) (sd : Int32) (σ : PH) (h : Nat) : Prop := XQ c (WL (cN c) (r 0)) σ h ∧ XT r hs sd σ h ∧ (∃ t, gI σ h 6 = nI t ∧ TR (WL (cN c) (r 0)) tr t) ∧ Rep (gJ σ h 7) (gJ σ h 8) (rp (WL (cN c) (r 0)) (okH c hs))
def HV (c : CV) (r : Nat → Nat) (hs : HS) : Prop := CVok c ∧ (1 ≤ r 0 ∧ r 0 ≤ 3 ∧ 1 ≤ r 1 ∧ r 1 ≤ 8 ∧ r 2 ≤ 1 ∧ r 3 ≤ 50) ∧ HSok (cN c) hs
theorem XT.k {r : Nat → Nat} {hs : HS} {sd : Int32} {σ σ' : PH} {h : Nat} {W : Nat → Nat → Prop} (hX : XT r hs sd σ h) (f : Fr W σ σ') (hW : ∀ r k, W r k → ¬ ((r = h ∧ (k = 4 ∨ k = 5)) ∨ r = h + 15 ∨ r = h + 16)) : XT r hs sd σ' h := by
  refine ⟨fun k hk => ?_, ⟨?_, fun k hk => ?_⟩, ?_⟩
  · rw [f.I (fun z => hW _ _ z (by omega))]; exact hX.1 k hk
  · rw [f.I (fun z => hW _ _ z (by omega))]; exact hX.2.1.1
  · rw [f.I (fun z => hW _ _ z (by omega))]; exact hX.2.1.2 k hk
  · rw [f.I (fun z => hW _ _ z (by omega))]; exact hX.2.2
theorem XH.k {c : CV} {r : Nat → Nat} {hs : HS} {tr : Nat} {sd : Int32} {σ σ' : PH} {h : Nat} (hX : XH c r hs tr sd σ h) (f : Fr (WK h) σ σ') (hQ : XQ c (WL (cN c) (r 0)) σ' h) : XH c r hs tr sd σ' h := by
  refine ⟨hQ, hX.2.1.k f (fun r k z => by unfold WK at z; omega), ?_, ?_⟩
  · rw [f.I (by unfold WK; omega)]; exact hX.2.2.1
  · rw [f.J (by unfold WK; omega), f.J (by unfold WK; omega)]; exact hX.2.2.2
theorem XH.fr {c : CV} {r : Nat → Nat} {hs : HS} {tr : Nat} {sd : Int32} {σ σ' : PH} {h : Nat} {W : Nat → Nat → Prop} (hX : XH c r hs tr sd σ h) (f : Fr W σ σ') (hW : ∀ r k, W r k → ¬ (h ≤ r ∧ r ≤ h + 16)) : XH c r hs tr sd σ' h := by
  refine ⟨hX.1.fr f (fun r k z => by have := hW r k z; omega), hX.2.1.k f (fun r k z => by have := hW r k z; omega), ?_, ?_⟩
  · rw [f.I (fun z => hW _ _ z (by omega))]; exact hX.2.2.1
  · rw [f.J (fun z => hW _ _ z (by omega)), f.J (fun z => hW _ _ z (by omega))]; exact hX.2.2.2
/-- sums, ors, ands over a list -/
def sumW (c : CV) (l : List Nat) : Nat := l.foldl (fun a w => a + wtC c w) 0
def sumX (c : CV) (x : Nat) (l : List Nat) : Nat := l.foldl (fun a w => a + (if w.testBit x then wtC c w else 0)) 0
def orL (l : List Nat) : Nat := l.foldl (fun a w => a ||| w) 0
def andL (a : Nat) (l : List Nat) : Nat := l.foldl (fun a w => a &&& w) a
theorem foldl_add (f : Nat → Nat) : ∀ (l : List Nat) (a : Nat), l.foldl (fun a w => a + f w) a = a + l.foldl (fun a w => a + f w) 0
  | [], a => rfl
  | w :: l, a => by
    rw [List.foldl_cons, List.foldl_cons, foldl_add f l (a + f w), foldl_add f l (0 + f w)]; omega
theorem foldl_le (f : Nat → Nat) (b : Nat) : ∀ (l : List Nat), (∀ w ∈ l, f w ≤ b) → l.foldl (fun a w => a + f w) 0 ≤ l.length * b
  | [], _ => Nat.zero_le _
  | w :: l, h => by
    rw [List.foldl_cons, foldl_add f l (0 + f w), List.length_cons, Nat.succ_mul]
    have h1 := h w List.mem_cons_self
    have h2 := foldl_le f b l (fun x hx => h x (List.mem_cons_of_mem _ hx))
    omega
theorem sumW_le {c : CV} (ok : CVok c) {m : Nat} (hm : m ≤ 3) {l : List Nat} (hl : ∀ w ∈ l, w ∈ WL (cN c) m) (h92 : l.length ≤ 92) : sumW c l ≤ 67068 := by
  have := foldl_le (wtC c) 729 l (fun w hw => (wtC_729 ok hm (hl w hw)).2)
  have h2 : l.length * 729 ≤ 92 * 729 := Nat.mul_le_mul_right _ h92
  unfold sumW; omega
theorem sumX_le {c : CV} (x : Nat) : ∀ (l : List Nat), sumX c x l ≤ sumW c l
  | [] => Nat.le_refl _
  | w :: l => by
    have := sumX_le (c := c) x l
    unfold sumX sumW at *
    rw [List.foldl_cons, List.foldl_cons, foldl_add (fun w => if w.testBit x then wtC c w else 0), foldl_add (wtC c) l]
    split <;> omega
theorem sumW_pos {c : CV} (ok : CVok c) {m : Nat} (hm : m ≤ 3) : ∀ {l : List Nat}, (∀ w ∈ l, w ∈ WL (cN c) m) → 0 < l.length → 0 < sumW c l
  | [], _, h => absurd h (Nat.lt_irrefl 0)
  | w :: l, hl, _ => by
    have := (wtC_729 ok hm (hl w List.mem_cons_self)).1
    unfold sumW
    rw [List.foldl_cons, foldl_add (wtC c) l]
    omega
theorem filt_at {P : Nat → Bool} : ∀ {L : List Nat} {i : Nat}, i < L.length → P (L.getD i 0) = true → (L.filter P).getD ((L.take i).filter P).length 0 = L.getD i 0 ∧ ((L.take i).filter P).length < (L.filter P).length
  | [], i, h, _ => absurd h (Nat.not_lt_zero i)
  | w :: L, 0, _, hp => by
    have e : (w :: L).getD 0 0 = w := rfl
    rw [e] at hp
    rw [List.filter_cons_of_pos hp]
    exact ⟨rfl, Nat.succ_pos _⟩
  | w :: L, i + 1, h, hp => by
    have e : (w :: L).getD (i + 1) 0 = L.getD i 0 := by simp [List.getD]
    rw [e] at hp ⊢
    obtain ⟨h1, h2⟩ := filt_at (L := L) (i := i) (by simpa using h) hp
    rw [List.take_succ_cons]
    cases hw : P w with
    | true =>
      rw [List.filter_cons_of_pos hw, List.filter_cons_of_pos hw]
      refine ⟨?_, ?_⟩
      · rw [List.length_cons]
        have : (w :: L.filter P).getD (((L.take i).filter P).length + 1) 0 = (L.filter P).getD ((L.take i).filter P).length 0 := by simp [List.getD]
        rw [this]; exact h1
      · rw [List.length_cons, List.length_cons]; omega
    | false =>
      rw [List.filter_cons_of_neg (by rw [hw]; decide), List.filter_cons_of_neg (by rw [hw]; decide)]
      exact ⟨h1, h2⟩
section H2
variable {c : CV} {σ : PH} {h : Nat} {L : List Nat}
theorem f2_possible {P : Nat → Bool} (hl : L.length ≤ 92) (R : Rep (gJ σ h 7) (gJ σ h 8) (rp L P)) : f_X2_possible σ h = nI (L.countP P) := by
  unfold f_X2_possible
  dsimp only [bnd]
  rw [f7_countIn R, rp_cnt hl]
theorem isIn_rp {P : Nat → Bool} {lo hi : Int64} (R : Rep lo hi (rp L P)) {i : Nat} (hi' : i < L.length) (hl : L.length ≤ 92) : f_X7_isIn (nI i) lo hi = oI (P (L.getD i 0)) := by
  rw [f7_isIn (by omega), R i (by omega)]
  unfold rp
  rw [decide_eq_true hi', Bool.true_and]
theorem f2_possibleWorld {P : Nat → Bool} (hL : XL c L σ h) (hl : L.length ≤ 92) (R : Rep (gJ σ h 7) (gJ σ h 8) (rp L P)) {n : Nat} (hn : n < (L.filter P).length) : f_X2_possibleWorld σ h (nI n) = some (nI ((L.filter P).getD n 0)) := by
  have hf : (L.filter P).length ≤ L.length := List.length_filter_le _ _
  unfold f_X2_possibleWorld
  apply Rt.q
  refine lp_acc (enc := fun (a : Nat) (i : Nat) => ((nI a, nI i) : Int32 × Int32)) L.length (fun a i => a + ((L.take i).filter P).length = n) _ ?_ ?_ FU n 0 (Nat.zero_le _) (FU_big (by omega)) (by rw [List.take_zero]; rfl)
  · intro rec a i hi hJ hrec
    dsimp only [b_X2_possibleWorld_4, bnd]
    rw [hL.1, isIn_rp R hi hl, nI_1]
    refine Rt.f (by rw [nI_leI (by omega) (by omega)]; omega) ?_
    cases hb : P (L.getD i 0) with
    | false =>
      refine Rt.t rfl (hrec a ?_)
      rw [take_snoc hi, List.filter_append, List.filter_cons_of_neg (by rw [hb]; decide), List.filter_nil, List.append_nil]
      exact hJ
    | true =>
      obtain ⟨e1, e2⟩ := filt_at hi hb
      refine Rt.f (by decide) ?_
      by_cases ha : a = 0
      · subst ha
        rw [Nat.zero_add] at hJ
        refine Rt.t rfl ?_
        dsimp only [j_X2_possibleWorld_34]
        refine Rt.c (inb_nI (by omega) (by decide)) (Rt.s ?_)
        rw [nI_clamp (by omega), hL.2.1 i hi, ← hJ, e1]
      · obtain ⟨a', rfl⟩ : ∃ a', a = a' + 1 := ⟨a - 1, by omega⟩
        refine Rt.f (by rw [i_0, nI_eq (by omega) (by omega)]; exact ha) ?_
        rw [pk_m1]
        refine hrec a' ?_
        rw [take_snoc hi, List.filter_append, List.filter_cons_of_pos hb, List.filter_nil, List.length_append]
        simp only [List.length_cons, List.length_nil]
        omega
  · intro rec a hJ
    rw [List.take_length] at hJ
    omega
theorem f2_wrongInSome {P : Nat → Bool} (hL : XL c L σ h) (hl : L.length ≤ 92) (R : Rep (gJ σ h 7) (gJ σ h 8) (rp L P)) : f_X2_wrongInSome σ h = some (nI (orL (L.filter P))) := by
  unfold f_X2_wrongInSome
  apply Rt.q
  refine lp_acc (enc := fun (a : Nat) (i : Nat) => ((nI a, nI i) : Int32 × Int32)) L.length (fun a i => a = it (fun i x => if P (L.getD i 0) then x ||| L.getD i 0 else x) 0 i) _ ?_ ?_ FU 0 0 (Nat.zero_le _) (FU_big (by omega)) rfl
  · intro rec a i hi hJ hrec
    dsimp only [b_X2_wrongInSome_4, bnd]
    rw [hL.1, isIn_rp R hi hl, nI_1, nI_clamp (by omega), hL.2.1 i hi, nI_or]
    refine Rt.f (by rw [nI_leI (by omega) (by omega)]; omega) ?_
    cases hb : P (L.getD i 0) with
    | false => exact Rt.t rfl (hrec a (by rw [it_s, ← hJ, hb]; rfl))
    | true => exact Rt.f (by decide) (Rt.c (inb_nI (by omega) (by decide)) (hrec _ (by rw [it_s, ← hJ, hb]; rfl)))
  · intro rec a hJ
    dsimp only [b_X2_wrongInSome_4, bnd]
    rw [hL.1]
    refine Rt.t (nI_le (Nat.le_refl _) (by omega)) (Rt.s ?_)
    rw [hJ, it_filter P (fun w x => x ||| w)]; rfl
theorem f2_wrongInAll {P : Nat → Bool} (ok : CVok c) (hX : XC c σ h) (hL : XL c L σ h) (hl : L.length ≤ 92) (R : Rep (gJ σ h 7) (gJ σ h 8) (rp L P)) : f_X2_wrongInAll σ h = some (nI (if (L.filter P).length = 0 then 0 else andL (2 ^ cN c - 1) (L.filter P))) := by
  have loop : ∀ v, j_X2_wrongInAll_18 σ h (nI v) = some (nI (andL v (L.filter P))) := by
    intro v
    unfold j_X2_wrongInAll_18
    apply Rt.q
    refine lp_acc (enc := fun (a : Nat) (i : Nat) => ((nI a, nI i) : Int32 × Int32)) L.length (fun a i => a = it (fun i x => if P (L.getD i 0) then x &&& L.getD i 0 else x) v i) _ ?_ ?_ FU v 0 (Nat.zero_le _) (FU_big (by omega)) rfl
    · intro rec a i hi hJ hrec
      dsimp only [b_X2_wrongInAll_21, bnd]
      rw [hL.1, isIn_rp R hi hl, nI_1, nI_clamp (by omega), hL.2.1 i hi, nI_and]
      refine Rt.f (by rw [nI_leI (by omega) (by omega)]; omega) ?_
      cases hb : P (L.getD i 0) with
      | false => exact Rt.t rfl (hrec a (by rw [it_s, ← hJ, hb]; rfl))
      | true => exact Rt.f (by decide) (Rt.c (inb_nI (by omega) (by decide)) (hrec _ (by rw [it_s, ← hJ, hb]; rfl)))
    · intro rec a hJ
      dsimp only [b_X2_wrongInAll_21, bnd]
      rw [hL.1]
      refine Rt.t (nI_le (Nat.le_refl _) (by omega)) (Rt.s ?_)
      rw [hJ, it_filter P (fun w x => x &&& w)]; rfl
  have hc : L.countP P ≤ 92 := Nat.le_trans (List.countP_le_length) hl
  unfold f_X2_wrongInAll
  rw [bnd_d, f2_possible hl R, f0_all ok hX, bnd_d]
  have el : (L.filter P).length = L.countP P := (List.countP_eq_length_filter).symm
  by_cases e : L.countP P = 0
  · rw [if_pos (by rw [e]; rfl), if_pos (by rw [el]; exact e), show (0 : Int32) = nI 0 from rfl, loop]
    have : L.filter P = [] := List.eq_nil_of_length_eq_zero (by rw [el]; exact e)
    rw [this]; rfl
  · rw [if_neg (by rw [i_0, nI_eq (by omega) (by omega)]; exact e), if_neg (by rw [el]; exact e), loop]
theorem f2_likely {P : Nat → Bool} (ok : CVok c) {m : Nat} (hm : m ≤ 3) (eL : L = WL (cN c) m) (hL : XL c L σ h) (hl : L.length ≤ 92) (R : Rep (gJ σ h 7) (gJ σ h 8) (rp L P)) {x : Nat} (hx : x < 8) : f_X2_likely σ h (nI x) = some (nI (if sumW c (L.filter P) = 0 then 0 else 1000 * sumX c x (L.filter P) / sumW c (L.filter P))) := by
  have hlt : ∀ i, i < L.length → L.getD i 0 < 256 ∧ wtC c (L.getD i 0) ≤ 729 := fun i hi => by
    have hm' := getD_mem hi
    generalize L.getD i 0 = w at *
    rw [eL] at hm'
    exact ⟨(WL_lt ok.1 hm').2.1, (wtC_729 ok hm hm').2⟩
  unfold f_X2_likely
  apply Rt.q
  refine lp_acc (enc := fun (a : Nat × Nat) (i : Nat) => ((lN a.1, lN a.2, nI i) : Int64 × Int64 × Int32)) L.length (fun a i => a.1 = it (fun i y => if P (L.getD i 0) then y + (if (L.getD i 0).testBit x then wtC c (L.getD i 0) else 0) else y) 0 i ∧ a.2 = it (fun i y => if P (L.getD i 0) then y + wtC c (L.getD i 0) else y) 0 i) _ ?_ ?_ FU (0, 0) 0 (Nat.zero_le _) (FU_big (by omega)) ⟨rfl, rfl⟩
  · rintro rec ⟨a, b⟩ i hi ⟨hJ, hJ2⟩ hrec
    dsimp only at hJ hJ2 hrec
    obtain ⟨w1, w2⟩ := hlt i hi
    dsimp only [b_X2_likely_8, bnd]
    rw [hL.1, isIn_rp R hi hl, nI_1, nI_clamp (by omega), hL.2.1 i hi, hL.2.2.1 i hi, nI_bit (by omega) (by omega), nI_l (by omega), lN_add]
    have e92 : inb (nI i) 92 = true := inb_nI (by omega) (by decide)
    refine Rt.f (by rw [nI_leI (by omega) (by omega)]; omega) ?_
    cases hb : P (L.getD i 0) with
    | false => exact Rt.t rfl (hrec (a, b) ⟨by rw [it_s, ← hJ, hb]; rfl, by rw [it_s, ← hJ2, hb]; rfl⟩)
    | true =>
      refine Rt.f (by decide) (Rt.c e92 (Rt.c e92 (Rt.c e92 ?_)))
      have e : lN a + (if (L.getD i 0).testBit x = true then (1 : Int32) else 0).toInt64 * lN (wtC c (L.getD i 0)) = lN (a + (if (L.getD i 0).testBit x then wtC c (L.getD i 0) else 0)) := by
        cases (L.getD i 0).testBit x
        · show lN a + lN 0 * _ = _; rw [lN_mul, lN_add, Nat.zero_mul]; rfl
        · show lN a + lN 1 * _ = _; rw [lN_mul, lN_add, Nat.one_mul]; rfl
      rw [e]
      exact hrec (_, _) ⟨by rw [it_s, ← hJ, hb]; rfl, by rw [it_s, ← hJ2, hb]; rfl⟩
  · rintro rec ⟨a, b⟩ ⟨hJ, hJ2⟩
    dsimp only at hJ hJ2
    dsimp only [b_X2_likely_8, bnd, j_X2_likely_88]
    rw [hL.1]
    refine Rt.t (nI_le (Nat.le_refl _) (by omega)) ?_
    rw [it_filter P (fun w y => y + (if w.testBit x then wtC c w else 0))] at hJ
    rw [it_filter P (fun w y => y + wtC c w)] at hJ2
    have s1 : a = sumX c x (L.filter P) := hJ
    have s2 : b = sumW c (L.filter P) := hJ2
    have hle : sumW c (L.filter P) ≤ 67068 := sumW_le ok hm (fun w hw => by rw [← eL]; exact (List.mem_filter.mp hw).1) (Nat.le_trans (List.length_filter_le _ _) hl)
    have hle2 := sumX_le (c := c) x (L.filter P)
    rw [← s1, ← s2]
    rw [← s1, ← s2] at hle2
    rw [← s2] at hle
    by_cases e : b = 0
    · subst e
      exact Rt.t (by decide) (Rt.s rfl)
    · have hne : ¬ lN b = 0 := fun z => e ((lN_eq (b := 0) (by omega) (by omega)).mp z)
      refine Rt.f (fun z => hne ((lg_cmp_0 _).mp z)) (Rt.c hne (Rt.s ?_))
      rw [if_neg e, show (1000 : Int64) = lN 1000 from rfl, lN_mul, pk_lDiv (by omega) (by omega) (by omega), lN_i]
/-- the first of the greatest weight -/
def lkF (c : CV) (l : List Nat) : Nat × Nat := l.foldl (fun a w => if a.2 < wtC c w then (w, wtC c w) else a) (0, 0)
theorem f2_likeliest {P : Nat → Bool} (ok : CVok c) {m : Nat} (hm : m ≤ 3) (eL : L = WL (cN c) m) (hL : XL c L σ h) (hl : L.length ≤ 92) (R : Rep (gJ σ h 7) (gJ σ h 8) (rp L P)) (hne : 0 < (L.filter P).length) : f_X2_likeliestWorld σ h = some (nI (lkF c (L.filter P)).1) := by
  have hlt : ∀ i, i < L.length → 0 < L.getD i 0 ∧ L.getD i 0 < 256 ∧ 1 ≤ wtC c (L.getD i 0) ∧ wtC c (L.getD i 0) ≤ 729 := fun i hi => by
    have hm' := getD_mem hi
    generalize L.getD i 0 = w at *
    rw [eL] at hm'
    exact ⟨(WL_lt ok.1 hm').1, (WL_lt ok.1 hm').2.1, wtC_729 ok hm hm'⟩
  unfold f_X2_likeliestWorld
  apply Rt.q
  refine lp_acc (enc := fun (a : Nat × Nat) (i : Nat) => ((if a.2 = 0 then (-1) else nI a.1, nI a.2, nI i) : Int32 × Int32 × Int32)) L.length (fun a i => a.2 ≤ 729 ∧ a = it (fun i (y : Nat × Nat) => if P (L.getD i 0) then (if y.2 < wtC c (L.getD i 0) then (L.getD i 0, wtC c (L.getD i 0)) else y) else y) (0, 0) i) _ ?_ ?_ FU (0, 0) 0 (Nat.zero_le _) (FU_big (by omega)) ⟨by decide, rfl⟩
  · rintro rec ⟨a, b⟩ i hi ⟨hb729, hJ⟩ hrec
    dsimp only at hb729 hrec
    obtain ⟨w0, w1, w2, w3⟩ := hlt i hi
    dsimp only [b_X2_likeliestWorld_6, bnd]
    rw [hL.1, isIn_rp R hi hl, nI_1, nI_clamp (by omega), hL.2.1 i hi, hL.2.2.1 i hi]
    have e92 : inb (nI i) 92 = true := inb_nI (by omega) (by decide)
    refine Rt.f (by rw [nI_leI (by omega) (by omega)]; omega) ?_
    cases hb : P (L.getD i 0) with
    | false => exact Rt.t rfl (hrec (a, b) ⟨hb729, by rw [it_s, ← hJ, hb]; rfl⟩)
    | true =>
      refine Rt.f (by decide) (Rt.c e92 ?_)
      by_cases e : b < wtC c (L.getD i 0)
      · refine Rt.f (by rw [nI_leI (by omega) (by omega)]; omega) (Rt.c e92 (Rt.c e92 ?_))
        have := hrec (L.getD i 0, wtC c (L.getD i 0)) ⟨w3, by rw [it_s, ← hJ, hb, if_pos rfl, if_pos e]⟩
        dsimp only at this
        rw [if_neg (by omega)] at this
        exact this
      · refine Rt.t (nI_le (by omega) (by omega)) ?_
        exact hrec (a, b) ⟨hb729, by rw [it_s, ← hJ, hb, if_pos rfl, if_neg e]⟩
  · rintro rec ⟨a, b⟩ ⟨hb729, hJ⟩
    dsimp only [b_X2_likeliestWorld_6, bnd]
    rw [hL.1]
    refine Rt.t (nI_le (Nat.le_refl _) (by omega)) (Rt.s ?_)
    rw [it_filter P (fun w (y : Nat × Nat) => if y.2 < wtC c w then (w, wtC c w) else y)] at hJ
    have hJ' : (a, b) = lkF c (L.filter P) := hJ
    have hpos : 0 < (lkF c (L.filter P)).2 := by
      have key : ∀ (l : List Nat) (a : Nat × Nat), 0 < a.2 → 0 < (l.foldl (fun a w => if a.2 < wtC c w then (w, wtC c w) else a) a).2 := by
        intro l
        induction l with
        | nil => intro a ha; exact ha
        | cons w l ih =>
          intro a ha
          rw [List.foldl_cons]
          refine ih _ ?_
          by_cases e : a.2 < wtC c w
          · rw [if_pos e]; show 0 < wtC c w; omega
          · rw [if_neg e]; exact ha
      have hmem : ∀ w ∈ L.filter P, 1 ≤ wtC c w := fun w hw => (wtC_729 ok hm (by rw [← eL]; exact (List.mem_filter.mp hw).1)).1
      unfold lkF
      cases hf : L.filter P with
      | nil => rw [hf] at hne; exact absurd hne (Nat.lt_irrefl 0)
      | cons w l =>
        rw [List.foldl_cons]
        have hw := hmem w (by rw [hf]; exact List.mem_cons_self)
        refine key l _ ?_
        rw [if_pos (show (0, 0).2 < wtC c w from hw)]
        show 0 < wtC c w; omega
    rw [← hJ'] at hpos ⊢
    rw [if_neg (by omega)]
end H2
