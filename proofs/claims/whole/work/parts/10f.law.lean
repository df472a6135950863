/-! which sets are lawful: by the places of a set's singers -/
def loB (T : Nat) : Nat := (List.range 8).findIdx T.testBit
def hiB (T : Nat) : Nat := if T = 0 then 0 else Nat.log2 T + 1
def ngB (T : Nat) : Bool := decide ((nI T + (nI T &&& (-nI T))) &&& nI T = 0)
theorem bB_step : ∀ T, T < 256 → ∀ p, p < 8 → loB (T ||| 2 ^ p) = (if p < loB T then p else loB T) ∧ hiB (T ||| 2 ^ p) = (if hiB T < p + 1 then p + 1 else hiB T) ∧ (T ||| 2 ^ p) < 256 ∧ (T.testBit p = false → pc (T ||| 2 ^ p) = pc T + 1) := by decide +kernel
theorem bB_gap : ∀ T, T < 256 → 0 < T → (ngB T = decide (hiB T - loB T = pc T)) ∧ loB T < hiB T ∧ hiB T ≤ 8 := by decide +kernel
theorem lo_8 : ∀ T, T < 256 → loB T ≤ 8 := by decide +kernel
theorem hi_8 : ∀ T, T < 256 → hiB T ≤ 8 := by decide +kernel
theorem bB_0 : loB 0 = 8 ∧ hiB 0 = 0 := by decide +kernel
def spK (c : CV) (s k : Nat) : Nat := it (fun x T => if s.testBit x then T ||| 2 ^ cP c x else T) 0 k
def spC (c : CV) (s : Nat) : Nat := spK c s (cN c)
theorem spK_lt {c : CV} (ok : CVok c) (s : Nat) : ∀ k, k ≤ cN c → spK c s k < 256 := by
  intro k
  induction k with
  | zero => intro _; show 0 < 256; decide
  | succ k ih =>
    intro hk
    have h1 := ih (by omega)
    have h8 := ok.1
    have hp := (ok.2.1 k (by omega)).2.2.2.2
    show (if s.testBit k then spK c s k ||| 2 ^ cP c k else spK c s k) < 256
    by_cases hb : s.testBit k = true
    · rw [if_pos hb]; exact (bB_step _ h1 _ (by omega)).2.2.1
    · rw [if_neg hb]; exact h1
theorem spK_bit {c : CV} (s : Nat) : ∀ (k p : Nat), (spK c s k).testBit p = true ↔ ∃ x, x < k ∧ s.testBit x = true ∧ cP c x = p := by
  intro k
  induction k with
  | zero =>
    intro p
    constructor
    · intro h; simp [spK, it] at h
    · rintro ⟨x, hx, _⟩; exact absurd hx (Nat.not_lt_zero x)
  | succ k ih =>
    intro p
    show (if s.testBit k then spK c s k ||| 2 ^ cP c k else spK c s k).testBit p = true ↔ _
    by_cases hb : s.testBit k = true
    · rw [if_pos hb, Nat.testBit_or, Bool.or_eq_true, ih, Nat.testBit_two_pow, decide_eq_true_eq]
      constructor
      · rintro (⟨x, hx, h1, h2⟩ | h)
        · exact ⟨x, by omega, h1, h2⟩
        · exact ⟨k, by omega, hb, h⟩
      · rintro ⟨x, hx, h1, h2⟩
        rcases Nat.lt_or_eq_of_le (Nat.le_of_lt_succ hx) with h | rfl
        · exact Or.inl ⟨x, h, h1, h2⟩
        · exact Or.inr h2
    · rw [if_neg hb, ih]
      constructor
      · rintro ⟨x, hx, h1, h2⟩; exact ⟨x, by omega, h1, h2⟩
      · rintro ⟨x, hx, h1, h2⟩
        rcases Nat.lt_or_eq_of_le (Nat.le_of_lt_succ hx) with h | rfl
        · exact ⟨x, h, h1, h2⟩
        · exact absurd h1 hb
theorem spK_pc {c : CV} (ok : CVok c) (s : Nat) : ∀ k, k ≤ cN c → pc (spK c s k) = (List.range k).countP s.testBit := by
  intro k
  induction k with
  | zero => intro _; show pc 0 = 0; decide
  | succ k ih =>
    intro hk
    have h8 := ok.1
    have hp := (ok.2.1 k (by omega)).2.2.2.2
    rw [List.range_succ, List.countP_append, List.countP_singleton, ← ih (by omega)]
    show pc (if s.testBit k then spK c s k ||| 2 ^ cP c k else spK c s k) = _
    by_cases hb : s.testBit k = true
    · rw [if_pos hb, if_pos hb]
      refine (bB_step _ (spK_lt ok s k (by omega)) _ (by omega)).2.2.2 ?_
      cases hz : (spK c s k).testBit (cP c k) with
      | false => rfl
      | true =>
        obtain ⟨x, hx, _, h2⟩ := (spK_bit s k _).mp hz
        have := ok.2.2 x k (by omega) (by omega) h2
        omega
    · rw [if_neg hb, if_neg hb]; rfl
theorem cnt_top {n s : Nat} (hn : n ≤ 8) (hs : s < 2 ^ n) : (List.range n).countP s.testBit = pc s := by
  unfold pc
  have e : 8 = n + (8 - n) := by omega
  rw [e, cnt_split]
  have : (List.range (8 - n)).countP (fun k => s.testBit (n + k)) = 0 := by
    rw [List.countP_eq_zero]
    intro k _
    rw [Nat.testBit_lt_two_pow (Nat.lt_of_lt_of_le hs (Nat.pow_le_pow_right (by decide) (Nat.le_add_right n k)))]
    decide
  omega
theorem spC_pos {c : CV} {s : Nat} (hs0 : 0 < s) (hs : s < 2 ^ cN c) : 0 < spC c s := by
  have hne : s ≠ 0 := by omega
  have hb : ∃ x, s.testBit x = true := Nat.exists_testBit_of_ne_zero hne
  obtain ⟨x, hx⟩ := hb
  have hxn : x < cN c := by
    rcases Nat.lt_or_ge x (cN c) with h | h
    · exact h
    · rw [Nat.testBit_lt_two_pow (Nat.lt_of_lt_of_le hs (Nat.pow_le_pow_right (by decide) h))] at hx
      cases hx
  have h := (spK_bit (c := c) s (cN c) (cP c x)).mpr ⟨x, hxn, hx, rfl⟩
  rcases Nat.eq_zero_or_pos (spC c s) with h0 | h0
  · unfold spC at h0
    rw [h0, Nat.zero_testBit] at h
    cases h
  · exact h0
/-- lawful: a set, so many at least, without a gap -/
def lwC (c : CV) (le ne s : Nat) : Bool := decide (0 < s ∧ s < 2 ^ cN c) && (decide (le ≤ pc s) && (decide (ne = 0) || ngB (spC c s)))
section LW
variable {c : CV} {σ : PH}
theorem hi_m1 {p g : Nat} (hp : p < 8) (hg : g ≤ 8) : (nI p ≤ nI g - 1) ↔ ¬ g < p + 1 := by
  rw [Int32.le_iff_toInt_le, i_1, pk_sub_toInt (by omega) (by omega), nI_toInt (by omega)]; omega
theorem f9_isLawful (ok : CVok c) (hM : MC c σ) {le ne : Nat} (h2 : gI σ 81 2 = nI le) (hle : le < 100) (h3 : gI σ 81 3 = nI ne) (hne : ne < 100) {s : Nat} (hs0 : 0 < s) (hs : s < 2 ^ cN c) : f_X9_isLawful σ (nI s) = some (oI (lwC c le ne s)) := by
  have h8 := ok.1
  have h9 := p2_9 h8
  have hps := pc_le s
  have hset : f_X9_isSet σ (nI s) = 1 := by
    rcases f9_isSet ok hM (nI s) with ⟨-, q⟩ | ⟨q, -⟩
    · exact absurd rfl (q s hs0 hs)
    · exact q
  unfold f_X9_isLawful
  dsimp only [bnd]
  rw [hset, f9_count (by omega), obd_s, h2, if_neg (by decide)]
  unfold lwC
  rw [decide_eq_true (show 0 < s ∧ s < 2 ^ cN c from ⟨hs0, hs⟩), Bool.true_and]
  by_cases hl : le ≤ pc s
  · rw [if_pos (nI_le hl (by omega)), decide_eq_true hl, Bool.true_and]
    apply Rt.q
    refine Rt.e (y := loopN (b_X9_isLawful_30 σ (nI s)) FU (nI (loB (spK c s 0)), nI (hiB (spK c s 0)) - 1, nI 0)) (by
      have e1 : loB (spK c s 0) = 8 := bB_0.1
      have e2 : hiB (spK c s 0) = 0 := bB_0.2
      rw [e1, e2]; rfl) ?_
    refine lp_acc (enc := fun (_ : Unit) (i : Nat) => ((nI (loB (spK c s i)), nI (hiB (spK c s i)) - 1, nI i) : Int32 × Int32 × Int32)) (cN c) (fun _ _ => True) _ ?_ ?_ FU () 0 (Nat.zero_le _) (FU_big (by omega)) trivial
    · intro rec a i hi _ hrec
      dsimp only [b_X9_isLawful_30, bnd, j_X9_isLawful_74]
      have hT := spK_lt ok s i (by omega)
      have hp := (ok.2.1 i hi).2.2.2.2
      have l8 := lo_8 _ hT
      have g8 := hi_8 _ hT
      rw [hM.1, f9_isIn (by omega) (by omega), nI_clamp (by omega), (hM.2 i hi).2.2.2, nI_1]
      refine Rt.f (by rw [nI_leI (by omega) (by omega)]; omega) ?_
      have hn := hrec () trivial
      have es : spK c s (i + 1) = if s.testBit i then spK c s i ||| 2 ^ cP c i else spK c s i := rfl
      cases hb : s.testBit i with
      | false =>
        rw [es, hb] at hn
        exact Rt.t rfl hn
      | true =>
        rw [es, hb, if_pos rfl] at hn
        obtain ⟨b1, b2, -, -⟩ := bB_step _ hT (cP c i) (by omega)
        rw [b1, b2] at hn
        refine Rt.f (by decide) (Rt.c (inb_nI (by omega) (by decide)) ?_)
        have e8 : inb (nI i) 8 = true := inb_nI (by omega) (by decide)
        have eg : nI (cP c i + 1) - 1 = nI (cP c i) := nI_pred _
        by_cases a1 : cP c i < loB (spK c s i)
        · refine Rt.f (by rw [nI_leI (by omega) (by omega)]; omega) (Rt.c e8 (Rt.c e8 ?_))
          rw [if_pos a1] at hn
          by_cases a2 : hiB (spK c s i) < cP c i + 1
          · rw [if_pos a2, eg] at hn
            exact Rt.f (by rw [hi_m1 (by omega) g8]; omega) (Rt.c e8 hn)
          · rw [if_neg a2] at hn
            exact Rt.t (by rw [hi_m1 (by omega) g8]; omega) hn
        · refine Rt.t (nI_le (by omega) (by omega)) (Rt.c e8 ?_)
          rw [if_neg a1] at hn
          by_cases a2 : hiB (spK c s i) < cP c i + 1
          · rw [if_pos a2, eg] at hn
            exact Rt.f (by rw [hi_m1 (by omega) g8]; omega) (Rt.c e8 hn)
          · rw [if_neg a2] at hn
            exact Rt.t (by rw [hi_m1 (by omega) g8]; omega) hn
    · intro rec a _
      dsimp only [b_X9_isLawful_30, bnd, j_X9_isLawful_104]
      rw [hM.1, h3]
      refine Rt.t (nI_le (Nat.le_refl _) (by omega)) ?_
      by_cases hn0 : ne = 0
      · subst hn0
        exact Rt.t rfl (Rt.s rfl)
      · refine Rt.f (by rw [i_0, nI_eq (by omega) (by omega)]; exact hn0) ?_
        rw [f9_count (by omega), obd_s, decide_eq_false hn0, Bool.false_or]
        have hT := spK_lt ok s (cN c) (Nat.le_refl _)
        obtain ⟨b1, b2, b3⟩ := bB_gap (spC c s) hT (spC_pos hs0 hs)
        have ep : pc (spC c s) = pc s := by
          show pc (spK c s (cN c)) = _
          rw [spK_pc ok s _ (Nat.le_refl _), cnt_top h8 hs]
        rw [b1, ep]
        have ed : nI (hiB (spK c s (cN c))) - 1 - nI (loB (spK c s (cN c))) + 1 = nI (hiB (spC c s) - loB (spC c s)) := by
          show nI (hiB (spC c s)) - 1 - nI (loB (spC c s)) + 1 = _
          rw [i_1, pk_sub (by omega), pk_sub (by omega), nI_add]
          congr 1; omega
        rw [ed]
        by_cases e : hiB (spC c s) - loB (spC c s) = pc s
        · rw [decide_eq_true e]
          exact Rt.t (by rw [e]) (Rt.s rfl)
        · rw [decide_eq_false e]
          exact Rt.f (by rw [nI_eq (by omega) (by omega)]; exact e) (Rt.s rfl)
  · rw [if_neg (by rw [nI_leI (by omega) (by omega)]; exact hl), decide_eq_false hl]
    rfl
/-- of any int -/
theorem f9_isLawful_all (ok : CVok c) (hM : MC c σ) {le ne : Nat} (h2 : gI σ 81 2 = nI le) (hle : le < 100) (h3 : gI σ 81 3 = nI ne) (hne : ne < 100) (p : Int32) : (f_X9_isLawful σ p = some 0 ∧ ∀ s, p = nI s → s < 2 ^ 31 → lwC c le ne s = false) ∨ (∃ s, p = nI s ∧ 0 < s ∧ s < 2 ^ cN c ∧ lwC c le ne s = true ∧ f_X9_isLawful σ p = some 1) := by
  have h9 := p2_9 ok.1
  rcases f9_isSet ok hM p with ⟨q, hn⟩ | ⟨q, s, hs0, hs, rfl⟩
  · refine Or.inl ⟨?_, fun s e _ => ?_⟩
    · unfold f_X9_isLawful
      dsimp only [bnd]
      rw [q, if_pos rfl]
    · unfold lwC
      rw [decide_eq_false (fun z => hn s z.1 z.2 e)]; rfl
  · rw [f9_isLawful ok hM h2 hle h3 hne hs0 hs]
    cases hb : lwC c le ne s with
    | false =>
      refine Or.inl ⟨rfl, fun s' e hs' => ?_⟩
      rw [nI_eq (by omega) hs'] at e
      rw [← e]; exact hb
    | true => exact Or.inr ⟨s, rfl, hs0, hs, hb, rfl⟩
theorem f0_isWithoutGap {h : Nat} (ok : CVok c) (hX : XC c σ h) {s : Nat} (hs : s < 256) : f_X0_isWithoutGap σ h (nI s) = some (oI (ngB (spC c s))) := by
  have h8 := ok.1
  unfold f_X0_isWithoutGap
  apply Rt.q
  refine lp_acc (enc := fun (_ : Unit) (i : Nat) => ((nI (spK c s i), nI i) : Int32 × Int32)) (cN c) (fun _ _ => True) _ ?_ ?_ FU () 0 (Nat.zero_le _) (FU_big (by omega)) trivial
  · intro rec a i hi _ hrec
    dsimp only [b_X0_isWithoutGap_4, bnd]
    have hp := (ok.2.1 i hi).2.2.2.2
    have hn := hrec () trivial
    have es : spK c s (i + 1) = if s.testBit i then spK c s i ||| 2 ^ cP c i else spK c s i := rfl
    rw [hX.1, nI_bit (by omega) (by omega), nI_clamp (by omega), (hX.2.1 i hi).2.2.2, nI_1, nI_shl1 _ (by omega), nI_or]
    refine Rt.f (by rw [nI_leI (by omega) (by omega)]; omega) ?_
    cases hb : s.testBit i with
    | false =>
      rw [es, hb] at hn
      exact Rt.t rfl hn
    | true =>
      rw [es, hb] at hn
      exact Rt.f (by decide) (Rt.c (inb_nI (by omega) (by decide)) hn)
  · intro rec a _
    dsimp only [b_X0_isWithoutGap_4, bnd, j_X0_isWithoutGap_37]
    rw [hX.1]
    refine Rt.t (nI_le (Nat.le_refl _) (by omega)) ?_
    unfold ngB spC
    by_cases e : (nI (spK c s (cN c)) + (nI (spK c s (cN c)) &&& (-nI (spK c s (cN c))))) &&& nI (spK c s (cN c)) = 0
    · rw [decide_eq_true e]; exact Rt.t e (Rt.s rfl)
    · rw [decide_eq_false e]; exact Rt.f e (Rt.s rfl)
/-- the class's own question -/
theorem f2_allows {h : Nat} (ok : CVok c) (hX : XC c σ h) {le ne : Nat} (h1 : gI σ (h + 15) 1 = nI le) (hle : le < 100) (h2 : gI σ (h + 15) 2 = nI ne) (hne : ne < 100) {s : Nat} (hs0 : 0 < s) (hs : s < 2 ^ cN c) : f_X2_allows σ h (nI s) = some (oI (lwC c le ne s)) := by
  have h8 := ok.1
  have h9 := p2_9 h8
  have hps := pc_le s
  have hset : f_X0_isSet σ h (nI s) = 1 := by
    rcases f0_isSet ok hX (nI s) with ⟨-, q⟩ | ⟨q, -⟩
    · exact absurd rfl (q s hs0 hs)
    · exact q
  unfold f_X2_allows
  dsimp only [bnd]
  rw [hset, pc_J s (by omega), f0_isWithoutGap ok hX (by omega), if_neg (by decide), show (1 : Int32).toNatClampNeg = 1 from rfl, show (2 : Int32).toNatClampNeg = 2 from rfl, h1, h2, obd_s]
  unfold lwC
  rw [decide_eq_true (show 0 < s ∧ s < 2 ^ cN c from ⟨hs0, hs⟩), Bool.true_and]
  by_cases hl : le ≤ pc s
  · rw [if_pos (nI_le hl (by omega)), decide_eq_true hl, Bool.true_and]
    by_cases hn0 : ne = 0
    · subst hn0
      rw [if_pos (show nI 0 = 0 from rfl)]; rfl
    · rw [if_neg (by rw [i_0, nI_eq (by omega) (by omega)]; exact hn0), decide_eq_false hn0, Bool.false_or]
      cases ngB (spC c s) <;> rfl
  · rw [if_neg (by rw [nI_leI (by omega) (by omega)]; exact hl), decide_eq_false hl]
    rfl
theorem f2_allows_all {h : Nat} (ok : CVok c) (hX : XC c σ h) {le ne : Nat} (h1 : gI σ (h + 15) 1 = nI le) (hle : le < 100) (h2 : gI σ (h + 15) 2 = nI ne) (hne : ne < 100) (p : Int32) : (f_X2_allows σ h p = some 0 ∧ ∀ s, p = nI s → s < 2 ^ 31 → lwC c le ne s = false) ∨ (∃ s, p = nI s ∧ 0 < s ∧ s < 2 ^ cN c ∧ lwC c le ne s = true ∧ f_X2_allows σ h p = some 1) := by
  have h9 := p2_9 ok.1
  rcases f0_isSet ok hX p with ⟨q, hn⟩ | ⟨q, s, hs0, hs, rfl⟩
  · refine Or.inl ⟨?_, fun s e _ => ?_⟩
    · unfold f_X2_allows
      dsimp only [bnd]
      rw [q, if_pos rfl]
    · unfold lwC
      rw [decide_eq_false (fun z => hn s z.1 z.2 e)]; rfl
  · rw [f2_allows ok hX h1 hle h2 hne hs0 hs]
    cases hb : lwC c le ne s with
    | false =>
      refine Or.inl ⟨rfl, fun s' e hs' => ?_⟩
      rw [nI_eq (by omega) hs'] at e
      rw [← e]; exact hb
    | true => exact Or.inr ⟨s, rfl, hs0, hs, hb, rfl⟩
end LW
