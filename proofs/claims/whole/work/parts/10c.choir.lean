/-! the singers: kinds, a, odds, places; how a set sounds in a world -/
abbrev CV : Type := Nat × (Nat → Nat) × (Nat → Nat) × (Nat → Nat) × (Nat → Nat)
def cN (c : CV) : Nat := c.1
def cK (c : CV) : Nat → Nat := c.2.1
def cA_ (c : CV) : Nat → Nat := c.2.2.1
def cO (c : CV) : Nat → Nat := c.2.2.2.1
def cP (c : CV) : Nat → Nat := c.2.2.2.2
def CVok (c : CV) : Prop := cN c ≤ 8 ∧ (∀ i, i < cN c → cK c i ≤ 6 ∧ cA_ c i ≤ 9 ∧ 1 ≤ cO c i ∧ cO c i ≤ 9 ∧ cP c i < cN c) ∧ ∀ i j, i < cN c → j < cN c → cP c i = cP c j → i = j
def MC (c : CV) (σ : PH) : Prop := gI σ 81 0 = nI (cN c) ∧ ∀ i, i < cN c → gI σ 83 i = nI (cK c i) ∧ gI σ 84 i = nI (cA_ c i) ∧ gI σ 85 i = nI (cO c i) ∧ gI σ 86 i = nI (cP c i)
def XC (c : CV) (σ : PH) (h : Nat) : Prop := gI σ (h + 1) 5 = nI (cN c) ∧ (∀ i, i < cN c → gI σ (h + 2) i = nI (cK c i) ∧ gI σ (h + 3) i = nI (cA_ c i) ∧ gI σ (h + 4) i = nI (cO c i) ∧ gI σ (h + 5) i = nI (cP c i)) ∧ ∀ p, p < 10 → ∃ m, m < 256 ∧ gI σ (h + 6) p = nI m ∧ ∀ j, m.testBit j = decide (j < cN c ∧ cP c j + 1 = p)
def huC (c : CV) (q s w : Nat) : Bool := (List.range (cN c)).any fun x => decide (cP c x + 1 = q) && (s.testBit x && !w.testBit x)
def heC (c : CV) (x s w : Nat) : Bool :=
  if cK c x = 1 then !huC c (cP c x) s w
  else if cK c x = 2 then decide (cA_ c x + 1 < pc s)
  else if cK c x = 3 then !huC c (cP c x) s w && !huC c (cP c x + 2) s w
  else if cK c x = 4 then false
  else if cK c x = 5 then decide (cA_ c x + 1 < pc s) && (decide (0 < cP c x) && decide (cP c x + 1 < cN c))
  else if cK c x = 6 then decide (s = 2 ^ cN c - 1)
  else true
def sndC (c : CV) (s w : Nat) : Bool := (List.range (cN c)).any fun x => (s.testBit x && w.testBit x) && heC c x s w
theorem any_rg {n : Nat} {f : Nat → Bool} : (List.range n).any f = true ↔ ∃ x, x < n ∧ f x = true := by
  rw [List.any_eq_true]
  constructor
  · rintro ⟨x, hx, h⟩; exact ⟨x, List.mem_range.mp hx, h⟩
  · rintro ⟨x, hx, h⟩; exact ⟨x, List.mem_range.mpr hx, h⟩
theorem any_rgF {n : Nat} {f : Nat → Bool} : (List.range n).any f = false ↔ ∀ x, x < n → f x = false := by
  rw [Bool.eq_false_iff, Ne, any_rg]
  constructor
  · intro h x hx
    cases hf : f x with
    | false => rfl
    | true => exact absurd ⟨x, hx, hf⟩ h
  · rintro h ⟨x, hx, hf⟩
    rw [h x hx] at hf; cases hf
def oI (b : Bool) : Int32 := if b then 1 else 0
theorem oI_t : oI true = 1 := rfl
theorem oI_f : oI false = 0 := rfl
theorem oI_0 {b : Bool} : oI b = 0 ↔ b = false := by cases b <;> decide
theorem oI_1 {b : Bool} : oI b = 1 ↔ b = true := by cases b <;> decide
theorem oI_inj {a b : Bool} : oI a = oI b ↔ a = b := by cases a <;> cases b <;> decide
theorem oI_nI (b : Bool) : oI b = nI b.toNat := by cases b <;> rfl
theorem oI_and (b : Bool) : oI b &&& 1 = oI b := by cases b <;> decide
theorem oI_lt2 (b : Bool) : b.toNat < 2 := by cases b <;> decide
/-! the reference's own -/
theorem f9_isIn {s k : Nat} (hs : s < 2 ^ 31) (hk : k < 32) : f_X9_isIn (nI s) (nI k) = oI (s.testBit k) := by
  unfold f_X9_isIn
  rw [nI_bit hs hk]
  cases s.testBit k <;> decide
theorem f9_count {s : Nat} (hs : s < 256) : f_X9_count (nI s) = some (nI (pc s)) := by
  unfold f_X9_count
  apply Rt.q
  refine lp_acc (enc := fun a i => (nI a, nI i)) 8 (fun a i => a = (List.range i).countP s.testBit) _ ?_ ?_ FU 0 0 (by decide) (FU_big (by decide)) rfl
  · intro rec a i hi hJ hrec
    dsimp only [b_X9_count_4, bnd]
    refine Rt.f (by rw [i_8, nI_leI (by omega) (by omega)]; omega) ?_
    rw [nI_bit (by omega) (by omega), nI_1]
    have e : nI a + (if s.testBit i then 1 else 0) = nI (a + (s.testBit i).toNat) := by
      cases s.testBit i
      · show nI a + nI 0 = _; rw [nI_add]; rfl
      · show nI a + nI 1 = _; rw [nI_add]; rfl
    rw [e]
    refine hrec _ ?_
    rw [List.range_succ, List.countP_append, List.countP_singleton, ← hJ]
    cases s.testBit i <;> rfl
  · intro rec a hJ
    dsimp only [b_X9_count_4, bnd]
    refine Rt.t (by rw [i_8]; exact nI_le (Nat.le_refl _) (by decide)) ?_
    exact Rt.s (by rw [hJ]; rfl)
section M
variable {c : CV} {σ : PH}
theorem f9_everybody (ok : CVok c) (hM : MC c σ) : f_X9_everybody σ = nI (2 ^ cN c - 1) := by
  unfold f_X9_everybody
  rw [hM.1]
  exact nI_all _ (by have := ok.1; omega)
theorem f9_isSet (ok : CVok c) (hM : MC c σ) (p : Int32) : (f_X9_isSet σ p = 0 ∧ ∀ s, 0 < s → s < 2 ^ cN c → p ≠ nI s) ∨ (f_X9_isSet σ p = 1 ∧ ∃ s, 0 < s ∧ s < 2 ^ cN c ∧ p = nI s) := by
  have h8 := p2_9 ok.1
  have h1 := p2_1 (cN c)
  unfold f_X9_isSet
  dsimp only [bnd]
  rw [f9_everybody ok hM]
  rcases i_pos_range p (2 ^ cN c - 1) (by omega) with h | h | ⟨k, h0, hk, rfl⟩
  · refine Or.inl ⟨if_pos h, fun s h0 hs e => ?_⟩
    subst e
    rw [i_0, nI_leI (by omega) (by omega)] at h
    omega
  · refine Or.inl ⟨?_, fun s h0 hs e => ?_⟩
    · by_cases h2 : p ≤ 0
      · rw [if_pos h2]
      · rw [if_neg h2, if_pos h]
    · subst e
      rw [nI_ltI (by omega) (by omega)] at h
      omega
  · refine Or.inr ⟨?_, k, h0, by omega, rfl⟩
    rw [if_neg (by rw [i_0, nI_leI (by omega) (by omega)]; omega), if_neg (by rw [nI_ltI (by omega) (by omega)]; omega)]
theorem f9_isSinger (ok : CVok c) (hM : MC c σ) (p : Int32) : (f_X9_isSinger σ p = 0 ∧ ∀ x, x < cN c → p ≠ nI x) ∨ (f_X9_isSinger σ p = 1 ∧ ∃ x, x < cN c ∧ p = nI x) := by
  have h8 := ok.1
  unfold f_X9_isSinger
  rw [hM.1]
  rcases i_range p (cN c) (by omega) with h | h | ⟨k, hk, rfl⟩
  · refine Or.inl ⟨if_pos h, fun x hx e => ?_⟩
    subst e
    exact nI_nlt0 (by omega) h
  · refine Or.inl ⟨?_, fun x hx e => ?_⟩
    · by_cases h2 : p < 0
      · rw [if_pos h2]
      · rw [if_neg h2, if_pos h]
    · subst e
      rw [nI_leI (by omega) (by omega)] at h
      omega
  · refine Or.inr ⟨?_, k, hk, rfl⟩
    rw [if_neg (nI_nlt0 (by omega)), if_neg (by rw [nI_leI (by omega) (by omega)]; omega)]
theorem f9_who (ok : CVok c) (hM : MC c σ) (p : Int32) : Rt (f_X9_who σ p) (fun u => (∃ x, x < cN c ∧ u = nI x ∧ nI (cP c x) = p) ∨ (u = -1 ∧ ∀ x, x < cN c → nI (cP c x) ≠ p)) := by
  have h8 := ok.1
  unfold f_X9_who
  refine lp_acc (enc := fun (_ : Unit) i => nI i) (cN c) (fun _ i => ∀ x, x < i → nI (cP c x) ≠ p) _ ?_ ?_ FU () 0 (Nat.zero_le _) (FU_big (by omega)) (fun x hx => absurd hx (Nat.not_lt_zero x))
  · intro rec a i hi hJ hrec
    dsimp only [b_X9_who_2, bnd]
    rw [hM.1, nI_clamp (by omega), (hM.2 i hi).2.2.2]
    refine Rt.f (by rw [nI_leI (by omega) (by omega)]; omega) (Rt.c (inb_nI (by omega) (by decide)) (Rt.i (fun e => Rt.s (Or.inl ⟨i, hi, rfl, e⟩)) (fun e => ?_)))
    rw [nI_1]
    refine hrec () (fun x hx => ?_)
    rcases Nat.lt_or_eq_of_le (Nat.le_of_lt_succ hx) with h | rfl
    · exact hJ x h
    · exact e
  · intro rec a hJ
    dsimp only [b_X9_who_2, bnd]
    rw [hM.1]
    exact Rt.t (nI_le (Nat.le_refl _) (by omega)) (Rt.s (Or.inr ⟨rfl, hJ⟩))
theorem f9_holdsUp (ok : CVok c) (hM : MC c σ) {p : Int32} {q s w : Nat} (hp : ∀ x, x < cN c → (nI (cP c x) = p ↔ cP c x + 1 = q)) (hs : s < 256) (hw : w < 256) : f_X9_holdsUp σ p (nI s) (nI w) = some (oI (huC c q s w)) := by
  have h8 := ok.1
  unfold f_X9_holdsUp
  obtain ⟨u, hu, hP⟩ := f9_who ok hM p
  rw [hu, obd_s]
  rcases hP with ⟨x, hx, rfl, e⟩ | ⟨rfl, hn⟩
  · have hq : cP c x + 1 = q := (hp x hx).mp e
    rw [if_neg (nI_nm1 (by omega))]
    dsimp only [bnd]
    rw [f9_isIn (by omega) (by omega), f9_isIn (by omega) (by omega)]
    have key : huC c q s w = (s.testBit x && !w.testBit x) := by
      rw [Bool.eq_iff_iff]
      unfold huC
      rw [any_rg]
      constructor
      · rintro ⟨y, hy, h⟩
        rw [Bool.and_eq_true, decide_eq_true_eq] at h
        have : y = x := ok.2.2 y x hy hx (by omega)
        subst this
        exact h.2
      · intro h
        exact ⟨x, hx, by rw [Bool.and_eq_true, decide_eq_true_eq]; exact ⟨hq, h⟩⟩
    rw [key]
    cases s.testBit x <;> cases w.testBit x <;> rfl
  · rw [if_pos rfl]
    have key : huC c q s w = false := by
      unfold huC
      rw [any_rgF]
      intro x hx
      rw [decide_eq_false (fun e => hn x hx ((hp x hx).mpr e))]
      rfl
    rw [key]; rfl
theorem pl_m1 {a q : Nat} (ha : a < 100) (hq : q < 100) : nI a = nI q - 1 ↔ a + 1 = q := by
  constructor
  · intro e
    have : nI a + 1 = nI q - 1 + 1 := by rw [e]
    rw [Int32.sub_add_cancel, nI_1, nI_eq (by omega) (by omega)] at this
    exact this
  · intro e
    subst e
    rw [← nI_1, Int32.add_sub_cancel]
theorem f9_isHeard (ok : CVok c) (hM : MC c σ) {x s w : Nat} (hx : x < cN c) (hs : s < 256) (hw : w < 256) : f_X9_isHeard σ (nI x) (nI s) (nI w) = some (oI (heC c x s w)) := by
  have h8 := ok.1
  obtain ⟨hk, ha, -, -, hpl⟩ := ok.2.1 x hx
  have hps := pc_le s
  have h2 := p2_9 h8
  have u1 : f_X9_holdsUp σ (nI (cP c x) - 1) (nI s) (nI w) = some (oI (huC c (cP c x) s w)) :=
    f9_holdsUp ok hM (fun y hy => pl_m1 (by have := (ok.2.1 y hy).2.2.2.2; omega) (by omega)) hs hw
  have u2 : f_X9_holdsUp σ (nI (cP c x) + 1) (nI s) (nI w) = some (oI (huC c (cP c x + 2) s w)) :=
    f9_holdsUp ok hM (fun y hy => by
      have := (ok.2.1 y hy).2.2.2.2
      rw [nI_1, nI_eq (by omega) (by omega)]; omega) hs hw
  have e8 : inb (nI x) 8 = true := inb_nI (by omega) (by decide)
  have hx31 : x < 2 ^ 31 := by omega
  have q1 : (nI (cK c x) = 1) ↔ cK c x = 1 := nI_eq (b := 1) (by omega) (by decide)
  have q2 : (nI (cK c x) = 2) ↔ cK c x = 2 := nI_eq (b := 2) (by omega) (by decide)
  have q3 : (nI (cK c x) = 3) ↔ cK c x = 3 := nI_eq (b := 3) (by omega) (by decide)
  have q4 : (nI (cK c x) = 4) ↔ cK c x = 4 := nI_eq (b := 4) (by omega) (by decide)
  have q5 : (nI (cK c x) = 5) ↔ cK c x = 5 := nI_eq (b := 5) (by omega) (by decide)
  have q6 : (nI (cK c x) = 6) ↔ cK c x = 6 := nI_eq (b := 6) (by omega) (by decide)
  have hle : (nI (pc s) ≤ nI (cA_ c x) + 1) ↔ ¬ (cA_ c x + 1 < pc s) := by rw [nI_1, nI_leI (by omega) (by omega)]; omega
  have hq0 : (nI (cP c x) ≤ 0) ↔ ¬ (0 < cP c x) := by rw [i_0, nI_leI (by omega) (by omega)]; omega
  have hq1 : (nI (cN c) - 1 ≤ nI (cP c x)) ↔ ¬ (cP c x + 1 < cN c) := by rw [i_1, pk_sub (by omega), nI_leI (by omega) (by omega)]; omega
  have hq2 : (nI s = nI (2 ^ cN c - 1)) ↔ s = 2 ^ cN c - 1 := nI_eq (by omega) (by omega)
  unfold f_X9_isHeard
  simp only [bnd, e8, chk_T, nI_clamp hx31, (hM.2 x hx).1, (hM.2 x hx).2.1, (hM.2 x hx).2.2.2, hM.1, f9_count hs, f9_everybody ok hM, u1, u2, obd_s, q1, q2, q3, q4, q5, q6, hle, hq0, hq1, hq2]
  unfold heC
  by_cases e1 : cK c x = 1
  · rw [if_pos e1, if_pos e1]
    cases huC c (cP c x) s w <;> rfl
  rw [if_neg e1, if_neg e1]
  by_cases e2 : cK c x = 2
  · rw [if_pos e2, if_pos e2]
    by_cases h : cA_ c x + 1 < pc s
    · rw [if_neg (fun z => z h), decide_eq_true h]; rfl
    · rw [if_pos h, decide_eq_false h]; rfl
  rw [if_neg e2, if_neg e2]
  by_cases e3 : cK c x = 3
  · rw [if_pos e3, if_pos e3]
    cases huC c (cP c x) s w <;> cases huC c (cP c x + 2) s w <;> rfl
  rw [if_neg e3, if_neg e3]
  by_cases e4 : cK c x = 4
  · rw [if_pos e4, if_pos e4]; rfl
  rw [if_neg e4, if_neg e4]
  by_cases e5 : cK c x = 5
  · rw [if_pos e5, if_pos e5]
    by_cases h : cA_ c x + 1 < pc s
    · rw [if_neg (fun z => z h), decide_eq_true h]
      by_cases h0 : 0 < cP c x
      · rw [if_neg (fun z => z h0), decide_eq_true h0]
        by_cases h1 : cP c x + 1 < cN c
        · rw [if_neg (fun z => z h1), decide_eq_true h1]; rfl
        · rw [if_pos h1, decide_eq_false h1]; rfl
      · rw [if_pos h0, decide_eq_false h0]; rfl
    · rw [if_pos h, decide_eq_false h]; rfl
  rw [if_neg e5, if_neg e5]
  by_cases e6 : cK c x = 6
  · rw [if_pos e6, if_pos e6]
    by_cases h : s = 2 ^ cN c - 1
    · rw [if_pos h, decide_eq_true h]; rfl
    · rw [if_neg h, decide_eq_false h]; rfl
  rw [if_neg e6, if_neg e6]; rfl
theorem f9_soundOf (ok : CVok c) (hM : MC c σ) {s w : Nat} (hs : s < 256) (hw : w < 256) : f_X9_soundOf σ (nI s) (nI w) = some (oI (sndC c s w)) := by
  have h8 := ok.1
  unfold f_X9_soundOf
  apply Rt.q
  refine lp_acc (enc := fun (_ : Unit) i => nI i) (cN c) (fun _ i => ∀ x, x < i → ((s.testBit x && w.testBit x) && heC c x s w) = false) _ ?_ ?_ FU () 0 (Nat.zero_le _) (FU_big (by omega)) (fun x hx => absurd hx (Nat.not_lt_zero x))
  · intro rec a i hi hJ hrec
    dsimp only [b_X9_soundOf_2, bnd]
    have hand : s &&& w < 2 ^ 31 := Nat.lt_of_le_of_lt Nat.and_le_left (by omega)
    rw [hM.1, nI_and, f9_isIn hand (by omega), Nat.testBit_and, f9_isHeard ok hM hi hs hw, obd_s]
    refine Rt.f (by rw [nI_leI (by omega) (by omega)]; omega) ?_
    have hnext : ((s.testBit i && w.testBit i) && heC c i s w) = false → Rt (rec (nI i + 1)) (fun u => u = oI (sndC c s w)) := by
      intro hf
      rw [nI_1]
      refine hrec () (fun x hx => ?_)
      rcases Nat.lt_or_eq_of_le (Nat.le_of_lt_succ hx) with h | rfl
      · exact hJ x h
      · exact hf
    cases hb : (s.testBit i && w.testBit i) with
    | false => exact Rt.t rfl (hnext (by rw [hb]; rfl))
    | true =>
      refine Rt.f (by decide) ?_
      cases he : heC c i s w with
      | false => exact Rt.t rfl (hnext (by rw [hb, he]; rfl))
      | true =>
        refine Rt.f (by decide) (Rt.s ?_)
        have : sndC c s w = true := any_rg.mpr ⟨i, hi, by rw [hb, he]; rfl⟩
        rw [this]; rfl
  · intro rec a hJ
    dsimp only [b_X9_soundOf_2, bnd]
    rw [hM.1]
    refine Rt.t (nI_le (Nat.le_refl _) (by omega)) (Rt.s ?_)
    have : sndC c s w = false := any_rgF.mpr hJ
    rw [this]; rfl
end M
section X
variable {c : CV} {σ : PH} {h : Nat}
theorem f0_all (ok : CVok c) (hX : XC c σ h) : f_X0_all σ h = nI (2 ^ cN c - 1) := by
  unfold f_X0_all
  rw [hX.1]
  exact nI_all _ (by have := ok.1; omega)
theorem f0_isSet (ok : CVok c) (hX : XC c σ h) (p : Int32) : (f_X0_isSet σ h p = 0 ∧ ∀ s, 0 < s → s < 2 ^ cN c → p ≠ nI s) ∨ (f_X0_isSet σ h p = 1 ∧ ∃ s, 0 < s ∧ s < 2 ^ cN c ∧ p = nI s) := by
  have h8 := p2_9 ok.1
  have h1 := p2_1 (cN c)
  unfold f_X0_isSet
  dsimp only [bnd]
  rw [f0_all ok hX]
  rcases i_pos_range p (2 ^ cN c - 1) (by omega) with h | h | ⟨k, h0, hk, rfl⟩
  · refine Or.inl ⟨if_pos h, fun s h0 hs e => ?_⟩
    subst e
    rw [i_0, nI_leI (by omega) (by omega)] at h
    omega
  · refine Or.inl ⟨?_, fun s h0 hs e => ?_⟩
    · by_cases h2 : p ≤ 0
      · rw [if_pos h2]
      · rw [if_neg h2, if_pos h]
    · subst e
      rw [nI_ltI (by omega) (by omega)] at h
      omega
  · refine Or.inr ⟨?_, k, h0, by omega, rfl⟩
    rw [if_neg (by rw [i_0, nI_leI (by omega) (by omega)]; omega), if_neg (by rw [nI_ltI (by omega) (by omega)]; omega)]
theorem f0_has (ok : CVok c) (hX : XC c σ h) (p : Int32) : (f_X0_has σ h p = 0 ∧ ∀ x, x < cN c → p ≠ nI x) ∨ (f_X0_has σ h p = 1 ∧ ∃ x, x < cN c ∧ p = nI x) := by
  have h8 := ok.1
  unfold f_X0_has
  rw [hX.1]
  rcases i_range p (cN c) (by omega) with h | h | ⟨k, hk, rfl⟩
  · refine Or.inl ⟨if_pos h, fun x hx e => ?_⟩
    subst e
    exact nI_nlt0 (by omega) h
  · refine Or.inl ⟨?_, fun x hx e => ?_⟩
    · by_cases h2 : p < 0
      · rw [if_pos h2]
      · rw [if_neg h2, if_pos h]
    · subst e
      rw [nI_leI (by omega) (by omega)] at h
      omega
  · refine Or.inr ⟨?_, k, hk, rfl⟩
    rw [if_neg (nI_nlt0 (by omega)), if_neg (by rw [nI_leI (by omega) (by omega)]; omega)]
theorem f0_has1 (ok : CVok c) (hX : XC c σ h) {x : Nat} (hx : x < cN c) : f_X0_has σ h (nI x) = 1 := by
  rcases f0_has ok hX (nI x) with ⟨-, q⟩ | ⟨q, -⟩
  · exact absurd rfl (q x hx)
  · exact q
/-- those of a mask who aren't in a world -/
def lkC (n m w : Nat) : Bool := (List.range n).any fun j => m.testBit j && !w.testBit j
theorem hu_lk {q s m : Nat} (hm : ∀ j, m.testBit j = decide (j < cN c ∧ cP c j + 1 = q)) (w : Nat) : huC c q s w = lkC (cN c) (s &&& m) w := by
  rw [Bool.eq_iff_iff]
  unfold huC lkC
  rw [any_rg, any_rg]
  constructor
  · rintro ⟨x, hx, e⟩
    rw [Bool.and_eq_true, decide_eq_true_eq, Bool.and_eq_true] at e
    refine ⟨x, hx, ?_⟩
    rw [Nat.testBit_and, hm, decide_eq_true ⟨hx, e.1⟩, e.2.1, e.2.2]; rfl
  · rintro ⟨x, hx, e⟩
    rw [Nat.testBit_and, hm, Bool.and_eq_true, Bool.and_eq_true, decide_eq_true_eq] at e
    refine ⟨x, hx, ?_⟩
    rw [decide_eq_true e.1.2.2, e.1.1, e.2]; rfl
theorem lk_or {n a b : Nat} (w : Nat) : lkC n (a ||| b) w = (lkC n a w || lkC n b w) := by
  rw [Bool.eq_iff_iff, Bool.or_eq_true]
  unfold lkC
  rw [any_rg, any_rg, any_rg]
  constructor
  · rintro ⟨x, hx, e⟩
    rw [Nat.testBit_or, Bool.and_eq_true, Bool.or_eq_true] at e
    rcases e.1 with e1 | e1
    · exact Or.inl ⟨x, hx, by rw [e1, e.2]; rfl⟩
    · exact Or.inr ⟨x, hx, by rw [e1, e.2]; rfl⟩
  · rintro (⟨x, hx, e⟩ | ⟨x, hx, e⟩)
    · rw [Bool.and_eq_true] at e
      exact ⟨x, hx, by rw [Nat.testBit_or, e.1, e.2]; rfl⟩
    · rw [Bool.and_eq_true] at e
      exact ⟨x, hx, by rw [Nat.testBit_or, e.1, e.2, Bool.or_true]; rfl⟩
theorem lk_0 {n : Nat} (w : Nat) : lkC n 0 w = false := by
  unfold lkC
  rw [any_rgF]
  intro x _
  rw [Nat.zero_testBit]; rfl
theorem f0_wrongWith (ok : CVok c) (hX : XC c σ h) {x s : Nat} (hx : x < cN c) (hs : s < 256) : Rt (f_X0_wrongWith σ h (nI x) (nI s)) (fun u => (u = -1 ∧ ∀ w, heC c x s w = false) ∨ ∃ m, m < 256 ∧ u = nI m ∧ ∀ w, heC c x s w = !lkC (cN c) m w) := by
  have h8 := ok.1
  obtain ⟨hk, ha, -, -, hpl⟩ := ok.2.1 x hx
  have hps := pc_le s
  have h2 := p2_9 h8
  obtain ⟨m1, hm1, g1, b1⟩ := hX.2.2 (cP c x) (by omega)
  obtain ⟨m2, hm2, g2, b2⟩ := hX.2.2 (cP c x + 2) (by omega)
  have e8 : inb (nI x) 8 = true := inb_nI (by omega) (by decide)
  have e10 : inb (nI (cP c x)) 10 = true := inb_nI (by omega) (by decide)
  have e10' : inb (nI (cP c x) + 2) 10 = true := inb_in (cP c x + 2) (by rw [i_2, nI_add]) (by omega) (by decide)
  have hx31 : x < 2 ^ 31 := by omega
  have hp31 : cP c x < 2 ^ 31 := by omega
  have hpc2 : (nI (cP c x) + 2).toNatClampNeg = cP c x + 2 := by rw [i_2, nI_add]; exact nI_clamp (by omega)
  have q0 : (nI (cK c x) = 0) ↔ cK c x = 0 := nI_eq (b := 0) (by omega) (by decide)
  have q1 : (nI (cK c x) = 1) ↔ cK c x = 1 := nI_eq (b := 1) (by omega) (by decide)
  have q2 : (nI (cK c x) = 2) ↔ cK c x = 2 := nI_eq (b := 2) (by omega) (by decide)
  have q3 : (nI (cK c x) = 3) ↔ cK c x = 3 := nI_eq (b := 3) (by omega) (by decide)
  have q4 : (nI (cK c x) = 4) ↔ cK c x = 4 := nI_eq (b := 4) (by omega) (by decide)
  have q5 : (nI (cK c x) = 5) ↔ cK c x = 5 := nI_eq (b := 5) (by omega) (by decide)
  have q6 : (nI (cK c x) = 6) ↔ cK c x = 6 := nI_eq (b := 6) (by omega) (by decide)
  have hle : (nI (cA_ c x) + 1 < nI (pc s)) ↔ cA_ c x + 1 < pc s := by rw [nI_1, nI_ltI (by omega) (by omega)]
  have hq0 : (nI (cP c x) = 0) ↔ cP c x = 0 := nI_eq (b := 0) (by omega) (by decide)
  have hq1 : (nI (cP c x) = nI (cN c) - 1) ↔ cP c x + 1 = cN c := by rw [i_1, pk_sub (by omega), nI_eq (by omega) (by omega)]; omega
  have hq2 : (nI s = nI (2 ^ cN c - 1)) ↔ s = 2 ^ cN c - 1 := nI_eq (by omega) (by omega)
  have hn0 : ¬ nI x < 0 := nI_nlt0 hx31
  have hlt : nI x < nI (cN c) := nI_lt hx (by omega)
  have all : (1 : Int32) <<< (nI (cN c) &&& 31) - 1 = nI (2 ^ cN c - 1) := nI_all _ (by omega)
  unfold f_X0_wrongWith j_X0_wrongWith_132 j_X0_wrongWith_137
  simp only [bnd, e8, e10, e10', chk_T, nI_clamp hx31, nI_clamp hp31, hpc2, hX.1, (hX.2.1 x hx).1, (hX.2.1 x hx).2.1, (hX.2.1 x hx).2.2.2, g1, g2, pc_J s hs, q0, q1, q2, q3, q4, q5, q6, hle, hq0, hq1, hq2, all]
  rw [if_neg hn0, if_pos hlt]
  have hhe : ∀ w, heC c x s w = if cK c x = 1 then !huC c (cP c x) s w
      else if cK c x = 2 then decide (cA_ c x + 1 < pc s)
      else if cK c x = 3 then !huC c (cP c x) s w && !huC c (cP c x + 2) s w
      else if cK c x = 4 then false
      else if cK c x = 5 then decide (cA_ c x + 1 < pc s) && (decide (0 < cP c x) && decide (cP c x + 1 < cN c))
      else if cK c x = 6 then decide (s = 2 ^ cN c - 1)
      else true := fun w => rfl
  have T : (∀ w, heC c x s w = true) → Rt (some (0 : Int32)) (fun u => (u = -1 ∧ ∀ w, heC c x s w = false) ∨ ∃ m, m < 256 ∧ u = nI m ∧ ∀ w, heC c x s w = !lkC (cN c) m w) := fun hT => Rt.s (Or.inr ⟨0, by decide, rfl, fun w => by rw [hT w, lk_0]; rfl⟩)
  have F : (∀ w, heC c x s w = false) → Rt (some (-1 : Int32)) (fun u => (u = -1 ∧ ∀ w, heC c x s w = false) ∨ ∃ m, m < 256 ∧ u = nI m ∧ ∀ w, heC c x s w = !lkC (cN c) m w) := fun hT => Rt.s (Or.inl ⟨rfl, hT⟩)
  by_cases e0 : cK c x = 0
  · rw [if_pos e0]
    exact T (fun w => by rw [hhe, e0]; rfl)
  rw [if_neg e0]
  by_cases e1 : cK c x = 1
  · rw [if_pos e1]
    refine Rt.s (Or.inr ⟨s &&& m1, Nat.lt_of_le_of_lt Nat.and_le_left (by omega), by rw [nI_and], fun w => ?_⟩)
    rw [hhe, if_pos e1, hu_lk b1]
  rw [if_neg e1]
  by_cases e2 : cK c x = 2
  · rw [if_pos e2]
    by_cases hc : cA_ c x + 1 < pc s
    · rw [if_pos hc]
      exact T (fun w => by rw [hhe, if_neg e1, if_pos e2, decide_eq_true hc])
    · rw [if_neg hc]
      exact F (fun w => by rw [hhe, if_neg e1, if_pos e2, decide_eq_false hc])
  rw [if_neg e2]
  by_cases e3 : cK c x = 3
  · rw [if_pos e3]
    refine Rt.s (Or.inr ⟨s &&& (m1 ||| m2), Nat.lt_of_le_of_lt Nat.and_le_left (by omega), by rw [nI_or, nI_and], fun w => ?_⟩)
    rw [hhe, if_neg e1, if_neg e2, if_pos e3, hu_lk b1, hu_lk b2, Nat.and_or_distrib_left, lk_or, Bool.not_or]
  rw [if_neg e3]
  by_cases e4 : cK c x = 4
  · rw [if_pos e4]
    exact F (fun w => by rw [hhe, if_neg e1, if_neg e2, if_neg e3, if_pos e4])
  rw [if_neg e4]
  by_cases e5 : cK c x = 5
  · have he5 : ∀ w, heC c x s w = (decide (cA_ c x + 1 < pc s) && (decide (0 < cP c x) && decide (cP c x + 1 < cN c))) := fun w => by rw [hhe, if_neg e1, if_neg e2, if_neg e3, if_neg e4, if_pos e5]
    rw [if_pos e5]
    by_cases h0 : cP c x = 0
    · rw [if_pos h0]
      try rw [if_neg (by decide : ¬ (1 : Int32) = 0)]
      exact F (fun w => by rw [he5, decide_eq_false (p := 0 < cP c x) (by omega)]; simp)
    rw [if_neg h0]
    by_cases h1 : cP c x + 1 = cN c
    · rw [if_pos h1]
      try rw [if_neg (by decide : ¬ (1 : Int32) = 0)]
      exact F (fun w => by rw [he5, decide_eq_false (p := cP c x + 1 < cN c) (by omega)]; simp)
    rw [if_neg h1]
    try rw [if_pos (rfl : (0 : Int32) = 0)]
    by_cases hc : cA_ c x + 1 < pc s
    · rw [if_pos hc]
      exact T (fun w => by rw [he5, decide_eq_true hc, decide_eq_true (p := 0 < cP c x) (by omega), decide_eq_true (p := cP c x + 1 < cN c) (by omega)]; rfl)
    · rw [if_neg hc]
      exact F (fun w => by rw [he5, decide_eq_false hc]; rfl)
  rw [if_neg e5]
  have e6 : cK c x = 6 := by omega
  rw [if_pos e6]
  have he6 : ∀ w, heC c x s w = decide (s = 2 ^ cN c - 1) := fun w => by rw [hhe, if_neg e1, if_neg e2, if_neg e3, if_neg e4, if_neg e5, if_pos e6]
  by_cases hc : s = 2 ^ cN c - 1
  · rw [if_pos hc]
    exact T (fun w => by rw [he6, decide_eq_true hc])
  · rw [if_neg hc]
    exact F (fun w => by rw [he6, decide_eq_false hc])
end X
