def σ0L : List (Nat → Int32) := [fun k => ([0, 0, 0, 0, 0, 0, 0, 0, 0, 0, (-1)] : List Int32).getD k 0,
  fun _ => 0,
  fun _ => 0,
  fun k => ([0, 0, 0, 0, 0] : List Int32).getD k 0,
  fun _ => 0,
  fun k => ([0, 0, 0, (-1)] : List Int32).getD k 0,
  fun _ => 0,
  fun k => ([0, 0, 0, 0, 0, 0, 0, 0] : List Int32).getD k 0,
  fun _ => 0,
  fun _ => 0,
  fun _ => 0,
  fun k => ([0, 0, 0, 0, 0, 0] : List Int32).getD k 0,
  fun _ => 0,
  fun _ => 0,
  fun k => ([(-1), 0, 0] : List Int32).getD k 0,
  fun _ => 0,
  fun k => ([(-1), 0, 0] : List Int32).getD k 0,
  fun _ => 0,
  fun k => ([(-1), 0, 0] : List Int32).getD k 0,
  fun _ => 0,
  fun k => ([(-1), 0, 0] : List Int32).getD k 0,
  fun _ => 0,
  fun k => ([(-1), 0, 0] : List Int32).getD k 0,
  fun _ => 0,
  fun k => ([(-1), 0, 0] : List Int32).getD k 0,
  fun _ => 0,
  fun k => ([(-1), 0, 0] : List Int32).getD k 0,
  fun _ => 0,
  fun k => ([(-1), 0, 0] : List Int32).getD k 0,
  fun _ => 0,
  fun k => ([0, 0, 0, 0, 0, 1, 0, 0, 0] : List Int32).getD k 0,
  fun k => ([0, 0, 0, 0, 0, 0] : List Int32).getD k 0,
  fun _ => 0,
  fun _ => 0,
  fun _ => 0,
  fun _ => 0,
  fun _ => 0,
  fun k => ([0, 0, 0, 0, 0, 0, 0, 0, 0] : List Int32).getD k 0,
  fun _ => 0,
  fun _ => 0,
  fun _ => 0,
  fun _ => 0,
  fun _ => 0,
  fun _ => 0,
  fun _ => 0,
  upd (upd (upd (upd (fun _ => 0) 0 1) 1 1) 2 0) 3 0,
  fun _ => 0,
  fun k => ([0, 0, 0, 0, 0, 1, 0, 0, 0] : List Int32).getD k 0,
  fun k => ([0, 0, 0, 0, 0, 0] : List Int32).getD k 0,
  fun _ => 0,
  fun _ => 0,
  fun _ => 0,
  fun _ => 0,
  fun _ => 0,
  fun k => ([0, 0, 0, 0, 0, 0, 0, 0, 0] : List Int32).getD k 0,
  fun _ => 0,
  fun _ => 0,
  fun _ => 0,
  fun _ => 0,
  fun _ => 0,
  fun _ => 0,
  fun _ => 0,
  upd (upd (upd (upd (fun _ => 0) 0 1) 1 1) 2 0) 3 0,
  fun _ => 0,
  fun k => ([0, 0, 0, 0, 0, 1, 0, 0, 0] : List Int32).getD k 0,
  fun k => ([0, 0, 0, 0, 0, 0] : List Int32).getD k 0,
  fun _ => 0,
  fun _ => 0,
  fun _ => 0,
  fun _ => 0,
  fun _ => 0,
  fun k => ([0, 0, 0, 0, 0, 0, 0, 0, 0] : List Int32).getD k 0,
  fun _ => 0,
  fun _ => 0,
  fun _ => 0,
  fun _ => 0,
  fun _ => 0,
  fun _ => 0,
  fun _ => 0,
  upd (upd (upd (upd (fun _ => 0) 0 1) 1 1) 2 0) 3 0,
  fun _ => 0,
  fun k => ([0, 1, 1, 0, 0, 0, 0, 1, (-1), 0, 0, 0, 0, 0, 0, 0, 0, 0, 0, 0, 0, 0, 0, 0, 0, 0, 0, 0, 0, 0, 0, 0, 0, 0, 0, 0, 0, 0, 0, 0, 0, 0, 0, 0, 0] : List Int32).getD k 0,
  fun _ => 0,
  fun _ => 0,
  fun _ => 0,
  fun _ => 0,
  fun _ => 0,
  fun _ => 0,
  fun _ => 0,
  fun _ => 0,
  fun _ => 0,
  fun _ => 0,
  fun _ => 0,
  fun _ => 0,
  fun _ => 0,
  upd (upd (upd (upd (upd (upd (upd (upd (upd (upd (upd (upd (upd (upd (upd (upd (upd (upd (upd (upd (upd (upd (upd (upd (upd (upd (upd (upd (upd (upd (upd (upd (upd (upd (upd (upd (upd (upd (upd (upd (upd (upd (upd (upd (upd (fun _ => 0) 0 115) 1 105) 2 110) 3 103) 4 101) 5 114) 6 32) 7 0) 8 109) 9 111) 10 115) 11 116) 12 32) 13 0) 14 108) 15 101) 16 97) 17 115) 18 116) 19 32) 20 0) 21 110) 22 101) 23 97) 24 114) 25 32) 26 0) 27 101) 28 97) 29 114) 30 32) 31 0) 32 104) 33 101) 34 97) 35 114) 36 100) 37 32) 38 0) 39 115) 40 119) 41 97) 42 112) 43 32) 44 0,
  upd (upd (upd (upd (upd (upd (upd (fun _ => 0) 0 3) 1 1) 2 1) 3 1) 4 1) 5 2) 6 2,
  fun _ => 0,
  fun _ => 0,
  fun _ => 0,
  fun _ => 0,
  fun _ => 0,
  fun _ => 0,
  fun _ => 0,
  fun _ => 0,
  fun _ => 0]
def σ0 : PH := (fun r => σ0L.getD r (fun _ => 0), fun _ _ => 0)
def d0 : PD := (30, 47, none)
/-! how all stands at first -/
theorem z_J (r k : Nat) : gJ σ0 r k = 0 := rfl
theorem zMC : MC (0, fun _ => 0, fun _ => 0, fun _ => 0, fun _ => 0) σ0 := ⟨by decide, fun i hi => absurd hi (Nat.not_lt_zero i)⟩
theorem WL0_nil (m : Nat) (h : m < 4) : WL 0 m = [] := List.eq_nil_of_length_eq_zero (WL_0 m h)
def r00 : Nat → Nat := fun k => ([1, 1, 0, 0] : List Nat).getD k 0
def c00 : CV := (0, fun _ => 0, fun _ => 0, fun _ => 0, fun _ => 0)
theorem inv0 : Inv σ0 d0 := by
  have W0 : WL (cN c00) (r00 0) = [] := WL0_nil _ (by decide)
  have hX : XC c00 σ0 30 := by
    refine ⟨by decide, fun i hi => absurd hi (Nat.not_lt_zero i), fun p hp => ⟨0, by decide, ?_, fun j => ?_⟩⟩
    · have : ∀ p, p < 10 → gI σ0 (30 + 6) p = nI 0 := by decide
      exact this p hp
    · rw [Nat.zero_testBit]
      exact (decide_eq_false (fun z => absurd z.1 (Nat.not_lt_zero j))).symm
  have hXL : XL c00 [] σ0 30 := ⟨by decide, fun t ht => absurd ht (Nat.not_lt_zero t), fun t ht => absurd ht (Nat.not_lt_zero t), fun x hx => absurd hx (Nat.not_lt_zero x)⟩
  have hXK : XK c00 [] σ0 30 := ⟨rfl, rfl, fun s s0 s1 => absurd s1 (by show ¬ s < 2 ^ 0; omega)⟩
  have ok : CVok c00 := ⟨by decide, fun i hi => absurd hi (Nat.not_lt_zero i), fun i j hi => absurd hi (Nat.not_lt_zero i)⟩
  refine ⟨c00, r00, [], 0, 1, ⟨Or.inl ⟨rfl, rfl⟩, ?_, by decide, ⟨by decide, by decide⟩, ⟨by decide, by decide⟩, Or.inl ⟨by decide, by decide⟩⟩, HV.nil ok (by decide), ⟨?_, ⟨?_, ⟨by decide, fun k hk => absurd hk (Nat.not_lt_zero k)⟩, by decide⟩, ⟨0, by decide, Or.inl ⟨W0, rfl, rfl⟩⟩, ?_⟩, ⟨zMC, ?_, ⟨by decide, fun k hk => absurd hk (Nat.not_lt_zero k)⟩, by decide, by decide⟩, fun s hs => Or.inl ?_⟩
  · have : ∀ k, k < 8 → gI σ0 2 k = 0 ∧ gI σ0 82 k = 0 := by decide
    intro k k1 k7
    obtain ⟨a, b⟩ := this k (by omega)
    rw [a, b, if_neg (by omega)]; rfl
  · rw [W0]; exact ⟨hX, hXL, hXK, by decide⟩
  · exact (by decide : ∀ k, k < 4 → gI σ0 (30 + 15) k = nI (r00 k))
  · rw [W0]
    exact Rep.zero.cong (fun t _ => by unfold rp; rw [decide_eq_false (show ¬ t < ([] : List Nat).length from Nat.not_lt_zero t)]; rfl)
  · exact (by decide : ∀ k, k < 4 → gI σ0 81 (1 + k) = nI (r00 k))
  · have : ∀ s, s < 8 → gI σ0 89 s = 0 ∧ gI σ0 (14 + 2 * s) 0 = -1 := by decide
    exact this s hs
