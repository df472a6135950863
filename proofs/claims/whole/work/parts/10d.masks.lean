/-! two longs: the bits of the worlds -/
def Bt (lo hi : Int64) (t : Nat) : Bool := if t < 64 then lo.toBitVec.getLsbD t else hi.toBitVec.getLsbD (t - 64)
def Rep (lo hi : Int64) (f : Nat → Bool) : Prop := ∀ t, t < 128 → Bt lo hi t = f t
theorem Bt_and (a b x y : Int64) (t : Nat) : Bt (a &&& x) (b &&& y) t = (Bt a b t && Bt x y t) := by
  unfold Bt
  by_cases h : t < 64
  · rw [if_pos h, if_pos h, if_pos h, Int64.toBitVec_and, BitVec.getLsbD_and]
  · rw [if_neg h, if_neg h, if_neg h, Int64.toBitVec_and, BitVec.getLsbD_and]
theorem Bt_or (a b x y : Int64) (t : Nat) : Bt (a ||| x) (b ||| y) t = (Bt a b t || Bt x y t) := by
  unfold Bt
  by_cases h : t < 64
  · rw [if_pos h, if_pos h, if_pos h, Int64.toBitVec_or, BitVec.getLsbD_or]
  · rw [if_neg h, if_neg h, if_neg h, Int64.toBitVec_or, BitVec.getLsbD_or]
theorem m1_bits : ∀ t, t < 64 → (-1 : Int64).toBitVec.getLsbD t = true := by decide +kernel
theorem Bt_not (a b : Int64) {t : Nat} (ht : t < 128) : Bt (a ^^^ (-1)) (b ^^^ (-1)) t = !Bt a b t := by
  unfold Bt
  by_cases h : t < 64
  · rw [if_pos h, if_pos h, Int64.toBitVec_xor, BitVec.getLsbD_xor, m1_bits t h, Bool.xor_true]
  · rw [if_neg h, if_neg h, Int64.toBitVec_xor, BitVec.getLsbD_xor, m1_bits _ (by omega), Bool.xor_true]
theorem Bt_0 (t : Nat) : Bt 0 0 t = false := by
  unfold Bt
  have h : ∀ k, (0 : Int64).toBitVec.getLsbD k = false := fun k => BitVec.getLsbD_zero
  rw [h, h]; split <;> rfl
theorem Rep.and {a b x y : Int64} {f g : Nat → Bool} (h : Rep a b f) (h2 : Rep x y g) : Rep (a &&& x) (b &&& y) (fun t => f t && g t) := fun t ht => by rw [Bt_and, h t ht, h2 t ht]
theorem Rep.or {a b x y : Int64} {f g : Nat → Bool} (h : Rep a b f) (h2 : Rep x y g) : Rep (a ||| x) (b ||| y) (fun t => f t || g t) := fun t ht => by rw [Bt_or, h t ht, h2 t ht]
theorem Rep.not {a b : Int64} {f : Nat → Bool} (h : Rep a b f) : Rep (a ^^^ (-1)) (b ^^^ (-1)) (fun t => !f t) := fun t ht => by rw [Bt_not a b ht, h t ht]
theorem Rep.zero : Rep 0 0 (fun _ => false) := fun t _ => Bt_0 t
theorem Rep.cong {a b : Int64} {f g : Nat → Bool} (h : Rep a b f) (e : ∀ t, t < 128 → f t = g t) : Rep a b g := fun t ht => by rw [h t ht, e t ht]
theorem Rep.is0 {a b : Int64} {f : Nat → Bool} (h : Rep a b f) : (a = 0 ∧ b = 0) ↔ ∀ t, t < 128 → f t = false := by
  constructor
  · rintro ⟨rfl, rfl⟩ t ht
    rw [← h t ht, Bt_0]
  · intro hf
    constructor
    · apply Int64.toBitVec_inj.mp
      apply BitVec.eq_of_getLsbD_eq
      intro i hi
      have := h i (by omega)
      rw [hf i (by omega)] at this
      unfold Bt at this
      rw [if_pos hi] at this
      rw [this]
      exact (BitVec.getLsbD_zero).symm
    · apply Int64.toBitVec_inj.mp
      apply BitVec.eq_of_getLsbD_eq
      intro i hi
      have := h (64 + i) (by omega)
      rw [hf (64 + i) (by omega)] at this
      unfold Bt at this
      rw [if_neg (by omega), Nat.add_sub_cancel_left] at this
      rw [this]
      exact (BitVec.getLsbD_zero).symm
theorem c63 : ∀ k, k < 64 → ((nI k).toInt64 &&& 63).toBitVec.smod 64 = BitVec.ofNat 64 k := by decide +kernel
theorem shl1_bits {k : Nat} (hk : k < 64) : ((1 : Int64) <<< ((nI k).toInt64 &&& 63)).toBitVec = BitVec.twoPow 64 k := by
  rw [Int64.toBitVec_shiftLeft, c63 k hk]
  show (1#64) <<< (BitVec.ofNat 64 k) = _
  rw [BitVec.shiftLeft_eq', BitVec.toNat_ofNat, Nat.mod_eq_of_lt (by omega)]
  exact BitVec.twoPow_eq 64 k ▸ rfl
theorem Bt_bit {k : Nat} (hk : k < 128) : Rep (f_X7_lowBit (nI k)) (f_X7_highBit (nI k)) (fun t => decide (t = k)) := by
  intro t ht
  show Bt (f_X7_lowBit (nI k)) (f_X7_highBit (nI k)) t = decide (t = k)
  have z : ∀ j, (0 : Int64).toBitVec.getLsbD j = false := fun j => BitVec.getLsbD_zero
  unfold f_X7_lowBit f_X7_highBit Bt
  rw [if_neg (nI_nlt0 (by omega))]
  by_cases h : k < 64
  · rw [if_neg (show ¬ (64 : Int32) ≤ nI k by rw [i_64, nI_leI (by omega) (by omega)]; omega), if_pos (show nI k < 64 by rw [i_64]; exact nI_lt h (by decide)), shl1_bits h, z, BitVec.getLsbD_twoPow]
    by_cases h2 : t < 64
    · rw [if_pos h2]
      by_cases e : t = k
      · subst e; rw [decide_eq_true h2]; simp
      · rw [decide_eq_false e, decide_eq_false (show ¬ k = t from fun z => e z.symm), Bool.and_false]
    · rw [if_neg h2, decide_eq_false (by omega)]
  · rw [if_pos (show (64 : Int32) ≤ nI k by rw [i_64]; exact nI_le (by omega) (by omega)), if_neg (show ¬ nI k < 64 by rw [i_64, nI_ltI (by omega) (by omega)]; omega), if_neg (show ¬ (128 : Int32) ≤ nI k by rw [i_128, nI_leI (by omega) (by omega)]; omega), i_64, pk_sub (by omega), shl1_bits (by omega), z, BitVec.getLsbD_twoPow]
    by_cases h2 : t < 64
    · rw [if_pos h2, decide_eq_false (by omega)]
    · rw [if_neg h2]
      by_cases e : t = k
      · subst e; rw [decide_eq_true (show t - 64 < 64 by omega), decide_eq_true rfl, decide_eq_true rfl]; rfl
      · rw [decide_eq_false e, decide_eq_false (show ¬ k - 64 = t - 64 by omega), Bool.and_false]
theorem lg_cmp_0 (x : Int64) : lg_cmp x 0 = 0 ↔ x = 0 := by
  unfold lg_cmp
  by_cases h : x > 0
  · rw [if_pos h]
    constructor
    · intro e; exact absurd e (by decide)
    · rintro rfl; exact absurd h (by decide)
  · rw [if_neg h]
    by_cases h2 : x = 0
    · rw [if_pos h2]; exact ⟨fun _ => h2, fun _ => rfl⟩
    · rw [if_neg h2]
      constructor
      · intro e; exact absurd e (by decide)
      · intro e; exact absurd e h2
theorem f7_isIn {k : Nat} (hk : k < 128) (lo hi : Int64) : f_X7_isIn (nI k) lo hi = oI (Bt lo hi k) := by
  have R := Bt_bit hk
  have R1 : Rep (lo &&& f_X7_lowBit (nI k)) (hi &&& f_X7_highBit (nI k)) (fun t => Bt lo hi t && decide (t = k)) := fun t ht => by rw [Bt_and, R t ht]
  have Z := R1.is0
  unfold f_X7_isIn
  dsimp only [bnd]
  have key : (lo &&& f_X7_lowBit (nI k) = 0 ∧ hi &&& f_X7_highBit (nI k) = 0) ↔ Bt lo hi k = false := by
    rw [Z]
    constructor
    · intro h
      have := h k hk
      rwa [decide_eq_true rfl, Bool.and_true] at this
    · intro h t _
      by_cases e : t = k
      · subst e; rw [h]; rfl
      · rw [decide_eq_false e, Bool.and_false]
  by_cases h1 : lo &&& f_X7_lowBit (nI k) = 0
  · rw [if_pos ((lg_cmp_0 _).mpr h1)]
    by_cases h2 : hi &&& f_X7_highBit (nI k) = 0
    · rw [if_pos ((lg_cmp_0 _).mpr h2), key.mp ⟨h1, h2⟩]; rfl
    · rw [if_neg (fun z => h2 ((lg_cmp_0 _).mp z))]
      cases hb : Bt lo hi k with
      | true => rfl
      | false => exact absurd (key.mpr hb).2 h2
  · rw [if_neg (fun z => h1 ((lg_cmp_0 _).mp z))]
    cases hb : Bt lo hi k with
    | true => rfl
    | false => exact absurd (key.mpr hb).1 h1
theorem p63 : ∀ k, k < 64 → ((1 : Int64) <<< ((nI k).toInt64 &&& 63) - 1).toBitVec = BitVec.ofNat 64 (2 ^ k - 1) := by decide +kernel
theorem ones_bits {k t : Nat} (hk : k < 64) (ht : t < 64) : (BitVec.ofNat 64 (2 ^ k - 1)).getLsbD t = decide (t < k) := by
  rw [BitVec.getLsbD_ofNat, decide_eq_true ht, Bool.true_and, Nat.testBit_two_pow_sub_one]
theorem f7_all {σ : PH} {h L : Nat} (hL : gI σ (h + 7) 3 = nI L) (hb : L < 128) : Rep (f_X7_allLow σ h) (f_X7_allHigh σ h) (fun t => decide (t < L)) := by
  intro t ht
  show Bt (f_X7_allLow σ h) (f_X7_allHigh σ h) t = decide (t < L)
  unfold f_X7_allLow f_X7_allHigh Bt
  rw [hL]
  have z : ∀ j, (0 : Int64).toBitVec.getLsbD j = false := fun j => BitVec.getLsbD_zero
  by_cases h : L < 64
  · rw [if_pos (show nI L < 64 by rw [i_64]; exact nI_lt h (by decide)), if_pos (show nI L ≤ 64 by rw [i_64]; exact nI_le (by omega) (by decide)), p63 L h, z]
    by_cases h2 : t < 64
    · rw [if_pos h2, ones_bits h h2]
    · rw [if_neg h2, decide_eq_false (by omega)]
  · rw [if_neg (show ¬ nI L < 64 by rw [i_64, nI_ltI (by omega) (by omega)]; omega)]
    by_cases h2 : t < 64
    · rw [if_pos h2, m1_bits t h2, decide_eq_true (by omega)]
    · rw [if_neg h2]
      by_cases h3 : L = 64
      · subst h3
        rw [if_pos (show nI 64 ≤ 64 by rw [i_64]; exact nI_le (Nat.le_refl _) (by decide)), z, decide_eq_false (by omega)]
      · rw [if_neg (show ¬ nI L ≤ 64 by rw [i_64, nI_leI (by omega) (by omega)]; omega), i_64, pk_sub (by omega), p63 _ (by omega), ones_bits (by omega) (by omega)]
        by_cases h4 : t < L
        · rw [decide_eq_true h4, decide_eq_true (by omega)]
        · rw [decide_eq_false h4, decide_eq_false (by omega)]
/-! Long.bitCount -/
def ctB (x : BitVec 64) : Nat := (List.range 64).countP x.getLsbD
theorem and_byte (A B a b : Nat) (ha : a < 256) (hb : b < 256) : (256 * A + a) &&& (256 * B + b) = 256 * (A &&& B) + (a &&& b) := by
  have e1 : (256 * A + a) / 2 ^ 8 = A := by omega
  have e2 : (256 * B + b) / 2 ^ 8 = B := by omega
  have e3 : (256 * A + a) % 2 ^ 8 = a := by omega
  have e4 : (256 * B + b) % 2 ^ 8 = b := by omega
  have h := Nat.div_add_mod ((256 * A + a) &&& (256 * B + b)) (2 ^ 8)
  rw [Nat.and_div_two_pow, Nat.and_mod_two_pow, e1, e2, e3, e4] at h
  omega
def mkB (b : Nat) : Nat → Nat
  | 0 => 0
  | k + 1 => 256 * mkB b k + b
/-- the byte's own count, in three steps -/
def by1 (r : Nat) : Nat := r - (r / 2 &&& 85)
def by2 (r : Nat) : Nat := (r &&& 51) + (r / 4 &&& 51)
theorem by_f : ∀ r, r < 256 → ∀ b, b < 5 → (16 * b + by2 (by1 r) / 16 + by2 (by1 r)) < 256 ∧ ((16 * b + by2 (by1 r) / 16 + by2 (by1 r)) &&& 15) = pc r ∧ by2 (by1 r) % 16 < 5 ∧ (r / 2 &&& 85) ≤ r ∧ by1 r < 256 ∧ by2 (by1 r) < 256 := by decide +kernel
theorem by_sh1 : ∀ b, b < 2 → ∀ r, r < 256 → (128 * b + r / 2) &&& 85 = (r / 2 &&& 85) := by decide +kernel
theorem by_sh2 : ∀ b, b < 4 → ∀ r, r < 256 → (64 * b + r / 4) &&& 51 = (r / 4 &&& 51) := by decide +kernel
def st1 (m n : Nat) : Nat := n - (n / 2 &&& m)
def st2 (m n : Nat) : Nat := (n &&& m) + (n / 4 &&& m)
theorem st1_byte (q r k : Nat) (hr : r < 256) : ((256 * q + r) / 2 &&& mkB 85 (k + 1)) = 256 * (q / 2 &&& mkB 85 k) + (r / 2 &&& 85) := by
  show _ &&& (256 * mkB 85 k + 85) = _
  have e : (256 * q + r) / 2 = 256 * (q / 2) + (128 * (q % 2) + r / 2) := by omega
  rw [e, and_byte _ _ _ _ (by omega) (by decide), by_sh1 _ (by omega) r hr]
theorem st2_byte (q r k : Nat) (hr : r < 256) : ((256 * q + r) / 4 &&& mkB 51 (k + 1)) = 256 * (q / 4 &&& mkB 51 k) + (r / 4 &&& 51) := by
  show _ &&& (256 * mkB 51 k + 51) = _
  have e : (256 * q + r) / 4 = 256 * (q / 4) + (64 * (q % 4) + r / 4) := by omega
  rw [e, and_byte _ _ _ _ (by omega) (by decide), by_sh2 _ (by omega) r hr]
def s2 (k n : Nat) : Nat := st2 (mkB 51 k) (st1 (mkB 85 k) n)
theorem s2_byte (q r k : Nat) (hr : r < 256) : s2 (k + 1) (256 * q + r) = 256 * s2 k q + by2 (by1 r) := by
  obtain ⟨-, -, -, a1, a2, a3⟩ := by_f r hr 0 (by decide)
  have hle : (q / 2 &&& mkB 85 k) ≤ q := Nat.le_trans Nat.and_le_left (Nat.div_le_self q 2)
  have e1 : st1 (mkB 85 (k + 1)) (256 * q + r) = 256 * st1 (mkB 85 k) q + by1 r := by
    unfold st1 by1
    rw [st1_byte q r k hr]
    omega
  unfold s2
  rw [e1]
  unfold st2
  rw [st2_byte _ _ k a2]
  have : (256 * st1 (mkB 85 k) q + by1 r &&& mkB 51 (k + 1)) = 256 * (st1 (mkB 85 k) q &&& mkB 51 k) + (by1 r &&& 51) := by
    show _ &&& (256 * mkB 51 k + 51) = _
    rw [and_byte _ _ _ _ a2 (by decide)]
  rw [this]
  unfold by2
  omega
theorem s2_nib (k n : Nat) : s2 k n % 16 < 5 := by
  cases k with
  | zero => simp [s2, st2, mkB]
  | succ k =>
    have hr : n % 256 < 256 := Nat.mod_lt _ (by decide)
    have en : n = 256 * (n / 256) + n % 256 := by omega
    rw [en, s2_byte _ _ _ hr]
    obtain ⟨-, -, a, -, -, -⟩ := by_f (n % 256) hr 0 (by decide)
    omega
/-- the bytes' counts, side by side -/
def cby : Nat → Nat → Nat
  | 0, _ => 0
  | k + 1, n => 256 * cby k (n / 256) + pc (n % 256)
theorem cby1 (n : Nat) : cby 1 n = pc (n % 256) := by simp [cby]
def s3 (k n : Nat) : Nat := (s2 k n + s2 k n / 16) &&& mkB 15 k
theorem s3_ok : ∀ k n, s3 k n = cby k n := by
  intro k
  induction k with
  | zero => intro n; simp [s3, mkB, cby]
  | succ k ih =>
    intro n
    have hr : n % 256 < 256 := Nat.mod_lt _ (by decide)
    have en : n = 256 * (n / 256) + n % 256 := by omega
    show s3 (k + 1) n = 256 * cby k (n / 256) + pc (n % 256)
    rw [← ih]
    generalize hq : n / 256 = q at *
    generalize hz : n % 256 = r at *
    have hb := s2_nib k q
    obtain ⟨b1, b2, -, -, -, -⟩ := by_f r hr (s2 k q % 16) hb
    unfold s3
    rw [en, s2_byte _ _ _ hr]
    generalize s2 k q = y at *
    rw [← b2]
    generalize by2 (by1 r) = z at *
    have e3 : 256 * y + z + (256 * y + z) / 16 = 256 * (y + y / 16) + (16 * (y % 16) + z / 16 + z) := by omega
    rw [e3]
    show _ &&& (256 * mkB 15 k + 15) = _
    rw [and_byte _ _ _ _ (by omega) (by decide)]
theorem sum8a {v a1 a2 a3 d0 d1 d2 : Nat} (h0 : d0 ≤ 8) (h1 : d1 ≤ 8) (h2 : d2 ≤ 8) (e1 : v = 65536 * a2 + 256 * d1 + d0) (e2 : a1 = 65536 * a3 + 256 * d2 + d1) : (v + a1) / 65536 = a2 + a3 := by omega
theorem sum8b {v S x0 x1 x2 x3 : Nat} (h0 : x0 ≤ 32) (h1 : x1 ≤ 32) (h2 : x2 ≤ 32) (h3 : x3 ≤ 32) (e : v = 4294967296 * S + (16777216 * x3 + 65536 * x2 + 256 * x1 + x0)) : v / 4294967296 = S := by omega
theorem sum8c {v w p q x y : Nat} (h : x + y ≤ 64) (e1 : v = 256 * p + x) (e2 : w = 256 * q + y) : (v + w) % 128 = x + y := by omega
theorem sum8 (d0 d1 d2 d3 d4 d5 d6 d7 : Nat) (h0 : d0 ≤ 8) (h1 : d1 ≤ 8) (h2 : d2 ≤ 8) (h3 : d3 ≤ 8) (h4 : d4 ≤ 8) (h5 : d5 ≤ 8) (h6 : d6 ≤ 8) (h7 : d7 ≤ 8) (v a1 a2 a3 a4 a5 a6 : Nat) (e6 : a6 = 256 * d7 + d6) (e5 : a5 = 256 * a6 + d5) (e4 : a4 = 256 * a5 + d4) (e3 : a3 = 256 * a4 + d3) (e2 : a2 = 256 * a3 + d2) (e1 : a1 = 256 * a2 + d1) (hv : v = 256 * a1 + d0) : ((v + v / 256 + (v + v / 256) / 65536) + (v + v / 256 + (v + v / 256) / 65536) / 4294967296) % 128 = d0 + d1 + d2 + d3 + d4 + d5 + d6 + d7 := by
  have q1 : v / 256 = a1 := by omega
  rw [q1]
  have q2 : (v + a1) / 65536 = a2 + a3 := sum8a h0 h1 h2 (by omega) (by omega)
  rw [q2]
  have q3 : (v + a1 + (a2 + a3)) / 4294967296 = a4 + a5 + a6 + d7 := sum8b (x0 := d0 + d1 + d2 + d3) (x1 := d1 + d2 + d3 + d4) (x2 := d2 + d3 + d4 + d5) (x3 := d3 + d4 + d5 + d6) (by omega) (by omega) (by omega) (by omega) (by omega)
  rw [q3]
  rw [sum8c (x := d0 + d1 + d2 + d3) (y := d4 + d5 + d6 + d7) (p := a1 + a2 + a3 + a4) (q := a5 + a6 + d7) (by omega) (by omega) (by omega)]
  omega
def ct8 (n : Nat) : Nat := pc (n % 256) + pc (n / 256 % 256) + pc (n / 256 / 256 % 256) + pc (n / 256 / 256 / 256 % 256) + pc (n / 256 / 256 / 256 / 256 % 256) + pc (n / 256 / 256 / 256 / 256 / 256 % 256) + pc (n / 256 / 256 / 256 / 256 / 256 / 256 % 256) + pc (n / 256 / 256 / 256 / 256 / 256 / 256 / 256 % 256)
theorem lN_and (a b : Nat) : lN a &&& lN b = lN (a &&& b) := by
  apply Int64.toBitVec_inj.mp
  rw [Int64.toBitVec_and]
  show BitVec.ofNat 64 a &&& BitVec.ofNat 64 b = BitVec.ofNat 64 (a &&& b)
  rw [BitVec.ofNat_and]
theorem lN_ushr {n : Nat} (hn : n < 2 ^ 64) (s : Int32) (k : Nat) (hs : (s.toInt64.toUInt64 &&& Int64.toUInt64 63).toNat % 64 = k) : ((lN n).toUInt64 >>> (s.toInt64.toUInt64 &&& Int64.toUInt64 63)).toInt64 = lN (n / 2 ^ k) := by
  apply Int64.toBitVec_inj.mp
  apply BitVec.eq_of_toNat_eq
  show ((lN n).toUInt64 >>> (s.toInt64.toUInt64 &&& Int64.toUInt64 63)).toNat = (BitVec.ofNat 64 (n / 2 ^ k)).toNat
  rw [UInt64.toNat_shiftRight, hs, BitVec.toNat_ofNat, Nat.shiftRight_eq_div_pow]
  have e : (lN n).toUInt64.toNat = n := by
    show (BitVec.ofNat 64 n).toNat = n
    rw [BitVec.toNat_ofNat, Nat.mod_eq_of_lt hn]
  rw [e, Nat.mod_eq_of_lt (Nat.lt_of_le_of_lt (Nat.div_le_self _ _) hn)]
theorem mk85 : mkB 85 8 = 6148914691236517205 := by decide
theorem mk51 : mkB 51 8 = 3689348814741910323 := by decide
theorem mk15 : mkB 15 8 = 1085102592571150095 := by decide
theorem J13 {n : Nat} (hn : n < 2 ^ 64) : f_J13_bitCount_95d88 (lN n) = nI (ct8 n) := by
  unfold f_J13_bitCount_95d88
  dsimp only [bnd]
  have s1 := lN_ushr (n := n) hn 1 1 (by decide)
  rw [s1, show (6148914691236517205 : Int64) = lN (mkB 85 8) by rw [mk85]; rfl, show (3689348814741910323 : Int64) = lN (mkB 51 8) by rw [mk51]; rfl, show (1085102592571150095 : Int64) = lN (mkB 15 8) by rw [mk15]; rfl, lN_and, lN_sub (Nat.le_trans Nat.and_le_left (Nat.div_le_self _ _))]
  have e1 : n - (n / 2 ^ 1 &&& mkB 85 8) = st1 (mkB 85 8) n := rfl
  rw [e1]
  have h1 : st1 (mkB 85 8) n < 2 ^ 64 := Nat.lt_of_le_of_lt (Nat.sub_le _ _) hn
  rw [lN_ushr h1 2 2 (by decide), lN_and, lN_and, lN_add]
  have e2 : (st1 (mkB 85 8) n &&& mkB 51 8) + (st1 (mkB 85 8) n / 2 ^ 2 &&& mkB 51 8) = s2 8 n := rfl
  rw [e2]
  have hm : mkB 51 8 < 2 ^ 62 := by rw [mk51]; decide
  have h2 : s2 8 n < 2 ^ 63 := by
    unfold s2 st2
    have a1 : (st1 (mkB 85 8) n &&& mkB 51 8) ≤ mkB 51 8 := Nat.and_le_right
    have a2 : (st1 (mkB 85 8) n / 4 &&& mkB 51 8) ≤ mkB 51 8 := Nat.and_le_right
    omega
  rw [lN_ushr (by omega) 4 4 (by decide), lN_add, lN_and]
  have e3 : (s2 8 n + s2 8 n / 2 ^ 4) &&& mkB 15 8 = cby 8 n := s3_ok 8 n
  have e7 : cby 2 (n / 256 / 256 / 256 / 256 / 256 / 256) = 256 * pc (n / 256 / 256 / 256 / 256 / 256 / 256 / 256 % 256) + pc (n / 256 / 256 / 256 / 256 / 256 / 256 % 256) := by
    show 256 * cby 1 _ + _ = _
    rw [cby1]
  rw [e3]
  have h3 : cby 8 n < 2 ^ 60 := by
    have : cby 8 n ≤ mkB 15 8 := by rw [← s3_ok]; exact Nat.and_le_right
    rw [mk15] at this
    omega
  rw [lN_ushr (by omega) 8 8 (by decide), lN_add, lN_ushr (by omega) 16 16 (by decide), lN_add, lN_ushr (by omega) 32 32 (by decide), lN_add, lN_i, show (127 : Int32) = nI (2 ^ 7 - 1) from rfl, nI_mask _ 7 (by decide)]
  congr 1
  exact sum8 _ _ _ _ _ _ _ _ (pc_le _) (pc_le _) (pc_le _) (pc_le _) (pc_le _) (pc_le _) (pc_le _) (pc_le _) _ _ _ _ _ _ _ e7 rfl rfl rfl rfl rfl rfl
theorem cnt_split (f : Nat → Bool) (a b : Nat) : (List.range (a + b)).countP f = (List.range a).countP f + (List.range b).countP (fun k => f (a + k)) := by
  rw [List.range_add, List.countP_append, List.countP_map]; rfl
theorem ct8_ok (n : Nat) : (List.range 64).countP n.testBit = ct8 n := by
  have e : ∀ (m : Nat), (List.range 8).countP m.testBit = pc (m % 256) := by
    intro m
    unfold pc
    apply List.countP_congr
    intro k hk
    have hk8 := List.mem_range.mp hk
    rw [show m % 256 = m % 2 ^ 8 from rfl, Nat.testBit_mod_two_pow, decide_eq_true hk8, Bool.true_and]
  have g : ∀ (m b : Nat), (List.range (8 + b)).countP m.testBit = pc (m % 256) + (List.range b).countP (m / 256).testBit := by
    intro m b
    rw [cnt_split, e]
    congr 1
    apply List.countP_congr
    intro k _
    rw [Nat.add_comm 8 k, Nat.testBit_add]
  unfold ct8
  rw [show 64 = 8 + 56 from rfl, g, show 56 = 8 + 48 from rfl, g, show 48 = 8 + 40 from rfl, g, show 40 = 8 + 32 from rfl, g, show 32 = 8 + 24 from rfl, g, show 24 = 8 + 16 from rfl, g, show 16 = 8 + 8 from rfl, g, e]
  omega
theorem J13_bits (x : Int64) : f_J13_bitCount_95d88 x = nI ((List.range 64).countP x.toBitVec.getLsbD) := by
  have hx : x = lN x.toBitVec.toNat := Int64.toBitVec_inj.mp (by show _ = BitVec.ofNat 64 _; simp)
  have h := J13 x.toBitVec.isLt
  rw [← hx] at h
  rw [h, ← ct8_ok]
  congr 1
theorem f7_countIn {lo hi : Int64} {f : Nat → Bool} (h : Rep lo hi f) : f_X7_countIn lo hi = nI ((List.range 128).countP f) := by
  unfold f_X7_countIn
  dsimp only [bnd]
  rw [J13_bits, J13_bits, nI_add, show (128 : Nat) = 64 + 64 from rfl, cnt_split]
  congr 2
  · apply List.countP_congr
    intro k hk
    have hk2 := List.mem_range.mp hk
    rw [← h k (by omega)]
    unfold Bt
    rw [if_pos hk2]
  · apply List.countP_congr
    intro k hk
    have hk2 := List.mem_range.mp hk
    rw [← h (64 + k) (by omega)]
    unfold Bt
    rw [if_neg (by omega), Nat.add_sub_cancel_left]
/-- what is so of places of a list -/
theorem cnt_list (p : Nat → Bool) : ∀ (l : List Nat) (n : Nat), l.length ≤ n → (List.range n).countP (fun t => decide (t < l.length) && p (l.getD t 0)) = l.countP p := by
  intro l
  induction l with
  | nil =>
    intro n _
    rw [List.countP_nil, List.countP_eq_zero]
    intro t _
    simp
  | cons w l ih =>
    intro n hn
    cases n with
    | zero => exact absurd hn (by simp)
    | succ n =>
      rw [Nat.add_comm n 1, cnt_split, List.countP_cons]
      have e : (List.range n).countP (fun k => decide (1 + k < (w :: l).length) && p ((w :: l).getD (1 + k) 0)) = l.countP p := by
        rw [← ih n (by simp at hn; omega)]
        apply List.countP_congr
        intro k _
        rw [Nat.add_comm 1 k]
        simp
      rw [e]
      simp [List.range_succ, List.countP_cons, Nat.add_comm]
