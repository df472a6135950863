/-! pure rows: options that answer, loops, the pure heap -/
def Rt {α : Type} (x : Option α) (P : α → Prop) : Prop := ∃ u, x = some u ∧ P u
theorem Rt.s {α : Type} {u : α} {P : α → Prop} (h : P u) : Rt (some u) P := ⟨u, rfl, h⟩
theorem Rt.o {α β : Type} {x : Option α} {k : α → Option β} {Q : α → Prop} {P : β → Prop} (h : Rt x Q) (hk : ∀ u, Q u → Rt (k u) P) : Rt (obd x k) P := by
  obtain ⟨u, rfl, hu⟩ := h
  exact hk u hu
theorem Rt.e {α : Type} {x y : Option α} {P : α → Prop} (h : x = y) (hy : Rt y P) : Rt x P := h ▸ hy
theorem Rt.m {α : Type} {x : Option α} {P Q : α → Prop} (h : Rt x Q) (hk : ∀ u, Q u → P u) : Rt x P := by
  obtain ⟨u, hx, hu⟩ := h
  exact ⟨u, hx, hk u hu⟩
theorem Rt.q {α : Type} {x : Option α} {v : α} (h : Rt x (fun u => u = v)) : x = some v := by
  obtain ⟨u, rfl, rfl⟩ := h
  rfl
theorem Rt.of {α : Type} {x : Option α} {v : α} (h : x = some v) : Rt x (fun u => u = v) := ⟨v, h, rfl⟩
theorem Rt.c {α : Type} {c : Prop} [Decidable c] {t : Option α} {P : α → Prop} (h : c) (ht : Rt t P) : Rt (chk c t) P := by
  unfold chk
  rw [if_pos h]
  exact ht
theorem Rt.i {α : Type} {c : Prop} [Decidable c] {x y : Option α} {P : α → Prop} (h1 : c → Rt x P) (h2 : ¬ c → Rt y P) : Rt (if c then x else y) P := by
  by_cases h : c
  · rw [if_pos h]; exact h1 h
  · rw [if_neg h]; exact h2 h
theorem Rt.t {α : Type} {c : Prop} [Decidable c] {x y : Option α} {P : α → Prop} (h : c) (hx : Rt x P) : Rt (if c then x else y) P := by
  rw [if_pos h]; exact hx
theorem Rt.f {α : Type} {c : Prop} [Decidable c] {x y : Option α} {P : α → Prop} (h : ¬ c) (hy : Rt y P) : Rt (if c then x else y) P := by
  rw [if_neg h]; exact hy
theorem obd_s {α β : Type} (u : α) (k : α → Option β) : obd (some u) k = k u := rfl
theorem bnd_d {α β : Type} (u : α) (k : α → β) : bnd u k = k u := rfl
theorem chk_t {α : Type} {c : Prop} [Decidable c] {t : Option α} (h : c) : chk c t = t := if_pos h
theorem chk_T {α : Type} {i : Decidable True} {t : Option α} : @chk α True i t = t := if_pos trivial
theorem inb_nI {k N : Nat} (h : k < N) (hN : N < 2 ^ 31) : inb (nI k) N = true := by
  unfold inb
  exact decide_eq_true (nI_in h hN)
theorem inb_in {x : Int32} {N : Nat} (k : Nat) (hx : x = nI k) (h : k < N) (hN : N < 2 ^ 31) : inb x N = true := by
  subst hx; exact inb_nI h hN
/-- a loop with an invariant and a measure -/
theorem lp_rule {S α : Type} {b : (S → Option α) → S → Option α} (I : Nat → S → Prop) (P : α → Prop) (h : ∀ (m : Nat) (rec : S → Option α) (s : S), I m s → (∀ m' s', m' < m → I m' s' → Rt (rec s') P) → Rt (b rec s) P) : ∀ (fuel m : Nat) (s : S), m < fuel → I m s → Rt (loopN b fuel s) P := by
  intro fuel
  induction fuel with
  | zero => intro m s h0; exact absurd h0 (Nat.not_lt_zero m)
  | succ f ih =>
    intro m s hm hI
    exact h m _ s hI (fun m' s' hlt hI' => ih m' s' (by omega) hI')
/-- a counted loop -/
theorem lp_acc {S α A : Type} {b : (S → Option α) → S → Option α} (enc : A → Nat → S) (n : Nat) (J : A → Nat → Prop) (P : α → Prop) (hstep : ∀ (rec : S → Option α) (a : A) (i : Nat), i < n → J a i → (∀ a', J a' (i + 1) → Rt (rec (enc a' (i + 1))) P) → Rt (b rec (enc a i)) P) (hend : ∀ (rec : S → Option α) (a : A), J a n → Rt (b rec (enc a n)) P) : ∀ (fuel : Nat) (a : A) (i : Nat), i ≤ n → n - i < fuel → J a i → Rt (loopN b fuel (enc a i)) P := by
  intro fuel
  induction fuel with
  | zero => intro a i _ h; exact absurd h (Nat.not_lt_zero _)
  | succ f ih =>
    intro a i hi hf hJ
    rcases Nat.lt_or_ge i n with h | h
    · exact hstep _ a i h hJ (fun a' hJ' => ih a' (i + 1) h (by omega) hJ')
    · have e : i = n := by omega
      subst e
      exact hend _ a hJ
theorem FU_big {n : Nat} (h : n < 1000000) : n < FU := by unfold FU; omega
/-- steps, counted -/
def it {A : Type} (f : Nat → A → A) (a : A) : Nat → A
  | 0 => a
  | n + 1 => f n (it f a n)
theorem it_0 {A : Type} (f : Nat → A → A) (a : A) : it f a 0 = a := rfl
theorem it_s {A : Type} (f : Nat → A → A) (a : A) (n : Nat) : it f a (n + 1) = f n (it f a n) := rfl
theorem it_cong {A : Type} {f g : Nat → A → A} (a : A) : ∀ {n : Nat}, (∀ i x, i < n → f i x = g i x) → it f a n = it g a n
  | 0, _ => rfl
  | n + 1, h => by rw [it_s, it_s, it_cong (n := n) a (fun i x hi => h i x (by omega)), h n _ (by omega)]
/-- over a list, by its places -/
theorem it_list {A : Type} (g : Nat → A → A) (a : A) : ∀ (l : List Nat), it (fun i x => g (l.getD i 0) x) a l.length = l.foldl (fun x w => g w x) a := by
  intro l
  have key : ∀ (k : Nat), k ≤ l.length → it (fun i x => g (l.getD i 0) x) a k = (l.take k).foldl (fun x w => g w x) a := by
    intro k
    induction k with
    | zero => intro _; rfl
    | succ k ih =>
      intro hk
      have hk' : k < l.length := by omega
      rw [it_s, ih (by omega), List.take_succ, List.getElem?_eq_getElem hk', Option.toList_some, List.foldl_append]
      simp [List.getD, hk']
  rw [key l.length (Nat.le_refl _), List.take_length]
theorem it_filter {A : Type} (p : Nat → Bool) (g : Nat → A → A) (a : A) (l : List Nat) : it (fun i x => if p (l.getD i 0) then g (l.getD i 0) x else x) a l.length = (l.filter p).foldl (fun x w => g w x) a := by
  rw [it_list (fun w x => if p w then g w x else x)]
  induction l generalizing a with
  | nil => rfl
  | cons w l ih =>
    rw [List.foldl_cons, ih]
    cases h : p w
    · rw [List.filter_cons_of_neg (by rw [h]; decide)]; simp
    · rw [List.filter_cons_of_pos h, List.foldl_cons]; simp
/-! the pure heap -/
theorem gI_putI (σ : PH) (r k q j : Nat) (v : Int32) : gI (putI σ r k v) q j = if q = r ∧ j = k then v else gI σ q j := by
  unfold putI
  by_cases h : q = r
  · subst h
    rw [gI_arrI]
    by_cases h2 : j = k
    · subst h2; rw [if_pos ⟨rfl, rfl⟩]; simp [upd]
    · rw [if_neg (fun z => h2 z.2), upd_ne h2]
  · rw [gI_arrI_ne h, if_neg (fun z => h z.1)]
theorem gJ_putJ (σ : PH) (r k q j : Nat) (v : Int64) : gJ (putJ σ r k v) q j = if q = r ∧ j = k then v else gJ σ q j := by
  unfold putJ
  by_cases h : q = r
  · subst h
    rw [gJ_arrJ]
    by_cases h2 : j = k
    · subst h2; rw [if_pos ⟨rfl, rfl⟩]; simp [vp_updL]
    · rw [if_neg (fun z => h2 z.2), updL_ne h2]
  · rw [gJ_arrJ_ne h, if_neg (fun z => h z.1)]
theorem gJ_putI (σ : PH) (r k q j : Nat) (v : Int32) : gJ (putI σ r k v) q j = gJ σ q j := rfl
theorem gI_putJ (σ : PH) (r k q j : Nat) (v : Int64) : gI (putJ σ r k v) q j = gI σ q j := rfl
theorem gI_put_ne {σ : PH} {r k q j : Nat} {v : Int32} (h : q ≠ r ∨ j ≠ k) : gI (putI σ r k v) q j = gI σ q j := by
  rw [gI_putI, if_neg (fun z => by rcases h with h | h; exact h z.1; exact h z.2)]
theorem gI_put_eq {σ : PH} {r k : Nat} {v : Int32} : gI (putI σ r k v) r k = v := by rw [gI_putI, if_pos ⟨rfl, rfl⟩]
theorem gJ_put_ne {σ : PH} {r k q j : Nat} {v : Int64} (h : q ≠ r ∨ j ≠ k) : gJ (putJ σ r k v) q j = gJ σ q j := by
  rw [gJ_putJ, if_neg (fun z => by rcases h with h | h; exact h z.1; exact h z.2)]
theorem gJ_put_eq {σ : PH} {r k : Nat} {v : Int64} : gJ (putJ σ r k v) r k = v := by rw [gJ_putJ, if_pos ⟨rfl, rfl⟩]
/-- what lies elsewhere than at the places W is the same -/
def Fr (W : Nat → Nat → Prop) (σ σ' : PH) : Prop := ∀ r k, ¬ W r k → gI σ' r k = gI σ r k ∧ gJ σ' r k = gJ σ r k
theorem Fr.rf {W : Nat → Nat → Prop} {σ : PH} : Fr W σ σ := fun _ _ _ => ⟨rfl, rfl⟩
theorem Fr.tr {W : Nat → Nat → Prop} {σ σ1 σ2 : PH} (h1 : Fr W σ σ1) (h2 : Fr W σ1 σ2) : Fr W σ σ2 := fun r k h => ⟨(h2 r k h).1.trans (h1 r k h).1, (h2 r k h).2.trans (h1 r k h).2⟩
theorem Fr.mono {W V : Nat → Nat → Prop} {σ σ' : PH} (h : Fr W σ σ') (hW : ∀ r k, W r k → V r k) : Fr V σ σ' := fun r k hn => h r k (fun z => hn (hW r k z))
theorem Fr.pI {W : Nat → Nat → Prop} {σ : PH} {r k : Nat} {v : Int32} (h : W r k) : Fr W σ (putI σ r k v) := fun q j hn => ⟨gI_put_ne (by
  by_cases h1 : q = r
  · by_cases h2 : j = k
    · subst h1; subst h2; exact absurd h hn
    · exact Or.inr h2
  · exact Or.inl h1), rfl⟩
theorem Fr.pJ {W : Nat → Nat → Prop} {σ : PH} {r k : Nat} {v : Int64} (h : W r k) : Fr W σ (putJ σ r k v) := fun q j hn => ⟨rfl, gJ_put_ne (by
  by_cases h1 : q = r
  · by_cases h2 : j = k
    · subst h1; subst h2; exact absurd h hn
    · exact Or.inr h2
  · exact Or.inl h1)⟩
theorem Fr.I {W : Nat → Nat → Prop} {σ σ' : PH} (h : Fr W σ σ') {r k : Nat} (hn : ¬ W r k) : gI σ' r k = gI σ r k := (h r k hn).1
theorem Fr.J {W : Nat → Nat → Prop} {σ σ' : PH} (h : Fr W σ σ') {r k : Nat} (hn : ¬ W r k) : gJ σ' r k = gJ σ r k := (h r k hn).2
/-! ints that are small naturals -/
theorem i_0 : (0 : Int32) = nI 0 := rfl
theorem i_1 : (1 : Int32) = nI 1 := rfl
theorem i_2 : (2 : Int32) = nI 2 := rfl
theorem i_3 : (3 : Int32) = nI 3 := rfl
theorem i_4 : (4 : Int32) = nI 4 := rfl
theorem i_5 : (5 : Int32) = nI 5 := rfl
theorem i_6 : (6 : Int32) = nI 6 := rfl
theorem i_7 : (7 : Int32) = nI 7 := rfl
theorem i_8 : (8 : Int32) = nI 8 := rfl
theorem i_9 : (9 : Int32) = nI 9 := rfl
theorem i_10 : (10 : Int32) = nI 10 := rfl
theorem i_11 : (11 : Int32) = nI 11 := rfl
theorem i_16 : (16 : Int32) = nI 16 := rfl
theorem i_17 : (17 : Int32) = nI 17 := rfl
theorem i_20 : (20 : Int32) = nI 20 := rfl
theorem i_32 : (32 : Int32) = nI 32 := rfl
theorem i_48 : (48 : Int32) = nI 48 := rfl
theorem i_50 : (50 : Int32) = nI 50 := rfl
theorem i_57 : (57 : Int32) = nI 57 := rfl
theorem i_64 : (64 : Int32) = nI 64 := rfl
theorem i_92 : (92 : Int32) = nI 92 := rfl
theorem i_94 : (94 : Int32) = nI 94 := rfl
theorem i_100 : (100 : Int32) = nI 100 := rfl
theorem i_128 : (128 : Int32) = nI 128 := rfl
theorem i_160 : (160 : Int32) = nI 160 := rfl
theorem i_256 : (256 : Int32) = nI 256 := rfl
theorem i_M : (1000000 : Int32) = nI 1000000 := rfl
theorem nI_toI {n : Nat} (h : n < 2 ^ 31) : (nI n).toInt = (n : Int) := nI_toInt h
theorem m1_toI : (-1 : Int32).toInt = -1 := by decide
theorem nI_nm1 {n : Nat} (h : n < 2 ^ 31) : ¬ nI n = -1 := fun e => by
  have := congrArg Int32.toInt e
  rw [nI_toInt h, m1_toI] at this
  omega
theorem nI_nlt0 {n : Nat} (h : n < 2 ^ 31) : ¬ nI n < 0 := nI_pos h
theorem nI_lt_l {a b : Nat} {x : Int32} (hx : x = nI b) (ha : a < 2 ^ 31) (hb : b < 2 ^ 31) : nI a < x ↔ a < b := by subst hx; exact nI_ltI ha hb
/-- what an int is against small naturals -/
theorem i_neg_or (x : Int32) : x < 0 ∨ ∃ k, k < 2 ^ 31 ∧ x = nI k := by
  by_cases h : x < 0
  · exact Or.inl h
  · exact Or.inr (nI_of h)
theorem i_range (x : Int32) (N : Nat) (hN : N < 2 ^ 31) : x < 0 ∨ nI N ≤ x ∨ ∃ k, k < N ∧ x = nI k := pk_ix x hN
theorem i_pos_range (x : Int32) (N : Nat) (hN : N < 2 ^ 31) : x ≤ 0 ∨ nI N < x ∨ ∃ k, 0 < k ∧ k ≤ N ∧ x = nI k := by
  by_cases h : x ≤ 0
  · exact Or.inl h
  · by_cases h2 : nI N < x
    · exact Or.inr (Or.inl h2)
    · refine Or.inr (Or.inr ?_)
      rw [Int32.le_iff_toInt_le] at h
      rw [Int32.lt_iff_toInt_lt, nI_toInt hN] at h2
      have h0 : (0 : Int32).toInt = 0 := by decide
      refine ⟨x.toInt.toNat, by omega, by omega, Int32.toInt_inj.mp ?_⟩
      rw [nI_toInt (by omega)]
      omega
/-! bits -/
theorem s_l31 : ∀ n, n < 32 → ((nI n &&& 31).toBitVec.smod 32).toNat = n := by decide +kernel
theorem nI_mask (n k : Nat) (hk : k < 32) : nI n &&& nI (2 ^ k - 1) = nI (n % 2 ^ k) := by
  apply Int32.toBitVec_inj.mp
  rw [Int32.toBitVec_and]
  show BitVec.ofNat 32 n &&& BitVec.ofNat 32 (2 ^ k - 1) = BitVec.ofNat 32 (n % 2 ^ k)
  apply BitVec.eq_of_toNat_eq
  have h2 : 2 ^ k < 2 ^ 32 := Nat.pow_lt_pow_right (by decide) hk
  have h3 : 0 < 2 ^ k := Nat.two_pow_pos k
  rw [BitVec.toNat_and, BitVec.toNat_ofNat, BitVec.toNat_ofNat, BitVec.toNat_ofNat, Nat.mod_eq_of_lt (a := 2 ^ k - 1) (by omega), Nat.and_two_pow_sub_one_eq_mod, Nat.mod_eq_of_lt (a := n % 2 ^ k) (by have := Nat.mod_lt n h3; omega), Nat.mod_mod_of_dvd _ (Nat.pow_dvd_pow 2 (by omega))]
theorem nI_bit {s k : Nat} (hs : s < 2 ^ 31) (hk : k < 32) : (nI s >>> (nI k &&& 31)) &&& 1 = if s.testBit k then 1 else 0 := by
  rw [pk_shrN hs _ k (s_l31 k hk), show (1 : Int32) = nI (2 ^ 1 - 1) from rfl, nI_mask _ 1 (by decide), Nat.testBit_eq_decide_div_mod_eq]
  rcases Nat.mod_two_eq_zero_or_one (s / 2 ^ k) with h | h
  · rw [show s / 2 ^ k % 2 ^ 1 = s / 2 ^ k % 2 from rfl, h]; rfl
  · rw [show s / 2 ^ k % 2 ^ 1 = s / 2 ^ k % 2 from rfl, h]; rfl
theorem nI_shl1 : ∀ i, i < 9 → (1 : Int32) <<< (nI i &&& 31) = nI (2 ^ i) := by decide +kernel
theorem nI_all : ∀ n, n < 9 → (1 : Int32) <<< (nI n &&& 31) - 1 = nI (2 ^ n - 1) := by decide +kernel
theorem nI_or (a b : Nat) : nI a ||| nI b = nI (a ||| b) := by
  apply Int32.toBitVec_inj.mp
  rw [Int32.toBitVec_or]
  show BitVec.ofNat 32 a ||| BitVec.ofNat 32 b = BitVec.ofNat 32 (a ||| b)
  rw [BitVec.ofNat_or]
theorem nI_and (a b : Nat) : nI a &&& nI b = nI (a &&& b) := by
  apply Int32.toBitVec_inj.mp
  rw [Int32.toBitVec_and]
  show BitVec.ofNat 32 a &&& BitVec.ofNat 32 b = BitVec.ofNat 32 (a &&& b)
  rw [BitVec.ofNat_and]
theorem p2_9 {n : Nat} (h : n ≤ 8) : 2 ^ n ≤ 256 := Nat.pow_le_pow_right (n := 2) (by decide) h
theorem p2_1 (n : Nat) : 0 < 2 ^ n := Nat.two_pow_pos n
/-- how many bits of the lowest eight -/
def pc (s : Nat) : Nat := (List.range 8).countP s.testBit
theorem pc_le (s : Nat) : pc s ≤ 8 := by
  have := List.countP_le_length (p := s.testBit) (l := List.range 8)
  rwa [List.length_range] at this
theorem pc_pos : ∀ s, s < 256 → 0 < s → 0 < pc s := by decide +kernel
theorem pc_J : ∀ s, s < 256 → f_J6_bitCount_0f7a4 (nI s) = nI (pc s) := by decide +kernel
