/-! the likeliest by ear -/
theorem lg_cle (x y : Int64) : lg_cmp x y ≤ 0 ↔ ¬ y < x := by
  unfold lg_cmp
  by_cases h : x > y
  · rw [if_pos h]
    exact ⟨fun z => absurd z (by decide), fun z => absurd h z⟩
  · rw [if_neg h]
    refine ⟨fun _ => h, fun _ => ?_⟩
    by_cases e : x = y
    · rw [if_pos e]; decide
    · rw [if_neg e]; decide
def stI (c : CV) (p : Int32) : Bool := !decide (p ≤ 0) && decide (p.toNatClampNeg < 2 ^ cN c)
theorem stI_nI {c : CV} {s : Nat} (n8 : cN c ≤ 8) (s0 : 0 < s) (s1 : s < 2 ^ cN c) : stI c (nI s) = true := by
  have h9 := p2_9 n8
  unfold stI
  rw [nI_clamp (by omega), decide_eq_true s1, decide_eq_false (by rw [i_0, nI_leI (by omega) (by decide)]; omega)]; rfl
theorem stI_no {c : CV} {p : Int32} (n8 : cN c ≤ 8) (h : ∀ s, 0 < s → s < 2 ^ cN c → p ≠ nI s) : stI c p = false := by
  have h9 := p2_9 n8
  unfold stI
  rcases i_pos_range p (2 ^ 31 - 1) (by decide) with z | z | ⟨k, k0, k1, rfl⟩
  · rw [decide_eq_true z]; rfl
  · exfalso
    rw [Int32.lt_iff_toInt_lt, nI_toInt (by decide)] at z
    have := p.toInt_lt
    omega
  · rw [nI_clamp (by omega)]
    by_cases e : k < 2 ^ cN c
    · exact absurd rfl (h k k0 e)
    · rw [decide_eq_false e, Bool.and_false]
theorem stI_t {c : CV} {p : Int32} (n8 : cN c ≤ 8) (h : stI c p = true) : ∃ s, p = nI s ∧ 0 < s ∧ s < 2 ^ cN c ∧ p.toNatClampNeg = s := by
  have h9 := p2_9 n8
  unfold stI at h
  rw [Bool.and_eq_true, decide_eq_true_eq] at h
  rcases i_neg_or p with z | ⟨k, hk, rfl⟩
  · exfalso
    have : p ≤ 0 := by
      rw [Int32.lt_iff_toInt_lt] at z
      rw [Int32.le_iff_toInt_le]; omega
    rw [decide_eq_true this] at h
    exact absurd h.1 (by decide)
  · rw [nI_clamp hk] at h ⊢
    refine ⟨k, rfl, ?_, h.2, rfl⟩
    rcases Nat.eq_zero_or_pos k with z | z
    · subst z; exact absurd h.1 (by decide)
    · exact z
theorem set_8 {c : CV} {σ : PH} {h : Nat} (ok : CVok c) (hX : XC c σ h) (p : Int32) : f_X0_isSet σ h p = oI (stI c p) := by
  rcases f0_isSet ok hX p with ⟨a, b⟩ | ⟨a, s, s0, s1, rfl⟩
  · rw [a, stI_no ok.1 b]; rfl
  · rw [a, stI_nI ok.1 s0 s1]; rfl
theorem set_9 {c : CV} {σ : PH} (ok : CVok c) (hM : MC c σ) (p : Int32) : f_X9_isSet σ p = oI (stI c p) := by
  rcases f9_isSet ok hM p with ⟨a, b⟩ | ⟨a, s, s0, s1, rfl⟩
  · rw [a, stI_no ok.1 b]; rfl
  · rw [a, stI_nI ok.1 s0 s1]; rfl
theorem all_no {n i : Nat} {f : Nat → Bool} (h : i < n) (e : f i = false) : (List.range n).all f = false := by
  rw [List.all_eq_false]
  exact ⟨i, List.mem_range.mpr h, by rw [e]; decide⟩
theorem all_yes {n : Nat} {f : Nat → Bool} (h : ∀ i, i < n → f i = true) : (List.range n).all f = true := by
  rw [List.all_eq_true]
  exact fun i hi => h i (List.mem_range.mp hi)
theorem all_at {n i : Nat} {f : Nat → Bool} (h : (List.range n).all f = true) (hi : i < n) : f i = true := by
  rw [List.all_eq_true] at h
  exact h i (List.mem_range.mpr hi)
def prI (c : CV) (T : Nat → Int32) (i : Nat) : Bool := if i % 2 = 0 then stI c (T i) else decide (T i = 0 ∨ T i = 1)
def earS (c : CV) (T : Nat → Int32) (e w k v : Nat) : Nat := if oI (sndC c (T (2 * k)).toNatClampNeg w) = T (2 * k + 1) then v * (100 - e) / 100 else v * e / 100
def earV (c : CV) (T : Nat → Int32) (e n w : Nat) : Nat := it (earS c T e w) (10000 * wtC c w) (n / 2)
theorem ear_step {v e : Nat} (he : e ≤ 100) : v * e / 100 ≤ v := by
  have : v * e ≤ v * 100 := Nat.mul_le_mul_left _ he
  omega
theorem ear_le {c : CV} {T : Nat → Int32} {e w : Nat} (he : e ≤ 50) (hw : wtC c w ≤ 729) : ∀ k, it (earS c T e w) (10000 * wtC c w) k ≤ 7290000
  | 0 => by rw [it_0]; omega
  | k + 1 => by
    have ih := ear_le (T := T) he hw k
    rw [it_s]
    generalize it (earS c T e w) (10000 * wtC c w) k = v at *
    unfold earS
    split
    · exact Nat.le_trans (ear_step (by omega)) ih
    · exact Nat.le_trans (ear_step (by omega)) ih
def e32 (k : Nat) : Int32 := if k = 0 then -1 else nI (k - 1)
def e64 (k : Nat) : Int64 := if k = 0 then -1 else lN (k - 1)
def earB (c : CV) (T : Nat → Int32) (e n w : Nat) (a : Int32 × Nat) : Int32 × Nat := if a.2 ≤ earV c T e n w then (nI w, earV c T e n w + 1) else a
theorem e32_lt {k v : Nat} (hk : k < 2 ^ 30) (hv : v < 2 ^ 30) : e32 k < nI v ↔ k ≤ v := by
  unfold e32
  by_cases h : k = 0
  · rw [if_pos h, Int32.lt_iff_toInt_lt, nI_toInt (by omega), m1_toI]; omega
  · rw [if_neg h, nI_ltI (by omega) (by omega)]; omega
theorem e64_lt {k v : Nat} (hk : k < 2 ^ 30) (hv : v < 2 ^ 30) : e64 k < lN v ↔ k ≤ v := by
  unfold e64
  by_cases h : k = 0
  · rw [if_pos h, Int64.lt_iff_toInt_lt, lN_toInt (by omega), show (-1 : Int64).toInt = -1 by decide]; omega
  · rw [if_neg h, lN_lt (by omega) (by omega)]; omega
theorem l100 {a b : Nat} (ha : a ≤ 7290000) (hb : b ≤ 100) : lN a * lN b / 100 = lN (a * b / 100) := by
  have : a * b ≤ 7290000 * 100 := Nat.mul_le_mul ha hb
  rw [lN_mul, show (100 : Int64) = lN 100 from rfl, pk_lDiv (by omega) (by decide) (by decide)]
section EAR
variable {j : Nat} {c : CV} {r : Nat → Nat} {hs : HS} {tr : Nat} {sd : Int32} {σ σ' : PH} {d : PD}
theorem arePairs_ok (ok : CVok c) (hX : XC c σ d.1) {s n : Nat} {T : Nat → Int32} (hT : TL σ s n T) (hn : n ≤ 160) : f_X5_arePairs σ d.1 (14 + 2 * s) (nI n) = some (oI ((List.range n).all (prI c T))) := by
  unfold f_X5_arePairs
  apply Rt.q
  refine lp_acc (enc := fun (_ : Unit) (i : Nat) => nI i) n (fun _ i => ∀ k, k < i → prI c T k = true) _ ?_ ?_ FU () 0 (Nat.zero_le _) (FU_big (by omega)) (fun k h => absurd h (Nat.not_lt_zero k))
  · intro rec a i hi hJ hrec
    unfold b_X5_arePairs_3
    refine Rt.f (by rw [nI_leI (by omega) (by omega)]; omega) ?_
    rw [asInt_ok hT hi, obd_s, par_8 (by omega)]
    have nx : prI c T i = true → Rt (rec (nI i + 1)) (fun u => u = oI ((List.range n).all (prI c T))) := fun e => by
      rw [nI_1]
      refine hrec () (fun k hk => ?_)
      by_cases z : k = i
      · subst z; exact e
      · exact hJ k (by omega)
    have no : prI c T i = false → Rt (some (0 : Int32)) (fun u => u = oI ((List.range n).all (prI c T))) := fun e => Rt.s (by rw [all_no hi e]; rfl)
    by_cases hp : i % 2 = 0
    · refine Rt.t (by rw [hp]; rfl) ?_
      rw [bnd_d, set_8 ok hX]
      have e : prI c T i = stI c (T i) := if_pos hp
      cases hs' : stI c (T i) with
      | false => exact Rt.t rfl (no (e.trans hs'))
      | true => exact Rt.f (by decide) (nx (e.trans hs'))
    · refine Rt.f (by rw [i_0, nI_eq (by omega) (by decide)]; exact hp) ?_
      have e : prI c T i = decide (T i = 0 ∨ T i = 1) := if_neg hp
      unfold j_X5_arePairs_47
      by_cases z0 : T i = 0
      · exact Rt.t z0 (Rt.f (by decide) (nx (e.trans (decide_eq_true (Or.inl z0)))))
      · refine Rt.f z0 ?_
        by_cases z1 : T i = 1
        · exact Rt.t z1 (Rt.f (by decide) (nx (e.trans (decide_eq_true (Or.inr z1)))))
        · exact Rt.f z1 (Rt.t rfl (no (e.trans (decide_eq_false (fun z => z.elim z0 z1)))))
  · intro rec a hJ
    unfold b_X5_arePairs_3
    exact Rt.t (nI_le (Nat.le_refl _) (by omega)) (Rt.s (by rw [all_yes hJ]; rfl))
theorem ear_8 (I : InA 0 c r hs tr sd σ d) {s n : Nat} {T : Nat → Int32} (hs8 : s < 8) (hT : TL σ s n T) (hn : n ≤ 32) (he : n % 2 = 0) (hp : (List.range n).all (prI c T) = true) : Rt (f_X5_likeliestByEar σ d.1 (14 + 2 * s) (nI n)) (fun u => u.1 = ((WL (cN c) (r 0)).foldl (fun a w => earB c T (r 3) n w a) (-1, 0)).1 ∧ InA 0 c r hs tr sd u.2 d ∧ Fr (WK d.1) σ u.2) := by
  have hd := I.1.1
  have h92 := I.xq.2.2.2
  have h9 := p2_9 I.n8
  have hr := I.2.1.2.1
  unfold f_X5_likeliestByEar
  rw [show (3 : Int32) = nI 3 from rfl, rule_ok I (by decide), obd_s]
  have hwt : ∀ i, i < (WL (cN c) (r 0)).length → wtC c ((WL (cN c) (r 0)).getD i 0) ≤ 729 := fun i hi => (wtC_729 I.ok I.m3 (getD_mem hi)).2
  rw [← it_list (fun w a => earB c T (r 3) n w a)]
  generalize hL : WL (cN c) (r 0) = L at *
  refine lp_acc (enc := fun (a : Int32 × Nat × PH) (t : Nat) => ((e64 a.2.1, a.1, nI t, a.2.2) : Int64 × Int32 × Int32 × PH)) L.length (fun a t => (a.1, a.2.1) = it (fun i x => earB c T (r 3) n (L.getD i 0) x) (-1, 0) t ∧ a.2.1 ≤ 7290001 ∧ XQ c L a.2.2 d.1 ∧ Fr (WK d.1) σ a.2.2) _ ?_ ?_ FU (-1, 0, σ) 0 (Nat.zero_le _) (FU_big (by omega)) ⟨rfl, by show (0 : Nat) ≤ 7290001; decide, by rw [← hL]; exact I.xq, Fr.rf⟩
  · rintro rec ⟨a1, a2, τ⟩ t ht ⟨j1, j2, j3, j4⟩ hrec
    dsimp only at j1 j2 j3 j4 hrec ⊢
    unfold b_X5_likeliestByEar_18
    dsimp only
    have Tτ : TL τ s n T := hT.fr hs8 j4 (fun r k z => by unfold WK at z; unfold Hls at hd; omega)
    rw [show gI τ (d.1 + 7) 3 = nI L.length from j3.2.1.1]
    have w7 := hwt t ht
    have el := fun k => ear_le (c := c) (T := T) (e := r 3) (w := L.getD t 0) (by omega) w7 k
    refine Rt.f (by rw [nI_leI (by omega) (by omega)]; omega) (Rt.c (inb_nI (by omega) (by decide)) ?_)
    rw [bnd_d, nI_clamp (by omega), j3.2.1.2.2.1 t ht, nI_l (by omega), show (10000 : Int64) = lN 10000 from rfl, lN_mul]
    refine Rt.e (y := loopN (b_X5_likeliestByEar_50 d.1 (14 + 2 * s) (nI n) (nI (r 3)) (e64 a2, a1, nI t, τ) rec) FU (lN (it (earS c T (r 3) (L.getD t 0)) (10000 * wtC c (L.getD t 0)) 0), nI (2 * 0), τ)) rfl ?_
    refine lp_acc (enc := fun (b : PH) (k : Nat) => ((lN (it (earS c T (r 3) (L.getD t 0)) (10000 * wtC c (L.getD t 0)) k), nI (2 * k), b) : Int64 × Int32 × PH)) (n / 2) (fun b k => XQ c L b d.1 ∧ Fr (WK d.1) σ b) _ ?_ ?_ FU τ 0 (Nat.zero_le _) (FU_big (by omega)) ⟨j3, j4⟩
    · rintro rec2 b k hk ⟨q1, q2⟩ hrec2
      unfold b_X5_likeliestByEar_50
      dsimp only
      have Tb : TL b s n T := hT.fr hs8 q2 (fun r k z => by unfold WK at z; unfold Hls at hd; omega)
      rw [nI_1]
      refine Rt.f (by rw [nI_leI (by omega) (by omega)]; omega) ?_
      have ps := all_at hp (i := 2 * k) (by omega)
      have po := all_at hp (i := 2 * k + 1) (by omega)
      unfold prI at ps
      rw [if_pos (by omega)] at ps
      obtain ⟨w, w1, w2, w3, w4⟩ := stI_t I.n8 ps
      rw [asInt_ok Tb (by omega), obd_s, w1]
      refine Rt.o (f7_soundOf I.ok q1 w2 w3 (t := t) (by omega)) ?_
      rintro ⟨v, σ2⟩ ⟨x1, x2, x3⟩
      dsimp only at x1 x2 x3 ⊢
      rw [wrW_at ht] at x1
      subst x1
      have T2 : TL σ2 s n T := Tb.fr hs8 x3 (fun r k z => by unfold WK at z; unfold Hls at hd; omega)
      rw [asInt_ok T2 (by omega), obd_s]
      have lv := el k
      have st : it (earS c T (r 3) (L.getD t 0)) (10000 * wtC c (L.getD t 0)) (k + 1) = earS c T (r 3) (L.getD t 0) k (it (earS c T (r 3) (L.getD t 0)) (10000 * wtC c (L.getD t 0)) k) := rfl
      have nx := hrec2 σ2 ⟨x2, q2.tr x3⟩
      rw [st] at nx
      generalize it (earS c T (r 3) (L.getD t 0)) (10000 * wtC c (L.getD t 0)) k = v at *
      unfold earS at nx
      rw [w4] at nx
      have i2 : nI (2 * k) + 2 = nI (2 * (k + 1)) := nI_add (2 * k) 2
      have s100 : (100 : Int32) - nI (r 3) = nI (100 - r 3) := pk_sub (a := 100) (b := r 3) (by omega)
      unfold j_X5_likeliestByEar_89
      dsimp only
      by_cases z : oI (sndC c w (L.getD t 0)) = T (2 * k + 1)
      · rw [if_pos z] at nx
        refine Rt.t z (Rt.f (by decide) ?_)
        rw [bnd_d, bnd_d, i2, s100, nI_l (by omega), l100 lv (by omega)]
        exact nx
      · rw [if_neg z] at nx
        refine Rt.f z (Rt.t rfl ?_)
        rw [bnd_d, bnd_d, i2, nI_l (by omega), l100 lv (by omega)]
        exact nx
    · rintro rec2 b ⟨q1, q2⟩
      unfold b_X5_likeliestByEar_50
      dsimp only
      rw [nI_1]
      refine Rt.t (nI_le (by omega) (by omega)) ?_
      unfold j_X5_likeliestByEar_122
      dsimp only
      have lv := el (n / 2)
      rw [show it (earS c T (r 3) (L.getD t 0)) (10000 * wtC c (L.getD t 0)) (n / 2) = earV c T (r 3) n (L.getD t 0) from rfl] at *
      have st : it (fun i x => earB c T (r 3) n (L.getD i 0) x) (-1, 0) (t + 1) = earB c T (r 3) n (L.getD t 0) (a1, a2) := by rw [it_s, ← j1]
      unfold earB at st
      dsimp only at st
      rw [bnd_d, bnd_d, nI_1, nI_clamp (by omega), q1.2.1.2.1 t ht]
      by_cases z : a2 ≤ earV c T (r 3) n (L.getD t 0)
      · rw [if_pos z] at st
        refine Rt.f (fun y => (lg_cle _ _).mp y ((e64_lt (by omega) (by omega)).mpr z)) (Rt.c (inb_nI (by omega) (by decide)) ?_)
        exact hrec (nI (L.getD t 0), earV c T (r 3) n (L.getD t 0) + 1, b) ⟨st.symm, by show earV c T (r 3) n (L.getD t 0) + 1 ≤ 7290001; omega, q1, q2⟩
      · rw [if_neg z] at st
        refine Rt.t ((lg_cle _ _).mpr (fun y => z ((e64_lt (by omega) (by omega)).mp y))) ?_
        exact hrec (a1, a2, b) ⟨st.symm, j2, q1, q2⟩
  · rintro rec ⟨a1, a2, τ⟩ ⟨j1, j2, j3, j4⟩
    dsimp only at j1 j2 j3 j4 ⊢
    unfold b_X5_likeliestByEar_18
    dsimp only
    rw [show gI τ (d.1 + 7) 3 = nI L.length from j3.2.1.1]
    refine Rt.t (nI_le (Nat.le_refl _) (by omega)) (Rt.s ⟨?_, I.ca j4 (by rw [hL]; exact j3), j4⟩)
    rw [← j1]
theorem ear_9 (I : InA 0 c r hs tr sd σ d) (hL0 : 0 < (WL (cN c) (r 0)).length) {s n : Nat} {T : Nat → Int32} (hs8 : s < 8) (hT : TL σ s n T) (hn : n ≤ 32) (he : n % 2 = 0) (hp : (List.range n).all (prI c T) = true) : Rt (j_X9_byEar_101 σ (nI s) (nI n) 0) (fun u => u.1 = ((WL (cN c) (r 0)).foldl (fun a w => earB c T (r 3) n w a) (-1, 0)).1 ∧ InA 0 c r hs tr sd u.2 d) := by
  have hd := I.1.1
  have h92 := I.xq.2.2.2
  have h9 := p2_9 I.n8
  have hr := I.2.1.2.1
  unfold j_X9_byEar_101
  refine Rt.t rfl (Rt.o (f9_lists I.ok I.mc (I.2.2.2.1.2.1 0 (by decide)) I.m3) ?_)
  rintro ⟨v, σ1⟩ ⟨x1, x2, x3, x4⟩
  dsimp only at x1 x2 x3 x4
  subst x1
  have I1 : InA 0 c r hs tr sd σ1 d := I.scr x4 (fun r k z => by unfold SL at z; unfold SCR; omega)
  have T1 : TL σ1 s n T := hT.fr hs8 x4 (fun r k z => by unfold SL at z; omega)
  have hwt : ∀ i, i < (WL (cN c) (r 0)).length → wtC c ((WL (cN c) (r 0)).getD i 0) ≤ 729 ∧ (WL (cN c) (r 0)).getD i 0 < 256 := fun i hi => ⟨(wtC_729 I.ok I.m3 (getD_mem hi)).2, (WL_lt I.ok.1 (getD_mem hi)).2.1⟩
  rw [← it_list (fun w a => earB c T (r 3) n w a)]
  have e4 : gI σ1 81 4 = nI (r 3) := I1.2.2.2.1.2.1 3 (by decide)
  generalize hL : WL (cN c) (r 0) = L at *
  refine lp_acc (enc := fun (a : Int32 × Nat) (t : Nat) => ((a.1, e32 a.2, nI t) : Int32 × Int32 × Int32)) L.length (fun a t => a.2 = (it (fun i x => earB c T (r 3) n (L.getD i 0) x) (-1, 0) t).2 ∧ (0 < t → a.1 = (it (fun i x => earB c T (r 3) n (L.getD i 0) x) (-1, 0) t).1) ∧ (t = 0 → a.2 = 0) ∧ a.2 ≤ 7290001) _ ?_ ?_ FU (0, 0) 0 (Nat.zero_le _) (FU_big (by omega)) ⟨rfl, fun z => absurd z (by omega), fun _ => rfl, by show (0 : Nat) ≤ 7290001; decide⟩
  · rintro rec ⟨a1, a2⟩ t ht ⟨j1, j2, j3, j4⟩ hrec
    dsimp only at j1 j2 j3 j4 hrec ⊢
    unfold b_X9_byEar_126
    dsimp only
    obtain ⟨w7, w256⟩ := hwt t ht
    have el := fun k => ear_le (c := c) (T := T) (e := r 3) (w := L.getD t 0) (by omega) w7 k
    refine Rt.f (by rw [nI_leI (by omega) (by omega)]; omega) (Rt.c (inb_nI (by omega) (by decide)) ?_)
    rw [nI_clamp (by omega), x3 t ht, f9_weight I1.ok I1.mc w256, obd_s, bnd_d, show (10000 : Int32) = nI 10000 from rfl, pk_mul]
    refine Rt.e (y := loopN (b_X9_byEar_153 (nI s) (nI n) (nI L.length, σ1) (a1, e32 a2, nI t) rec) FU (nI (it (earS c T (r 3) (L.getD t 0)) (10000 * wtC c (L.getD t 0)) 0), nI (2 * 0))) rfl ?_
    refine lp_acc (enc := fun (_ : Unit) (k : Nat) => ((nI (it (earS c T (r 3) (L.getD t 0)) (10000 * wtC c (L.getD t 0)) k), nI (2 * k)) : Int32 × Int32)) (n / 2) (fun _ _ => True) _ ?_ ?_ FU () 0 (Nat.zero_le _) (FU_big (by omega)) trivial
    · rintro rec2 b k hk - hrec2
      unfold b_X9_byEar_153
      dsimp only
      refine Rt.f (by rw [nI_leI (by omega) (by omega)]; omega) ?_
      have ps := all_at hp (i := 2 * k) (by omega)
      unfold prI at ps
      rw [if_pos (by omega)] at ps
      obtain ⟨w, w1, w2, w3, w4⟩ := stI_t I.n8 ps
      rw [intAt_ok T1 hs8 (by omega), obd_s, w1]
      refine Rt.c (inb_nI (by omega) (by decide)) ?_
      rw [nI_clamp (by omega), x3 t ht, f9_soundOf I1.ok I1.mc (by omega) w256, obd_s, nI_1, intAt_ok T1 hs8 (by omega), obd_s]
      have lv := el k
      have st : it (earS c T (r 3) (L.getD t 0)) (10000 * wtC c (L.getD t 0)) (k + 1) = earS c T (r 3) (L.getD t 0) k (it (earS c T (r 3) (L.getD t 0)) (10000 * wtC c (L.getD t 0)) k) := rfl
      have nx := hrec2 () trivial
      rw [st] at nx
      generalize it (earS c T (r 3) (L.getD t 0)) (10000 * wtC c (L.getD t 0)) k = v at *
      unfold earS at nx
      rw [w4] at nx
      have i2 : nI (2 * k) + 2 = nI (2 * (k + 1)) := nI_add (2 * k) 2
      have s100 : (100 : Int32) - nI (r 3) = nI (100 - r 3) := pk_sub (a := 100) (b := r 3) (by omega)
      unfold j_X9_byEar_194
      dsimp only
      rw [e4]
      by_cases z : oI (sndC c w (L.getD t 0)) = T (2 * k + 1)
      · rw [if_pos z] at nx
        refine Rt.t z (Rt.f (by decide) ?_)
        rw [bnd_d, bnd_d, i2, s100, nI_l (by omega), nI_l (by omega), l100 lv (by omega), lN_i]
        exact nx
      · rw [if_neg z] at nx
        refine Rt.f z (Rt.t rfl ?_)
        rw [bnd_d, bnd_d, i2, nI_l (by omega), nI_l (by omega), l100 lv (by omega), lN_i]
        exact nx
    · rintro rec2 b -
      unfold b_X9_byEar_153
      dsimp only
      refine Rt.t (nI_le (by omega) (by omega)) ?_
      unfold j_X9_byEar_233
      dsimp only
      have lv := el (n / 2)
      rw [show it (earS c T (r 3) (L.getD t 0)) (10000 * wtC c (L.getD t 0)) (n / 2) = earV c T (r 3) n (L.getD t 0) from rfl] at *
      have st : it (fun i x => earB c T (r 3) n (L.getD i 0) x) (-1, 0) (t + 1) = earB c T (r 3) n (L.getD t 0) (it (fun i x => earB c T (r 3) n (L.getD i 0) x) (-1, 0) t) := rfl
      rw [st] at hrec
      generalize it (fun i x => earB c T (r 3) n (L.getD i 0) x) (-1, 0) t = x at *
      unfold earB at hrec
      rw [bnd_d, bnd_d, nI_1, nI_clamp (by omega), x3 t ht]
      rw [← j1] at hrec
      by_cases z : a2 ≤ earV c T (r 3) n (L.getD t 0)
      · rw [if_pos z] at hrec
        refine Rt.t ((e32_lt (by omega) (by omega)).mpr z) (Rt.c (inb_nI (by omega) (by decide)) ?_)
        exact hrec (nI (L.getD t 0), earV c T (r 3) n (L.getD t 0) + 1) ⟨rfl, fun _ => rfl, fun z => absurd z (by omega), by show earV c T (r 3) n (L.getD t 0) + 1 ≤ 7290001; omega⟩
      · rw [if_neg z] at hrec
        have t0 : 0 < t := by
          rcases Nat.eq_zero_or_pos t with y | y
          · have := j3 y; omega
          · exact y
        refine Rt.f (fun y => z ((e32_lt (by omega) (by omega)).mp y)) ?_
        exact hrec (a1, a2) ⟨j1, fun _ => j2 t0, fun z => absurd z (by omega), j4⟩
  · rintro rec ⟨a1, a2⟩ ⟨j1, j2, j3, j4⟩
    dsimp only at j1 j2 j3 j4 ⊢
    unfold b_X9_byEar_126
    dsimp only
    exact Rt.t (nI_le (Nat.le_refl _) (by omega)) (Rt.s ⟨j2 hL0, I1⟩)
theorem ear_44 (ok : CVok c) (hM : MC c σ) {s n : Nat} {T : Nat → Int32} (hs8 : s < 8) (hT : TL σ s n T) (hn : n ≤ 160) {P : Int32 × PH → Prop} (k : Rt (j_X9_byEar_101 σ (nI s) (nI n) (if (List.range n).all (prI c T) then 0 else -6)) P) : Rt (j_X9_byEar_41 σ (nI s) (nI n) 0) P := by
  unfold j_X9_byEar_41
  refine lp_rule (I := fun m q => ∃ i v, q = (v, nI i) ∧ m + i = n ∧ ((v = 0 ∧ ∀ k, k < i → prI c T k = true) ∨ (v = -6 ∧ (List.range n).all (prI c T) = false))) _ ?_ FU n (0, 0) (FU_big (by omega)) ⟨0, 0, rfl, rfl, Or.inl ⟨rfl, fun k h => absurd h (Nat.not_lt_zero k)⟩⟩
  rintro m rec _ ⟨i, v, rfl, e1, e2⟩ hrec
  unfold b_X9_byEar_44
  dsimp only
  by_cases hi : n ≤ i
  · refine Rt.t (nI_le hi (by omega)) ?_
    rcases e2 with ⟨rfl, h⟩ | ⟨rfl, h⟩
    · rw [all_yes (fun q hq => h q (by omega)), if_pos rfl] at k; exact k
    · rw [h, if_neg (by decide)] at k; exact k
  refine Rt.f (by rw [nI_leI (by omega) (by omega)]; exact hi) ?_
  rcases e2 with ⟨rfl, h⟩ | ⟨rfl, h⟩
  · refine Rt.t rfl ?_
    have nx : prI c T i = true → Rt (rec (0, nI i + 1)) P := fun e => by
      rw [nI_1]
      refine hrec (m - 1) _ (by omega) ⟨i + 1, 0, rfl, by omega, Or.inl ⟨rfl, fun q hq => ?_⟩⟩
      by_cases z : q = i
      · subst z; exact e
      · exact h q (by omega)
    have no : prI c T i = false → Rt (rec (-6, nI i + 1)) P := fun e => by
      rw [nI_1]
      exact hrec (m - 1) _ (by omega) ⟨i + 1, -6, rfl, by omega, Or.inr ⟨rfl, all_no (by omega) e⟩⟩
    rw [par_9 (by omega), intAt_ok hT hs8 (by omega), obd_s, obd_s]
    simp only [bnd_d]
    by_cases hp : i % 2 = 0
    · have e : prI c T i = stI c (T i) := if_pos hp
      refine Rt.t (by rw [hp]; rfl) ?_
      rw [set_9 ok hM]
      cases hs' : stI c (T i) with
      | false => exact Rt.t rfl (no (e.trans hs'))
      | true => exact Rt.f (by decide) (nx (e.trans hs'))
    · have e : prI c T i = decide (T i = 0 ∨ T i = 1) := if_neg hp
      refine Rt.f (by rw [i_0, nI_eq (by omega) (by decide)]; exact hp) ?_
      rcases one_i (T i) with ⟨z, o⟩ | ⟨z, o⟩ | ⟨z0, z1, o⟩
      · rw [o]; exact Rt.f (by decide) (nx (e.trans (decide_eq_true (Or.inl z))))
      · rw [o]; exact Rt.f (by decide) (nx (e.trans (decide_eq_true (Or.inr z))))
      · rw [o]; exact Rt.t rfl (no (e.trans (decide_eq_false (fun z => z.elim z0 z1))))
  · exact Rt.f (by decide) (by rw [h, if_neg (by decide)] at k; exact k)
theorem ear_41 (σ : PH) (p1 p2 : Int32) {v : Int32} (h : ¬ v = 0) : j_X9_byEar_41 σ p1 p2 v = j_X9_byEar_101 σ p1 p2 v := by
  unfold j_X9_byEar_41
  have e1 : FU = 1048575 + 1 := rfl
  rw [e1]
  show b_X9_byEar_44 σ p1 p2 (loopN (b_X9_byEar_44 σ p1 p2) 1048575) (v, 0) = _
  unfold b_X9_byEar_44
  dsimp only
  rw [if_neg h, ite_self]
theorem st_byEar (σ : PH) (d : PD) (p1 p2 : Int32) (hI : Inv σ d) : ∃ (u v : Int32 × PH), f_X8_byEar σ d p1 p2 = some u ∧ f_X9_byEar u.2 p1 p2 = some v ∧ u.1 = v.1 ∧ Inv v.2 d := by
  obtain ⟨c, r, hs, tr, sd, I⟩ := hI
  refine two (y := fun s => f_X9_byEar s p1 p2) ?_
  have n8 := I.n8
  have no : ∀ k, 1 ≤ k → k ≤ 7 → (∀ σ1, Fr (fun r _ => r = 2) σ σ1 → InA k c r hs tr sd σ1 d → f_X9_byEar σ1 p1 p2 = j_X9_byEar_101 σ1 p1 p2 (-nI k)) → Rt (j_X8_byEar_62 σ d p1 p2 (-nI k)) (fun u => Rt (f_X9_byEar u.2 p1 p2) (fun v => u.1 = v.1 ∧ Inv v.2 d)) := by
    intro k h1 h7 hb
    unfold j_X8_byEar_62
    refine Rt.f (nI_nz h1 h7) (Rt.o (refuse_ok I h1 h7 rfl) ?_)
    rintro ⟨v, σ1⟩ ⟨e1, I1, F1⟩
    refine Rt.s ?_
    dsimp only at e1 I1 F1 ⊢
    rw [hb σ1 F1 I1]
    unfold j_X9_byEar_101
    refine Rt.f (nI_nz h1 h7) (Rt.o (no_ok I1 h1 h7 rfl) ?_)
    rintro ⟨w, σ2⟩ ⟨e2, I2⟩
    exact Rt.s ⟨e1.trans e2.symm, I2.inv⟩
  have m21 : ∀ (σ1 : PH) {v : Int32}, ¬ v = 0 → j_X9_byEar_21 σ1 p1 p2 v = j_X9_byEar_101 σ1 p1 p2 v := fun σ1 v h => by
    unfold j_X9_byEar_21
    rw [if_neg h, ear_41 σ1 p1 p2 h]
  unfold f_X8_byEar
  rcases told_ok I p1 p2 with ⟨k, k1, k5, e, eb⟩ | ⟨s, n, T, hs8, rfl, rfl, hn, e, hT⟩
  · have nz := nI_nz k1 (show k ≤ 7 by omega)
    rw [e, obd_s, if_neg nz]
    unfold j_X8_byEar_27
    rw [if_neg nz]
    refine no k k1 (by omega) (fun σ1 F I1 => ?_)
    unfold f_X9_byEar
    rw [eb σ1 F, obd_s, if_neg nz, m21 σ1 nz]
  rw [e, obd_s, if_pos rfl]
  rw [show gI σ (d.1 + 1) 5 = nI (cN c) from I.xc.1]
  have bk : ∀ σ1, Fr (fun r _ => r = 2) σ σ1 → f_X9_bars σ1 (nI s) (nI n) = some 0 := fun σ1 F => bars_ok (hT.fr hs8 F (fun r k z => by omega)) hs8
  by_cases hc : cN c = 0
  · rw [if_pos (by rw [hc]; rfl)]
    unfold j_X8_byEar_27
    rw [if_neg (by decide)]
    refine no 5 (by decide) (by decide) (fun σ1 F I1 => ?_)
    unfold f_X9_byEar
    rw [bk σ1 F, obd_s, if_pos rfl, I1.mc.1, if_pos (by rw [hc]; rfl), m21 σ1 (by decide)]
    rfl
  have nn : ¬ nI (cN c) = 0 := by rw [i_0, nI_eq (by omega) (by decide)]; exact hc
  rw [if_neg nn]
  have mk : ∀ {k : Nat} (σ1 : PH), InA k c r hs tr sd σ1 d → TL σ1 s n T → f_X9_byEar σ1 (nI s) (nI n) = j_X9_byEar_21 σ1 (nI s) (nI n) 0 := fun σ1 I1 h => by
    unfold f_X9_byEar
    rw [bars_ok h hs8, obd_s, if_pos rfl, I1.mc.1, if_neg nn]
  have T2 : ∀ σ1, Fr (fun r _ => r = 2) σ σ1 → TL σ1 s n T := fun σ1 F => hT.fr hs8 F (fun r k z => by omega)
  have n6 : ¬ (-6 : Int32) = 0 := by decide
  unfold j_X8_byEar_27
  rw [if_pos rfl, bnd_d]
  unfold f_X8_isToldInPairs
  rw [par_8 (by omega)]
  by_cases z : n ≤ 32
  · rw [if_neg (show ¬ (32 : Int32) < nI n by rw [i_32, nI_ltI (by omega) (by omega)]; omega)]
    have zz : ¬ (32 : Int32) < nI n := by rw [i_32, nI_ltI (by omega) (by omega)]; omega
    by_cases hp : n % 2 = 0
    · rw [if_pos (show nI (n % 2) = 0 by rw [hp]; rfl), if_neg (by decide)]
      refine Rt.c (inb_nI hs8 (by decide)) ?_
      rw [bnd_d, cl8 hs8, arePairs_ok I.ok I.xc hT hn, obd_s]
      have m9 : ∀ σ1, j_X9_byEar_21 σ1 (nI s) (nI n) 0 = j_X9_byEar_41 σ1 (nI s) (nI n) 0 := fun σ1 => by
        unfold j_X9_byEar_21
        rw [if_pos rfl, if_neg zz, if_neg (by rw [par_9 (by omega), hp]; decide)]
      cases hb : (List.range n).all (prI c T) with
      | false =>
        refine Rt.t rfl ?_
        unfold j_X8_byEar_59 j_X8_byEar_62
        refine Rt.f n6 (Rt.o (refuse_ok I (k := 6) (by decide) (by decide) rfl) ?_)
        rintro ⟨v, σ1⟩ ⟨e1, I1, F1⟩
        refine Rt.s ?_
        dsimp only at e1 I1 F1 ⊢
        rw [mk σ1 I1 (T2 σ1 F1), m9]
        refine ear_44 I1.ok I1.mc hs8 (T2 σ1 F1) hn ?_
        rw [hb, if_neg (by decide)]
        unfold j_X9_byEar_101
        refine Rt.f n6 (Rt.o (no_ok I1 (by decide) (by decide) rfl) ?_)
        rintro ⟨w, σ2⟩ ⟨e2, I2⟩
        exact Rt.s ⟨e1.trans e2.symm, I2.inv⟩
      | true =>
        refine Rt.f (by decide) ?_
        unfold j_X8_byEar_62
        refine Rt.t rfl (Rt.c (inb_nI hs8 (by decide)) ?_)
        rw [bnd_d, cl8 hs8]
        refine Rt.o (ear_8 I hs8 hT z hp hb) ?_
        rintro ⟨v, σ1⟩ ⟨e1, I1, F1⟩
        refine Rt.s ?_
        dsimp only at e1 I1 F1 ⊢
        have hd := I.1.1
        have T1 : TL σ1 s n T := hT.fr hs8 F1 (fun r k z => by unfold WK at z; unfold Hls at hd; omega)
        rw [mk σ1 I1 T1, m9]
        refine ear_44 I1.ok I1.mc hs8 T1 hn ?_
        rw [hb, if_pos rfl]
        have hL0 : 0 < (WL (cN c) (r 0)).length := WL_pos I (s := 1) (by decide) (by have := Nat.pow_le_pow_right (n := 2) (by decide) (show 1 ≤ cN c by omega); omega)
        refine (ear_9 I1 hL0 hs8 T1 z hp hb).m ?_
        rintro ⟨w, σ2⟩ ⟨e2, I2⟩
        exact ⟨e1.trans e2.symm, I2.inv⟩
    · rw [if_neg (show ¬ nI (n % 2) = 0 by rw [i_0, nI_eq (by omega) (by decide)]; exact hp), if_pos rfl]
      unfold j_X8_byEar_59
      refine no 6 (by decide) (by decide) (fun σ1 F I1 => ?_)
      rw [mk σ1 I1 (T2 σ1 F)]
      unfold j_X9_byEar_21
      rw [if_pos rfl, if_neg zz, if_pos (by rw [par_9 (by omega), show n % 2 = 1 by omega]; rfl)]
      unfold j_X9_byEar_38
      exact ear_41 σ1 _ _ n6
  · have zz : (32 : Int32) < nI n := by rw [i_32]; exact nI_lt (by omega) (by omega)
    rw [if_pos zz, if_pos rfl]
    unfold j_X8_byEar_59
    refine no 6 (by decide) (by decide) (fun σ1 F I1 => ?_)
    rw [mk σ1 I1 (T2 σ1 F)]
    unfold j_X9_byEar_21
    rw [if_pos rfl, if_pos zz]
    unfold j_X9_byEar_38
    exact ear_41 σ1 _ _ n6
end EAR
