/-! kinds one under the other; the acts -/
def unB (kd k : Nat) : Bool := decide (k = 0) || (decide (kd = k) || (decide (k = 1 ∧ kd = 3) || (decide (k = 2 ∧ kd = 5) || decide (k = 4 ∧ kd = 6))))
theorem under_ok : ∀ kd, kd < 7 → ∀ k, k < 7 → f_X0_isUnder (nI kd) (nI k) = some (oI (unB kd k)) := by decide +kernel
def owL : List Nat := [0, 0, 0, 1, 0, 0, 0, 2, 0, 1, 3, 0, 4, 0, 4, 0, 2, 5, 6, 6, 4]
def owC (f a : Nat) : Nat := owL.getD (3 * f + a) 0
theorem owner_ok : ∀ f, f < 7 → ∀ a, a < 3 → f_X6_owner (nI f) (nI a) = some (nI (owC f a)) := by decide +kernel
theorem ntz_ok : ∀ i, i < 8 → f_J6_numberOfTrailingZeros_0f7a4 (nI (2 ^ i)) = nI i ∧ ¬ nI (2 ^ i) = 0 := by decide +kernel
section V1
variable {j : Nat} {c : CV} {r : Nat → Nat} {hs : HS} {tr : Nat} {sd : Int32} {σ σ' : PH} {d : PD}
theorem says9 (σ : PH) (v12 : Int32) : ∀ kd, kd < 7 → ∀ k, k < 7 → (if nI k = 1 then (if nI kd = 3 then (j_X9_says_106 σ (nI k) v12 (nI kd)) else (j_X9_says_83 σ (nI k) v12 (nI kd))) else (j_X9_says_83 σ (nI k) v12 (nI kd))) = if unB kd k = true then j_X9_says_135 σ (nI k) v12 else obd (f_X9_no σ (-2)) (fun u => some (u.1, u.2)) := by
  intro kd hkd k hk
  rcases (show kd = 0 ∨ kd = 1 ∨ kd = 2 ∨ kd = 3 ∨ kd = 4 ∨ kd = 5 ∨ kd = 6 by omega) with rfl | rfl | rfl | rfl | rfl | rfl | rfl <;> rcases (show k = 0 ∨ k = 1 ∨ k = 2 ∨ k = 3 ∨ k = 4 ∨ k = 5 ∨ k = 6 by omega) with rfl | rfl | rfl | rfl | rfl | rfl | rfl <;> rfl
theorem st_says (σ : PH) (d : PD) (p1 p2 : Int32) (hI : Inv σ d) : ∃ (u v : Int32 × PH), f_X8_says σ d p1 p2 = some u ∧ f_X9_says u.2 p1 p2 = some v ∧ u.1 = v.1 ∧ Inv v.2 d := by
  obtain ⟨c, r, hs, tr, sd, I⟩ := hI
  have n8 := I.n8
  refine two (y := fun s => f_X9_says s p1 p2) ?_
  unfold f_X8_says
  rw [bnd_d]
  rcases shelf_i p1 with ⟨e1, e2, -⟩ | ⟨s, hs8, rfl, e1, e2⟩
  · rw [e1, if_pos rfl]
    refine rf1 I (fun s => f_X9_says s p1 p2) (fun σ1 _ _ => ?_)
    unfold f_X9_says
    rw [bnd_d, e2, if_pos rfl]
  · have c8 := inb_nI (k := s) (N := 8) hs8 (by decide)
    have hs31 : s < 2 ^ 31 := by omega
    rw [e1, if_neg (by decide), bnd_d]
    unfold f_X0_isKind
    have hY : ∀ σ1, f_X9_says σ1 (nI s) p2 = if p2 < 0 then (obd (f_X9_no σ1 (-1)) fun u5 => some (u5.1, u5.2)) else (if p2 ≤ 6 then (if (gI σ1 89 s) = 1 then (obd (f_X9_no σ1 (-2)) fun u40 => some (u40.1, u40.2)) else (if (gI σ1 89 s) = 0 then (obd (f_X9_no σ1 (-3)) fun u39 => some (u39.1, u39.2)) else (bnd (gI σ1 92 s) fun v12 =>  chk (inb v12 8 = true) <| bnd (gI σ1 83 v12.toNatClampNeg) fun v14 => if p2 = 1 then (if v14 = 3 then (j_X9_says_106 σ1 p2 v12 v14) else (j_X9_says_83 σ1 p2 v12 v14)) else (j_X9_says_83 σ1 p2 v12 v14)))) else (obd (f_X9_no σ1 (-1)) fun u41 => some (u41.1, u41.2))) := fun σ1 => by
      unfold f_X9_says
      rw [bnd_d, e2, if_neg (by decide), chk_t c8, chk_t c8, chk_t c8, nI_clamp hs31]
    rcases i_between p2 0 6 (by decide) (by decide) with ⟨k, -, hk, rfl, k1, k2⟩ | ⟨kn | ⟨k1, k2⟩, -⟩
    · have k3 : nI k ≤ 6 := by rw [i_6]; exact nI_le hk (by decide)
      have k1 : ¬ nI k < 0 := k1
      have k2 : ¬ (6 : Int32) < nI k := k2
      rw [if_neg k1, if_neg k2, if_neg (by decide), chk_t c8, bnd_d, bnd_d, cl8 hs8]
      unfold f_X4_holdsRow
      rcases I.2.2.2.2 s hs8 with ⟨g0, g1⟩ | ⟨g0, o, z, ho, hz, g2, g3, g4, g5, g6⟩ | ⟨g0, x, hx, g1, g2⟩
      · rw [g1, if_pos (by decide), bnd_d, has_neg σ (by decide), if_pos rfl]
        refine rf3 I (fun s => f_X9_says s _ _) (fun σ1 _ F => ?_)
        rw [hY, if_neg k1, if_pos k3, F.I (by omega), g0, if_neg (by decide), if_pos rfl]
      · rw [g4, if_neg (show ¬ nI (100 + o) < 100 by rw [i_100, nI_ltI (by omega) (by decide)]; omega), if_neg (by decide)]
        refine rf2 I (fun s => f_X9_says s _ _) (fun σ1 _ F => ?_)
        rw [hY, if_neg k1, if_pos k3, F.I (by omega), g0, if_pos rfl]
      · have x8 : inb (nI x) 8 = true := inb_nI (by omega) (by decide)
        obtain ⟨a1, a2, a3, a4⟩ := I.xc.2.1 x hx
        obtain ⟨ok1, ok2, -, -, ok5⟩ := I.ok.2.1 x hx
        rw [g2, if_pos (show nI x < 100 by rw [i_100]; exact nI_lt (by omega) (by decide)), if_pos rfl, bnd_d, f0_has1 I.ok I.xc hx, if_neg (by decide), chk_t x8, nI_clamp (by omega), a1, under_ok _ (by omega) k (by omega), obd_s]
        have e9 : ∀ σ1, gI σ1 89 s = 2 → gI σ1 92 s = nI x → MC c σ1 → f_X9_says σ1 (nI s) (nI k) = if unB (cK c x) k = true then j_X9_says_135 σ1 (nI k) (nI x) else obd (f_X9_no σ1 (-2)) (fun u => some (u.1, u.2)) := fun σ1 h1 h2 hM => by
          rw [hY, if_neg k1, if_pos k3, h1, if_neg (by decide), if_neg (by decide), bnd_d, h2, chk_t x8, bnd_d, nI_clamp (by omega), (hM.2 x hx).1]
          exact says9 σ1 (nI x) _ (by omega) k (by omega)
        cases hu : unB (cK c x) k with
        | false =>
          rw [if_pos (show oI false = 0 from rfl)]
          refine rf2 I (fun s => f_X9_says s _ _) (fun σ1 I1 F => ?_)
          rw [e9 σ1 (by rw [F.I (by omega)]; exact g0) (by rw [F.I (by omega)]; exact g1) I1.mc, hu, if_neg (by decide)]
        | true =>
          rw [if_neg (show ¬ oI true = 0 by decide)]
          -- what he says
          have key : ∃ v, f_X0_tellsOf σ d.1 (nI x) (nI k) = some v ∧ j_X9_says_135 σ (nI k) (nI x) = some (v, σ) := by
            obtain ⟨b1, b2, b3, b4⟩ := I.mc.2 x hx
            obtain ⟨m, hm, gm, bm⟩ := I.xc.2.2 (cP c x) (by omega)
            have c10 : inb (nI (cP c x)) 10 = true := inb_nI (by omega) (by decide)
            have hw : ∃ v, j_X0_tellsOf_55 σ d.1 (nI x) = some v ∧ j_X9_says_183 σ (nI x) = some (v, σ) := by
              unfold j_X0_tellsOf_55 j_X9_says_183
              rw [chk_t x8, nI_clamp (by omega), a4, chk_t c10, nI_clamp (by omega), bnd_d, gm, chk_t x8, b4]
              obtain ⟨u, hu, hP⟩ := f9_who I.ok I.mc (nI (cP c x) - 1)
              rw [hu, obd_s]
              rcases hP with ⟨y, hy, rfl, e⟩ | ⟨rfl, hn⟩
              · have e' := (pl_m1 (by have := (I.ok.2.1 y hy).2.2.2.2; omega) (by omega)).mp e
                have em : m = 2 ^ y := by
                  apply Nat.eq_of_testBit_eq
                  intro i
                  rw [bm, Nat.testBit_two_pow]
                  congr 1
                  rw [eq_iff_iff]
                  constructor
                  · rintro ⟨h1, h2⟩
                    exact I.ok.2.2 y i hy h1 (by omega)
                  · rintro rfl
                    exact ⟨hy, e'⟩
                subst em
                obtain ⟨q1, q2⟩ := ntz_ok y (by omega)
                exact ⟨nI y, by rw [if_neg q2, bnd_d, q1], rfl⟩
              · have em : m = 0 := by
                  apply Nat.eq_of_testBit_eq
                  intro i
                  rw [bm, Nat.zero_testBit, decide_eq_false]
                  rintro ⟨h1, h2⟩
                  exact hn i h1 ((pl_m1 (by omega) (by omega)).mpr h2)
                subst em
                exact ⟨-1, by rw [if_pos (show nI 0 = 0 from rfl)], rfl⟩
            obtain ⟨v, w1, w2⟩ := hw
            unfold f_X0_tellsOf j_X9_says_135
            rw [bnd_d, f0_has1 I.ok I.xc hx, if_neg (by decide), w1, w2, nI_clamp (by omega), a2, a4, b2, b4]
            simp only [x8, chk_T]
            by_cases z0 : nI k = 0
            · exact ⟨_, by rw [if_pos z0], by rw [if_pos z0]⟩
            by_cases z1 : nI k = 1
            · exact ⟨_, by rw [if_neg z0, if_pos z1], by rw [if_neg z0, if_pos z1]⟩
            by_cases z2 : nI k = 2
            · exact ⟨_, by rw [if_neg z0, if_neg z1, if_pos z2], by rw [if_neg z0, if_neg z1, if_pos z2]⟩
            by_cases z3 : nI k = 3
            · exact ⟨_, by rw [if_neg z0, if_neg z1, if_neg z2, if_pos z3], by rw [if_neg z0, if_neg z1, if_neg z2, if_pos z3]⟩
            by_cases z4 : nI k = 4
            · exact ⟨_, by rw [if_neg z0, if_neg z1, if_neg z2, if_neg z3, if_pos z4], by rw [if_neg z0, if_neg z1, if_neg z2, if_neg z3, if_pos z4]⟩
            by_cases z5 : nI k = 5
            · exact ⟨_, by rw [if_neg z0, if_neg z1, if_neg z2, if_neg z3, if_neg z4, if_pos z5], by rw [if_neg z0, if_neg z1, if_neg z2, if_neg z3, if_neg z4, if_pos z5]⟩
            · exact ⟨_, by rw [if_neg z0, if_neg z1, if_neg z2, if_neg z3, if_neg z4, if_neg z5], by rw [if_neg z0, if_neg z1, if_neg z2, if_neg z3, if_neg z4, if_neg z5]⟩
          obtain ⟨v, w1, w2⟩ := key
          rw [w1, obd_s]
          refine Rt.s ?_
          dsimp only
          rw [e9 σ g0 g1 I.mc, hu, if_pos rfl, w2]
          exact Rt.s ⟨rfl, I.inv⟩
    · rw [if_pos (show p2 < 0 from kn), if_pos rfl]
      refine rf1 I (fun s => f_X9_says s _ _) (fun σ1 _ _ => ?_)
      rw [hY, if_pos (show p2 < 0 from kn)]
    · have k2' : ¬ p2 ≤ 6 := by
        rw [Int32.lt_iff_toInt_lt] at k2
        rw [Int32.le_iff_toInt_le]
        have : (6 : Int32).toInt = (nI 6).toInt := rfl
        omega
      rw [if_neg (show ¬ p2 < 0 from k1), if_pos (show (6 : Int32) < p2 from k2), if_pos rfl]
      refine rf1 I (fun s => f_X9_says s _ _) (fun σ1 _ _ => ?_)
      rw [hY, if_neg (show ¬ p2 < 0 from k1), if_neg k2']
/-! the acts -/
abbrev VL : Type := List Int32
def VC (kd : Nat) (m k : Int32) (N : VL) (σ0 σ : PH) : Prop := gI σ 3 1 = nI N.length ∧ (∀ i, i < N.length → gI σ 4 i = N.getD i 0) ∧ (∀ i, N.length ≤ i → gI σ 4 i = gI σ0 4 i) ∧ gI σ 3 2 = nI kd ∧ gI σ 3 3 = m ∧ gI σ 3 4 = k ∧ Fr (fun r _ => r = 3 ∨ r = 4) σ0 σ
def VM (N : VL) (σ0 σ : PH) : Prop := gI σ 81 43 = nI N.length ∧ (∀ i, i < N.length → gI σ 105 i = N.getD i 0) ∧ (∀ i, N.length ≤ i → gI σ 105 i = gI σ0 105 i) ∧ Fr (fun r k => (r = 81 ∧ k = 43) ∨ r = 105) σ0 σ
theorem getV_l {N : VL} {b : Int32} {i : Nat} (h : i < N.length) : (N ++ [b]).getD i 0 = N.getD i 0 := by
  rw [List.getD_eq_getElem?_getD, List.getElem?_append_left h, ← List.getD_eq_getElem?_getD]
theorem getV_r {N : VL} {b : Int32} : (N ++ [b]).getD N.length 0 = b := by simp [List.getD]
theorem note_ok {kd : Nat} {m k : Int32} {N : VL} {σ0 : PH} (h : VC kd m k N σ0 σ) (hN : N.length < 20) (b : Int32) : Rt (f_X6_note σ b) (VC kd m k (N ++ [b]) σ0) := by
  obtain ⟨h1, h2, h3, h4, h5, h6, h7⟩ := h
  unfold f_X6_note
  rw [h1]
  refine Rt.f (by rw [i_20, nI_leI (by decide) (by omega)]; omega) (Rt.c (inb_nI hN (by decide)) ?_)
  rw [bnd_d, bnd_d, nI_clamp (by omega), gI_put_ne (by omega), h1, nI_1]
  refine Rt.s ⟨?_, fun i hi => ?_, fun i hi => ?_, ?_, ?_, ?_, (h7.tr (Fr.pI (Or.inr rfl))).tr (Fr.pI (Or.inl rfl))⟩
  · rw [gI_put_eq, List.length_append]; rfl
  · rw [List.length_append, List.length_singleton] at hi
    rw [gI_put_ne (by omega)]
    rcases Nat.lt_or_eq_of_le (Nat.le_of_lt_succ hi) with hlt | rfl
    · rw [gI_put_ne (by omega), getV_l hlt]; exact h2 i hlt
    · rw [gI_put_eq, getV_r]
  · rw [List.length_append, List.length_singleton] at hi
    rw [gI_put_ne (by omega), gI_put_ne (by omega)]; exact h3 i (by omega)
  · rw [gI_put_ne (by omega), gI_put_ne (by omega)]; exact h4
  · rw [gI_put_ne (by omega), gI_put_ne (by omega)]; exact h5
  · rw [gI_put_ne (by omega), gI_put_ne (by omega)]; exact h6
theorem body_ok {N : VL} {σ0 : PH} (h : VM N σ0 σ) (hN : N.length < 20) (b : Int32) : Rt (f_X9_body σ b) (VM (N ++ [b]) σ0) := by
  obtain ⟨h1, h2, h3, h7⟩ := h
  unfold f_X9_body
  rw [h1]
  refine Rt.f (by rw [i_20, nI_leI (by decide) (by omega)]; omega) (Rt.c (inb_nI hN (by decide)) ?_)
  rw [bnd_d, bnd_d, nI_clamp (by omega), gI_put_ne (by omega), h1, nI_1]
  refine Rt.s ⟨?_, fun i hi => ?_, fun i hi => ?_, (h7.tr (Fr.pI (Or.inr rfl))).tr (Fr.pI (Or.inl ⟨rfl, rfl⟩))⟩
  · rw [gI_put_eq, List.length_append]; rfl
  · rw [List.length_append, List.length_singleton] at hi
    rw [gI_put_ne (by omega)]
    rcases Nat.lt_or_eq_of_le (Nat.le_of_lt_succ hi) with hlt | rfl
    · rw [gI_put_ne (by omega), getV_l hlt]; exact h2 i hlt
    · rw [gI_put_eq, getV_r]
  · rw [List.length_append, List.length_singleton] at hi
    rw [gI_put_ne (by omega), gI_put_ne (by omega)]; exact h3 i (by omega)
/-- one body begins -/
theorem run_step {kd : Nat} {m k : Int32} {N : VL} {σ0 : PH} (h : VC kd m k N σ0 σ) (hN : N.length < 20) {n f a dp : Nat} (hf : f < 7) (ha : a < 3) (hd : dp < 20) (x : Int32) {P : Int32 × PH → Prop} (kk : ∀ u9, VC kd m k (N ++ [sf 4 (3 * owC f a + a)]) σ0 u9 → Rt (if sf 4 (3 * owC f a + a) = 10 then (some (x + m, u9)) else (if sf 4 (3 * owC f a + a) = 11 then (obd (f_X6_run n u9 (nI kd) 0 x (nI (dp + 1))) fun u12 => some (u12.1 * 2, u12.2)) else (if sf 4 (3 * owC f a + a) = 12 then (obd (f_X6_run n u9 (nI kd) 1 x (nI (dp + 1))) fun u14 =>  obd (f_X6_run n u14.2 (gI u14.2 3 2) 0 (x - (gI u14.2 3 4)) (nI (dp + 1))) fun u15 => some (u14.1 ^^^ u15.1, u15.2)) else (if sf 4 (3 * owC f a + a) = 20 then (obd (f_X6_run n u9 (sf 0 (owC f a)) 0 x (nI (dp + 1))) fun u17 => some (u17.1 + (gI u17.2 3 4), u17.2)) else (if sf 4 (3 * owC f a + a) = 30 then (obd (f_X6_run n u9 (sf 0 (owC f a)) 1 x (nI (dp + 1))) fun u19 => some (u19.1 * 3, u19.2)) else (if sf 4 (3 * owC f a + a) = 40 then (obd (f_X6_run n u9 (sf 0 (owC f a)) 1 (x + 1) (nI (dp + 1))) fun u21 => some (u21.1, u21.2)) else (if sf 4 (3 * owC f a + a) = 50 then (obd (f_X6_run n u9 (sf 0 (owC f a)) 2 x (nI (dp + 1))) fun u23 => some (-u23.1, u23.2)) else (if sf 4 (3 * owC f a + a) = 51 then (obd (f_X6_run n u9 (sf 0 (owC f a)) 0 x (nI (dp + 1))) fun u25 => some (u25.1 - (gI u25.2 3 3), u25.2)) else (if sf 4 (3 * owC f a + a) = 60 then (obd (f_X6_run n u9 (sf 0 (owC f a)) 2 x (nI (dp + 1))) fun u27 => some (u27.1 ^^^ 5, u27.2)) else (if sf 4 (3 * owC f a + a) = 70 then (obd (f_X6_run n u9 (sf 0 (owC f a)) 0 x (nI (dp + 1))) fun u29 => some (u29.1 * 2, u29.2)) else (obd (f_X6_run n u9 (sf 0 (owC f a)) 1 (x - k) (nI (dp + 1))) fun u30 => some (u30.1, u30.2)))))))))))) P) : Rt (f_X6_run (n + 1) σ (nI f) (nI a) x (nI dp)) P := by
  have ho : owC f a < 7 := by
    have : ∀ f, f < 7 → ∀ a, a < 3 → owC f a < 7 := by decide
    exact this f hf a ha
  have e3 : (3 : Int32) * nI (owC f a) + nI a = nI (3 * owC f a + a) := by rw [i_3, pk_mul, nI_add]
  show Rt (g_X6_run (f_X6_run n) σ (nI f) (nI a) x (nI dp)) P
  unfold g_X6_run
  rw [owner_ok f hf a ha, obd_s, e3]
  refine Rt.f (nI_nm1 (by omega)) (Rt.t (by rw [i_20]; exact nI_lt hd (by decide)) (Rt.c (inb_nI (by omega) (by decide)) ?_))
  rw [bnd_d]
  refine Rt.c (inb_nI ho (by decide)) ?_
  rw [bnd_d, bnd_d, nI_clamp (by omega), nI_clamp (by omega), nI_1]
  refine Rt.o (note_ok h hN _) ?_
  intro u9 h9
  rw [h9.2.2.2.1, h9.2.2.2.2.1, h9.2.2.2.2.2.1]
  exact kk u9 h9
def sgV (f : Nat) (m k x : Int32) : Int32 := if f = 1 ∨ f = 3 then x + m + k else if f = 4 then x + m - m else if f = 6 then (x + m - m) * 2 else x + m
def sgN (f : Nat) : VL := if f = 1 ∨ f = 3 then [20, 10] else if f = 4 then [51, 10] else if f = 6 then [70, 51, 10] else [10]
theorem sgN_le (f : Nat) : (sgN f).length ≤ 3 := by unfold sgN; split; decide; split; decide; split <;> decide
theorem run_s0 {kd : Nat} {m k : Int32} {N : VL} {σ0 : PH} (h : VC kd m k N σ0 σ) (hN : N.length < 20) {n f dp : Nat} (hf : f = 0 ∨ f = 2 ∨ f = 5) (hd : dp < 20) (x : Int32) : Rt (f_X6_run (n + 1) σ (nI f) 0 x (nI dp)) (fun u => u.1 = x + m ∧ VC kd m k (N ++ [10]) σ0 u.2) := by
  refine run_step (a := 0) h hN (by omega) (by decide) hd x (fun u9 h9 => ?_)
  rcases hf with rfl | rfl | rfl <;> exact Rt.t rfl (Rt.s ⟨rfl, h9⟩)
theorem run_s {kd : Nat} {m k : Int32} {N : VL} {σ0 : PH} (h : VC kd m k N σ0 σ) (hN : N.length < 17) {n f dp : Nat} (hf : f < 7) (hd : dp < 17) (x : Int32) : Rt (f_X6_run (n + 3) σ (nI f) 0 x (nI dp)) (fun u => u.1 = sgV f m k x ∧ VC kd m k (N ++ sgN f) σ0 u.2) := by
  have one : ∀ b : Int32, (N ++ [b]).length < 20 := fun b => by rw [List.length_append]; simp only [List.length_cons, List.length_nil]; omega
  rcases (show (f = 0 ∨ f = 2 ∨ f = 5) ∨ f = 1 ∨ f = 3 ∨ f = 4 ∨ f = 6 by omega) with hf0 | rfl | rfl | rfl | rfl
  · refine (run_s0 (n := n + 2) h (by omega) hf0 (by omega) x).m ?_
    rcases hf0 with rfl | rfl | rfl <;> exact fun u hu => hu
  · refine run_step (n := n + 2) (a := 0) h (by omega) (by decide) (by decide) (by omega) x (fun u9 h9 => ?_)
    refine Rt.f (by decide) (Rt.f (by decide) (Rt.f (by decide) (Rt.t rfl ?_)))
    refine Rt.o (run_s0 (n := n + 1) (f := 0) h9 (one _) (Or.inl rfl) (by omega) x) ?_
    rintro ⟨v, u⟩ ⟨e, h2⟩
    refine Rt.s ⟨?_, ?_⟩
    · dsimp only at e h2 ⊢; rw [e, h2.2.2.2.2.2.1]; rfl
    · rw [List.append_assoc] at h2; exact h2
  · refine run_step (n := n + 2) (a := 0) h (by omega) (by decide) (by decide) (by omega) x (fun u9 h9 => ?_)
    refine Rt.f (by decide) (Rt.f (by decide) (Rt.f (by decide) (Rt.t rfl ?_)))
    refine Rt.o (run_s0 (n := n + 1) (f := 0) h9 (one _) (Or.inl rfl) (by omega) x) ?_
    rintro ⟨v, u⟩ ⟨e, h2⟩
    refine Rt.s ⟨?_, ?_⟩
    · dsimp only at e h2 ⊢; rw [e, h2.2.2.2.2.2.1]; rfl
    · rw [List.append_assoc] at h2; exact h2
  · refine run_step (n := n + 2) (a := 0) h (by omega) (by decide) (by decide) (by omega) x (fun u9 h9 => ?_)
    refine Rt.f (by decide) (Rt.f (by decide) (Rt.f (by decide) (Rt.f (by decide) (Rt.f (by decide) (Rt.f (by decide) (Rt.f (by decide) (Rt.t rfl ?_)))))))
    refine Rt.o (run_s0 (n := n + 1) (f := 0) h9 (one _) (Or.inl rfl) (by omega) x) ?_
    rintro ⟨v, u⟩ ⟨e, h2⟩
    refine Rt.s ⟨?_, ?_⟩
    · dsimp only at e h2 ⊢; rw [e, h2.2.2.2.2.1]; rfl
    · rw [List.append_assoc] at h2; exact h2
  · refine run_step (n := n + 2) (a := 0) h (by omega) (by decide) (by decide) (by omega) x (fun u9 h9 => ?_)
    refine Rt.f (by decide) (Rt.f (by decide) (Rt.f (by decide) (Rt.f (by decide) (Rt.f (by decide) (Rt.f (by decide) (Rt.f (by decide) (Rt.f (by decide) (Rt.f (by decide) (Rt.t rfl ?_)))))))))
    have r4 : Rt (f_X6_run (n + 2) u9 (nI 4) 0 x (nI (dp + 1))) (fun u => u.1 = x + m - m ∧ VC kd m k (N ++ [70, 51, 10]) σ0 u.2) := by
      refine run_step (n := n + 1) (f := 4) (a := 0) h9 (one _) (by decide) (by decide) (by omega) x (fun u8 h8 => ?_)
      refine Rt.f (by decide) (Rt.f (by decide) (Rt.f (by decide) (Rt.f (by decide) (Rt.f (by decide) (Rt.f (by decide) (Rt.f (by decide) (Rt.t rfl ?_)))))))
      refine Rt.o (run_s0 (n := n) (f := 0) h8 (by rw [List.length_append, List.length_append]; simp only [List.length_cons, List.length_nil]; omega) (Or.inl rfl) (by omega) x) ?_
      rintro ⟨v, u⟩ ⟨e, h2⟩
      refine Rt.s ⟨?_, ?_⟩
      · dsimp only at e h2 ⊢; rw [e, h2.2.2.2.2.1]
      · rw [List.append_assoc, List.append_assoc] at h2; exact h2
    refine Rt.o r4 ?_
    rintro ⟨v, u⟩ ⟨e, h2⟩
    refine Rt.s ⟨?_, h2⟩
    dsimp only at e ⊢; rw [e]; rfl
def hrV (kd f : Nat) (m k x : Int32) : Int32 := if f = 2 ∨ f = 5 then sgV kd m k x * 2 * 3 else if f = 3 then sgV kd m k (x + 1) * 2 else if f = 6 then sgV kd m k (x - k) * 2 else sgV kd m k x * 2
def hrN (kd f : Nat) : VL := if f = 2 ∨ f = 5 then 30 :: 11 :: sgN kd else if f = 3 then 40 :: 11 :: sgN kd else if f = 6 then 71 :: 11 :: sgN kd else 11 :: sgN kd
theorem hrN_le (kd f : Nat) : (hrN kd f).length ≤ 5 := by
  have := sgN_le kd
  unfold hrN; split
  · simp only [List.length_cons]; omega
  · split
    · simp only [List.length_cons]; omega
    · split <;> (simp only [List.length_cons]; omega)
theorem run_h0 {kd : Nat} (hkd : kd < 7) {m k : Int32} {N : VL} {σ0 : PH} (h : VC kd m k N σ0 σ) (hN : N.length < 16) {n f dp : Nat} (hf : f = 0 ∨ f = 1 ∨ f = 4) (hd : dp < 16) (x : Int32) : Rt (f_X6_run (n + 4) σ (nI f) 1 x (nI dp)) (fun u => u.1 = sgV kd m k x * 2 ∧ VC kd m k (N ++ 11 :: sgN kd) σ0 u.2) := by
  refine run_step (n := n + 3) (a := 1) h (by omega) (by omega) (by decide) (by omega) x (fun u9 h9 => ?_)
  have l1 : (N ++ [(11 : Int32)]).length < 17 := by rw [List.length_append]; simp only [List.length_cons, List.length_nil]; omega
  rcases hf with rfl | rfl | rfl
  all_goals
    refine Rt.f (by decide) (Rt.t rfl (Rt.o (run_s (n := n) h9 l1 hkd (by omega) x) ?_))
    rintro ⟨v, u⟩ ⟨e, h2⟩
    refine Rt.s ⟨?_, ?_⟩
    · dsimp only at e ⊢; rw [e]
    · rw [List.append_assoc] at h2; exact h2
theorem run_h {kd : Nat} (hkd : kd < 7) {m k : Int32} {N : VL} {σ0 : PH} (h : VC kd m k N σ0 σ) (hN : N.length < 15) {n f dp : Nat} (hf : f < 7) (hd : dp < 15) (x : Int32) : Rt (f_X6_run (n + 5) σ (nI f) 1 x (nI dp)) (fun u => u.1 = hrV kd f m k x ∧ VC kd m k (N ++ hrN kd f) σ0 u.2) := by
  have one : ∀ b : Int32, (N ++ [b]).length < 16 := fun b => by rw [List.length_append]; simp only [List.length_cons, List.length_nil]; omega
  rcases (show (f = 0 ∨ f = 1 ∨ f = 4) ∨ (f = 2 ∨ f = 5) ∨ f = 3 ∨ f = 6 by omega) with hf0 | hf0 | rfl | rfl
  · refine (run_h0 hkd (n := n + 1) h (by omega) hf0 (by omega) x).m ?_
    rcases hf0 with rfl | rfl | rfl <;> exact fun u hu => hu
  · refine run_step (n := n + 4) (a := 1) h (by omega) (by omega) (by decide) (by omega) x (fun u9 h9 => ?_)
    rcases hf0 with rfl | rfl
    all_goals
      refine Rt.f (by decide) (Rt.f (by decide) (Rt.f (by decide) (Rt.f (by decide) (Rt.t rfl ?_))))
      refine Rt.o (run_h0 hkd (n := n) (f := 0) h9 (one _) (Or.inl rfl) (by omega) x) ?_
      rintro ⟨v, u⟩ ⟨e, h2⟩
      refine Rt.s ⟨?_, ?_⟩
      · dsimp only at e ⊢; rw [e]; rfl
      · rw [List.append_assoc] at h2; exact h2
  · refine run_step (n := n + 4) (a := 1) h (by omega) (by decide) (by decide) (by omega) x (fun u9 h9 => ?_)
    refine Rt.f (by decide) (Rt.f (by decide) (Rt.f (by decide) (Rt.f (by decide) (Rt.f (by decide) (Rt.t rfl ?_)))))
    refine Rt.o (run_h0 hkd (n := n) (f := 1) h9 (one _) (Or.inr (Or.inl rfl)) (by omega) (x + 1)) ?_
    rintro ⟨v, u⟩ ⟨e, h2⟩
    refine Rt.s ⟨?_, ?_⟩
    · dsimp only at e ⊢; rw [e]; rfl
    · rw [List.append_assoc] at h2; exact h2
  · refine run_step (n := n + 4) (a := 1) h (by omega) (by decide) (by decide) (by omega) x (fun u9 h9 => ?_)
    refine Rt.f (by decide) (Rt.f (by decide) (Rt.f (by decide) (Rt.f (by decide) (Rt.f (by decide) (Rt.f (by decide) (Rt.f (by decide) (Rt.f (by decide) (Rt.f (by decide) (Rt.f (by decide) ?_)))))))))
    refine Rt.o (run_h0 hkd (n := n) (f := 4) h9 (one _) (Or.inr (Or.inr rfl)) (by omega) (x - k)) ?_
    rintro ⟨v, u⟩ ⟨e, h2⟩
    refine Rt.s ⟨?_, ?_⟩
    · dsimp only at e ⊢; rw [e]; rfl
    · rw [List.append_assoc] at h2; exact h2
def lnB (kd : Nat) (m k x : Int32) : Int32 := hrV kd kd m k x ^^^ sgV kd m k (x - k)
def lnV (kd : Nat) (m k x : Int32) : Int32 := if kd = 4 ∨ kd = 6 then -lnB kd m k x else if kd = 5 then lnB kd m k x ^^^ 5 else lnB kd m k x
def lnN (kd : Nat) : VL := (if kd = 4 ∨ kd = 6 then [50] else if kd = 5 then [60] else []) ++ (12 :: (hrN kd kd ++ sgN kd))
theorem run_l0 {kd : Nat} (hkd : kd < 7) {m k : Int32} {N : VL} {σ0 : PH} (h : VC kd m k N σ0 σ) (hN : N.length < 8) {n f dp : Nat} (hf : f < 4) (hd : dp < 14) (x : Int32) : Rt (f_X6_run (n + 6) σ (nI f) 2 x (nI dp)) (fun u => u.1 = lnB kd m k x ∧ VC kd m k (N ++ (12 :: (hrN kd kd ++ sgN kd))) σ0 u.2) := by
  have l1 : (N ++ [(12 : Int32)]).length < 10 := by rw [List.length_append]; simp only [List.length_cons, List.length_nil]; omega
  have lh := hrN_le kd kd
  refine run_step (n := n + 5) (a := 2) h (by omega) (by omega) (by decide) (by omega) x (fun u9 h9 => ?_)
  rcases (show f = 0 ∨ f = 1 ∨ f = 2 ∨ f = 3 by omega) with rfl | rfl | rfl | rfl
  all_goals
    refine Rt.f (by decide) (Rt.f (by decide) (Rt.t rfl (Rt.o (run_h hkd (n := n) h9 (Nat.lt_trans l1 (by decide)) hkd (by omega) x) ?_)))
    rintro ⟨v, u⟩ ⟨e, h2⟩
    dsimp only at e h2 ⊢
    rw [h2.2.2.2.1, h2.2.2.2.2.2.1]
    refine Rt.o (run_s (n := n + 2) h2 (by rw [List.length_append]; exact Nat.lt_of_lt_of_le (Nat.add_lt_add_of_lt_of_le l1 lh) (by decide)) hkd (by omega) (x - k)) ?_
    rintro ⟨v2, u2⟩ ⟨e2, h3⟩
    refine Rt.s ⟨?_, ?_⟩
    · dsimp only at e2 ⊢; rw [e, e2]; rfl
    · rw [List.append_assoc, List.append_assoc] at h3; exact h3
theorem run_l {kd : Nat} (hkd : kd < 7) {m k : Int32} {N : VL} {σ0 : PH} (h : VC kd m k N σ0 σ) (hN : N.length < 7) {n dp : Nat} (hd : dp < 13) (x : Int32) : Rt (f_X6_run (n + 7) σ (nI kd) 2 x (nI dp)) (fun u => u.1 = lnV kd m k x ∧ VC kd m k (N ++ lnN kd) σ0 u.2) := by
  have one : ∀ b : Int32, (N ++ [b]).length < 8 := fun b => by rw [List.length_append]; simp only [List.length_cons, List.length_nil]; omega
  rcases (show kd < 4 ∨ (kd = 4 ∨ kd = 6) ∨ kd = 5 by omega) with hk | hk | rfl
  · refine (run_l0 hkd (n := n + 1) h (by omega) hk (by omega) x).m ?_
    intro u hu
    unfold lnV lnN
    rw [if_neg (by omega), if_neg (by omega), if_neg (by omega), if_neg (by omega)]
    exact hu
  · refine run_step (n := n + 6) (a := 2) h (by omega) hkd (by decide) (by omega) x (fun u9 h9 => ?_)
    rcases hk with rfl | rfl
    all_goals
      refine Rt.f (by decide) (Rt.f (by decide) (Rt.f (by decide) (Rt.f (by decide) (Rt.f (by decide) (Rt.f (by decide) (Rt.t rfl ?_))))))
      refine Rt.o (run_l0 hkd (n := n) (f := 0) h9 (one _) (by decide) (by omega) x) ?_
      rintro ⟨v, u⟩ ⟨e, h2⟩
      refine Rt.s ⟨?_, ?_⟩
      · dsimp only at e ⊢; rw [e]; rfl
      · rw [List.append_assoc] at h2; exact h2
  · refine run_step (n := n + 6) (a := 2) h (by omega) hkd (by decide) (by omega) x (fun u9 h9 => ?_)
    refine Rt.f (by decide) (Rt.f (by decide) (Rt.f (by decide) (Rt.f (by decide) (Rt.f (by decide) (Rt.f (by decide) (Rt.f (by decide) (Rt.f (by decide) (Rt.t rfl ?_))))))))
    refine Rt.o (run_l0 hkd (n := n) (f := 2) h9 (one _) (by decide) (by omega) x) ?_
    rintro ⟨v, u⟩ ⟨e, h2⟩
    refine Rt.s ⟨?_, ?_⟩
    · dsimp only at e ⊢; rw [e]; rfl
    · rw [List.append_assoc] at h2; exact h2
end V1
