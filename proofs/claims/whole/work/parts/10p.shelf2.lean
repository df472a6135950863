section S2
variable {j : Nat} {c : CV} {r : Nat → Nat} {hs : HS} {tr : Nat} {sd : Int32} {σ σ' : PH} {d : PD}
/-- what is put in keeps its lowest bits -/
def cutV (o : Nat) (v : Int64) : Int64 := if o = 0 then v.toInt32.toInt8.toInt32.toInt64 else if o = 1 then v.toInt32.toInt16.toInt32.toInt64 else if o = 2 then v.toInt32.toInt64 else v
theorem f4_put {s o z i : Nat} (hs8 : s < 8) (ho : o < 4) (hz : z ≤ 160) (hi : i < z) (h0 : gI σ (14 + 2 * s) 0 = nI (100 + o)) (h1 : gI σ (14 + 2 * s) 1 = nI z) (v : Int64) : f_X4_put σ (14 + 2 * s) (nI i) v = some (putJ σ (15 + 2 * s) i (cutV o v)) := by
  have q1 : f_X4_hasElement σ (14 + 2 * s) (nI i) = 1 := by
    rcases elem_i z hz (nI i) h1 with ⟨-, q⟩ | ⟨-, -, -, q⟩
    · exfalso
      rcases q with q | ⟨qa, qb, qc⟩
      · exact nI_nlt0 (by omega) q
      · rw [nI_leI (by omega) (by omega)] at qc; omega
    · exact q
  have e160 : inb (nI i) 160 = true := inb_nI (by omega) (by decide)
  have e15 : 14 + 2 * s + 1 = 15 + 2 * s := by omega
  unfold f_X4_put
  rw [bnd_d, q1, if_neg (by decide), h0, i_100, pk_sub (by omega), show 100 + o - 100 = o by omega, chk_t e160, chk_t e160, chk_t e160, chk_t e160, nI_clamp (by omega), e15, bnd_d, bnd_d, bnd_d, bnd_d]
  unfold cutV
  rcases (show o = 0 ∨ o = 1 ∨ o = 2 ∨ o = 3 by omega) with rfl | rfl | rfl | rfl
  · rw [if_pos (show nI 0 = 0 from rfl), if_pos rfl]
  · rw [if_neg (show ¬ nI 1 = 0 by decide), if_pos (show nI 1 = 1 from rfl), if_neg (by decide), if_pos rfl]
  · rw [if_neg (show ¬ nI 2 = 0 by decide), if_neg (show ¬ nI 2 = 1 by decide), if_pos (show nI 2 = 2 from rfl), if_neg (by decide), if_neg (by decide), if_pos rfl]
  · rw [if_neg (show ¬ nI 3 = 0 by decide), if_neg (show ¬ nI 3 = 1 by decide), if_neg (show ¬ nI 3 = 2 by decide), if_neg (by decide), if_neg (by decide), if_neg (by decide)]
theorem st_set (σ : PH) (d : PD) (p1 p2 : Int32) (p3 : Int64) (hI : Inv σ d) : ∃ (u v : Int32 × PH), f_X8_set σ p1 p2 p3 = some u ∧ f_X9_set u.2 p1 p2 p3 = some v ∧ u.1 = v.1 ∧ Inv v.2 d := by
  obtain ⟨c, r, hs, tr, sd, I⟩ := hI
  have ok := I.2.1.1
  have n8 := ok.1
  refine two (y := fun s => f_X9_set s p1 p2 p3) ?_
  unfold f_X8_set
  rcases shelf_i p1 with ⟨e1, e2, -⟩ | ⟨s, hs8, rfl, e1, e2⟩
  · rw [lackN e1, obd_s, if_neg (by decide)]
    refine rf1 I (fun s => f_X9_set s p1 p2 p3) (fun σ1 _ _ => ?_)
    unfold f_X9_set
    rw [bnd_d, e2, if_pos rfl]
  · have c8 := inb_nI (k := s) (N := 8) hs8 (by decide)
    have hs31 : s < 2 ^ 31 := by omega
    have I8 := I.2.2.2.2 s hs8
    rcases I8 with ⟨h0, h1⟩ | ⟨h0, o, z, ho, hz, h2, h3, h4, h5, h6⟩ | ⟨h0, x, hx, h1, h2⟩
    · rw [lack0 hs8 h1, obd_s, if_neg (by decide)]
      refine rf3 I (fun s => f_X9_set s _ p2 p3) (fun σ1 _ F => ?_)
      have g : gI σ1 89 s = 0 := by rw [F.I (by omega)]; exact h0
      unfold f_X9_set
      rw [bnd_d, e2, if_neg (by decide), chk_t c8, nI_clamp hs31, g, if_neg (by decide), chk_t c8, if_pos rfl]
    · rw [lack1 hs8 ho h4, obd_s, if_pos rfl, chk_t c8, bnd_d, bnd_d, cl8 hs8]
      rcases elem_i z hz p2 h5 with ⟨q1, q2⟩ | ⟨i, hi, rfl, q1⟩
      · rw [q1, if_pos rfl]
        refine rf5 I (fun s => f_X9_set s _ p2 p3) (fun σ1 _ F => ?_)
        have g : gI σ1 89 s = 1 := by rw [F.I (by omega)]; exact h0
        have g3 : gI σ1 91 s = nI z := by rw [F.I (by omega)]; exact h3
        unfold f_X9_set
        rw [bnd_d, e2, if_neg (by decide), chk_t c8, nI_clamp hs31, g, if_neg (by decide), chk_t c8, if_neg (by decide), g3]
        rcases q2 with q | ⟨qa, qb, qc⟩
        · rw [if_pos q]
        · rw [if_neg qa, chk_t c8, if_neg qb]
      · rw [q1, if_neg (by decide), chk_t c8, bnd_d, f4_put hs8 ho hz hi h4 h5, obd_s]
        refine Rt.s ?_
        dsimp only
        have F1 : Fr (fun r k => r = 15 + 2 * s) σ (putJ σ (15 + 2 * s) i (cutV o p3)) := Fr.pJ rfl
        have b1 : gJ (putJ σ (15 + 2 * s) i (cutV o p3)) (15 + 2 * s) i = cutV o p3 := gJ_put_eq
        have b2 : ∀ k, k ≠ i → gJ (putJ σ (15 + 2 * s) i (cutV o p3)) (15 + 2 * s) k = gJ σ (15 + 2 * s) k := fun k hk => gJ_put_ne (Or.inr hk)
        have bI : ∀ r k, gI (putJ σ (15 + 2 * s) i (cutV o p3)) r k = gI σ r k := fun _ _ => rfl
        generalize putJ σ (15 + 2 * s) i (cutV o p3) = σ1 at *
        have e9 : f_X9_set σ1 (nI s) (nI i) p3 = some (1, putJ σ1 93 (160 * s + i) (cutV o p3)) := by
          have e12 : inb (nI (160 * s + i)) 1280 = true := inb_nI (by omega) (by decide)
          unfold f_X9_set
          rw [bnd_d, e2, if_neg (by decide), chk_t c8, nI_clamp hs31, bI, h0, if_neg (by decide), chk_t c8, if_neg (by decide), if_neg (nI_nlt0 (by omega)), chk_t c8, bI, h3, if_pos (nI_lt hi (by omega)), chk_t c8, bI, h2, i_160, pk_mul, nI_add, chk_t e12, chk_t c8, chk_t e12, chk_t c8, chk_t e12, chk_t e12, nI_clamp (by omega), bnd_d, bnd_d, bnd_d, bnd_d]
          unfold cutV
          rcases (show o = 0 ∨ o = 1 ∨ o = 2 ∨ o = 3 by omega) with rfl | rfl | rfl | rfl
          · rw [if_pos (show nI 0 = 0 from rfl), if_pos rfl]
          · rw [if_neg (show ¬ nI 1 = 0 by decide), if_pos (show nI 1 = 1 from rfl), if_neg (by decide), if_pos rfl]
          · rw [if_neg (show ¬ nI 2 = 0 by decide), if_neg (show ¬ nI 2 = 1 by decide), if_pos (show nI 2 = 2 from rfl), if_neg (by decide), if_neg (by decide), if_pos rfl]
          · rw [if_neg (show ¬ nI 3 = 0 by decide), if_neg (show ¬ nI 3 = 1 by decide), if_neg (show ¬ nI 3 = 2 by decide), if_neg (by decide), if_neg (by decide), if_neg (by decide)]
        rw [e9]
        have F2 : Fr (WS s) σ (putJ σ1 93 (160 * s + i) (cutV o p3)) := (F1.mono (fun r k z => by unfold WS; omega)).tr (Fr.pJ (by unfold WS; omega))
        refine Rt.s ⟨rfl, (I.shl hs8 F2 (Or.inr (Or.inl ⟨?_, o, z, ho, hz, ?_, ?_, ?_, ?_, fun k hk => ?_⟩))).inv⟩
        · rw [gI_putJ, bI]; exact h0
        · rw [gI_putJ, bI]; exact h2
        · rw [gI_putJ, bI]; exact h3
        · rw [gI_putJ, bI]; exact h4
        · rw [gI_putJ, bI]; exact h5
        · rw [gJ_put_ne (r := 93) (q := 15 + 2 * s) (Or.inl (by omega))]
          by_cases e : k = i
          · subst e; rw [gJ_put_eq, b1]
          · rw [gJ_put_ne (Or.inr (by omega)), b2 k e, h6 k hk, F1.J (by omega)]
    · rw [lack2 hs8 (by omega) h2, obd_s, if_neg (by decide)]
      refine rf2 I (fun s => f_X9_set s _ p2 p3) (fun σ1 _ F => ?_)
      have g : gI σ1 89 s = 2 := by rw [F.I (by omega)]; exact h0
      unfold f_X9_set
      rw [bnd_d, e2, if_neg (by decide), chk_t c8, nI_clamp hs31, g, if_pos rfl]
/-- which state a shelf is in, as both see it -/
def stS (n : Nat) (σ : PH) (s t : Nat) : Prop :=
  (t = 0 ∧ gI σ 89 s = 0 ∧ gI σ (14 + 2 * s) 0 = -1) ∨
  (t = 1 ∧ gI σ 89 s = 1 ∧ ∃ o z, o < 4 ∧ z ≤ 160 ∧ gI σ 90 s = nI o ∧ gI σ 91 s = nI z ∧ gI σ (14 + 2 * s) 0 = nI (100 + o) ∧ gI σ (14 + 2 * s) 1 = nI z ∧ ∀ i, i < z → gJ σ (15 + 2 * s) i = gJ σ 93 (160 * s + i)) ∨
  (t = 2 ∧ gI σ 89 s = 2 ∧ ∃ x, x < n ∧ gI σ 92 s = nI x ∧ gI σ (14 + 2 * s) 0 = nI x)
theorem f4_hasElements {q z : Nat} (hz : z ≤ 160) (h1 : gI σ q 1 = nI z) (p3 : Int32) {m : Nat} (hm : m < 2 ^ 31) : f_X4_hasElements σ q p3 (nI m) = (if p3 < 0 then 0 else if nI z - nI m < p3 then 0 else 1) := by
  unfold f_X4_hasElements
  rw [h1]
  by_cases a : p3 < 0
  · rw [if_pos a, if_pos a]
  · rw [if_neg a, if_neg a, if_neg (nI_nlt0 hm)]
    by_cases b : nI z < nI m
    · rw [if_pos b, if_pos]
      rw [nI_ltI (by omega) hm] at b
      rw [Int32.lt_iff_toInt_lt] at a ⊢
      have h0 : (0 : Int32).toInt = 0 := by decide
      have e : (nI z - nI m).toInt = (z : Int) - m := by
        rw [Int32.toInt_sub, nI_toInt (by omega), nI_toInt hm, Int.bmod_eq_of_le (by omega) (by omega)]
      rw [e]; omega
    · rw [if_neg b]
theorem st_copy (σ : PH) (d : PD) (p1 p2 p3 p4 p5 : Int32) (hI : Inv σ d) : ∃ (u v : Int32 × PH), f_X8_copy σ p1 p2 p3 p4 p5 = some u ∧ f_X9_copy u.2 p1 p2 p3 p4 p5 = some v ∧ u.1 = v.1 ∧ Inv v.2 d := by
  obtain ⟨c, r, hs, tr, sd, I⟩ := hI
  have ok := I.2.1.1
  have n8 := ok.1
  refine two (y := fun s => f_X9_copy s p1 p2 p3 p4 p5) ?_
  unfold f_X8_copy
  rcases shelf_i p1 with ⟨e1, e2, -⟩ | ⟨p, hp8, rfl, e1, e2⟩
  · have hl : f_X8_lackForCopy σ p1 p2 = some (-1) := by
      unfold f_X8_lackForCopy
      rw [lackN e1, obd_s]
      rcases shelf_i p2 with ⟨a1, a2, -⟩ | ⟨q, hq8, rfl, a1, a2⟩
      · rw [lackN a1, obd_s, if_pos rfl]
      · rcases I.2.2.2.2 q hq8 with ⟨h0, h1⟩ | ⟨h0, o, z, ho, hz, h2, h3, h4, h5, h6⟩ | ⟨h0, x, hx, h1, h2⟩
        · rw [lack0 hq8 h1, obd_s, if_pos rfl]
        · rw [lack1 hq8 ho h4, obd_s, if_pos rfl]
        · rw [lack2 hq8 (by omega) h2, obd_s, if_pos rfl]
    rw [hl, obd_s, if_neg (by decide)]
    refine rf1 I (fun s => f_X9_copy s p1 p2 p3 p4 p5) (fun σ1 _ _ => ?_)
    unfold f_X9_copy
    rw [bnd_d, e2, if_pos rfl]
  · have cp := inb_nI (k := p) (N := 8) hp8 (by decide)
    have hp31 : p < 2 ^ 31 := by omega
    have Lp : ∃ t, stS (cN c) σ p t ∧ f_X8_lackOfRow σ (nI p) = some (if t = 0 then -3 else if t = 1 then 0 else -2) := by
      rcases I.2.2.2.2 p hp8 with ⟨h0, h1⟩ | ⟨h0, h⟩ | ⟨h0, x, hx, h1, h2⟩
      · exact ⟨0, Or.inl ⟨rfl, h0, h1⟩, lack0 hp8 h1⟩
      · obtain ⟨o, z, ho, hz, h2, h3, h4, h5, h6⟩ := id h
        exact ⟨1, Or.inr (Or.inl ⟨rfl, h0, h⟩), lack1 hp8 ho h4⟩
      · exact ⟨2, Or.inr (Or.inr ⟨rfl, h0, x, hx, h1, h2⟩), lack2 hp8 (by omega) h2⟩
    obtain ⟨tp, Sp, lp⟩ := Lp
    rcases shelf_i p2 with ⟨a1, a2, -⟩ | ⟨q, hq8, rfl, a1, a2⟩
    · have hl : f_X8_lackForCopy σ (nI p) p2 = some (-1) := by
        unfold f_X8_lackForCopy
        rw [lp, obd_s, lackN a1, obd_s]
        generalize (if tp = 0 then (-3 : Int32) else if tp = 1 then 0 else -2) = w
        by_cases h : w = -1
        · rw [if_pos h]
        · rw [if_neg h, if_pos rfl]
      rw [hl, obd_s, if_neg (by decide)]
      refine rf1 I (fun s => f_X9_copy s _ p2 p3 p4 p5) (fun σ1 _ _ => ?_)
      unfold f_X9_copy
      rw [bnd_d, e2, if_neg (by decide), bnd_d, a2, if_pos rfl]
    · have cq := inb_nI (k := q) (N := 8) hq8 (by decide)
      have hq31 : q < 2 ^ 31 := by omega
      have Lq : ∃ t, stS (cN c) σ q t ∧ f_X8_lackOfRow σ (nI q) = some (if t = 0 then -3 else if t = 1 then 0 else -2) := by
        rcases I.2.2.2.2 q hq8 with ⟨h0, h1⟩ | ⟨h0, h⟩ | ⟨h0, x, hx, h1, h2⟩
        · exact ⟨0, Or.inl ⟨rfl, h0, h1⟩, lack0 hq8 h1⟩
        · obtain ⟨o, z, ho, hz, h2, h3, h4, h5, h6⟩ := id h
          exact ⟨1, Or.inr (Or.inl ⟨rfl, h0, h⟩), lack1 hq8 ho h4⟩
        · exact ⟨2, Or.inr (Or.inr ⟨rfl, h0, x, hx, h1, h2⟩), lack2 hq8 (by omega) h2⟩
      obtain ⟨tq, Sq, lq⟩ := Lq
      have eX9 : ∀ (σ1 : PH) (v w : Int32), gI σ1 89 p = v → gI σ1 89 q = w → f_X9_copy σ1 (nI p) (nI q) p3 p4 p5 = (if v = 2 then (obd (f_X9_no σ1 (-2)) fun u8 => some (u8.1, u8.2)) else if w = 2 then (obd (f_X9_no σ1 (-2)) fun u11 => some (u11.1, u11.2)) else if v = 1 then (if w = 1 then (if (gI σ1 90 p) = (gI σ1 90 q) then (j_X9_copy_84 σ1 (nI p) (nI q) p3 p4 p5) else (obd (f_X9_no σ1 (-2)) fun u52 => some (u52.1, u52.2))) else (j_X9_copy_84 σ1 (nI p) (nI q) p3 p4 p5)) else (j_X9_copy_84 σ1 (nI p) (nI q) p3 p4 p5)) := fun σ1 v w hv hw => by
        unfold f_X9_copy
        rw [bnd_d, e2, if_neg (by decide), bnd_d, a2, if_neg (by decide), chk_t cp, nI_clamp hp31, hv, chk_t cq, nI_clamp hq31, hw, chk_t cp, chk_t cq, chk_t cp, chk_t cq]
      have eJ : ∀ (σ1 : PH) (v w : Int32), gI σ1 89 p = v → gI σ1 89 q = w → (v = 0 ∨ w = 0) → j_X9_copy_84 σ1 (nI p) (nI q) p3 p4 p5 = obd (f_X9_no σ1 (-3)) (fun u => some (u.1, u.2)) := fun σ1 v w hv hw h => by
        unfold j_X9_copy_84
        rw [chk_t cp, nI_clamp hp31, hv, chk_t cq, nI_clamp hq31, hw]
        by_cases z : v = 0
        · rw [if_pos z]
        · rw [if_neg z, if_pos (h.resolve_left z)]
      have g89 : ∀ (σ1 : PH) (s : Nat), Fr (fun r _ => r = 2) σ σ1 → gI σ1 89 s = gI σ 89 s := fun σ1 s F => F.I (by omega)
      have no2 : ∀ (hl : f_X8_lackForCopy σ (nI p) (nI q) = some (-2)) (h9 : ∀ σ1, Fr (fun r _ => r = 2) σ σ1 → f_X9_copy σ1 (nI p) (nI q) p3 p4 p5 = obd (f_X9_no σ1 (-2)) (fun u => some (u.1, u.2))), Rt (obd (f_X8_refuse σ (-2)) (fun u => some (u.1, u.2))) (fun u => Rt (f_X9_copy u.2 (nI p) (nI q) p3 p4 p5) (fun v => u.1 = v.1 ∧ Inv v.2 d)) := fun _ h9 =>
        rf2 I (fun s => f_X9_copy s (nI p) (nI q) p3 p4 p5) (fun σ1 _ F => h9 σ1 F)
      have no3 : (∀ σ1, Fr (fun r _ => r = 2) σ σ1 → f_X9_copy σ1 (nI p) (nI q) p3 p4 p5 = obd (f_X9_no σ1 (-3)) (fun u => some (u.1, u.2))) → Rt (obd (f_X8_refuse σ (-3)) (fun u => some (u.1, u.2))) (fun u => Rt (f_X9_copy u.2 (nI p) (nI q) p3 p4 p5) (fun v => u.1 = v.1 ∧ Inv v.2 d)) := fun h9 =>
        rf3 I (fun s => f_X9_copy s (nI p) (nI q) p3 p4 p5) (fun σ1 _ F => h9 σ1 F)
      rcases Sp with ⟨rfl, hp0, -⟩ | ⟨rfl, hp0, o, z, ho, hz, h2, h3, h4, h5, h6⟩ | ⟨rfl, hp0, -⟩
      · rcases Sq with ⟨rfl, hq0, -⟩ | ⟨rfl, hq0, -⟩ | ⟨rfl, hq0, -⟩
        · have hl : f_X8_lackForCopy σ (nI p) (nI q) = some (-3) := by
            unfold f_X8_lackForCopy
            rw [lp, obd_s, lq, obd_s]; rfl
          rw [hl, obd_s, if_neg (by decide)]
          refine no3 (fun σ1 F => ?_)
          rw [eX9 σ1 0 0 (by rw [g89 _ _ F]; exact hp0) (by rw [g89 _ _ F]; exact hq0), if_neg (by decide), if_neg (by decide), if_neg (by decide)]
          exact eJ σ1 0 0 (by rw [g89 _ _ F]; exact hp0) (by rw [g89 _ _ F]; exact hq0) (Or.inl rfl)
        · have hl : f_X8_lackForCopy σ (nI p) (nI q) = some (-3) := by
            unfold f_X8_lackForCopy
            rw [lp, obd_s, lq, obd_s]; rfl
          rw [hl, obd_s, if_neg (by decide)]
          refine no3 (fun σ1 F => ?_)
          rw [eX9 σ1 0 1 (by rw [g89 _ _ F]; exact hp0) (by rw [g89 _ _ F]; exact hq0), if_neg (by decide), if_neg (by decide), if_neg (by decide)]
          exact eJ σ1 0 1 (by rw [g89 _ _ F]; exact hp0) (by rw [g89 _ _ F]; exact hq0) (Or.inl rfl)
        · have hl : f_X8_lackForCopy σ (nI p) (nI q) = some (-2) := by
            unfold f_X8_lackForCopy
            rw [lp, obd_s, lq, obd_s]; rfl
          rw [hl, obd_s, if_neg (by decide)]
          refine no2 hl (fun σ1 F => ?_)
          rw [eX9 σ1 0 2 (by rw [g89 _ _ F]; exact hp0) (by rw [g89 _ _ F]; exact hq0), if_neg (by decide), if_pos rfl]
      · rcases Sq with ⟨rfl, hq0, -⟩ | ⟨rfl, hq0, o2, z2, ho2, hz2, k2, k3, k4, k5, k6⟩ | ⟨rfl, hq0, -⟩
        · have hl : f_X8_lackForCopy σ (nI p) (nI q) = some (-3) := by
            unfold f_X8_lackForCopy
            rw [lp, obd_s, lq, obd_s]; rfl
          rw [hl, obd_s, if_neg (by decide)]
          refine no3 (fun σ1 F => ?_)
          rw [eX9 σ1 1 0 (by rw [g89 _ _ F]; exact hp0) (by rw [g89 _ _ F]; exact hq0), if_neg (by decide), if_neg (by decide), if_pos rfl, if_neg (by decide)]
          exact eJ σ1 1 0 (by rw [g89 _ _ F]; exact hp0) (by rw [g89 _ _ F]; exact hq0) (Or.inr rfl)
        · have hl0 : f_X8_lackForCopy σ (nI p) (nI q) = if nI (100 + o) = nI (100 + o2) then some 0 else some (-2) := by
            unfold f_X8_lackForCopy
            rw [lp, obd_s, lq, obd_s]
            show (chk (inb (nI p) 8 = true) _) = _
            rw [chk_t cp, bnd_d, chk_t cq, bnd_d, cl8 hp8, cl8 hq8, h4, k4]
          by_cases eo : o = o2
          · subst eo
            rw [hl0, if_pos rfl, obd_s, if_pos rfl]
            have e9 : ∀ σ1, gI σ1 89 p = 1 → gI σ1 89 q = 1 → gI σ1 90 p = nI o → gI σ1 90 q = nI o → gI σ1 91 p = nI z → gI σ1 91 q = nI z2 → f_X9_copy σ1 (nI p) (nI q) p3 p4 p5 = (if 0 ≤ p5 then (if p3 < 0 then (obd (f_X9_no σ1 (-5)) fun u20 => some (u20.1, u20.2)) else (if p4 < 0 then (obd (f_X9_no σ1 (-5)) fun u22 => some (u22.1, u22.2)) else (if (nI z - p5) < p3 then (obd (f_X9_no σ1 (-5)) fun u25 => some (u25.1, u25.2)) else (if p4 ≤ (nI z2 - p5) then (loopN (b_X9_copy_167 (nI p) (nI q) p3 p4 p5) FU (0, σ1)) else (obd (f_X9_no σ1 (-5)) fun u43 => some (u43.1, u43.2)))))) else (obd (f_X9_no σ1 (-4)) fun u44 => some (u44.1, u44.2))) := fun σ1 b1 b2 b3 b4 b5 b6 => by
              rw [eX9 σ1 1 1 b1 b2, if_neg (by decide), if_neg (by decide), if_pos rfl, if_pos rfl, b3, b4, if_pos rfl]
              unfold j_X9_copy_84
              rw [chk_t cp, nI_clamp hp31, b1, if_neg (by decide), chk_t cq, nI_clamp hq31, b2, if_neg (by decide), chk_t cp, b5, chk_t cq, b6]
            by_cases n0 : 0 ≤ p5
            · rw [if_pos n0, chk_t cp, bnd_d, bnd_d, cl8 hp8]
              obtain ⟨m, hm, rfl⟩ := nI_of (x := p5) (fun z => by
                rw [Int32.lt_iff_toInt_lt] at z
                rw [Int32.le_iff_toInt_le] at n0
                omega)
              rw [f4_hasElements hz h5 p3 hm]
              have no5 : ((p3 < 0) ∨ (¬ p3 < 0 ∧ nI z - nI m < p3) ∨ (p4 < 0) ∨ (¬ p4 < 0 ∧ nI z2 - nI m < p4)) → Rt (obd (f_X8_refuse σ (-5)) (fun u => some (u.1, u.2))) (fun u => Rt (f_X9_copy u.2 (nI p) (nI q) p3 p4 (nI m)) (fun v => u.1 = v.1 ∧ Inv v.2 d)) := fun h => by
                refine rf5 I (fun s => f_X9_copy s (nI p) (nI q) p3 p4 (nI m)) (fun σ1 _ F => ?_)
                rw [e9 σ1 (by rw [F.I (by omega)]; exact hp0) (by rw [F.I (by omega)]; exact hq0) (by rw [F.I (by omega)]; exact h2) (by rw [F.I (by omega)]; exact k2) (by rw [F.I (by omega)]; exact h3) (by rw [F.I (by omega)]; exact k3), if_pos n0]
                by_cases y1 : p3 < 0
                · rw [if_pos y1]
                · rw [if_neg y1]
                  by_cases y2 : p4 < 0
                  · rw [if_pos y2]
                  · rw [if_neg y2]
                    by_cases y3 : nI z - nI m < p3
                    · rw [if_pos y3]
                    · rw [if_neg y3, if_neg]
                      rcases h with h | ⟨-, h⟩ | h | ⟨-, h⟩
                      · exact absurd h y1
                      · exact absurd h y3
                      · exact absurd h y2
                      · rw [Int32.le_iff_toInt_le]; rw [Int32.lt_iff_toInt_lt] at h; omega
              by_cases y1 : p3 < 0
              · rw [if_pos y1, if_pos rfl]
                exact no5 (Or.inl y1)
              · rw [if_neg y1]
                by_cases y3 : nI z - nI m < p3
                · rw [if_pos y3, if_pos rfl]
                  exact no5 (Or.inr (Or.inl ⟨y1, y3⟩))
                · rw [if_neg y3, if_neg (by decide), chk_t cq, bnd_d, bnd_d, cl8 hq8, f4_hasElements hz2 k5 p4 hm]
                  by_cases y2 : p4 < 0
                  · rw [if_pos y2, if_pos rfl]
                    exact no5 (Or.inr (Or.inr (Or.inl y2)))
                  · rw [if_neg y2]
                    by_cases y4 : nI z2 - nI m < p4
                    · rw [if_pos y4, if_pos rfl]
                      exact no5 (Or.inr (Or.inr (Or.inr ⟨y2, y4⟩)))
                    · rw [if_neg y4, if_neg (by decide)]
                      obtain ⟨i, hi, rfl⟩ := nI_of y1
                      obtain ⟨k, hk, rfl⟩ := nI_of y2
                      have sub : ∀ z, z ≤ 160 → (nI z - nI m).toInt = (z : Int) - m := fun z hz => by
                        rw [Int32.toInt_sub, nI_toInt (by omega), nI_toInt hm, Int.bmod_eq_of_le (by omega) (by omega)]
                      have y3' := y3
                      have y4' := y4
                      rw [Int32.lt_iff_toInt_lt, sub z hz, nI_toInt hi] at y3'
                      rw [Int32.lt_iff_toInt_lt, sub z2 hz2, nI_toInt hk] at y4'
                      have im : i + m ≤ z := by omega
                      have km : k + m ≤ z2 := by omega
                      rw [chk_t cp, bnd_d, chk_t cq, bnd_d, nI_clamp hi, nI_clamp hk, nI_clamp hm, chk_t ⟨nI_nlt0 hi, nI_nlt0 hk, nI_nlt0 hm, by omega, by omega⟩, bnd_d, show 14 + 2 * p + 1 = 15 + 2 * p by omega, show 14 + 2 * q + 1 = 15 + 2 * q by omega]
                      refine Rt.s ?_
                      dsimp only
                      have F1 : Fr (fun r k => r = 15 + 2 * q) σ (arrJ σ (15 + 2 * q) (va_cpy (gJ σ (15 + 2 * p)) (gJ σ (15 + 2 * q)) i k m)) := Fr.aJ (fun _ => rfl)
                      have bJ : ∀ t, gJ (arrJ σ (15 + 2 * q) (va_cpy (gJ σ (15 + 2 * p)) (gJ σ (15 + 2 * q)) i k m)) (15 + 2 * q) t = if k ≤ t ∧ t < k + m then gJ σ (15 + 2 * p) (i + (t - k)) else gJ σ (15 + 2 * q) t := fun t => by rw [gJ_arrJ]; rfl
                      have bI : ∀ r k', gI (arrJ σ (15 + 2 * q) (va_cpy (gJ σ (15 + 2 * p)) (gJ σ (15 + 2 * q)) i k m)) r k' = gI σ r k' := fun _ _ => rfl
                      generalize arrJ σ (15 + 2 * q) (va_cpy (gJ σ (15 + 2 * p)) (gJ σ (15 + 2 * q)) i k m) = σ1 at *
                      rw [e9 σ1 (by rw [bI]; exact hp0) (by rw [bI]; exact hq0) (by rw [bI]; exact h2) (by rw [bI]; exact k2) (by rw [bI]; exact h3) (by rw [bI]; exact k3), if_pos n0, if_neg y1, if_neg y2, if_neg y3, if_pos (by rw [Int32.le_iff_toInt_le, sub z2 hz2, nI_toInt hk]; omega)]
                      have b93 : ∀ t, gJ σ1 93 t = gJ σ 93 t := fun t => F1.J (by omega)
                      refine lp_acc (enc := fun (a : PH) (t : Nat) => ((nI t, a) : Int32 × PH)) m (fun a t => (∀ y, y < t → gJ a 94 y = gJ σ 93 (160 * p + i + y)) ∧ Fr (fun r _ => r = 94) σ1 a) _ ?_ ?_ FU σ1 0 (Nat.zero_le _) (FU_big (by omega)) ⟨fun y hy => absurd hy (Nat.not_lt_zero y), Fr.rf⟩
                      · rintro rec a t ht ⟨hy, hF⟩ hrec
                        dsimp only [b_X9_copy_167, bnd]
                        have ei : 160 * nI p + nI i + nI t = nI (160 * p + i + t) := by rw [i_160, pk_mul, nI_add, nI_add]
                        rw [ei, nI_1, nI_clamp (by omega), nI_clamp (by omega)]
                        refine Rt.f (by rw [nI_leI (by omega) (by omega)]; omega) (Rt.c (inb_nI (by omega) (by decide)) (Rt.c (inb_nI (by omega) (by decide)) (hrec _ ⟨fun y hy' => ?_, hF.tr (Fr.pJ rfl)⟩)))
                        rcases Nat.lt_or_eq_of_le (Nat.le_of_lt_succ hy') with hlt | rfl
                        · rw [gJ_put_ne (Or.inr (by omega))]; exact hy y hlt
                        · rw [gJ_put_eq, hF.J (by omega), b93]
                      · rintro rec a ⟨hy, hF⟩
                        dsimp only [b_X9_copy_167, bnd, j_X9_copy_202]
                        refine Rt.t (nI_le (Nat.le_refl _) (by omega)) ?_
                        refine lp_acc (enc := fun (b : PH) (t : Nat) => ((nI t, b) : Int32 × PH)) m (fun b t => (∀ y, y < t → gJ b 93 (160 * q + k + y) = gJ σ 93 (160 * p + i + y)) ∧ (∀ y, (y < 160 * q + k ∨ 160 * q + k + t ≤ y) → gJ b 93 y = gJ σ 93 y) ∧ (∀ y, y < m → gJ b 94 y = gJ σ 93 (160 * p + i + y)) ∧ Fr (fun r y => r = 94 ∨ (r = 93 ∧ 160 * q ≤ y ∧ y < 160 * q + 160)) σ1 b) _ ?_ ?_ FU a 0 (Nat.zero_le _) (FU_big (by omega)) ⟨fun y hy => absurd hy (Nat.not_lt_zero y), fun y _ => by rw [hF.J (by omega), b93], hy, hF.mono (fun r k z => Or.inl z)⟩
                        · rintro rec2 b t ht ⟨g1, g2, g3, gF⟩ hrec2
                          dsimp only [b_X9_copy_205, bnd]
                          have ei : 160 * nI q + nI k + nI t = nI (160 * q + k + t) := by rw [i_160, pk_mul, nI_add, nI_add]
                          rw [ei, nI_1, nI_clamp (by omega), nI_clamp (by omega), g3 t ht]
                          refine Rt.f (by rw [nI_leI (by omega) (by omega)]; omega) (Rt.c (inb_nI (by omega) (by decide)) (Rt.c (inb_nI (by omega) (by decide)) (hrec2 _ ⟨fun y hy' => ?_, fun y hy' => ?_, fun y hy' => ?_, gF.tr (Fr.pJ (by omega))⟩)))
                          · rcases Nat.lt_or_eq_of_le (Nat.le_of_lt_succ hy') with hlt | rfl
                            · rw [gJ_put_ne (Or.inr (by omega))]; exact g1 y hlt
                            · exact gJ_put_eq
                          · rw [gJ_put_ne (Or.inr (by omega))]; exact g2 y (by omega)
                          · rw [gJ_put_ne (Or.inl (by omega))]; exact g3 y hy'
                        · rintro rec2 b ⟨g1, g2, g3, gF⟩
                          dsimp only [b_X9_copy_205, bnd]
                          refine Rt.t (nI_le (Nat.le_refl _) (by omega)) (Rt.s ⟨rfl, ?_⟩)
                          have FF : Fr (WS q) σ b := (F1.mono (fun r k z => by unfold WS; omega)).tr (gF.mono (fun r k z => by unfold WS; omega))
                          refine (I.shl hq8 FF (Or.inr (Or.inl ⟨?_, o, z2, ho, hz2, ?_, ?_, ?_, ?_, fun t ht => ?_⟩))).inv
                          · rw [gF.I (by omega), bI]; exact hq0
                          · rw [gF.I (by omega), bI]; exact k2
                          · rw [gF.I (by omega), bI]; exact k3
                          · rw [gF.I (by omega), bI]; exact k4
                          · rw [gF.I (by omega), bI]; exact k5
                          · rw [gF.J (by omega), bJ]
                            by_cases e : k ≤ t ∧ t < k + m
                            · rw [if_pos e, h6 _ (by omega), show 160 * q + t = 160 * q + k + (t - k) by omega, g1 (t - k) (by omega), show 160 * p + (i + (t - k)) = 160 * p + i + (t - k) by omega]
                            · rw [if_neg e, k6 t ht, g2 _ (by omega)]
            · rw [if_neg n0]
              refine rf4 I (fun s => f_X9_copy s (nI p) (nI q) p3 p4 p5) (fun σ1 _ F => ?_)
              rw [e9 σ1 (by rw [F.I (by omega)]; exact hp0) (by rw [F.I (by omega)]; exact hq0) (by rw [F.I (by omega)]; exact h2) (by rw [F.I (by omega)]; exact k2) (by rw [F.I (by omega)]; exact h3) (by rw [F.I (by omega)]; exact k3), if_neg n0]
          · have ne : ¬ nI (100 + o) = nI (100 + o2) := by rw [nI_eq (by omega) (by omega)]; omega
            rw [hl0, if_neg ne, obd_s, if_neg (by decide)]
            refine rf2 I (fun s => f_X9_copy s (nI p) (nI q) p3 p4 p5) (fun σ1 _ F => ?_)
            rw [eX9 σ1 1 1 (by rw [g89 _ _ F]; exact hp0) (by rw [g89 _ _ F]; exact hq0), if_neg (by decide), if_neg (by decide), if_pos rfl, if_pos rfl, F.I (r := 90) (by omega), F.I (r := 90) (by omega), h2, k2, if_neg (by rw [nI_eq (by omega) (by omega)]; exact eo)]
        · have hl : f_X8_lackForCopy σ (nI p) (nI q) = some (-2) := by
            unfold f_X8_lackForCopy
            rw [lp, obd_s, lq, obd_s]; rfl
          rw [hl, obd_s, if_neg (by decide)]
          refine no2 hl (fun σ1 F => ?_)
          rw [eX9 σ1 1 2 (by rw [g89 _ _ F]; exact hp0) (by rw [g89 _ _ F]; exact hq0), if_neg (by decide), if_pos rfl]
      · have hl : f_X8_lackForCopy σ (nI p) (nI q) = some (-2) := by
          unfold f_X8_lackForCopy
          rw [lp, obd_s, lq, obd_s]
          rcases Sq with ⟨rfl, -⟩ | ⟨rfl, -⟩ | ⟨rfl, -⟩ <;> rfl
        rw [hl, obd_s, if_neg (by decide)]
        refine no2 hl (fun σ1 F => ?_)
        rw [eX9 σ1 2 (gI σ1 89 q) (by rw [g89 _ _ F]; exact hp0) rfl, if_pos rfl]
end S2
