/-! judging what was told -/
section JUDGE
variable {j : Nat} {c : CV} {r : Nat → Nat} {hs : HS} {tr : Nat} {sd : Int32} {σ σ' : PH} {d : PD}
theorem par_9 {i : Nat} (hi : i < 2 ^ 31) : nI i - nI i / 2 * 2 = nI (i % 2) := pk_rem (d := 2) hi (by decide) (by decide)
theorem wrongIn_j (I : InA j c r hs tr sd σ d) {s n : Nat} {T : Nat → Int32} (hs8 : s < 8) (hT : TL σ s n T) (hn : n ≤ 160) : Rt (f_X9_wrongIn σ (nI s) (nI n)) (fun u => u.1 = (fwS c (r 1) (r 2) T n 0 (psC c (r 0) hs)).1 ∧ (u.1 = -1 → gI u.2 81 41 = nI (fwS c (r 1) (r 2) T n 0 (psC c (r 0) hs)).2.length) ∧ InA j c r hs tr sd u.2 d) := by
  have h92 := ps92 I
  have h9 := p2_9 I.n8
  have hr := I.2.1.2.1
  have hw : ∀ w ∈ psC c (r 0) hs, w < 256 := fun w hw => (psC_lt I.ok hw).2.1
  unfold f_X9_wrongIn
  refine Rt.o (mod_poss I) ?_
  rintro ⟨w, σ1⟩ ⟨h1, h2, I1, -, -, F1⟩
  dsimp only at h1 h2 I1 F1
  subst h1
  dsimp only
  rw [bnd_d]
  have F2 : Fr (fun r k => r = 81 ∧ k = 41) σ1 (putI σ1 81 41 (nI (psC c (r 0) hs).length)) := Fr.pI ⟨rfl, rfl⟩
  have g41 : gI (putI σ1 81 41 (nI (psC c (r 0) hs).length)) 81 41 = nI (psC c (r 0) hs).length := gI_put_eq
  generalize putI σ1 81 41 (nI (psC c (r 0) hs).length) = σ2 at *
  have FW2 : Fr (fun r k => SP r k ∨ (r = 81 ∧ k = 41)) σ σ2 := (F1.mono (fun r k z => Or.inl z)).tr (F2.mono (fun r k z => Or.inr z))
  generalize hH : fwS c (r 1) (r 2) T n 0 (psC c (r 0) hs) = H
  refine lp_rule (I := fun m q => ∃ i l τ, q = (nI i, τ) ∧ m + i = n ∧ (i % 2 = 1 → lwI c (r 1) (r 2) (T (i - 1)) = true) ∧ gI τ 81 41 = nI l.length ∧ LsI τ 101 l ∧ l.length ≤ 92 ∧ (∀ w ∈ l, w < 256) ∧ fwS c (r 1) (r 2) T m i l = H ∧ Fr (fun r k => SP r k ∨ (r = 81 ∧ k = 41)) σ τ) _ ?_ FU n (0, σ2) (FU_big (by omega)) ⟨0, psC c (r 0) hs, σ2, rfl, rfl, fun z => absurd z (by decide), g41, fun t ht => by rw [F2.I (by omega)]; exact h2 t ht, h92, hw, hH, FW2⟩
  rintro m rec _ ⟨i, l, τ, rfl, e1, e2, e3, e4, e5, e6, e7, e8⟩ hrec
  have Iτ : InA j c r hs tr sd τ d := I.scr e8 (fun r k z => by unfold SP at z; unfold SCR; omega)
  have Tτ : TL τ s n T := hT.fr hs8 e8 (fun r k z => by unfold SP at z; omega)
  unfold b_X9_wrongIn_10
  dsimp only
  by_cases hi : n ≤ i
  · have em : m = 0 := by omega
    subst em
    refine Rt.t (nI_le hi (by omega)) (Rt.s ?_)
    rw [show fwS c (r 1) (r 2) T 0 i l = (-1, l) from rfl] at e7
    subst e7
    exact ⟨rfl, fun _ => e3, Iτ⟩
  obtain ⟨m', rfl⟩ : ∃ m', m = m' + 1 := ⟨m - 1, by omega⟩
  refine Rt.f (by rw [nI_leI (by omega) (by omega)]; exact hi) ?_
  rw [intAt_ok Tτ hs8 (by omega), obd_s, par_9 (by omega)]
  unfold fwS at e7
  by_cases hp : i % 2 = 0
  · rw [if_pos hp] at e7
    refine Rt.t (by rw [hp]; rfl) ?_
    rw [lwI_9 I.ok hr Iτ.2.2.2.1, obd_s]
    cases hl : lwI c (r 1) (r 2) (T i) with
    | false =>
      rw [hl, if_neg (by decide)] at e7
      subst e7
      exact Rt.t rfl (Rt.s ⟨rfl, fun z => absurd z (nI_nm1 (by omega)), Iτ⟩)
    | true =>
      rw [hl, if_pos rfl] at e7
      refine Rt.f (by decide) ?_
      rw [bnd_d, nI_1]
      exact hrec m' _ (by omega) ⟨i + 1, l, τ, rfl, by omega, fun _ => hl, e3, e4, e5, e6, e7, e8⟩
  · rw [if_neg hp] at e7
    refine Rt.f (by rw [i_0, nI_eq (by omega) (by decide)]; exact hp) ?_
    obtain ⟨w, w1, w2, w3, w4⟩ := lwI_t (e2 (by omega))
    rw [w4] at e7
    rw [bnd_d]
    by_cases ho : T i = 0 ∨ T i = 1
    · rw [if_pos ho] at e7
      obtain ⟨y, hy, hy2, hy3, hy4⟩ : ∃ y, y < 2 ∧ T i = nI y ∧ (T i).toNatClampNeg = y ∧ f_X9_isOne (T i) = 1 := by
        rcases ho with z | z
        · exact ⟨0, by decide, z, by rw [z]; rfl, by rw [z]; rfl⟩
        · exact ⟨1, by decide, z, by rw [z]; rfl, by rw [z]; rfl⟩
      rw [hy3] at e7
      rw [hy4]
      refine Rt.f (by decide) ?_
      rw [show nI i - 1 = nI (i - 1) from pk_sub (a := i) (b := 1) (by omega), intAt_ok Tτ hs8 (by omega), obd_s, hy2, w1, e3]
      refine Rt.o (f9_stays I.ok Iτ.mc e5 e6 (by omega) hy e4) ?_
      rintro ⟨v, σ3⟩ ⟨s1, s2, F3⟩
      dsimp only at s1 s2 F3
      subst s1
      dsimp only
      rw [bnd_d]
      have F4 : Fr (fun r k => r = 81 ∧ k = 41) σ3 (putI σ3 81 41 (nI (l.filter (soC c w y)).length)) := Fr.pI ⟨rfl, rfl⟩
      have b41 : gI (putI σ3 81 41 (nI (l.filter (soC c w y)).length)) 81 41 = nI (l.filter (soC c w y)).length := gI_put_eq
      generalize putI σ3 81 41 (nI (l.filter (soC c w y)).length) = σ4 at *
      have FF : Fr (fun r k => SP r k ∨ (r = 81 ∧ k = 41)) σ σ4 := (e8.tr (F3.mono (fun r k z => by unfold SP; omega))).tr (F4.mono (fun r k z => Or.inr z))
      have lf := List.length_filter_le (soC c w y) l
      rw [b41]
      by_cases hz : (l.filter (soC c w y)).length = 0
      · rw [if_pos hz] at e7
        subst e7
        exact Rt.t (by rw [hz]; rfl) (Rt.s ⟨rfl, fun z => absurd z (nI_nm1 (by omega)), I.scr FF (fun r k z => by unfold SP at z; unfold SCR; omega)⟩)
      · rw [if_neg hz] at e7
        refine Rt.f (by rw [i_0, nI_eq (by omega) (by decide)]; exact hz) ?_
        rw [bnd_d, nI_1]
        exact hrec m' _ (by omega) ⟨i + 1, _, σ4, rfl, by omega, fun z => by omega, b41, fun t ht => by rw [F4.I (by omega)]; exact s2 t ht, by omega, fun w hw => e6 w (List.mem_filter.mp hw).1, e7, FF⟩
    · rw [if_neg ho] at e7
      subst e7
      have h0 : f_X9_isOne (T i) = 0 := by
        rcases one_i (T i) with ⟨z, -⟩ | ⟨z, -⟩ | ⟨-, -, z⟩
        · exact absurd (Or.inl z) ho
        · exact absurd (Or.inr z) ho
        · exact z
      rw [h0]
      exact Rt.t rfl (Rt.s ⟨rfl, fun z => absurd z (nI_nm1 (by omega)), Iτ⟩)
theorem noTen_e (σ : PH) (p : Int32) : f_X9_noTen σ p = obd (f_X9_no σ p) (fun u => some (u.1 - 10, u.2)) := by
  unfold f_X9_noTen f_X9_no
  by_cases h : inb (-p) 8 = true
  · rw [chk_t h, chk_t h, chk_t h, chk_t h]; rfl
  · unfold chk; rw [if_neg h, if_neg h]; rfl
theorem nI_nz {k : Nat} (h1 : 1 ≤ k) (h2 : k ≤ 7) : ¬ (-nI k) = 0 := by
  have : ∀ k, k < 8 → 1 ≤ k → ¬ (-nI k) = 0 := by decide
  exact this k (by omega) h1
theorem st_judge (σ : PH) (d : PD) (p1 p2 : Int32) (hI : Inv σ d) : ∃ (u v : Int32 × PH), f_X8_judge σ d p1 p2 = some u ∧ f_X9_judge u.2 p1 p2 = some v ∧ u.1 = v.1 ∧ Inv v.2 d := by
  obtain ⟨c, r, hs, tr, sd, I⟩ := hI
  refine two (y := fun s => f_X9_judge s p1 p2) ?_
  have no : ∀ k, 1 ≤ k → k ≤ 7 → (∀ σ1, Fr (fun r _ => r = 2) σ σ1 → f_X9_barsOf σ1 p1 p2 = some (-nI k)) → Rt (j_X8_judge_20 σ d p1 p2 (-nI k)) (fun u => Rt (f_X9_judge u.2 p1 p2) (fun v => u.1 = v.1 ∧ Inv v.2 d)) := by
    intro k h1 h7 hb
    unfold j_X8_judge_20
    refine Rt.f (nI_nz h1 h7) (Rt.o (refuse_ok I h1 h7 rfl) ?_)
    rintro ⟨v, σ1⟩ ⟨e1, I1, F1⟩
    refine Rt.s ?_
    dsimp only at e1 I1 F1 ⊢
    unfold f_X9_judge
    rw [hb σ1 F1, obd_s, if_neg (nI_nz h1 h7), noTen_e]
    refine Rt.o (Rt.o (no_ok I1 h1 h7 rfl) (fun u hu => Rt.s (P := fun t : Int32 × PH => t.1 = -nI k - 10 ∧ InA 0 c r hs tr sd t.2 d) ⟨by rw [hu.1], hu.2⟩)) ?_
    rintro ⟨w, σ2⟩ ⟨e2, I2⟩
    exact Rt.s ⟨by rw [e1]; exact e2.symm, I2.inv⟩
  unfold f_X8_judge
  rcases told_ok I p1 p2 with ⟨k, k1, k5, e, eb⟩ | ⟨s, n, T, hs8, rfl, rfl, hn, e, hT⟩
  · rw [e, obd_s, if_neg (nI_nz k1 (by omega))]
    refine no k k1 (by omega) (fun σ1 F => ?_)
    unfold f_X9_barsOf
    rw [eb σ1 F, obd_s, if_neg (nI_nz k1 (by omega))]
  · rw [e, obd_s, if_pos rfl]
    have bo : ∀ σ1, TL σ1 s n T → f_X9_barsOf σ1 (nI s) (nI n) = some (if n ≤ 32 then 0 else -6) := fun σ1 h => by
      unfold f_X9_barsOf
      rw [bars_ok h hs8, obd_s, if_pos rfl]
      by_cases z : n ≤ 32
      · rw [if_pos z, if_pos (by rw [i_32]; exact nI_le z (by omega))]
      · rw [if_neg z, if_neg (by rw [i_32, nI_leI (by omega) (by omega)]; exact z)]
    by_cases z : n ≤ 32
    · rw [if_pos (by rw [i_32]; exact nI_le z (by omega))]
      unfold j_X8_judge_20
      refine Rt.t rfl (Rt.c (inb_nI hs8 (by decide)) ?_)
      rw [bnd_d, cl8 hs8]
      refine Rt.o (firstWrong_ok I hs8 hT hn) ?_
      rintro ⟨v, σ1⟩ ⟨e1, -, I1, F1⟩
      refine Rt.s ?_
      dsimp only at e1 I1 F1 ⊢
      have hd := I.1.1
      have T1 : TL σ1 s n T := hT.fr hs8 F1 (fun r k z => by unfold WK at z; unfold Hls at hd; omega)
      unfold f_X9_judge
      rw [bo σ1 T1, if_pos z, obd_s, if_pos rfl]
      refine Rt.o (wrongIn_j I1 hs8 T1 hn) ?_
      rintro ⟨w, σ2⟩ ⟨e2, -, I2⟩
      exact Rt.s ⟨e1.trans e2.symm, I2.inv⟩
    · rw [if_neg (by rw [i_32, nI_leI (by omega) (by omega)]; exact z)]
      refine no 6 (by decide) (by decide) (fun σ1 F => ?_)
      rw [bo σ1 (hT.fr hs8 F (fun r k z => by omega)), if_neg z]; rfl
theorem st_behind (σ : PH) (d : PD) (p1 p2 : Int32) (hI : Inv σ d) : ∃ (u v : Int32 × PH), f_X8_behind σ d p1 p2 = some u ∧ f_X9_behind u.2 p1 p2 = some v ∧ u.1 = v.1 ∧ Inv v.2 d := by
  obtain ⟨c, r, hs, tr, sd, I⟩ := hI
  refine two (y := fun s => f_X9_behind s p1 p2) ?_
  have no : ∀ {σ0 : PH} (k : Nat), InA 0 c r hs tr sd σ0 d → 1 ≤ k → k ≤ 7 → (∀ σ1, Fr (fun r _ => r = 2) σ0 σ1 → InA k c r hs tr sd σ1 d → Rt (f_X9_behind σ1 p1 p2) (fun v => v.1 = -nI k ∧ Inv v.2 d)) → Rt (j_X8_behind_43 (-nI k) σ0) (fun u => Rt (f_X9_behind u.2 p1 p2) (fun v => u.1 = v.1 ∧ Inv v.2 d)) := by
    intro σ0 k I0 h1 h7 hb
    unfold j_X8_behind_43
    refine Rt.f (nI_nz h1 h7) (Rt.o (refuse_ok I0 h1 h7 rfl) ?_)
    rintro ⟨v, σ1⟩ ⟨e1, I1, F1⟩
    refine Rt.s ?_
    dsimp only at e1 I1 F1 ⊢
    exact (hb σ1 F1 I1).m (fun u hu => ⟨e1.trans hu.1.symm, hu.2⟩)
  have m31 : ∀ {σ1 : PH} {k : Nat}, InA k c r hs tr sd σ1 d → 1 ≤ k → k ≤ 7 → Rt (j_X9_behind_31 (-nI k) σ1) (fun v => v.1 = -nI k ∧ Inv v.2 d) := fun {σ1 k} I1 h1 h7 => by
    unfold j_X9_behind_31
    refine Rt.f (nI_nz h1 h7) (Rt.o (no_ok I1 h1 h7 rfl) ?_)
    rintro ⟨w, σ2⟩ ⟨e2, I2⟩
    exact Rt.s ⟨e2, I2.inv⟩
  unfold f_X8_behind
  rcases told_ok I p1 p2 with ⟨k, k1, k5, e, eb⟩ | ⟨s, n, T, hs8, rfl, rfl, hn, e, hT⟩
  · rw [e, obd_s, if_neg (nI_nz k1 (by omega))]
    refine no k I k1 (by omega) (fun σ1 F I1 => ?_)
    unfold f_X9_behind f_X9_barsOf
    rw [eb σ1 F, obd_s, if_neg (nI_nz k1 (by omega)), obd_s, if_neg (nI_nz k1 (by omega))]
    exact m31 I1 k1 (by omega)
  · rw [e, obd_s, if_pos rfl, bnd_d]
    have bo : ∀ σ1, TL σ1 s n T → f_X9_barsOf σ1 (nI s) (nI n) = some (if n ≤ 32 then 0 else -6) := fun σ1 h => by
      unfold f_X9_barsOf
      rw [bars_ok h hs8, obd_s, if_pos rfl]
      by_cases z : n ≤ 32
      · rw [if_pos z, if_pos (by rw [i_32]; exact nI_le z (by omega))]
      · rw [if_neg z, if_neg (by rw [i_32, nI_leI (by omega) (by omega)]; exact z)]
    unfold f_X8_isToldInPairs
    rw [par_8 (by omega)]
    have hd := I.1.1
    by_cases z : n ≤ 32
    · rw [if_neg (show ¬ (32 : Int32) < nI n by rw [i_32, nI_ltI (by omega) (by omega)]; omega)]
      by_cases hp : n % 2 = 0
      · rw [if_pos (show nI (n % 2) = 0 by rw [hp]; rfl), if_neg (by decide)]
        refine Rt.c (inb_nI hs8 (by decide)) ?_
        rw [bnd_d, cl8 hs8]
        refine Rt.o (firstWrong_ok I hs8 hT hn) ?_
        rintro ⟨v, σ1⟩ ⟨e1, e2, I1, F1⟩
        dsimp only at e1 e2 I1 F1 ⊢
        have T1 : TL σ1 s n T := hT.fr hs8 F1 (fun r k z => by unfold WK at z; unfold Hls at hd; omega)
        have p9 : ¬ (nI n - nI n / 2 * 2) = 1 := by rw [par_9 (by omega), hp]; decide
        by_cases em : v = -1
        · rw [if_pos em]
          unfold j_X8_behind_43
          refine Rt.t rfl ?_
          rw [bnd_d, e2 em]
          refine Rt.s ?_
          dsimp only
          unfold f_X9_behind
          rw [bo σ1 T1, if_pos z, obd_s, if_pos rfl, if_neg p9]
          refine Rt.o (wrongIn_j I1 hs8 T1 hn) ?_
          rintro ⟨w, σ2⟩ ⟨q1, q2, I2⟩
          dsimp only at q1 q2 I2
          have ew : w = -1 := by rw [q1, ← e1]; exact em
          refine Rt.t ew ?_
          unfold j_X9_behind_31
          refine Rt.t rfl (Rt.s ⟨(q2 ew).symm, I2.inv⟩)
        · rw [if_neg em]
          unfold j_X8_behind_40
          refine no 6 I1 (by decide) (by decide) (fun σ3 F3 I3 => ?_)
          have T3 : TL σ3 s n T := T1.fr hs8 F3 (fun r k z => by omega)
          unfold f_X9_behind
          rw [bo σ3 T3, if_pos z, obd_s, if_pos rfl, if_neg p9]
          refine Rt.o (wrongIn_j I3 hs8 T3 hn) ?_
          rintro ⟨w, σ2⟩ ⟨q1, -, I2⟩
          dsimp only at q1 I2
          have ew : ¬ w = -1 := by rw [q1, ← e1]; exact em
          refine Rt.f ew ?_
          unfold j_X9_behind_28
          exact m31 I2 (by decide) (by decide)
      · rw [if_neg (show ¬ nI (n % 2) = 0 by rw [i_0, nI_eq (by omega) (by decide)]; exact hp), if_pos rfl]
        unfold j_X8_behind_40
        refine no 6 I (by decide) (by decide) (fun σ1 F I1 => ?_)
        unfold f_X9_behind
        rw [bo σ1 (hT.fr hs8 F (fun r k z => by omega)), if_pos z, obd_s, if_pos rfl, if_pos (by rw [par_9 (by omega), show n % 2 = 1 by omega]; rfl)]
        unfold j_X9_behind_28
        exact m31 I1 (by decide) (by decide)
    · rw [if_pos (show (32 : Int32) < nI n by rw [i_32]; exact nI_lt (by omega) (by omega)), if_pos rfl]
      unfold j_X8_behind_40
      refine no 6 I (by decide) (by decide) (fun σ1 F I1 => ?_)
      unfold f_X9_behind
      rw [bo σ1 (hT.fr hs8 F (fun r k z => by omega)), if_neg z, obd_s, if_neg (by decide)]
      exact m31 I1 (by decide) (by decide)
end JUDGE
