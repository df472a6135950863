/-! what is told, as ints of a row -/
def TL (σ : PH) (s n : Nat) (T : Nat → Int32) : Prop := gI σ 89 s = 1 ∧ ∃ o z, o < 4 ∧ n ≤ z ∧ z ≤ 160 ∧ gI σ 91 s = nI z ∧ gI σ (14 + 2 * s) 0 = nI (100 + o) ∧ gI σ (14 + 2 * s) 1 = nI z ∧ ∀ i, i < n → (gJ σ (15 + 2 * s) i).toInt32 = T i ∧ (gJ σ 93 (160 * s + i)).toInt32 = T i
section TOLD
variable {j : Nat} {c : CV} {r : Nat → Nat} {hs : HS} {tr : Nat} {sd : Int32} {σ σ' : PH} {d : PD}
theorem TL.fr {s n : Nat} {T : Nat → Int32} {W : Nat → Nat → Prop} (h : TL σ s n T) (hs : s < 8) (f : Fr W σ σ') (hW : ∀ r k, W r k → ¬ ((14 ≤ r ∧ r ≤ 29) ∨ (89 ≤ r ∧ r ≤ 93))) : TL σ' s n T := by
  obtain ⟨h1, o, z, a1, a2, a3, a4, a5, a6, a7⟩ := h
  have N : ∀ r k, ((14 ≤ r ∧ r ≤ 29) ∨ (89 ≤ r ∧ r ≤ 93)) → ¬ W r k := fun r k h z => hW r k z h
  refine ⟨by rw [f.I (N _ _ (by omega))]; exact h1, o, z, a1, a2, a3, by rw [f.I (N _ _ (by omega))]; exact a4, by rw [f.I (N _ _ (by omega))]; exact a5, by rw [f.I (N _ _ (by omega))]; exact a6, fun i hi => ?_⟩
  rw [f.J (N _ _ (by omega)), f.J (N _ _ (by omega))]
  exact a7 i hi
theorem asInt_ok {s n i : Nat} {T : Nat → Int32} (h : TL σ s n T) (hi : i < n) : f_X4_asInt σ (14 + 2 * s) (nI i) = some (T i) := by
  obtain ⟨h1, o, z, a1, a2, a3, a4, a5, a6, a7⟩ := h
  unfold f_X4_asInt
  rw [bnd_d]
  have e : f_X4_hasElement σ (14 + 2 * s) (nI i) = 1 := by
    unfold f_X4_hasElement
    rw [if_neg (nI_nlt0 (by omega)), a6, if_neg (by rw [nI_leI (by omega) (by omega)]; omega)]
  rw [e, if_neg (by decide), chk_t (inb_nI (by omega) (by decide)), nI_clamp (by omega), show 14 + 2 * s + 1 = 15 + 2 * s by omega, (a7 i hi).1]
theorem intAt_ok {s n i : Nat} {T : Nat → Int32} (h : TL σ s n T) (hs : s < 8) (hi : i < n) : f_X9_intAt σ (nI s) (nI i) = some (T i) := by
  obtain ⟨h1, o, z, a1, a2, a3, a4, a5, a6, a7⟩ := h
  unfold f_X9_intAt
  rw [i_160, pk_mul, nI_add, chk_t (inb_nI (by omega) (by decide)), nI_clamp (by omega), (a7 i hi).2]
theorem bars_ok {s n : Nat} {T : Nat → Int32} (h : TL σ s n T) (hs : s < 8) : f_X9_bars σ (nI s) (nI n) = some 0 := by
  obtain ⟨h1, o, z, a1, a2, a3, a4, a5, a6, a7⟩ := h
  unfold f_X9_bars
  rw [want1 hs h1, obd_s, if_pos rfl, if_pos (by rw [i_0]; exact nI_le (by omega) (by omega)), chk_t (inb_nI (by omega) (by decide)), nI_clamp (by omega), a4, if_pos (nI_le a2 (by omega))]
theorem told_ok (I : InA 0 c r hs tr sd σ d) (p1 p2 : Int32) : (∃ k, 1 ≤ k ∧ k ≤ 5 ∧ f_X8_lackOfTold σ p1 p2 = some (-nI k) ∧ ∀ σ1, Fr (fun r _ => r = 2) σ σ1 → f_X9_bars σ1 p1 p2 = some (-nI k)) ∨ (∃ s n T, s < 8 ∧ p1 = nI s ∧ p2 = nI n ∧ n ≤ 160 ∧ f_X8_lackOfTold σ p1 p2 = some 0 ∧ TL σ s n T) := by
  have n8 := I.n8
  have nz : ∀ k, 1 ≤ k → k ≤ 5 → ¬ (-nI k) = 0 := by
    have : ∀ k, k < 6 → 1 ≤ k → ¬ (-nI k) = 0 := by decide
    intro k h1 h2; exact this k (by omega) h1
  rcases shelf_i p1 with ⟨e8, e9, -⟩ | ⟨s, hs8, rfl, e8, e9⟩
  · refine Or.inl ⟨1, by decide, by decide, ?_, fun σ1 _ => ?_⟩
    · unfold f_X8_lackOfTold; rw [lackN e8, obd_s, if_neg (by decide)]; rfl
    · unfold f_X9_bars; rw [wantN e9, obd_s, if_neg (by decide)]; rfl
  · rcases I.2.2.2.2 s hs8 with ⟨a1, a2⟩ | ⟨a1, o, z, b1, b2, b3, b4, b5, b6, b7⟩ | ⟨a1, x, b1, b2, b3⟩
    · refine Or.inl ⟨3, by decide, by decide, ?_, fun σ1 F => ?_⟩
      · unfold f_X8_lackOfTold; rw [lack0 hs8 a2, obd_s, if_neg (by decide)]; rfl
      · unfold f_X9_bars; rw [want0 hs8 (by rw [F.I (by omega)]; exact a1), obd_s, if_neg (by decide)]; rfl
    · rcases i_range p2 (z + 1) (by omega) with h | h | ⟨n, hn, rfl⟩
      · have hn : ¬ (0 : Int32) ≤ p2 := by
          rw [Int32.lt_iff_toInt_lt] at h
          rw [Int32.le_iff_toInt_le]; omega
        refine Or.inl ⟨4, by decide, by decide, ?_, fun σ1 F => ?_⟩
        · unfold f_X8_lackOfTold; rw [lack1 hs8 b1 b5, obd_s, if_pos rfl, if_neg hn]; rfl
        · unfold f_X9_bars; rw [want1 hs8 (by rw [F.I (by omega)]; exact a1), obd_s, if_pos rfl, if_neg hn]; rfl
      · have h0 : (0 : Int32) ≤ p2 := by
          rw [Int32.le_iff_toInt_le, nI_toInt (by omega)] at h
          rw [Int32.le_iff_toInt_le]
          have : (0 : Int32).toInt = 0 := by decide
          omega
        have h1 : ¬ p2 ≤ nI z := by
          rw [Int32.le_iff_toInt_le, nI_toInt (by omega)] at h
          rw [Int32.le_iff_toInt_le, nI_toInt (by omega)]; omega
        refine Or.inl ⟨5, by decide, by decide, ?_, fun σ1 F => ?_⟩
        · unfold f_X8_lackOfTold; rw [lack1 hs8 b1 b5, obd_s, if_pos rfl, if_pos h0, chk_t (inb_nI hs8 (by decide)), bnd_d, cl8 hs8, b6, if_neg h1]; rfl
        · unfold f_X9_bars; rw [want1 hs8 (by rw [F.I (by omega)]; exact a1), obd_s, if_pos rfl, if_pos h0, chk_t (inb_nI hs8 (by decide)), nI_clamp (by omega), F.I (by omega), b4, if_neg h1]; rfl
      · refine Or.inr ⟨s, n, fun i => (gJ σ 93 (160 * s + i)).toInt32, hs8, rfl, rfl, by omega, ?_, a1, o, z, b1, by omega, b2, b4, b5, b6, fun i hi => ⟨by rw [b7 i (by omega)], rfl⟩⟩
        unfold f_X8_lackOfTold; rw [lack1 hs8 b1 b5, obd_s, if_pos rfl, if_pos (by rw [i_0]; exact nI_le (by omega) (by omega)), chk_t (inb_nI hs8 (by decide)), bnd_d, cl8 hs8, b6, if_pos (nI_le (by omega) (by omega))]
    · refine Or.inl ⟨2, by decide, by decide, ?_, fun σ1 F => ?_⟩
      · unfold f_X8_lackOfTold; rw [lack2 hs8 (by omega) b3, obd_s, if_neg (by decide)]; rfl
      · unfold f_X9_bars; rw [want2 hs8 (by rw [F.I (by omega)]; exact a1), obd_s, if_neg (by decide)]; rfl
/-- lawful or not, of any int -/
def lwI (c : CV) (le ne : Nat) (p : Int32) : Bool := !decide (p < 0) && lwC c le ne p.toNatClampNeg
theorem lwI_8 (I : InA j c r hs tr sd σ d) (p : Int32) : f_X2_allows σ d.1 p = some (oI (lwI c (r 1) (r 2) p)) := by
  have hr := I.2.1.2.1
  have T := I.2.2.1.2.1.1
  have h9 := p2_9 I.n8
  rcases f2_allows_all I.ok I.xc (T 1 (by decide)) (by omega) (T 2 (by decide)) (by omega) p with ⟨a, b⟩ | ⟨s, rfl, s0, s1, hl, a⟩
  · have : lwI c (r 1) (r 2) p = false := by
      unfold lwI
      rcases i_neg_or p with h | ⟨k, hk, rfl⟩
      · rw [decide_eq_true h]; rfl
      · rw [nI_clamp hk, b k rfl hk, Bool.and_false]
    rw [a, this]; rfl
  · have : lwI c (r 1) (r 2) (nI s) = true := by
      unfold lwI
      rw [decide_eq_false (nI_nlt0 (by omega)), nI_clamp (by omega), hl]; rfl
    rw [a, this]; rfl
theorem lwI_9 (ok : CVok c) (hr : 1 ≤ r 0 ∧ r 0 ≤ 3 ∧ 1 ≤ r 1 ∧ r 1 ≤ 8 ∧ r 2 ≤ 1 ∧ r 3 ≤ 50) (hM : MHl c r hs tr sd σ) (p : Int32) : f_X9_isLawful σ p = some (oI (lwI c (r 1) (r 2) p)) := by
  have h9 := p2_9 ok.1
  rcases f9_isLawful_all ok hM.1 (hM.2.1 1 (by decide)) (by omega) (hM.2.1 2 (by decide)) (by omega) p with ⟨a, b⟩ | ⟨s, rfl, s0, s1, hl, a⟩
  · have : lwI c (r 1) (r 2) p = false := by
      unfold lwI
      rcases i_neg_or p with h | ⟨k, hk, rfl⟩
      · rw [decide_eq_true h]; rfl
      · rw [nI_clamp hk, b k rfl hk, Bool.and_false]
    rw [a, this]; rfl
  · have : lwI c (r 1) (r 2) (nI s) = true := by
      unfold lwI
      rw [decide_eq_false (nI_nlt0 (by omega)), nI_clamp (by omega), hl]; rfl
    rw [a, this]; rfl
theorem lwI_t {le ne : Nat} {p : Int32} (h : lwI c le ne p = true) : ∃ s, p = nI s ∧ 0 < s ∧ s < 2 ^ cN c ∧ p.toNatClampNeg = s := by
  unfold lwI at h
  rw [Bool.and_eq_true] at h
  rcases i_neg_or p with z | ⟨k, hk, rfl⟩
  · rw [decide_eq_true z] at h; exact absurd h.1 (by decide)
  · rw [nI_clamp hk] at h ⊢
    obtain ⟨a, b⟩ := lwC_set h.2
    exact ⟨k, rfl, a, b, rfl⟩
/-- the first wrong bar, and whom it leaves -/
def fwS (c : CV) (le ne : Nat) (T : Nat → Int32) : Nat → Nat → List Nat → Int32 × List Nat
  | 0, _, l => (-1, l)
  | m + 1, i, l =>
    if i % 2 = 0 then (if lwI c le ne (T i) then fwS c le ne T m (i + 1) l else (nI i, l))
    else if T i = 0 ∨ T i = 1 then (if (l.filter (soC c (T (i - 1)).toNatClampNeg (T i).toNatClampNeg)).length = 0 then (nI i, l.filter (soC c (T (i - 1)).toNatClampNeg (T i).toNatClampNeg)) else fwS c le ne T m (i + 1) (l.filter (soC c (T (i - 1)).toNatClampNeg (T i).toNatClampNeg)))
    else (nI i, l)
theorem rep_empty {L : List Nat} {P : Nat → Bool} {lo hi : Int64} (hl : L.length ≤ 92) (R : Rep lo hi (rp L P)) : (lo = 0 ∧ hi = 0) ↔ (L.filter P).length = 0 := by
  rw [R.is0, ← List.countP_eq_length_filter, List.countP_eq_zero]
  constructor
  · intro hz w hw
    obtain ⟨i, hi, rfl⟩ := List.mem_iff_getElem.mp hw
    have := hz i (by omega)
    unfold rp at this
    have e : L.getD i 0 = L[i] := by simp [List.getD, hi]
    rw [decide_eq_true hi, Bool.true_and, e] at this
    rw [this]; decide
  · intro hz t _
    unfold rp
    by_cases ht : t < L.length
    · have := hz _ (getD_mem ht)
      rw [decide_eq_true ht, Bool.true_and]
      simpa using this
    · rw [decide_eq_false ht]; rfl
theorem par_8 {i : Nat} (hi : i < 2 ^ 31) : nI i &&& 1 = nI (i % 2) := nI_mask i 1 (by decide)
theorem firstWrong_ok (I : InA 0 c r hs tr sd σ d) {s n : Nat} {T : Nat → Int32} (hs8 : s < 8) (hT : TL σ s n T) (hn : n ≤ 160) : Rt (f_X5_firstWrong σ d.1 (14 + 2 * s) (nI n)) (fun u => u.1 = (fwS c (r 1) (r 2) T n 0 (psC c (r 0) hs)).1 ∧ (u.1 = -1 → f_X7_countIn (gJ u.2 11 4) (gJ u.2 11 5) = nI (fwS c (r 1) (r 2) T n 0 (psC c (r 0) hs)).2.length) ∧ InA 0 c r hs tr sd u.2 d ∧ Fr (fun r k => WK d.1 r k ∨ (5 ≤ r ∧ r ≤ 13)) σ u.2) := by
  have hd := I.1.1
  have h92 := I.xq.2.2.2
  have h9 := p2_9 I.n8
  have hr := I.2.1.2.1
  unfold f_X5_firstWrong
  rw [bnd_d, bnd_d]
  have F1 : Fr (fun r k => WK d.1 r k ∨ (5 ≤ r ∧ r ≤ 13)) σ (putJ (putJ σ 11 4 (gJ σ d.1 7)) 11 5 (gJ (putJ σ 11 4 (gJ σ d.1 7)) d.1 8)) := (Fr.pJ (by omega)).tr (Fr.pJ (by omega))
  have g4 : gJ (putJ (putJ σ 11 4 (gJ σ d.1 7)) 11 5 (gJ (putJ σ 11 4 (gJ σ d.1 7)) d.1 8)) 11 4 = gJ σ d.1 7 := by rw [gJ_put_ne (Or.inr (by decide)), gJ_put_eq]
  have g5 : gJ (putJ (putJ σ 11 4 (gJ σ d.1 7)) 11 5 (gJ (putJ σ 11 4 (gJ σ d.1 7)) d.1 8)) 11 5 = gJ σ d.1 8 := by rw [gJ_put_eq, gJ_put_ne (Or.inl (by unfold Hls at hd; omega))]
  have Q1 : XQ c (WL (cN c) (r 0)) (putJ (putJ σ 11 4 (gJ σ d.1 7)) 11 5 (gJ (putJ σ 11 4 (gJ σ d.1 7)) d.1 8)) d.1 := I.xq.fr (W := fun r k => r = 11 ∧ (k = 4 ∨ k = 5)) ((Fr.pJ (by omega)).tr (Fr.pJ (by omega))) (fun r k z => by unfold Hls at hd; omega)
  generalize putJ (putJ σ 11 4 (gJ σ d.1 7)) 11 5 (gJ (putJ σ 11 4 (gJ σ d.1 7)) d.1 8) = σ1 at *
  generalize hH : fwS c (r 1) (r 2) T n 0 (psC c (r 0) hs) = H
  refine lp_rule (I := fun m q => ∃ i P v τ, q = (v, nI i, τ) ∧ m + i = n ∧ (i % 2 = 1 → v = T (i - 1) ∧ lwI c (r 1) (r 2) (T (i - 1)) = true) ∧ Rep (gJ τ 11 4) (gJ τ 11 5) (rp (WL (cN c) (r 0)) P) ∧ fwS c (r 1) (r 2) T m i ((WL (cN c) (r 0)).filter P) = H ∧ XQ c (WL (cN c) (r 0)) τ d.1 ∧ Fr (fun r k => WK d.1 r k ∨ (5 ≤ r ∧ r ≤ 13)) σ τ) _ ?_ FU n (0, 0, σ1) (FU_big (by omega)) ⟨0, okH c hs, 0, σ1, rfl, rfl, fun z => absurd z (by decide), by rw [g4, g5]; exact I.rep, hH, Q1, F1⟩
  rintro m rec _ ⟨i, P, v, τ, rfl, e1, e2, e3, e4, e5, e6⟩ hrec
  have Iτ := I.cs e6 e5
  have Tτ : TL τ s n T := hT.fr hs8 e6 (fun r k z => by unfold WK at z; unfold Hls at hd; omega)
  unfold b_X5_firstWrong_22
  dsimp only
  by_cases hi : n ≤ i
  · have em : m = 0 := by omega
    subst em
    refine Rt.t (nI_le hi (by omega)) (Rt.s ?_)
    rw [show fwS c (r 1) (r 2) T 0 i ((WL (cN c) (r 0)).filter P) = (-1, (WL (cN c) (r 0)).filter P) from rfl] at e4
    subst e4
    refine ⟨rfl, fun _ => ?_, Iτ, e6⟩
    dsimp only
    rw [f7_countIn e3, rp_cnt h92, List.countP_eq_length_filter]
  obtain ⟨m', rfl⟩ : ∃ m', m = m' + 1 := ⟨m - 1, by omega⟩
  refine Rt.f (by rw [nI_leI (by omega) (by omega)]; exact hi) ?_
  rw [asInt_ok Tτ (by omega), obd_s, par_8 (by omega)]
  unfold fwS at e4
  by_cases hp : i % 2 = 0
  · rw [if_pos hp] at e4
    refine Rt.t (by rw [hp]; rfl) ?_
    rw [lwI_8 Iτ, obd_s]
    cases hl : lwI c (r 1) (r 2) (T i) with
    | false =>
      rw [hl, if_neg (by decide)] at e4
      subst e4
      refine Rt.t rfl (Rt.s ⟨rfl, fun z => absurd z (nI_nm1 (by omega)), Iτ, e6⟩)
    | true =>
      rw [hl, if_pos rfl] at e4
      refine Rt.f (by decide) ?_
      rw [bnd_d, nI_1]
      exact hrec m' _ (by omega) ⟨i + 1, P, _, τ, rfl, by omega, fun _ => ⟨rfl, hl⟩, e3, e4, e5, e6⟩
  · rw [if_neg hp] at e4
    refine Rt.f (by rw [i_0, nI_eq (by omega) (by decide)]; exact hp) ?_
    obtain ⟨f1, f2⟩ := e2 (by omega)
    obtain ⟨w, w1, w2, w3, w4⟩ := lwI_t f2
    rw [f1, w1]
    rw [w4] at e4
    by_cases ho : T i = 0 ∨ T i = 1
    · rw [if_pos ho] at e4
      obtain ⟨y, hy, hy2, hy3⟩ : ∃ y, y < 2 ∧ T i = nI y ∧ (T i).toNatClampNeg = y := by
        rcases ho with z | z
        · exact ⟨0, by decide, z, by rw [z]; rfl⟩
        · exact ⟨1, by decide, z, by rw [z]; rfl⟩
      rw [hy3] at e4
      rw [hy2]
      refine Rt.f (nI_nlt0 (by omega)) (Rt.t (by rw [i_1]; exact nI_le (by omega) (by omega)) ?_)
      refine Rt.o (f7_lowBy I.ok e5 w2 w3 (gJ τ 11 4)) ?_
      rintro ⟨lo', σ2⟩ ⟨⟨A, B, RA, x1⟩, q2, F2⟩
      dsimp only at x1 q2 F2
      rw [bnd_d]
      dsimp only
      have F3 : Fr (fun r k => r = 11 ∧ k = 4) σ2 (putJ σ2 11 4 lo') := Fr.pJ ⟨rfl, rfl⟩
      have b4 : gJ (putJ σ2 11 4 lo') 11 4 = lo' := gJ_put_eq
      generalize putJ σ2 11 4 lo' = σ3 at *
      have Q3 := q2.fr F3 (fun r k z => by unfold Hls at hd; omega)
      have e5' : gJ σ3 11 5 = gJ τ 11 5 := by rw [F3.J (by omega), F2.J (by unfold WK; unfold Hls at hd; omega)]
      refine Rt.o (f7_highBy I.ok Q3 w2 w3 (gJ σ3 11 5)) ?_
      rintro ⟨hi', σ4⟩ ⟨⟨A2, B2, RB, x2⟩, q4, F4⟩
      dsimp only at x2 q4 F4
      rw [bnd_d]
      dsimp only
      have F5 : Fr (fun r k => r = 11 ∧ k = 5) σ4 (putJ σ4 11 5 hi') := Fr.pJ ⟨rfl, rfl⟩
      have b5 : gJ (putJ σ4 11 5 hi') 11 5 = hi' := gJ_put_eq
      have b4' : gJ (putJ σ4 11 5 hi') 11 4 = lo' := by rw [gJ_put_ne (Or.inr (by decide)), F4.J (by unfold WK; unfold Hls at hd; omega), b4]
      generalize putJ σ4 11 5 hi' = σ5 at *
      have Q5 := q4.fr F5 (fun r k z => by unfold Hls at hd; omega)
      rw [e5'] at x2
      have R5 := by_rep hy e3 RA RB x1 x2
      have FF : Fr (fun r k => WK d.1 r k ∨ (5 ≤ r ∧ r ≤ 13)) σ σ5 := (((e6.tr (F2.mono (fun r k z => Or.inl z))).tr (F3.mono (fun r k z => by omega))).tr (F4.mono (fun r k z => Or.inl z))).tr (F5.mono (fun r k z => by omega))
      have ef : (WL (cN c) (r 0)).filter (fun x => P x && soC c w y x) = ((WL (cN c) (r 0)).filter P).filter (soC c w y) := by
        rw [List.filter_filter]
        exact List.filter_congr (fun w _ => Bool.and_comm _ _)
      have em := rep_empty h92 R5
      rw [ef] at em
      have go : ¬ (((WL (cN c) (r 0)).filter P).filter (soC c w y)).length = 0 → Rt (rec (nI w, nI i + 1, σ5)) (fun u => u.1 = H.1 ∧ (u.1 = -1 → f_X7_countIn (gJ u.2 11 4) (gJ u.2 11 5) = nI H.2.length) ∧ InA 0 c r hs tr sd u.2 d ∧ Fr (fun r k => WK d.1 r k ∨ (5 ≤ r ∧ r ≤ 13)) σ u.2) := fun hz => by
        rw [if_neg hz] at e4
        rw [nI_1]
        exact hrec m' _ (by omega) ⟨i + 1, _, _, σ5, rfl, by omega, fun z => by omega, by rw [b4', b5]; exact R5, by rw [ef]; exact e4, Q5, FF⟩
      rw [b4', b5]
      by_cases z1 : lo' = 0
      · refine Rt.t ((lg_cmp_0 _).mpr z1) ?_
        by_cases z2 : hi' = 0
        · have hz := em.mp ⟨z1, z2⟩
          rw [if_pos hz] at e4
          subst e4
          exact Rt.t ((lg_cmp_0 _).mpr z2) (Rt.s ⟨rfl, fun z => absurd z (nI_nm1 (by omega)), I.cs FF Q5, FF⟩)
        · exact Rt.f (fun z => z2 ((lg_cmp_0 _).mp z)) (go (fun z => z2 (em.mpr z).2))
      · exact Rt.f (fun z => z1 ((lg_cmp_0 _).mp z)) (go (fun z => z1 (em.mpr z).1))
    · rw [if_neg ho] at e4
      subst e4
      have out : Rt (some (nI i, τ)) (fun u => u.1 = nI i ∧ (u.1 = -1 → f_X7_countIn (gJ u.2 11 4) (gJ u.2 11 5) = nI ((WL (cN c) (r 0)).filter P).length) ∧ InA 0 c r hs tr sd u.2 d ∧ Fr (fun r k => WK d.1 r k ∨ (5 ≤ r ∧ r ≤ 13)) σ u.2) := Rt.s ⟨rfl, fun z => absurd z (nI_nm1 (by omega)), Iτ, e6⟩
      refine Rt.i (fun _ => out) (fun z1 => Rt.i (fun z2 => ?_) (fun _ => out))
      exfalso
      obtain ⟨y, hy, e⟩ := nI_of2 (M := 1) (n := 1) rfl z1 z2
      rcases (show y = 0 ∨ y = 1 by omega) with rfl | rfl
      · exact ho (Or.inl e)
      · exact ho (Or.inr e)
end TOLD
