/-! the set to hear next -/
def mx2 (a b : Nat) : Nat := if a < b then b else a
def nN (b : Nat) : Int32 := if b = 0 then -1 else nI b
def wsN (c : CV) (l : List Nat) (s : Nat) : Nat := mx2 (l.countP (sndC c s)) (l.length - l.countP (sndC c s))
def stN (c : CV) (le ne : Nat) (l : List Nat) (i : Nat) (a : Nat × Nat) : Nat × Nat := if lwC c le ne (i + 1) then (if wsN c l (i + 1) < a.2 then (i + 1, wsN c l (i + 1)) else a) else a
def nxB (c : CV) (le ne : Nat) (l : List Nat) (k : Nat) : Nat × Nat := it (stN c le ne l) (0, l.length) k
def nxC (c : CV) (le ne : Nat) (l : List Nat) : Nat := (nxB c le ne l (2 ^ cN c - 1)).1
theorem mxI_nI {a b : Nat} (ha : a < 2 ^ 31) (hb : b < 2 ^ 31) : mxI (nI a) (nI b) = nI (mx2 a b) := by
  unfold mxI mx2
  by_cases h : a < b
  · rw [if_pos (nI_lt h hb), if_pos h]
  · rw [if_neg (by rw [nI_ltI ha hb]; exact h), if_neg h]
theorem nxB_ok (c : CV) (le ne : Nat) (l : List Nat) : ∀ k, (nxB c le ne l k).1 ≤ k ∧ (nxB c le ne l k).2 ≤ l.length ∧ ((nxB c le ne l k).1 ≠ 0 → lwC c le ne (nxB c le ne l k).1 = true ∧ wsN c l (nxB c le ne l k).1 < l.length) := by
  intro k
  induction k with
  | zero => exact ⟨Nat.le_refl _, Nat.le_refl _, fun h => absurd rfl h⟩
  | succ k ih =>
    obtain ⟨h1, h2, h3⟩ := ih
    show (stN c le ne l k (nxB c le ne l k)).1 ≤ k + 1 ∧ (stN c le ne l k (nxB c le ne l k)).2 ≤ l.length ∧ ((stN c le ne l k (nxB c le ne l k)).1 ≠ 0 → lwC c le ne (stN c le ne l k (nxB c le ne l k)).1 = true ∧ wsN c l (stN c le ne l k (nxB c le ne l k)).1 < l.length)
    unfold stN
    by_cases e : lwC c le ne (k + 1) = true
    · rw [if_pos e]
      by_cases e2 : wsN c l (k + 1) < (nxB c le ne l k).2
      · rw [if_pos e2]
        exact ⟨Nat.le_refl _, by dsimp only; omega, fun _ => ⟨e, by dsimp only; omega⟩⟩
      · rw [if_neg e2]
        exact ⟨by omega, h2, h3⟩
    · rw [if_neg e]
      exact ⟨by omega, h2, h3⟩
theorem nxC_ok {c : CV} {le ne : Nat} {l : List Nat} (h : nxC c le ne l ≠ 0) : lwC c le ne (nxC c le ne l) = true ∧ 0 < l.countP (sndC c (nxC c le ne l)) ∧ l.countP (sndC c (nxC c le ne l)) < l.length := by
  obtain ⟨h1, h2⟩ := (nxB_ok c le ne l (2 ^ cN c - 1)).2.2 h
  refine ⟨h1, ?_⟩
  have h3 : wsN c l (nxC c le ne l) < l.length := h2
  unfold wsN mx2 at h3
  split at h3 <;> omega
theorem lwC_set {c : CV} {le ne s : Nat} (h : lwC c le ne s = true) : 0 < s ∧ s < 2 ^ cN c := by
  unfold lwC at h
  rw [Bool.and_eq_true, decide_eq_true_eq] at h
  exact h.1
theorem wsN_small {c : CV} {l : List Nat} (s : Nat) (h : l.length < 2) : l.length ≤ wsN c l s := by
  have := List.countP_le_length (p := sndC c s) (l := l)
  unfold wsN mx2
  split <;> omega
theorem nxB_small {c : CV} {le ne : Nat} {l : List Nat} (h : l.length < 2) : ∀ k, nxB c le ne l k = (0, l.length) := by
  intro k
  induction k with
  | zero => rfl
  | succ k ih =>
    show stN c le ne l k (nxB c le ne l k) = _
    rw [ih]
    unfold stN
    by_cases e : lwC c le ne (k + 1) = true
    · rw [if_pos e, if_neg (Nat.not_lt.mpr (wsN_small (k + 1) h))]
    · rw [if_neg e]
theorem nxC_small {c : CV} {le ne : Nat} {l : List Nat} (h : l.length < 2) : nxC c le ne l = 0 := by
  unfold nxC
  rw [nxB_small h]
theorem nN_0 : nN 0 = -1 := rfl
theorem nN_p {b : Nat} (h : b ≠ 0) : nN b = nI b := if_neg h
theorem nN_m1 {b : Nat} (hb : b < 2 ^ 31) : nN b = -1 ↔ b = 0 := by
  constructor
  · intro h
    by_cases e : b = 0
    · exact e
    · rw [nN_p e] at h
      exact absurd h (nI_nm1 hb)
  · rintro rfl; rfl
section N2
variable {c : CV} {σ : PH} {h : Nat} {L : List Nat}
theorem f2_best (ok : CVok c) (hQ : XQ c L σ h) {le ne : Nat} (h1 : gI σ (h + 15) 1 = nI le) (hle : le < 100) (h2 : gI σ (h + 15) 2 = nI ne) (hne : ne < 100) {lo hi : Int64} {P : Nat → Bool} (R : Rep lo hi (rp L P)) : Rt (f_X2_best σ h lo hi) (fun u => u.1 = nN (nxC c le ne (L.filter P)) ∧ XQ c L u.2 h ∧ Fr (WK h) σ u.2) := by
  have h8 := ok.1
  have h9 := p2_9 h8
  have hp1 := p2_1 (cN c)
  have h92 := hQ.2.2.2
  have el : (L.filter P).length = L.countP P := (List.countP_eq_length_filter).symm
  have hc : L.countP P ≤ 92 := Nat.le_trans (List.countP_le_length) h92
  unfold f_X2_best
  rw [bnd_d, f7_countIn R, rp_cnt h92, bnd_d, f0_all ok hQ.1]
  by_cases hs : 2 ≤ L.countP P
  · refine Rt.t (by rw [i_2]; exact nI_le hs (by omega)) ?_
    unfold j_X2_best_31
    generalize hA : 2 ^ cN c - 1 = A
    have fin : ∀ k, (nxB c le ne (L.filter P) k).2 ≤ 92 := fun k => by have := (nxB_ok c le ne (L.filter P) k).2.1; omega
    refine Rt.e (y := loopN (b_X2_best_36 h lo hi (nI (L.countP P)) (nI A)) FU (nI (nxB c le ne (L.filter P) 0).2, nN (nxB c le ne (L.filter P) 0).1, nI (0 + 1), σ)) (by rw [show (nxB c le ne (L.filter P) 0).2 = L.countP P from el]; rfl) ?_
    refine lp_acc (enc := fun (a : PH) (i : Nat) => ((nI (nxB c le ne (L.filter P) i).2, nN (nxB c le ne (L.filter P) i).1, nI (i + 1), a) : Int32 × Int32 × Int32 × PH)) A (fun a _ => XQ c L a h ∧ Fr (WK h) σ a) _ ?_ ?_ FU σ 0 (Nat.zero_le _) (FU_big (by omega)) ⟨hQ, Fr.rf⟩
    · rintro rec a i hi' ⟨hQa, hF⟩ hrec
      dsimp only [b_X2_best_36, bnd]
      have g1 : gI a (h + 15) 1 = nI le := by rw [hF.I (by unfold WK; omega)]; exact h1
      have g2 : gI a (h + 15) 2 = nI ne := by rw [hF.I (by unfold WK; omega)]; exact h2
      refine Rt.f (by rw [nI_ltI (by omega) (by omega)]; omega) ?_
      rw [f2_allows ok hQa.1 g1 hle g2 hne (by omega) (by omega), obd_s, nI_1]
      have es : nxB c le ne (L.filter P) (i + 1) = stN c le ne (L.filter P) i (nxB c le ne (L.filter P) i) := rfl
      have f92 := fin i
      cases hb : lwC c le ne (i + 1) with
      | false =>
        refine Rt.t rfl ?_
        have := hrec a ⟨hQa, hF⟩
        rw [es] at this
        unfold stN at this
        rw [hb, if_neg (by decide)] at this
        exact this
      | true =>
        refine Rt.f (by decide) (Rt.o (f7_wrongAmong ok hQa (by omega) (by omega) R) ?_)
        rintro ⟨v, σ2⟩ ⟨hv, hQ2, hF2⟩
        dsimp only at hv hQ2 hF2
        have ek : L.countP (fun w => P w && sndC c (i + 1) w) = (L.filter P).countP (sndC c (i + 1)) := by
          rw [List.countP_filter]
          apply List.countP_congr
          intro w _
          rw [Bool.and_comm]
        rw [ek] at hv
        subst hv
        dsimp only
        have hk := List.countP_le_length (p := sndC c (i + 1)) (l := L.filter P)
        rw [← el, pk_sub hk, mxI_nI (by omega) (by omega)]
        have ew : mx2 ((L.filter P).countP (sndC c (i + 1))) ((L.filter P).length - (L.filter P).countP (sndC c (i + 1))) = wsN c (L.filter P) (i + 1) := rfl
        have hw92 : wsN c (L.filter P) (i + 1) ≤ 92 := by unfold wsN mx2; split <;> omega
        rw [ew]
        have nx := hrec σ2 ⟨hQ2, hF.tr hF2⟩
        rw [es] at nx
        unfold stN at nx
        rw [hb, if_pos rfl] at nx
        by_cases e : wsN c (L.filter P) (i + 1) < (nxB c le ne (L.filter P) i).2
        · refine Rt.f (by rw [nI_leI (by omega) (by omega)]; omega) ?_
          rw [if_pos e] at nx
          exact nx
        · refine Rt.t (nI_le (by omega) (by omega)) ?_
          rw [if_neg e] at nx
          exact nx
    · rintro rec a ⟨hQa, hF⟩
      dsimp only [b_X2_best_36, bnd]
      refine Rt.t (nI_lt (by omega) (by omega)) (Rt.s ⟨?_, hQa, hF⟩)
      unfold nxC
      rw [hA]
  · refine Rt.f (by rw [i_2, nI_leI (by omega) (by omega)]; exact hs) ?_
    unfold j_X2_best_31
    have e1 : FU = 1048575 + 1 := rfl
    rw [e1]
    show Rt (b_X2_best_36 h lo hi (nI (L.countP P)) 0 (loopN (b_X2_best_36 h lo hi (nI (L.countP P)) 0) 1048575) (nI (L.countP P), -1, 1, σ)) _
    unfold b_X2_best_36
    refine Rt.t (show (0 : Int32) < 1 by decide) (Rt.s ⟨?_, hQ, Fr.rf⟩)
    rw [nxC_small (by rw [el]; omega)]; rfl
/-- is it known -/
def knC (hs : HS) (s y : Nat) : Bool := hs.any fun q => decide (q.1 = s ∧ q.2 = y)
def lrC (hs : HS) (s y : Nat) : HS := if knC hs s y = true ∨ 16 ≤ hs.length then hs else hs ++ [(s, y)]
theorem hs_any {hs : HS} {p : Nat × Nat → Bool} : hs.any p = false ↔ ∀ k, k < hs.length → p (hsD hs k) = false := by
  constructor
  · intro h k hk
    rw [List.any_eq_false] at h
    have := h _ (hsD_mem hk)
    simpa using this
  · intro h
    rw [List.any_eq_false]
    intro q hq
    obtain ⟨k, hk, rfl⟩ := List.mem_iff_getElem.mp hq
    have := h k hk
    have e : hsD hs k = hs[k] := by simp [hsD, List.getD, hk]
    rw [e] at this
    rw [this]; decide
theorem f2_isKnown {hs : HS} (hok : HSok (cN c) hs) (h8 : cN c ≤ 8) (h4 : gI σ h 4 = nI hs.length) (hH : ∀ k, k < hs.length → gI σ (h + 16) k = nI (2 * (hsD hs k).1 + (hsD hs k).2)) {s y : Nat} (hs' : s < 256) (hy : y < 2) : f_X2_isKnown σ h (nI s) (nI y) = some (oI (knC hs s y)) := by
  have h16 := hok.1
  have h9 := p2_9 h8
  unfold f_X2_isKnown
  apply Rt.q
  refine lp_acc (enc := fun (_ : Unit) (i : Nat) => nI i) hs.length (fun _ i => ∀ k, k < i → decide ((hsD hs k).1 = s ∧ (hsD hs k).2 = y) = false) _ ?_ ?_ FU () 0 (Nat.zero_le _) (FU_big (by omega)) (fun k hk => absurd hk (Nat.not_lt_zero k))
  · intro rec a i hi hJ hrec
    obtain ⟨q0, q1, q2⟩ := hok.2 _ (hsD_mem hi)
    dsimp only [b_X2_isKnown_2, bnd]
    rw [h4, nI_clamp (by omega), hH i hi, nI_1, i_2, pk_mul, nI_add]
    refine Rt.f (by rw [nI_leI (by omega) (by omega)]; omega) (Rt.c (inb_nI (by omega) (by decide)) ?_)
    by_cases e : (hsD hs i).1 = s ∧ (hsD hs i).2 = y
    · refine Rt.t (by rw [e.1, e.2]) (Rt.s ?_)
      have : knC hs s y = true := List.any_eq_true.mpr ⟨_, hsD_mem hi, decide_eq_true e⟩
      rw [this]; rfl
    · refine Rt.f (by rw [nI_eq (by omega) (by omega)]; omega) (hrec () (fun k hk => ?_))
      rcases Nat.lt_or_eq_of_le (Nat.le_of_lt_succ hk) with hlt | rfl
      · exact hJ k hlt
      · exact decide_eq_false e
  · intro rec a hJ
    dsimp only [b_X2_isKnown_2, bnd]
    rw [h4]
    refine Rt.t (nI_le (Nat.le_refl _) (by omega)) (Rt.s ?_)
    have : knC hs s y = false := hs_any.mpr hJ
    rw [this]; rfl
theorem f2_canSound (ok : CVok c) (hQ : XQ c L σ h) {s y : Nat} (hs0 : 0 < s) (hs : s < 2 ^ cN c) (hy : y < 2) {P : Nat → Bool} (R : Rep (gJ σ h 7) (gJ σ h 8) (rp L P)) : Rt (f_X2_canSound σ h (nI s) (nI y)) (fun u => u.1 = oI (decide (0 < ((L.filter P).filter (soC c s y)).length)) ∧ XQ c L u.2 h ∧ Fr (WK h) σ u.2) := by
  have h92 := hQ.2.2.2
  unfold f_X2_canSound
  refine Rt.f (nI_nlt0 (by omega)) (Rt.t (by rw [i_1]; exact nI_le (by omega) (by omega)) ?_)
  have cz : ∀ {lo hi : Int64}, Rep lo hi (rp L (fun w => P w && soC c s y w)) → ((lo = 0 ∧ hi = 0) ↔ ((L.filter P).filter (soC c s y)).length = 0) := fun R2 => by
    rw [R2.is0, ← List.countP_eq_length_filter, List.countP_filter, List.countP_eq_zero]
    constructor
    · intro hz w hw
      obtain ⟨i, hi, rfl⟩ := List.mem_iff_getElem.mp hw
      have := hz i (by omega)
      unfold rp at this
      have e : L.getD i 0 = L[i] := by simp [List.getD, hi]
      rw [decide_eq_true hi, Bool.true_and, e] at this
      dsimp only at this
      rw [Bool.and_comm] at this
      rw [this]; decide
    · intro hz t _
      unfold rp
      by_cases ht : t < L.length
      · have := hz _ (getD_mem ht)
        rw [Bool.and_comm] at this
        rw [decide_eq_true ht, Bool.true_and]
        simpa using this
      · rw [decide_eq_false ht]; rfl
  refine Rt.o (f7_lowBy ok hQ hs0 hs (gJ σ h 7)) ?_
  rintro ⟨lo', σ1⟩ ⟨⟨A, B, RA, e1⟩, hQ1, hF1⟩
  dsimp only at e1 hQ1 hF1
  have e8 : gJ σ1 h 8 = gJ σ h 8 := hF1.J (by unfold WK; omega)
  by_cases hz : lo' = 0
  · refine Rt.t ((lg_cmp_0 _).mpr hz) ?_
    dsimp only
    rw [e8]
    refine Rt.o (f7_highBy ok hQ1 hs0 hs (gJ σ h 8)) ?_
    rintro ⟨hi', σ2⟩ ⟨⟨A2, B2, RB, e2⟩, hQ2, hF2⟩
    dsimp only at e2 hQ2 hF2
    have R2 := by_rep hy R RA RB e1 e2
    by_cases hz2 : hi' = 0
    · refine Rt.t ((lg_cmp_0 _).mpr hz2) (Rt.s ⟨?_, hQ2, hF1.tr hF2⟩)
      rw [(cz R2).mp ⟨hz, hz2⟩]; rfl
    · refine Rt.f (fun z => hz2 ((lg_cmp_0 _).mp z)) (Rt.s ⟨?_, hQ2, hF1.tr hF2⟩)
      rw [decide_eq_true (Nat.pos_of_ne_zero (fun z => hz2 ((cz R2).mpr z).2))]; rfl
  · refine Rt.f (fun z => hz ((lg_cmp_0 _).mp z)) (Rt.s ⟨?_, hQ1, hF1⟩)
    have R2 := by_rep hy R RA RA e1 rfl
    rw [decide_eq_true (Nat.pos_of_ne_zero (fun z => hz ((cz R2).mpr z).1))]; rfl
theorem okH_app (c : CV) (hs : HS) (q : Nat × Nat) (w : Nat) : okH c (hs ++ [q]) w = (okH c hs w && soC c q.1 q.2 w) := by
  unfold okH
  rw [List.all_append]; simp
def WH (h : Nat) : Nat → Nat → Prop := fun r _ => h ≤ r ∧ r ≤ h + 16
theorem WK_WH (h r k : Nat) (z : WK h r k) : WH h r k := by unfold WK at z; unfold WH; omega
theorem HSok_snoc {n : Nat} {hs : HS} {s y : Nat} (h : HSok n hs) (hl : hs.length < 16) (h0 : 0 < s) (h1 : s < 2 ^ n) (hy : y < 2) : HSok n (hs ++ [(s, y)]) := by
  refine ⟨by rw [List.length_append]; exact hl, fun q hq => ?_⟩
  rw [List.mem_append, List.mem_singleton] at hq
  rcases hq with hq | rfl
  · exact h.2 q hq
  · exact ⟨h0, h1, hy⟩
theorem hsD_l {hs : HS} {q : Nat × Nat} {k : Nat} (h : k < hs.length) : hsD (hs ++ [q]) k = hsD hs k := by
  unfold hsD
  rw [List.getD_eq_getElem?_getD, List.getElem?_append_left h, ← List.getD_eq_getElem?_getD]
theorem hsD_r {hs : HS} {q : Nat × Nat} : hsD (hs ++ [q]) hs.length = q := by simp [hsD, List.getD]
theorem HV.lr {r : Nat → Nat} {hs : HS} (v : HV c r hs) {s y : Nat} (h0 : 0 < s) (h1 : s < 2 ^ cN c) (hy : y < 2) : HV c r (lrC hs s y) := by
  refine ⟨v.1, v.2.1, ?_⟩
  unfold lrC
  split
  · exact v.2.2
  · next hn => exact HSok_snoc v.2.2 (by omega) h0 h1 hy
theorem f2_learn {r : Nat → Nat} {hs : HS} {tr : Nat} {sd : Int32} (v : HV c r hs) (hX : XH c r hs tr sd σ h) {s y : Nat} (hs0 : 0 < s) (hs' : s < 2 ^ cN c) (hy : y < 2) : Rt (f_X2_learn σ h (nI s) (nI y)) (fun u => XH c r (lrC hs s y) tr sd u h ∧ Fr (WH h) σ u) := by
  obtain ⟨ok, hr, hok⟩ := v
  have h8 := ok.1
  have h9 := p2_9 h8
  have h16 := hok.1
  obtain ⟨hQ, hT, hTr, hR⟩ := hX
  unfold f_X2_learn
  rw [f2_isKnown hok h8 hT.2.1.1 hT.2.1.2 (by omega) hy, obd_s]
  have keep : lrC hs s y = hs → Rt (some σ) (fun u => XH c r (lrC hs s y) tr sd u h ∧ Fr (WH h) σ u) := fun e => Rt.s ⟨by rw [e]; exact ⟨hQ, hT, hTr, hR⟩, Fr.rf⟩
  cases hk : knC hs s y with
  | true => exact Rt.f (by decide) (keep (if_pos (Or.inl hk)))
  | false =>
    refine Rt.t rfl ?_
    dsimp only [bnd]
    unfold f_X2_hasRoom
    rw [hT.2.1.1]
    by_cases hl : 16 ≤ hs.length
    · rw [if_pos (show (16 : Int32) ≤ nI hs.length by rw [i_16]; exact nI_le hl (by omega))]
      exact Rt.t rfl (keep (if_pos (Or.inr hl)))
    · rw [if_neg (show ¬ (16 : Int32) ≤ nI hs.length by rw [i_16, nI_leI (by omega) (by omega)]; exact hl)]
      refine Rt.f (by decide) (Rt.c (inb_nI (by omega) (by decide)) ?_)
      have el : lrC hs s y = hs ++ [(s, y)] := if_neg (by rw [hk]; rintro (z | z); cases z; exact hl z)
      rw [el, nI_clamp (by omega), gI_put_ne (r := h + 16) (q := h) (Or.inl (by omega)), hT.2.1.1, nI_1, i_2, pk_mul, nI_add]
      have F0 : Fr (fun r k => (r = h + 16 ∧ k = hs.length) ∨ (r = h ∧ k = 4)) σ (putI (putI σ (h + 16) hs.length (nI (2 * s + y))) h 4 (nI (hs.length + 1))) := (Fr.pI (by omega)).tr (Fr.pI (by omega))
      have a4 : gI (putI (putI σ (h + 16) hs.length (nI (2 * s + y))) h 4 (nI (hs.length + 1))) h 4 = nI (hs.length + 1) := gI_put_eq
      have a16 : gI (putI (putI σ (h + 16) hs.length (nI (2 * s + y))) h 4 (nI (hs.length + 1))) (h + 16) hs.length = nI (2 * s + y) := by rw [gI_put_ne (Or.inl (by omega)), gI_put_eq]
      generalize putI (putI σ (h + 16) hs.length (nI (2 * s + y))) h 4 (nI (hs.length + 1)) = σ0 at *
      have hQ0 : XQ c (WL (cN c) (r 0)) σ0 h := hQ.fr F0 (fun r k z => by omega)
      have e7 : gJ σ0 h 7 = gJ σ h 7 := F0.J (by omega)
      refine Rt.o (f7_lowBy ok hQ0 hs0 hs' (gJ σ0 h 7)) ?_
      rintro ⟨lo', σ1⟩ ⟨⟨A, B, RA, e1⟩, hQ1, hF1⟩
      dsimp only at e1 hQ1 hF1
      dsimp only
      have F2 : Fr (fun r k => r = h ∧ k = 7) σ1 (putJ σ1 h 7 lo') := Fr.pJ ⟨rfl, rfl⟩
      have b7 : gJ (putJ σ1 h 7 lo') h 7 = lo' := gJ_put_eq
      have g2 : ∀ r k, gI (putJ σ1 h 7 lo') r k = gI σ1 r k := fun _ _ => rfl
      generalize putJ σ1 h 7 lo' = σ2 at *
      have hQ2 : XQ c (WL (cN c) (r 0)) σ2 h := hQ1.fr F2 (fun r k z => by omega)
      have e8 : gJ σ2 h 8 = gJ σ h 8 := by rw [F2.J (by omega), hF1.J (by unfold WK; omega), F0.J (by omega)]
      refine Rt.o (f7_highBy ok hQ2 hs0 hs' (gJ σ2 h 8)) ?_
      rintro ⟨hi', σ3⟩ ⟨⟨A2, B2, RB, e2⟩, hQ3, hF3⟩
      dsimp only at e2 hQ3 hF3
      dsimp only
      have F4 : Fr (fun r k => r = h ∧ k = 8) σ3 (putJ σ3 h 8 hi') := Fr.pJ ⟨rfl, rfl⟩
      have b8 : gJ (putJ σ3 h 8 hi') h 8 = hi' := gJ_put_eq
      have g4 : ∀ r k, gI (putJ σ3 h 8 hi') r k = gI σ3 r k := fun _ _ => rfl
      generalize putJ σ3 h 8 hi' = σ4 at *
      rw [e7] at e1
      rw [e8] at e2
      have R2 := by_rep hy hR RA RB e1 e2
      have E : ∀ r k, ¬ WK h r k → gI σ4 r k = gI σ0 r k := fun r k hn => by rw [g4, hF3.I hn, g2, hF1.I hn]
      refine Rt.s ⟨⟨hQ3.fr F4 (fun r k z => by omega), ⟨fun k hk => ?_, ⟨?_, fun k hk => ?_⟩, ?_⟩, ?_, ?_⟩, ?_⟩
      · rw [E _ _ (by unfold WK; omega), F0.I (by omega)]; exact hT.1 k hk
      · rw [E _ _ (by unfold WK; omega), a4, List.length_append]; rfl
      · rw [List.length_append, List.length_singleton] at hk
        rw [E _ _ (by unfold WK; omega)]
        rcases Nat.lt_or_eq_of_le (Nat.le_of_lt_succ hk) with hlt | rfl
        · rw [F0.I (by omega), hsD_l hlt]; exact hT.2.1.2 k hlt
        · rw [a16, hsD_r]
      · rw [E _ _ (by unfold WK; omega), F0.I (by omega)]; exact hT.2.2
      · rw [E _ _ (by unfold WK; omega), F0.I (by omega)]; exact hTr
      · rw [b8, F4.J (by omega), hF3.J (by unfold WK; omega), b7]
        exact R2.cong (fun t _ => by unfold rp; rw [okH_app])
      · exact ((((F0.mono (fun r k z => by unfold WH; omega)).tr (hF1.mono (WK_WH h))).tr (F2.mono (fun r k z => by unfold WH; omega))).tr (hF3.mono (WK_WH h))).tr (F4.mono (fun r k z => by unfold WH; omega))
end N2
